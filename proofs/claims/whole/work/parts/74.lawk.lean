/-! THE LAW'S WORLD, and calls on one side of it (written by wip/whole/genlaw.py; the law's own words are the kit's skeleton) -/
def R_law : String := "DigitClaimsLaw"
def lw_P (b : Addr) (xs : List Int32) (args : Array Value) (s : State) : Prop := args = #[.ref b] ∧ s.IntsAt b xs ∧ xs.length ≤ 2560 ∧ (Jvm.Cond.and given_1 narrow_1).before args s = true
def lw_Q (_ : Array Value) (s : State) (o : Outcome) (t : State) : Prop := o = .returned (some (.int 1)) ∧ Framed s o t [] 600000 room_1.slots
def lw_Z (below : List Frame) (a : Array Value) (s : State) : State → Prop := fun t => ∃ o, t.status = .running ∧ Ended t below o ∧ lw_Q a s o t
/-- the law's own end, with 1 on the stack, nothing written that was there before, its room as the claim has it -/
theorem lw_ret {p : Program} {l : Launch} {e : Env} {s : State} {m : MethodId} {below : List Frame} {meth : Method} {c : Code} {b : Nat} (hx : p.tables.exec = Jvm.exec) (hb : c.code = code) (hr : meth.sig.returnType = ret) (hlocks : meth.locks = false) {pc : Nat} {H : Heap} {ls : Array Slot} (hdg : decode code pc = .ok (.ireturn, 1)) : W p l e room_1 s m #[Value.ref b] below meth c H [] 600000 room_1.slots (lw_Z below #[Value.ref b] s) (F0 m pc ls [.int 1]) := by
  intro T hT X
  obtain ⟨fs, hret, hrun, hended, hW, hframe⟩ := X.leave (v := some (.int 1)) (hlocks := hlocks) (fun h => by rw [hr] at h; cases h)
  have hmeth' : T.vm.method? m = some meth := X.method'
  refine ⟨T.setFrames fs, ?_, .returned (some (.int 1)), hrun, hended, rfl, ⟨_, rfl⟩, hW, hframe⟩
  jvm_step X.here [X.here.top, hx, hb, hdg, hmeth', hr, ret, narrow_b1]
  (try refine ⟨rfl, ?_⟩); (try refine ⟨rfl, ?_⟩)
  first | (intro acts; rw [hret _ acts rfl rfl rfl]) | rw [hret _ _ rfl rfl rfl]
  exact Steps.refl _
/-- what holds at the law's entry: the machine, the code, the tables' words (any of lw_tbl by 'hts w (by decide +kernel)'), the script of L ints xs at the cell b, what the Statement gives of the start (any of its parts by flat_of_before) -/
def lw_At (p : Program) (s : State) (m : MethodId) (meth : Method) (c : Code) (b L : Nat) (xs : Nat → Int32) : Prop :=
  p.tables.exec = Jvm.exec ∧ c.code = code ∧ meth.sig.returnType = ret ∧ c.maxLocals = 4 ∧ s.vm.findClass R_law = some m.cls ∧ (∀ w ∈ lw_tbl, w.before #[Value.ref b] s = true) ∧ va_X b L xs s s.heap ∧ b < s.heap.size ∧ meth.locks = false ∧ (Jvm.Cond.and given_1 narrow_1).before #[Value.ref b] s = true
def lw_gr (a b : Nat) : Nat := if b = a then 0 else 12 * b
theorem lw_gr_ok (a b : Nat) : b = a ∨ 12 * b ≤ lw_gr a b := by
  unfold lw_gr
  by_cases h : b = a
  · exact Or.inl h
  · rw [if_neg h]; exact Or.inr (Nat.le_refl _)
theorem lw_gr_le {a b : Nat} (h : b ≤ 3600) : lw_gr a b ≤ 43200 := by
  unfold lw_gr
  split <;> omega
theorem lw_gr_self (a : Nat) : lw_gr a a = 0 := if_pos rfl
def lw_sl (rm : Nat) : Nat := 70000 + 24 * rm + (if rm = 3600 then 43200 else 0)
theorem lw_sl_le {rm : Nat} (h : rm ≤ 3600) : lw_sl rm + 43200 ≤ room_1.slots := by
  have hR : 7000000 ≤ room_1.slots := Nat.le_of_ble_eq_true rfl
  unfold lw_sl
  split <;> omega
theorem lw_sl_gr {a b : Nat} (hb : b ≤ 3600) (h : rl_gr a b) : lw_sl a + lw_gr a b ≤ lw_sl b := by
  unfold lw_sl lw_gr
  rcases h with h | ⟨h, h1⟩ | ⟨h, h1⟩
  · subst h
    simp
  · by_cases e : b = a
    · subst e
      simp
    · rw [if_neg e]
      have e2 : ¬ a = 3600 := by omega
      rw [if_neg e2]
      split <;> omega
  · subst h1
    have e2 : ¬ a = 3600 := by omega
    have e3 : ¬ 3600 = a := by omega
    rw [if_neg e2, if_neg e3]
    simp
    omega
def LI (G : GG) (A : Nat → Prop) (z_h m_h d_rm : Nat) (H : Heap) : Prop := ∃ (z_q : Nat) (z_fh : Nat → Nat) (z_hr : Nat) (z_hl : Nat) (z_hk : Nat) (z_he : Nat) (z_ht : Nat) (r_q : Nat → Nat) (l_hd : Nat) (k_hp : Nat) (e_hs : Nat) (e_q : Nat → Nat) (s_q : Nat → Nat) (t_q : Nat → Nat) (d_q : Nat → Nat) (d_a : Nat → Nat) (p_q : Nat → Nat) (f_q : Nat → Nat → Nat) (m_q : Nat → Nat) (r_goes : AI) (r_told : AI) (e_steps : AL) (e_yes : Int64) (s_sets : AL) (s_slots : AI) (s_count : Int32) (t_ways : AL) (t_freshWays : AL) (t_leastTo : AL) (t_waiting : AI) (d_stateOf : AI) (d_kindOf : AI) (d_order : AI) (d_rooms : Int32) (d_count : Int32) (d_next : AI) (d_says : AI) (d_note : AI) (d_sort : AI) (d_freshSort : AI) (p_table : AI) (p_turn : Int32) (p_count : Int32) (f_next : AF) (f_says : AF) (f_size : AI) (m_onBy : AI) (m_toldBy : AI) (m_kindsOf : AI) (m_nextOf : AI) (m_holdsAt : AI) (m_made : Int32) (m_standsFor : AI) (m_madeNext : AI) (m_madeHolds : AI) (m_stateFor : AI) (m_joined : AI) (m_joinedNow : AI) (m_firstIn : AI) (m_orderOf : AI) (m_classAt : AI) (m_sets : AL) (m_waysTo : AL) (m_waysThen : AL) (m_queue : AI) (m_leastTo : AL), rl_row r_goes r_told m_onBy m_toldBy ∧ rl_cls f_next f_says f_size m_kindsOf m_nextOf m_holdsAt ∧ rl_dr d_rm d_rooms ∧ pn_ok p_table p_turn ∧ va_P G.1 vwCl (((WX G z_h z_q z_fh z_hr z_hl z_hk z_he z_ht r_q l_hd k_hp e_hs e_q s_q t_q d_q d_a p_q r_goes r_told e_steps e_yes s_sets s_slots s_count t_ways t_freshWays t_leastTo t_waiting d_rm d_stateOf d_kindOf d_order d_rooms d_count d_next d_says d_note d_sort d_freshSort p_table p_turn p_count) ++ (WF G z_fh f_q f_next f_says f_size)) ++ (WM G m_h m_q m_onBy m_toldBy m_kindsOf m_nextOf m_holdsAt m_made m_standsFor m_madeNext m_madeHolds m_stateFor m_joined m_joinedNow m_firstIn m_orderOf m_classAt m_sets m_waysTo m_waysThen m_queue m_leastTo)) H ∧ va_D A (((WX G z_h z_q z_fh z_hr z_hl z_hk z_he z_ht r_q l_hd k_hp e_hs e_q s_q t_q d_q d_a p_q r_goes r_told e_steps e_yes s_sets s_slots s_count t_ways t_freshWays t_leastTo t_waiting d_rm d_stateOf d_kindOf d_order d_rooms d_count d_next d_says d_note d_sort d_freshSort p_table p_turn p_count) ++ (WF G z_fh f_q f_next f_says f_size)) ++ (WM G m_h m_q m_onBy m_toldBy m_kindsOf m_nextOf m_holdsAt m_made m_standsFor m_madeNext m_madeHolds m_stateFor m_joined m_joinedNow m_firstIn m_orderOf m_classAt m_sets m_waysTo m_waysThen m_queue m_leastTo))
theorem va_D.right {A : Nat → Prop} {a b : va_W} (h : va_D A (a ++ b)) : va_D A b := (h.perm List.perm_append_comm).left
theorem range_get (w : va_W) : (List.range w.length).map (fun i => w[i]?) = w.map some := by
  apply List.ext_getElem?
  intro i
  rw [List.getElem?_map, List.getElem?_map]
  by_cases h : i < w.length
  · rw [List.getElem?_range h, List.getElem?_eq_getElem h]
    simp
  · rw [List.getElem?_eq_none (by rw [List.length_range]; omega), List.getElem?_eq_none (by omega)]
    rfl
section OURSIDES
variable {p : Program} {l : Launch} {e : Env} {R : Room} {s : State} {m : MethodId} {args : Array Value} {below : List Frame} {meth : Method} {c : Code} {H : Heap} {locs : List Loc} {cells slots : Nat} {Q : State → Prop}
variable {pc : Nat} {ls : Array Slot} {rest st0 : List Value} {a : Array Value} {A : Nat → Prop} {G : GG}
variable {mc ms : Nat} {wc wr : va_W} {w1 : (Nat → Nat) → va_W}
theorem side_F (hD : va_D A (wc ++ wr)) (hS : va_S A s.heap H locs) (hA : ∀ q : Nat, s.heap.size ≤ q → A q) : ∀ q, va_A wc H.size q → A q := fun q h => by
  rcases h with ⟨k, e, h⟩ | h
  · exact hD.left.2 k (q, e) h
  · exact hA q (Nat.le_trans hS.1 h)
theorem side_J {H1 : Heap} {w2 : va_W} (hP : va_P G.1 vwCl (wc ++ wr) H) (hD : va_D A (wc ++ wr)) (hk : ∀ q : Nat, q < H.size → ¬ va_A wc H.size q → H1[q]? = H[q]?) (hF : ∀ q, va_A wc H.size q → A q) (hP1 : va_P G.1 vwCl w2 H1) (hD1 : va_D (va_A wc H.size) w2) : va_P G.1 vwCl (w2 ++ wr) H1 ∧ va_D A (w2 ++ wr) :=
  va_joinQ (X := wc) (cx := wc) (wr := []) (w1 := w2) (pl := wr) hP hD (List.range wc.length) [] (range_get wc) rfl rfl (fun i h => by cases h) hk hF hP1 hD1
theorem k_ciL {r : Int32} (hr : va_Run p l e R s m args below meth c H locs cells slots mc ms (F0 m pc ls st0) rest (va_Qi (fun x (_ : Nat → Nat) => x = r) (postW G wc H.size w1) (va_A wc H.size) a) (va_A wc H.size))
    (hP : va_P G.1 vwCl (wc ++ wr) H) (hD : va_D A (wc ++ wr)) (hS : va_S A s.heap H locs) (hA : ∀ q : Nat, s.heap.size ≤ q → A q)
    (kk : ∀ (u : Nat → Nat) (H1 : Heap) (locs1 : List Loc), va_P G.1 vwCl (w1 u ++ wr) H1 → va_D A (w1 u ++ wr) → va_S A s.heap H1 locs1 → W p l e R s m args below meth c H1 locs1 (cells + mc) (slots + ms) Q (F0 m (pc + 3) ls (.int r :: rest))) : W p l e R s m args below meth c H locs cells slots Q (F0 m pc ls st0) := by
  have hF := side_F hD hS hA
  refine va_calli hr hS (fun q _ h => hF q h) hF (fun r1 u t H1 locs1 ht _ hp hB hz hk hS1 => ?_)
  subst hp
  obtain ⟨hP1, hD1⟩ := hB
  rw [ht] at hP1
  obtain ⟨hP2, hD2⟩ := side_J hP hD hk hF hP1 hD1
  exact kk u H1 locs1 hP2 hD2 hS1
theorem k_clL {r : Int64} (hr : va_Run p l e R s m args below meth c H locs cells slots mc ms (F0 m pc ls st0) rest (va_Ql (fun x (_ : Nat → Nat) => x = r) (postW G wc H.size w1) (va_A wc H.size) a) (va_A wc H.size))
    (hP : va_P G.1 vwCl (wc ++ wr) H) (hD : va_D A (wc ++ wr)) (hS : va_S A s.heap H locs) (hA : ∀ q : Nat, s.heap.size ≤ q → A q)
    (kk : ∀ (u : Nat → Nat) (H1 : Heap) (locs1 : List Loc), va_P G.1 vwCl (w1 u ++ wr) H1 → va_D A (w1 u ++ wr) → va_S A s.heap H1 locs1 → W p l e R s m args below meth c H1 locs1 (cells + mc) (slots + ms) Q (F0 m (pc + 3) ls (.long r :: rest))) : W p l e R s m args below meth c H locs cells slots Q (F0 m pc ls st0) := by
  have hF := side_F hD hS hA
  refine va_calll hr hS (fun q _ h => hF q h) hF (fun r1 u t H1 locs1 ht _ hp hB hz hk hS1 => ?_)
  subst hp
  obtain ⟨hP1, hD1⟩ := hB
  rw [ht] at hP1
  obtain ⟨hP2, hD2⟩ := side_J hP hD hk hF hP1 hD1
  exact kk u H1 locs1 hP2 hD2 hS1
theorem k_cvL (hr : va_Run p l e R s m args below meth c H locs cells slots mc ms (F0 m pc ls st0) rest (va_Qv (fun (_ : Nat → Nat) => True) (postW G wc H.size w1) (va_A wc H.size) a) (va_A wc H.size))
    (hP : va_P G.1 vwCl (wc ++ wr) H) (hD : va_D A (wc ++ wr)) (hS : va_S A s.heap H locs) (hA : ∀ q : Nat, s.heap.size ≤ q → A q)
    (kk : ∀ (u : Nat → Nat) (H1 : Heap) (locs1 : List Loc), va_P G.1 vwCl (w1 u ++ wr) H1 → va_D A (w1 u ++ wr) → va_S A s.heap H1 locs1 → W p l e R s m args below meth c H1 locs1 (cells + mc) (slots + ms) Q (F0 m (pc + 3) ls rest)) : W p l e R s m args below meth c H locs cells slots Q (F0 m pc ls st0) := by
  have hF := side_F hD hS hA
  refine va_callv hr hS (fun q _ h => hF q h) hF (fun u t H1 locs1 ht _ _ hB hz hk hS1 => ?_)
  obtain ⟨hP1, hD1⟩ := hB
  rw [ht] at hP1
  obtain ⟨hP2, hD2⟩ := side_J hP hD hk hF hP1 hD1
  exact kk u H1 locs1 hP2 hD2 hS1
theorem k_ciR {r : Int32} (hr : va_Run p l e R s m args below meth c H locs cells slots mc ms (F0 m pc ls st0) rest (va_Qi (fun x (_ : Nat → Nat) => x = r) (postW G wc H.size w1) (va_A wc H.size) a) (va_A wc H.size))
    (hP : va_P G.1 vwCl (wr ++ wc) H) (hD : va_D A (wr ++ wc)) (hS : va_S A s.heap H locs) (hA : ∀ q : Nat, s.heap.size ≤ q → A q)
    (kk : ∀ (u : Nat → Nat) (H1 : Heap) (locs1 : List Loc), va_P G.1 vwCl (wr ++ w1 u) H1 → va_D A (wr ++ w1 u) → va_S A s.heap H1 locs1 → W p l e R s m args below meth c H1 locs1 (cells + mc) (slots + ms) Q (F0 m (pc + 3) ls (.int r :: rest))) : W p l e R s m args below meth c H locs cells slots Q (F0 m pc ls st0) :=
  k_ciL hr (hP.perm List.perm_append_comm) (hD.perm List.perm_append_comm) hS hA (fun u H1 locs1 hP1 hD1 hS1 => kk u H1 locs1 (hP1.perm List.perm_append_comm) (hD1.perm List.perm_append_comm) hS1)
theorem k_clR {r : Int64} (hr : va_Run p l e R s m args below meth c H locs cells slots mc ms (F0 m pc ls st0) rest (va_Ql (fun x (_ : Nat → Nat) => x = r) (postW G wc H.size w1) (va_A wc H.size) a) (va_A wc H.size))
    (hP : va_P G.1 vwCl (wr ++ wc) H) (hD : va_D A (wr ++ wc)) (hS : va_S A s.heap H locs) (hA : ∀ q : Nat, s.heap.size ≤ q → A q)
    (kk : ∀ (u : Nat → Nat) (H1 : Heap) (locs1 : List Loc), va_P G.1 vwCl (wr ++ w1 u) H1 → va_D A (wr ++ w1 u) → va_S A s.heap H1 locs1 → W p l e R s m args below meth c H1 locs1 (cells + mc) (slots + ms) Q (F0 m (pc + 3) ls (.long r :: rest))) : W p l e R s m args below meth c H locs cells slots Q (F0 m pc ls st0) :=
  k_clL hr (hP.perm List.perm_append_comm) (hD.perm List.perm_append_comm) hS hA (fun u H1 locs1 hP1 hD1 hS1 => kk u H1 locs1 (hP1.perm List.perm_append_comm) (hD1.perm List.perm_append_comm) hS1)
theorem k_cvR (hr : va_Run p l e R s m args below meth c H locs cells slots mc ms (F0 m pc ls st0) rest (va_Qv (fun (_ : Nat → Nat) => True) (postW G wc H.size w1) (va_A wc H.size) a) (va_A wc H.size))
    (hP : va_P G.1 vwCl (wr ++ wc) H) (hD : va_D A (wr ++ wc)) (hS : va_S A s.heap H locs) (hA : ∀ q : Nat, s.heap.size ≤ q → A q)
    (kk : ∀ (u : Nat → Nat) (H1 : Heap) (locs1 : List Loc), va_P G.1 vwCl (wr ++ w1 u) H1 → va_D A (wr ++ w1 u) → va_S A s.heap H1 locs1 → W p l e R s m args below meth c H1 locs1 (cells + mc) (slots + ms) Q (F0 m (pc + 3) ls rest)) : W p l e R s m args below meth c H locs cells slots Q (F0 m pc ls st0) :=
  k_cvL hr (hP.perm List.perm_append_comm) (hD.perm List.perm_append_comm) hS hA (fun u H1 locs1 hP1 hD1 hS1 => kk u H1 locs1 (hP1.perm List.perm_append_comm) (hD1.perm List.perm_append_comm) hS1)
end OURSIDES
theorem lw_cmp_self (x : Int64) : lg_cmp x x = 0 := by
  unfold lg_cmp
  rw [if_neg (by simp), if_pos rfl]
/-! what the tables give: the classes, the arrays' classes, the nest's links -/
theorem kn_arr {args : Array Value} {s : State} {ty : FieldType} (h : (Cond.arrayClass ty).before args s = true) (hra : ∀ cA : ClassId, s.vm.findClass ("[" ++ ty.toString) = some cA → va_RA s cA ty) : ∃ cA : ClassId, ArrOfT s cA ty ∧ va_RA s cA ty := by
  obtain ⟨cA, kA, comp, h1, h2, h3⟩ := Cond.arrayClass_spec h
  exact ⟨cA, fun n z => ⟨fun k h => (by cases h), kA, h2, comp, h3⟩, hra cA h1⟩
theorem kn_over {C : String} {s : State} (h : va_AO C s) : ∃ cA : ClassId, ArrOfT s cA (.object C) ∧ va_RA s cA (.object C) := by
  obtain ⟨comp, c, k, h1, h2, h3, h4, h5⟩ := Cond.arrayOver_spec h
  exact ⟨c, fun n z => ⟨fun k h => (by cases h), k, h3, comp, h4⟩, k, comp, h3, h4, h1, h5⟩
set_option maxHeartbeats 4000000 in
set_option maxRecDepth 100000 in
theorem kn_make {b : Nat} {s : State} (hts : ∀ w ∈ lw_tbl, w.before #[Value.ref b] s = true) : ∃ G : GG, KN G s := by
  obtain ⟨c0, i0, k0⟩ := u_known (C := RX0) (T := TX0) (N := 3) (n := 3) hts inX0 (hts (.instantiable RX0 3) (by decide +kernel))
  obtain ⟨c1, i1, k1⟩ := u_known (C := RX1) (T := TX1) (N := 11) (n := 11) hts inX1 (hts (.instantiable RX1 11) (by decide +kernel))
  obtain ⟨c2, i2, k2⟩ := u_known (C := RX2) (T := TX2) (N := 2) (n := 2) hts inX2 (hts (.instantiable RX2 2) (by decide +kernel))
  obtain ⟨c3, i3, k3⟩ := u_known (C := RX3) (T := TX3) (N := 3) (n := 3) hts inX3 (hts (.instantiable RX3 3) (by decide +kernel))
  obtain ⟨c4, i4, k4⟩ := u_known (C := RX4) (T := TX4) (N := 1) (n := 1) hts inX4 (hts (.instantiable RX4 1) (by decide +kernel))
  obtain ⟨c5, i5, k5⟩ := u_known (C := RX5) (T := TX5) (N := 2) (n := 2) hts inX5 (hts (.instantiable RX5 2) (by decide +kernel))
  obtain ⟨c6, i6, k6⟩ := u_known (C := RX6) (T := TX6) (N := 4) (n := 4) hts inX6 (hts (.instantiable RX6 4) (by decide +kernel))
  obtain ⟨c7, i7, k7⟩ := u_known (C := RX7) (T := TX7) (N := 3) (n := 3) hts inX7 (hts (.instantiable RX7 3) (by decide +kernel))
  obtain ⟨c8, i8, k8⟩ := u_known (C := RX8) (T := TX8) (N := 4) (n := 4) hts inX8 (hts (.instantiable RX8 4) (by decide +kernel))
  obtain ⟨c9, i9, k9⟩ := u_known (C := RX9) (T := TX9) (N := 7) (n := 7) hts inX9 (hts (.instantiable RX9 7) (by decide +kernel))
  obtain ⟨c10, i10, k10⟩ := u_known (C := RX10) (T := TX10) (N := 20) (n := 20) hts inX10 (hts (.instantiable RX10 20) (by decide +kernel))
  obtain ⟨a0, b0⟩ := kn_arr (hts (.arrayClass .int) (by decide +kernel)) (fun _ h => h)
  obtain ⟨a1, b1⟩ := kn_arr (hts (.arrayClass .boolean) (by decide +kernel)) (fun _ h => h)
  obtain ⟨a2, b2⟩ := kn_arr (hts (.arrayClass .long) (by decide +kernel)) (fun _ h => h)
  obtain ⟨a3, b3⟩ := kn_over (C := RX0) (va_AO.of (hts (.arrayOver (.object RX0)) (by decide +kernel)))
  refine ⟨((fun k => ([c0, c1, c2, c3, c4, c5, c6, c7, c8, c9, c10] : List ClassId).getD k c0, fun k => ([i0, i1, i2, i3, i4, i5, i6, i7, i8, i9, i10] : List (Nat → Nat)).getD k i0), fun k => ([a0, a1, a2, a3] : List ClassId).getD k a0), ⟨?_, ?_⟩, ?_⟩
  · intro k q hq
    match k, hq with
    | 0, hq => cases hq; exact k0
    | 1, hq => cases hq; exact k1
    | 2, hq => cases hq; exact k2
    | 3, hq => cases hq; exact k3
    | 4, hq => cases hq; exact k4
    | 5, hq => cases hq; exact k5
    | 6, hq => cases hq; exact k6
    | 7, hq => cases hq; exact k7
    | 8, hq => cases hq; exact k8
    | 9, hq => cases hq; exact k9
    | 10, hq => cases hq; exact k10
    | k + 11, hq => exact absurd hq (by simp [vwCl])
  · intro k q hq
    match k, hq with
    | 0, hq => cases hq; exact b0
    | 1, hq => cases hq; exact b1
    | 2, hq => cases hq; exact b2
    | 3, hq => cases hq; exact b3
    | k + 4, hq => exact absurd hq (by simp [tyG])
  · intro w hw
    have hin : ∀ w ∈ nestW, w ∈ lw_tbl := by decide +kernel
    have h1 := hts w (hin w hw)
    obtain ⟨b1, i, x, hh, rfl⟩ := nestW_form w hw
    exact va_Nw.of rfl h1
