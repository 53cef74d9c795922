theorem lw_step {L i : Nat} {x3 : Int32} (hL : L ≤ 2560) (e3 : x3 = nI i) (hi : i ≤ L) (h : ¬ Int32.ofNat L - 5 < x3) : i + 5 ≤ L := by
  have h1 : ¬ (Int32.ofNat L - 5).toInt < x3.toInt := fun q => h (Int32.lt_iff_toInt_lt.mpr q)
  have e1 : x3.toInt = (i : Int) := by rw [e3]; exact nI_toInt (by omega)
  have e2 : (Int32.ofNat L).toInt = (L : Int) := nI_toInt (n := L) (by omega)
  have e5 : (5 : Int32).toInt = 5 := by decide
  have e4 : (Int32.ofNat L - 5).toInt = (L : Int) - 5 := by
    rw [Int32.toInt_sub, e2, e5]
    exact Int.bmod_eq_of_le (by omega) (by omega)
  omega
theorem lw_in {L i k : Nat} {x3 : Int32} (hL : L ≤ 2560) (e3 : x3 = nI i) (h : i + k < L) : vp_in (x3 + nI k) L := by
  rw [e3, nI_add]
  exact vp_in_nI h (by omega)
theorem lw_init_row : rl_row (fun _ => (0 : Int32)) (fun _ => (0 : Int32)) (fun _ => (0 : Int32)) (fun _ => (0 : Int32)) := ⟨fun _ _ => ⟨rfl, 0, by omega, nI_0.symm⟩, fun _ _ => ⟨rfl, 0, by omega, nI_0.symm⟩, nI_0.symm⟩
theorem lw_init_cls : rl_cls (fun _ _ => (0 : Int32)) (fun _ _ => (0 : Int32)) (fun _ => (0 : Int32)) (fun _ => (0 : Int32)) (fun _ => (0 : Int32)) (fun _ => (0 : Int32)) := fun _ _ => ⟨0, fun _ _ => 0, fun _ => false, nI_0.symm, nI_0.symm, by omega, fun h => absurd h (by omega)⟩
theorem lw_init_dr : rl_dr 32 (32 : Int32) := ⟨by decide, by omega, by omega⟩
theorem lw_init_pn : pn_ok (fun _ => (0 : Int32)) (1 : Int32) := ⟨1, by decide, by omega, by omega, fun _ _ => ⟨0, nI_0.symm, by omega, by omega⟩⟩
set_option maxHeartbeats 8000000 in
set_option maxRecDepth 100000 in
theorem law_loop {p : Program} {l : Launch} {e : Env} {s : State} {m : MethodId} {below : List Frame} {meth : Method} {c : Code} {G : GG} {b L : Nat} {xs : Nat → Int32} (hL : L ≤ 2560) (C0 : lw_At p s m meth c b L xs) (hK : KN G s) :
    ∀ (n i : Nat) (x3 : Int32), i ≤ L → L + 1 ≤ i + n → x3 = nI i → ∀ (z_h m_h d_rm : Nat) (H : Heap) (locs : List Loc), d_rm ≤ 3600 → LI G (fun q : Nat => s.heap.size ≤ q) z_h m_h d_rm H → va_S (fun q : Nat => s.heap.size ≤ q) s.heap H locs → ∀ (ls : Array Slot), lv_has ls 4 [(0, .ref b), (1, .ref z_h), (2, .ref m_h), (3, .int x3)] → W p l e room_1 s m #[Value.ref b] below meth c H locs (100 + 2 * i) (lw_sl d_rm) (lw_Z below #[Value.ref b] s) (F0 m 18 ls []) := by
  obtain ⟨hx, hb, hr, hml, hown, hts0, hX, hbl, hlocks, hgv⟩ := id C0
  have hA : ∀ q : Nat, s.heap.size ≤ q → (fun q : Nat => s.heap.size ≤ q) q := fun _ h => h
  have hbA : ¬ (fun q : Nat => s.heap.size ≤ q) b := Nat.not_le.mpr hbl
  intro n
  induction n with
  | zero =>
    intro i x3 h1 h2
    exact absurd h2 (by omega)
  | succ n ih =>
    intro i x3 hi hin e3 z_h m_h d_rm H locs hrm hI hS ls hl
    have hsl := lw_sl_le hrm
    refine lv_iload_n hx hb dL_law_18 rfl (lv_at hl 3 rfl) ?_
    refine lv_aload_n hx hb dL_law_19 rfl (lv_at hl 0 rfl) ?_
    refine va_slen hx hb hX hbl hbA hS dL_law_20 ?_
    refine lv_iconst (v := 5) hx hb dL_law_21 (by decide) ?_
    refine lv_isub hx hb dL_law_22 ?_
    refine lv_icmp_gt (tgt := 1016) hx hb dL_law_23 (by decide) (fun c1 => ?_) (fun c1 => ?_)
    · refine lv_iconst (v := 1) hx hb dL_law_1016 (by decide) ?_
      refine va_forget (fun q hq => hS.2.2 q hq) ?_
      refine W.widen (k := 600000) (n := room_1.slots) (by omega) (by omega) ?_
      exact lw_ret hx hb hr hlocks dL_law_1017
    · have hst : i + 5 ≤ L := lw_step hL e3 hi c1
      have h0 : vp_in x3 L := by rw [e3]; exact vp_in_nI (by omega) (by omega)
      have h1 : vp_in (x3 + 1) L := lw_in (k := 1) hL e3 (by omega)
      have h2 : vp_in (x3 + 2) L := lw_in (k := 2) hL e3 (by omega)
      have h3 : vp_in (x3 + 3) L := lw_in (k := 3) hL e3 (by omega)
      have h4 : vp_in (x3 + 4) L := lw_in (k := 4) hL e3 (by omega)
      have hcc : 100 + 2 * i + 10 ≤ 600000 := by omega
      have kk : ∀ (rm1 : Nat) (H : Heap) (locs : List Loc), rl_gr d_rm rm1 → LI G (fun q : Nat => s.heap.size ≤ q) z_h m_h rm1 H → va_S (fun q : Nat => s.heap.size ≤ q) s.heap H locs → W p l e room_1 s m #[Value.ref b] below meth c H locs (100 + 2 * i + 10) (lw_sl d_rm + lw_gr d_rm rm1) (lw_Z below #[Value.ref b] s) (F0 m 1010 ls []) := by
        intro rm1 H locs hgr hI hS
        have hrm1 : rm1 ≤ 3600 := by
          rcases hgr with h | ⟨_, h⟩ | ⟨_, h⟩ <;> omega
        refine W.widen (k := 100 + 2 * (i + 5)) (n := lw_sl rm1) (by omega) (lw_sl_gr hrm1 hgr) ?_
        refine lv_iinc (v := x3 + 5) (lv' := [(3, .int (x3 + 5)), (0, .ref b), (1, .ref z_h), (2, .ref m_h)]) hx hb dL_law_1010 hl (k := 3) rfl rfl (by decide) rfl (fun ls hl => ?_)
        refine lv_goto (tgt := 18) hx hb dL_law_1013 (by decide) ?_
        exact ih (i + 5) (x3 + 5) hst (by omega) (by rw [e3]; exact nI_add i 5) z_h m_h rm1 H locs hrm1 hI hS ls (lv_sub hl [1, 2, 3, 0] rfl)
      refine lv_aload_n hx hb dL_law_26 rfl (lv_at hl 0 rfl) ?_
      refine lv_iload_n hx hb dL_law_27 rfl (lv_at hl 3 rfl) ?_
      refine va_sld hx hb hX hbl hbA hS h0 dL_law_28 ?_
      refine lv_bipush (v := 31) hx hb dL_law_29 (by decide) ?_
      refine lv_iand hx hb dL_law_31 ?_
      generalize xs x3.toNatClampNeg &&& 31 = k
      by_cases hk : k.toInt < 0 ∨ 22 < k.toInt
      · refine lv_tableOut (tgt := 1010) hx hb dL_law_32 hk (by decide) ?_
        refine W.widen (k := 100 + 2 * i + 10) (n := lw_sl d_rm + lw_gr d_rm d_rm) (by omega) (by omega) ?_
        exact kk d_rm H locs (Or.inl rfl) hI hS
      · have hk1 : ¬ k.toInt < 0 := fun q => hk (Or.inl q)
        have hk2 : ¬ 22 < k.toInt := fun q => hk (Or.inr q)
        rcases (show k.toInt = 0 ∨ k.toInt = 1 ∨ k.toInt = 2 ∨ k.toInt = 3 ∨ k.toInt = 4 ∨ k.toInt = 5 ∨ k.toInt = 6 ∨ k.toInt = 7 ∨ k.toInt = 8 ∨ k.toInt = 9 ∨ k.toInt = 10 ∨ k.toInt = 11 ∨ k.toInt = 12 ∨ k.toInt = 13 ∨ k.toInt = 14 ∨ k.toInt = 15 ∨ k.toInt = 16 ∨ k.toInt = 17 ∨ k.toInt = 18 ∨ k.toInt = 19 ∨ k.toInt = 20 ∨ k.toInt = 21 ∨ k.toInt = 22 by omega) with hv | hv | hv | hv | hv | hv | hv | hv | hv | hv | hv | hv | hv | hv | hv | hv | hv | hv | hv | hv | hv | hv | hv
        · refine lv_tableIn (off := 108) (tgt := 140) hx hb dL_law_32 hk1 hk2 (by rw [hv]; rfl) (by decide) ?_
          exact lc_place C0 hK hA hbA hI hS hl h1 h2 h3 h4 hcc hsl kk
        · refine lv_tableIn (off := 161) (tgt := 193) hx hb dL_law_32 hk1 hk2 (by rw [hv]; rfl) (by decide) ?_
          exact lc_ofPlace C0 hK hA hbA hI hS hl h1 h2 h3 h4 hcc hsl kk
        · refine lv_tableIn (off := 194) (tgt := 226) hx hb dL_law_32 hk1 hk2 (by rw [hv]; rfl) (by decide) ?_
          exact lc_row C0 hK hA hbA hI hS hl h1 h2 h3 h4 hcc hsl kk
        · refine lv_tableIn (off := 217) (tgt := 249) hx hb dL_law_32 hk1 hk2 (by rw [hv]; rfl) (by decide) ?_
          exact lc_equal C0 hK hA hbA hI hS hl h1 h2 h3 h4 hcc hsl kk
        · refine lv_tableIn (off := 260) (tgt := 292) hx hb dL_law_32 hk1 hk2 (by rw [hv]; rfl) (by decide) ?_
          exact lc_less C0 hK hA hbA hI hS hl h1 h2 h3 h4 hcc hsl kk
        · refine lv_tableIn (off := 303) (tgt := 335) hx hb dL_law_32 hk1 hk2 (by rw [hv]; rfl) (by decide) ?_
          exact lc_sum C0 hK hA hbA hI hS hl h1 h2 h3 h4 hcc hsl kk
        · refine lv_tableIn (off := 346) (tgt := 378) hx hb dL_law_32 hk1 hk2 (by rw [hv]; rfl) (by decide) ?_
          exact lc_is C0 hK hA hbA hI hS hl h1 h2 h3 h4 hcc hsl kk
        · refine lv_tableIn (off := 389) (tgt := 421) hx hb dL_law_32 hk1 hk2 (by rw [hv]; rfl) (by decide) ?_
          exact lc_tells C0 hK hA hbA hI hS hl h1 h2 h3 h4 hcc hsl kk
        · refine lv_tableIn (off := 432) (tgt := 464) hx hb dL_law_32 hk1 hk2 (by rw [hv]; rfl) (by decide) ?_
          exact lc_alike C0 hK hA hbA hI hS hl h1 h2 h3 h4 hcc hsl kk
        · refine lv_tableIn (off := 475) (tgt := 507) hx hb dL_law_32 hk1 hk2 (by rw [hv]; rfl) (by decide) ?_
          exact lc_both C0 hK hA hbA hI hS hl h1 h2 h3 h4 hcc hsl kk
        · refine lv_tableIn (off := 518) (tgt := 550) hx hb dL_law_32 hk1 hk2 (by rw [hv]; rfl) (by decide) ?_
          exact lc_either C0 hK hA hbA hI hS hl h1 h2 h3 h4 hcc hsl kk
        · refine lv_tableIn (off := 561) (tgt := 593) hx hb dL_law_32 hk1 hk2 (by rw [hv]; rfl) (by decide) ?_
          exact lc_not C0 hK hA hbA hI hS hl h1 h2 h3 h4 hcc hsl kk
        · refine lv_tableIn (off := 594) (tgt := 626) hx hb dL_law_32 hk1 hk2 (by rw [hv]; rfl) (by decide) ?_
          exact lc_swap C0 hK hA hbA hI hS hl h1 h2 h3 h4 hcc hsl kk
        · refine lv_tableIn (off := 647) (tgt := 679) hx hb dL_law_32 hk1 hk2 (by rw [hv]; rfl) (by decide) ?_
          exact lc_some C0 hK hA hbA hI hS hl h1 h2 h3 h4 hcc hsl kk
        · refine lv_tableIn (off := 690) (tgt := 722) hx hb dL_law_32 hk1 hk2 (by rw [hv]; rfl) (by decide) ?_
          exact lc_all C0 hK hA hbA hI hS hl h1 h2 h3 h4 hcc hsl kk
        · refine lv_tableIn (off := 733) (tgt := 765) hx hb dL_law_32 hk1 hk2 (by rw [hv]; rfl) (by decide) ?_
          exact lc_holds C0 hK hA hbA hI hS hl h1 h2 h3 h4 hcc hsl kk
        · refine lv_tableIn (off := 786) (tgt := 818) hx hb dL_law_32 hk1 hk2 (by rw [hv]; rfl) (by decide) ?_
          exact lc_depends C0 hK hA hbA hI hS hl h1 h2 h3 h4 hcc hsl kk
        · refine lv_tableIn (off := 809) (tgt := 841) hx hb dL_law_32 hk1 hk2 (by rw [hv]; rfl) (by decide) ?_
          exact lc_kinds C0 hK hA hbA hI hS hl h1 h2 h3 h4 hcc hsl kk
        · refine lv_tableIn (off := 832) (tgt := 864) hx hb dL_law_32 hk1 hk2 (by rw [hv]; rfl) (by decide) ?_
          exact lc_below C0 hK hA hbA hI hS hl h1 h2 h3 h4 hcc hsl kk
        · refine lv_tableIn (off := 866) (tgt := 898) hx hb dL_law_32 hk1 hk2 (by rw [hv]; rfl) (by decide) ?_
          exact lc_least C0 hK hA hbA hI hS hl h1 h2 h3 h4 hcc hsl kk
        · refine lv_tableIn (off := 899) (tgt := 931) hx hb dL_law_32 hk1 hk2 (by rw [hv]; rfl) (by decide) ?_
          exact lc_same C0 hK hA hbA hI hS hl h1 h2 h3 h4 hcc hsl kk
        · refine lv_tableIn (off := 932) (tgt := 964) hx hb dL_law_32 hk1 hk2 (by rw [hv]; rfl) (by decide) ?_
          exact lc_drop C0 hK hA hbA hI hS hl h1 h2 h3 h4 hcc hsl kk
        · refine lv_tableIn (off := 955) (tgt := 987) hx hb dL_law_32 hk1 hk2 (by rw [hv]; rfl) (by decide) ?_
          exact lc_many C0 hK hA hbA hI hS hl h1 h2 h3 h4 hcc hsl kk
set_option maxHeartbeats 8000000 in
set_option maxRecDepth 100000 in
theorem whole_start {p : Program} {e : Env} {s : State} {m : MethodId} {below : List Frame} {meth : Method} {c : Code} (l : Launch) (hflags : l.flags = flags0) {b L : Nat} {xs : Nat → Int32} (hL : L ≤ 2560) (C0 : lw_At p s m meth c b L xs) : W p l e room_1 s m #[Value.ref b] below meth c s.heap [] 0 0 (lw_Z below #[Value.ref b] s) (entryFrame m ([Value.ref b] : List Value).toArray 4) := by
  obtain ⟨hx, hb, hr, hml, hown, hts0, hX, hbl, hlocks, hgv⟩ := id C0
  have hts : ∀ w ∈ wsL_law, w.before #[Value.ref b] s = true := fun w h => hts0 w (wsL_law_in w h)
  have hown : s.vm.findClass RL = some m.cls := hown
  have hA : ∀ q : Nat, s.heap.size ≤ q → (fun q : Nat => s.heap.size ≤ q) q := fun _ h => h
  obtain ⟨G, hK⟩ := kn_make hts0
  have hAO : va_AO RX0 s := va_AO.of (hts0 (.arrayOver (.object RX0)) (by decide +kernel))
  have hS : va_S (fun q : Nat => s.heap.size ≤ q) s.heap s.heap [] := va_S.rf
  have hP : va_P G.1 vwCl [] s.heap := fun k q h => by simp at h
  have hD : va_D (fun q : Nat => s.heap.size ≤ q) [] := ⟨fun i j p q h => by simp at h, fun k q h => by simp at h⟩
  have hl := lv_entry ([.ref b]) (n := 4) (Nat.le_of_ble_eq_true rfl)
  rw [lg_entry_eq]
  generalize (lg_sl ([.ref b]) ++ List.replicate (4 - (lg_sl ([.ref b])).length) Slot.unset).toArray = ls at hl ⊢
  have hl : lv_has ls 4 [(0, .ref b)] := hl
  refine va_new (D := G.1) (ci := 9) (fs := [.null, .null, .null, .null, .null, .null, .null]) (C := RX9) (T := TX9) (N := 7) hx hb hts0 inX9 tyX9 tyX9_ok hown (hts0 (.classLink RL 7 RX9) (by decide +kernel)) (hts0 (.instantiable RX9 7) (by decide +kernel)) (hts0 (.initialized RX9) (by decide +kernel)) hK.1 hP hD hS hA rfl dfX9 (Nat.le_of_ble_eq_true rfl) (Nat.le_of_ble_eq_true rfl) dL_law_0 (fun z_h H hP hD hS => ?_)
  have hP : va_P G.1 vwCl [(z_h, .inr (9, [.null, .null, .null, .null, .null, .null, .null]))] H := hP
  have hD : va_D (fun q : Nat => s.heap.size ≤ q) [(z_h, .inr (9, [.null, .null, .null, .null, .null, .null, .null]))] := hD
  refine lv_dup hx hb dL_law_3 rfl ?_
  refine k_cvA (va_runI (As := []) (rest := [.ref z_h]) ⟨hx, hb, hml, hown, hts⟩ (c_X9_init l G z_h _) (cwI 0 hts gL_law_X9_init rfl rfl rfl (hts0 (.initialized RX9) (by decide +kernel)) (hts0 (.methodLink RL 9 yX9_init) (by decide +kernel)) (hts0 (.instanceMethod yX9_init) (by decide +kernel)) rfl eX9_init ⟨Nat.le_of_ble_eq_true rfl, Nat.le_of_ble_eq_true rfl⟩) (preWS9 hK hAO hP hD) rfl rfl hl.1 rfl (lv_room (Nat.le_of_ble_eq_true rfl)) dL_law_4 ⟨Nat.le_of_ble_eq_true rfl, Nat.le_of_ble_eq_true rfl⟩) hD hS hA (fun u1 H locs hP hD hS => ?_)
  refine lv_astore_n (lv' := [(1, .ref z_h), (0, .ref b)]) hx hb dL_law_7 rfl hl (by decide) rfl (fun ls hl => ?_)
  refine va_new (D := G.1) (ci := 10) (fs := [.null, .null, .null, .null, .null, .int 0, .null, .null, .null, .null, .null, .null, .null, .null, .null, .null, .null, .null, .null, .null]) (C := RX10) (T := TX10) (N := 20) hx hb hts0 inX10 tyX10 tyX10_ok hown (hts0 (.classLink RL 10 RX10) (by decide +kernel)) (hts0 (.instantiable RX10 20) (by decide +kernel)) (hts0 (.initialized RX10) (by decide +kernel)) hK.1 hP hD hS hA rfl dfX10 (Nat.le_of_ble_eq_true rfl) (Nat.le_of_ble_eq_true rfl) dL_law_8 (fun m_h H hP hD hS => ?_)
  refine lv_dup hx hb dL_law_11 rfl ?_
  refine k_cvR (va_runI (As := []) (rest := [.ref m_h]) ⟨hx, hb, hml, hown, hts⟩ (c_X10_init l G m_h _) (cwI 0 hts gL_law_X10_init rfl rfl rfl (hts0 (.initialized RX10) (by decide +kernel)) (hts0 (.methodLink RL 12 yX10_init) (by decide +kernel)) (hts0 (.instanceMethod yX10_init) (by decide +kernel)) rfl eX10_init ⟨Nat.le_of_ble_eq_true rfl, Nat.le_of_ble_eq_true rfl⟩) (preWS hK hP.right hD.right) rfl rfl hl.1 rfl (lv_room (Nat.le_of_ble_eq_true rfl)) dL_law_12 ⟨Nat.le_of_ble_eq_true rfl, Nat.le_of_ble_eq_true rfl⟩) hP hD hS hA (fun u2 H locs hP hD hS => ?_)
  refine lv_astore_n (lv' := [(2, .ref m_h), (1, .ref z_h), (0, .ref b)]) hx hb dL_law_15 rfl hl (by decide) rfl (fun ls hl => ?_)
  refine lv_iconst (v := 0) hx hb dL_law_16 (by decide) ?_
  refine lv_istore_n (lv' := [(3, .int 0), (2, .ref m_h), (1, .ref z_h), (0, .ref b)]) hx hb dL_law_17 rfl hl (by decide) rfl (fun ls hl => ?_)
  refine W.widen (k := 100 + 2 * 0) (n := lw_sl 32) (Nat.le_of_ble_eq_true rfl) (Nat.le_of_ble_eq_true rfl) ?_
  exact law_loop hL C0 hK (L + 1) 0 0 (Nat.zero_le L) (by omega) nI_0.symm z_h m_h 32 H locs (by omega) ⟨(u1 0), (fun i => u1 (1 + i)), (u1 8), (u1 9), (u1 10), (u1 11), (u1 12), (fun i => u1 (13 + i)), (u1 15), (u1 16), (u1 17), (fun i => u1 (18 + i)), (fun i => u1 (19 + i)), (fun i => u1 (21 + i)), (fun i => u1 (25 + i)), (fun i => u1 (28 + i)), (fun i => u1 (33 + i)), (fun k i => u1 (34 + 2 * k + i)), u2, (fun _ => (0 : Int32)), (fun _ => (0 : Int32)), (fun _ => (0 : Int64)), 0, (fun _ => (0 : Int64)), (fun _ => (0 : Int32)), 0, (fun _ => (0 : Int64)), (fun _ => (0 : Int64)), (fun _ => (0 : Int64)), (fun _ => (0 : Int32)), (fun _ => (0 : Int32)), (fun _ => (0 : Int32)), (fun _ => (0 : Int32)), 32, 0, (fun _ => (0 : Int32)), (fun _ => (0 : Int32)), (fun _ => (0 : Int32)), (fun _ => (0 : Int32)), (fun _ => (0 : Int32)), (fun _ => (0 : Int32)), 1, 0, (fun _ => (fun _ => (0 : Int32))), (fun _ => (fun _ => (0 : Int32))), (fun _ => (0 : Int32)), (fun _ => (0 : Int32)), (fun _ => (0 : Int32)), (fun _ => (0 : Int32)), (fun _ => (0 : Int32)), (fun _ => (0 : Int32)), 0, (fun _ => (0 : Int32)), (fun _ => (0 : Int32)), (fun _ => (0 : Int32)), (fun _ => (0 : Int32)), (fun _ => (0 : Int32)), (fun _ => (0 : Int32)), (fun _ => (0 : Int32)), (fun _ => (0 : Int32)), (fun _ => (0 : Int32)), (fun _ => (0 : Int64)), (fun _ => (0 : Int64)), (fun _ => (0 : Int64)), (fun _ => (0 : Int32)), (fun _ => (0 : Int64)), lw_init_row, lw_init_cls, lw_init_dr, lw_init_pn, hP, hD⟩ hS ls (lv_sub hl [3, 2, 1, 0] rfl)
