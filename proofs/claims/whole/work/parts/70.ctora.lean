/-! CONSTRUCTORS: their rows (written by wip/whole/genctor.py) -/
theorem va_refs {D : va_G} {cl : List vw_C} {ws : va_W} {H : Heap} (hP : va_P D cl ws H) (k : Nat) {a : Nat} {cA : ClassId} {n : Nat} {f : Nat → Option Nat} (hk : ws[k]? = some (a, .inl (cA, n, .inr (.inr (.inr (.inr f)))))) (g : Nat → Option Nat) (hg : ∀ i, i < n → f i = g i) : va_P D cl (ws.set k (a, .inl (cA, n, .inr (.inr (.inr (.inr g)))))) H := by
  intro j q hq
  by_cases hj : j = k
  · subst hj
    have hl : j < ws.length := (List.getElem?_eq_some_iff.mp hk).1
    rw [List.getElem?_set_self hl] at hq
    cases hq
    have h0 : H[a]? = some (vp_cell cA (n, .inr (.inr (.inr (.inr f))))) := hP j _ hk
    show H[a]? = some (vp_cell cA (n, .inr (.inr (.inr (.inr g)))))
    rw [h0, vp_cell_q, vp_cell_q]
    unfold arrV
    congr 3
    funext x
    show va_rf (f x.val) = va_rf (g x.val)
    rw [hg x.val x.isLt]
  · rw [List.getElem?_set_ne (fun h => hj h.symm)] at hq
    exact hP j q hq
def preW9 (G : GG) (av : List Value) (w : va_W) (sz : Nat) : Array Value → State → Prop := va_Pc av (fun U => U.heap.size = sz ∧ va_P G.1 vwCl w U.heap ∧ KN G U ∧ va_D (fun _ => True) w ∧ va_AO RX0 U)
def CV9 (l : Launch) (y : MethodName) (ws : List Cond) (rm : Room) (G : GG) (av : List Value) (w : va_W) (sz : Nat) (w' : (Nat → Nat) → va_W) : Prop := Met l y ws rm (preW9 G av w sz) (va_Qv (fun (_ : Nat → Nat) => True) (postW G w sz w') (va_A w sz)) rm.cells rm.slots (va_A w sz)
theorem enterCV9 {l : Launch} {y : MethodName} {ws ws' : List Cond} {rm : Room} {G : GG} {av : List Value} {w : va_W} {sz : Nat} {w' : (Nat → Nat) → va_W} {cc : ByteArray} {maxL : Nat} (hy : plainName y.cls = true) (hw : ws = Cond.code y cc maxL none :: ws') (hsl : (lg_sl av).length ≤ maxL)
    (body : ∀ (p : Program) (e : Env) (s : State) (m : MethodId) (args : Array Value) (below : List Frame) (meth : Method) (c : Code) (A : Nat → Prop) (Q : State → Prop), p.tables.exec = Jvm.exec → c.code = cc → c.maxLocals = maxL → s.vm.findClass y.cls = some m.cls → (∀ w ∈ ws, w.before args s = true) → KN G s → va_AO RX0 s → va_P G.1 vwCl w s.heap → va_D A w → va_S A s.heap s.heap [] → (∀ q : Nat, s.heap.size ≤ q → A q) → meth.name = y.name →
      (∀ (u : Nat → Nat) (H : Heap) (locs : List Loc) (cells slots : Nat) (ls : Array Slot) (pc : Nat), decode cc pc = .ok (.return_, 1) → va_P G.1 vwCl (w' u) H → va_D A (w' u) → va_S A s.heap H locs → cells ≤ rm.cells → slots ≤ rm.slots → W p l e rm s m args below meth c H locs cells slots Q (F0 m pc ls [])) →
      ∀ ls : Array Slot, lv_has ls maxL (lv_args 0 av) → W p l e rm s m args below meth c s.heap [] 0 0 Q (F0 m 0 ls [])) : CV9 l y ws rm G av w sz w' := by
  refine Met.ofW (cc := cc) (maxL := maxL) (ret := none) hy hw ?_
  intro p e s m args below meth c s₁ B hml hv
  obtain ⟨hargs, hsz, hP, hK, hD0, hAO⟩ := hv
  subst hsz
  have hl := lv_entry av (n := maxL) hsl
  have he : entryFrame m args maxL = F0 m 0 ((lg_sl av ++ List.replicate (maxL - (lg_sl av).length) Slot.unset).toArray) [] := by rw [hargs, lg_entry_eq]
  rw [he]
  have hx := B.exec
  have hb := B.bytes
  have hr := B.returns
  have hlocks := B.notSynchronized
  exact body p e s m args below meth c (va_A w s.heap.size) _ hx hb hml (findClass_of_methodNamed B.named) (atoms_spec B.pre) hK hAO hP (hD0.self (sz := s.heap.size)) va_S.rf (fun q h => Or.inr h) (name_of_methodNamed B.named B.method).1 (fun u H locs cells slots ls pc hd hP hD hS h1 h2 => W.widen h1 h2 (W.vret hx hb hr (fun t ht _ => ⟨⟨u, rfl, trivial, by rw [ht]; exact hP, hD⟩, hS.F ht⟩) hS.2.2 hd)) _ hl
section OURNEWQ
variable {p : Program} {l : Launch} {e : Env} {R : Room} {s : State} {m : MethodId} {args : Array Value} {below : List Frame} {meth : Method} {c : Code} {H : Heap} {locs : List Loc} {cells slots : Nat} {Q : State → Prop}
variable {pc : Nat} {ls : Array Slot} {rest : List Value} {A : Nat → Prop} {G : GG} {ws : va_W} {H0 : Heap}
theorem preW9.blind {av : List Value} {w : va_W} {sz : Nat} : FrameBlind (preW9 G av w sz) := fun a U g mk h => ⟨h.1, h.2.1, h.2.2.1, h.2.2.2.1.blind, h.2.2.2.2.1, va_AO.moved (u := U) (U := U.calling g mk a) (Vm.Alike.refl U.vm) h.2.2.2.2.2⟩
theorem preWS9 {As : List Value} {w : va_W} (hK : KN G s) (hAO : va_AO RX0 s) (hP : va_P G.1 vwCl w H) (hD : va_D A w) : PreS s H (preW9 G As w H.size) As := ⟨preW9.blind, fun U hU hW => ⟨rfl, by rw [hU], by rw [hU]; exact hP, hK.warm hW, hD.weaken (fun _ _ _ _ => trivial), va_AO.moved hW.alike hAO⟩⟩
theorem k_newq {cc : ByteArray} (hexec : p.tables.exec = Jvm.exec) (hb : c.code = cc) {own : String} {index : Nat} (hown : s.vm.findClass own = some m.cls) (hclink : (Cond.classLink own index RX0).before args s = true) (hover : va_AO RX0 s) (hK : KN G s) (hP : va_P G.1 vwCl ws H) (hD : va_D A ws) (hS : va_S A H0 H locs) (hA : ∀ q, H0.size ≤ q → A q)
    {n : Int32} {N' : Nat} (hn : ¬ n < 0) (hN : n.toNatClampNeg = N') (hbytes : N' * 4 ≤ 536870912) (hcells : cells + 1 ≤ R.cells) (hslots : slots + N' ≤ R.slots) (hdg : decode cc pc = .ok (.anewarray index, 3))
    (kk : ∀ (q : Nat) (H1 : Heap), va_P G.1 vwCl (ws ++ [(q, .inl (G.2 3, N', .inr (.inr (.inr (.inr (fun _ => none))))))]) H1 → va_D A (ws ++ [(q, .inl (G.2 3, N', .inr (.inr (.inr (.inr (fun _ => none))))))]) → va_S A H0 H1 locs → W p l e R s m args below meth c H1 locs (cells + 1) (slots + N') Q (F0 m (pc + 3) ls (.ref q :: rest))) : W p l e R s m args below meth c H locs cells slots Q (F0 m pc ls (.int n :: rest)) := by
  refine va_newq hexec hb hown hclink hover hK.1 hP hD hS hA hn hN hbytes hcells hslots hdg (fun q cA H1 hK2 hP1 hD1 hS1 => ?_)
  have e1 : s.vm.findClass ("[" ++ (FieldType.object RX0).toString) = some cA := by
    obtain ⟨kA, comp, -, -, -, h⟩ := (hK2.2 4 (cA, .object RX0) rfl).2
    exact h
  have e2 : s.vm.findClass ("[" ++ (FieldType.object RX0).toString) = some (G.2 3) := by
    obtain ⟨kA, comp, -, -, -, h⟩ := (hK.1.2 3 (G.2 3, .object RX0) rfl).2
    exact h
  have e3 : cA = G.2 3 := Option.some.inj (e1.symm.trans e2)
  subst e3
  exact kk q H1 hP1 hD1 hS1
end OURNEWQ
theorem dfX0 : ∀ j, j < 3 → defaultValue (tyX0 j) = vp_V [.null, .null, .int 0] j := by
  intro j hj
  rcases (show j = 0 ∨ j = 1 ∨ j = 2 by omega) with rfl | rfl | rfl <;> rfl
theorem dfX1 : ∀ j, j < 11 → defaultValue (tyX1 j) = vp_V [.null, .null, .null, .null, .int 0, .int 0, .null, .null, .null, .null, .null] j := by
  intro j hj
  rcases (show j = 0 ∨ j = 1 ∨ j = 2 ∨ j = 3 ∨ j = 4 ∨ j = 5 ∨ j = 6 ∨ j = 7 ∨ j = 8 ∨ j = 9 ∨ j = 10 by omega) with rfl | rfl | rfl | rfl | rfl | rfl | rfl | rfl | rfl | rfl | rfl <;> rfl
theorem dfX2 : ∀ j, j < 2 → defaultValue (tyX2 j) = vp_V [.null, .null] j := by
  intro j hj
  rcases (show j = 0 ∨ j = 1 by omega) with rfl | rfl <;> rfl
theorem dfX3 : ∀ j, j < 3 → defaultValue (tyX3 j) = vp_V [.null, .int 0, .int 0] j := by
  intro j hj
  rcases (show j = 0 ∨ j = 1 ∨ j = 2 by omega) with rfl | rfl | rfl <;> rfl
theorem dfX4 : ∀ j, j < 1 → defaultValue (tyX4 j) = vp_V [.null] j := by
  intro j hj
  rcases (show j = 0 by omega) with rfl <;> rfl
theorem dfX5 : ∀ j, j < 2 → defaultValue (tyX5 j) = vp_V [.null, .null] j := by
  intro j hj
  rcases (show j = 0 ∨ j = 1 by omega) with rfl | rfl <;> rfl
theorem dfX6 : ∀ j, j < 4 → defaultValue (tyX6 j) = vp_V [.null, .null, .null, .long 0] j := by
  intro j hj
  rcases (show j = 0 ∨ j = 1 ∨ j = 2 ∨ j = 3 by omega) with rfl | rfl | rfl | rfl <;> rfl
theorem dfX7 : ∀ j, j < 3 → defaultValue (tyX7 j) = vp_V [.null, .null, .int 0] j := by
  intro j hj
  rcases (show j = 0 ∨ j = 1 ∨ j = 2 by omega) with rfl | rfl | rfl <;> rfl
theorem dfX8 : ∀ j, j < 4 → defaultValue (tyX8 j) = vp_V [.null, .null, .null, .null] j := by
  intro j hj
  rcases (show j = 0 ∨ j = 1 ∨ j = 2 ∨ j = 3 by omega) with rfl | rfl | rfl | rfl <;> rfl
abbrev rX0_init : Room := { frames := 1, cells := 2, slots := 540, locals := 12 }
theorem eX0_init : yX0_init.cls ≠ "java/lang/invoke/MethodHandle" ∧ yX0_init.cls ≠ "java/lang/invoke/VarHandle" ∧ (parseMethodDescriptor yX0_init.desc).map (fun d => d.parameters.length) = some 0 := by decide +kernel
set_option maxHeartbeats 8000000 in
set_option maxRecDepth 100000 in
theorem c_X0_init (l : Launch) (G : GG) (h : Nat)  (sz : Nat) : CV l yX0_init wsX0_init rX0_init G [.ref h] [(h, .inr (0, [.null, .null, .int 0]))] sz (fun u => WC G h u (fun _ => (0 : Int32)) (fun _ => (0 : Int32)) 0) := by
  refine enterCV (cc := cX0_init) (maxL := 1) (by decide) rfl (Nat.le_of_ble_eq_true rfl) ?_
  intro p e s m args below meth c A Q hx hb hml hown hts hK hP hD hS hA hnm hret ls hl
  have hown : s.vm.findClass RX0 = some m.cls := hown
  have hinX0 : ∀ w ∈ wsX00, w ∈ wsX0_init := by decide +kernel
  have hf9 := hts (.fieldLink RX0 9 "DigitClaims$Claim" "next" "[I") (by decide +kernel)
  have hf15 := hts (.fieldLink RX0 15 "DigitClaims$Claim" "says" "[Z") (by decide +kernel)
  have hf19 := hts (.fieldLink RX0 19 "DigitClaims$Claim" "size" "I") (by decide +kernel)
  have hl : lv_has ls 1 [(0, .ref h)] := hl
  refine lv_aload_n hx hb dX0_init_0 rfl (lv_at hl 0 rfl) ?_
  refine W.objInit hx hb hown (hts (.methodLink RX0 3 objectInit) (by decide +kernel)) (hts (.instanceMethod objectInit) (by decide +kernel)) (hts _ (List.mem_of_getElem? (i := 3) rfl)) rfl (by rw [hml]; exact hl.1) rfl dX0_init_1 (Nat.le_of_ble_eq_true rfl) (Nat.le_of_ble_eq_true rfl) ?_
  refine W.eq (g2 := F0 m 4 ls []) rfl ?_
  refine lv_aload_n hx hb dX0_init_4 rfl (lv_at hl 0 rfl) ?_
  refine lv_sipush (v := 480) hx hb dX0_init_5 (by decide) ?_
  refine k_newa (G := G) (atype := .int) (t0 := 0) (N' := 480) (a0 := (480, .inl (fun _ => (0 : Int32)))) hx hb (hts (.arrayClass .int) (by decide +kernel)) rfl rfl (fun _ _ h9 => h9) hK hP hD hS hA (fun _ => rfl) (by decide) (by decide) (Nat.le_of_ble_eq_true rfl) (Nat.le_of_ble_eq_true rfl) (Nat.le_of_ble_eq_true rfl) dX0_init_8 (fun n_8 H hP hD hS => ?_)
  have hP : va_P G.1 vwCl [(h, .inr (0, [.null, .null, .int 0])), (n_8, .inl (G.2 0, 480, .inl (fun _ => (0 : Int32))))] H := hP
  have hD : va_D A [(h, .inr (0, [.null, .null, .int 0])), (n_8, .inl (G.2 0, 480, .inl (fun _ => (0 : Int32))))] := hD
  refine va_putF (D := G.1) (ci := 0) (v := .ref n_8) (ty := .array .int) (C := RX0) (T := TX0) (N := 3) hx hb hts hinX0 tyX0 tyX0_ok nmX0 hown hK.1 hP hD hS 0 rfl rfl 0 (by decide) hf9 (fun _ h9 => h9) rfl hnm rfl (by decide +kernel) rfl rfl (Nat.le_of_ble_eq_true rfl) dX0_init_10 (fun H locs hP hD hS => ?_)
  have hP : va_P G.1 vwCl [(h, .inr (0, [.ref n_8, .null, .int 0])), (n_8, .inl (G.2 0, 480, .inl (fun _ => (0 : Int32))))] H := hP
  have hD : va_D A [(h, .inr (0, [.ref n_8, .null, .int 0])), (n_8, .inl (G.2 0, 480, .inl (fun _ => (0 : Int32))))] := hD
  refine lv_aload_n hx hb dX0_init_13 rfl (lv_at hl 0 rfl) ?_
  refine lv_bipush (v := 60) hx hb dX0_init_14 (by decide) ?_
  refine k_newa (G := G) (atype := .boolean) (t0 := 1) (N' := 60) (a0 := (60, .inl (fun _ => (0 : Int32)))) hx hb (hts (.arrayClass .boolean) (by decide +kernel)) rfl rfl (fun _ _ h9 => h9) hK hP hD hS hA (fun _ => rfl) (by decide) (by decide) (Nat.le_of_ble_eq_true rfl) (Nat.le_of_ble_eq_true rfl) (Nat.le_of_ble_eq_true rfl) dX0_init_16 (fun n_16 H hP hD hS => ?_)
  have hP : va_P G.1 vwCl [(h, .inr (0, [.ref n_8, .null, .int 0])), (n_8, .inl (G.2 0, 480, .inl (fun _ => (0 : Int32)))), (n_16, .inl (G.2 1, 60, .inl (fun _ => (0 : Int32))))] H := hP
  have hD : va_D A [(h, .inr (0, [.ref n_8, .null, .int 0])), (n_8, .inl (G.2 0, 480, .inl (fun _ => (0 : Int32)))), (n_16, .inl (G.2 1, 60, .inl (fun _ => (0 : Int32))))] := hD
  refine va_putF (D := G.1) (ci := 0) (v := .ref n_16) (ty := .array .boolean) (C := RX0) (T := TX0) (N := 3) hx hb hts hinX0 tyX0 tyX0_ok nmX0 hown hK.1 hP hD hS 0 rfl rfl 1 (by decide) hf15 (fun _ h9 => h9) rfl hnm rfl (by decide +kernel) rfl rfl (Nat.le_of_ble_eq_true rfl) dX0_init_18 (fun H locs hP hD hS => ?_)
  have hP : va_P G.1 vwCl [(h, .inr (0, [.ref n_8, .ref n_16, .int 0])), (n_8, .inl (G.2 0, 480, .inl (fun _ => (0 : Int32)))), (n_16, .inl (G.2 1, 60, .inl (fun _ => (0 : Int32))))] H := hP
  have hD : va_D A [(h, .inr (0, [.ref n_8, .ref n_16, .int 0])), (n_8, .inl (G.2 0, 480, .inl (fun _ => (0 : Int32)))), (n_16, .inl (G.2 1, 60, .inl (fun _ => (0 : Int32))))] := hD
  refine lv_aload_n hx hb dX0_init_21 rfl (lv_at hl 0 rfl) ?_
  refine lv_iconst (v := 0) hx hb dX0_init_22 (by decide) ?_
  refine va_put (D := G.1) (ci := 0) (v := .int (0 : Int32)) (ty := .int) (C := RX0) (T := TX0) (N := 3) hx hb hts hinX0 tyX0 tyX0_ok nmX0 hown hK.1 hP hD hS 0 rfl rfl 2 (by decide) hf19 (fun _ h9 => h9) rfl (by decide +kernel) rfl rfl (Nat.le_of_ble_eq_true rfl) dX0_init_23 (fun H locs hP hD hS => ?_)
  have hP : va_P G.1 vwCl [(h, .inr (0, [.ref n_8, .ref n_16, .int (0 : Int32)])), (n_8, .inl (G.2 0, 480, .inl (fun _ => (0 : Int32)))), (n_16, .inl (G.2 1, 60, .inl (fun _ => (0 : Int32))))] H := hP
  have hD : va_D A [(h, .inr (0, [.ref n_8, .ref n_16, .int (0 : Int32)])), (n_8, .inl (G.2 0, 480, .inl (fun _ => (0 : Int32)))), (n_16, .inl (G.2 1, 60, .inl (fun _ => (0 : Int32))))] := hD
  exact hret (fun i => ([n_8, n_16] : List Nat).getD i 0) _ _ _ _ _ _ dX0_init_26 hP hD hS (Nat.le_of_ble_eq_true rfl) (Nat.le_of_ble_eq_true rfl)
abbrev rX3_init : Room := { frames := 1, cells := 1, slots := 4096, locals := 12 }
theorem eX3_init : yX3_init.cls ≠ "java/lang/invoke/MethodHandle" ∧ yX3_init.cls ≠ "java/lang/invoke/VarHandle" ∧ (parseMethodDescriptor yX3_init.desc).map (fun d => d.parameters.length) = some 0 := by decide +kernel
set_option maxHeartbeats 8000000 in
set_option maxRecDepth 100000 in
theorem c_X3_init (l : Launch) (G : GG) (h : Nat)  (sz : Nat) : CV l yX3_init wsX3_init rX3_init G [.ref h] [(h, .inr (3, [.null, .int 0, .int 0]))] sz (fun u => WP G h u (fun _ => (0 : Int32)) 1 0) := by
  refine enterCV (cc := cX3_init) (maxL := 1) (by decide) rfl (Nat.le_of_ble_eq_true rfl) ?_
  intro p e s m args below meth c A Q hx hb hml hown hts hK hP hD hS hA hnm hret ls hl
  have hown : s.vm.findClass RX3 = some m.cls := hown
  have hinX3 : ∀ w ∈ wsX30, w ∈ wsX3_init := by decide +kernel
  have hf9 := hts (.fieldLink RX3 9 "DigitClaims$PairNumbers" "table" "[I") (by decide +kernel)
  have hf13 := hts (.fieldLink RX3 13 "DigitClaims$PairNumbers" "turn" "I") (by decide +kernel)
  have hf17 := hts (.fieldLink RX3 17 "DigitClaims$PairNumbers" "count" "I") (by decide +kernel)
  have hl : lv_has ls 1 [(0, .ref h)] := hl
  refine lv_aload_n hx hb dX3_init_0 rfl (lv_at hl 0 rfl) ?_
  refine W.objInit hx hb hown (hts (.methodLink RX3 3 objectInit) (by decide +kernel)) (hts (.instanceMethod objectInit) (by decide +kernel)) (hts _ (List.mem_of_getElem? (i := 3) rfl)) rfl (by rw [hml]; exact hl.1) rfl dX3_init_1 (Nat.le_of_ble_eq_true rfl) (Nat.le_of_ble_eq_true rfl) ?_
  refine W.eq (g2 := F0 m 4 ls []) rfl ?_
  refine lv_aload_n hx hb dX3_init_4 rfl (lv_at hl 0 rfl) ?_
  refine lv_sipush (v := 4096) hx hb dX3_init_5 (by decide) ?_
  refine k_newa (G := G) (atype := .int) (t0 := 0) (N' := 4096) (a0 := (4096, .inl (fun _ => (0 : Int32)))) hx hb (hts (.arrayClass .int) (by decide +kernel)) rfl rfl (fun _ _ h9 => h9) hK hP hD hS hA (fun _ => rfl) (by decide) (by decide) (Nat.le_of_ble_eq_true rfl) (Nat.le_of_ble_eq_true rfl) (Nat.le_of_ble_eq_true rfl) dX3_init_8 (fun n_8 H hP hD hS => ?_)
  have hP : va_P G.1 vwCl [(h, .inr (3, [.null, .int 0, .int 0])), (n_8, .inl (G.2 0, 4096, .inl (fun _ => (0 : Int32))))] H := hP
  have hD : va_D A [(h, .inr (3, [.null, .int 0, .int 0])), (n_8, .inl (G.2 0, 4096, .inl (fun _ => (0 : Int32))))] := hD
  refine va_putF (D := G.1) (ci := 3) (v := .ref n_8) (ty := .array .int) (C := RX3) (T := TX3) (N := 3) hx hb hts hinX3 tyX3 tyX3_ok nmX3 hown hK.1 hP hD hS 0 rfl rfl 0 (by decide) hf9 (fun _ h9 => h9) rfl hnm rfl (by decide +kernel) rfl rfl (Nat.le_of_ble_eq_true rfl) dX3_init_10 (fun H locs hP hD hS => ?_)
  have hP : va_P G.1 vwCl [(h, .inr (3, [.ref n_8, .int 0, .int 0])), (n_8, .inl (G.2 0, 4096, .inl (fun _ => (0 : Int32))))] H := hP
  have hD : va_D A [(h, .inr (3, [.ref n_8, .int 0, .int 0])), (n_8, .inl (G.2 0, 4096, .inl (fun _ => (0 : Int32))))] := hD
  refine lv_aload_n hx hb dX3_init_13 rfl (lv_at hl 0 rfl) ?_
  refine lv_iconst (v := 1) hx hb dX3_init_14 (by decide) ?_
  refine va_put (D := G.1) (ci := 3) (v := .int (1 : Int32)) (ty := .int) (C := RX3) (T := TX3) (N := 3) hx hb hts hinX3 tyX3 tyX3_ok nmX3 hown hK.1 hP hD hS 0 rfl rfl 1 (by decide) hf13 (fun _ h9 => h9) rfl (by decide +kernel) rfl rfl (Nat.le_of_ble_eq_true rfl) dX3_init_15 (fun H locs hP hD hS => ?_)
  have hP : va_P G.1 vwCl [(h, .inr (3, [.ref n_8, .int (1 : Int32), .int 0])), (n_8, .inl (G.2 0, 4096, .inl (fun _ => (0 : Int32))))] H := hP
  have hD : va_D A [(h, .inr (3, [.ref n_8, .int (1 : Int32), .int 0])), (n_8, .inl (G.2 0, 4096, .inl (fun _ => (0 : Int32))))] := hD
  refine lv_aload_n hx hb dX3_init_18 rfl (lv_at hl 0 rfl) ?_
  refine lv_iconst (v := 0) hx hb dX3_init_19 (by decide) ?_
  refine va_put (D := G.1) (ci := 3) (v := .int (0 : Int32)) (ty := .int) (C := RX3) (T := TX3) (N := 3) hx hb hts hinX3 tyX3 tyX3_ok nmX3 hown hK.1 hP hD hS 0 rfl rfl 2 (by decide) hf17 (fun _ h9 => h9) rfl (by decide +kernel) rfl rfl (Nat.le_of_ble_eq_true rfl) dX3_init_20 (fun H locs hP hD hS => ?_)
  have hP : va_P G.1 vwCl [(h, .inr (3, [.ref n_8, .int (1 : Int32), .int (0 : Int32)])), (n_8, .inl (G.2 0, 4096, .inl (fun _ => (0 : Int32))))] H := hP
  have hD : va_D A [(h, .inr (3, [.ref n_8, .int (1 : Int32), .int (0 : Int32)])), (n_8, .inl (G.2 0, 4096, .inl (fun _ => (0 : Int32))))] := hD
  exact hret (fun i => ([n_8] : List Nat).getD i 0) _ _ _ _ _ _ dX3_init_23 hP hD hS (Nat.le_of_ble_eq_true rfl) (Nat.le_of_ble_eq_true rfl)
abbrev rX5_init : Room := { frames := 1, cells := 2, slots := 15, locals := 12 }
theorem eX5_init : yX5_init.cls ≠ "java/lang/invoke/MethodHandle" ∧ yX5_init.cls ≠ "java/lang/invoke/VarHandle" ∧ (parseMethodDescriptor yX5_init.desc).map (fun d => d.parameters.length) = some 0 := by decide +kernel
set_option maxHeartbeats 8000000 in
set_option maxRecDepth 100000 in
theorem c_X5_init (l : Launch) (G : GG) (h : Nat)  (sz : Nat) : CV l yX5_init wsX5_init rX5_init G [.ref h] [(h, .inr (5, [.null, .null]))] sz (fun u => WR G h u (fun _ => (0 : Int32)) (fun _ => (0 : Int32))) := by
  refine enterCV (cc := cX5_init) (maxL := 1) (by decide) rfl (Nat.le_of_ble_eq_true rfl) ?_
  intro p e s m args below meth c A Q hx hb hml hown hts hK hP hD hS hA hnm hret ls hl
  have hown : s.vm.findClass RX5 = some m.cls := hown
  have hinX5 : ∀ w ∈ wsX50, w ∈ wsX5_init := by decide +kernel
  have hf9 := hts (.fieldLink RX5 9 "DigitClaims$RowMachine" "goes" "[I") (by decide +kernel)
  have hf15 := hts (.fieldLink RX5 15 "DigitClaims$RowMachine" "told" "[I") (by decide +kernel)
  have hl : lv_has ls 1 [(0, .ref h)] := hl
  refine lv_aload_n hx hb dX5_init_0 rfl (lv_at hl 0 rfl) ?_
  refine W.objInit hx hb hown (hts (.methodLink RX5 3 objectInit) (by decide +kernel)) (hts (.instanceMethod objectInit) (by decide +kernel)) (hts _ (List.mem_of_getElem? (i := 3) rfl)) rfl (by rw [hml]; exact hl.1) rfl dX5_init_1 (Nat.le_of_ble_eq_true rfl) (Nat.le_of_ble_eq_true rfl) ?_
  refine W.eq (g2 := F0 m 4 ls []) rfl ?_
  refine lv_aload_n hx hb dX5_init_4 rfl (lv_at hl 0 rfl) ?_
  refine lv_bipush (v := 10) hx hb dX5_init_5 (by decide) ?_
  refine k_newa (G := G) (atype := .int) (t0 := 0) (N' := 10) (a0 := (10, .inl (fun _ => (0 : Int32)))) hx hb (hts (.arrayClass .int) (by decide +kernel)) rfl rfl (fun _ _ h9 => h9) hK hP hD hS hA (fun _ => rfl) (by decide) (by decide) (Nat.le_of_ble_eq_true rfl) (Nat.le_of_ble_eq_true rfl) (Nat.le_of_ble_eq_true rfl) dX5_init_7 (fun n_7 H hP hD hS => ?_)
  have hP : va_P G.1 vwCl [(h, .inr (5, [.null, .null])), (n_7, .inl (G.2 0, 10, .inl (fun _ => (0 : Int32))))] H := hP
  have hD : va_D A [(h, .inr (5, [.null, .null])), (n_7, .inl (G.2 0, 10, .inl (fun _ => (0 : Int32))))] := hD
  refine va_putF (D := G.1) (ci := 5) (v := .ref n_7) (ty := .array .int) (C := RX5) (T := TX5) (N := 2) hx hb hts hinX5 tyX5 tyX5_ok nmX5 hown hK.1 hP hD hS 0 rfl rfl 0 (by decide) hf9 (fun _ h9 => h9) rfl hnm rfl (by decide +kernel) rfl rfl (Nat.le_of_ble_eq_true rfl) dX5_init_9 (fun H locs hP hD hS => ?_)
  have hP : va_P G.1 vwCl [(h, .inr (5, [.ref n_7, .null])), (n_7, .inl (G.2 0, 10, .inl (fun _ => (0 : Int32))))] H := hP
  have hD : va_D A [(h, .inr (5, [.ref n_7, .null])), (n_7, .inl (G.2 0, 10, .inl (fun _ => (0 : Int32))))] := hD
  refine lv_aload_n hx hb dX5_init_12 rfl (lv_at hl 0 rfl) ?_
  refine lv_iconst (v := 5) hx hb dX5_init_13 (by decide) ?_
  refine k_newa (G := G) (atype := .int) (t0 := 0) (N' := 5) (a0 := (5, .inl (fun _ => (0 : Int32)))) hx hb (hts (.arrayClass .int) (by decide +kernel)) rfl rfl (fun _ _ h9 => h9) hK hP hD hS hA (fun _ => rfl) (by decide) (by decide) (Nat.le_of_ble_eq_true rfl) (Nat.le_of_ble_eq_true rfl) (Nat.le_of_ble_eq_true rfl) dX5_init_14 (fun n_14 H hP hD hS => ?_)
  have hP : va_P G.1 vwCl [(h, .inr (5, [.ref n_7, .null])), (n_7, .inl (G.2 0, 10, .inl (fun _ => (0 : Int32)))), (n_14, .inl (G.2 0, 5, .inl (fun _ => (0 : Int32))))] H := hP
  have hD : va_D A [(h, .inr (5, [.ref n_7, .null])), (n_7, .inl (G.2 0, 10, .inl (fun _ => (0 : Int32)))), (n_14, .inl (G.2 0, 5, .inl (fun _ => (0 : Int32))))] := hD
  refine va_putF (D := G.1) (ci := 5) (v := .ref n_14) (ty := .array .int) (C := RX5) (T := TX5) (N := 2) hx hb hts hinX5 tyX5 tyX5_ok nmX5 hown hK.1 hP hD hS 0 rfl rfl 1 (by decide) hf15 (fun _ h9 => h9) rfl hnm rfl (by decide +kernel) rfl rfl (Nat.le_of_ble_eq_true rfl) dX5_init_16 (fun H locs hP hD hS => ?_)
  have hP : va_P G.1 vwCl [(h, .inr (5, [.ref n_7, .ref n_14])), (n_7, .inl (G.2 0, 10, .inl (fun _ => (0 : Int32)))), (n_14, .inl (G.2 0, 5, .inl (fun _ => (0 : Int32))))] H := hP
  have hD : va_D A [(h, .inr (5, [.ref n_7, .ref n_14])), (n_7, .inl (G.2 0, 10, .inl (fun _ => (0 : Int32)))), (n_14, .inl (G.2 0, 5, .inl (fun _ => (0 : Int32))))] := hD
  exact hret (fun i => ([n_7, n_14] : List Nat).getD i 0) _ _ _ _ _ _ dX5_init_19 hP hD hS (Nat.le_of_ble_eq_true rfl) (Nat.le_of_ble_eq_true rfl)
abbrev rX7_init : Room := { frames := 1, cells := 2, slots := 1324, locals := 12 }
theorem eX7_init : yX7_init.cls ≠ "java/lang/invoke/MethodHandle" ∧ yX7_init.cls ≠ "java/lang/invoke/VarHandle" ∧ (parseMethodDescriptor yX7_init.desc).map (fun d => d.parameters.length) = some 0 := by decide +kernel
set_option maxHeartbeats 8000000 in
set_option maxRecDepth 100000 in
theorem c_X7_init (l : Launch) (G : GG) (h : Nat)  (sz : Nat) : CV l yX7_init wsX7_init rX7_init G [.ref h] [(h, .inr (7, [.null, .null, .int 0]))] sz (fun u => WS G h u (fun _ => (0 : Int64)) (fun _ => (0 : Int32)) 0) := by
  refine enterCV (cc := cX7_init) (maxL := 1) (by decide) rfl (Nat.le_of_ble_eq_true rfl) ?_
  intro p e s m args below meth c A Q hx hb hml hown hts hK hP hD hS hA hnm hret ls hl
  have hown : s.vm.findClass RX7 = some m.cls := hown
  have hinX7 : ∀ w ∈ wsX70, w ∈ wsX7_init := by decide +kernel
  have hf11 := hts (.fieldLink RX7 11 "DigitClaims$SetNumbers" "sets" "[J") (by decide +kernel)
  have hf15 := hts (.fieldLink RX7 15 "DigitClaims$SetNumbers" "slots" "[I") (by decide +kernel)
  have hf19 := hts (.fieldLink RX7 19 "DigitClaims$SetNumbers" "count" "I") (by decide +kernel)
  have hl : lv_has ls 1 [(0, .ref h)] := hl
  refine lv_aload_n hx hb dX7_init_0 rfl (lv_at hl 0 rfl) ?_
  refine W.objInit hx hb hown (hts (.methodLink RX7 5 objectInit) (by decide +kernel)) (hts (.instanceMethod objectInit) (by decide +kernel)) (hts _ (List.mem_of_getElem? (i := 3) rfl)) rfl (by rw [hml]; exact hl.1) rfl dX7_init_1 (Nat.le_of_ble_eq_true rfl) (Nat.le_of_ble_eq_true rfl) ?_
  refine W.eq (g2 := F0 m 4 ls []) rfl ?_
  refine lv_aload_n hx hb dX7_init_4 rfl (lv_at hl 0 rfl) ?_
  refine lv_sipush (v := 300) hx hb dX7_init_5 (by decide) ?_
  refine k_newa (G := G) (atype := .long) (t0 := 2) (N' := 300) (a0 := (300, .inr (.inl (fun _ => (0 : Int64))))) hx hb (hts (.arrayClass .long) (by decide +kernel)) rfl rfl (fun _ _ h9 => h9) hK hP hD hS hA (fun _ => rfl) (by decide) (by decide) (Nat.le_of_ble_eq_true rfl) (Nat.le_of_ble_eq_true rfl) (Nat.le_of_ble_eq_true rfl) dX7_init_8 (fun n_8 H hP hD hS => ?_)
  have hP : va_P G.1 vwCl [(h, .inr (7, [.null, .null, .int 0])), (n_8, .inl (G.2 2, 300, .inr (.inl (fun _ => (0 : Int64)))))] H := hP
  have hD : va_D A [(h, .inr (7, [.null, .null, .int 0])), (n_8, .inl (G.2 2, 300, .inr (.inl (fun _ => (0 : Int64)))))] := hD
  refine va_putF (D := G.1) (ci := 7) (v := .ref n_8) (ty := .array .long) (C := RX7) (T := TX7) (N := 3) hx hb hts hinX7 tyX7 tyX7_ok nmX7 hown hK.1 hP hD hS 0 rfl rfl 0 (by decide) hf11 (fun _ h9 => h9) rfl hnm rfl (by decide +kernel) rfl rfl (Nat.le_of_ble_eq_true rfl) dX7_init_10 (fun H locs hP hD hS => ?_)
  have hP : va_P G.1 vwCl [(h, .inr (7, [.ref n_8, .null, .int 0])), (n_8, .inl (G.2 2, 300, .inr (.inl (fun _ => (0 : Int64)))))] H := hP
  have hD : va_D A [(h, .inr (7, [.ref n_8, .null, .int 0])), (n_8, .inl (G.2 2, 300, .inr (.inl (fun _ => (0 : Int64)))))] := hD
  refine lv_aload_n hx hb dX7_init_13 rfl (lv_at hl 0 rfl) ?_
  refine lv_sipush (v := 1024) hx hb dX7_init_14 (by decide) ?_
  refine k_newa (G := G) (atype := .int) (t0 := 0) (N' := 1024) (a0 := (1024, .inl (fun _ => (0 : Int32)))) hx hb (hts (.arrayClass .int) (by decide +kernel)) rfl rfl (fun _ _ h9 => h9) hK hP hD hS hA (fun _ => rfl) (by decide) (by decide) (Nat.le_of_ble_eq_true rfl) (Nat.le_of_ble_eq_true rfl) (Nat.le_of_ble_eq_true rfl) dX7_init_17 (fun n_17 H hP hD hS => ?_)
  have hP : va_P G.1 vwCl [(h, .inr (7, [.ref n_8, .null, .int 0])), (n_8, .inl (G.2 2, 300, .inr (.inl (fun _ => (0 : Int64))))), (n_17, .inl (G.2 0, 1024, .inl (fun _ => (0 : Int32))))] H := hP
  have hD : va_D A [(h, .inr (7, [.ref n_8, .null, .int 0])), (n_8, .inl (G.2 2, 300, .inr (.inl (fun _ => (0 : Int64))))), (n_17, .inl (G.2 0, 1024, .inl (fun _ => (0 : Int32))))] := hD
  refine va_putF (D := G.1) (ci := 7) (v := .ref n_17) (ty := .array .int) (C := RX7) (T := TX7) (N := 3) hx hb hts hinX7 tyX7 tyX7_ok nmX7 hown hK.1 hP hD hS 0 rfl rfl 1 (by decide) hf15 (fun _ h9 => h9) rfl hnm rfl (by decide +kernel) rfl rfl (Nat.le_of_ble_eq_true rfl) dX7_init_19 (fun H locs hP hD hS => ?_)
  have hP : va_P G.1 vwCl [(h, .inr (7, [.ref n_8, .ref n_17, .int 0])), (n_8, .inl (G.2 2, 300, .inr (.inl (fun _ => (0 : Int64))))), (n_17, .inl (G.2 0, 1024, .inl (fun _ => (0 : Int32))))] H := hP
  have hD : va_D A [(h, .inr (7, [.ref n_8, .ref n_17, .int 0])), (n_8, .inl (G.2 2, 300, .inr (.inl (fun _ => (0 : Int64))))), (n_17, .inl (G.2 0, 1024, .inl (fun _ => (0 : Int32))))] := hD
  refine lv_aload_n hx hb dX7_init_22 rfl (lv_at hl 0 rfl) ?_
  refine lv_iconst (v := 0) hx hb dX7_init_23 (by decide) ?_
  refine va_put (D := G.1) (ci := 7) (v := .int (0 : Int32)) (ty := .int) (C := RX7) (T := TX7) (N := 3) hx hb hts hinX7 tyX7 tyX7_ok nmX7 hown hK.1 hP hD hS 0 rfl rfl 2 (by decide) hf19 (fun _ h9 => h9) rfl (by decide +kernel) rfl rfl (Nat.le_of_ble_eq_true rfl) dX7_init_24 (fun H locs hP hD hS => ?_)
  have hP : va_P G.1 vwCl [(h, .inr (7, [.ref n_8, .ref n_17, .int (0 : Int32)])), (n_8, .inl (G.2 2, 300, .inr (.inl (fun _ => (0 : Int64))))), (n_17, .inl (G.2 0, 1024, .inl (fun _ => (0 : Int32))))] H := hP
  have hD : va_D A [(h, .inr (7, [.ref n_8, .ref n_17, .int (0 : Int32)])), (n_8, .inl (G.2 2, 300, .inr (.inl (fun _ => (0 : Int64))))), (n_17, .inl (G.2 0, 1024, .inl (fun _ => (0 : Int32))))] := hD
  exact hret (fun i => ([n_8, n_17] : List Nat).getD i 0) _ _ _ _ _ _ dX7_init_27 hP hD hS (Nat.le_of_ble_eq_true rfl) (Nat.le_of_ble_eq_true rfl)
abbrev rX8_init : Room := { frames := 1, cells := 4, slots := 240, locals := 12 }
theorem eX8_init : yX8_init.cls ≠ "java/lang/invoke/MethodHandle" ∧ yX8_init.cls ≠ "java/lang/invoke/VarHandle" ∧ (parseMethodDescriptor yX8_init.desc).map (fun d => d.parameters.length) = some 0 := by decide +kernel
set_option maxHeartbeats 8000000 in
set_option maxRecDepth 100000 in
theorem c_X8_init (l : Launch) (G : GG) (h : Nat)  (sz : Nat) : CV l yX8_init wsX8_init rX8_init G [.ref h] [(h, .inr (8, [.null, .null, .null, .null]))] sz (fun u => WT G h u (fun _ => (0 : Int64)) (fun _ => (0 : Int64)) (fun _ => (0 : Int64)) (fun _ => (0 : Int32))) := by
  refine enterCV (cc := cX8_init) (maxL := 1) (by decide) rfl (Nat.le_of_ble_eq_true rfl) ?_
  intro p e s m args below meth c A Q hx hb hml hown hts hK hP hD hS hA hnm hret ls hl
  have hown : s.vm.findClass RX8 = some m.cls := hown
  have hinX8 : ∀ w ∈ wsX80, w ∈ wsX8_init := by decide +kernel
  have hf9 := hts (.fieldLink RX8 9 "DigitClaims$Teller" "ways" "[J") (by decide +kernel)
  have hf15 := hts (.fieldLink RX8 15 "DigitClaims$Teller" "freshWays" "[J") (by decide +kernel)
  have hf18 := hts (.fieldLink RX8 18 "DigitClaims$Teller" "leastTo" "[J") (by decide +kernel)
  have hf21 := hts (.fieldLink RX8 21 "DigitClaims$Teller" "waiting" "[I") (by decide +kernel)
  have hl : lv_has ls 1 [(0, .ref h)] := hl
  refine lv_aload_n hx hb dX8_init_0 rfl (lv_at hl 0 rfl) ?_
  refine W.objInit hx hb hown (hts (.methodLink RX8 3 objectInit) (by decide +kernel)) (hts (.instanceMethod objectInit) (by decide +kernel)) (hts _ (List.mem_of_getElem? (i := 3) rfl)) rfl (by rw [hml]; exact hl.1) rfl dX8_init_1 (Nat.le_of_ble_eq_true rfl) (Nat.le_of_ble_eq_true rfl) ?_
  refine W.eq (g2 := F0 m 4 ls []) rfl ?_
  refine lv_aload_n hx hb dX8_init_4 rfl (lv_at hl 0 rfl) ?_
  refine lv_bipush (v := 60) hx hb dX8_init_5 (by decide) ?_
  refine k_newa (G := G) (atype := .long) (t0 := 2) (N' := 60) (a0 := (60, .inr (.inl (fun _ => (0 : Int64))))) hx hb (hts (.arrayClass .long) (by decide +kernel)) rfl rfl (fun _ _ h9 => h9) hK hP hD hS hA (fun _ => rfl) (by decide) (by decide) (Nat.le_of_ble_eq_true rfl) (Nat.le_of_ble_eq_true rfl) (Nat.le_of_ble_eq_true rfl) dX8_init_7 (fun n_7 H hP hD hS => ?_)
  have hP : va_P G.1 vwCl [(h, .inr (8, [.null, .null, .null, .null])), (n_7, .inl (G.2 2, 60, .inr (.inl (fun _ => (0 : Int64)))))] H := hP
  have hD : va_D A [(h, .inr (8, [.null, .null, .null, .null])), (n_7, .inl (G.2 2, 60, .inr (.inl (fun _ => (0 : Int64)))))] := hD
  refine va_putF (D := G.1) (ci := 8) (v := .ref n_7) (ty := .array .long) (C := RX8) (T := TX8) (N := 4) hx hb hts hinX8 tyX8 tyX8_ok nmX8 hown hK.1 hP hD hS 0 rfl rfl 0 (by decide) hf9 (fun _ h9 => h9) rfl hnm rfl (by decide +kernel) rfl rfl (Nat.le_of_ble_eq_true rfl) dX8_init_9 (fun H locs hP hD hS => ?_)
  have hP : va_P G.1 vwCl [(h, .inr (8, [.ref n_7, .null, .null, .null])), (n_7, .inl (G.2 2, 60, .inr (.inl (fun _ => (0 : Int64)))))] H := hP
  have hD : va_D A [(h, .inr (8, [.ref n_7, .null, .null, .null])), (n_7, .inl (G.2 2, 60, .inr (.inl (fun _ => (0 : Int64)))))] := hD
  refine lv_aload_n hx hb dX8_init_12 rfl (lv_at hl 0 rfl) ?_
  refine lv_bipush (v := 60) hx hb dX8_init_13 (by decide) ?_
  refine k_newa (G := G) (atype := .long) (t0 := 2) (N' := 60) (a0 := (60, .inr (.inl (fun _ => (0 : Int64))))) hx hb (hts (.arrayClass .long) (by decide +kernel)) rfl rfl (fun _ _ h9 => h9) hK hP hD hS hA (fun _ => rfl) (by decide) (by decide) (Nat.le_of_ble_eq_true rfl) (Nat.le_of_ble_eq_true rfl) (Nat.le_of_ble_eq_true rfl) dX8_init_15 (fun n_15 H hP hD hS => ?_)
  have hP : va_P G.1 vwCl [(h, .inr (8, [.ref n_7, .null, .null, .null])), (n_7, .inl (G.2 2, 60, .inr (.inl (fun _ => (0 : Int64))))), (n_15, .inl (G.2 2, 60, .inr (.inl (fun _ => (0 : Int64)))))] H := hP
  have hD : va_D A [(h, .inr (8, [.ref n_7, .null, .null, .null])), (n_7, .inl (G.2 2, 60, .inr (.inl (fun _ => (0 : Int64))))), (n_15, .inl (G.2 2, 60, .inr (.inl (fun _ => (0 : Int64)))))] := hD
  refine va_putF (D := G.1) (ci := 8) (v := .ref n_15) (ty := .array .long) (C := RX8) (T := TX8) (N := 4) hx hb hts hinX8 tyX8 tyX8_ok nmX8 hown hK.1 hP hD hS 0 rfl rfl 1 (by decide) hf15 (fun _ h9 => h9) rfl hnm rfl (by decide +kernel) rfl rfl (Nat.le_of_ble_eq_true rfl) dX8_init_17 (fun H locs hP hD hS => ?_)
  have hP : va_P G.1 vwCl [(h, .inr (8, [.ref n_7, .ref n_15, .null, .null])), (n_7, .inl (G.2 2, 60, .inr (.inl (fun _ => (0 : Int64))))), (n_15, .inl (G.2 2, 60, .inr (.inl (fun _ => (0 : Int64)))))] H := hP
  have hD : va_D A [(h, .inr (8, [.ref n_7, .ref n_15, .null, .null])), (n_7, .inl (G.2 2, 60, .inr (.inl (fun _ => (0 : Int64))))), (n_15, .inl (G.2 2, 60, .inr (.inl (fun _ => (0 : Int64)))))] := hD
  refine lv_aload_n hx hb dX8_init_20 rfl (lv_at hl 0 rfl) ?_
  refine lv_bipush (v := 60) hx hb dX8_init_21 (by decide) ?_
  refine k_newa (G := G) (atype := .long) (t0 := 2) (N' := 60) (a0 := (60, .inr (.inl (fun _ => (0 : Int64))))) hx hb (hts (.arrayClass .long) (by decide +kernel)) rfl rfl (fun _ _ h9 => h9) hK hP hD hS hA (fun _ => rfl) (by decide) (by decide) (Nat.le_of_ble_eq_true rfl) (Nat.le_of_ble_eq_true rfl) (Nat.le_of_ble_eq_true rfl) dX8_init_23 (fun n_23 H hP hD hS => ?_)
  have hP : va_P G.1 vwCl [(h, .inr (8, [.ref n_7, .ref n_15, .null, .null])), (n_7, .inl (G.2 2, 60, .inr (.inl (fun _ => (0 : Int64))))), (n_15, .inl (G.2 2, 60, .inr (.inl (fun _ => (0 : Int64))))), (n_23, .inl (G.2 2, 60, .inr (.inl (fun _ => (0 : Int64)))))] H := hP
  have hD : va_D A [(h, .inr (8, [.ref n_7, .ref n_15, .null, .null])), (n_7, .inl (G.2 2, 60, .inr (.inl (fun _ => (0 : Int64))))), (n_15, .inl (G.2 2, 60, .inr (.inl (fun _ => (0 : Int64))))), (n_23, .inl (G.2 2, 60, .inr (.inl (fun _ => (0 : Int64)))))] := hD
  refine va_putF (D := G.1) (ci := 8) (v := .ref n_23) (ty := .array .long) (C := RX8) (T := TX8) (N := 4) hx hb hts hinX8 tyX8 tyX8_ok nmX8 hown hK.1 hP hD hS 0 rfl rfl 2 (by decide) hf18 (fun _ h9 => h9) rfl hnm rfl (by decide +kernel) rfl rfl (Nat.le_of_ble_eq_true rfl) dX8_init_25 (fun H locs hP hD hS => ?_)
  have hP : va_P G.1 vwCl [(h, .inr (8, [.ref n_7, .ref n_15, .ref n_23, .null])), (n_7, .inl (G.2 2, 60, .inr (.inl (fun _ => (0 : Int64))))), (n_15, .inl (G.2 2, 60, .inr (.inl (fun _ => (0 : Int64))))), (n_23, .inl (G.2 2, 60, .inr (.inl (fun _ => (0 : Int64)))))] H := hP
  have hD : va_D A [(h, .inr (8, [.ref n_7, .ref n_15, .ref n_23, .null])), (n_7, .inl (G.2 2, 60, .inr (.inl (fun _ => (0 : Int64))))), (n_15, .inl (G.2 2, 60, .inr (.inl (fun _ => (0 : Int64))))), (n_23, .inl (G.2 2, 60, .inr (.inl (fun _ => (0 : Int64)))))] := hD
  refine lv_aload_n hx hb dX8_init_28 rfl (lv_at hl 0 rfl) ?_
  refine lv_bipush (v := 60) hx hb dX8_init_29 (by decide) ?_
  refine k_newa (G := G) (atype := .int) (t0 := 0) (N' := 60) (a0 := (60, .inl (fun _ => (0 : Int32)))) hx hb (hts (.arrayClass .int) (by decide +kernel)) rfl rfl (fun _ _ h9 => h9) hK hP hD hS hA (fun _ => rfl) (by decide) (by decide) (Nat.le_of_ble_eq_true rfl) (Nat.le_of_ble_eq_true rfl) (Nat.le_of_ble_eq_true rfl) dX8_init_31 (fun n_31 H hP hD hS => ?_)
  have hP : va_P G.1 vwCl [(h, .inr (8, [.ref n_7, .ref n_15, .ref n_23, .null])), (n_7, .inl (G.2 2, 60, .inr (.inl (fun _ => (0 : Int64))))), (n_15, .inl (G.2 2, 60, .inr (.inl (fun _ => (0 : Int64))))), (n_23, .inl (G.2 2, 60, .inr (.inl (fun _ => (0 : Int64))))), (n_31, .inl (G.2 0, 60, .inl (fun _ => (0 : Int32))))] H := hP
  have hD : va_D A [(h, .inr (8, [.ref n_7, .ref n_15, .ref n_23, .null])), (n_7, .inl (G.2 2, 60, .inr (.inl (fun _ => (0 : Int64))))), (n_15, .inl (G.2 2, 60, .inr (.inl (fun _ => (0 : Int64))))), (n_23, .inl (G.2 2, 60, .inr (.inl (fun _ => (0 : Int64))))), (n_31, .inl (G.2 0, 60, .inl (fun _ => (0 : Int32))))] := hD
  refine va_putF (D := G.1) (ci := 8) (v := .ref n_31) (ty := .array .int) (C := RX8) (T := TX8) (N := 4) hx hb hts hinX8 tyX8 tyX8_ok nmX8 hown hK.1 hP hD hS 0 rfl rfl 3 (by decide) hf21 (fun _ h9 => h9) rfl hnm rfl (by decide +kernel) rfl rfl (Nat.le_of_ble_eq_true rfl) dX8_init_33 (fun H locs hP hD hS => ?_)
  have hP : va_P G.1 vwCl [(h, .inr (8, [.ref n_7, .ref n_15, .ref n_23, .ref n_31])), (n_7, .inl (G.2 2, 60, .inr (.inl (fun _ => (0 : Int64))))), (n_15, .inl (G.2 2, 60, .inr (.inl (fun _ => (0 : Int64))))), (n_23, .inl (G.2 2, 60, .inr (.inl (fun _ => (0 : Int64))))), (n_31, .inl (G.2 0, 60, .inl (fun _ => (0 : Int32))))] H := hP
  have hD : va_D A [(h, .inr (8, [.ref n_7, .ref n_15, .ref n_23, .ref n_31])), (n_7, .inl (G.2 2, 60, .inr (.inl (fun _ => (0 : Int64))))), (n_15, .inl (G.2 2, 60, .inr (.inl (fun _ => (0 : Int64))))), (n_23, .inl (G.2 2, 60, .inr (.inl (fun _ => (0 : Int64))))), (n_31, .inl (G.2 0, 60, .inl (fun _ => (0 : Int32))))] := hD
  exact hret (fun i => ([n_7, n_15, n_23, n_31] : List Nat).getD i 0) _ _ _ _ _ _ dX8_init_36 hP hD hS (Nat.le_of_ble_eq_true rfl) (Nat.le_of_ble_eq_true rfl)
abbrev rX1_init : Room := { frames := 1, cells := 8, slots := 564, locals := 12 }
theorem eX1_init : yX1_init.cls ≠ "java/lang/invoke/MethodHandle" ∧ yX1_init.cls ≠ "java/lang/invoke/VarHandle" ∧ (parseMethodDescriptor yX1_init.desc).map (fun d => d.parameters.length) = some 1 := by decide +kernel
set_option maxHeartbeats 8000000 in
set_option maxRecDepth 100000 in
theorem c_X1_init (l : Launch) (G : GG) (h : Nat) (a1 : Nat) (sz : Nat) : CV l yX1_init wsX1_init rX1_init G [.ref h, .ref a1] [(h, .inr (1, [.null, .null, .null, .null, .int 0, .int 0, .null, .null, .null, .null, .null]))] sz (fun u => WD G h a1 u (fun i => u (3 + i)) 32 (fun _ => (0 : Int32)) (fun _ => (0 : Int32)) (fun _ => (0 : Int32)) 32 0 (fun _ => (0 : Int32)) (fun _ => (0 : Int32)) (fun _ => (0 : Int32)) (fun _ => (0 : Int32)) (fun _ => (0 : Int32))) := by
  refine enterCV (cc := cX1_init) (maxL := 2) (by decide) rfl (Nat.le_of_ble_eq_true rfl) ?_
  intro p e s m args below meth c A Q hx hb hml hown hts hK hP hD hS hA hnm hret ls hl
  have hown : s.vm.findClass RX1 = some m.cls := hown
  have hinX1 : ∀ w ∈ wsX10, w ∈ wsX1_init := by decide +kernel
  have hf9 := hts (.fieldLink RX1 9 "DigitClaims$Draft" "stateOf" "[I") (by decide +kernel)
  have hf15 := hts (.fieldLink RX1 15 "DigitClaims$Draft" "kindOf" "[I") (by decide +kernel)
  have hf18 := hts (.fieldLink RX1 18 "DigitClaims$Draft" "order" "[I") (by decide +kernel)
  have hf21 := hts (.fieldLink RX1 21 "DigitClaims$Draft" "rooms" "I") (by decide +kernel)
  have hf25 := hts (.fieldLink RX1 25 "DigitClaims$Draft" "count" "I") (by decide +kernel)
  have hf28 := hts (.fieldLink RX1 28 "DigitClaims$Draft" "next" "[I") (by decide +kernel)
  have hf31 := hts (.fieldLink RX1 31 "DigitClaims$Draft" "says" "[Z") (by decide +kernel)
  have hf35 := hts (.fieldLink RX1 35 "DigitClaims$Draft" "note" "[I") (by decide +kernel)
  have hf38 := hts (.fieldLink RX1 38 "DigitClaims$Draft" "sort" "[I") (by decide +kernel)
  have hf41 := hts (.fieldLink RX1 41 "DigitClaims$Draft" "freshSort" "[I") (by decide +kernel)
  have hf44 := hts (.fieldLink RX1 44 "DigitClaims$Draft" "pairs" "LDigitClaims$PairNumbers;") (by decide +kernel)
  have hl : lv_has ls 2 [(0, .ref h), (1, .ref a1)] := hl
  refine lv_aload_n hx hb dX1_init_0 rfl (lv_at hl 0 rfl) ?_
  refine W.objInit hx hb hown (hts (.methodLink RX1 3 objectInit) (by decide +kernel)) (hts (.instanceMethod objectInit) (by decide +kernel)) (hts _ (List.mem_of_getElem? (i := 3) rfl)) rfl (by rw [hml]; exact hl.1) rfl dX1_init_1 (Nat.le_of_ble_eq_true rfl) (Nat.le_of_ble_eq_true rfl) ?_
  refine W.eq (g2 := F0 m 4 ls []) rfl ?_
  refine lv_aload_n hx hb dX1_init_4 rfl (lv_at hl 0 rfl) ?_
  refine lv_bipush (v := 60) hx hb dX1_init_5 (by decide) ?_
  refine k_newa (G := G) (atype := .int) (t0 := 0) (N' := 60) (a0 := (60, .inl (fun _ => (0 : Int32)))) hx hb (hts (.arrayClass .int) (by decide +kernel)) rfl rfl (fun _ _ h9 => h9) hK hP hD hS hA (fun _ => rfl) (by decide) (by decide) (Nat.le_of_ble_eq_true rfl) (Nat.le_of_ble_eq_true rfl) (Nat.le_of_ble_eq_true rfl) dX1_init_7 (fun n_7 H hP hD hS => ?_)
  have hP : va_P G.1 vwCl [(h, .inr (1, [.null, .null, .null, .null, .int 0, .int 0, .null, .null, .null, .null, .null])), (n_7, .inl (G.2 0, 60, .inl (fun _ => (0 : Int32))))] H := hP
  have hD : va_D A [(h, .inr (1, [.null, .null, .null, .null, .int 0, .int 0, .null, .null, .null, .null, .null])), (n_7, .inl (G.2 0, 60, .inl (fun _ => (0 : Int32))))] := hD
  refine va_putF (D := G.1) (ci := 1) (v := .ref n_7) (ty := .array .int) (C := RX1) (T := TX1) (N := 11) hx hb hts hinX1 tyX1 tyX1_ok nmX1 hown hK.1 hP hD hS 0 rfl rfl 1 (by decide) hf9 (fun _ h9 => h9) rfl hnm rfl (by decide +kernel) rfl rfl (Nat.le_of_ble_eq_true rfl) dX1_init_9 (fun H locs hP hD hS => ?_)
  have hP : va_P G.1 vwCl [(h, .inr (1, [.null, .ref n_7, .null, .null, .int 0, .int 0, .null, .null, .null, .null, .null])), (n_7, .inl (G.2 0, 60, .inl (fun _ => (0 : Int32))))] H := hP
  have hD : va_D A [(h, .inr (1, [.null, .ref n_7, .null, .null, .int 0, .int 0, .null, .null, .null, .null, .null])), (n_7, .inl (G.2 0, 60, .inl (fun _ => (0 : Int32))))] := hD
  refine lv_aload_n hx hb dX1_init_12 rfl (lv_at hl 0 rfl) ?_
  refine lv_bipush (v := 60) hx hb dX1_init_13 (by decide) ?_
  refine k_newa (G := G) (atype := .int) (t0 := 0) (N' := 60) (a0 := (60, .inl (fun _ => (0 : Int32)))) hx hb (hts (.arrayClass .int) (by decide +kernel)) rfl rfl (fun _ _ h9 => h9) hK hP hD hS hA (fun _ => rfl) (by decide) (by decide) (Nat.le_of_ble_eq_true rfl) (Nat.le_of_ble_eq_true rfl) (Nat.le_of_ble_eq_true rfl) dX1_init_15 (fun n_15 H hP hD hS => ?_)
  have hP : va_P G.1 vwCl [(h, .inr (1, [.null, .ref n_7, .null, .null, .int 0, .int 0, .null, .null, .null, .null, .null])), (n_7, .inl (G.2 0, 60, .inl (fun _ => (0 : Int32)))), (n_15, .inl (G.2 0, 60, .inl (fun _ => (0 : Int32))))] H := hP
  have hD : va_D A [(h, .inr (1, [.null, .ref n_7, .null, .null, .int 0, .int 0, .null, .null, .null, .null, .null])), (n_7, .inl (G.2 0, 60, .inl (fun _ => (0 : Int32)))), (n_15, .inl (G.2 0, 60, .inl (fun _ => (0 : Int32))))] := hD
  refine va_putF (D := G.1) (ci := 1) (v := .ref n_15) (ty := .array .int) (C := RX1) (T := TX1) (N := 11) hx hb hts hinX1 tyX1 tyX1_ok nmX1 hown hK.1 hP hD hS 0 rfl rfl 2 (by decide) hf15 (fun _ h9 => h9) rfl hnm rfl (by decide +kernel) rfl rfl (Nat.le_of_ble_eq_true rfl) dX1_init_17 (fun H locs hP hD hS => ?_)
  have hP : va_P G.1 vwCl [(h, .inr (1, [.null, .ref n_7, .ref n_15, .null, .int 0, .int 0, .null, .null, .null, .null, .null])), (n_7, .inl (G.2 0, 60, .inl (fun _ => (0 : Int32)))), (n_15, .inl (G.2 0, 60, .inl (fun _ => (0 : Int32))))] H := hP
  have hD : va_D A [(h, .inr (1, [.null, .ref n_7, .ref n_15, .null, .int 0, .int 0, .null, .null, .null, .null, .null])), (n_7, .inl (G.2 0, 60, .inl (fun _ => (0 : Int32)))), (n_15, .inl (G.2 0, 60, .inl (fun _ => (0 : Int32))))] := hD
  refine lv_aload_n hx hb dX1_init_20 rfl (lv_at hl 0 rfl) ?_
  refine lv_bipush (v := 60) hx hb dX1_init_21 (by decide) ?_
  refine k_newa (G := G) (atype := .int) (t0 := 0) (N' := 60) (a0 := (60, .inl (fun _ => (0 : Int32)))) hx hb (hts (.arrayClass .int) (by decide +kernel)) rfl rfl (fun _ _ h9 => h9) hK hP hD hS hA (fun _ => rfl) (by decide) (by decide) (Nat.le_of_ble_eq_true rfl) (Nat.le_of_ble_eq_true rfl) (Nat.le_of_ble_eq_true rfl) dX1_init_23 (fun n_23 H hP hD hS => ?_)
  have hP : va_P G.1 vwCl [(h, .inr (1, [.null, .ref n_7, .ref n_15, .null, .int 0, .int 0, .null, .null, .null, .null, .null])), (n_7, .inl (G.2 0, 60, .inl (fun _ => (0 : Int32)))), (n_15, .inl (G.2 0, 60, .inl (fun _ => (0 : Int32)))), (n_23, .inl (G.2 0, 60, .inl (fun _ => (0 : Int32))))] H := hP
  have hD : va_D A [(h, .inr (1, [.null, .ref n_7, .ref n_15, .null, .int 0, .int 0, .null, .null, .null, .null, .null])), (n_7, .inl (G.2 0, 60, .inl (fun _ => (0 : Int32)))), (n_15, .inl (G.2 0, 60, .inl (fun _ => (0 : Int32)))), (n_23, .inl (G.2 0, 60, .inl (fun _ => (0 : Int32))))] := hD
  refine va_putF (D := G.1) (ci := 1) (v := .ref n_23) (ty := .array .int) (C := RX1) (T := TX1) (N := 11) hx hb hts hinX1 tyX1 tyX1_ok nmX1 hown hK.1 hP hD hS 0 rfl rfl 3 (by decide) hf18 (fun _ h9 => h9) rfl hnm rfl (by decide +kernel) rfl rfl (Nat.le_of_ble_eq_true rfl) dX1_init_25 (fun H locs hP hD hS => ?_)
  have hP : va_P G.1 vwCl [(h, .inr (1, [.null, .ref n_7, .ref n_15, .ref n_23, .int 0, .int 0, .null, .null, .null, .null, .null])), (n_7, .inl (G.2 0, 60, .inl (fun _ => (0 : Int32)))), (n_15, .inl (G.2 0, 60, .inl (fun _ => (0 : Int32)))), (n_23, .inl (G.2 0, 60, .inl (fun _ => (0 : Int32))))] H := hP
  have hD : va_D A [(h, .inr (1, [.null, .ref n_7, .ref n_15, .ref n_23, .int 0, .int 0, .null, .null, .null, .null, .null])), (n_7, .inl (G.2 0, 60, .inl (fun _ => (0 : Int32)))), (n_15, .inl (G.2 0, 60, .inl (fun _ => (0 : Int32)))), (n_23, .inl (G.2 0, 60, .inl (fun _ => (0 : Int32))))] := hD
  refine lv_aload_n hx hb dX1_init_28 rfl (lv_at hl 0 rfl) ?_
  refine lv_bipush (v := 32) hx hb dX1_init_29 (by decide) ?_
  refine va_put (D := G.1) (ci := 1) (v := .int (32 : Int32)) (ty := .int) (C := RX1) (T := TX1) (N := 11) hx hb hts hinX1 tyX1 tyX1_ok nmX1 hown hK.1 hP hD hS 0 rfl rfl 4 (by decide) hf21 (fun _ h9 => h9) rfl (by decide +kernel) rfl rfl (Nat.le_of_ble_eq_true rfl) dX1_init_31 (fun H locs hP hD hS => ?_)
  have hP : va_P G.1 vwCl [(h, .inr (1, [.null, .ref n_7, .ref n_15, .ref n_23, .int (32 : Int32), .int 0, .null, .null, .null, .null, .null])), (n_7, .inl (G.2 0, 60, .inl (fun _ => (0 : Int32)))), (n_15, .inl (G.2 0, 60, .inl (fun _ => (0 : Int32)))), (n_23, .inl (G.2 0, 60, .inl (fun _ => (0 : Int32))))] H := hP
  have hD : va_D A [(h, .inr (1, [.null, .ref n_7, .ref n_15, .ref n_23, .int (32 : Int32), .int 0, .null, .null, .null, .null, .null])), (n_7, .inl (G.2 0, 60, .inl (fun _ => (0 : Int32)))), (n_15, .inl (G.2 0, 60, .inl (fun _ => (0 : Int32)))), (n_23, .inl (G.2 0, 60, .inl (fun _ => (0 : Int32))))] := hD
  refine lv_aload_n hx hb dX1_init_34 rfl (lv_at hl 0 rfl) ?_
  refine lv_iconst (v := 0) hx hb dX1_init_35 (by decide) ?_
  refine va_put (D := G.1) (ci := 1) (v := .int (0 : Int32)) (ty := .int) (C := RX1) (T := TX1) (N := 11) hx hb hts hinX1 tyX1 tyX1_ok nmX1 hown hK.1 hP hD hS 0 rfl rfl 5 (by decide) hf25 (fun _ h9 => h9) rfl (by decide +kernel) rfl rfl (Nat.le_of_ble_eq_true rfl) dX1_init_36 (fun H locs hP hD hS => ?_)
  have hP : va_P G.1 vwCl [(h, .inr (1, [.null, .ref n_7, .ref n_15, .ref n_23, .int (32 : Int32), .int (0 : Int32), .null, .null, .null, .null, .null])), (n_7, .inl (G.2 0, 60, .inl (fun _ => (0 : Int32)))), (n_15, .inl (G.2 0, 60, .inl (fun _ => (0 : Int32)))), (n_23, .inl (G.2 0, 60, .inl (fun _ => (0 : Int32))))] H := hP
  have hD : va_D A [(h, .inr (1, [.null, .ref n_7, .ref n_15, .ref n_23, .int (32 : Int32), .int (0 : Int32), .null, .null, .null, .null, .null])), (n_7, .inl (G.2 0, 60, .inl (fun _ => (0 : Int32)))), (n_15, .inl (G.2 0, 60, .inl (fun _ => (0 : Int32)))), (n_23, .inl (G.2 0, 60, .inl (fun _ => (0 : Int32))))] := hD
  refine lv_aload_n hx hb dX1_init_39 rfl (lv_at hl 0 rfl) ?_
  refine lv_sipush (v := 256) hx hb dX1_init_40 (by decide) ?_
  refine k_newa (G := G) (atype := .int) (t0 := 0) (N' := 256) (a0 := (256, .inl (fun _ => (0 : Int32)))) hx hb (hts (.arrayClass .int) (by decide +kernel)) rfl rfl (fun _ _ h9 => h9) hK hP hD hS hA (fun _ => rfl) (by decide) (by decide) (Nat.le_of_ble_eq_true rfl) (Nat.le_of_ble_eq_true rfl) (Nat.le_of_ble_eq_true rfl) dX1_init_43 (fun n_43 H hP hD hS => ?_)
  have hP : va_P G.1 vwCl [(h, .inr (1, [.null, .ref n_7, .ref n_15, .ref n_23, .int (32 : Int32), .int (0 : Int32), .null, .null, .null, .null, .null])), (n_7, .inl (G.2 0, 60, .inl (fun _ => (0 : Int32)))), (n_15, .inl (G.2 0, 60, .inl (fun _ => (0 : Int32)))), (n_23, .inl (G.2 0, 60, .inl (fun _ => (0 : Int32)))), (n_43, .inl (G.2 0, 256, .inl (fun _ => (0 : Int32))))] H := hP
  have hD : va_D A [(h, .inr (1, [.null, .ref n_7, .ref n_15, .ref n_23, .int (32 : Int32), .int (0 : Int32), .null, .null, .null, .null, .null])), (n_7, .inl (G.2 0, 60, .inl (fun _ => (0 : Int32)))), (n_15, .inl (G.2 0, 60, .inl (fun _ => (0 : Int32)))), (n_23, .inl (G.2 0, 60, .inl (fun _ => (0 : Int32)))), (n_43, .inl (G.2 0, 256, .inl (fun _ => (0 : Int32))))] := hD
  refine va_put (D := G.1) (ci := 1) (v := .ref n_43) (ty := .array .int) (C := RX1) (T := TX1) (N := 11) hx hb hts hinX1 tyX1 tyX1_ok nmX1 hown hK.1 hP hD hS 0 rfl rfl 6 (by decide) hf28 (fun _ h9 => h9) rfl (by decide +kernel) rfl rfl (Nat.le_of_ble_eq_true rfl) dX1_init_45 (fun H locs hP hD hS => ?_)
  have hP : va_P G.1 vwCl [(h, .inr (1, [.null, .ref n_7, .ref n_15, .ref n_23, .int (32 : Int32), .int (0 : Int32), .ref n_43, .null, .null, .null, .null])), (n_7, .inl (G.2 0, 60, .inl (fun _ => (0 : Int32)))), (n_15, .inl (G.2 0, 60, .inl (fun _ => (0 : Int32)))), (n_23, .inl (G.2 0, 60, .inl (fun _ => (0 : Int32)))), (n_43, .inl (G.2 0, 256, .inl (fun _ => (0 : Int32))))] H := hP
  have hD : va_D A [(h, .inr (1, [.null, .ref n_7, .ref n_15, .ref n_23, .int (32 : Int32), .int (0 : Int32), .ref n_43, .null, .null, .null, .null])), (n_7, .inl (G.2 0, 60, .inl (fun _ => (0 : Int32)))), (n_15, .inl (G.2 0, 60, .inl (fun _ => (0 : Int32)))), (n_23, .inl (G.2 0, 60, .inl (fun _ => (0 : Int32)))), (n_43, .inl (G.2 0, 256, .inl (fun _ => (0 : Int32))))] := hD
  refine lv_aload_n hx hb dX1_init_48 rfl (lv_at hl 0 rfl) ?_
  refine lv_bipush (v := 32) hx hb dX1_init_49 (by decide) ?_
  refine k_newa (G := G) (atype := .boolean) (t0 := 1) (N' := 32) (a0 := (32, .inl (fun _ => (0 : Int32)))) hx hb (hts (.arrayClass .boolean) (by decide +kernel)) rfl rfl (fun _ _ h9 => h9) hK hP hD hS hA (fun _ => rfl) (by decide) (by decide) (Nat.le_of_ble_eq_true rfl) (Nat.le_of_ble_eq_true rfl) (Nat.le_of_ble_eq_true rfl) dX1_init_51 (fun n_51 H hP hD hS => ?_)
  have hP : va_P G.1 vwCl [(h, .inr (1, [.null, .ref n_7, .ref n_15, .ref n_23, .int (32 : Int32), .int (0 : Int32), .ref n_43, .null, .null, .null, .null])), (n_7, .inl (G.2 0, 60, .inl (fun _ => (0 : Int32)))), (n_15, .inl (G.2 0, 60, .inl (fun _ => (0 : Int32)))), (n_23, .inl (G.2 0, 60, .inl (fun _ => (0 : Int32)))), (n_43, .inl (G.2 0, 256, .inl (fun _ => (0 : Int32)))), (n_51, .inl (G.2 1, 32, .inl (fun _ => (0 : Int32))))] H := hP
  have hD : va_D A [(h, .inr (1, [.null, .ref n_7, .ref n_15, .ref n_23, .int (32 : Int32), .int (0 : Int32), .ref n_43, .null, .null, .null, .null])), (n_7, .inl (G.2 0, 60, .inl (fun _ => (0 : Int32)))), (n_15, .inl (G.2 0, 60, .inl (fun _ => (0 : Int32)))), (n_23, .inl (G.2 0, 60, .inl (fun _ => (0 : Int32)))), (n_43, .inl (G.2 0, 256, .inl (fun _ => (0 : Int32)))), (n_51, .inl (G.2 1, 32, .inl (fun _ => (0 : Int32))))] := hD
  refine va_put (D := G.1) (ci := 1) (v := .ref n_51) (ty := .array .boolean) (C := RX1) (T := TX1) (N := 11) hx hb hts hinX1 tyX1 tyX1_ok nmX1 hown hK.1 hP hD hS 0 rfl rfl 7 (by decide) hf31 (fun _ h9 => h9) rfl (by decide +kernel) rfl rfl (Nat.le_of_ble_eq_true rfl) dX1_init_53 (fun H locs hP hD hS => ?_)
  have hP : va_P G.1 vwCl [(h, .inr (1, [.null, .ref n_7, .ref n_15, .ref n_23, .int (32 : Int32), .int (0 : Int32), .ref n_43, .ref n_51, .null, .null, .null])), (n_7, .inl (G.2 0, 60, .inl (fun _ => (0 : Int32)))), (n_15, .inl (G.2 0, 60, .inl (fun _ => (0 : Int32)))), (n_23, .inl (G.2 0, 60, .inl (fun _ => (0 : Int32)))), (n_43, .inl (G.2 0, 256, .inl (fun _ => (0 : Int32)))), (n_51, .inl (G.2 1, 32, .inl (fun _ => (0 : Int32))))] H := hP
  have hD : va_D A [(h, .inr (1, [.null, .ref n_7, .ref n_15, .ref n_23, .int (32 : Int32), .int (0 : Int32), .ref n_43, .ref n_51, .null, .null, .null])), (n_7, .inl (G.2 0, 60, .inl (fun _ => (0 : Int32)))), (n_15, .inl (G.2 0, 60, .inl (fun _ => (0 : Int32)))), (n_23, .inl (G.2 0, 60, .inl (fun _ => (0 : Int32)))), (n_43, .inl (G.2 0, 256, .inl (fun _ => (0 : Int32)))), (n_51, .inl (G.2 1, 32, .inl (fun _ => (0 : Int32))))] := hD
  refine lv_aload_n hx hb dX1_init_56 rfl (lv_at hl 0 rfl) ?_
  refine lv_bipush (v := 32) hx hb dX1_init_57 (by decide) ?_
  refine k_newa (G := G) (atype := .int) (t0 := 0) (N' := 32) (a0 := (32, .inl (fun _ => (0 : Int32)))) hx hb (hts (.arrayClass .int) (by decide +kernel)) rfl rfl (fun _ _ h9 => h9) hK hP hD hS hA (fun _ => rfl) (by decide) (by decide) (Nat.le_of_ble_eq_true rfl) (Nat.le_of_ble_eq_true rfl) (Nat.le_of_ble_eq_true rfl) dX1_init_59 (fun n_59 H hP hD hS => ?_)
  have hP : va_P G.1 vwCl [(h, .inr (1, [.null, .ref n_7, .ref n_15, .ref n_23, .int (32 : Int32), .int (0 : Int32), .ref n_43, .ref n_51, .null, .null, .null])), (n_7, .inl (G.2 0, 60, .inl (fun _ => (0 : Int32)))), (n_15, .inl (G.2 0, 60, .inl (fun _ => (0 : Int32)))), (n_23, .inl (G.2 0, 60, .inl (fun _ => (0 : Int32)))), (n_43, .inl (G.2 0, 256, .inl (fun _ => (0 : Int32)))), (n_51, .inl (G.2 1, 32, .inl (fun _ => (0 : Int32)))), (n_59, .inl (G.2 0, 32, .inl (fun _ => (0 : Int32))))] H := hP
  have hD : va_D A [(h, .inr (1, [.null, .ref n_7, .ref n_15, .ref n_23, .int (32 : Int32), .int (0 : Int32), .ref n_43, .ref n_51, .null, .null, .null])), (n_7, .inl (G.2 0, 60, .inl (fun _ => (0 : Int32)))), (n_15, .inl (G.2 0, 60, .inl (fun _ => (0 : Int32)))), (n_23, .inl (G.2 0, 60, .inl (fun _ => (0 : Int32)))), (n_43, .inl (G.2 0, 256, .inl (fun _ => (0 : Int32)))), (n_51, .inl (G.2 1, 32, .inl (fun _ => (0 : Int32)))), (n_59, .inl (G.2 0, 32, .inl (fun _ => (0 : Int32))))] := hD
  refine va_put (D := G.1) (ci := 1) (v := .ref n_59) (ty := .array .int) (C := RX1) (T := TX1) (N := 11) hx hb hts hinX1 tyX1 tyX1_ok nmX1 hown hK.1 hP hD hS 0 rfl rfl 8 (by decide) hf35 (fun _ h9 => h9) rfl (by decide +kernel) rfl rfl (Nat.le_of_ble_eq_true rfl) dX1_init_61 (fun H locs hP hD hS => ?_)
  have hP : va_P G.1 vwCl [(h, .inr (1, [.null, .ref n_7, .ref n_15, .ref n_23, .int (32 : Int32), .int (0 : Int32), .ref n_43, .ref n_51, .ref n_59, .null, .null])), (n_7, .inl (G.2 0, 60, .inl (fun _ => (0 : Int32)))), (n_15, .inl (G.2 0, 60, .inl (fun _ => (0 : Int32)))), (n_23, .inl (G.2 0, 60, .inl (fun _ => (0 : Int32)))), (n_43, .inl (G.2 0, 256, .inl (fun _ => (0 : Int32)))), (n_51, .inl (G.2 1, 32, .inl (fun _ => (0 : Int32)))), (n_59, .inl (G.2 0, 32, .inl (fun _ => (0 : Int32))))] H := hP
  have hD : va_D A [(h, .inr (1, [.null, .ref n_7, .ref n_15, .ref n_23, .int (32 : Int32), .int (0 : Int32), .ref n_43, .ref n_51, .ref n_59, .null, .null])), (n_7, .inl (G.2 0, 60, .inl (fun _ => (0 : Int32)))), (n_15, .inl (G.2 0, 60, .inl (fun _ => (0 : Int32)))), (n_23, .inl (G.2 0, 60, .inl (fun _ => (0 : Int32)))), (n_43, .inl (G.2 0, 256, .inl (fun _ => (0 : Int32)))), (n_51, .inl (G.2 1, 32, .inl (fun _ => (0 : Int32)))), (n_59, .inl (G.2 0, 32, .inl (fun _ => (0 : Int32))))] := hD
  refine lv_aload_n hx hb dX1_init_64 rfl (lv_at hl 0 rfl) ?_
  refine lv_bipush (v := 32) hx hb dX1_init_65 (by decide) ?_
  refine k_newa (G := G) (atype := .int) (t0 := 0) (N' := 32) (a0 := (32, .inl (fun _ => (0 : Int32)))) hx hb (hts (.arrayClass .int) (by decide +kernel)) rfl rfl (fun _ _ h9 => h9) hK hP hD hS hA (fun _ => rfl) (by decide) (by decide) (Nat.le_of_ble_eq_true rfl) (Nat.le_of_ble_eq_true rfl) (Nat.le_of_ble_eq_true rfl) dX1_init_67 (fun n_67 H hP hD hS => ?_)
  have hP : va_P G.1 vwCl [(h, .inr (1, [.null, .ref n_7, .ref n_15, .ref n_23, .int (32 : Int32), .int (0 : Int32), .ref n_43, .ref n_51, .ref n_59, .null, .null])), (n_7, .inl (G.2 0, 60, .inl (fun _ => (0 : Int32)))), (n_15, .inl (G.2 0, 60, .inl (fun _ => (0 : Int32)))), (n_23, .inl (G.2 0, 60, .inl (fun _ => (0 : Int32)))), (n_43, .inl (G.2 0, 256, .inl (fun _ => (0 : Int32)))), (n_51, .inl (G.2 1, 32, .inl (fun _ => (0 : Int32)))), (n_59, .inl (G.2 0, 32, .inl (fun _ => (0 : Int32)))), (n_67, .inl (G.2 0, 32, .inl (fun _ => (0 : Int32))))] H := hP
  have hD : va_D A [(h, .inr (1, [.null, .ref n_7, .ref n_15, .ref n_23, .int (32 : Int32), .int (0 : Int32), .ref n_43, .ref n_51, .ref n_59, .null, .null])), (n_7, .inl (G.2 0, 60, .inl (fun _ => (0 : Int32)))), (n_15, .inl (G.2 0, 60, .inl (fun _ => (0 : Int32)))), (n_23, .inl (G.2 0, 60, .inl (fun _ => (0 : Int32)))), (n_43, .inl (G.2 0, 256, .inl (fun _ => (0 : Int32)))), (n_51, .inl (G.2 1, 32, .inl (fun _ => (0 : Int32)))), (n_59, .inl (G.2 0, 32, .inl (fun _ => (0 : Int32)))), (n_67, .inl (G.2 0, 32, .inl (fun _ => (0 : Int32))))] := hD
  refine va_put (D := G.1) (ci := 1) (v := .ref n_67) (ty := .array .int) (C := RX1) (T := TX1) (N := 11) hx hb hts hinX1 tyX1 tyX1_ok nmX1 hown hK.1 hP hD hS 0 rfl rfl 9 (by decide) hf38 (fun _ h9 => h9) rfl (by decide +kernel) rfl rfl (Nat.le_of_ble_eq_true rfl) dX1_init_69 (fun H locs hP hD hS => ?_)
  have hP : va_P G.1 vwCl [(h, .inr (1, [.null, .ref n_7, .ref n_15, .ref n_23, .int (32 : Int32), .int (0 : Int32), .ref n_43, .ref n_51, .ref n_59, .ref n_67, .null])), (n_7, .inl (G.2 0, 60, .inl (fun _ => (0 : Int32)))), (n_15, .inl (G.2 0, 60, .inl (fun _ => (0 : Int32)))), (n_23, .inl (G.2 0, 60, .inl (fun _ => (0 : Int32)))), (n_43, .inl (G.2 0, 256, .inl (fun _ => (0 : Int32)))), (n_51, .inl (G.2 1, 32, .inl (fun _ => (0 : Int32)))), (n_59, .inl (G.2 0, 32, .inl (fun _ => (0 : Int32)))), (n_67, .inl (G.2 0, 32, .inl (fun _ => (0 : Int32))))] H := hP
  have hD : va_D A [(h, .inr (1, [.null, .ref n_7, .ref n_15, .ref n_23, .int (32 : Int32), .int (0 : Int32), .ref n_43, .ref n_51, .ref n_59, .ref n_67, .null])), (n_7, .inl (G.2 0, 60, .inl (fun _ => (0 : Int32)))), (n_15, .inl (G.2 0, 60, .inl (fun _ => (0 : Int32)))), (n_23, .inl (G.2 0, 60, .inl (fun _ => (0 : Int32)))), (n_43, .inl (G.2 0, 256, .inl (fun _ => (0 : Int32)))), (n_51, .inl (G.2 1, 32, .inl (fun _ => (0 : Int32)))), (n_59, .inl (G.2 0, 32, .inl (fun _ => (0 : Int32)))), (n_67, .inl (G.2 0, 32, .inl (fun _ => (0 : Int32))))] := hD
  refine lv_aload_n hx hb dX1_init_72 rfl (lv_at hl 0 rfl) ?_
  refine lv_bipush (v := 32) hx hb dX1_init_73 (by decide) ?_
  refine k_newa (G := G) (atype := .int) (t0 := 0) (N' := 32) (a0 := (32, .inl (fun _ => (0 : Int32)))) hx hb (hts (.arrayClass .int) (by decide +kernel)) rfl rfl (fun _ _ h9 => h9) hK hP hD hS hA (fun _ => rfl) (by decide) (by decide) (Nat.le_of_ble_eq_true rfl) (Nat.le_of_ble_eq_true rfl) (Nat.le_of_ble_eq_true rfl) dX1_init_75 (fun n_75 H hP hD hS => ?_)
  have hP : va_P G.1 vwCl [(h, .inr (1, [.null, .ref n_7, .ref n_15, .ref n_23, .int (32 : Int32), .int (0 : Int32), .ref n_43, .ref n_51, .ref n_59, .ref n_67, .null])), (n_7, .inl (G.2 0, 60, .inl (fun _ => (0 : Int32)))), (n_15, .inl (G.2 0, 60, .inl (fun _ => (0 : Int32)))), (n_23, .inl (G.2 0, 60, .inl (fun _ => (0 : Int32)))), (n_43, .inl (G.2 0, 256, .inl (fun _ => (0 : Int32)))), (n_51, .inl (G.2 1, 32, .inl (fun _ => (0 : Int32)))), (n_59, .inl (G.2 0, 32, .inl (fun _ => (0 : Int32)))), (n_67, .inl (G.2 0, 32, .inl (fun _ => (0 : Int32)))), (n_75, .inl (G.2 0, 32, .inl (fun _ => (0 : Int32))))] H := hP
  have hD : va_D A [(h, .inr (1, [.null, .ref n_7, .ref n_15, .ref n_23, .int (32 : Int32), .int (0 : Int32), .ref n_43, .ref n_51, .ref n_59, .ref n_67, .null])), (n_7, .inl (G.2 0, 60, .inl (fun _ => (0 : Int32)))), (n_15, .inl (G.2 0, 60, .inl (fun _ => (0 : Int32)))), (n_23, .inl (G.2 0, 60, .inl (fun _ => (0 : Int32)))), (n_43, .inl (G.2 0, 256, .inl (fun _ => (0 : Int32)))), (n_51, .inl (G.2 1, 32, .inl (fun _ => (0 : Int32)))), (n_59, .inl (G.2 0, 32, .inl (fun _ => (0 : Int32)))), (n_67, .inl (G.2 0, 32, .inl (fun _ => (0 : Int32)))), (n_75, .inl (G.2 0, 32, .inl (fun _ => (0 : Int32))))] := hD
  refine va_put (D := G.1) (ci := 1) (v := .ref n_75) (ty := .array .int) (C := RX1) (T := TX1) (N := 11) hx hb hts hinX1 tyX1 tyX1_ok nmX1 hown hK.1 hP hD hS 0 rfl rfl 10 (by decide) hf41 (fun _ h9 => h9) rfl (by decide +kernel) rfl rfl (Nat.le_of_ble_eq_true rfl) dX1_init_77 (fun H locs hP hD hS => ?_)
  have hP : va_P G.1 vwCl [(h, .inr (1, [.null, .ref n_7, .ref n_15, .ref n_23, .int (32 : Int32), .int (0 : Int32), .ref n_43, .ref n_51, .ref n_59, .ref n_67, .ref n_75])), (n_7, .inl (G.2 0, 60, .inl (fun _ => (0 : Int32)))), (n_15, .inl (G.2 0, 60, .inl (fun _ => (0 : Int32)))), (n_23, .inl (G.2 0, 60, .inl (fun _ => (0 : Int32)))), (n_43, .inl (G.2 0, 256, .inl (fun _ => (0 : Int32)))), (n_51, .inl (G.2 1, 32, .inl (fun _ => (0 : Int32)))), (n_59, .inl (G.2 0, 32, .inl (fun _ => (0 : Int32)))), (n_67, .inl (G.2 0, 32, .inl (fun _ => (0 : Int32)))), (n_75, .inl (G.2 0, 32, .inl (fun _ => (0 : Int32))))] H := hP
  have hD : va_D A [(h, .inr (1, [.null, .ref n_7, .ref n_15, .ref n_23, .int (32 : Int32), .int (0 : Int32), .ref n_43, .ref n_51, .ref n_59, .ref n_67, .ref n_75])), (n_7, .inl (G.2 0, 60, .inl (fun _ => (0 : Int32)))), (n_15, .inl (G.2 0, 60, .inl (fun _ => (0 : Int32)))), (n_23, .inl (G.2 0, 60, .inl (fun _ => (0 : Int32)))), (n_43, .inl (G.2 0, 256, .inl (fun _ => (0 : Int32)))), (n_51, .inl (G.2 1, 32, .inl (fun _ => (0 : Int32)))), (n_59, .inl (G.2 0, 32, .inl (fun _ => (0 : Int32)))), (n_67, .inl (G.2 0, 32, .inl (fun _ => (0 : Int32)))), (n_75, .inl (G.2 0, 32, .inl (fun _ => (0 : Int32))))] := hD
  refine lv_aload_n hx hb dX1_init_80 rfl (lv_at hl 0 rfl) ?_
  refine lv_aload_n hx hb dX1_init_81 rfl (lv_at hl 1 rfl) ?_
  refine va_putF (D := G.1) (ci := 1) (v := .ref a1) (ty := .object "DigitClaims$PairNumbers") (C := RX1) (T := TX1) (N := 11) hx hb hts hinX1 tyX1 tyX1_ok nmX1 hown hK.1 hP hD hS 0 rfl rfl 0 (by decide) hf44 (fun _ h9 => h9) rfl hnm rfl (by decide +kernel) rfl rfl (Nat.le_of_ble_eq_true rfl) dX1_init_82 (fun H locs hP hD hS => ?_)
  have hP : va_P G.1 vwCl [(h, .inr (1, [.ref a1, .ref n_7, .ref n_15, .ref n_23, .int (32 : Int32), .int (0 : Int32), .ref n_43, .ref n_51, .ref n_59, .ref n_67, .ref n_75])), (n_7, .inl (G.2 0, 60, .inl (fun _ => (0 : Int32)))), (n_15, .inl (G.2 0, 60, .inl (fun _ => (0 : Int32)))), (n_23, .inl (G.2 0, 60, .inl (fun _ => (0 : Int32)))), (n_43, .inl (G.2 0, 256, .inl (fun _ => (0 : Int32)))), (n_51, .inl (G.2 1, 32, .inl (fun _ => (0 : Int32)))), (n_59, .inl (G.2 0, 32, .inl (fun _ => (0 : Int32)))), (n_67, .inl (G.2 0, 32, .inl (fun _ => (0 : Int32)))), (n_75, .inl (G.2 0, 32, .inl (fun _ => (0 : Int32))))] H := hP
  have hD : va_D A [(h, .inr (1, [.ref a1, .ref n_7, .ref n_15, .ref n_23, .int (32 : Int32), .int (0 : Int32), .ref n_43, .ref n_51, .ref n_59, .ref n_67, .ref n_75])), (n_7, .inl (G.2 0, 60, .inl (fun _ => (0 : Int32)))), (n_15, .inl (G.2 0, 60, .inl (fun _ => (0 : Int32)))), (n_23, .inl (G.2 0, 60, .inl (fun _ => (0 : Int32)))), (n_43, .inl (G.2 0, 256, .inl (fun _ => (0 : Int32)))), (n_51, .inl (G.2 1, 32, .inl (fun _ => (0 : Int32)))), (n_59, .inl (G.2 0, 32, .inl (fun _ => (0 : Int32)))), (n_67, .inl (G.2 0, 32, .inl (fun _ => (0 : Int32)))), (n_75, .inl (G.2 0, 32, .inl (fun _ => (0 : Int32))))] := hD
  exact hret (fun i => ([n_7, n_15, n_23, n_43, n_51, n_59, n_67, n_75] : List Nat).getD i 0) _ _ _ _ _ _ dX1_init_85 hP hD hS (Nat.le_of_ble_eq_true rfl) (Nat.le_of_ble_eq_true rfl)
abbrev rX4_init : Room := { frames := 1, cells := 0, slots := 0, locals := 12 }
theorem eX4_init : yX4_init.cls ≠ "java/lang/invoke/MethodHandle" ∧ yX4_init.cls ≠ "java/lang/invoke/VarHandle" ∧ (parseMethodDescriptor yX4_init.desc).map (fun d => d.parameters.length) = some 1 := by decide +kernel
set_option maxHeartbeats 8000000 in
set_option maxRecDepth 100000 in
theorem c_X4_init (l : Launch) (G : GG) (h : Nat) (a1 : Nat) (sz : Nat) : CV l yX4_init wsX4_init rX4_init G [.ref h, .ref a1] [(h, .inr (4, [.null]))] sz (fun u => WL G h a1) := by
  refine enterCV (cc := cX4_init) (maxL := 2) (by decide) rfl (Nat.le_of_ble_eq_true rfl) ?_
  intro p e s m args below meth c A Q hx hb hml hown hts hK hP hD hS hA hnm hret ls hl
  have hown : s.vm.findClass RX4 = some m.cls := hown
  have hinX4 : ∀ w ∈ wsX40, w ∈ wsX4_init := by decide +kernel
  have hf9 := hts (.fieldLink RX4 9 "DigitClaims$PlainClaims" "draft" "LDigitClaims$Draft;") (by decide +kernel)
  have hl : lv_has ls 2 [(0, .ref h), (1, .ref a1)] := hl
  refine lv_aload_n hx hb dX4_init_0 rfl (lv_at hl 0 rfl) ?_
  refine W.objInit hx hb hown (hts (.methodLink RX4 3 objectInit) (by decide +kernel)) (hts (.instanceMethod objectInit) (by decide +kernel)) (hts _ (List.mem_of_getElem? (i := 3) rfl)) rfl (by rw [hml]; exact hl.1) rfl dX4_init_1 (Nat.le_of_ble_eq_true rfl) (Nat.le_of_ble_eq_true rfl) ?_
  refine W.eq (g2 := F0 m 4 ls []) rfl ?_
  refine lv_aload_n hx hb dX4_init_4 rfl (lv_at hl 0 rfl) ?_
  refine lv_aload_n hx hb dX4_init_5 rfl (lv_at hl 1 rfl) ?_
  refine va_putF (D := G.1) (ci := 4) (v := .ref a1) (ty := .object "DigitClaims$Draft") (C := RX4) (T := TX4) (N := 1) hx hb hts hinX4 tyX4 tyX4_ok nmX4 hown hK.1 hP hD hS 0 rfl rfl 0 (by decide) hf9 (fun _ h9 => h9) rfl hnm rfl (by decide +kernel) rfl rfl (Nat.le_of_ble_eq_true rfl) dX4_init_6 (fun H locs hP hD hS => ?_)
  have hP : va_P G.1 vwCl [(h, .inr (4, [.ref a1]))] H := hP
  have hD : va_D A [(h, .inr (4, [.ref a1]))] := hD
  exact hret (fun _ => 0) _ _ _ _ _ _ dX4_init_9 hP hD hS (Nat.le_of_ble_eq_true rfl) (Nat.le_of_ble_eq_true rfl)
abbrev rX2_init : Room := { frames := 1, cells := 0, slots := 0, locals := 12 }
theorem eX2_init : yX2_init.cls ≠ "java/lang/invoke/MethodHandle" ∧ yX2_init.cls ≠ "java/lang/invoke/VarHandle" ∧ (parseMethodDescriptor yX2_init.desc).map (fun d => d.parameters.length) = some 2 := by decide +kernel
set_option maxHeartbeats 8000000 in
set_option maxRecDepth 100000 in
theorem c_X2_init (l : Launch) (G : GG) (h : Nat) (a1 : Nat) (a2 : Nat) (sz : Nat) : CV l yX2_init wsX2_init rX2_init G [.ref h, .ref a1, .ref a2] [(h, .inr (2, [.null, .null]))] sz (fun u => WK G h a1 a2) := by
  refine enterCV (cc := cX2_init) (maxL := 3) (by decide) rfl (Nat.le_of_ble_eq_true rfl) ?_
  intro p e s m args below meth c A Q hx hb hml hown hts hK hP hD hS hA hnm hret ls hl
  have hown : s.vm.findClass RX2 = some m.cls := hown
  have hinX2 : ∀ w ∈ wsX20, w ∈ wsX2_init := by decide +kernel
  have hf11 := hts (.fieldLink RX2 11 "DigitClaims$MadeClaims" "draft" "LDigitClaims$Draft;") (by decide +kernel)
  have hf15 := hts (.fieldLink RX2 15 "DigitClaims$MadeClaims" "pairs" "LDigitClaims$PairNumbers;") (by decide +kernel)
  have hl : lv_has ls 3 [(0, .ref h), (1, .ref a1), (2, .ref a2)] := hl
  refine lv_aload_n hx hb dX2_init_0 rfl (lv_at hl 0 rfl) ?_
  refine W.objInit hx hb hown (hts (.methodLink RX2 5 objectInit) (by decide +kernel)) (hts (.instanceMethod objectInit) (by decide +kernel)) (hts _ (List.mem_of_getElem? (i := 3) rfl)) rfl (by rw [hml]; exact hl.1) rfl dX2_init_1 (Nat.le_of_ble_eq_true rfl) (Nat.le_of_ble_eq_true rfl) ?_
  refine W.eq (g2 := F0 m 4 ls []) rfl ?_
  refine lv_aload_n hx hb dX2_init_4 rfl (lv_at hl 0 rfl) ?_
  refine lv_aload_n hx hb dX2_init_5 rfl (lv_at hl 1 rfl) ?_
  refine va_putF (D := G.1) (ci := 2) (v := .ref a1) (ty := .object "DigitClaims$Draft") (C := RX2) (T := TX2) (N := 2) hx hb hts hinX2 tyX2 tyX2_ok nmX2 hown hK.1 hP hD hS 0 rfl rfl 0 (by decide) hf11 (fun _ h9 => h9) rfl hnm rfl (by decide +kernel) rfl rfl (Nat.le_of_ble_eq_true rfl) dX2_init_6 (fun H locs hP hD hS => ?_)
  have hP : va_P G.1 vwCl [(h, .inr (2, [.ref a1, .null]))] H := hP
  have hD : va_D A [(h, .inr (2, [.ref a1, .null]))] := hD
  refine lv_aload_n hx hb dX2_init_9 rfl (lv_at hl 0 rfl) ?_
  refine lv_aload_n hx hb dX2_init_10 rfl (lv_at hl 2 rfl) ?_
  refine va_putF (D := G.1) (ci := 2) (v := .ref a2) (ty := .object "DigitClaims$PairNumbers") (C := RX2) (T := TX2) (N := 2) hx hb hts hinX2 tyX2 tyX2_ok nmX2 hown hK.1 hP hD hS 0 rfl rfl 1 (by decide) hf15 (fun _ h9 => h9) rfl hnm rfl (by decide +kernel) rfl rfl (Nat.le_of_ble_eq_true rfl) dX2_init_11 (fun H locs hP hD hS => ?_)
  have hP : va_P G.1 vwCl [(h, .inr (2, [.ref a1, .ref a2]))] H := hP
  have hD : va_D A [(h, .inr (2, [.ref a1, .ref a2]))] := hD
  exact hret (fun _ => 0) _ _ _ _ _ _ dX2_init_14 hP hD hS (Nat.le_of_ble_eq_true rfl) (Nat.le_of_ble_eq_true rfl)
abbrev rX6_init : Room := { frames := 2, cells := 4, slots := 1807, locals := 32 }
theorem eX6_init : yX6_init.cls ≠ "java/lang/invoke/MethodHandle" ∧ yX6_init.cls ≠ "java/lang/invoke/VarHandle" ∧ (parseMethodDescriptor yX6_init.desc).map (fun d => d.parameters.length) = some 1 := by decide +kernel
set_option maxHeartbeats 8000000 in
set_option maxRecDepth 100000 in
theorem c_X6_init (l : Launch) (G : GG) (h : Nat) (a1 : Nat) (sz : Nat) : CV l yX6_init wsX6_init rX6_init G [.ref h, .ref a1] [(h, .inr (6, [.null, .null, .null, .long 0]))] sz (fun u => [(h, .inr (6, [.ref a1, .ref (u 0), .ref (u 3), .long 0])), ((u 0), .inr (7, [.ref (u 1), .ref (u 2), .int 0])), ((u 1), .inl (G.2 2, 300, .inr (.inl (fun _ => (0 : Int64))))), ((u 2), .inl (G.2 0, 1024, .inl (fun _ => (0 : Int32)))), ((u 3), .inl (G.2 2, 480, .inr (.inl (fun _ => (0 : Int64)))))]) := by
  refine enterCV (cc := cX6_init) (maxL := 2) (by decide) rfl (Nat.le_of_ble_eq_true rfl) ?_
  intro p e s m args below meth c A Q hx hb hml hown hts hK hP hD hS hA hnm hret ls hl
  have hown : s.vm.findClass RX6 = some m.cls := hown
  have hinX6 : ∀ w ∈ wsX60, w ∈ wsX6_init := by decide +kernel
  have hinX7 : ∀ w ∈ wsX70, w ∈ wsX6_init := by decide +kernel
  have hf12 := hts (.fieldLink RX6 12 "DigitClaims$SaidClaims" "sets" "LDigitClaims$SetNumbers;") (by decide +kernel)
  have hf18 := hts (.fieldLink RX6 18 "DigitClaims$SaidClaims" "steps" "[J") (by decide +kernel)
  have hf22 := hts (.fieldLink RX6 22 "DigitClaims$SaidClaims" "yes" "J") (by decide +kernel)
  have hf26 := hts (.fieldLink RX6 26 "DigitClaims$SaidClaims" "draft" "LDigitClaims$Draft;") (by decide +kernel)
  have hl : lv_has ls 2 [(0, .ref h), (1, .ref a1)] := hl
  refine lv_aload_n hx hb dX6_init_0 rfl (lv_at hl 0 rfl) ?_
  refine W.objInit hx hb hown (hts (.methodLink RX6 3 objectInit) (by decide +kernel)) (hts (.instanceMethod objectInit) (by decide +kernel)) (hts _ (List.mem_of_getElem? (i := 3) rfl)) rfl (by rw [hml]; exact hl.1) rfl dX6_init_1 (Nat.le_of_ble_eq_true rfl) (Nat.le_of_ble_eq_true rfl) ?_
  refine W.eq (g2 := F0 m 4 ls []) rfl ?_
  refine lv_aload_n hx hb dX6_init_4 rfl (lv_at hl 0 rfl) ?_
  refine va_new (D := G.1) (ci := 7) (fs := [.null, .null, .int 0]) (C := RX7) (T := TX7) (N := 3) hx hb hts hinX7 tyX7 tyX7_ok hown (hts (.classLink RX6 9 RX7) (by decide +kernel)) (hts (.instantiable RX7 3) (by decide +kernel)) (hts (.initialized RX7) (by decide +kernel)) hK.1 hP hD hS hA rfl dfX7 (Nat.le_of_ble_eq_true rfl) (Nat.le_of_ble_eq_true rfl) dX6_init_5 (fun n_5 H hP hD hS => ?_)
  have hP : va_P G.1 vwCl [(h, .inr (6, [.null, .null, .null, .long 0])), (n_5, .inr (7, [.null, .null, .int 0]))] H := hP
  have hD : va_D A [(h, .inr (6, [.null, .null, .null, .long 0])), (n_5, .inr (7, [.null, .null, .int 0]))] := hD
  refine lv_dup hx hb dX6_init_8 rfl ?_
  refine k_cv (ww := [(h, .inr (6, [.null, .null, .null, .long 0])), (n_5, .inr (7, [.null, .null, .int 0]))]) (wc := [(n_5, .inr (7, [.null, .null, .int 0]))]) (wr := [(h, .inr (6, [.null, .null, .null, .long 0]))]) (va_runIN (As := []) (rest := [.ref n_5, .ref h]) ⟨hx, hb, hml, hown, hts⟩ (c_X7_init l G n_5  _) ⟨va_cnB 0 hts gX6_init_X7_init_n11 rfl rfl rfl (hK.2 _ (List.mem_of_getElem? (i := 9) rfl)) (hts (.initialized RX7) (by decide +kernel)) eX7_init ⟨Nat.le_of_ble_eq_true rfl, Nat.le_of_ble_eq_true rfl⟩, rfl, hts (.instanceMethod yX7_init) (by decide +kernel)⟩ (preWS hK (hP.sub (ws' := [(n_5, .inr (7, [.null, .null, .int 0]))]) [1] rfl) (hD.sub (ws' := [(n_5, .inr (7, [.null, .null, .int 0]))]) [1] (by decide) rfl)) rfl rfl hl.1 rfl (lv_room (Nat.le_of_ble_eq_true rfl)) dX6_init_9 ⟨Nat.le_of_ble_eq_true rfl, Nat.le_of_ble_eq_true rfl⟩) hP hD hS hA [1] [0] rfl rfl (by decide) (by decide) (fun u_9 H locs hP hD hS => ?_)
  have hP : va_P G.1 vwCl [(h, .inr (6, [.null, .null, .null, .long 0])), (n_5, .inr (7, [.ref (u_9 0), .ref (u_9 1), .int 0])), ((u_9 0), .inl (G.2 2, 300, .inr (.inl (fun _ => (0 : Int64))))), ((u_9 1), .inl (G.2 0, 1024, .inl (fun _ => (0 : Int32))))] H := hP
  have hD : va_D A [(h, .inr (6, [.null, .null, .null, .long 0])), (n_5, .inr (7, [.ref (u_9 0), .ref (u_9 1), .int 0])), ((u_9 0), .inl (G.2 2, 300, .inr (.inl (fun _ => (0 : Int64))))), ((u_9 1), .inl (G.2 0, 1024, .inl (fun _ => (0 : Int32))))] := hD
  refine va_putF (D := G.1) (ci := 6) (v := .ref n_5) (ty := .object "DigitClaims$SetNumbers") (C := RX6) (T := TX6) (N := 4) hx hb hts hinX6 tyX6 tyX6_ok nmX6 hown hK.1 hP hD hS 0 rfl rfl 1 (by decide) hf12 (fun _ h9 => h9) rfl hnm rfl (by decide +kernel) rfl rfl (Nat.le_of_ble_eq_true rfl) dX6_init_12 (fun H locs hP hD hS => ?_)
  have hP : va_P G.1 vwCl [(h, .inr (6, [.null, .ref n_5, .null, .long 0])), (n_5, .inr (7, [.ref (u_9 0), .ref (u_9 1), .int 0])), ((u_9 0), .inl (G.2 2, 300, .inr (.inl (fun _ => (0 : Int64))))), ((u_9 1), .inl (G.2 0, 1024, .inl (fun _ => (0 : Int32))))] H := hP
  have hD : va_D A [(h, .inr (6, [.null, .ref n_5, .null, .long 0])), (n_5, .inr (7, [.ref (u_9 0), .ref (u_9 1), .int 0])), ((u_9 0), .inl (G.2 2, 300, .inr (.inl (fun _ => (0 : Int64))))), ((u_9 1), .inl (G.2 0, 1024, .inl (fun _ => (0 : Int32))))] := hD
  refine lv_aload_n hx hb dX6_init_15 rfl (lv_at hl 0 rfl) ?_
  refine lv_sipush (v := 480) hx hb dX6_init_16 (by decide) ?_
  refine k_newa (G := G) (atype := .long) (t0 := 2) (N' := 480) (a0 := (480, .inr (.inl (fun _ => (0 : Int64))))) hx hb (hts (.arrayClass .long) (by decide +kernel)) rfl rfl (fun _ _ h9 => h9) hK hP hD hS hA (fun _ => rfl) (by decide) (by decide) (Nat.le_of_ble_eq_true rfl) (Nat.le_of_ble_eq_true rfl) (Nat.le_of_ble_eq_true rfl) dX6_init_19 (fun n_19 H hP hD hS => ?_)
  have hP : va_P G.1 vwCl [(h, .inr (6, [.null, .ref n_5, .null, .long 0])), (n_5, .inr (7, [.ref (u_9 0), .ref (u_9 1), .int 0])), ((u_9 0), .inl (G.2 2, 300, .inr (.inl (fun _ => (0 : Int64))))), ((u_9 1), .inl (G.2 0, 1024, .inl (fun _ => (0 : Int32)))), (n_19, .inl (G.2 2, 480, .inr (.inl (fun _ => (0 : Int64)))))] H := hP
  have hD : va_D A [(h, .inr (6, [.null, .ref n_5, .null, .long 0])), (n_5, .inr (7, [.ref (u_9 0), .ref (u_9 1), .int 0])), ((u_9 0), .inl (G.2 2, 300, .inr (.inl (fun _ => (0 : Int64))))), ((u_9 1), .inl (G.2 0, 1024, .inl (fun _ => (0 : Int32)))), (n_19, .inl (G.2 2, 480, .inr (.inl (fun _ => (0 : Int64)))))] := hD
  refine va_putF (D := G.1) (ci := 6) (v := .ref n_19) (ty := .array .long) (C := RX6) (T := TX6) (N := 4) hx hb hts hinX6 tyX6 tyX6_ok nmX6 hown hK.1 hP hD hS 0 rfl rfl 2 (by decide) hf18 (fun _ h9 => h9) rfl hnm rfl (by decide +kernel) rfl rfl (Nat.le_of_ble_eq_true rfl) dX6_init_21 (fun H locs hP hD hS => ?_)
  have hP : va_P G.1 vwCl [(h, .inr (6, [.null, .ref n_5, .ref n_19, .long 0])), (n_5, .inr (7, [.ref (u_9 0), .ref (u_9 1), .int 0])), ((u_9 0), .inl (G.2 2, 300, .inr (.inl (fun _ => (0 : Int64))))), ((u_9 1), .inl (G.2 0, 1024, .inl (fun _ => (0 : Int32)))), (n_19, .inl (G.2 2, 480, .inr (.inl (fun _ => (0 : Int64)))))] H := hP
  have hD : va_D A [(h, .inr (6, [.null, .ref n_5, .ref n_19, .long 0])), (n_5, .inr (7, [.ref (u_9 0), .ref (u_9 1), .int 0])), ((u_9 0), .inl (G.2 2, 300, .inr (.inl (fun _ => (0 : Int64))))), ((u_9 1), .inl (G.2 0, 1024, .inl (fun _ => (0 : Int32)))), (n_19, .inl (G.2 2, 480, .inr (.inl (fun _ => (0 : Int64)))))] := hD
  refine lv_aload_n hx hb dX6_init_24 rfl (lv_at hl 0 rfl) ?_
  refine lv_lconst (v := 0) hx hb dX6_init_25 (by decide) ?_
  refine va_put (D := G.1) (ci := 6) (v := .long (0 : Int64)) (ty := .long) (C := RX6) (T := TX6) (N := 4) hx hb hts hinX6 tyX6 tyX6_ok nmX6 hown hK.1 hP hD hS 0 rfl rfl 3 (by decide) hf22 (fun _ h9 => h9) rfl (by decide +kernel) rfl rfl (Nat.le_of_ble_eq_true rfl) dX6_init_26 (fun H locs hP hD hS => ?_)
  have hP : va_P G.1 vwCl [(h, .inr (6, [.null, .ref n_5, .ref n_19, .long (0 : Int64)])), (n_5, .inr (7, [.ref (u_9 0), .ref (u_9 1), .int 0])), ((u_9 0), .inl (G.2 2, 300, .inr (.inl (fun _ => (0 : Int64))))), ((u_9 1), .inl (G.2 0, 1024, .inl (fun _ => (0 : Int32)))), (n_19, .inl (G.2 2, 480, .inr (.inl (fun _ => (0 : Int64)))))] H := hP
  have hD : va_D A [(h, .inr (6, [.null, .ref n_5, .ref n_19, .long (0 : Int64)])), (n_5, .inr (7, [.ref (u_9 0), .ref (u_9 1), .int 0])), ((u_9 0), .inl (G.2 2, 300, .inr (.inl (fun _ => (0 : Int64))))), ((u_9 1), .inl (G.2 0, 1024, .inl (fun _ => (0 : Int32)))), (n_19, .inl (G.2 2, 480, .inr (.inl (fun _ => (0 : Int64)))))] := hD
  refine lv_aload_n hx hb dX6_init_29 rfl (lv_at hl 0 rfl) ?_
  refine lv_aload_n hx hb dX6_init_30 rfl (lv_at hl 1 rfl) ?_
  refine va_putF (D := G.1) (ci := 6) (v := .ref a1) (ty := .object "DigitClaims$Draft") (C := RX6) (T := TX6) (N := 4) hx hb hts hinX6 tyX6 tyX6_ok nmX6 hown hK.1 hP hD hS 0 rfl rfl 0 (by decide) hf26 (fun _ h9 => h9) rfl hnm rfl (by decide +kernel) rfl rfl (Nat.le_of_ble_eq_true rfl) dX6_init_31 (fun H locs hP hD hS => ?_)
  have hP : va_P G.1 vwCl [(h, .inr (6, [.ref a1, .ref n_5, .ref n_19, .long (0 : Int64)])), (n_5, .inr (7, [.ref (u_9 0), .ref (u_9 1), .int 0])), ((u_9 0), .inl (G.2 2, 300, .inr (.inl (fun _ => (0 : Int64))))), ((u_9 1), .inl (G.2 0, 1024, .inl (fun _ => (0 : Int32)))), (n_19, .inl (G.2 2, 480, .inr (.inl (fun _ => (0 : Int64)))))] H := hP
  have hD : va_D A [(h, .inr (6, [.ref a1, .ref n_5, .ref n_19, .long (0 : Int64)])), (n_5, .inr (7, [.ref (u_9 0), .ref (u_9 1), .int 0])), ((u_9 0), .inl (G.2 2, 300, .inr (.inl (fun _ => (0 : Int64))))), ((u_9 1), .inl (G.2 0, 1024, .inl (fun _ => (0 : Int32)))), (n_19, .inl (G.2 2, 480, .inr (.inl (fun _ => (0 : Int64)))))] := hD
  exact hret (fun i => ([n_5, (u_9 0), (u_9 1), n_19] : List Nat).getD i 0) _ _ _ _ _ _ dX6_init_34 hP hD hS (Nat.le_of_ble_eq_true rfl) (Nat.le_of_ble_eq_true rfl)
