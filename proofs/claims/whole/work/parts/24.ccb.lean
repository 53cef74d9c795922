abbrev rX1_makeRoom (ms1 : Nat) : Room := { frames := 1, cells := 5, slots := ms1, locals := 21 }
set_option maxHeartbeats 4000000 in
set_option maxRecDepth 100000 in
theorem c_X1_makeRoom (l : Launch) (G : GG) (d_h : Nat) (d_hp : Nat) (d_q : Nat → Nat) (d_a : Nat → Nat) (d_rm : Nat) (d_stateOf : AI) (d_kindOf : AI) (d_order : AI) (d_rooms : Int32) (d_count : Int32) (d_next : AI) (d_says : AI) (d_note : AI) (d_sort : AI) (d_freshSort : AI)  (v1 : Int32) (rmx1 : Nat) (ms1 : Nat) (hms1 : rmx1 = d_rm ∨ 12 * rmx1 ≤ ms1) (sz : Nat) (d_rm_z : Nat) (d_rooms_z : Int32) (d_next_z : AI) (d_says_z : AI) (d_note_z : AI) (d_sort_z : AI) (d_freshSort_z : AI) (h : p_X1_makeRoom d_rm d_rooms d_next d_says d_note d_sort d_freshSort rmx1 v1 = some (d_rm_z, d_rooms_z, d_next_z, d_says_z, d_note_z, d_sort_z, d_freshSort_z)) : CV l yX1_makeRoom wsX1_makeRoom (rX1_makeRoom ms1) G [.ref d_h, .int v1] (WD G d_h d_hp d_q d_a d_rm d_stateOf d_kindOf d_order d_rooms d_count d_next d_says d_note d_sort d_freshSort) sz (fun u => WD G d_h d_hp d_q u d_rm_z d_stateOf d_kindOf d_order d_rooms_z d_count d_next_z d_says_z d_note_z d_sort_z d_freshSort_z) := by
  refine enterCV (cc := cX1_makeRoom) (maxL := 2) (by decide) rfl (Nat.le_of_ble_eq_true rfl) ?_
  intro p e s m args below meth c A Q hx hb hml hown hts hK hP hD hS hA hnm hret ls hl
  have hown : s.vm.findClass RX1 = some m.cls := hown
  have hf21 := hts (.fieldLink RX1 21 "DigitClaims$Draft" "rooms" "I") (by decide +kernel)
  have hf28 := hts (.fieldLink RX1 28 "DigitClaims$Draft" "next" "[I") (by decide +kernel)
  have hf31 := hts (.fieldLink RX1 31 "DigitClaims$Draft" "says" "[Z") (by decide +kernel)
  have hf35 := hts (.fieldLink RX1 35 "DigitClaims$Draft" "note" "[I") (by decide +kernel)
  have hf38 := hts (.fieldLink RX1 38 "DigitClaims$Draft" "sort" "[I") (by decide +kernel)
  have hf41 := hts (.fieldLink RX1 41 "DigitClaims$Draft" "freshSort" "[I") (by decide +kernel)
  have hinX1 : ∀ w ∈ wsX10, w ∈ wsX1_makeRoom := by decide +kernel
  have hl : lv_has ls 2 [(0, .ref d_h), (1, .int v1)] := hl
  unfold p_X1_makeRoom at h
  refine lv_iload_n hx hb dX1_makeRoom_0 rfl (lv_at hl 1 rfl) ?_
  refine lv_aload_n hx hb dX1_makeRoom_1 rfl (lv_at hl 0 rfl) ?_
  refine va_get (D := G.1) (ci := 1) (v := .int d_rooms) (C := RX1) (T := TX1) (N := 11) hx hb hts hinX1 hown hK.1 hP 0 rfl rfl 4 (by decide) hf21 (fun _ h9 => h9) rfl dX1_makeRoom_2 ?_
  refine lv_icmp_gt (tgt := 9) hx hb dX1_makeRoom_5 (by decide) (fun c_5 => ?_) (fun c_5 => ?_)
  · replace h := (if_pos c_5).symm.trans h
    refine lv_aload_n hx hb dX1_makeRoom_9 rfl (lv_at hl 0 rfl) ?_
    refine lv_sipush (v := 3600) hx hb dX1_makeRoom_10 (by decide) ?_
    refine lv_iload_n hx hb dX1_makeRoom_13 rfl (lv_at hl 1 rfl) ?_
    refine lv_iconst (v := 2) hx hb dX1_makeRoom_14 (by decide) ?_
    refine lv_aload_n hx hb dX1_makeRoom_15 rfl (lv_at hl 0 rfl) ?_
    refine va_get (D := G.1) (ci := 1) (v := .int d_rooms) (C := RX1) (T := TX1) (N := 11) hx hb hts hinX1 hown hK.1 hP 0 rfl rfl 4 (by decide) hf21 (fun _ h9 => h9) rfl dX1_makeRoom_16 ?_
    refine lv_imul hx hb dX1_makeRoom_19 ?_
    refine va_mmax hx hb (hml.trans hl.1.symm) hown (hts (.methodLink RX1 48 Lib.Math.max.name) (by decide +kernel)) (hts (.static Lib.Math.max.name) (by decide +kernel)) (hts (.initialized "java/lang/Math") (by decide +kernel)) (hts (.code Lib.Math.max.name Lib.Math.max.code 2 (some .int)) (by decide +kernel)) (Nat.le_of_ble_eq_true rfl) (Nat.le_of_ble_eq_true rfl) (Nat.le_of_ble_eq_true rfl) (by show 0 ≤ ms1; omega) dX1_makeRoom_20 ?_
    refine va_mmin hx hb (hml.trans hl.1.symm) hown (hts (.methodLink RX1 54 Lib.Math.min.name) (by decide +kernel)) (hts (.static Lib.Math.min.name) (by decide +kernel)) (hts (.initialized "java/lang/Math") (by decide +kernel)) (hts (.code Lib.Math.min.name Lib.Math.min.code 2 (some .int)) (by decide +kernel)) (Nat.le_of_ble_eq_true rfl) (Nat.le_of_ble_eq_true rfl) (Nat.le_of_ble_eq_true rfl) (by show 0 ≤ ms1; omega) dX1_makeRoom_23 ?_
    refine va_put (D := G.1) (ci := 1) (v := .int (if (if v1 < ((2 : Int32) * d_rooms) then ((2 : Int32) * d_rooms) else v1) < (3600 : Int32) then (if v1 < ((2 : Int32) * d_rooms) then ((2 : Int32) * d_rooms) else v1) else (3600 : Int32))) (ty := .int) (C := RX1) (T := TX1) (N := 11) hx hb hts hinX1 tyX1 tyX1_ok nmX1 hown hK.1 hP hD hS 0 rfl rfl 4 (by decide) hf21 (fun _ h9 => h9) rfl (by decide +kernel) rfl rfl (Nat.le_of_ble_eq_true rfl) dX1_makeRoom_26 (fun H locs hP hD hS => ?_)
    have hP : va_P G.1 vwCl (WD G d_h d_hp d_q d_a d_rm d_stateOf d_kindOf d_order (if (if v1 < ((2 : Int32) * d_rooms) then ((2 : Int32) * d_rooms) else v1) < (3600 : Int32) then (if v1 < ((2 : Int32) * d_rooms) then ((2 : Int32) * d_rooms) else v1) else (3600 : Int32)) d_count d_next d_says d_note d_sort d_freshSort) H := hP
    have hD : va_D A (WD G d_h d_hp d_q d_a d_rm d_stateOf d_kindOf d_order (if (if v1 < ((2 : Int32) * d_rooms) then ((2 : Int32) * d_rooms) else v1) < (3600 : Int32) then (if v1 < ((2 : Int32) * d_rooms) then ((2 : Int32) * d_rooms) else v1) else (3600 : Int32)) d_count d_next d_says d_note d_sort d_freshSort) := hD
    refine lv_aload_n hx hb dX1_makeRoom_29 rfl (lv_at hl 0 rfl) ?_
    refine lv_aload_n hx hb dX1_makeRoom_30 rfl (lv_at hl 0 rfl) ?_
    refine va_get (D := G.1) (ci := 1) (v := .int (if (if v1 < ((2 : Int32) * d_rooms) then ((2 : Int32) * d_rooms) else v1) < (3600 : Int32) then (if v1 < ((2 : Int32) * d_rooms) then ((2 : Int32) * d_rooms) else v1) else (3600 : Int32))) (C := RX1) (T := TX1) (N := 11) hx hb hts hinX1 hown hK.1 hP 0 rfl rfl 4 (by decide) hf21 (fun _ h9 => h9) rfl dX1_makeRoom_31 ?_
    refine lv_bipush (v := 8) hx hb dX1_makeRoom_34 (by decide) ?_
    refine lv_imul hx hb dX1_makeRoom_36 ?_
    obtain ⟨⟨gm1, gm2, gm3, gm4, gm5⟩, h⟩ := gm_e h
    obtain ⟨rfl, rfl, rfl, rfl, rfl, rfl, rfl⟩ := oi7 h
    have hms : 12 * (if (if v1 < ((2 : Int32) * d_rooms) then ((2 : Int32) * d_rooms) else v1) < (3600 : Int32) then (if v1 < ((2 : Int32) * d_rooms) then ((2 : Int32) * d_rooms) else v1) else (3600 : Int32)).toNatClampNeg ≤ ms1 := by rw [← gm5]; exact hms1.elim (fun q => absurd q (by omega)) id
    have hle := gm_le gm3
    refine k_newa (G := G) (atype := .int) (t0 := 0) (N' := 8 * (if (if v1 < ((2 : Int32) * d_rooms) then ((2 : Int32) * d_rooms) else v1) < (3600 : Int32) then (if v1 < ((2 : Int32) * d_rooms) then ((2 : Int32) * d_rooms) else v1) else (3600 : Int32)).toNatClampNeg) (a0 := (8 * (if (if v1 < ((2 : Int32) * d_rooms) then ((2 : Int32) * d_rooms) else v1) < (3600 : Int32) then (if v1 < ((2 : Int32) * d_rooms) then ((2 : Int32) * d_rooms) else v1) else (3600 : Int32)).toNatClampNeg, .inl (fun _ => 0))) hx hb (hts (.arrayClass .int) (by decide +kernel)) rfl rfl (fun _ _ h9 => h9) hK hP hD hS hA (fun _ => rfl) (gm_8 gm1 gm3) gm2 (by show _ * 4 ≤ _; omega) (by show _ ≤ 5; omega) (by show _ ≤ ms1; omega) dX1_makeRoom_37 (fun n_37 H hP hD hS => ?_)
    have hP : va_P G.1 vwCl ((WD G d_h d_hp d_q d_a d_rm d_stateOf d_kindOf d_order (if (if v1 < ((2 : Int32) * d_rooms) then ((2 : Int32) * d_rooms) else v1) < (3600 : Int32) then (if v1 < ((2 : Int32) * d_rooms) then ((2 : Int32) * d_rooms) else v1) else (3600 : Int32)) d_count d_next d_says d_note d_sort d_freshSort) ++ ([(n_37, .inl (G.2 0, 8 * (if (if v1 < ((2 : Int32) * d_rooms) then ((2 : Int32) * d_rooms) else v1) < (3600 : Int32) then (if v1 < ((2 : Int32) * d_rooms) then ((2 : Int32) * d_rooms) else v1) else (3600 : Int32)).toNatClampNeg, .inl (fun _ => 0)))])) H := hP
    have hD : va_D A ((WD G d_h d_hp d_q d_a d_rm d_stateOf d_kindOf d_order (if (if v1 < ((2 : Int32) * d_rooms) then ((2 : Int32) * d_rooms) else v1) < (3600 : Int32) then (if v1 < ((2 : Int32) * d_rooms) then ((2 : Int32) * d_rooms) else v1) else (3600 : Int32)) d_count d_next d_says d_note d_sort d_freshSort) ++ ([(n_37, .inl (G.2 0, 8 * (if (if v1 < ((2 : Int32) * d_rooms) then ((2 : Int32) * d_rooms) else v1) < (3600 : Int32) then (if v1 < ((2 : Int32) * d_rooms) then ((2 : Int32) * d_rooms) else v1) else (3600 : Int32)).toNatClampNeg, .inl (fun _ => 0)))])) := hD
    refine va_put (D := G.1) (ci := 1) (v := .ref n_37) (ty := (.array .int)) (C := RX1) (T := TX1) (N := 11) hx hb hts hinX1 tyX1 tyX1_ok nmX1 hown hK.1 hP hD hS 0 rfl rfl 6 (by decide) hf28 (fun _ h9 => h9) rfl (by decide +kernel) rfl rfl (Nat.le_of_ble_eq_true rfl) dX1_makeRoom_39 (fun H locs hP hD hS => ?_)
    have hP : va_P G.1 vwCl (([(d_h, .inr (1, [.ref (d_hp), .ref (d_q 0), .ref (d_q 1), .ref (d_q 2), .int (if (if v1 < ((2 : Int32) * d_rooms) then ((2 : Int32) * d_rooms) else v1) < (3600 : Int32) then (if v1 < ((2 : Int32) * d_rooms) then ((2 : Int32) * d_rooms) else v1) else (3600 : Int32)), .int d_count, .ref (n_37), .ref (d_a 1), .ref (d_a 2), .ref (d_a 3), .ref (d_a 4)])), (d_q 0, .inl (G.2 0, 60, .inl d_stateOf)), (d_q 1, .inl (G.2 0, 60, .inl d_kindOf)), (d_q 2, .inl (G.2 0, 60, .inl d_order)), (d_a 0, .inl (G.2 0, 8 * d_rm, .inl d_next)), (d_a 1, .inl (G.2 1, d_rm, .inl d_says)), (d_a 2, .inl (G.2 0, d_rm, .inl d_note)), (d_a 3, .inl (G.2 0, d_rm, .inl d_sort)), (d_a 4, .inl (G.2 0, d_rm, .inl d_freshSort))]) ++ ([(n_37, .inl (G.2 0, 8 * (if (if v1 < ((2 : Int32) * d_rooms) then ((2 : Int32) * d_rooms) else v1) < (3600 : Int32) then (if v1 < ((2 : Int32) * d_rooms) then ((2 : Int32) * d_rooms) else v1) else (3600 : Int32)).toNatClampNeg, .inl (fun _ => 0)))])) H := hP
    have hD : va_D A (([(d_h, .inr (1, [.ref (d_hp), .ref (d_q 0), .ref (d_q 1), .ref (d_q 2), .int (if (if v1 < ((2 : Int32) * d_rooms) then ((2 : Int32) * d_rooms) else v1) < (3600 : Int32) then (if v1 < ((2 : Int32) * d_rooms) then ((2 : Int32) * d_rooms) else v1) else (3600 : Int32)), .int d_count, .ref (n_37), .ref (d_a 1), .ref (d_a 2), .ref (d_a 3), .ref (d_a 4)])), (d_q 0, .inl (G.2 0, 60, .inl d_stateOf)), (d_q 1, .inl (G.2 0, 60, .inl d_kindOf)), (d_q 2, .inl (G.2 0, 60, .inl d_order)), (d_a 0, .inl (G.2 0, 8 * d_rm, .inl d_next)), (d_a 1, .inl (G.2 1, d_rm, .inl d_says)), (d_a 2, .inl (G.2 0, d_rm, .inl d_note)), (d_a 3, .inl (G.2 0, d_rm, .inl d_sort)), (d_a 4, .inl (G.2 0, d_rm, .inl d_freshSort))]) ++ ([(n_37, .inl (G.2 0, 8 * (if (if v1 < ((2 : Int32) * d_rooms) then ((2 : Int32) * d_rooms) else v1) < (3600 : Int32) then (if v1 < ((2 : Int32) * d_rooms) then ((2 : Int32) * d_rooms) else v1) else (3600 : Int32)).toNatClampNeg, .inl (fun _ => 0)))])) := hD
    refine lv_aload_n hx hb dX1_makeRoom_42 rfl (lv_at hl 0 rfl) ?_
    refine lv_aload_n hx hb dX1_makeRoom_43 rfl (lv_at hl 0 rfl) ?_
    refine va_get (D := G.1) (ci := 1) (v := .int (if (if v1 < ((2 : Int32) * d_rooms) then ((2 : Int32) * d_rooms) else v1) < (3600 : Int32) then (if v1 < ((2 : Int32) * d_rooms) then ((2 : Int32) * d_rooms) else v1) else (3600 : Int32))) (C := RX1) (T := TX1) (N := 11) hx hb hts hinX1 hown hK.1 hP 0 rfl rfl 4 (by decide) hf21 (fun _ h9 => h9) rfl dX1_makeRoom_44 ?_
    refine k_newa (G := G) (atype := .boolean) (t0 := 1) (N' := (if (if v1 < ((2 : Int32) * d_rooms) then ((2 : Int32) * d_rooms) else v1) < (3600 : Int32) then (if v1 < ((2 : Int32) * d_rooms) then ((2 : Int32) * d_rooms) else v1) else (3600 : Int32)).toNatClampNeg) (a0 := ((if (if v1 < ((2 : Int32) * d_rooms) then ((2 : Int32) * d_rooms) else v1) < (3600 : Int32) then (if v1 < ((2 : Int32) * d_rooms) then ((2 : Int32) * d_rooms) else v1) else (3600 : Int32)).toNatClampNeg, .inl (fun _ => 0))) hx hb (hts (.arrayClass .boolean) (by decide +kernel)) rfl rfl (fun _ _ h9 => h9) hK hP hD hS hA (fun _ => rfl) gm1 rfl (by show _ * 1 ≤ _; omega) (by show _ ≤ 5; omega) (by show _ ≤ ms1; omega) dX1_makeRoom_47 (fun n_47 H hP hD hS => ?_)
    have hP : va_P G.1 vwCl (([(d_h, .inr (1, [.ref (d_hp), .ref (d_q 0), .ref (d_q 1), .ref (d_q 2), .int (if (if v1 < ((2 : Int32) * d_rooms) then ((2 : Int32) * d_rooms) else v1) < (3600 : Int32) then (if v1 < ((2 : Int32) * d_rooms) then ((2 : Int32) * d_rooms) else v1) else (3600 : Int32)), .int d_count, .ref (n_37), .ref (d_a 1), .ref (d_a 2), .ref (d_a 3), .ref (d_a 4)])), (d_q 0, .inl (G.2 0, 60, .inl d_stateOf)), (d_q 1, .inl (G.2 0, 60, .inl d_kindOf)), (d_q 2, .inl (G.2 0, 60, .inl d_order)), (d_a 0, .inl (G.2 0, 8 * d_rm, .inl d_next)), (d_a 1, .inl (G.2 1, d_rm, .inl d_says)), (d_a 2, .inl (G.2 0, d_rm, .inl d_note)), (d_a 3, .inl (G.2 0, d_rm, .inl d_sort)), (d_a 4, .inl (G.2 0, d_rm, .inl d_freshSort))]) ++ ([(n_37, .inl (G.2 0, 8 * (if (if v1 < ((2 : Int32) * d_rooms) then ((2 : Int32) * d_rooms) else v1) < (3600 : Int32) then (if v1 < ((2 : Int32) * d_rooms) then ((2 : Int32) * d_rooms) else v1) else (3600 : Int32)).toNatClampNeg, .inl (fun _ => 0))), (n_47, .inl (G.2 1, (if (if v1 < ((2 : Int32) * d_rooms) then ((2 : Int32) * d_rooms) else v1) < (3600 : Int32) then (if v1 < ((2 : Int32) * d_rooms) then ((2 : Int32) * d_rooms) else v1) else (3600 : Int32)).toNatClampNeg, .inl (fun _ => 0)))])) H := hP
    have hD : va_D A (([(d_h, .inr (1, [.ref (d_hp), .ref (d_q 0), .ref (d_q 1), .ref (d_q 2), .int (if (if v1 < ((2 : Int32) * d_rooms) then ((2 : Int32) * d_rooms) else v1) < (3600 : Int32) then (if v1 < ((2 : Int32) * d_rooms) then ((2 : Int32) * d_rooms) else v1) else (3600 : Int32)), .int d_count, .ref (n_37), .ref (d_a 1), .ref (d_a 2), .ref (d_a 3), .ref (d_a 4)])), (d_q 0, .inl (G.2 0, 60, .inl d_stateOf)), (d_q 1, .inl (G.2 0, 60, .inl d_kindOf)), (d_q 2, .inl (G.2 0, 60, .inl d_order)), (d_a 0, .inl (G.2 0, 8 * d_rm, .inl d_next)), (d_a 1, .inl (G.2 1, d_rm, .inl d_says)), (d_a 2, .inl (G.2 0, d_rm, .inl d_note)), (d_a 3, .inl (G.2 0, d_rm, .inl d_sort)), (d_a 4, .inl (G.2 0, d_rm, .inl d_freshSort))]) ++ ([(n_37, .inl (G.2 0, 8 * (if (if v1 < ((2 : Int32) * d_rooms) then ((2 : Int32) * d_rooms) else v1) < (3600 : Int32) then (if v1 < ((2 : Int32) * d_rooms) then ((2 : Int32) * d_rooms) else v1) else (3600 : Int32)).toNatClampNeg, .inl (fun _ => 0))), (n_47, .inl (G.2 1, (if (if v1 < ((2 : Int32) * d_rooms) then ((2 : Int32) * d_rooms) else v1) < (3600 : Int32) then (if v1 < ((2 : Int32) * d_rooms) then ((2 : Int32) * d_rooms) else v1) else (3600 : Int32)).toNatClampNeg, .inl (fun _ => 0)))])) := hD
    refine va_put (D := G.1) (ci := 1) (v := .ref n_47) (ty := (.array .boolean)) (C := RX1) (T := TX1) (N := 11) hx hb hts hinX1 tyX1 tyX1_ok nmX1 hown hK.1 hP hD hS 0 rfl rfl 7 (by decide) hf31 (fun _ h9 => h9) rfl (by decide +kernel) rfl rfl (Nat.le_of_ble_eq_true rfl) dX1_makeRoom_49 (fun H locs hP hD hS => ?_)
    have hP : va_P G.1 vwCl (([(d_h, .inr (1, [.ref (d_hp), .ref (d_q 0), .ref (d_q 1), .ref (d_q 2), .int (if (if v1 < ((2 : Int32) * d_rooms) then ((2 : Int32) * d_rooms) else v1) < (3600 : Int32) then (if v1 < ((2 : Int32) * d_rooms) then ((2 : Int32) * d_rooms) else v1) else (3600 : Int32)), .int d_count, .ref (n_37), .ref (n_47), .ref (d_a 2), .ref (d_a 3), .ref (d_a 4)])), (d_q 0, .inl (G.2 0, 60, .inl d_stateOf)), (d_q 1, .inl (G.2 0, 60, .inl d_kindOf)), (d_q 2, .inl (G.2 0, 60, .inl d_order)), (d_a 0, .inl (G.2 0, 8 * d_rm, .inl d_next)), (d_a 1, .inl (G.2 1, d_rm, .inl d_says)), (d_a 2, .inl (G.2 0, d_rm, .inl d_note)), (d_a 3, .inl (G.2 0, d_rm, .inl d_sort)), (d_a 4, .inl (G.2 0, d_rm, .inl d_freshSort))]) ++ ([(n_37, .inl (G.2 0, 8 * (if (if v1 < ((2 : Int32) * d_rooms) then ((2 : Int32) * d_rooms) else v1) < (3600 : Int32) then (if v1 < ((2 : Int32) * d_rooms) then ((2 : Int32) * d_rooms) else v1) else (3600 : Int32)).toNatClampNeg, .inl (fun _ => 0))), (n_47, .inl (G.2 1, (if (if v1 < ((2 : Int32) * d_rooms) then ((2 : Int32) * d_rooms) else v1) < (3600 : Int32) then (if v1 < ((2 : Int32) * d_rooms) then ((2 : Int32) * d_rooms) else v1) else (3600 : Int32)).toNatClampNeg, .inl (fun _ => 0)))])) H := hP
    have hD : va_D A (([(d_h, .inr (1, [.ref (d_hp), .ref (d_q 0), .ref (d_q 1), .ref (d_q 2), .int (if (if v1 < ((2 : Int32) * d_rooms) then ((2 : Int32) * d_rooms) else v1) < (3600 : Int32) then (if v1 < ((2 : Int32) * d_rooms) then ((2 : Int32) * d_rooms) else v1) else (3600 : Int32)), .int d_count, .ref (n_37), .ref (n_47), .ref (d_a 2), .ref (d_a 3), .ref (d_a 4)])), (d_q 0, .inl (G.2 0, 60, .inl d_stateOf)), (d_q 1, .inl (G.2 0, 60, .inl d_kindOf)), (d_q 2, .inl (G.2 0, 60, .inl d_order)), (d_a 0, .inl (G.2 0, 8 * d_rm, .inl d_next)), (d_a 1, .inl (G.2 1, d_rm, .inl d_says)), (d_a 2, .inl (G.2 0, d_rm, .inl d_note)), (d_a 3, .inl (G.2 0, d_rm, .inl d_sort)), (d_a 4, .inl (G.2 0, d_rm, .inl d_freshSort))]) ++ ([(n_37, .inl (G.2 0, 8 * (if (if v1 < ((2 : Int32) * d_rooms) then ((2 : Int32) * d_rooms) else v1) < (3600 : Int32) then (if v1 < ((2 : Int32) * d_rooms) then ((2 : Int32) * d_rooms) else v1) else (3600 : Int32)).toNatClampNeg, .inl (fun _ => 0))), (n_47, .inl (G.2 1, (if (if v1 < ((2 : Int32) * d_rooms) then ((2 : Int32) * d_rooms) else v1) < (3600 : Int32) then (if v1 < ((2 : Int32) * d_rooms) then ((2 : Int32) * d_rooms) else v1) else (3600 : Int32)).toNatClampNeg, .inl (fun _ => 0)))])) := hD
    refine lv_aload_n hx hb dX1_makeRoom_52 rfl (lv_at hl 0 rfl) ?_
    refine lv_aload_n hx hb dX1_makeRoom_53 rfl (lv_at hl 0 rfl) ?_
    refine va_get (D := G.1) (ci := 1) (v := .int (if (if v1 < ((2 : Int32) * d_rooms) then ((2 : Int32) * d_rooms) else v1) < (3600 : Int32) then (if v1 < ((2 : Int32) * d_rooms) then ((2 : Int32) * d_rooms) else v1) else (3600 : Int32))) (C := RX1) (T := TX1) (N := 11) hx hb hts hinX1 hown hK.1 hP 0 rfl rfl 4 (by decide) hf21 (fun _ h9 => h9) rfl dX1_makeRoom_54 ?_
    refine k_newa (G := G) (atype := .int) (t0 := 0) (N' := (if (if v1 < ((2 : Int32) * d_rooms) then ((2 : Int32) * d_rooms) else v1) < (3600 : Int32) then (if v1 < ((2 : Int32) * d_rooms) then ((2 : Int32) * d_rooms) else v1) else (3600 : Int32)).toNatClampNeg) (a0 := ((if (if v1 < ((2 : Int32) * d_rooms) then ((2 : Int32) * d_rooms) else v1) < (3600 : Int32) then (if v1 < ((2 : Int32) * d_rooms) then ((2 : Int32) * d_rooms) else v1) else (3600 : Int32)).toNatClampNeg, .inl (fun _ => 0))) hx hb (hts (.arrayClass .int) (by decide +kernel)) rfl rfl (fun _ _ h9 => h9) hK hP hD hS hA (fun _ => rfl) gm1 rfl (by show _ * 4 ≤ _; omega) (by show _ ≤ 5; omega) (by show _ ≤ ms1; omega) dX1_makeRoom_57 (fun n_57 H hP hD hS => ?_)
    have hP : va_P G.1 vwCl (([(d_h, .inr (1, [.ref (d_hp), .ref (d_q 0), .ref (d_q 1), .ref (d_q 2), .int (if (if v1 < ((2 : Int32) * d_rooms) then ((2 : Int32) * d_rooms) else v1) < (3600 : Int32) then (if v1 < ((2 : Int32) * d_rooms) then ((2 : Int32) * d_rooms) else v1) else (3600 : Int32)), .int d_count, .ref (n_37), .ref (n_47), .ref (d_a 2), .ref (d_a 3), .ref (d_a 4)])), (d_q 0, .inl (G.2 0, 60, .inl d_stateOf)), (d_q 1, .inl (G.2 0, 60, .inl d_kindOf)), (d_q 2, .inl (G.2 0, 60, .inl d_order)), (d_a 0, .inl (G.2 0, 8 * d_rm, .inl d_next)), (d_a 1, .inl (G.2 1, d_rm, .inl d_says)), (d_a 2, .inl (G.2 0, d_rm, .inl d_note)), (d_a 3, .inl (G.2 0, d_rm, .inl d_sort)), (d_a 4, .inl (G.2 0, d_rm, .inl d_freshSort))]) ++ ([(n_37, .inl (G.2 0, 8 * (if (if v1 < ((2 : Int32) * d_rooms) then ((2 : Int32) * d_rooms) else v1) < (3600 : Int32) then (if v1 < ((2 : Int32) * d_rooms) then ((2 : Int32) * d_rooms) else v1) else (3600 : Int32)).toNatClampNeg, .inl (fun _ => 0))), (n_47, .inl (G.2 1, (if (if v1 < ((2 : Int32) * d_rooms) then ((2 : Int32) * d_rooms) else v1) < (3600 : Int32) then (if v1 < ((2 : Int32) * d_rooms) then ((2 : Int32) * d_rooms) else v1) else (3600 : Int32)).toNatClampNeg, .inl (fun _ => 0))), (n_57, .inl (G.2 0, (if (if v1 < ((2 : Int32) * d_rooms) then ((2 : Int32) * d_rooms) else v1) < (3600 : Int32) then (if v1 < ((2 : Int32) * d_rooms) then ((2 : Int32) * d_rooms) else v1) else (3600 : Int32)).toNatClampNeg, .inl (fun _ => 0)))])) H := hP
    have hD : va_D A (([(d_h, .inr (1, [.ref (d_hp), .ref (d_q 0), .ref (d_q 1), .ref (d_q 2), .int (if (if v1 < ((2 : Int32) * d_rooms) then ((2 : Int32) * d_rooms) else v1) < (3600 : Int32) then (if v1 < ((2 : Int32) * d_rooms) then ((2 : Int32) * d_rooms) else v1) else (3600 : Int32)), .int d_count, .ref (n_37), .ref (n_47), .ref (d_a 2), .ref (d_a 3), .ref (d_a 4)])), (d_q 0, .inl (G.2 0, 60, .inl d_stateOf)), (d_q 1, .inl (G.2 0, 60, .inl d_kindOf)), (d_q 2, .inl (G.2 0, 60, .inl d_order)), (d_a 0, .inl (G.2 0, 8 * d_rm, .inl d_next)), (d_a 1, .inl (G.2 1, d_rm, .inl d_says)), (d_a 2, .inl (G.2 0, d_rm, .inl d_note)), (d_a 3, .inl (G.2 0, d_rm, .inl d_sort)), (d_a 4, .inl (G.2 0, d_rm, .inl d_freshSort))]) ++ ([(n_37, .inl (G.2 0, 8 * (if (if v1 < ((2 : Int32) * d_rooms) then ((2 : Int32) * d_rooms) else v1) < (3600 : Int32) then (if v1 < ((2 : Int32) * d_rooms) then ((2 : Int32) * d_rooms) else v1) else (3600 : Int32)).toNatClampNeg, .inl (fun _ => 0))), (n_47, .inl (G.2 1, (if (if v1 < ((2 : Int32) * d_rooms) then ((2 : Int32) * d_rooms) else v1) < (3600 : Int32) then (if v1 < ((2 : Int32) * d_rooms) then ((2 : Int32) * d_rooms) else v1) else (3600 : Int32)).toNatClampNeg, .inl (fun _ => 0))), (n_57, .inl (G.2 0, (if (if v1 < ((2 : Int32) * d_rooms) then ((2 : Int32) * d_rooms) else v1) < (3600 : Int32) then (if v1 < ((2 : Int32) * d_rooms) then ((2 : Int32) * d_rooms) else v1) else (3600 : Int32)).toNatClampNeg, .inl (fun _ => 0)))])) := hD
    refine va_put (D := G.1) (ci := 1) (v := .ref n_57) (ty := (.array .int)) (C := RX1) (T := TX1) (N := 11) hx hb hts hinX1 tyX1 tyX1_ok nmX1 hown hK.1 hP hD hS 0 rfl rfl 8 (by decide) hf35 (fun _ h9 => h9) rfl (by decide +kernel) rfl rfl (Nat.le_of_ble_eq_true rfl) dX1_makeRoom_59 (fun H locs hP hD hS => ?_)
    have hP : va_P G.1 vwCl (([(d_h, .inr (1, [.ref (d_hp), .ref (d_q 0), .ref (d_q 1), .ref (d_q 2), .int (if (if v1 < ((2 : Int32) * d_rooms) then ((2 : Int32) * d_rooms) else v1) < (3600 : Int32) then (if v1 < ((2 : Int32) * d_rooms) then ((2 : Int32) * d_rooms) else v1) else (3600 : Int32)), .int d_count, .ref (n_37), .ref (n_47), .ref (n_57), .ref (d_a 3), .ref (d_a 4)])), (d_q 0, .inl (G.2 0, 60, .inl d_stateOf)), (d_q 1, .inl (G.2 0, 60, .inl d_kindOf)), (d_q 2, .inl (G.2 0, 60, .inl d_order)), (d_a 0, .inl (G.2 0, 8 * d_rm, .inl d_next)), (d_a 1, .inl (G.2 1, d_rm, .inl d_says)), (d_a 2, .inl (G.2 0, d_rm, .inl d_note)), (d_a 3, .inl (G.2 0, d_rm, .inl d_sort)), (d_a 4, .inl (G.2 0, d_rm, .inl d_freshSort))]) ++ ([(n_37, .inl (G.2 0, 8 * (if (if v1 < ((2 : Int32) * d_rooms) then ((2 : Int32) * d_rooms) else v1) < (3600 : Int32) then (if v1 < ((2 : Int32) * d_rooms) then ((2 : Int32) * d_rooms) else v1) else (3600 : Int32)).toNatClampNeg, .inl (fun _ => 0))), (n_47, .inl (G.2 1, (if (if v1 < ((2 : Int32) * d_rooms) then ((2 : Int32) * d_rooms) else v1) < (3600 : Int32) then (if v1 < ((2 : Int32) * d_rooms) then ((2 : Int32) * d_rooms) else v1) else (3600 : Int32)).toNatClampNeg, .inl (fun _ => 0))), (n_57, .inl (G.2 0, (if (if v1 < ((2 : Int32) * d_rooms) then ((2 : Int32) * d_rooms) else v1) < (3600 : Int32) then (if v1 < ((2 : Int32) * d_rooms) then ((2 : Int32) * d_rooms) else v1) else (3600 : Int32)).toNatClampNeg, .inl (fun _ => 0)))])) H := hP
    have hD : va_D A (([(d_h, .inr (1, [.ref (d_hp), .ref (d_q 0), .ref (d_q 1), .ref (d_q 2), .int (if (if v1 < ((2 : Int32) * d_rooms) then ((2 : Int32) * d_rooms) else v1) < (3600 : Int32) then (if v1 < ((2 : Int32) * d_rooms) then ((2 : Int32) * d_rooms) else v1) else (3600 : Int32)), .int d_count, .ref (n_37), .ref (n_47), .ref (n_57), .ref (d_a 3), .ref (d_a 4)])), (d_q 0, .inl (G.2 0, 60, .inl d_stateOf)), (d_q 1, .inl (G.2 0, 60, .inl d_kindOf)), (d_q 2, .inl (G.2 0, 60, .inl d_order)), (d_a 0, .inl (G.2 0, 8 * d_rm, .inl d_next)), (d_a 1, .inl (G.2 1, d_rm, .inl d_says)), (d_a 2, .inl (G.2 0, d_rm, .inl d_note)), (d_a 3, .inl (G.2 0, d_rm, .inl d_sort)), (d_a 4, .inl (G.2 0, d_rm, .inl d_freshSort))]) ++ ([(n_37, .inl (G.2 0, 8 * (if (if v1 < ((2 : Int32) * d_rooms) then ((2 : Int32) * d_rooms) else v1) < (3600 : Int32) then (if v1 < ((2 : Int32) * d_rooms) then ((2 : Int32) * d_rooms) else v1) else (3600 : Int32)).toNatClampNeg, .inl (fun _ => 0))), (n_47, .inl (G.2 1, (if (if v1 < ((2 : Int32) * d_rooms) then ((2 : Int32) * d_rooms) else v1) < (3600 : Int32) then (if v1 < ((2 : Int32) * d_rooms) then ((2 : Int32) * d_rooms) else v1) else (3600 : Int32)).toNatClampNeg, .inl (fun _ => 0))), (n_57, .inl (G.2 0, (if (if v1 < ((2 : Int32) * d_rooms) then ((2 : Int32) * d_rooms) else v1) < (3600 : Int32) then (if v1 < ((2 : Int32) * d_rooms) then ((2 : Int32) * d_rooms) else v1) else (3600 : Int32)).toNatClampNeg, .inl (fun _ => 0)))])) := hD
    refine lv_aload_n hx hb dX1_makeRoom_62 rfl (lv_at hl 0 rfl) ?_
    refine lv_aload_n hx hb dX1_makeRoom_63 rfl (lv_at hl 0 rfl) ?_
    refine va_get (D := G.1) (ci := 1) (v := .int (if (if v1 < ((2 : Int32) * d_rooms) then ((2 : Int32) * d_rooms) else v1) < (3600 : Int32) then (if v1 < ((2 : Int32) * d_rooms) then ((2 : Int32) * d_rooms) else v1) else (3600 : Int32))) (C := RX1) (T := TX1) (N := 11) hx hb hts hinX1 hown hK.1 hP 0 rfl rfl 4 (by decide) hf21 (fun _ h9 => h9) rfl dX1_makeRoom_64 ?_
    refine k_newa (G := G) (atype := .int) (t0 := 0) (N' := (if (if v1 < ((2 : Int32) * d_rooms) then ((2 : Int32) * d_rooms) else v1) < (3600 : Int32) then (if v1 < ((2 : Int32) * d_rooms) then ((2 : Int32) * d_rooms) else v1) else (3600 : Int32)).toNatClampNeg) (a0 := ((if (if v1 < ((2 : Int32) * d_rooms) then ((2 : Int32) * d_rooms) else v1) < (3600 : Int32) then (if v1 < ((2 : Int32) * d_rooms) then ((2 : Int32) * d_rooms) else v1) else (3600 : Int32)).toNatClampNeg, .inl (fun _ => 0))) hx hb (hts (.arrayClass .int) (by decide +kernel)) rfl rfl (fun _ _ h9 => h9) hK hP hD hS hA (fun _ => rfl) gm1 rfl (by show _ * 4 ≤ _; omega) (by show _ ≤ 5; omega) (by show _ ≤ ms1; omega) dX1_makeRoom_67 (fun n_67 H hP hD hS => ?_)
    have hP : va_P G.1 vwCl (([(d_h, .inr (1, [.ref (d_hp), .ref (d_q 0), .ref (d_q 1), .ref (d_q 2), .int (if (if v1 < ((2 : Int32) * d_rooms) then ((2 : Int32) * d_rooms) else v1) < (3600 : Int32) then (if v1 < ((2 : Int32) * d_rooms) then ((2 : Int32) * d_rooms) else v1) else (3600 : Int32)), .int d_count, .ref (n_37), .ref (n_47), .ref (n_57), .ref (d_a 3), .ref (d_a 4)])), (d_q 0, .inl (G.2 0, 60, .inl d_stateOf)), (d_q 1, .inl (G.2 0, 60, .inl d_kindOf)), (d_q 2, .inl (G.2 0, 60, .inl d_order)), (d_a 0, .inl (G.2 0, 8 * d_rm, .inl d_next)), (d_a 1, .inl (G.2 1, d_rm, .inl d_says)), (d_a 2, .inl (G.2 0, d_rm, .inl d_note)), (d_a 3, .inl (G.2 0, d_rm, .inl d_sort)), (d_a 4, .inl (G.2 0, d_rm, .inl d_freshSort))]) ++ ([(n_37, .inl (G.2 0, 8 * (if (if v1 < ((2 : Int32) * d_rooms) then ((2 : Int32) * d_rooms) else v1) < (3600 : Int32) then (if v1 < ((2 : Int32) * d_rooms) then ((2 : Int32) * d_rooms) else v1) else (3600 : Int32)).toNatClampNeg, .inl (fun _ => 0))), (n_47, .inl (G.2 1, (if (if v1 < ((2 : Int32) * d_rooms) then ((2 : Int32) * d_rooms) else v1) < (3600 : Int32) then (if v1 < ((2 : Int32) * d_rooms) then ((2 : Int32) * d_rooms) else v1) else (3600 : Int32)).toNatClampNeg, .inl (fun _ => 0))), (n_57, .inl (G.2 0, (if (if v1 < ((2 : Int32) * d_rooms) then ((2 : Int32) * d_rooms) else v1) < (3600 : Int32) then (if v1 < ((2 : Int32) * d_rooms) then ((2 : Int32) * d_rooms) else v1) else (3600 : Int32)).toNatClampNeg, .inl (fun _ => 0))), (n_67, .inl (G.2 0, (if (if v1 < ((2 : Int32) * d_rooms) then ((2 : Int32) * d_rooms) else v1) < (3600 : Int32) then (if v1 < ((2 : Int32) * d_rooms) then ((2 : Int32) * d_rooms) else v1) else (3600 : Int32)).toNatClampNeg, .inl (fun _ => 0)))])) H := hP
    have hD : va_D A (([(d_h, .inr (1, [.ref (d_hp), .ref (d_q 0), .ref (d_q 1), .ref (d_q 2), .int (if (if v1 < ((2 : Int32) * d_rooms) then ((2 : Int32) * d_rooms) else v1) < (3600 : Int32) then (if v1 < ((2 : Int32) * d_rooms) then ((2 : Int32) * d_rooms) else v1) else (3600 : Int32)), .int d_count, .ref (n_37), .ref (n_47), .ref (n_57), .ref (d_a 3), .ref (d_a 4)])), (d_q 0, .inl (G.2 0, 60, .inl d_stateOf)), (d_q 1, .inl (G.2 0, 60, .inl d_kindOf)), (d_q 2, .inl (G.2 0, 60, .inl d_order)), (d_a 0, .inl (G.2 0, 8 * d_rm, .inl d_next)), (d_a 1, .inl (G.2 1, d_rm, .inl d_says)), (d_a 2, .inl (G.2 0, d_rm, .inl d_note)), (d_a 3, .inl (G.2 0, d_rm, .inl d_sort)), (d_a 4, .inl (G.2 0, d_rm, .inl d_freshSort))]) ++ ([(n_37, .inl (G.2 0, 8 * (if (if v1 < ((2 : Int32) * d_rooms) then ((2 : Int32) * d_rooms) else v1) < (3600 : Int32) then (if v1 < ((2 : Int32) * d_rooms) then ((2 : Int32) * d_rooms) else v1) else (3600 : Int32)).toNatClampNeg, .inl (fun _ => 0))), (n_47, .inl (G.2 1, (if (if v1 < ((2 : Int32) * d_rooms) then ((2 : Int32) * d_rooms) else v1) < (3600 : Int32) then (if v1 < ((2 : Int32) * d_rooms) then ((2 : Int32) * d_rooms) else v1) else (3600 : Int32)).toNatClampNeg, .inl (fun _ => 0))), (n_57, .inl (G.2 0, (if (if v1 < ((2 : Int32) * d_rooms) then ((2 : Int32) * d_rooms) else v1) < (3600 : Int32) then (if v1 < ((2 : Int32) * d_rooms) then ((2 : Int32) * d_rooms) else v1) else (3600 : Int32)).toNatClampNeg, .inl (fun _ => 0))), (n_67, .inl (G.2 0, (if (if v1 < ((2 : Int32) * d_rooms) then ((2 : Int32) * d_rooms) else v1) < (3600 : Int32) then (if v1 < ((2 : Int32) * d_rooms) then ((2 : Int32) * d_rooms) else v1) else (3600 : Int32)).toNatClampNeg, .inl (fun _ => 0)))])) := hD
    refine va_put (D := G.1) (ci := 1) (v := .ref n_67) (ty := (.array .int)) (C := RX1) (T := TX1) (N := 11) hx hb hts hinX1 tyX1 tyX1_ok nmX1 hown hK.1 hP hD hS 0 rfl rfl 9 (by decide) hf38 (fun _ h9 => h9) rfl (by decide +kernel) rfl rfl (Nat.le_of_ble_eq_true rfl) dX1_makeRoom_69 (fun H locs hP hD hS => ?_)
    have hP : va_P G.1 vwCl (([(d_h, .inr (1, [.ref (d_hp), .ref (d_q 0), .ref (d_q 1), .ref (d_q 2), .int (if (if v1 < ((2 : Int32) * d_rooms) then ((2 : Int32) * d_rooms) else v1) < (3600 : Int32) then (if v1 < ((2 : Int32) * d_rooms) then ((2 : Int32) * d_rooms) else v1) else (3600 : Int32)), .int d_count, .ref (n_37), .ref (n_47), .ref (n_57), .ref (n_67), .ref (d_a 4)])), (d_q 0, .inl (G.2 0, 60, .inl d_stateOf)), (d_q 1, .inl (G.2 0, 60, .inl d_kindOf)), (d_q 2, .inl (G.2 0, 60, .inl d_order)), (d_a 0, .inl (G.2 0, 8 * d_rm, .inl d_next)), (d_a 1, .inl (G.2 1, d_rm, .inl d_says)), (d_a 2, .inl (G.2 0, d_rm, .inl d_note)), (d_a 3, .inl (G.2 0, d_rm, .inl d_sort)), (d_a 4, .inl (G.2 0, d_rm, .inl d_freshSort))]) ++ ([(n_37, .inl (G.2 0, 8 * (if (if v1 < ((2 : Int32) * d_rooms) then ((2 : Int32) * d_rooms) else v1) < (3600 : Int32) then (if v1 < ((2 : Int32) * d_rooms) then ((2 : Int32) * d_rooms) else v1) else (3600 : Int32)).toNatClampNeg, .inl (fun _ => 0))), (n_47, .inl (G.2 1, (if (if v1 < ((2 : Int32) * d_rooms) then ((2 : Int32) * d_rooms) else v1) < (3600 : Int32) then (if v1 < ((2 : Int32) * d_rooms) then ((2 : Int32) * d_rooms) else v1) else (3600 : Int32)).toNatClampNeg, .inl (fun _ => 0))), (n_57, .inl (G.2 0, (if (if v1 < ((2 : Int32) * d_rooms) then ((2 : Int32) * d_rooms) else v1) < (3600 : Int32) then (if v1 < ((2 : Int32) * d_rooms) then ((2 : Int32) * d_rooms) else v1) else (3600 : Int32)).toNatClampNeg, .inl (fun _ => 0))), (n_67, .inl (G.2 0, (if (if v1 < ((2 : Int32) * d_rooms) then ((2 : Int32) * d_rooms) else v1) < (3600 : Int32) then (if v1 < ((2 : Int32) * d_rooms) then ((2 : Int32) * d_rooms) else v1) else (3600 : Int32)).toNatClampNeg, .inl (fun _ => 0)))])) H := hP
    have hD : va_D A (([(d_h, .inr (1, [.ref (d_hp), .ref (d_q 0), .ref (d_q 1), .ref (d_q 2), .int (if (if v1 < ((2 : Int32) * d_rooms) then ((2 : Int32) * d_rooms) else v1) < (3600 : Int32) then (if v1 < ((2 : Int32) * d_rooms) then ((2 : Int32) * d_rooms) else v1) else (3600 : Int32)), .int d_count, .ref (n_37), .ref (n_47), .ref (n_57), .ref (n_67), .ref (d_a 4)])), (d_q 0, .inl (G.2 0, 60, .inl d_stateOf)), (d_q 1, .inl (G.2 0, 60, .inl d_kindOf)), (d_q 2, .inl (G.2 0, 60, .inl d_order)), (d_a 0, .inl (G.2 0, 8 * d_rm, .inl d_next)), (d_a 1, .inl (G.2 1, d_rm, .inl d_says)), (d_a 2, .inl (G.2 0, d_rm, .inl d_note)), (d_a 3, .inl (G.2 0, d_rm, .inl d_sort)), (d_a 4, .inl (G.2 0, d_rm, .inl d_freshSort))]) ++ ([(n_37, .inl (G.2 0, 8 * (if (if v1 < ((2 : Int32) * d_rooms) then ((2 : Int32) * d_rooms) else v1) < (3600 : Int32) then (if v1 < ((2 : Int32) * d_rooms) then ((2 : Int32) * d_rooms) else v1) else (3600 : Int32)).toNatClampNeg, .inl (fun _ => 0))), (n_47, .inl (G.2 1, (if (if v1 < ((2 : Int32) * d_rooms) then ((2 : Int32) * d_rooms) else v1) < (3600 : Int32) then (if v1 < ((2 : Int32) * d_rooms) then ((2 : Int32) * d_rooms) else v1) else (3600 : Int32)).toNatClampNeg, .inl (fun _ => 0))), (n_57, .inl (G.2 0, (if (if v1 < ((2 : Int32) * d_rooms) then ((2 : Int32) * d_rooms) else v1) < (3600 : Int32) then (if v1 < ((2 : Int32) * d_rooms) then ((2 : Int32) * d_rooms) else v1) else (3600 : Int32)).toNatClampNeg, .inl (fun _ => 0))), (n_67, .inl (G.2 0, (if (if v1 < ((2 : Int32) * d_rooms) then ((2 : Int32) * d_rooms) else v1) < (3600 : Int32) then (if v1 < ((2 : Int32) * d_rooms) then ((2 : Int32) * d_rooms) else v1) else (3600 : Int32)).toNatClampNeg, .inl (fun _ => 0)))])) := hD
    refine lv_aload_n hx hb dX1_makeRoom_72 rfl (lv_at hl 0 rfl) ?_
    refine lv_aload_n hx hb dX1_makeRoom_73 rfl (lv_at hl 0 rfl) ?_
    refine va_get (D := G.1) (ci := 1) (v := .int (if (if v1 < ((2 : Int32) * d_rooms) then ((2 : Int32) * d_rooms) else v1) < (3600 : Int32) then (if v1 < ((2 : Int32) * d_rooms) then ((2 : Int32) * d_rooms) else v1) else (3600 : Int32))) (C := RX1) (T := TX1) (N := 11) hx hb hts hinX1 hown hK.1 hP 0 rfl rfl 4 (by decide) hf21 (fun _ h9 => h9) rfl dX1_makeRoom_74 ?_
    refine k_newa (G := G) (atype := .int) (t0 := 0) (N' := (if (if v1 < ((2 : Int32) * d_rooms) then ((2 : Int32) * d_rooms) else v1) < (3600 : Int32) then (if v1 < ((2 : Int32) * d_rooms) then ((2 : Int32) * d_rooms) else v1) else (3600 : Int32)).toNatClampNeg) (a0 := ((if (if v1 < ((2 : Int32) * d_rooms) then ((2 : Int32) * d_rooms) else v1) < (3600 : Int32) then (if v1 < ((2 : Int32) * d_rooms) then ((2 : Int32) * d_rooms) else v1) else (3600 : Int32)).toNatClampNeg, .inl (fun _ => 0))) hx hb (hts (.arrayClass .int) (by decide +kernel)) rfl rfl (fun _ _ h9 => h9) hK hP hD hS hA (fun _ => rfl) gm1 rfl (by show _ * 4 ≤ _; omega) (by show _ ≤ 5; omega) (by show _ ≤ ms1; omega) dX1_makeRoom_77 (fun n_77 H hP hD hS => ?_)
    have hP : va_P G.1 vwCl (([(d_h, .inr (1, [.ref (d_hp), .ref (d_q 0), .ref (d_q 1), .ref (d_q 2), .int (if (if v1 < ((2 : Int32) * d_rooms) then ((2 : Int32) * d_rooms) else v1) < (3600 : Int32) then (if v1 < ((2 : Int32) * d_rooms) then ((2 : Int32) * d_rooms) else v1) else (3600 : Int32)), .int d_count, .ref (n_37), .ref (n_47), .ref (n_57), .ref (n_67), .ref (d_a 4)])), (d_q 0, .inl (G.2 0, 60, .inl d_stateOf)), (d_q 1, .inl (G.2 0, 60, .inl d_kindOf)), (d_q 2, .inl (G.2 0, 60, .inl d_order)), (d_a 0, .inl (G.2 0, 8 * d_rm, .inl d_next)), (d_a 1, .inl (G.2 1, d_rm, .inl d_says)), (d_a 2, .inl (G.2 0, d_rm, .inl d_note)), (d_a 3, .inl (G.2 0, d_rm, .inl d_sort)), (d_a 4, .inl (G.2 0, d_rm, .inl d_freshSort))]) ++ ([(n_37, .inl (G.2 0, 8 * (if (if v1 < ((2 : Int32) * d_rooms) then ((2 : Int32) * d_rooms) else v1) < (3600 : Int32) then (if v1 < ((2 : Int32) * d_rooms) then ((2 : Int32) * d_rooms) else v1) else (3600 : Int32)).toNatClampNeg, .inl (fun _ => 0))), (n_47, .inl (G.2 1, (if (if v1 < ((2 : Int32) * d_rooms) then ((2 : Int32) * d_rooms) else v1) < (3600 : Int32) then (if v1 < ((2 : Int32) * d_rooms) then ((2 : Int32) * d_rooms) else v1) else (3600 : Int32)).toNatClampNeg, .inl (fun _ => 0))), (n_57, .inl (G.2 0, (if (if v1 < ((2 : Int32) * d_rooms) then ((2 : Int32) * d_rooms) else v1) < (3600 : Int32) then (if v1 < ((2 : Int32) * d_rooms) then ((2 : Int32) * d_rooms) else v1) else (3600 : Int32)).toNatClampNeg, .inl (fun _ => 0))), (n_67, .inl (G.2 0, (if (if v1 < ((2 : Int32) * d_rooms) then ((2 : Int32) * d_rooms) else v1) < (3600 : Int32) then (if v1 < ((2 : Int32) * d_rooms) then ((2 : Int32) * d_rooms) else v1) else (3600 : Int32)).toNatClampNeg, .inl (fun _ => 0))), (n_77, .inl (G.2 0, (if (if v1 < ((2 : Int32) * d_rooms) then ((2 : Int32) * d_rooms) else v1) < (3600 : Int32) then (if v1 < ((2 : Int32) * d_rooms) then ((2 : Int32) * d_rooms) else v1) else (3600 : Int32)).toNatClampNeg, .inl (fun _ => 0)))])) H := hP
    have hD : va_D A (([(d_h, .inr (1, [.ref (d_hp), .ref (d_q 0), .ref (d_q 1), .ref (d_q 2), .int (if (if v1 < ((2 : Int32) * d_rooms) then ((2 : Int32) * d_rooms) else v1) < (3600 : Int32) then (if v1 < ((2 : Int32) * d_rooms) then ((2 : Int32) * d_rooms) else v1) else (3600 : Int32)), .int d_count, .ref (n_37), .ref (n_47), .ref (n_57), .ref (n_67), .ref (d_a 4)])), (d_q 0, .inl (G.2 0, 60, .inl d_stateOf)), (d_q 1, .inl (G.2 0, 60, .inl d_kindOf)), (d_q 2, .inl (G.2 0, 60, .inl d_order)), (d_a 0, .inl (G.2 0, 8 * d_rm, .inl d_next)), (d_a 1, .inl (G.2 1, d_rm, .inl d_says)), (d_a 2, .inl (G.2 0, d_rm, .inl d_note)), (d_a 3, .inl (G.2 0, d_rm, .inl d_sort)), (d_a 4, .inl (G.2 0, d_rm, .inl d_freshSort))]) ++ ([(n_37, .inl (G.2 0, 8 * (if (if v1 < ((2 : Int32) * d_rooms) then ((2 : Int32) * d_rooms) else v1) < (3600 : Int32) then (if v1 < ((2 : Int32) * d_rooms) then ((2 : Int32) * d_rooms) else v1) else (3600 : Int32)).toNatClampNeg, .inl (fun _ => 0))), (n_47, .inl (G.2 1, (if (if v1 < ((2 : Int32) * d_rooms) then ((2 : Int32) * d_rooms) else v1) < (3600 : Int32) then (if v1 < ((2 : Int32) * d_rooms) then ((2 : Int32) * d_rooms) else v1) else (3600 : Int32)).toNatClampNeg, .inl (fun _ => 0))), (n_57, .inl (G.2 0, (if (if v1 < ((2 : Int32) * d_rooms) then ((2 : Int32) * d_rooms) else v1) < (3600 : Int32) then (if v1 < ((2 : Int32) * d_rooms) then ((2 : Int32) * d_rooms) else v1) else (3600 : Int32)).toNatClampNeg, .inl (fun _ => 0))), (n_67, .inl (G.2 0, (if (if v1 < ((2 : Int32) * d_rooms) then ((2 : Int32) * d_rooms) else v1) < (3600 : Int32) then (if v1 < ((2 : Int32) * d_rooms) then ((2 : Int32) * d_rooms) else v1) else (3600 : Int32)).toNatClampNeg, .inl (fun _ => 0))), (n_77, .inl (G.2 0, (if (if v1 < ((2 : Int32) * d_rooms) then ((2 : Int32) * d_rooms) else v1) < (3600 : Int32) then (if v1 < ((2 : Int32) * d_rooms) then ((2 : Int32) * d_rooms) else v1) else (3600 : Int32)).toNatClampNeg, .inl (fun _ => 0)))])) := hD
    refine va_put (D := G.1) (ci := 1) (v := .ref n_77) (ty := (.array .int)) (C := RX1) (T := TX1) (N := 11) hx hb hts hinX1 tyX1 tyX1_ok nmX1 hown hK.1 hP hD hS 0 rfl rfl 10 (by decide) hf41 (fun _ h9 => h9) rfl (by decide +kernel) rfl rfl (Nat.le_of_ble_eq_true rfl) dX1_makeRoom_79 (fun H locs hP hD hS => ?_)
    have hP : va_P G.1 vwCl (([(d_h, .inr (1, [.ref (d_hp), .ref (d_q 0), .ref (d_q 1), .ref (d_q 2), .int (if (if v1 < ((2 : Int32) * d_rooms) then ((2 : Int32) * d_rooms) else v1) < (3600 : Int32) then (if v1 < ((2 : Int32) * d_rooms) then ((2 : Int32) * d_rooms) else v1) else (3600 : Int32)), .int d_count, .ref (n_37), .ref (n_47), .ref (n_57), .ref (n_67), .ref (n_77)])), (d_q 0, .inl (G.2 0, 60, .inl d_stateOf)), (d_q 1, .inl (G.2 0, 60, .inl d_kindOf)), (d_q 2, .inl (G.2 0, 60, .inl d_order)), (d_a 0, .inl (G.2 0, 8 * d_rm, .inl d_next)), (d_a 1, .inl (G.2 1, d_rm, .inl d_says)), (d_a 2, .inl (G.2 0, d_rm, .inl d_note)), (d_a 3, .inl (G.2 0, d_rm, .inl d_sort)), (d_a 4, .inl (G.2 0, d_rm, .inl d_freshSort))]) ++ ([(n_37, .inl (G.2 0, 8 * (if (if v1 < ((2 : Int32) * d_rooms) then ((2 : Int32) * d_rooms) else v1) < (3600 : Int32) then (if v1 < ((2 : Int32) * d_rooms) then ((2 : Int32) * d_rooms) else v1) else (3600 : Int32)).toNatClampNeg, .inl (fun _ => 0))), (n_47, .inl (G.2 1, (if (if v1 < ((2 : Int32) * d_rooms) then ((2 : Int32) * d_rooms) else v1) < (3600 : Int32) then (if v1 < ((2 : Int32) * d_rooms) then ((2 : Int32) * d_rooms) else v1) else (3600 : Int32)).toNatClampNeg, .inl (fun _ => 0))), (n_57, .inl (G.2 0, (if (if v1 < ((2 : Int32) * d_rooms) then ((2 : Int32) * d_rooms) else v1) < (3600 : Int32) then (if v1 < ((2 : Int32) * d_rooms) then ((2 : Int32) * d_rooms) else v1) else (3600 : Int32)).toNatClampNeg, .inl (fun _ => 0))), (n_67, .inl (G.2 0, (if (if v1 < ((2 : Int32) * d_rooms) then ((2 : Int32) * d_rooms) else v1) < (3600 : Int32) then (if v1 < ((2 : Int32) * d_rooms) then ((2 : Int32) * d_rooms) else v1) else (3600 : Int32)).toNatClampNeg, .inl (fun _ => 0))), (n_77, .inl (G.2 0, (if (if v1 < ((2 : Int32) * d_rooms) then ((2 : Int32) * d_rooms) else v1) < (3600 : Int32) then (if v1 < ((2 : Int32) * d_rooms) then ((2 : Int32) * d_rooms) else v1) else (3600 : Int32)).toNatClampNeg, .inl (fun _ => 0)))])) H := hP
    have hD : va_D A (([(d_h, .inr (1, [.ref (d_hp), .ref (d_q 0), .ref (d_q 1), .ref (d_q 2), .int (if (if v1 < ((2 : Int32) * d_rooms) then ((2 : Int32) * d_rooms) else v1) < (3600 : Int32) then (if v1 < ((2 : Int32) * d_rooms) then ((2 : Int32) * d_rooms) else v1) else (3600 : Int32)), .int d_count, .ref (n_37), .ref (n_47), .ref (n_57), .ref (n_67), .ref (n_77)])), (d_q 0, .inl (G.2 0, 60, .inl d_stateOf)), (d_q 1, .inl (G.2 0, 60, .inl d_kindOf)), (d_q 2, .inl (G.2 0, 60, .inl d_order)), (d_a 0, .inl (G.2 0, 8 * d_rm, .inl d_next)), (d_a 1, .inl (G.2 1, d_rm, .inl d_says)), (d_a 2, .inl (G.2 0, d_rm, .inl d_note)), (d_a 3, .inl (G.2 0, d_rm, .inl d_sort)), (d_a 4, .inl (G.2 0, d_rm, .inl d_freshSort))]) ++ ([(n_37, .inl (G.2 0, 8 * (if (if v1 < ((2 : Int32) * d_rooms) then ((2 : Int32) * d_rooms) else v1) < (3600 : Int32) then (if v1 < ((2 : Int32) * d_rooms) then ((2 : Int32) * d_rooms) else v1) else (3600 : Int32)).toNatClampNeg, .inl (fun _ => 0))), (n_47, .inl (G.2 1, (if (if v1 < ((2 : Int32) * d_rooms) then ((2 : Int32) * d_rooms) else v1) < (3600 : Int32) then (if v1 < ((2 : Int32) * d_rooms) then ((2 : Int32) * d_rooms) else v1) else (3600 : Int32)).toNatClampNeg, .inl (fun _ => 0))), (n_57, .inl (G.2 0, (if (if v1 < ((2 : Int32) * d_rooms) then ((2 : Int32) * d_rooms) else v1) < (3600 : Int32) then (if v1 < ((2 : Int32) * d_rooms) then ((2 : Int32) * d_rooms) else v1) else (3600 : Int32)).toNatClampNeg, .inl (fun _ => 0))), (n_67, .inl (G.2 0, (if (if v1 < ((2 : Int32) * d_rooms) then ((2 : Int32) * d_rooms) else v1) < (3600 : Int32) then (if v1 < ((2 : Int32) * d_rooms) then ((2 : Int32) * d_rooms) else v1) else (3600 : Int32)).toNatClampNeg, .inl (fun _ => 0))), (n_77, .inl (G.2 0, (if (if v1 < ((2 : Int32) * d_rooms) then ((2 : Int32) * d_rooms) else v1) < (3600 : Int32) then (if v1 < ((2 : Int32) * d_rooms) then ((2 : Int32) * d_rooms) else v1) else (3600 : Int32)).toNatClampNeg, .inl (fun _ => 0)))])) := hD
    have hP := hP.sub (ws' := WD G d_h d_hp d_q (fun i => if i = 0 then n_37 else if i = 1 then n_47 else if i = 2 then n_57 else if i = 3 then n_67 else if i = 4 then n_77 else d_a i) ((if (if v1 < ((2 : Int32) * d_rooms) then ((2 : Int32) * d_rooms) else v1) < (3600 : Int32) then (if v1 < ((2 : Int32) * d_rooms) then ((2 : Int32) * d_rooms) else v1) else (3600 : Int32)).toNatClampNeg) d_stateOf d_kindOf d_order (if (if v1 < ((2 : Int32) * d_rooms) then ((2 : Int32) * d_rooms) else v1) < (3600 : Int32) then (if v1 < ((2 : Int32) * d_rooms) then ((2 : Int32) * d_rooms) else v1) else (3600 : Int32)) d_count (fun _ => 0) (fun _ => 0) (fun _ => 0) (fun _ => 0) (fun _ => 0)) [0, 1, 2, 3, 9, 10, 11, 12, 13] rfl
    have hD := hD.sub (ws' := WD G d_h d_hp d_q (fun i => if i = 0 then n_37 else if i = 1 then n_47 else if i = 2 then n_57 else if i = 3 then n_67 else if i = 4 then n_77 else d_a i) ((if (if v1 < ((2 : Int32) * d_rooms) then ((2 : Int32) * d_rooms) else v1) < (3600 : Int32) then (if v1 < ((2 : Int32) * d_rooms) then ((2 : Int32) * d_rooms) else v1) else (3600 : Int32)).toNatClampNeg) d_stateOf d_kindOf d_order (if (if v1 < ((2 : Int32) * d_rooms) then ((2 : Int32) * d_rooms) else v1) < (3600 : Int32) then (if v1 < ((2 : Int32) * d_rooms) then ((2 : Int32) * d_rooms) else v1) else (3600 : Int32)) d_count (fun _ => 0) (fun _ => 0) (fun _ => 0) (fun _ => 0) (fun _ => 0)) [0, 1, 2, 3, 9, 10, 11, 12, 13] (by decide) rfl
    exact hret (fun i => if i = 0 then n_37 else if i = 1 then n_47 else if i = 2 then n_57 else if i = 3 then n_67 else if i = 4 then n_77 else d_a i) _ _ _ _ _ _ dX1_makeRoom_82 hP hD hS (Nat.le_of_ble_eq_true rfl) (by show 0 + (8 * (if (if v1 < ((2 : Int32) * d_rooms) then ((2 : Int32) * d_rooms) else v1) < (3600 : Int32) then (if v1 < ((2 : Int32) * d_rooms) then ((2 : Int32) * d_rooms) else v1) else (3600 : Int32)).toNatClampNeg) + ((if (if v1 < ((2 : Int32) * d_rooms) then ((2 : Int32) * d_rooms) else v1) < (3600 : Int32) then (if v1 < ((2 : Int32) * d_rooms) then ((2 : Int32) * d_rooms) else v1) else (3600 : Int32)).toNatClampNeg) + ((if (if v1 < ((2 : Int32) * d_rooms) then ((2 : Int32) * d_rooms) else v1) < (3600 : Int32) then (if v1 < ((2 : Int32) * d_rooms) then ((2 : Int32) * d_rooms) else v1) else (3600 : Int32)).toNatClampNeg) + ((if (if v1 < ((2 : Int32) * d_rooms) then ((2 : Int32) * d_rooms) else v1) < (3600 : Int32) then (if v1 < ((2 : Int32) * d_rooms) then ((2 : Int32) * d_rooms) else v1) else (3600 : Int32)).toNatClampNeg) + ((if (if v1 < ((2 : Int32) * d_rooms) then ((2 : Int32) * d_rooms) else v1) < (3600 : Int32) then (if v1 < ((2 : Int32) * d_rooms) then ((2 : Int32) * d_rooms) else v1) else (3600 : Int32)).toNatClampNeg) ≤ ms1; omega)
  · replace h := (if_neg c_5).symm.trans h
    obtain ⟨rfl, rfl, rfl, rfl, rfl, rfl, rfl⟩ := oi7 h
    exact hret d_a _ _ _ _ _ _ dX1_makeRoom_8 hP hD hS (Nat.zero_le _) (Nat.zero_le _)
abbrev rX1_begin (ms1 : Nat) : Room := { frames := 2, cells := 5, slots := ms1, locals := 42 }
set_option maxHeartbeats 4000000 in
set_option maxRecDepth 100000 in
theorem c_X1_begin (l : Launch) (G : GG) (d_h : Nat) (d_hp : Nat) (d_q : Nat → Nat) (d_a : Nat → Nat) (d_rm : Nat) (d_stateOf : AI) (d_kindOf : AI) (d_order : AI) (d_rooms : Int32) (d_count : Int32) (d_next : AI) (d_says : AI) (d_note : AI) (d_sort : AI) (d_freshSort : AI)  (v1 : Int32) (v2 : Int32) (rmx1 : Nat) (ms1 : Nat) (hms1 : rmx1 = d_rm ∨ 12 * rmx1 ≤ ms1) (sz : Nat) (d_rm_z : Nat) (d_rooms_z : Int32) (d_count_z : Int32) (d_next_z : AI) (d_says_z : AI) (d_note_z : AI) (d_sort_z : AI) (d_freshSort_z : AI) (h : p_X1_begin d_rm d_rooms d_next d_says d_note d_sort d_freshSort rmx1 v1 v2 = some (d_rm_z, d_rooms_z, d_count_z, d_next_z, d_says_z, d_note_z, d_sort_z, d_freshSort_z)) : CV l yX1_begin wsX1_begin (rX1_begin ms1) G [.ref d_h, .int v1, .int v2] (WD G d_h d_hp d_q d_a d_rm d_stateOf d_kindOf d_order d_rooms d_count d_next d_says d_note d_sort d_freshSort) sz (fun u => WD G d_h d_hp d_q u d_rm_z d_stateOf d_kindOf d_order d_rooms_z d_count_z d_next_z d_says_z d_note_z d_sort_z d_freshSort_z) := by
  refine enterCV (cc := cX1_begin) (maxL := 3) (by decide) rfl (Nat.le_of_ble_eq_true rfl) ?_
  intro p e s m args below meth c A Q hx hb hml hown hts hK hP hD hS hA hnm hret ls hl
  have hown : s.vm.findClass RX1 = some m.cls := hown
  have hf21 := hts (.fieldLink RX1 21 "DigitClaims$Draft" "rooms" "I") (by decide +kernel)
  have hf25 := hts (.fieldLink RX1 25 "DigitClaims$Draft" "count" "I") (by decide +kernel)
  have hinX1 : ∀ w ∈ wsX10, w ∈ wsX1_begin := by decide +kernel
  have hl : lv_has ls 3 [(0, .ref d_h), (1, .int v1), (2, .int v2)] := hl
  unfold p_X1_begin at h
  refine lv_aload_n hx hb dX1_begin_0 rfl (lv_at hl 0 rfl) ?_
  refine lv_iload_n hx hb dX1_begin_1 rfl (lv_at hl 2 rfl) ?_
  obtain ⟨d_rm_2, d_rooms_2, d_next_2, d_says_2, d_note_2, d_sort_2, d_freshSort_2, hc_2, h⟩ := ob7_e h
  refine k_cvA (va_runV (As := [.int v2]) (rest := []) ⟨hx, hb, hml, hown, hts⟩ (c_X1_makeRoom l G d_h d_hp d_q d_a d_rm d_stateOf d_kindOf d_order d_rooms d_count d_next d_says d_note d_sort d_freshSort  v2 rmx1 ms1 hms1 _ d_rm_2 d_rooms_2 d_next_2 d_says_2 d_note_2 d_sort_2 d_freshSort_2 hc_2) (cwV 1 hts gX1_begin_X1_makeRoom rfl rfl rfl ⟨rfl, eX1_makeRoom⟩ ⟨Nat.le_of_ble_eq_true rfl, Nat.le_of_ble_eq_true rfl⟩) (preWV (ci := 1) (q0 := 0) hK hP hD rfl rfl) rfl rfl hl.1 rfl (lv_room (Nat.le_of_ble_eq_true rfl)) dX1_begin_2 ⟨Nat.le_of_ble_eq_true rfl, by show 0 + (ms1) ≤ ms1; omega⟩) hD hS hA (fun u_2 H locs hP hD hS => ?_)
  have hP : va_P G.1 vwCl (WD G d_h d_hp d_q u_2 d_rm_2 d_stateOf d_kindOf d_order d_rooms_2 d_count d_next_2 d_says_2 d_note_2 d_sort_2 d_freshSort_2) H := hP
  have hD : va_D A (WD G d_h d_hp d_q u_2 d_rm_2 d_stateOf d_kindOf d_order d_rooms_2 d_count d_next_2 d_says_2 d_note_2 d_sort_2 d_freshSort_2) := hD
  refine lv_aload_n hx hb dX1_begin_5 rfl (lv_at hl 0 rfl) ?_
  refine lv_iconst (v := 0) hx hb dX1_begin_6 (by decide) ?_
  refine lv_iload_n hx hb dX1_begin_7 rfl (lv_at hl 1 rfl) ?_
  refine lv_aload_n hx hb dX1_begin_8 rfl (lv_at hl 0 rfl) ?_
  refine va_get (D := G.1) (ci := 1) (v := .int d_rooms_2) (C := RX1) (T := TX1) (N := 11) hx hb hts hinX1 hown hK.1 hP 0 rfl rfl 4 (by decide) hf21 (fun _ h9 => h9) rfl dX1_begin_9 ?_
  refine va_mmin hx hb (hml.trans hl.1.symm) hown (hts (.methodLink RX1 54 Lib.Math.min.name) (by decide +kernel)) (hts (.static Lib.Math.min.name) (by decide +kernel)) (hts (.initialized "java/lang/Math") (by decide +kernel)) (hts (.code Lib.Math.min.name Lib.Math.min.code 2 (some .int)) (by decide +kernel)) (Nat.le_of_ble_eq_true rfl) (Nat.le_of_ble_eq_true rfl) (Nat.le_of_ble_eq_true rfl) (by show 0 + (ms1) ≤ ms1; omega) dX1_begin_12 ?_
  refine va_mmax hx hb (hml.trans hl.1.symm) hown (hts (.methodLink RX1 48 Lib.Math.max.name) (by decide +kernel)) (hts (.static Lib.Math.max.name) (by decide +kernel)) (hts (.initialized "java/lang/Math") (by decide +kernel)) (hts (.code Lib.Math.max.name Lib.Math.max.code 2 (some .int)) (by decide +kernel)) (Nat.le_of_ble_eq_true rfl) (Nat.le_of_ble_eq_true rfl) (Nat.le_of_ble_eq_true rfl) (by show 0 + (ms1) ≤ ms1; omega) dX1_begin_15 ?_
  refine va_put (D := G.1) (ci := 1) (v := .int (if (0 : Int32) < (if d_rooms_2 < v1 then d_rooms_2 else v1) then (if d_rooms_2 < v1 then d_rooms_2 else v1) else (0 : Int32))) (ty := .int) (C := RX1) (T := TX1) (N := 11) hx hb hts hinX1 tyX1 tyX1_ok nmX1 hown hK.1 hP hD hS 0 rfl rfl 5 (by decide) hf25 (fun _ h9 => h9) rfl (by decide +kernel) rfl rfl (Nat.le_of_ble_eq_true rfl) dX1_begin_18 (fun H locs hP hD hS => ?_)
  have hP : va_P G.1 vwCl (WD G d_h d_hp d_q u_2 d_rm_2 d_stateOf d_kindOf d_order d_rooms_2 (if (0 : Int32) < (if d_rooms_2 < v1 then d_rooms_2 else v1) then (if d_rooms_2 < v1 then d_rooms_2 else v1) else (0 : Int32)) d_next_2 d_says_2 d_note_2 d_sort_2 d_freshSort_2) H := hP
  have hD : va_D A (WD G d_h d_hp d_q u_2 d_rm_2 d_stateOf d_kindOf d_order d_rooms_2 (if (0 : Int32) < (if d_rooms_2 < v1 then d_rooms_2 else v1) then (if d_rooms_2 < v1 then d_rooms_2 else v1) else (0 : Int32)) d_next_2 d_says_2 d_note_2 d_sort_2 d_freshSort_2) := hD
  obtain ⟨rfl, rfl, rfl, rfl, rfl, rfl, rfl, rfl⟩ := oi8 h
  exact hret u_2 _ _ _ _ _ _ dX1_begin_21 hP hD hS (Nat.le_of_ble_eq_true rfl) (by show 0 + (ms1) ≤ ms1; omega)
abbrev rX1_count : Room := { frames := 0, cells := 0, slots := 0, locals := 0 }
set_option maxHeartbeats 4000000 in
set_option maxRecDepth 100000 in
theorem c_X1_count (l : Launch) (G : GG) (d_h : Nat) (d_hp : Nat) (d_q : Nat → Nat) (d_a : Nat → Nat) (d_rm : Nat) (d_stateOf : AI) (d_kindOf : AI) (d_order : AI) (d_rooms : Int32) (d_count : Int32) (d_next : AI) (d_says : AI) (d_note : AI) (d_sort : AI) (d_freshSort : AI)   (r : Int32) (h : p_X1_count d_count = some r) : SI l yX1_count wsX1_count rX1_count G [.ref d_h] (WD G d_h d_hp d_q d_a d_rm d_stateOf d_kindOf d_order d_rooms d_count d_next d_says d_note d_sort d_freshSort) r := by
  refine enterSI (cc := cX1_count) (maxL := 1) (by decide) rfl (Nat.le_of_ble_eq_true rfl) ?_
  intro p e s m args below meth c Q hx hb hml hown hts hK hP hret ls hl
  have hown : s.vm.findClass RX1 = some m.cls := hown
  have hf25 := hts (.fieldLink RX1 25 "DigitClaims$Draft" "count" "I") (by decide +kernel)
  have hinX1 : ∀ w ∈ wsX10, w ∈ wsX1_count := by decide +kernel
  have hl : lv_has ls 1 [(0, .ref d_h)] := hl
  unfold p_X1_count at h
  refine lv_aload_n hx hb dX1_count_0 rfl (lv_at hl 0 rfl) ?_
  refine va_get (D := G.1) (ci := 1) (v := .int d_count) (C := RX1) (T := TX1) (N := 11) hx hb hts hinX1 hown hK.1 hP 0 rfl rfl 5 (by decide) hf25 (fun _ h9 => h9) rfl dX1_count_1 ?_
  obtain rfl := oi1 h
  exact hret _ _ _ dX1_count_4 rfl rfl
abbrev rX1_isState : Room := { frames := 0, cells := 0, slots := 0, locals := 0 }
set_option maxHeartbeats 4000000 in
set_option maxRecDepth 100000 in
theorem c_X1_isState (l : Launch) (G : GG) (d_h : Nat) (d_hp : Nat) (d_q : Nat → Nat) (d_a : Nat → Nat) (d_rm : Nat) (d_stateOf : AI) (d_kindOf : AI) (d_order : AI) (d_rooms : Int32) (d_count : Int32) (d_next : AI) (d_says : AI) (d_note : AI) (d_sort : AI) (d_freshSort : AI)  (v1 : Int32) (r : Int32) (h : p_X1_isState d_count v1 = some r) : SI l yX1_isState wsX1_isState rX1_isState G [.ref d_h, .int v1] (WD G d_h d_hp d_q d_a d_rm d_stateOf d_kindOf d_order d_rooms d_count d_next d_says d_note d_sort d_freshSort) r := by
  refine enterSI (cc := cX1_isState) (maxL := 2) (by decide) rfl (Nat.le_of_ble_eq_true rfl) ?_
  intro p e s m args below meth c Q hx hb hml hown hts hK hP hret ls hl
  have hown : s.vm.findClass RX1 = some m.cls := hown
  have hf25 := hts (.fieldLink RX1 25 "DigitClaims$Draft" "count" "I") (by decide +kernel)
  have hinX1 : ∀ w ∈ wsX10, w ∈ wsX1_isState := by decide +kernel
  have hl : lv_has ls 2 [(0, .ref d_h), (1, .int v1)] := hl
  unfold p_X1_isState at h
  refine lv_iload_n hx hb dX1_isState_0 rfl (lv_at hl 1 rfl) ?_
  refine lv_if_lt (tgt := 16) hx hb dX1_isState_1 (by decide) (fun c_1 => ?_) (fun c_1 => ?_)
  · replace h := (if_pos c_1).symm.trans h
    refine lv_iconst (v := 0) hx hb dX1_isState_16 (by decide) ?_
    obtain ⟨gbv, h⟩ := gb_e h
    obtain rfl := oi1 h
    exact hret _ _ _ dX1_isState_17 rfl (nb gbv)
  · replace h := (if_neg c_1).symm.trans h
    refine lv_iload_n hx hb dX1_isState_4 rfl (lv_at hl 1 rfl) ?_
    refine lv_aload_n hx hb dX1_isState_5 rfl (lv_at hl 0 rfl) ?_
    refine va_get (D := G.1) (ci := 1) (v := .int d_count) (C := RX1) (T := TX1) (N := 11) hx hb hts hinX1 hown hK.1 hP 0 rfl rfl 5 (by decide) hf25 (fun _ h9 => h9) rfl dX1_isState_6 ?_
    refine lv_icmp_ge (tgt := 16) hx hb dX1_isState_9 (by decide) (fun c_9 => ?_) (fun c_9 => ?_)
    · replace h := (if_pos c_9).symm.trans h
      refine lv_iconst (v := 0) hx hb dX1_isState_16 (by decide) ?_
      obtain ⟨gbv, h⟩ := gb_e h
      obtain rfl := oi1 h
      exact hret _ _ _ dX1_isState_17 rfl (nb gbv)
    · replace h := (if_neg c_9).symm.trans h
      refine lv_iconst (v := 1) hx hb dX1_isState_12 (by decide) ?_
      refine lv_goto (tgt := 17) hx hb dX1_isState_13 (by decide) ?_
      obtain ⟨gbv, h⟩ := gb_e h
      obtain rfl := oi1 h
      exact hret _ _ _ dX1_isState_17 rfl (nb gbv)
abbrev rX1_add : Room := { frames := 0, cells := 0, slots := 0, locals := 0 }
set_option maxHeartbeats 4000000 in
set_option maxRecDepth 100000 in
theorem c_X1_add (l : Launch) (G : GG) (d_h : Nat) (d_hp : Nat) (d_q : Nat → Nat) (d_a : Nat → Nat) (d_rm : Nat) (d_stateOf : AI) (d_kindOf : AI) (d_order : AI) (d_rooms : Int32) (d_count : Int32) (d_next : AI) (d_says : AI) (d_note : AI) (d_sort : AI) (d_freshSort : AI)   (sz : Nat) (d_count_z : Int32) (h : p_X1_add d_rooms d_count = some d_count_z) : CV l yX1_add wsX1_add rX1_add G [.ref d_h] (WD G d_h d_hp d_q d_a d_rm d_stateOf d_kindOf d_order d_rooms d_count d_next d_says d_note d_sort d_freshSort) sz (fun u => WD G d_h d_hp d_q d_a d_rm d_stateOf d_kindOf d_order d_rooms d_count_z d_next d_says d_note d_sort d_freshSort) := by
  refine enterCV (cc := cX1_add) (maxL := 1) (by decide) rfl (Nat.le_of_ble_eq_true rfl) ?_
  intro p e s m args below meth c A Q hx hb hml hown hts hK hP hD hS hA hnm hret ls hl
  have hown : s.vm.findClass RX1 = some m.cls := hown
  have hf21 := hts (.fieldLink RX1 21 "DigitClaims$Draft" "rooms" "I") (by decide +kernel)
  have hf25 := hts (.fieldLink RX1 25 "DigitClaims$Draft" "count" "I") (by decide +kernel)
  have hinX1 : ∀ w ∈ wsX10, w ∈ wsX1_add := by decide +kernel
  have hl : lv_has ls 1 [(0, .ref d_h)] := hl
  unfold p_X1_add at h
  refine lv_aload_n hx hb dX1_add_0 rfl (lv_at hl 0 rfl) ?_
  refine va_get (D := G.1) (ci := 1) (v := .int d_count) (C := RX1) (T := TX1) (N := 11) hx hb hts hinX1 hown hK.1 hP 0 rfl rfl 5 (by decide) hf25 (fun _ h9 => h9) rfl dX1_add_1 ?_
  refine lv_aload_n hx hb dX1_add_4 rfl (lv_at hl 0 rfl) ?_
  refine va_get (D := G.1) (ci := 1) (v := .int d_rooms) (C := RX1) (T := TX1) (N := 11) hx hb hts hinX1 hown hK.1 hP 0 rfl rfl 4 (by decide) hf21 (fun _ h9 => h9) rfl dX1_add_5 ?_
  refine lv_icmp_ge (tgt := 21) hx hb dX1_add_8 (by decide) (fun c_8 => ?_) (fun c_8 => ?_)
  · replace h := (if_pos c_8).symm.trans h
    obtain rfl := oi1 h
    exact hret (fun _ => 0) _ _ _ _ _ _ dX1_add_21 hP hD hS (Nat.le_of_ble_eq_true rfl) (Nat.le_of_ble_eq_true rfl)
  · replace h := (if_neg c_8).symm.trans h
    refine lv_aload_n hx hb dX1_add_11 rfl (lv_at hl 0 rfl) ?_
    refine lv_dup hx hb dX1_add_12 rfl ?_
    refine va_get (D := G.1) (ci := 1) (v := .int d_count) (C := RX1) (T := TX1) (N := 11) hx hb hts hinX1 hown hK.1 hP 0 rfl rfl 5 (by decide) hf25 (fun _ h9 => h9) rfl dX1_add_13 ?_
    refine lv_iconst (v := 1) hx hb dX1_add_16 (by decide) ?_
    refine lv_iadd hx hb dX1_add_17 ?_
    refine va_put (D := G.1) (ci := 1) (v := .int (d_count + (1 : Int32))) (ty := .int) (C := RX1) (T := TX1) (N := 11) hx hb hts hinX1 tyX1 tyX1_ok nmX1 hown hK.1 hP hD hS 0 rfl rfl 5 (by decide) hf25 (fun _ h9 => h9) rfl (by decide +kernel) rfl rfl (Nat.le_of_ble_eq_true rfl) dX1_add_18 (fun H locs hP hD hS => ?_)
    have hP : va_P G.1 vwCl (WD G d_h d_hp d_q d_a d_rm d_stateOf d_kindOf d_order d_rooms (d_count + (1 : Int32)) d_next d_says d_note d_sort d_freshSort) H := hP
    have hD : va_D A (WD G d_h d_hp d_q d_a d_rm d_stateOf d_kindOf d_order d_rooms (d_count + (1 : Int32)) d_next d_says d_note d_sort d_freshSort) := hD
    obtain rfl := oi1 h
    exact hret (fun _ => 0) _ _ _ _ _ _ dX1_add_21 hP hD hS (Nat.le_of_ble_eq_true rfl) (Nat.le_of_ble_eq_true rfl)
abbrev rX1_write : Room := { frames := 1, cells := 0, slots := 0, locals := 21 }
set_option maxHeartbeats 4000000 in
set_option maxRecDepth 100000 in
theorem c_X1_write (l : Launch) (G : GG) (d_h : Nat) (d_hp : Nat) (d_q : Nat → Nat) (d_a : Nat → Nat) (d_rm : Nat) (d_stateOf : AI) (d_kindOf : AI) (d_order : AI) (d_rooms : Int32) (d_count : Int32) (d_next : AI) (d_says : AI) (d_note : AI) (d_sort : AI) (d_freshSort : AI)  (v1 : Int32) (v2 : Int32) (v3 : Int32) (sz : Nat) (d_next_z : AI) (h : p_X1_write d_rm d_count d_next v1 v2 v3 = some d_next_z) : CV l yX1_write wsX1_write rX1_write G [.ref d_h, .int v1, .int v2, .int v3] (WD G d_h d_hp d_q d_a d_rm d_stateOf d_kindOf d_order d_rooms d_count d_next d_says d_note d_sort d_freshSort) sz (fun u => WD G d_h d_hp d_q d_a d_rm d_stateOf d_kindOf d_order d_rooms d_count d_next_z d_says d_note d_sort d_freshSort) := by
  refine enterCV (cc := cX1_write) (maxL := 4) (by decide) rfl (Nat.le_of_ble_eq_true rfl) ?_
  intro p e s m args below meth c A Q hx hb hml hown hts hK hP hD hS hA hnm hret ls hl
  have hown : s.vm.findClass RX1 = some m.cls := hown
  have hf28 := hts (.fieldLink RX1 28 "DigitClaims$Draft" "next" "[I") (by decide +kernel)
  have hinX1 : ∀ w ∈ wsX10, w ∈ wsX1_write := by decide +kernel
  have hl : lv_has ls 4 [(0, .ref d_h), (1, .int v1), (2, .int v2), (3, .int v3)] := hl
  unfold p_X1_write at h
  refine lv_aload_n hx hb dX1_write_0 rfl (lv_at hl 0 rfl) ?_
  refine lv_iload_n hx hb dX1_write_1 rfl (lv_at hl 1 rfl) ?_
  obtain ⟨r_2, hc_2, h⟩ := ob1_e h
  refine k_si (va_runV (As := [.int v1]) (rest := []) ⟨hx, hb, hml, hown, hts⟩ (c_X1_isState l G d_h d_hp d_q d_a d_rm d_stateOf d_kindOf d_order d_rooms d_count d_next d_says d_note d_sort d_freshSort  v1 r_2 hc_2) (cwV 1 hts gX1_write_X1_isState rfl rfl rfl ⟨rfl, eX1_isState⟩ ⟨Nat.le_of_ble_eq_true rfl, Nat.le_of_ble_eq_true rfl⟩) (preSV (ci := 1) (q0 := 0) hK hP rfl rfl) rfl rfl hl.1 rfl (lv_room (Nat.le_of_ble_eq_true rfl)) dX1_write_2 ⟨Nat.le_of_ble_eq_true rfl, Nat.le_of_ble_eq_true rfl⟩) ?_
  refine lv_if_eq (tgt := 27) hx hb dX1_write_5 (by decide) (fun c_5 => ?_) (fun c_5 => ?_)
  · replace h := (if_pos c_5).symm.trans h
    obtain rfl := oi1 h
    exact hret (fun _ => 0) _ _ _ _ _ _ dX1_write_27 hP hD hS (Nat.le_of_ble_eq_true rfl) (Nat.le_of_ble_eq_true rfl)
  · replace h := (if_neg c_5).symm.trans h
    refine lv_iload_n hx hb dX1_write_8 rfl (lv_at hl 2 rfl) ?_
    obtain ⟨r_9, hc_9, h⟩ := ob1_e h
    refine k_si (va_runSN (As := [.int v2]) (rest := []) ⟨hx, hb, hml, hown, hts⟩ (c_X9_isColumn l G    v2 r_9 hc_9) ⟨va_cnB 1 hts gX1_write_X9_isColumn_n65 rfl rfl rfl (hK.2 _ (List.mem_of_getElem? (i := 5) rfl)) (hts (.initialized RX9) (by decide +kernel)) eX9_isColumn ⟨Nat.le_of_ble_eq_true rfl, Nat.le_of_ble_eq_true rfl⟩, hts (.static yX9_isColumn) (by decide +kernel), trivial⟩ (preSS hK (fun k q h => by cases h)) rfl rfl hl.1 rfl (lv_room (Nat.le_of_ble_eq_true rfl)) dX1_write_9 ⟨Nat.le_of_ble_eq_true rfl, Nat.le_of_ble_eq_true rfl⟩) ?_
    refine lv_if_eq (tgt := 27) hx hb dX1_write_12 (by decide) (fun c_12 => ?_) (fun c_12 => ?_)
    · replace h := (if_pos c_12).symm.trans h
      obtain rfl := oi1 h
      exact hret (fun _ => 0) _ _ _ _ _ _ dX1_write_27 hP hD hS (Nat.le_of_ble_eq_true rfl) (Nat.le_of_ble_eq_true rfl)
    · replace h := (if_neg c_12).symm.trans h
      refine lv_aload_n hx hb dX1_write_15 rfl (lv_at hl 0 rfl) ?_
      refine va_get (D := G.1) (ci := 1) (v := .ref (d_a 0)) (C := RX1) (T := TX1) (N := 11) hx hb hts hinX1 hown hK.1 hP 0 rfl rfl 6 (by decide) hf28 (fun _ h9 => h9) rfl dX1_write_16 ?_
      refine lv_iload_n hx hb dX1_write_19 rfl (lv_at hl 1 rfl) ?_
      refine lv_bipush (v := 8) hx hb dX1_write_20 (by decide) ?_
      refine lv_imul hx hb dX1_write_22 ?_
      refine lv_iload_n hx hb dX1_write_23 rfl (lv_at hl 2 rfl) ?_
      refine lv_iadd hx hb dX1_write_24 ?_
      refine lv_iload_n hx hb dX1_write_25 rfl (lv_at hl 3 rfl) ?_
      obtain ⟨g_26, h⟩ := gi_e h
      refine va_iast hx hb hK.1 hP hD hS 4 0 rfl rfl g_26 dX1_write_26 (fun H locs hP hD hS => ?_)
      have hP : va_P G.1 vwCl (WD G d_h d_hp d_q d_a d_rm d_stateOf d_kindOf d_order d_rooms d_count (upd d_next ((v1 * (8 : Int32)) + v2).toNatClampNeg v3) d_says d_note d_sort d_freshSort) H := hP
      have hD : va_D A (WD G d_h d_hp d_q d_a d_rm d_stateOf d_kindOf d_order d_rooms d_count (upd d_next ((v1 * (8 : Int32)) + v2).toNatClampNeg v3) d_says d_note d_sort d_freshSort) := hD
      obtain rfl := oi1 h
      exact hret (fun _ => 0) _ _ _ _ _ _ dX1_write_27 hP hD hS (Nat.le_of_ble_eq_true rfl) (Nat.le_of_ble_eq_true rfl)
abbrev rX1_writeSays : Room := { frames := 1, cells := 0, slots := 0, locals := 21 }
set_option maxHeartbeats 4000000 in
set_option maxRecDepth 100000 in
theorem c_X1_writeSays (l : Launch) (G : GG) (d_h : Nat) (d_hp : Nat) (d_q : Nat → Nat) (d_a : Nat → Nat) (d_rm : Nat) (d_stateOf : AI) (d_kindOf : AI) (d_order : AI) (d_rooms : Int32) (d_count : Int32) (d_next : AI) (d_says : AI) (d_note : AI) (d_sort : AI) (d_freshSort : AI)  (v1 : Int32) (v2 : Int32) (sz : Nat) (d_says_z : AI) (h : p_X1_writeSays d_rm d_count d_says v1 v2 = some d_says_z) : CV l yX1_writeSays wsX1_writeSays rX1_writeSays G [.ref d_h, .int v1, .int v2] (WD G d_h d_hp d_q d_a d_rm d_stateOf d_kindOf d_order d_rooms d_count d_next d_says d_note d_sort d_freshSort) sz (fun u => WD G d_h d_hp d_q d_a d_rm d_stateOf d_kindOf d_order d_rooms d_count d_next d_says_z d_note d_sort d_freshSort) := by
  refine enterCV (cc := cX1_writeSays) (maxL := 3) (by decide) rfl (Nat.le_of_ble_eq_true rfl) ?_
  intro p e s m args below meth c A Q hx hb hml hown hts hK hP hD hS hA hnm hret ls hl
  have hown : s.vm.findClass RX1 = some m.cls := hown
  have hf31 := hts (.fieldLink RX1 31 "DigitClaims$Draft" "says" "[Z") (by decide +kernel)
  have hinX1 : ∀ w ∈ wsX10, w ∈ wsX1_writeSays := by decide +kernel
  have hl : lv_has ls 3 [(0, .ref d_h), (1, .int v1), (2, .int v2)] := hl
  unfold p_X1_writeSays at h
  refine lv_aload_n hx hb dX1_writeSays_0 rfl (lv_at hl 0 rfl) ?_
  refine lv_iload_n hx hb dX1_writeSays_1 rfl (lv_at hl 1 rfl) ?_
  obtain ⟨r_2, hc_2, h⟩ := ob1_e h
  refine k_si (va_runV (As := [.int v1]) (rest := []) ⟨hx, hb, hml, hown, hts⟩ (c_X1_isState l G d_h d_hp d_q d_a d_rm d_stateOf d_kindOf d_order d_rooms d_count d_next d_says d_note d_sort d_freshSort  v1 r_2 hc_2) (cwV 1 hts gX1_writeSays_X1_isState rfl rfl rfl ⟨rfl, eX1_isState⟩ ⟨Nat.le_of_ble_eq_true rfl, Nat.le_of_ble_eq_true rfl⟩) (preSV (ci := 1) (q0 := 0) hK hP rfl rfl) rfl rfl hl.1 rfl (lv_room (Nat.le_of_ble_eq_true rfl)) dX1_writeSays_2 ⟨Nat.le_of_ble_eq_true rfl, Nat.le_of_ble_eq_true rfl⟩) ?_
  refine lv_if_eq (tgt := 15) hx hb dX1_writeSays_5 (by decide) (fun c_5 => ?_) (fun c_5 => ?_)
  · replace h := (if_pos c_5).symm.trans h
    obtain rfl := oi1 h
    exact hret (fun _ => 0) _ _ _ _ _ _ dX1_writeSays_15 hP hD hS (Nat.le_of_ble_eq_true rfl) (Nat.le_of_ble_eq_true rfl)
  · replace h := (if_neg c_5).symm.trans h
    refine lv_aload_n hx hb dX1_writeSays_8 rfl (lv_at hl 0 rfl) ?_
    refine va_get (D := G.1) (ci := 1) (v := .ref (d_a 1)) (C := RX1) (T := TX1) (N := 11) hx hb hts hinX1 hown hK.1 hP 0 rfl rfl 7 (by decide) hf31 (fun _ h9 => h9) rfl dX1_writeSays_9 ?_
    refine lv_iload_n hx hb dX1_writeSays_12 rfl (lv_at hl 1 rfl) ?_
    refine lv_iload_n hx hb dX1_writeSays_13 rfl (lv_at hl 2 rfl) ?_
    obtain ⟨g_14, h⟩ := gi_e h
    refine va_zast hx hb hK.1 hP hD hS 5 1 rfl rfl g_14 dX1_writeSays_14 (fun H locs hP hD hS => ?_)
    have hP : va_P G.1 vwCl (WD G d_h d_hp d_q d_a d_rm d_stateOf d_kindOf d_order d_rooms d_count d_next (upd d_says v1.toNatClampNeg (v2 &&& (1 : Int32))) d_note d_sort d_freshSort) H := hP
    have hD : va_D A (WD G d_h d_hp d_q d_a d_rm d_stateOf d_kindOf d_order d_rooms d_count d_next (upd d_says v1.toNatClampNeg (v2 &&& (1 : Int32))) d_note d_sort d_freshSort) := hD
    obtain rfl := oi1 h
    exact hret (fun _ => 0) _ _ _ _ _ _ dX1_writeSays_15 hP hD hS (Nat.le_of_ble_eq_true rfl) (Nat.le_of_ble_eq_true rfl)
abbrev rX1_writeNote : Room := { frames := 1, cells := 0, slots := 0, locals := 21 }
set_option maxHeartbeats 4000000 in
set_option maxRecDepth 100000 in
theorem c_X1_writeNote (l : Launch) (G : GG) (d_h : Nat) (d_hp : Nat) (d_q : Nat → Nat) (d_a : Nat → Nat) (d_rm : Nat) (d_stateOf : AI) (d_kindOf : AI) (d_order : AI) (d_rooms : Int32) (d_count : Int32) (d_next : AI) (d_says : AI) (d_note : AI) (d_sort : AI) (d_freshSort : AI)  (v1 : Int32) (v2 : Int32) (sz : Nat) (d_note_z : AI) (h : p_X1_writeNote d_rm d_count d_note v1 v2 = some d_note_z) : CV l yX1_writeNote wsX1_writeNote rX1_writeNote G [.ref d_h, .int v1, .int v2] (WD G d_h d_hp d_q d_a d_rm d_stateOf d_kindOf d_order d_rooms d_count d_next d_says d_note d_sort d_freshSort) sz (fun u => WD G d_h d_hp d_q d_a d_rm d_stateOf d_kindOf d_order d_rooms d_count d_next d_says d_note_z d_sort d_freshSort) := by
  refine enterCV (cc := cX1_writeNote) (maxL := 3) (by decide) rfl (Nat.le_of_ble_eq_true rfl) ?_
  intro p e s m args below meth c A Q hx hb hml hown hts hK hP hD hS hA hnm hret ls hl
  have hown : s.vm.findClass RX1 = some m.cls := hown
  have hf35 := hts (.fieldLink RX1 35 "DigitClaims$Draft" "note" "[I") (by decide +kernel)
  have hinX1 : ∀ w ∈ wsX10, w ∈ wsX1_writeNote := by decide +kernel
  have hl : lv_has ls 3 [(0, .ref d_h), (1, .int v1), (2, .int v2)] := hl
  unfold p_X1_writeNote at h
  refine lv_aload_n hx hb dX1_writeNote_0 rfl (lv_at hl 0 rfl) ?_
  refine lv_iload_n hx hb dX1_writeNote_1 rfl (lv_at hl 1 rfl) ?_
  obtain ⟨r_2, hc_2, h⟩ := ob1_e h
  refine k_si (va_runV (As := [.int v1]) (rest := []) ⟨hx, hb, hml, hown, hts⟩ (c_X1_isState l G d_h d_hp d_q d_a d_rm d_stateOf d_kindOf d_order d_rooms d_count d_next d_says d_note d_sort d_freshSort  v1 r_2 hc_2) (cwV 1 hts gX1_writeNote_X1_isState rfl rfl rfl ⟨rfl, eX1_isState⟩ ⟨Nat.le_of_ble_eq_true rfl, Nat.le_of_ble_eq_true rfl⟩) (preSV (ci := 1) (q0 := 0) hK hP rfl rfl) rfl rfl hl.1 rfl (lv_room (Nat.le_of_ble_eq_true rfl)) dX1_writeNote_2 ⟨Nat.le_of_ble_eq_true rfl, Nat.le_of_ble_eq_true rfl⟩) ?_
  refine lv_if_eq (tgt := 15) hx hb dX1_writeNote_5 (by decide) (fun c_5 => ?_) (fun c_5 => ?_)
  · replace h := (if_pos c_5).symm.trans h
    obtain rfl := oi1 h
    exact hret (fun _ => 0) _ _ _ _ _ _ dX1_writeNote_15 hP hD hS (Nat.le_of_ble_eq_true rfl) (Nat.le_of_ble_eq_true rfl)
  · replace h := (if_neg c_5).symm.trans h
    refine lv_aload_n hx hb dX1_writeNote_8 rfl (lv_at hl 0 rfl) ?_
    refine va_get (D := G.1) (ci := 1) (v := .ref (d_a 2)) (C := RX1) (T := TX1) (N := 11) hx hb hts hinX1 hown hK.1 hP 0 rfl rfl 8 (by decide) hf35 (fun _ h9 => h9) rfl dX1_writeNote_9 ?_
    refine lv_iload_n hx hb dX1_writeNote_12 rfl (lv_at hl 1 rfl) ?_
    refine lv_iload_n hx hb dX1_writeNote_13 rfl (lv_at hl 2 rfl) ?_
    obtain ⟨g_14, h⟩ := gi_e h
    refine va_iast hx hb hK.1 hP hD hS 6 0 rfl rfl g_14 dX1_writeNote_14 (fun H locs hP hD hS => ?_)
    have hP : va_P G.1 vwCl (WD G d_h d_hp d_q d_a d_rm d_stateOf d_kindOf d_order d_rooms d_count d_next d_says (upd d_note v1.toNatClampNeg v2) d_sort d_freshSort) H := hP
    have hD : va_D A (WD G d_h d_hp d_q d_a d_rm d_stateOf d_kindOf d_order d_rooms d_count d_next d_says (upd d_note v1.toNatClampNeg v2) d_sort d_freshSort) := hD
    obtain rfl := oi1 h
    exact hret (fun _ => 0) _ _ _ _ _ _ dX1_writeNote_15 hP hD hS (Nat.le_of_ble_eq_true rfl) (Nat.le_of_ble_eq_true rfl)
abbrev rX1_noteOf : Room := { frames := 1, cells := 0, slots := 0, locals := 21 }
set_option maxHeartbeats 4000000 in
set_option maxRecDepth 100000 in
theorem c_X1_noteOf (l : Launch) (G : GG) (d_h : Nat) (d_hp : Nat) (d_q : Nat → Nat) (d_a : Nat → Nat) (d_rm : Nat) (d_stateOf : AI) (d_kindOf : AI) (d_order : AI) (d_rooms : Int32) (d_count : Int32) (d_next : AI) (d_says : AI) (d_note : AI) (d_sort : AI) (d_freshSort : AI)  (v1 : Int32) (r : Int32) (h : p_X1_noteOf d_rm d_count d_note v1 = some r) : SI l yX1_noteOf wsX1_noteOf rX1_noteOf G [.ref d_h, .int v1] (WD G d_h d_hp d_q d_a d_rm d_stateOf d_kindOf d_order d_rooms d_count d_next d_says d_note d_sort d_freshSort) r := by
  refine enterSI (cc := cX1_noteOf) (maxL := 2) (by decide) rfl (Nat.le_of_ble_eq_true rfl) ?_
  intro p e s m args below meth c Q hx hb hml hown hts hK hP hret ls hl
  have hown : s.vm.findClass RX1 = some m.cls := hown
  have hf35 := hts (.fieldLink RX1 35 "DigitClaims$Draft" "note" "[I") (by decide +kernel)
  have hinX1 : ∀ w ∈ wsX10, w ∈ wsX1_noteOf := by decide +kernel
  have hl : lv_has ls 2 [(0, .ref d_h), (1, .int v1)] := hl
  unfold p_X1_noteOf at h
  refine lv_aload_n hx hb dX1_noteOf_0 rfl (lv_at hl 0 rfl) ?_
  refine lv_iload_n hx hb dX1_noteOf_1 rfl (lv_at hl 1 rfl) ?_
  obtain ⟨r_2, hc_2, h⟩ := ob1_e h
  refine k_si (va_runV (As := [.int v1]) (rest := []) ⟨hx, hb, hml, hown, hts⟩ (c_X1_isState l G d_h d_hp d_q d_a d_rm d_stateOf d_kindOf d_order d_rooms d_count d_next d_says d_note d_sort d_freshSort  v1 r_2 hc_2) (cwV 1 hts gX1_noteOf_X1_isState rfl rfl rfl ⟨rfl, eX1_isState⟩ ⟨Nat.le_of_ble_eq_true rfl, Nat.le_of_ble_eq_true rfl⟩) (preSV (ci := 1) (q0 := 0) hK hP rfl rfl) rfl rfl hl.1 rfl (lv_room (Nat.le_of_ble_eq_true rfl)) dX1_noteOf_2 ⟨Nat.le_of_ble_eq_true rfl, Nat.le_of_ble_eq_true rfl⟩) ?_
  refine lv_if_eq (tgt := 17) hx hb dX1_noteOf_5 (by decide) (fun c_5 => ?_) (fun c_5 => ?_)
  · replace h := (if_pos c_5).symm.trans h
    refine lv_iconst (v := 0) hx hb dX1_noteOf_17 (by decide) ?_
    obtain rfl := oi1 h
    exact hret _ _ _ dX1_noteOf_18 rfl rfl
  · replace h := (if_neg c_5).symm.trans h
    refine lv_aload_n hx hb dX1_noteOf_8 rfl (lv_at hl 0 rfl) ?_
    refine va_get (D := G.1) (ci := 1) (v := .ref (d_a 2)) (C := RX1) (T := TX1) (N := 11) hx hb hts hinX1 hown hK.1 hP 0 rfl rfl 8 (by decide) hf35 (fun _ h9 => h9) rfl dX1_noteOf_9 ?_
    refine lv_iload_n hx hb dX1_noteOf_12 rfl (lv_at hl 1 rfl) ?_
    obtain ⟨g_13, h⟩ := gi_e h
    refine va_iald hx hb hK.1 hP 6 0 rfl rfl g_13 dX1_noteOf_13 ?_
    refine lv_goto (tgt := 18) hx hb dX1_noteOf_14 (by decide) ?_
    obtain rfl := oi1 h
    exact hret _ _ _ dX1_noteOf_18 rfl rfl
abbrev rX1_sortAfter : Room := { frames := 0, cells := 0, slots := 0, locals := 0 }
set_option maxHeartbeats 4000000 in
set_option maxRecDepth 100000 in
theorem c_X1_sortAfter (l : Launch) (G : GG) (d_h : Nat) (d_hp : Nat) (d_q : Nat → Nat) (d_a : Nat → Nat) (d_rm : Nat) (d_stateOf : AI) (d_kindOf : AI) (d_order : AI) (d_rooms : Int32) (d_count : Int32) (d_next : AI) (d_says : AI) (d_note : AI) (d_sort : AI) (d_freshSort : AI)  (v1 : Int32) (v2 : Int32) (r : Int32) (h : p_X1_sortAfter d_rm d_count d_next d_sort v1 v2 = some r) : SI l yX1_sortAfter wsX1_sortAfter rX1_sortAfter G [.ref d_h, .int v1, .int v2] (WD G d_h d_hp d_q d_a d_rm d_stateOf d_kindOf d_order d_rooms d_count d_next d_says d_note d_sort d_freshSort) r := by
  refine enterSI (cc := cX1_sortAfter) (maxL := 4) (by decide) rfl (Nat.le_of_ble_eq_true rfl) ?_
  intro p e s m args below meth c Q hx hb hml hown hts hK hP hret ls hl
  have hown : s.vm.findClass RX1 = some m.cls := hown
  have hf25 := hts (.fieldLink RX1 25 "DigitClaims$Draft" "count" "I") (by decide +kernel)
  have hf28 := hts (.fieldLink RX1 28 "DigitClaims$Draft" "next" "[I") (by decide +kernel)
  have hf38 := hts (.fieldLink RX1 38 "DigitClaims$Draft" "sort" "[I") (by decide +kernel)
  have hinX1 : ∀ w ∈ wsX10, w ∈ wsX1_sortAfter := by decide +kernel
  have hl : lv_has ls 4 [(0, .ref d_h), (1, .int v1), (2, .int v2)] := hl
  unfold p_X1_sortAfter at h
  refine lv_iload_n hx hb dX1_sortAfter_0 rfl (lv_at hl 1 rfl) ?_
  refine lv_if_lt (tgt := 22) hx hb dX1_sortAfter_1 (by decide) (fun c_1 => ?_) (fun c_1 => ?_)
  · replace h := (if_pos c_1).symm.trans h
    refine lv_iconst (v := 0) hx hb dX1_sortAfter_22 (by decide) ?_
    obtain rfl := oi1 h
    exact hret _ _ _ dX1_sortAfter_23 rfl rfl
  · replace h := (if_neg c_1).symm.trans h
    refine lv_iload_n hx hb dX1_sortAfter_4 rfl (lv_at hl 1 rfl) ?_
    refine lv_aload_n hx hb dX1_sortAfter_5 rfl (lv_at hl 0 rfl) ?_
    refine va_get (D := G.1) (ci := 1) (v := .int d_count) (C := RX1) (T := TX1) (N := 11) hx hb hts hinX1 hown hK.1 hP 0 rfl rfl 5 (by decide) hf25 (fun _ h9 => h9) rfl dX1_sortAfter_6 ?_
    refine lv_icmp_ge (tgt := 22) hx hb dX1_sortAfter_9 (by decide) (fun c_9 => ?_) (fun c_9 => ?_)
    · replace h := (if_pos c_9).symm.trans h
      refine lv_iconst (v := 0) hx hb dX1_sortAfter_22 (by decide) ?_
      obtain rfl := oi1 h
      exact hret _ _ _ dX1_sortAfter_23 rfl rfl
    · replace h := (if_neg c_9).symm.trans h
      refine lv_iload_n hx hb dX1_sortAfter_12 rfl (lv_at hl 2 rfl) ?_
      refine lv_if_lt (tgt := 22) hx hb dX1_sortAfter_13 (by decide) (fun c_13 => ?_) (fun c_13 => ?_)
      · replace h := (if_pos c_13).symm.trans h
        refine lv_iconst (v := 0) hx hb dX1_sortAfter_22 (by decide) ?_
        obtain rfl := oi1 h
        exact hret _ _ _ dX1_sortAfter_23 rfl rfl
      · replace h := (if_neg c_13).symm.trans h
        refine lv_iload_n hx hb dX1_sortAfter_16 rfl (lv_at hl 2 rfl) ?_
        refine lv_bipush (v := 8) hx hb dX1_sortAfter_17 (by decide) ?_
        refine lv_icmp_lt (tgt := 24) hx hb dX1_sortAfter_19 (by decide) (fun c_19 => ?_) (fun c_19 => ?_)
        · replace h := (if_pos c_19).symm.trans h
          refine lv_aload_n hx hb dX1_sortAfter_24 rfl (lv_at hl 0 rfl) ?_
          refine va_get (D := G.1) (ci := 1) (v := .ref (d_a 0)) (C := RX1) (T := TX1) (N := 11) hx hb hts hinX1 hown hK.1 hP 0 rfl rfl 6 (by decide) hf28 (fun _ h9 => h9) rfl dX1_sortAfter_25 ?_
          refine lv_iload_n hx hb dX1_sortAfter_28 rfl (lv_at hl 1 rfl) ?_
          refine lv_bipush (v := 8) hx hb dX1_sortAfter_29 (by decide) ?_
          refine lv_imul hx hb dX1_sortAfter_31 ?_
          refine lv_iload_n hx hb dX1_sortAfter_32 rfl (lv_at hl 2 rfl) ?_
          refine lv_iadd hx hb dX1_sortAfter_33 ?_
          obtain ⟨g_34, h⟩ := gi_e h
          refine va_iald hx hb hK.1 hP 4 0 rfl rfl g_34 dX1_sortAfter_34 ?_
          refine lv_istore_n (lv' := [(3, .int (d_next ((v1 * (8 : Int32)) + v2).toNatClampNeg)), (0, .ref d_h), (1, .int v1), (2, .int v2)]) hx hb dX1_sortAfter_35 rfl hl (by decide) rfl (fun ls hl => ?_)
          refine lv_iload_n hx hb dX1_sortAfter_36 rfl (lv_at hl 0 rfl) ?_
          refine lv_if_lt (tgt := 57) hx hb dX1_sortAfter_37 (by decide) (fun c_37 => ?_) (fun c_37 => ?_)
          · replace h := (if_pos c_37).symm.trans h
            refine lv_iconst (v := 0) hx hb dX1_sortAfter_57 (by decide) ?_
            obtain rfl := oi1 h
            exact hret _ _ _ dX1_sortAfter_58 rfl rfl
          · replace h := (if_neg c_37).symm.trans h
            refine lv_iload_n hx hb dX1_sortAfter_40 rfl (lv_at hl 0 rfl) ?_
            refine lv_aload_n hx hb dX1_sortAfter_41 rfl (lv_at hl 1 rfl) ?_
            refine va_get (D := G.1) (ci := 1) (v := .int d_count) (C := RX1) (T := TX1) (N := 11) hx hb hts hinX1 hown hK.1 hP 0 rfl rfl 5 (by decide) hf25 (fun _ h9 => h9) rfl dX1_sortAfter_42 ?_
            refine lv_icmp_ge (tgt := 57) hx hb dX1_sortAfter_45 (by decide) (fun c_45 => ?_) (fun c_45 => ?_)
            · replace h := (if_pos c_45).symm.trans h
              refine lv_iconst (v := 0) hx hb dX1_sortAfter_57 (by decide) ?_
              obtain rfl := oi1 h
              exact hret _ _ _ dX1_sortAfter_58 rfl rfl
            · replace h := (if_neg c_45).symm.trans h
              refine lv_aload_n hx hb dX1_sortAfter_48 rfl (lv_at hl 1 rfl) ?_
              refine va_get (D := G.1) (ci := 1) (v := .ref (d_a 3)) (C := RX1) (T := TX1) (N := 11) hx hb hts hinX1 hown hK.1 hP 0 rfl rfl 9 (by decide) hf38 (fun _ h9 => h9) rfl dX1_sortAfter_49 ?_
              refine lv_iload_n hx hb dX1_sortAfter_52 rfl (lv_at hl 0 rfl) ?_
              obtain ⟨g_53, h⟩ := gi_e h
              refine va_iald hx hb hK.1 hP 7 0 rfl rfl g_53 dX1_sortAfter_53 ?_
              refine lv_goto (tgt := 58) hx hb dX1_sortAfter_54 (by decide) ?_
              obtain rfl := oi1 h
              exact hret _ _ _ dX1_sortAfter_58 rfl rfl
        · replace h := (if_neg c_19).symm.trans h
          refine lv_iconst (v := 0) hx hb dX1_sortAfter_22 (by decide) ?_
          obtain rfl := oi1 h
          exact hret _ _ _ dX1_sortAfter_23 rfl rfl
abbrev rX1_sortBySays : Room := { frames := 2, cells := 0, slots := 0, locals := 43 }
set_option maxHeartbeats 4000000 in
set_option maxRecDepth 100000 in
theorem c_X1_sortBySays (l : Launch) (G : GG) (n : Nat) (d_h : Nat) (d_hp : Nat) (d_q : Nat → Nat) (d_a : Nat → Nat) (p_q : Nat → Nat) (d_rm : Nat) (d_stateOf : AI) (d_kindOf : AI) (d_order : AI) (d_rooms : Int32) (d_count : Int32) (d_next : AI) (d_says : AI) (d_note : AI) (d_sort : AI) (d_freshSort : AI) (p_table : AI) (p_turn : Int32) (p_count : Int32)   (sz : Nat) (r : Int32) (d_sort_z : AI) (p_table_z : AI) (p_turn_z : Int32) (p_count_z : Int32) (h : p_X1_sortBySays n d_rm d_count d_says d_sort p_table p_turn = some (r, d_sort_z, p_table_z, p_turn_z, p_count_z)) : CI l yX1_sortBySays wsX1_sortBySays rX1_sortBySays G [.ref d_h] ((WD G d_h d_hp d_q d_a d_rm d_stateOf d_kindOf d_order d_rooms d_count d_next d_says d_note d_sort d_freshSort) ++ (WP G d_hp p_q p_table p_turn p_count)) sz r (fun u => (WD G d_h d_hp d_q d_a d_rm d_stateOf d_kindOf d_order d_rooms d_count d_next d_says d_note d_sort_z d_freshSort) ++ (WP G d_hp p_q p_table_z p_turn_z p_count_z)) := by
  refine enterCI (cc := cX1_sortBySays) (maxL := 2) (by decide) rfl (Nat.le_of_ble_eq_true rfl) ?_
  intro p e s m args below meth c A Q hx hb hml hown hts hK hP hD hS hA hret ls hl
  have hown : s.vm.findClass RX1 = some m.cls := hown
  have hf25 := hts (.fieldLink RX1 25 "DigitClaims$Draft" "count" "I") (by decide +kernel)
  have hf31 := hts (.fieldLink RX1 31 "DigitClaims$Draft" "says" "[Z") (by decide +kernel)
  have hf38 := hts (.fieldLink RX1 38 "DigitClaims$Draft" "sort" "[I") (by decide +kernel)
  have hf44 := hts (.fieldLink RX1 44 "DigitClaims$Draft" "pairs" "LDigitClaims$PairNumbers;") (by decide +kernel)
  have hinX1 : ∀ w ∈ wsX10, w ∈ wsX1_sortBySays := by decide +kernel
  have hl : lv_has ls 2 [(0, .ref d_h)] := hl
  unfold p_X1_sortBySays at h
  refine lv_aload_n hx hb dX1_sortBySays_0 rfl (lv_at hl 0 rfl) ?_
  refine va_get (D := G.1) (ci := 1) (v := .ref d_hp) (C := RX1) (T := TX1) (N := 11) hx hb hts hinX1 hown hK.1 hP 0 rfl rfl 0 (by decide) hf44 (fun _ h9 => h9) rfl dX1_sortBySays_1 ?_
  obtain ⟨p_table_4, p_turn_4, p_count_4, hc_4, h⟩ := ob3_e h
  refine k_cv (wr := WD G d_h d_hp d_q d_a d_rm d_stateOf d_kindOf d_order d_rooms d_count d_next d_says d_note d_sort d_freshSort) (va_runV (As := []) (rest := []) ⟨hx, hb, hml, hown, hts⟩ (c_X3_forget l G n d_hp p_q p_table p_turn p_count   _ p_table_4 p_turn_4 p_count_4 hc_4) (cwV 0 hts gX1_sortBySays_X3_forget rfl rfl rfl ⟨rfl, eX3_forget⟩ ⟨Nat.le_of_ble_eq_true rfl, Nat.le_of_ble_eq_true rfl⟩) (preWV (ci := 3) (q0 := 0) hK (hP.sub (ws' := WP G d_hp p_q p_table p_turn p_count) [9, 10] rfl) (hD.sub (ws' := WP G d_hp p_q p_table p_turn p_count) [9, 10] (by decide) rfl) rfl rfl) rfl rfl hl.1 rfl (lv_room (Nat.le_of_ble_eq_true rfl)) dX1_sortBySays_4 ⟨Nat.le_of_ble_eq_true rfl, Nat.le_of_ble_eq_true rfl⟩) hP hD hS hA [9, 10] [0, 1, 2, 3, 4, 5, 6, 7, 8] rfl rfl (by decide) (by decide) (fun u_4 H locs hP hD hS => ?_)
  have hP := hP.sub (ws' := (WD G d_h d_hp d_q d_a d_rm d_stateOf d_kindOf d_order d_rooms d_count d_next d_says d_note d_sort d_freshSort) ++ (WP G d_hp p_q p_table_4 p_turn_4 p_count_4)) [0, 1, 2, 3, 4, 5, 6, 7, 8, 9, 10] rfl
  have hD := hD.sub (ws' := (WD G d_h d_hp d_q d_a d_rm d_stateOf d_kindOf d_order d_rooms d_count d_next d_says d_note d_sort d_freshSort) ++ (WP G d_hp p_q p_table_4 p_turn_4 p_count_4)) [0, 1, 2, 3, 4, 5, 6, 7, 8, 9, 10] (by decide) rfl
  refine lv_iconst (v := 0) hx hb dX1_sortBySays_7 (by decide) ?_
  refine lv_istore_n (lv' := [(1, .int (0 : Int32)), (0, .ref d_h)]) hx hb dX1_sortBySays_8 rfl hl (by decide) rfl (fun ls hl => ?_)
  obtain ⟨d_sort_o9, p_table_o9, p_count_o9, hT9, h⟩ := ob3_e h
  have hX9 : ∀ (d_sort_o9x : AI) (p_table_o9x : AI) (p_count_o9x : Int32)  (H : Heap) (locs : List Loc) (ls : Array Slot), some (d_sort_o9x, p_table_o9x, p_count_o9x) = some (d_sort_o9, p_table_o9, p_count_o9) → va_P G.1 vwCl ((WD G d_h d_hp d_q d_a d_rm d_stateOf d_kindOf d_order d_rooms d_count d_next d_says d_note d_sort_o9x d_freshSort) ++ (WP G d_hp p_q p_table_o9x p_turn_4 p_count_o9x)) H → va_D A ((WD G d_h d_hp d_q d_a d_rm d_stateOf d_kindOf d_order d_rooms d_count d_next d_says d_note d_sort_o9x d_freshSort) ++ (WP G d_hp p_q p_table_o9x p_turn_4 p_count_o9x)) → va_S A s.heap H locs → lv_has ls 2 [(0, .ref d_h)] → W p l e rX1_sortBySays s m args below meth c H locs 0 0 Q (F0 m 51 ls []) := by
    intro d_sort_o9x p_table_o9x p_count_o9x H locs ls hq hP hD hS hl
    obtain ⟨rfl, rfl, rfl⟩ := oi3 hq
    refine lv_aload_n hx hb dX1_sortBySays_51 rfl (lv_at hl 0 rfl) ?_
    refine va_get (D := G.1) (ci := 1) (v := .ref d_hp) (C := RX1) (T := TX1) (N := 11) hx hb hts hinX1 hown hK.1 hP 0 rfl rfl 0 (by decide) hf44 (fun _ h9 => h9) rfl dX1_sortBySays_52 ?_
    obtain ⟨r_55, hc_55, h⟩ := ob1_e h
    refine k_si (va_runV (As := []) (rest := []) ⟨hx, hb, hml, hown, hts⟩ (c_X3_count l G d_hp p_q p_table_o9 p_turn_4 p_count_o9   r_55 hc_55) (cwV 0 hts gX1_sortBySays_X3_count rfl rfl rfl ⟨rfl, eX3_count⟩ ⟨Nat.le_of_ble_eq_true rfl, Nat.le_of_ble_eq_true rfl⟩) (preSV (ci := 3) (q0 := 0) hK (hP.sub (ws' := WP G d_hp p_q p_table_o9 p_turn_4 p_count_o9) [9, 10] rfl) rfl rfl) rfl rfl hl.1 rfl (lv_room (Nat.le_of_ble_eq_true rfl)) dX1_sortBySays_55 ⟨Nat.le_of_ble_eq_true rfl, Nat.le_of_ble_eq_true rfl⟩) ?_
    obtain ⟨rfl, rfl, rfl, rfl, rfl⟩ := oi5 h
    exact hret (fun _ => 0) _ _ _ _ _ _ _ dX1_sortBySays_58 rfl rfl hP hD hS (Nat.le_of_ble_eq_true rfl) (Nat.le_of_ble_eq_true rfl)
  have hL9 : ∀ (f : Nat) (v1_9 : Int32) (d_sort_9 : AI) (p_table_9 : AI) (p_count_9 : Int32)  (H : Heap) (locs : List Loc) (ls : Array Slot), p_X1_sortBySays_L9 d_count d_rm d_says p_turn_4 f v1_9 d_sort_9 p_table_9 p_count_9 = some (d_sort_o9, p_table_o9, p_count_o9) → va_P G.1 vwCl ((WD G d_h d_hp d_q d_a d_rm d_stateOf d_kindOf d_order d_rooms d_count d_next d_says d_note d_sort_9 d_freshSort) ++ (WP G d_hp p_q p_table_9 p_turn_4 p_count_9)) H → va_D A ((WD G d_h d_hp d_q d_a d_rm d_stateOf d_kindOf d_order d_rooms d_count d_next d_says d_note d_sort_9 d_freshSort) ++ (WP G d_hp p_q p_table_9 p_turn_4 p_count_9)) → va_S A s.heap H locs → lv_has ls 2 [(0, .ref d_h), (1, .int v1_9)] → W p l e rX1_sortBySays s m args below meth c H locs 0 0 Q (F0 m 9 ls []) := by
    intro f
    induction f with
    | zero => intro v1_9 d_sort_9 p_table_9 p_count_9 H locs ls h hP hD hS hl; cases (show none = some _ from h)
    | succ f ih =>
      intro v1_9 d_sort_9 p_table_9 p_count_9 H locs ls h hP hD hS hl
      rw [p_X1_sortBySays_L9] at h
      refine lv_iload_n hx hb dX1_sortBySays_9 rfl (lv_at hl 1 rfl) ?_
      refine lv_aload_n hx hb dX1_sortBySays_10 rfl (lv_at hl 0 rfl) ?_
      refine va_get (D := G.1) (ci := 1) (v := .int d_count) (C := RX1) (T := TX1) (N := 11) hx hb hts hinX1 hown hK.1 hP 0 rfl rfl 5 (by decide) hf25 (fun _ h9 => h9) rfl dX1_sortBySays_11 ?_
      refine lv_icmp_ge (tgt := 51) hx hb dX1_sortBySays_14 (by decide) (fun c_14 => ?_) (fun c_14 => ?_)
      · replace h := (if_pos c_14).symm.trans h
        exact hX9 _ _ _  _ _ _ h hP hD hS (lv_sub hl [0] rfl)
      · replace h := (if_neg c_14).symm.trans h
        refine lv_aload_n hx hb dX1_sortBySays_17 rfl (lv_at hl 0 rfl) ?_
        refine va_get (D := G.1) (ci := 1) (v := .ref (d_a 3)) (C := RX1) (T := TX1) (N := 11) hx hb hts hinX1 hown hK.1 hP 0 rfl rfl 9 (by decide) hf38 (fun _ h9 => h9) rfl dX1_sortBySays_18 ?_
        refine lv_iload_n hx hb dX1_sortBySays_21 rfl (lv_at hl 1 rfl) ?_
        refine lv_aload_n hx hb dX1_sortBySays_22 rfl (lv_at hl 0 rfl) ?_
        refine va_get (D := G.1) (ci := 1) (v := .ref d_hp) (C := RX1) (T := TX1) (N := 11) hx hb hts hinX1 hown hK.1 hP 0 rfl rfl 0 (by decide) hf44 (fun _ h9 => h9) rfl dX1_sortBySays_23 ?_
        refine lv_iconst (v := 0) hx hb dX1_sortBySays_26 (by decide) ?_
        refine lv_aload_n hx hb dX1_sortBySays_27 rfl (lv_at hl 0 rfl) ?_
        refine va_get (D := G.1) (ci := 1) (v := .ref (d_a 1)) (C := RX1) (T := TX1) (N := 11) hx hb hts hinX1 hown hK.1 hP 0 rfl rfl 7 (by decide) hf31 (fun _ h9 => h9) rfl dX1_sortBySays_28 ?_
        refine lv_iload_n hx hb dX1_sortBySays_31 rfl (lv_at hl 1 rfl) ?_
        obtain ⟨g_32, h⟩ := gi_e h
        refine va_zald hx hb hK.1 hP 5 1 rfl rfl g_32 dX1_sortBySays_32 ?_
        obtain ⟨j0_33, hT33, h⟩ := ob1_e h
        have hJ33 : ∀ (j0_33x : Int32)  (H : Heap) (locs : List Loc) (ls : Array Slot), some j0_33x = some j0_33 → va_P G.1 vwCl ((WD G d_h d_hp d_q d_a d_rm d_stateOf d_kindOf d_order d_rooms d_count d_next d_says d_note d_sort_9 d_freshSort) ++ (WP G d_hp p_q p_table_9 p_turn_4 p_count_9)) H → va_D A ((WD G d_h d_hp d_q d_a d_rm d_stateOf d_kindOf d_order d_rooms d_count d_next d_says d_note d_sort_9 d_freshSort) ++ (WP G d_hp p_q p_table_9 p_turn_4 p_count_9)) → va_S A s.heap H locs → lv_has ls 2 [(0, .ref d_h), (1, .int v1_9)] → W p l e rX1_sortBySays s m args below meth c H locs 0 0 Q (F0 m 41 ls [.int j0_33x, .int (0 : Int32), .ref d_hp, .int v1_9, .ref (d_a 3)]) := by
          intro j0_33x H locs ls hq hP hD hS hl
          obtain rfl := oi1 hq
          obtain ⟨r_41, p_table_41, p_count_41, hc_41, h⟩ := ob3_e h
          refine k_ci (wr := WD G d_h d_hp d_q d_a d_rm d_stateOf d_kindOf d_order d_rooms d_count d_next d_says d_note d_sort_9 d_freshSort) (va_runV (As := [.int (0 : Int32), .int j0_33]) (rest := [.int v1_9, .ref (d_a 3)]) ⟨hx, hb, hml, hown, hts⟩ (c_X3_numberOf l G d_hp p_q p_table_9 p_turn_4 p_count_9  (0 : Int32) j0_33 _ r_41 p_table_41 p_count_41 hc_41) (cwV 2 hts gX1_sortBySays_X3_numberOf rfl rfl rfl ⟨rfl, eX3_numberOf⟩ ⟨Nat.le_of_ble_eq_true rfl, Nat.le_of_ble_eq_true rfl⟩) (preWV (ci := 3) (q0 := 0) hK (hP.sub (ws' := WP G d_hp p_q p_table_9 p_turn_4 p_count_9) [9, 10] rfl) (hD.sub (ws' := WP G d_hp p_q p_table_9 p_turn_4 p_count_9) [9, 10] (by decide) rfl) rfl rfl) rfl rfl hl.1 rfl (lv_room (Nat.le_of_ble_eq_true rfl)) dX1_sortBySays_41 ⟨Nat.le_of_ble_eq_true rfl, Nat.le_of_ble_eq_true rfl⟩) hP hD hS hA [9, 10] [0, 1, 2, 3, 4, 5, 6, 7, 8] rfl rfl (by decide) (by decide) (fun u_41 H locs hP hD hS => ?_)
          have hP := hP.sub (ws' := (WD G d_h d_hp d_q d_a d_rm d_stateOf d_kindOf d_order d_rooms d_count d_next d_says d_note d_sort_9 d_freshSort) ++ (WP G d_hp p_q p_table_41 p_turn_4 p_count_41)) [0, 1, 2, 3, 4, 5, 6, 7, 8, 9, 10] rfl
          have hD := hD.sub (ws' := (WD G d_h d_hp d_q d_a d_rm d_stateOf d_kindOf d_order d_rooms d_count d_next d_says d_note d_sort_9 d_freshSort) ++ (WP G d_hp p_q p_table_41 p_turn_4 p_count_41)) [0, 1, 2, 3, 4, 5, 6, 7, 8, 9, 10] (by decide) rfl
          obtain ⟨g_44, h⟩ := gi_e h
          refine va_iast hx hb hK.1 hP hD hS 7 0 rfl rfl g_44 dX1_sortBySays_44 (fun H locs hP hD hS => ?_)
          have hP : va_P G.1 vwCl ((WD G d_h d_hp d_q d_a d_rm d_stateOf d_kindOf d_order d_rooms d_count d_next d_says d_note (upd d_sort_9 v1_9.toNatClampNeg r_41) d_freshSort) ++ (WP G d_hp p_q p_table_41 p_turn_4 p_count_41)) H := hP
          have hD : va_D A ((WD G d_h d_hp d_q d_a d_rm d_stateOf d_kindOf d_order d_rooms d_count d_next d_says d_note (upd d_sort_9 v1_9.toNatClampNeg r_41) d_freshSort) ++ (WP G d_hp p_q p_table_41 p_turn_4 p_count_41)) := hD
          refine lv_iinc (v := (v1_9 + (1 : Int32))) (lv' := [(1, .int (v1_9 + (1 : Int32))), (0, .ref d_h)]) hx hb dX1_sortBySays_45 hl (k := 1) rfl rfl (by decide) rfl (fun ls hl => ?_)
          refine lv_goto (tgt := 9) hx hb dX1_sortBySays_48 (by decide) ?_
          exact ih _ _ _ _  _ _ _ h hP hD hS (lv_sub hl [1, 0] rfl)
        replace h := hT33
        refine lv_if_eq (tgt := 40) hx hb dX1_sortBySays_33 (by decide) (fun c_33 => ?_) (fun c_33 => ?_)
        · replace h := (if_pos c_33).symm.trans h
          refine lv_iconst (v := 0) hx hb dX1_sortBySays_40 (by decide) ?_
          exact hJ33 _  _ _ _ h hP hD hS (lv_sub hl [0, 1] rfl)
        · replace h := (if_neg c_33).symm.trans h
          refine lv_iconst (v := 1) hx hb dX1_sortBySays_36 (by decide) ?_
          refine lv_goto (tgt := 41) hx hb dX1_sortBySays_37 (by decide) ?_
          exact hJ33 _  _ _ _ h hP hD hS (lv_sub hl [0, 1] rfl)
  exact hL9 n _ _ _ _  _ _ _ hT9 hP hD hS (lv_sub hl [1, 0] rfl)
abbrev rX1_splitBy : Room := { frames := 2, cells := 0, slots := 0, locals := 43 }
set_option maxHeartbeats 4000000 in
set_option maxRecDepth 100000 in
theorem c_X1_splitBy (l : Launch) (G : GG) (n : Nat) (d_h : Nat) (d_hp : Nat) (d_q : Nat → Nat) (d_a : Nat → Nat) (p_q : Nat → Nat) (d_rm : Nat) (d_stateOf : AI) (d_kindOf : AI) (d_order : AI) (d_rooms : Int32) (d_count : Int32) (d_next : AI) (d_says : AI) (d_note : AI) (d_sort : AI) (d_freshSort : AI) (p_table : AI) (p_turn : Int32) (p_count : Int32)  (v1 : Int32) (sz : Nat) (r : Int32) (d_sort_z : AI) (d_freshSort_z : AI) (p_table_z : AI) (p_turn_z : Int32) (p_count_z : Int32) (h : p_X1_splitBy n d_rm d_count d_next d_sort d_freshSort p_table p_turn v1 = some (r, d_sort_z, d_freshSort_z, p_table_z, p_turn_z, p_count_z)) : CI l yX1_splitBy wsX1_splitBy rX1_splitBy G [.ref d_h, .int v1] ((WD G d_h d_hp d_q d_a d_rm d_stateOf d_kindOf d_order d_rooms d_count d_next d_says d_note d_sort d_freshSort) ++ (WP G d_hp p_q p_table p_turn p_count)) sz r (fun u => (WD G d_h d_hp d_q u d_rm d_stateOf d_kindOf d_order d_rooms d_count d_next d_says d_note d_sort_z d_freshSort_z) ++ (WP G d_hp p_q p_table_z p_turn_z p_count_z)) := by
  refine enterCI (cc := cX1_splitBy) (maxL := 3) (by decide) rfl (Nat.le_of_ble_eq_true rfl) ?_
  intro p e s m args below meth c A Q hx hb hml hown hts hK hP hD hS hA hret ls hl
  have hown : s.vm.findClass RX1 = some m.cls := hown
  have hf25 := hts (.fieldLink RX1 25 "DigitClaims$Draft" "count" "I") (by decide +kernel)
  have hf38 := hts (.fieldLink RX1 38 "DigitClaims$Draft" "sort" "[I") (by decide +kernel)
  have hf41 := hts (.fieldLink RX1 41 "DigitClaims$Draft" "freshSort" "[I") (by decide +kernel)
  have hf44 := hts (.fieldLink RX1 44 "DigitClaims$Draft" "pairs" "LDigitClaims$PairNumbers;") (by decide +kernel)
  have hinX1 : ∀ w ∈ wsX10, w ∈ wsX1_splitBy := by decide +kernel
  have hl : lv_has ls 3 [(0, .ref d_h), (1, .int v1)] := hl
  unfold p_X1_splitBy at h
  refine lv_aload_n hx hb dX1_splitBy_0 rfl (lv_at hl 0 rfl) ?_
  refine va_get (D := G.1) (ci := 1) (v := .ref d_hp) (C := RX1) (T := TX1) (N := 11) hx hb hts hinX1 hown hK.1 hP 0 rfl rfl 0 (by decide) hf44 (fun _ h9 => h9) rfl dX1_splitBy_1 ?_
  obtain ⟨p_table_4, p_turn_4, p_count_4, hc_4, h⟩ := ob3_e h
  refine k_cv (wr := WD G d_h d_hp d_q d_a d_rm d_stateOf d_kindOf d_order d_rooms d_count d_next d_says d_note d_sort d_freshSort) (va_runV (As := []) (rest := []) ⟨hx, hb, hml, hown, hts⟩ (c_X3_forget l G n d_hp p_q p_table p_turn p_count   _ p_table_4 p_turn_4 p_count_4 hc_4) (cwV 0 hts gX1_splitBy_X3_forget rfl rfl rfl ⟨rfl, eX3_forget⟩ ⟨Nat.le_of_ble_eq_true rfl, Nat.le_of_ble_eq_true rfl⟩) (preWV (ci := 3) (q0 := 0) hK (hP.sub (ws' := WP G d_hp p_q p_table p_turn p_count) [9, 10] rfl) (hD.sub (ws' := WP G d_hp p_q p_table p_turn p_count) [9, 10] (by decide) rfl) rfl rfl) rfl rfl hl.1 rfl (lv_room (Nat.le_of_ble_eq_true rfl)) dX1_splitBy_4 ⟨Nat.le_of_ble_eq_true rfl, Nat.le_of_ble_eq_true rfl⟩) hP hD hS hA [9, 10] [0, 1, 2, 3, 4, 5, 6, 7, 8] rfl rfl (by decide) (by decide) (fun u_4 H locs hP hD hS => ?_)
  have hP := hP.sub (ws' := (WD G d_h d_hp d_q d_a d_rm d_stateOf d_kindOf d_order d_rooms d_count d_next d_says d_note d_sort d_freshSort) ++ (WP G d_hp p_q p_table_4 p_turn_4 p_count_4)) [0, 1, 2, 3, 4, 5, 6, 7, 8, 9, 10] rfl
  have hD := hD.sub (ws' := (WD G d_h d_hp d_q d_a d_rm d_stateOf d_kindOf d_order d_rooms d_count d_next d_says d_note d_sort d_freshSort) ++ (WP G d_hp p_q p_table_4 p_turn_4 p_count_4)) [0, 1, 2, 3, 4, 5, 6, 7, 8, 9, 10] (by decide) rfl
  refine lv_iconst (v := 0) hx hb dX1_splitBy_7 (by decide) ?_
  refine lv_istore_n (lv' := [(2, .int (0 : Int32)), (0, .ref d_h), (1, .int v1)]) hx hb dX1_splitBy_8 rfl hl (by decide) rfl (fun ls hl => ?_)
  obtain ⟨d_freshSort_o9, p_table_o9, p_count_o9, hT9, h⟩ := ob3_e h
  have hX9 : ∀ (d_freshSort_o9x : AI) (p_table_o9x : AI) (p_count_o9x : Int32)  (H : Heap) (locs : List Loc) (ls : Array Slot), some (d_freshSort_o9x, p_table_o9x, p_count_o9x) = some (d_freshSort_o9, p_table_o9, p_count_o9) → va_P G.1 vwCl ((WD G d_h d_hp d_q d_a d_rm d_stateOf d_kindOf d_order d_rooms d_count d_next d_says d_note d_sort d_freshSort_o9x) ++ (WP G d_hp p_q p_table_o9x p_turn_4 p_count_o9x)) H → va_D A ((WD G d_h d_hp d_q d_a d_rm d_stateOf d_kindOf d_order d_rooms d_count d_next d_says d_note d_sort d_freshSort_o9x) ++ (WP G d_hp p_q p_table_o9x p_turn_4 p_count_o9x)) → va_S A s.heap H locs → lv_has ls 3 [(0, .ref d_h)] → W p l e rX1_splitBy s m args below meth c H locs 0 0 Q (F0 m 60 ls []) := by
    intro d_freshSort_o9x p_table_o9x p_count_o9x H locs ls hq hP hD hS hl
    obtain ⟨rfl, rfl, rfl⟩ := oi3 hq
    refine lv_aload_n hx hb dX1_splitBy_60 rfl (lv_at hl 0 rfl) ?_
    refine va_get (D := G.1) (ci := 1) (v := .ref (d_a 3)) (C := RX1) (T := TX1) (N := 11) hx hb hts hinX1 hown hK.1 hP 0 rfl rfl 9 (by decide) hf38 (fun _ h9 => h9) rfl dX1_splitBy_61 ?_
    refine lv_astore_n (lv' := [(2, .ref (d_a 3)), (0, .ref d_h)]) hx hb dX1_splitBy_64 rfl hl (by decide) rfl (fun ls hl => ?_)
    refine lv_aload_n hx hb dX1_splitBy_65 rfl (lv_at hl 1 rfl) ?_
    refine lv_aload_n hx hb dX1_splitBy_66 rfl (lv_at hl 1 rfl) ?_
    refine va_get (D := G.1) (ci := 1) (v := .ref (d_a 4)) (C := RX1) (T := TX1) (N := 11) hx hb hts hinX1 hown hK.1 hP 0 rfl rfl 10 (by decide) hf41 (fun _ h9 => h9) rfl dX1_splitBy_67 ?_
    refine va_put (D := G.1) (ci := 1) (v := .ref (d_a 4)) (ty := (.array .int)) (C := RX1) (T := TX1) (N := 11) hx hb hts hinX1 tyX1 tyX1_ok nmX1 hown hK.1 hP hD hS 0 rfl rfl 9 (by decide) hf38 (fun _ h9 => h9) rfl (by decide +kernel) rfl rfl (Nat.le_of_ble_eq_true rfl) dX1_splitBy_70 (fun H locs hP hD hS => ?_)
    have hP : va_P G.1 vwCl (([(d_h, .inr (1, [.ref (d_hp), .ref (d_q 0), .ref (d_q 1), .ref (d_q 2), .int d_rooms, .int d_count, .ref (d_a 0), .ref (d_a 1), .ref (d_a 2), .ref (d_a 4), .ref (d_a 4)])), (d_q 0, .inl (G.2 0, 60, .inl d_stateOf)), (d_q 1, .inl (G.2 0, 60, .inl d_kindOf)), (d_q 2, .inl (G.2 0, 60, .inl d_order)), (d_a 0, .inl (G.2 0, 8 * d_rm, .inl d_next)), (d_a 1, .inl (G.2 1, d_rm, .inl d_says)), (d_a 2, .inl (G.2 0, d_rm, .inl d_note)), (d_a 3, .inl (G.2 0, d_rm, .inl d_sort)), (d_a 4, .inl (G.2 0, d_rm, .inl d_freshSort_o9))]) ++ (WP G d_hp p_q p_table_o9 p_turn_4 p_count_o9)) H := hP
    have hD : va_D A (([(d_h, .inr (1, [.ref (d_hp), .ref (d_q 0), .ref (d_q 1), .ref (d_q 2), .int d_rooms, .int d_count, .ref (d_a 0), .ref (d_a 1), .ref (d_a 2), .ref (d_a 4), .ref (d_a 4)])), (d_q 0, .inl (G.2 0, 60, .inl d_stateOf)), (d_q 1, .inl (G.2 0, 60, .inl d_kindOf)), (d_q 2, .inl (G.2 0, 60, .inl d_order)), (d_a 0, .inl (G.2 0, 8 * d_rm, .inl d_next)), (d_a 1, .inl (G.2 1, d_rm, .inl d_says)), (d_a 2, .inl (G.2 0, d_rm, .inl d_note)), (d_a 3, .inl (G.2 0, d_rm, .inl d_sort)), (d_a 4, .inl (G.2 0, d_rm, .inl d_freshSort_o9))]) ++ (WP G d_hp p_q p_table_o9 p_turn_4 p_count_o9)) := hD
    refine lv_aload_n hx hb dX1_splitBy_73 rfl (lv_at hl 1 rfl) ?_
    refine lv_aload_n hx hb dX1_splitBy_74 rfl (lv_at hl 0 rfl) ?_
    refine va_put (D := G.1) (ci := 1) (v := .ref (d_a 3)) (ty := (.array .int)) (C := RX1) (T := TX1) (N := 11) hx hb hts hinX1 tyX1 tyX1_ok nmX1 hown hK.1 hP hD hS 0 rfl rfl 10 (by decide) hf41 (fun _ h9 => h9) rfl (by decide +kernel) rfl rfl (Nat.le_of_ble_eq_true rfl) dX1_splitBy_75 (fun H locs hP hD hS => ?_)
    have hP : va_P G.1 vwCl (([(d_h, .inr (1, [.ref (d_hp), .ref (d_q 0), .ref (d_q 1), .ref (d_q 2), .int d_rooms, .int d_count, .ref (d_a 0), .ref (d_a 1), .ref (d_a 2), .ref (d_a 4), .ref (d_a 3)])), (d_q 0, .inl (G.2 0, 60, .inl d_stateOf)), (d_q 1, .inl (G.2 0, 60, .inl d_kindOf)), (d_q 2, .inl (G.2 0, 60, .inl d_order)), (d_a 0, .inl (G.2 0, 8 * d_rm, .inl d_next)), (d_a 1, .inl (G.2 1, d_rm, .inl d_says)), (d_a 2, .inl (G.2 0, d_rm, .inl d_note)), (d_a 3, .inl (G.2 0, d_rm, .inl d_sort)), (d_a 4, .inl (G.2 0, d_rm, .inl d_freshSort_o9))]) ++ (WP G d_hp p_q p_table_o9 p_turn_4 p_count_o9)) H := hP
    have hD : va_D A (([(d_h, .inr (1, [.ref (d_hp), .ref (d_q 0), .ref (d_q 1), .ref (d_q 2), .int d_rooms, .int d_count, .ref (d_a 0), .ref (d_a 1), .ref (d_a 2), .ref (d_a 4), .ref (d_a 3)])), (d_q 0, .inl (G.2 0, 60, .inl d_stateOf)), (d_q 1, .inl (G.2 0, 60, .inl d_kindOf)), (d_q 2, .inl (G.2 0, 60, .inl d_order)), (d_a 0, .inl (G.2 0, 8 * d_rm, .inl d_next)), (d_a 1, .inl (G.2 1, d_rm, .inl d_says)), (d_a 2, .inl (G.2 0, d_rm, .inl d_note)), (d_a 3, .inl (G.2 0, d_rm, .inl d_sort)), (d_a 4, .inl (G.2 0, d_rm, .inl d_freshSort_o9))]) ++ (WP G d_hp p_q p_table_o9 p_turn_4 p_count_o9)) := hD
    refine lv_aload_n hx hb dX1_splitBy_78 rfl (lv_at hl 1 rfl) ?_
    refine va_get (D := G.1) (ci := 1) (v := .ref d_hp) (C := RX1) (T := TX1) (N := 11) hx hb hts hinX1 hown hK.1 hP 0 rfl rfl 0 (by decide) hf44 (fun _ h9 => h9) rfl dX1_splitBy_79 ?_
    obtain ⟨r_82, hc_82, h⟩ := ob1_e h
    refine k_si (va_runV (As := []) (rest := []) ⟨hx, hb, hml, hown, hts⟩ (c_X3_count l G d_hp p_q p_table_o9 p_turn_4 p_count_o9   r_82 hc_82) (cwV 0 hts gX1_splitBy_X3_count rfl rfl rfl ⟨rfl, eX3_count⟩ ⟨Nat.le_of_ble_eq_true rfl, Nat.le_of_ble_eq_true rfl⟩) (preSV (ci := 3) (q0 := 0) hK (hP.sub (ws' := WP G d_hp p_q p_table_o9 p_turn_4 p_count_o9) [9, 10] rfl) rfl rfl) rfl rfl hl.1 rfl (lv_room (Nat.le_of_ble_eq_true rfl)) dX1_splitBy_82 ⟨Nat.le_of_ble_eq_true rfl, Nat.le_of_ble_eq_true rfl⟩) ?_
    have hP := hP.sub (ws' := (WD G d_h d_hp d_q (fun i => if i = 0 then d_a 0 else if i = 1 then d_a 1 else if i = 2 then d_a 2 else if i = 3 then d_a 4 else if i = 4 then d_a 3 else d_a i) d_rm d_stateOf d_kindOf d_order d_rooms d_count d_next d_says d_note d_freshSort_o9 d_sort) ++ (WP G d_hp p_q p_table_o9 p_turn_4 p_count_o9)) [0, 1, 2, 3, 4, 5, 6, 8, 7, 9, 10] rfl
    have hD := hD.sub (ws' := (WD G d_h d_hp d_q (fun i => if i = 0 then d_a 0 else if i = 1 then d_a 1 else if i = 2 then d_a 2 else if i = 3 then d_a 4 else if i = 4 then d_a 3 else d_a i) d_rm d_stateOf d_kindOf d_order d_rooms d_count d_next d_says d_note d_freshSort_o9 d_sort) ++ (WP G d_hp p_q p_table_o9 p_turn_4 p_count_o9)) [0, 1, 2, 3, 4, 5, 6, 8, 7, 9, 10] (by decide) rfl
    generalize hue : (fun i => if i = 0 then d_a 0 else if i = 1 then d_a 1 else if i = 2 then d_a 2 else if i = 3 then d_a 4 else if i = 4 then d_a 3 else d_a i) = ux at hP hD
    obtain ⟨rfl, rfl, rfl, rfl, rfl, rfl⟩ := oi6 h
    exact hret ux _ _ _ _ _ _ _ dX1_splitBy_85 rfl rfl hP hD hS (Nat.le_of_ble_eq_true rfl) (Nat.le_of_ble_eq_true rfl)
  have hL9 : ∀ (f : Nat) (v2_9 : Int32) (d_freshSort_9 : AI) (p_table_9 : AI) (p_count_9 : Int32)  (H : Heap) (locs : List Loc) (ls : Array Slot), p_X1_splitBy_L9 d_count d_rm d_next d_sort v1 p_turn_4 f v2_9 d_freshSort_9 p_table_9 p_count_9 = some (d_freshSort_o9, p_table_o9, p_count_o9) → va_P G.1 vwCl ((WD G d_h d_hp d_q d_a d_rm d_stateOf d_kindOf d_order d_rooms d_count d_next d_says d_note d_sort d_freshSort_9) ++ (WP G d_hp p_q p_table_9 p_turn_4 p_count_9)) H → va_D A ((WD G d_h d_hp d_q d_a d_rm d_stateOf d_kindOf d_order d_rooms d_count d_next d_says d_note d_sort d_freshSort_9) ++ (WP G d_hp p_q p_table_9 p_turn_4 p_count_9)) → va_S A s.heap H locs → lv_has ls 3 [(0, .ref d_h), (1, .int v1), (2, .int v2_9)] → W p l e rX1_splitBy s m args below meth c H locs 0 0 Q (F0 m 9 ls []) := by
    intro f
    induction f with
    | zero => intro v2_9 d_freshSort_9 p_table_9 p_count_9 H locs ls h hP hD hS hl; cases (show none = some _ from h)
    | succ f ih =>
      intro v2_9 d_freshSort_9 p_table_9 p_count_9 H locs ls h hP hD hS hl
      rw [p_X1_splitBy_L9] at h
      refine lv_iload_n hx hb dX1_splitBy_9 rfl (lv_at hl 2 rfl) ?_
      refine lv_aload_n hx hb dX1_splitBy_10 rfl (lv_at hl 0 rfl) ?_
      refine va_get (D := G.1) (ci := 1) (v := .int d_count) (C := RX1) (T := TX1) (N := 11) hx hb hts hinX1 hown hK.1 hP 0 rfl rfl 5 (by decide) hf25 (fun _ h9 => h9) rfl dX1_splitBy_11 ?_
      refine lv_icmp_ge (tgt := 60) hx hb dX1_splitBy_14 (by decide) (fun c_14 => ?_) (fun c_14 => ?_)
      · replace h := (if_pos c_14).symm.trans h
        exact hX9 _ _ _  _ _ _ h hP hD hS (lv_sub hl [0] rfl)
      · replace h := (if_neg c_14).symm.trans h
        refine lv_aload_n hx hb dX1_splitBy_17 rfl (lv_at hl 0 rfl) ?_
        refine va_get (D := G.1) (ci := 1) (v := .ref d_hp) (C := RX1) (T := TX1) (N := 11) hx hb hts hinX1 hown hK.1 hP 0 rfl rfl 0 (by decide) hf44 (fun _ h9 => h9) rfl dX1_splitBy_18 ?_
        obtain ⟨r_21, hc_21, h⟩ := ob1_e h
        refine k_si (va_runV (As := []) (rest := []) ⟨hx, hb, hml, hown, hts⟩ (c_X3_count l G d_hp p_q p_table_9 p_turn_4 p_count_9   r_21 hc_21) (cwV 0 hts gX1_splitBy_X3_count rfl rfl rfl ⟨rfl, eX3_count⟩ ⟨Nat.le_of_ble_eq_true rfl, Nat.le_of_ble_eq_true rfl⟩) (preSV (ci := 3) (q0 := 0) hK (hP.sub (ws' := WP G d_hp p_q p_table_9 p_turn_4 p_count_9) [9, 10] rfl) rfl rfl) rfl rfl hl.1 rfl (lv_room (Nat.le_of_ble_eq_true rfl)) dX1_splitBy_21 ⟨Nat.le_of_ble_eq_true rfl, Nat.le_of_ble_eq_true rfl⟩) ?_
        refine lv_bipush (v := 60) hx hb dX1_splitBy_24 (by decide) ?_
        refine lv_icmp_gt (tgt := 60) hx hb dX1_splitBy_26 (by decide) (fun c_26 => ?_) (fun c_26 => ?_)
        · replace h := (if_pos c_26).symm.trans h
          exact hX9 _ _ _  _ _ _ h hP hD hS (lv_sub hl [0] rfl)
        · replace h := (if_neg c_26).symm.trans h
          refine lv_aload_n hx hb dX1_splitBy_29 rfl (lv_at hl 0 rfl) ?_
          refine va_get (D := G.1) (ci := 1) (v := .ref (d_a 4)) (C := RX1) (T := TX1) (N := 11) hx hb hts hinX1 hown hK.1 hP 0 rfl rfl 10 (by decide) hf41 (fun _ h9 => h9) rfl dX1_splitBy_30 ?_
          refine lv_iload_n hx hb dX1_splitBy_33 rfl (lv_at hl 2 rfl) ?_
          refine lv_aload_n hx hb dX1_splitBy_34 rfl (lv_at hl 0 rfl) ?_
          refine va_get (D := G.1) (ci := 1) (v := .ref d_hp) (C := RX1) (T := TX1) (N := 11) hx hb hts hinX1 hown hK.1 hP 0 rfl rfl 0 (by decide) hf44 (fun _ h9 => h9) rfl dX1_splitBy_35 ?_
          refine lv_aload_n hx hb dX1_splitBy_38 rfl (lv_at hl 0 rfl) ?_
          refine va_get (D := G.1) (ci := 1) (v := .ref (d_a 3)) (C := RX1) (T := TX1) (N := 11) hx hb hts hinX1 hown hK.1 hP 0 rfl rfl 9 (by decide) hf38 (fun _ h9 => h9) rfl dX1_splitBy_39 ?_
          refine lv_iload_n hx hb dX1_splitBy_42 rfl (lv_at hl 2 rfl) ?_
          obtain ⟨g_43, h⟩ := gi_e h
          refine va_iald hx hb hK.1 hP 7 0 rfl rfl g_43 dX1_splitBy_43 ?_
          refine lv_aload_n hx hb dX1_splitBy_44 rfl (lv_at hl 0 rfl) ?_
          refine lv_iload_n hx hb dX1_splitBy_45 rfl (lv_at hl 2 rfl) ?_
          refine lv_iload_n hx hb dX1_splitBy_46 rfl (lv_at hl 1 rfl) ?_
          obtain ⟨r_47, hc_47, h⟩ := ob1_e h
          refine k_si (va_runV (As := [.int v2_9, .int v1]) (rest := [.int (d_sort v2_9.toNatClampNeg), .ref d_hp, .int v2_9, .ref (d_a 4)]) ⟨hx, hb, hml, hown, hts⟩ (c_X1_sortAfter l G d_h d_hp d_q d_a d_rm d_stateOf d_kindOf d_order d_rooms d_count d_next d_says d_note d_sort d_freshSort_9  v2_9 v1 r_47 hc_47) (cwV 2 hts gX1_splitBy_X1_sortAfter rfl rfl rfl ⟨rfl, eX1_sortAfter⟩ ⟨Nat.le_of_ble_eq_true rfl, Nat.le_of_ble_eq_true rfl⟩) (preSV (ci := 1) (q0 := 0) hK (hP.sub (ws' := WD G d_h d_hp d_q d_a d_rm d_stateOf d_kindOf d_order d_rooms d_count d_next d_says d_note d_sort d_freshSort_9) [0, 1, 2, 3, 4, 5, 6, 7, 8] rfl) rfl rfl) rfl rfl hl.1 rfl (lv_room (Nat.le_of_ble_eq_true rfl)) dX1_splitBy_47 ⟨Nat.le_of_ble_eq_true rfl, Nat.le_of_ble_eq_true rfl⟩) ?_
          obtain ⟨r_50, p_table_50, p_count_50, hc_50, h⟩ := ob3_e h
          refine k_ci (wr := WD G d_h d_hp d_q d_a d_rm d_stateOf d_kindOf d_order d_rooms d_count d_next d_says d_note d_sort d_freshSort_9) (va_runV (As := [.int (d_sort v2_9.toNatClampNeg), .int r_47]) (rest := [.int v2_9, .ref (d_a 4)]) ⟨hx, hb, hml, hown, hts⟩ (c_X3_numberOf l G d_hp p_q p_table_9 p_turn_4 p_count_9  (d_sort v2_9.toNatClampNeg) r_47 _ r_50 p_table_50 p_count_50 hc_50) (cwV 2 hts gX1_splitBy_X3_numberOf rfl rfl rfl ⟨rfl, eX3_numberOf⟩ ⟨Nat.le_of_ble_eq_true rfl, Nat.le_of_ble_eq_true rfl⟩) (preWV (ci := 3) (q0 := 0) hK (hP.sub (ws' := WP G d_hp p_q p_table_9 p_turn_4 p_count_9) [9, 10] rfl) (hD.sub (ws' := WP G d_hp p_q p_table_9 p_turn_4 p_count_9) [9, 10] (by decide) rfl) rfl rfl) rfl rfl hl.1 rfl (lv_room (Nat.le_of_ble_eq_true rfl)) dX1_splitBy_50 ⟨Nat.le_of_ble_eq_true rfl, Nat.le_of_ble_eq_true rfl⟩) hP hD hS hA [9, 10] [0, 1, 2, 3, 4, 5, 6, 7, 8] rfl rfl (by decide) (by decide) (fun u_50 H locs hP hD hS => ?_)
          have hP := hP.sub (ws' := (WD G d_h d_hp d_q d_a d_rm d_stateOf d_kindOf d_order d_rooms d_count d_next d_says d_note d_sort d_freshSort_9) ++ (WP G d_hp p_q p_table_50 p_turn_4 p_count_50)) [0, 1, 2, 3, 4, 5, 6, 7, 8, 9, 10] rfl
          have hD := hD.sub (ws' := (WD G d_h d_hp d_q d_a d_rm d_stateOf d_kindOf d_order d_rooms d_count d_next d_says d_note d_sort d_freshSort_9) ++ (WP G d_hp p_q p_table_50 p_turn_4 p_count_50)) [0, 1, 2, 3, 4, 5, 6, 7, 8, 9, 10] (by decide) rfl
          obtain ⟨g_53, h⟩ := gi_e h
          refine va_iast hx hb hK.1 hP hD hS 8 0 rfl rfl g_53 dX1_splitBy_53 (fun H locs hP hD hS => ?_)
          have hP : va_P G.1 vwCl ((WD G d_h d_hp d_q d_a d_rm d_stateOf d_kindOf d_order d_rooms d_count d_next d_says d_note d_sort (upd d_freshSort_9 v2_9.toNatClampNeg r_50)) ++ (WP G d_hp p_q p_table_50 p_turn_4 p_count_50)) H := hP
          have hD : va_D A ((WD G d_h d_hp d_q d_a d_rm d_stateOf d_kindOf d_order d_rooms d_count d_next d_says d_note d_sort (upd d_freshSort_9 v2_9.toNatClampNeg r_50)) ++ (WP G d_hp p_q p_table_50 p_turn_4 p_count_50)) := hD
          refine lv_iinc (v := (v2_9 + (1 : Int32))) (lv' := [(2, .int (v2_9 + (1 : Int32))), (0, .ref d_h), (1, .int v1)]) hx hb dX1_splitBy_54 hl (k := 2) rfl rfl (by decide) rfl (fun ls hl => ?_)
          refine lv_goto (tgt := 9) hx hb dX1_splitBy_57 (by decide) ?_
          exact ih _ _ _ _  _ _ _ h hP hD hS (lv_sub hl [1, 2, 0] rfl)
  exact hL9 n _ _ _ _  _ _ _ hT9 hP hD hS (lv_sub hl [1, 2, 0] rfl)
abbrev rX1_tellApart : Room := { frames := 3, cells := 0, slots := 0, locals := 65 }
set_option maxHeartbeats 4000000 in
set_option maxRecDepth 100000 in
theorem c_X1_tellApart (l : Launch) (G : GG) (n : Nat) (d_h : Nat) (d_hp : Nat) (d_q : Nat → Nat) (d_a : Nat → Nat) (p_q : Nat → Nat) (d_rm : Nat) (d_stateOf : AI) (d_kindOf : AI) (d_order : AI) (d_rooms : Int32) (d_count : Int32) (d_next : AI) (d_says : AI) (d_note : AI) (d_sort : AI) (d_freshSort : AI) (p_table : AI) (p_turn : Int32) (p_count : Int32)   (sz : Nat) (r : Int32) (d_sort_z : AI) (d_freshSort_z : AI) (p_table_z : AI) (p_turn_z : Int32) (p_count_z : Int32) (h : p_X1_tellApart n d_rm d_count d_next d_says d_sort d_freshSort p_table p_turn = some (r, d_sort_z, d_freshSort_z, p_table_z, p_turn_z, p_count_z)) : CI l yX1_tellApart wsX1_tellApart rX1_tellApart G [.ref d_h] ((WD G d_h d_hp d_q d_a d_rm d_stateOf d_kindOf d_order d_rooms d_count d_next d_says d_note d_sort d_freshSort) ++ (WP G d_hp p_q p_table p_turn p_count)) sz r (fun u => (WD G d_h d_hp d_q u d_rm d_stateOf d_kindOf d_order d_rooms d_count d_next d_says d_note d_sort_z d_freshSort_z) ++ (WP G d_hp p_q p_table_z p_turn_z p_count_z)) := by
  refine enterCI (cc := cX1_tellApart) (maxL := 5) (by decide) rfl (Nat.le_of_ble_eq_true rfl) ?_
  intro p e s m args below meth c A Q hx hb hml hown hts hK hP hD hS hA hret ls hl
  have hown : s.vm.findClass RX1 = some m.cls := hown
  have hl : lv_has ls 5 [(0, .ref d_h)] := hl
  unfold p_X1_tellApart at h
  refine lv_aload_n hx hb dX1_tellApart_0 rfl (lv_at hl 0 rfl) ?_
  obtain ⟨r_1, d_sort_1, p_table_1, p_turn_1, p_count_1, hc_1, h⟩ := ob5_e h
  refine k_ciA (va_runV (As := []) (rest := []) ⟨hx, hb, hml, hown, hts⟩ (c_X1_sortBySays l G n d_h d_hp d_q d_a p_q d_rm d_stateOf d_kindOf d_order d_rooms d_count d_next d_says d_note d_sort d_freshSort p_table p_turn p_count   _ r_1 d_sort_1 p_table_1 p_turn_1 p_count_1 hc_1) (cwV 0 hts gX1_tellApart_X1_sortBySays rfl rfl rfl ⟨rfl, eX1_sortBySays⟩ ⟨Nat.le_of_ble_eq_true rfl, Nat.le_of_ble_eq_true rfl⟩) (preWV (ci := 1) (q0 := 0) hK hP hD rfl rfl) rfl rfl hl.1 rfl (lv_room (Nat.le_of_ble_eq_true rfl)) dX1_tellApart_1 ⟨Nat.le_of_ble_eq_true rfl, Nat.le_of_ble_eq_true rfl⟩) hD hS hA (fun u_1 H locs hP hD hS => ?_)
  have hP : va_P G.1 vwCl ((WD G d_h d_hp d_q d_a d_rm d_stateOf d_kindOf d_order d_rooms d_count d_next d_says d_note d_sort_1 d_freshSort) ++ (WP G d_hp p_q p_table_1 p_turn_1 p_count_1)) H := hP
  have hD : va_D A ((WD G d_h d_hp d_q d_a d_rm d_stateOf d_kindOf d_order d_rooms d_count d_next d_says d_note d_sort_1 d_freshSort) ++ (WP G d_hp p_q p_table_1 p_turn_1 p_count_1)) := hD
  refine lv_istore_n (lv' := [(1, .int r_1), (0, .ref d_h)]) hx hb dX1_tellApart_4 rfl hl (by decide) rfl (fun ls hl => ?_)
  refine lv_iconst (v := 0) hx hb dX1_tellApart_5 (by decide) ?_
  refine lv_istore_n (lv' := [(2, .int (0 : Int32)), (1, .int r_1), (0, .ref d_h)]) hx hb dX1_tellApart_6 rfl hl (by decide) rfl (fun ls hl => ?_)
  obtain ⟨o_7, hT7, hd7⟩ := obS6_e h
  have hX7 : ∀ (x1_7 : Int32) (d_sort_o7x : AI) (d_freshSort_o7x : AI) (p_table_o7x : AI) (p_turn_o7x : Int32) (p_count_o7x : Int32) (d_a_o7 : Nat → Nat) (H : Heap) (locs : List Loc) (ls : Array Slot), some (Sum.inr (x1_7, d_sort_o7x, d_freshSort_o7x, p_table_o7x, p_turn_o7x, p_count_o7x)) = some o_7 → va_P G.1 vwCl ((WD G d_h d_hp d_q d_a_o7 d_rm d_stateOf d_kindOf d_order d_rooms d_count d_next d_says d_note d_sort_o7x d_freshSort_o7x) ++ (WP G d_hp p_q p_table_o7x p_turn_o7x p_count_o7x)) H → va_D A ((WD G d_h d_hp d_q d_a_o7 d_rm d_stateOf d_kindOf d_order d_rooms d_count d_next d_says d_note d_sort_o7x d_freshSort_o7x) ++ (WP G d_hp p_q p_table_o7x p_turn_o7x p_count_o7x)) → va_S A s.heap H locs → lv_has ls 5 [(1, .int x1_7)] → W p l e rX1_tellApart s m args below meth c H locs 0 0 Q (F0 m 64 ls []) := by
    intro x1_7 d_sort_o7x d_freshSort_o7x p_table_o7x p_turn_o7x p_count_o7x d_a_o7 H locs ls hq hP hD hS hl
    rcases hd7 with ⟨x, hx1, h⟩ | ⟨o1_7, d_sort_o7, d_freshSort_o7, p_table_o7, p_turn_o7, p_count_o7, hx1, h⟩
    · rw [hx1] at hq; cases hq
    rw [hx1] at hq
    obtain ⟨rfl, rfl, rfl, rfl, rfl, rfl⟩ := oiS6 hq
    refine lv_iload_n hx hb dX1_tellApart_64 rfl (lv_at hl 0 rfl) ?_
    refine lv_bipush (v := 60) hx hb dX1_tellApart_65 (by decide) ?_
    refine lv_icmp_gt (tgt := 74) hx hb dX1_tellApart_67 (by decide) (fun c_67 => ?_) (fun c_67 => ?_)
    · replace h := (if_pos c_67).symm.trans h
      refine lv_iconst (v := 0) hx hb dX1_tellApart_74 (by decide) ?_
      obtain ⟨gbv, h⟩ := gb_e h
      obtain ⟨rfl, rfl, rfl, rfl, rfl, rfl⟩ := oi6 h
      exact hret d_a_o7 _ _ _ _ _ _ _ dX1_tellApart_75 rfl (nb gbv) hP hD hS (Nat.le_of_ble_eq_true rfl) (Nat.le_of_ble_eq_true rfl)
    · replace h := (if_neg c_67).symm.trans h
      refine lv_iconst (v := 1) hx hb dX1_tellApart_70 (by decide) ?_
      refine lv_goto (tgt := 75) hx hb dX1_tellApart_71 (by decide) ?_
      obtain ⟨gbv, h⟩ := gb_e h
      obtain ⟨rfl, rfl, rfl, rfl, rfl, rfl⟩ := oi6 h
      exact hret d_a_o7 _ _ _ _ _ _ _ dX1_tellApart_75 rfl (nb gbv) hP hD hS (Nat.le_of_ble_eq_true rfl) (Nat.le_of_ble_eq_true rfl)
  have hL7 : ∀ (f : Nat) (v1_7 : Int32) (v2_7 : Int32) (d_sort_7 : AI) (d_freshSort_7 : AI) (p_table_7 : AI) (p_turn_7 : Int32) (p_count_7 : Int32) (d_a_7 : Nat → Nat) (H : Heap) (locs : List Loc) (ls : Array Slot), p_X1_tellApart_L7 n d_rm d_count d_next f v1_7 v2_7 d_sort_7 d_freshSort_7 p_table_7 p_turn_7 p_count_7 = some o_7 → va_P G.1 vwCl ((WD G d_h d_hp d_q d_a_7 d_rm d_stateOf d_kindOf d_order d_rooms d_count d_next d_says d_note d_sort_7 d_freshSort_7) ++ (WP G d_hp p_q p_table_7 p_turn_7 p_count_7)) H → va_D A ((WD G d_h d_hp d_q d_a_7 d_rm d_stateOf d_kindOf d_order d_rooms d_count d_next d_says d_note d_sort_7 d_freshSort_7) ++ (WP G d_hp p_q p_table_7 p_turn_7 p_count_7)) → va_S A s.heap H locs → lv_has ls 5 [(0, .ref d_h), (1, .int v1_7), (2, .int v2_7)] → W p l e rX1_tellApart s m args below meth c H locs 0 0 Q (F0 m 7 ls []) := by
    intro f
    induction f with
    | zero => intro v1_7 v2_7 d_sort_7 d_freshSort_7 p_table_7 p_turn_7 p_count_7 d_a_7 H locs ls h hP hD hS hl; cases (show none = some _ from h)
    | succ f ih =>
      intro v1_7 v2_7 d_sort_7 d_freshSort_7 p_table_7 p_turn_7 p_count_7 d_a_7 H locs ls h hP hD hS hl
      rw [p_X1_tellApart_L7] at h
      refine lv_iload_n hx hb dX1_tellApart_7 rfl (lv_at hl 2 rfl) ?_
      refine lv_bipush (v := 60) hx hb dX1_tellApart_8 (by decide) ?_
      refine lv_icmp_gt (tgt := 64) hx hb dX1_tellApart_10 (by decide) (fun c_10 => ?_) (fun c_10 => ?_)
      · replace h := (if_pos c_10).symm.trans h
        exact hX7 _ _ _ _ _ _ d_a_7 _ _ _ h hP hD hS (lv_sub hl [1] rfl)
      · replace h := (if_neg c_10).symm.trans h
        refine lv_iload_n hx hb dX1_tellApart_13 rfl (lv_at hl 1 rfl) ?_
        refine lv_istore_n (lv' := [(3, .int v1_7), (0, .ref d_h), (1, .int v1_7), (2, .int v2_7)]) hx hb dX1_tellApart_14 rfl hl (by decide) rfl (fun ls hl => ?_)
        refine lv_iconst (v := 0) hx hb dX1_tellApart_15 (by decide) ?_
        refine lv_istore (lv' := [(4, .int (0 : Int32)), (3, .int v1_7), (0, .ref d_h), (1, .int v1_7), (2, .int v2_7)]) hx hb dX1_tellApart_16 hl (by decide) rfl (fun ls hl => ?_)
        obtain ⟨o1_18, d_sort_o18, d_freshSort_o18, p_table_o18, p_turn_o18, p_count_o18, hT18, h⟩ := ob6_e h
        have hX18 : ∀ (x1_18 : Int32) (d_sort_o18x : AI) (d_freshSort_o18x : AI) (p_table_o18x : AI) (p_turn_o18x : Int32) (p_count_o18x : Int32) (d_a_o18 : Nat → Nat) (H : Heap) (locs : List Loc) (ls : Array Slot), some (x1_18, d_sort_o18x, d_freshSort_o18x, p_table_o18x, p_turn_o18x, p_count_o18x) = some (o1_18, d_sort_o18, d_freshSort_o18, p_table_o18, p_turn_o18, p_count_o18) → va_P G.1 vwCl ((WD G d_h d_hp d_q d_a_o18 d_rm d_stateOf d_kindOf d_order d_rooms d_count d_next d_says d_note d_sort_o18x d_freshSort_o18x) ++ (WP G d_hp p_q p_table_o18x p_turn_o18x p_count_o18x)) H → va_D A ((WD G d_h d_hp d_q d_a_o18 d_rm d_stateOf d_kindOf d_order d_rooms d_count d_next d_says d_note d_sort_o18x d_freshSort_o18x) ++ (WP G d_hp p_q p_table_o18x p_turn_o18x p_count_o18x)) → va_S A s.heap H locs → lv_has ls 5 [(0, .ref d_h), (1, .int x1_18), (2, .int v2_7), (3, .int v1_7)] → W p l e rX1_tellApart s m args below meth c H locs 0 0 Q (F0 m 44 ls []) := by
          intro x1_18 d_sort_o18x d_freshSort_o18x p_table_o18x p_turn_o18x p_count_o18x d_a_o18 H locs ls hq hP hD hS hl
          obtain ⟨rfl, rfl, rfl, rfl, rfl, rfl⟩ := oi6 hq
          refine lv_iload_n hx hb dX1_tellApart_44 rfl (lv_at hl 1 rfl) ?_
          refine lv_iload_n hx hb dX1_tellApart_45 rfl (lv_at hl 3 rfl) ?_
          refine lv_icmp_eq (tgt := 64) hx hb dX1_tellApart_46 (by decide) (fun c_46 => ?_) (fun c_46 => ?_)
          · replace h := (if_pos c_46).symm.trans h
            exact hX7 _ _ _ _ _ _ d_a_o18 _ _ _ h hP hD hS (lv_sub hl [1] rfl)
          · replace h := (if_neg c_46).symm.trans h
            refine lv_iload_n hx hb dX1_tellApart_49 rfl (lv_at hl 1 rfl) ?_
            refine lv_bipush (v := 60) hx hb dX1_tellApart_50 (by decide) ?_
            refine lv_icmp_le (tgt := 58) hx hb dX1_tellApart_52 (by decide) (fun c_52 => ?_) (fun c_52 => ?_)
            · replace h := (if_pos c_52).symm.trans h
              refine lv_iinc (v := (v2_7 + (1 : Int32))) (lv' := [(2, .int (v2_7 + (1 : Int32))), (0, .ref d_h), (1, .int o1_18), (3, .int v1_7)]) hx hb dX1_tellApart_58 hl (k := 2) rfl rfl (by decide) rfl (fun ls hl => ?_)
              refine lv_goto (tgt := 7) hx hb dX1_tellApart_61 (by decide) ?_
              exact ih _ _ _ _ _ _ _ d_a_o18 _ _ _ h hP hD hS (lv_sub hl [1, 2, 0] rfl)
            · replace h := (if_neg c_52).symm.trans h
              refine lv_goto (tgt := 64) hx hb dX1_tellApart_55 (by decide) ?_
              exact hX7 _ _ _ _ _ _ d_a_o18 _ _ _ h hP hD hS (lv_sub hl [1] rfl)
        have hL18 : ∀ (f : Nat) (v1_18 : Int32) (v4_18 : Int32) (d_sort_18 : AI) (d_freshSort_18 : AI) (p_table_18 : AI) (p_turn_18 : Int32) (p_count_18 : Int32) (d_a_18 : Nat → Nat) (H : Heap) (locs : List Loc) (ls : Array Slot), p_X1_tellApart_L18 n d_rm d_count d_next f v1_18 v4_18 d_sort_18 d_freshSort_18 p_table_18 p_turn_18 p_count_18 = some (o1_18, d_sort_o18, d_freshSort_o18, p_table_o18, p_turn_o18, p_count_o18) → va_P G.1 vwCl ((WD G d_h d_hp d_q d_a_18 d_rm d_stateOf d_kindOf d_order d_rooms d_count d_next d_says d_note d_sort_18 d_freshSort_18) ++ (WP G d_hp p_q p_table_18 p_turn_18 p_count_18)) H → va_D A ((WD G d_h d_hp d_q d_a_18 d_rm d_stateOf d_kindOf d_order d_rooms d_count d_next d_says d_note d_sort_18 d_freshSort_18) ++ (WP G d_hp p_q p_table_18 p_turn_18 p_count_18)) → va_S A s.heap H locs → lv_has ls 5 [(0, .ref d_h), (1, .int v1_18), (2, .int v2_7), (3, .int v1_7), (4, .int v4_18)] → W p l e rX1_tellApart s m args below meth c H locs 0 0 Q (F0 m 18 ls []) := by
          intro f
          induction f with
          | zero => intro v1_18 v4_18 d_sort_18 d_freshSort_18 p_table_18 p_turn_18 p_count_18 d_a_18 H locs ls h hP hD hS hl; cases (show none = some _ from h)
          | succ f ih =>
            intro v1_18 v4_18 d_sort_18 d_freshSort_18 p_table_18 p_turn_18 p_count_18 d_a_18 H locs ls h hP hD hS hl
            rw [p_X1_tellApart_L18] at h
            refine lv_iload hx hb dX1_tellApart_18 (lv_at hl 4 rfl) ?_
            refine lv_bipush (v := 8) hx hb dX1_tellApart_20 (by decide) ?_
            refine lv_icmp_ge (tgt := 44) hx hb dX1_tellApart_22 (by decide) (fun c_22 => ?_) (fun c_22 => ?_)
            · replace h := (if_pos c_22).symm.trans h
              exact hX18 _ _ _ _ _ _ d_a_18 _ _ _ h hP hD hS (lv_sub hl [0, 1, 2, 3] rfl)
            · replace h := (if_neg c_22).symm.trans h
              refine lv_iload_n hx hb dX1_tellApart_25 rfl (lv_at hl 1 rfl) ?_
              refine lv_bipush (v := 60) hx hb dX1_tellApart_26 (by decide) ?_
              refine lv_icmp_gt (tgt := 44) hx hb dX1_tellApart_28 (by decide) (fun c_28 => ?_) (fun c_28 => ?_)
              · replace h := (if_pos c_28).symm.trans h
                exact hX18 _ _ _ _ _ _ d_a_18 _ _ _ h hP hD hS (lv_sub hl [0, 1, 2, 3] rfl)
              · replace h := (if_neg c_28).symm.trans h
                refine lv_aload_n hx hb dX1_tellApart_31 rfl (lv_at hl 0 rfl) ?_
                refine lv_iload hx hb dX1_tellApart_32 (lv_at hl 4 rfl) ?_
                obtain ⟨r_34, d_sort_34, d_freshSort_34, p_table_34, p_turn_34, p_count_34, hc_34, h⟩ := ob6_e h
                refine k_ciA (va_runV (As := [.int v4_18]) (rest := []) ⟨hx, hb, hml, hown, hts⟩ (c_X1_splitBy l G n d_h d_hp d_q d_a_18 p_q d_rm d_stateOf d_kindOf d_order d_rooms d_count d_next d_says d_note d_sort_18 d_freshSort_18 p_table_18 p_turn_18 p_count_18  v4_18 _ r_34 d_sort_34 d_freshSort_34 p_table_34 p_turn_34 p_count_34 hc_34) (cwV 1 hts gX1_tellApart_X1_splitBy rfl rfl rfl ⟨rfl, eX1_splitBy⟩ ⟨Nat.le_of_ble_eq_true rfl, Nat.le_of_ble_eq_true rfl⟩) (preWV (ci := 1) (q0 := 0) hK hP hD rfl rfl) rfl rfl hl.1 rfl (lv_room (Nat.le_of_ble_eq_true rfl)) dX1_tellApart_34 ⟨Nat.le_of_ble_eq_true rfl, Nat.le_of_ble_eq_true rfl⟩) hD hS hA (fun u_34 H locs hP hD hS => ?_)
                have hP : va_P G.1 vwCl ((WD G d_h d_hp d_q u_34 d_rm d_stateOf d_kindOf d_order d_rooms d_count d_next d_says d_note d_sort_34 d_freshSort_34) ++ (WP G d_hp p_q p_table_34 p_turn_34 p_count_34)) H := hP
                have hD : va_D A ((WD G d_h d_hp d_q u_34 d_rm d_stateOf d_kindOf d_order d_rooms d_count d_next d_says d_note d_sort_34 d_freshSort_34) ++ (WP G d_hp p_q p_table_34 p_turn_34 p_count_34)) := hD
                refine lv_istore_n (lv' := [(1, .int r_34), (0, .ref d_h), (2, .int v2_7), (3, .int v1_7), (4, .int v4_18)]) hx hb dX1_tellApart_37 rfl hl (by decide) rfl (fun ls hl => ?_)
                refine lv_iinc (v := (v4_18 + (1 : Int32))) (lv' := [(4, .int (v4_18 + (1 : Int32))), (1, .int r_34), (0, .ref d_h), (2, .int v2_7), (3, .int v1_7)]) hx hb dX1_tellApart_38 hl (k := 4) rfl rfl (by decide) rfl (fun ls hl => ?_)
                refine lv_goto (tgt := 18) hx hb dX1_tellApart_41 (by decide) ?_
                exact ih _ _ _ _ _ _ _ u_34 _ _ _ h hP hD hS (lv_sub hl [2, 1, 3, 4, 0] rfl)
        exact hL18 n _ _ _ _ _ _ _ d_a_7 _ _ _ hT18 hP hD hS (lv_sub hl [2, 3, 4, 1, 0] rfl)
  exact hL7 n _ _ _ _ _ _ _ d_a _ _ _ hT7 hP hD hS (lv_sub hl [2, 1, 0] rfl)
abbrev rX1_meet : Room := { frames := 0, cells := 0, slots := 0, locals := 0 }
set_option maxHeartbeats 4000000 in
set_option maxRecDepth 100000 in
theorem c_X1_meet (l : Launch) (G : GG) (d_h : Nat) (d_hp : Nat) (d_q : Nat → Nat) (d_a : Nat → Nat) (d_rm : Nat) (d_stateOf : AI) (d_kindOf : AI) (d_order : AI) (d_rooms : Int32) (d_count : Int32) (d_next : AI) (d_says : AI) (d_note : AI) (d_sort : AI) (d_freshSort : AI)  (v1 : Int32) (v2 : Int32) (sz : Nat) (r : Int32) (d_kindOf_z : AI) (d_order_z : AI) (h : p_X1_meet d_kindOf d_order v1 v2 = some (r, d_kindOf_z, d_order_z)) : CI l yX1_meet wsX1_meet rX1_meet G [.ref d_h, .int v1, .int v2] (WD G d_h d_hp d_q d_a d_rm d_stateOf d_kindOf d_order d_rooms d_count d_next d_says d_note d_sort d_freshSort) sz r (fun u => WD G d_h d_hp d_q d_a d_rm d_stateOf d_kindOf_z d_order_z d_rooms d_count d_next d_says d_note d_sort d_freshSort) := by
  refine enterCI (cc := cX1_meet) (maxL := 3) (by decide) rfl (Nat.le_of_ble_eq_true rfl) ?_
  intro p e s m args below meth c A Q hx hb hml hown hts hK hP hD hS hA hret ls hl
  have hown : s.vm.findClass RX1 = some m.cls := hown
  have hf15 := hts (.fieldLink RX1 15 "DigitClaims$Draft" "kindOf" "[I") (by decide +kernel)
  have hf18 := hts (.fieldLink RX1 18 "DigitClaims$Draft" "order" "[I") (by decide +kernel)
  have hinX1 : ∀ w ∈ wsX10, w ∈ wsX1_meet := by decide +kernel
  have hl : lv_has ls 3 [(0, .ref d_h), (1, .int v1), (2, .int v2)] := hl
  unfold p_X1_meet at h
  refine lv_iload_n hx hb dX1_meet_0 rfl (lv_at hl 1 rfl) ?_
  refine lv_if_lt (tgt := 29) hx hb dX1_meet_1 (by decide) (fun c_1 => ?_) (fun c_1 => ?_)
  · replace h := (if_pos c_1).symm.trans h
    refine lv_iload_n hx hb dX1_meet_29 rfl (lv_at hl 2 rfl) ?_
    obtain ⟨rfl, rfl, rfl⟩ := oi3 h
    exact hret (fun _ => 0) _ _ _ _ _ _ _ dX1_meet_30 rfl rfl hP hD hS (Nat.le_of_ble_eq_true rfl) (Nat.le_of_ble_eq_true rfl)
  · replace h := (if_neg c_1).symm.trans h
    refine lv_iload_n hx hb dX1_meet_4 rfl (lv_at hl 1 rfl) ?_
    refine lv_bipush (v := 60) hx hb dX1_meet_5 (by decide) ?_
    refine lv_icmp_ge (tgt := 29) hx hb dX1_meet_7 (by decide) (fun c_7 => ?_) (fun c_7 => ?_)
    · replace h := (if_pos c_7).symm.trans h
      refine lv_iload_n hx hb dX1_meet_29 rfl (lv_at hl 2 rfl) ?_
      obtain ⟨rfl, rfl, rfl⟩ := oi3 h
      exact hret (fun _ => 0) _ _ _ _ _ _ _ dX1_meet_30 rfl rfl hP hD hS (Nat.le_of_ble_eq_true rfl) (Nat.le_of_ble_eq_true rfl)
    · replace h := (if_neg c_7).symm.trans h
      refine lv_iload_n hx hb dX1_meet_10 rfl (lv_at hl 2 rfl) ?_
      refine lv_if_lt (tgt := 29) hx hb dX1_meet_11 (by decide) (fun c_11 => ?_) (fun c_11 => ?_)
      · replace h := (if_pos c_11).symm.trans h
        refine lv_iload_n hx hb dX1_meet_29 rfl (lv_at hl 2 rfl) ?_
        obtain ⟨rfl, rfl, rfl⟩ := oi3 h
        exact hret (fun _ => 0) _ _ _ _ _ _ _ dX1_meet_30 rfl rfl hP hD hS (Nat.le_of_ble_eq_true rfl) (Nat.le_of_ble_eq_true rfl)
      · replace h := (if_neg c_11).symm.trans h
        refine lv_iload_n hx hb dX1_meet_14 rfl (lv_at hl 2 rfl) ?_
        refine lv_bipush (v := 60) hx hb dX1_meet_15 (by decide) ?_
        refine lv_icmp_ge (tgt := 29) hx hb dX1_meet_17 (by decide) (fun c_17 => ?_) (fun c_17 => ?_)
        · replace h := (if_pos c_17).symm.trans h
          refine lv_iload_n hx hb dX1_meet_29 rfl (lv_at hl 2 rfl) ?_
          obtain ⟨rfl, rfl, rfl⟩ := oi3 h
          exact hret (fun _ => 0) _ _ _ _ _ _ _ dX1_meet_30 rfl rfl hP hD hS (Nat.le_of_ble_eq_true rfl) (Nat.le_of_ble_eq_true rfl)
        · replace h := (if_neg c_17).symm.trans h
          refine lv_aload_n hx hb dX1_meet_20 rfl (lv_at hl 0 rfl) ?_
          refine va_get (D := G.1) (ci := 1) (v := .ref (d_q 1)) (C := RX1) (T := TX1) (N := 11) hx hb hts hinX1 hown hK.1 hP 0 rfl rfl 2 (by decide) hf15 (fun _ h9 => h9) rfl dX1_meet_21 ?_
          refine lv_iload_n hx hb dX1_meet_24 rfl (lv_at hl 1 rfl) ?_
          obtain ⟨g_25, h⟩ := gi_e h
          refine va_iald hx hb hK.1 hP 2 0 rfl rfl g_25 dX1_meet_25 ?_
          refine lv_if_lt (tgt := 31) hx hb dX1_meet_26 (by decide) (fun c_26 => ?_) (fun c_26 => ?_)
          · replace h := (if_pos c_26).symm.trans h
            refine lv_aload_n hx hb dX1_meet_31 rfl (lv_at hl 0 rfl) ?_
            refine va_get (D := G.1) (ci := 1) (v := .ref (d_q 1)) (C := RX1) (T := TX1) (N := 11) hx hb hts hinX1 hown hK.1 hP 0 rfl rfl 2 (by decide) hf15 (fun _ h9 => h9) rfl dX1_meet_32 ?_
            refine lv_iload_n hx hb dX1_meet_35 rfl (lv_at hl 1 rfl) ?_
            refine lv_iload_n hx hb dX1_meet_36 rfl (lv_at hl 2 rfl) ?_
            obtain ⟨g_37, h⟩ := gi_e h
            refine va_iast hx hb hK.1 hP hD hS 2 0 rfl rfl g_37 dX1_meet_37 (fun H locs hP hD hS => ?_)
            have hP : va_P G.1 vwCl (WD G d_h d_hp d_q d_a d_rm d_stateOf (upd d_kindOf v1.toNatClampNeg v2) d_order d_rooms d_count d_next d_says d_note d_sort d_freshSort) H := hP
            have hD : va_D A (WD G d_h d_hp d_q d_a d_rm d_stateOf (upd d_kindOf v1.toNatClampNeg v2) d_order d_rooms d_count d_next d_says d_note d_sort d_freshSort) := hD
            refine lv_aload_n hx hb dX1_meet_38 rfl (lv_at hl 0 rfl) ?_
            refine va_get (D := G.1) (ci := 1) (v := .ref (d_q 2)) (C := RX1) (T := TX1) (N := 11) hx hb hts hinX1 hown hK.1 hP 0 rfl rfl 3 (by decide) hf18 (fun _ h9 => h9) rfl dX1_meet_39 ?_
            refine lv_iload_n hx hb dX1_meet_42 rfl (lv_at hl 2 rfl) ?_
            refine lv_iload_n hx hb dX1_meet_43 rfl (lv_at hl 1 rfl) ?_
            obtain ⟨g_44, h⟩ := gi_e h
            refine va_iast hx hb hK.1 hP hD hS 3 0 rfl rfl g_44 dX1_meet_44 (fun H locs hP hD hS => ?_)
            have hP : va_P G.1 vwCl (WD G d_h d_hp d_q d_a d_rm d_stateOf (upd d_kindOf v1.toNatClampNeg v2) (upd d_order v2.toNatClampNeg v1) d_rooms d_count d_next d_says d_note d_sort d_freshSort) H := hP
            have hD : va_D A (WD G d_h d_hp d_q d_a d_rm d_stateOf (upd d_kindOf v1.toNatClampNeg v2) (upd d_order v2.toNatClampNeg v1) d_rooms d_count d_next d_says d_note d_sort d_freshSort) := hD
            refine lv_iload_n hx hb dX1_meet_45 rfl (lv_at hl 2 rfl) ?_
            refine lv_iconst (v := 1) hx hb dX1_meet_46 (by decide) ?_
            refine lv_iadd hx hb dX1_meet_47 ?_
            obtain ⟨rfl, rfl, rfl⟩ := oi3 h
            exact hret (fun _ => 0) _ _ _ _ _ _ _ dX1_meet_48 rfl rfl hP hD hS (Nat.le_of_ble_eq_true rfl) (Nat.le_of_ble_eq_true rfl)
          · replace h := (if_neg c_26).symm.trans h
            refine lv_iload_n hx hb dX1_meet_29 rfl (lv_at hl 2 rfl) ?_
            obtain ⟨rfl, rfl, rfl⟩ := oi3 h
            exact hret (fun _ => 0) _ _ _ _ _ _ _ dX1_meet_30 rfl rfl hP hD hS (Nat.le_of_ble_eq_true rfl) (Nat.le_of_ble_eq_true rfl)
abbrev rX1_stateOfSort : Room := { frames := 0, cells := 0, slots := 0, locals := 0 }
set_option maxHeartbeats 4000000 in
set_option maxRecDepth 100000 in
theorem c_X1_stateOfSort (l : Launch) (G : GG) (d_h : Nat) (d_hp : Nat) (d_q : Nat → Nat) (d_a : Nat → Nat) (d_rm : Nat) (d_stateOf : AI) (d_kindOf : AI) (d_order : AI) (d_rooms : Int32) (d_count : Int32) (d_next : AI) (d_says : AI) (d_note : AI) (d_sort : AI) (d_freshSort : AI)  (v1 : Int32) (r : Int32) (h : p_X1_stateOfSort d_stateOf v1 = some r) : SI l yX1_stateOfSort wsX1_stateOfSort rX1_stateOfSort G [.ref d_h, .int v1] (WD G d_h d_hp d_q d_a d_rm d_stateOf d_kindOf d_order d_rooms d_count d_next d_says d_note d_sort d_freshSort) r := by
  refine enterSI (cc := cX1_stateOfSort) (maxL := 2) (by decide) rfl (Nat.le_of_ble_eq_true rfl) ?_
  intro p e s m args below meth c Q hx hb hml hown hts hK hP hret ls hl
  have hown : s.vm.findClass RX1 = some m.cls := hown
  have hf9 := hts (.fieldLink RX1 9 "DigitClaims$Draft" "stateOf" "[I") (by decide +kernel)
  have hinX1 : ∀ w ∈ wsX10, w ∈ wsX1_stateOfSort := by decide +kernel
  have hl : lv_has ls 2 [(0, .ref d_h), (1, .int v1)] := hl
  unfold p_X1_stateOfSort at h
  refine lv_iload_n hx hb dX1_stateOfSort_0 rfl (lv_at hl 1 rfl) ?_
  refine lv_if_lt (tgt := 19) hx hb dX1_stateOfSort_1 (by decide) (fun c_1 => ?_) (fun c_1 => ?_)
  · replace h := (if_pos c_1).symm.trans h
    refine lv_iconst (v := 0) hx hb dX1_stateOfSort_19 (by decide) ?_
    obtain rfl := oi1 h
    exact hret _ _ _ dX1_stateOfSort_20 rfl rfl
  · replace h := (if_neg c_1).symm.trans h
    refine lv_iload_n hx hb dX1_stateOfSort_4 rfl (lv_at hl 1 rfl) ?_
    refine lv_bipush (v := 60) hx hb dX1_stateOfSort_5 (by decide) ?_
    refine lv_icmp_ge (tgt := 19) hx hb dX1_stateOfSort_7 (by decide) (fun c_7 => ?_) (fun c_7 => ?_)
    · replace h := (if_pos c_7).symm.trans h
      refine lv_iconst (v := 0) hx hb dX1_stateOfSort_19 (by decide) ?_
      obtain rfl := oi1 h
      exact hret _ _ _ dX1_stateOfSort_20 rfl rfl
    · replace h := (if_neg c_7).symm.trans h
      refine lv_aload_n hx hb dX1_stateOfSort_10 rfl (lv_at hl 0 rfl) ?_
      refine va_get (D := G.1) (ci := 1) (v := .ref (d_q 0)) (C := RX1) (T := TX1) (N := 11) hx hb hts hinX1 hown hK.1 hP 0 rfl rfl 1 (by decide) hf9 (fun _ h9 => h9) rfl dX1_stateOfSort_11 ?_
      refine lv_iload_n hx hb dX1_stateOfSort_14 rfl (lv_at hl 1 rfl) ?_
      obtain ⟨g_15, h⟩ := gi_e h
      refine va_iald hx hb hK.1 hP 1 0 rfl rfl g_15 dX1_stateOfSort_15 ?_
      refine lv_goto (tgt := 20) hx hb dX1_stateOfSort_16 (by decide) ?_
      obtain rfl := oi1 h
      exact hret _ _ _ dX1_stateOfSort_20 rfl rfl
abbrev rX1_kindOfSort : Room := { frames := 0, cells := 0, slots := 0, locals := 0 }
set_option maxHeartbeats 4000000 in
set_option maxRecDepth 100000 in
theorem c_X1_kindOfSort (l : Launch) (G : GG) (d_h : Nat) (d_hp : Nat) (d_q : Nat → Nat) (d_a : Nat → Nat) (d_rm : Nat) (d_stateOf : AI) (d_kindOf : AI) (d_order : AI) (d_rooms : Int32) (d_count : Int32) (d_next : AI) (d_says : AI) (d_note : AI) (d_sort : AI) (d_freshSort : AI)  (v1 : Int32) (r : Int32) (h : p_X1_kindOfSort d_kindOf v1 = some r) : SI l yX1_kindOfSort wsX1_kindOfSort rX1_kindOfSort G [.ref d_h, .int v1] (WD G d_h d_hp d_q d_a d_rm d_stateOf d_kindOf d_order d_rooms d_count d_next d_says d_note d_sort d_freshSort) r := by
  refine enterSI (cc := cX1_kindOfSort) (maxL := 2) (by decide) rfl (Nat.le_of_ble_eq_true rfl) ?_
  intro p e s m args below meth c Q hx hb hml hown hts hK hP hret ls hl
  have hown : s.vm.findClass RX1 = some m.cls := hown
  have hf15 := hts (.fieldLink RX1 15 "DigitClaims$Draft" "kindOf" "[I") (by decide +kernel)
  have hinX1 : ∀ w ∈ wsX10, w ∈ wsX1_kindOfSort := by decide +kernel
  have hl : lv_has ls 2 [(0, .ref d_h), (1, .int v1)] := hl
  unfold p_X1_kindOfSort at h
  refine lv_iload_n hx hb dX1_kindOfSort_0 rfl (lv_at hl 1 rfl) ?_
  refine lv_if_lt (tgt := 19) hx hb dX1_kindOfSort_1 (by decide) (fun c_1 => ?_) (fun c_1 => ?_)
  · replace h := (if_pos c_1).symm.trans h
    refine lv_iconst (v := 0) hx hb dX1_kindOfSort_19 (by decide) ?_
    obtain rfl := oi1 h
    exact hret _ _ _ dX1_kindOfSort_20 rfl rfl
  · replace h := (if_neg c_1).symm.trans h
    refine lv_iload_n hx hb dX1_kindOfSort_4 rfl (lv_at hl 1 rfl) ?_
    refine lv_bipush (v := 60) hx hb dX1_kindOfSort_5 (by decide) ?_
    refine lv_icmp_ge (tgt := 19) hx hb dX1_kindOfSort_7 (by decide) (fun c_7 => ?_) (fun c_7 => ?_)
    · replace h := (if_pos c_7).symm.trans h
      refine lv_iconst (v := 0) hx hb dX1_kindOfSort_19 (by decide) ?_
      obtain rfl := oi1 h
      exact hret _ _ _ dX1_kindOfSort_20 rfl rfl
    · replace h := (if_neg c_7).symm.trans h
      refine lv_aload_n hx hb dX1_kindOfSort_10 rfl (lv_at hl 0 rfl) ?_
      refine va_get (D := G.1) (ci := 1) (v := .ref (d_q 1)) (C := RX1) (T := TX1) (N := 11) hx hb hts hinX1 hown hK.1 hP 0 rfl rfl 2 (by decide) hf15 (fun _ h9 => h9) rfl dX1_kindOfSort_11 ?_
      refine lv_iload_n hx hb dX1_kindOfSort_14 rfl (lv_at hl 1 rfl) ?_
      obtain ⟨g_15, h⟩ := gi_e h
      refine va_iald hx hb hK.1 hP 2 0 rfl rfl g_15 dX1_kindOfSort_15 ?_
      refine lv_goto (tgt := 20) hx hb dX1_kindOfSort_16 (by decide) ?_
      obtain rfl := oi1 h
      exact hret _ _ _ dX1_kindOfSort_20 rfl rfl
abbrev rX1_putInOrder : Room := { frames := 1, cells := 0, slots := 0, locals := 23 }
set_option maxHeartbeats 4000000 in
set_option maxRecDepth 100000 in
theorem c_X1_putInOrder (l : Launch) (G : GG) (n : Nat) (d_h : Nat) (d_hp : Nat) (d_q : Nat → Nat) (d_a : Nat → Nat) (d_rm : Nat) (d_stateOf : AI) (d_kindOf : AI) (d_order : AI) (d_rooms : Int32) (d_count : Int32) (d_next : AI) (d_says : AI) (d_note : AI) (d_sort : AI) (d_freshSort : AI)   (sz : Nat) (r : Int32) (d_stateOf_z : AI) (d_kindOf_z : AI) (d_order_z : AI) (h : p_X1_putInOrder n d_rm d_stateOf d_kindOf d_order d_count d_next d_sort = some (r, d_stateOf_z, d_kindOf_z, d_order_z)) : CI l yX1_putInOrder wsX1_putInOrder rX1_putInOrder G [.ref d_h] (WD G d_h d_hp d_q d_a d_rm d_stateOf d_kindOf d_order d_rooms d_count d_next d_says d_note d_sort d_freshSort) sz r (fun u => WD G d_h d_hp d_q d_a d_rm d_stateOf_z d_kindOf_z d_order_z d_rooms d_count d_next d_says d_note d_sort d_freshSort) := by
  refine enterCI (cc := cX1_putInOrder) (maxL := 5) (by decide) rfl (Nat.le_of_ble_eq_true rfl) ?_
  intro p e s m args below meth c A Q hx hb hml hown hts hK hP hD hS hA hret ls hl
  have hown : s.vm.findClass RX1 = some m.cls := hown
  have hf9 := hts (.fieldLink RX1 9 "DigitClaims$Draft" "stateOf" "[I") (by decide +kernel)
  have hf15 := hts (.fieldLink RX1 15 "DigitClaims$Draft" "kindOf" "[I") (by decide +kernel)
  have hf18 := hts (.fieldLink RX1 18 "DigitClaims$Draft" "order" "[I") (by decide +kernel)
  have hf25 := hts (.fieldLink RX1 25 "DigitClaims$Draft" "count" "I") (by decide +kernel)
  have hf38 := hts (.fieldLink RX1 38 "DigitClaims$Draft" "sort" "[I") (by decide +kernel)
  have hinX1 : ∀ w ∈ wsX10, w ∈ wsX1_putInOrder := by decide +kernel
  have hl : lv_has ls 5 [(0, .ref d_h)] := hl
  unfold p_X1_putInOrder at h
  refine lv_iconst (v := 0) hx hb dX1_putInOrder_0 (by decide) ?_
  refine lv_istore_n (lv' := [(1, .int (0 : Int32)), (0, .ref d_h)]) hx hb dX1_putInOrder_1 rfl hl (by decide) rfl (fun ls hl => ?_)
  obtain ⟨d_stateOf_o2, hT2, h⟩ := ob1_e h
  have hX2 : ∀ (d_stateOf_o2x : AI)  (H : Heap) (locs : List Loc) (ls : Array Slot), some d_stateOf_o2x = some d_stateOf_o2 → va_P G.1 vwCl (WD G d_h d_hp d_q d_a d_rm d_stateOf_o2x d_kindOf d_order d_rooms d_count d_next d_says d_note d_sort d_freshSort) H → va_D A (WD G d_h d_hp d_q d_a d_rm d_stateOf_o2x d_kindOf d_order d_rooms d_count d_next d_says d_note d_sort d_freshSort) → va_S A s.heap H locs → lv_has ls 5 [(0, .ref d_h)] → W p l e rX1_putInOrder s m args below meth c H locs 0 0 Q (F0 m 48 ls []) := by
    intro d_stateOf_o2x H locs ls hq hP hD hS hl
    obtain rfl := oi1 hq
    refine lv_aload_n hx hb dX1_putInOrder_48 rfl (lv_at hl 0 rfl) ?_
    refine va_get (D := G.1) (ci := 1) (v := .ref (d_q 1)) (C := RX1) (T := TX1) (N := 11) hx hb hts hinX1 hown hK.1 hP 0 rfl rfl 2 (by decide) hf15 (fun _ h9 => h9) rfl dX1_putInOrder_49 ?_
    refine lv_iconst (v := -1) hx hb dX1_putInOrder_52 (by decide) ?_
    obtain ⟨z_arr_53, hc_53, h⟩ := ob1_e h
    refine k_cv (wr := [(d_h, .inr (1, [.ref (d_hp), .ref (d_q 0), .ref (d_q 1), .ref (d_q 2), .int d_rooms, .int d_count, .ref (d_a 0), .ref (d_a 1), .ref (d_a 2), .ref (d_a 3), .ref (d_a 4)])), (d_q 0, .inl (G.2 0, 60, .inl d_stateOf_o2)), (d_q 2, .inl (G.2 0, 60, .inl d_order)), (d_a 0, .inl (G.2 0, 8 * d_rm, .inl d_next)), (d_a 1, .inl (G.2 1, d_rm, .inl d_says)), (d_a 2, .inl (G.2 0, d_rm, .inl d_note)), (d_a 3, .inl (G.2 0, d_rm, .inl d_sort)), (d_a 4, .inl (G.2 0, d_rm, .inl d_freshSort))]) (va_runS (As := [.ref (d_q 1), .int (-1 : Int32)]) (rest := []) ⟨hx, hb, hml, hown, hts⟩ (c_J7_fill_53178 l G n (d_q 1) 60 d_kindOf  (-1 : Int32) _ z_arr_53 hc_53) (va_cwS 2 hts gX1_putInOrder_J7_fill_53178 rfl rfl rfl eJ7_fill_53178 ⟨Nat.le_of_ble_eq_true rfl, Nat.le_of_ble_eq_true rfl⟩) (preWS hK (hP.sub (ws' := WA G (d_q 1) 60 d_kindOf) [2] rfl) (hD.sub (ws' := WA G (d_q 1) 60 d_kindOf) [2] (by decide) rfl)) rfl rfl hl.1 rfl (lv_room (Nat.le_of_ble_eq_true rfl)) dX1_putInOrder_53 ⟨Nat.le_of_ble_eq_true rfl, Nat.le_of_ble_eq_true rfl⟩) hP hD hS hA [2] [0, 1, 3, 4, 5, 6, 7, 8] rfl rfl (by decide) (by decide) (fun u_53 H locs hP hD hS => ?_)
    have hP := hP.sub (ws' := WD G d_h d_hp d_q d_a d_rm d_stateOf_o2 z_arr_53 d_order d_rooms d_count d_next d_says d_note d_sort d_freshSort) [0, 1, 8, 2, 3, 4, 5, 6, 7] rfl
    have hD := hD.sub (ws' := WD G d_h d_hp d_q d_a d_rm d_stateOf_o2 z_arr_53 d_order d_rooms d_count d_next d_says d_note d_sort d_freshSort) [0, 1, 8, 2, 3, 4, 5, 6, 7] (by decide) rfl
    refine lv_aload_n hx hb dX1_putInOrder_56 rfl (lv_at hl 0 rfl) ?_
    refine lv_aload_n hx hb dX1_putInOrder_57 rfl (lv_at hl 0 rfl) ?_
    refine va_get (D := G.1) (ci := 1) (v := .ref (d_a 3)) (C := RX1) (T := TX1) (N := 11) hx hb hts hinX1 hown hK.1 hP 0 rfl rfl 9 (by decide) hf38 (fun _ h9 => h9) rfl dX1_putInOrder_58 ?_
    refine lv_iconst (v := 0) hx hb dX1_putInOrder_61 (by decide) ?_
    obtain ⟨g_62, h⟩ := gi_e h
    refine va_iald hx hb hK.1 hP 7 0 rfl rfl g_62 dX1_putInOrder_62 ?_
    refine lv_iconst (v := 0) hx hb dX1_putInOrder_63 (by decide) ?_
    obtain ⟨r_64, d_kindOf_64, d_order_64, hc_64, h⟩ := ob3_e h
    refine k_ciA (va_runV (As := [.int (d_sort (0 : Int32).toNatClampNeg), .int (0 : Int32)]) (rest := []) ⟨hx, hb, hml, hown, hts⟩ (c_X1_meet l G d_h d_hp d_q d_a d_rm d_stateOf_o2 z_arr_53 d_order d_rooms d_count d_next d_says d_note d_sort d_freshSort  (d_sort (0 : Int32).toNatClampNeg) (0 : Int32) _ r_64 d_kindOf_64 d_order_64 hc_64) (cwV 2 hts gX1_putInOrder_X1_meet rfl rfl rfl ⟨rfl, eX1_meet⟩ ⟨Nat.le_of_ble_eq_true rfl, Nat.le_of_ble_eq_true rfl⟩) (preWV (ci := 1) (q0 := 0) hK hP hD rfl rfl) rfl rfl hl.1 rfl (lv_room (Nat.le_of_ble_eq_true rfl)) dX1_putInOrder_64 ⟨Nat.le_of_ble_eq_true rfl, Nat.le_of_ble_eq_true rfl⟩) hD hS hA (fun u_64 H locs hP hD hS => ?_)
    have hP : va_P G.1 vwCl (WD G d_h d_hp d_q d_a d_rm d_stateOf_o2 d_kindOf_64 d_order_64 d_rooms d_count d_next d_says d_note d_sort d_freshSort) H := hP
    have hD : va_D A (WD G d_h d_hp d_q d_a d_rm d_stateOf_o2 d_kindOf_64 d_order_64 d_rooms d_count d_next d_says d_note d_sort d_freshSort) := hD
    refine lv_istore_n (lv' := [(1, .int r_64), (0, .ref d_h)]) hx hb dX1_putInOrder_67 rfl hl (by decide) rfl (fun ls hl => ?_)
    refine lv_iconst (v := 0) hx hb dX1_putInOrder_68 (by decide) ?_
    refine lv_istore_n (lv' := [(2, .int (0 : Int32)), (1, .int r_64), (0, .ref d_h)]) hx hb dX1_putInOrder_69 rfl hl (by decide) rfl (fun ls hl => ?_)
    obtain ⟨o1_70, d_kindOf_o70, d_order_o70, hT70, h⟩ := ob3_e h
    have hX70 : ∀ (x1_70 : Int32) (d_kindOf_o70x : AI) (d_order_o70x : AI)  (H : Heap) (locs : List Loc) (ls : Array Slot), some (x1_70, d_kindOf_o70x, d_order_o70x) = some (o1_70, d_kindOf_o70, d_order_o70) → va_P G.1 vwCl (WD G d_h d_hp d_q d_a d_rm d_stateOf_o2 d_kindOf_o70x d_order_o70x d_rooms d_count d_next d_says d_note d_sort d_freshSort) H → va_D A (WD G d_h d_hp d_q d_a d_rm d_stateOf_o2 d_kindOf_o70x d_order_o70x d_rooms d_count d_next d_says d_note d_sort d_freshSort) → va_S A s.heap H locs → lv_has ls 5 [(1, .int x1_70)] → W p l e rX1_putInOrder s m args below meth c H locs 0 0 Q (F0 m 127 ls []) := by
      intro x1_70 d_kindOf_o70x d_order_o70x H locs ls hq hP hD hS hl
      obtain ⟨rfl, rfl, rfl⟩ := oi3 hq
      refine lv_iload_n hx hb dX1_putInOrder_127 rfl (lv_at hl 0 rfl) ?_
      obtain ⟨rfl, rfl, rfl, rfl⟩ := oi4 h
      exact hret (fun _ => 0) _ _ _ _ _ _ _ dX1_putInOrder_128 rfl rfl hP hD hS (Nat.le_of_ble_eq_true rfl) (Nat.le_of_ble_eq_true rfl)
    have hL70 : ∀ (f : Nat) (v1_70 : Int32) (v2_70 : Int32) (d_kindOf_70 : AI) (d_order_70 : AI)  (H : Heap) (locs : List Loc) (ls : Array Slot), p_X1_putInOrder_L70 n d_stateOf_o2 d_rm d_count d_next d_sort f v1_70 v2_70 d_kindOf_70 d_order_70 = some (o1_70, d_kindOf_o70, d_order_o70) → va_P G.1 vwCl (WD G d_h d_hp d_q d_a d_rm d_stateOf_o2 d_kindOf_70 d_order_70 d_rooms d_count d_next d_says d_note d_sort d_freshSort) H → va_D A (WD G d_h d_hp d_q d_a d_rm d_stateOf_o2 d_kindOf_70 d_order_70 d_rooms d_count d_next d_says d_note d_sort d_freshSort) → va_S A s.heap H locs → lv_has ls 5 [(0, .ref d_h), (1, .int v1_70), (2, .int v2_70)] → W p l e rX1_putInOrder s m args below meth c H locs 0 0 Q (F0 m 70 ls []) := by
      intro f
      induction f with
      | zero => intro v1_70 v2_70 d_kindOf_70 d_order_70 H locs ls h hP hD hS hl; cases (show none = some _ from h)
      | succ f ih =>
        intro v1_70 v2_70 d_kindOf_70 d_order_70 H locs ls h hP hD hS hl
        rw [p_X1_putInOrder_L70] at h
        refine lv_iload_n hx hb dX1_putInOrder_70 rfl (lv_at hl 2 rfl) ?_
        refine lv_iload_n hx hb dX1_putInOrder_71 rfl (lv_at hl 1 rfl) ?_
        refine lv_icmp_ge (tgt := 127) hx hb dX1_putInOrder_72 (by decide) (fun c_72 => ?_) (fun c_72 => ?_)
        · replace h := (if_pos c_72).symm.trans h
          exact hX70 _ _ _  _ _ _ h hP hD hS (lv_sub hl [1] rfl)
        · replace h := (if_neg c_72).symm.trans h
          refine lv_iload_n hx hb dX1_putInOrder_75 rfl (lv_at hl 2 rfl) ?_
          refine lv_bipush (v := 60) hx hb dX1_putInOrder_76 (by decide) ?_
          refine lv_icmp_ge (tgt := 127) hx hb dX1_putInOrder_78 (by decide) (fun c_78 => ?_) (fun c_78 => ?_)
          · replace h := (if_pos c_78).symm.trans h
            exact hX70 _ _ _  _ _ _ h hP hD hS (lv_sub hl [1] rfl)
          · replace h := (if_neg c_78).symm.trans h
            refine lv_aload_n hx hb dX1_putInOrder_81 rfl (lv_at hl 0 rfl) ?_
            refine lv_aload_n hx hb dX1_putInOrder_82 rfl (lv_at hl 0 rfl) ?_
            refine va_get (D := G.1) (ci := 1) (v := .ref (d_q 2)) (C := RX1) (T := TX1) (N := 11) hx hb hts hinX1 hown hK.1 hP 0 rfl rfl 3 (by decide) hf18 (fun _ h9 => h9) rfl dX1_putInOrder_83 ?_
            refine lv_iload_n hx hb dX1_putInOrder_86 rfl (lv_at hl 2 rfl) ?_
            obtain ⟨g_87, h⟩ := gi_e h
            refine va_iald hx hb hK.1 hP 3 0 rfl rfl g_87 dX1_putInOrder_87 ?_
            obtain ⟨r_88, hc_88, h⟩ := ob1_e h
            refine k_si (va_runV (As := [.int (d_order_70 v2_70.toNatClampNeg)]) (rest := []) ⟨hx, hb, hml, hown, hts⟩ (c_X1_stateOfSort l G d_h d_hp d_q d_a d_rm d_stateOf_o2 d_kindOf_70 d_order_70 d_rooms d_count d_next d_says d_note d_sort d_freshSort  (d_order_70 v2_70.toNatClampNeg) r_88 hc_88) (cwV 1 hts gX1_putInOrder_X1_stateOfSort rfl rfl rfl ⟨rfl, eX1_stateOfSort⟩ ⟨Nat.le_of_ble_eq_true rfl, Nat.le_of_ble_eq_true rfl⟩) (preSV (ci := 1) (q0 := 0) hK hP rfl rfl) rfl rfl hl.1 rfl (lv_room (Nat.le_of_ble_eq_true rfl)) dX1_putInOrder_88 ⟨Nat.le_of_ble_eq_true rfl, Nat.le_of_ble_eq_true rfl⟩) ?_
            refine lv_istore_n (lv' := [(3, .int r_88), (0, .ref d_h), (1, .int v1_70), (2, .int v2_70)]) hx hb dX1_putInOrder_91 rfl hl (by decide) rfl (fun ls hl => ?_)
            refine lv_iconst (v := 0) hx hb dX1_putInOrder_92 (by decide) ?_
            refine lv_istore (lv' := [(4, .int (0 : Int32)), (3, .int r_88), (0, .ref d_h), (1, .int v1_70), (2, .int v2_70)]) hx hb dX1_putInOrder_93 hl (by decide) rfl (fun ls hl => ?_)
            obtain ⟨o1_95, d_kindOf_o95, d_order_o95, hT95, h⟩ := ob3_e h
            have hX95 : ∀ (x1_95 : Int32) (d_kindOf_o95x : AI) (d_order_o95x : AI)  (H : Heap) (locs : List Loc) (ls : Array Slot), some (x1_95, d_kindOf_o95x, d_order_o95x) = some (o1_95, d_kindOf_o95, d_order_o95) → va_P G.1 vwCl (WD G d_h d_hp d_q d_a d_rm d_stateOf_o2 d_kindOf_o95x d_order_o95x d_rooms d_count d_next d_says d_note d_sort d_freshSort) H → va_D A (WD G d_h d_hp d_q d_a d_rm d_stateOf_o2 d_kindOf_o95x d_order_o95x d_rooms d_count d_next d_says d_note d_sort d_freshSort) → va_S A s.heap H locs → lv_has ls 5 [(0, .ref d_h), (1, .int x1_95), (2, .int v2_70)] → W p l e rX1_putInOrder s m args below meth c H locs 0 0 Q (F0 m 121 ls []) := by
              intro x1_95 d_kindOf_o95x d_order_o95x H locs ls hq hP hD hS hl
              obtain ⟨rfl, rfl, rfl⟩ := oi3 hq
              refine lv_iinc (v := (v2_70 + (1 : Int32))) (lv' := [(2, .int (v2_70 + (1 : Int32))), (0, .ref d_h), (1, .int o1_95)]) hx hb dX1_putInOrder_121 hl (k := 2) rfl rfl (by decide) rfl (fun ls hl => ?_)
              refine lv_goto (tgt := 70) hx hb dX1_putInOrder_124 (by decide) ?_
              exact ih _ _ _ _  _ _ _ h hP hD hS (lv_sub hl [1, 2, 0] rfl)
            have hL95 : ∀ (f : Nat) (v1_95 : Int32) (v4_95 : Int32) (d_kindOf_95 : AI) (d_order_95 : AI)  (H : Heap) (locs : List Loc) (ls : Array Slot), p_X1_putInOrder_L95 d_rm d_count d_next d_sort r_88 f v1_95 v4_95 d_kindOf_95 d_order_95 = some (o1_95, d_kindOf_o95, d_order_o95) → va_P G.1 vwCl (WD G d_h d_hp d_q d_a d_rm d_stateOf_o2 d_kindOf_95 d_order_95 d_rooms d_count d_next d_says d_note d_sort d_freshSort) H → va_D A (WD G d_h d_hp d_q d_a d_rm d_stateOf_o2 d_kindOf_95 d_order_95 d_rooms d_count d_next d_says d_note d_sort d_freshSort) → va_S A s.heap H locs → lv_has ls 5 [(0, .ref d_h), (1, .int v1_95), (2, .int v2_70), (3, .int r_88), (4, .int v4_95)] → W p l e rX1_putInOrder s m args below meth c H locs 0 0 Q (F0 m 95 ls []) := by
              intro f
              induction f with
              | zero => intro v1_95 v4_95 d_kindOf_95 d_order_95 H locs ls h hP hD hS hl; cases (show none = some _ from h)
              | succ f ih =>
                intro v1_95 v4_95 d_kindOf_95 d_order_95 H locs ls h hP hD hS hl
                rw [p_X1_putInOrder_L95] at h
                refine lv_iload hx hb dX1_putInOrder_95 (lv_at hl 4 rfl) ?_
                refine lv_bipush (v := 8) hx hb dX1_putInOrder_97 (by decide) ?_
                refine lv_icmp_ge (tgt := 121) hx hb dX1_putInOrder_99 (by decide) (fun c_99 => ?_) (fun c_99 => ?_)
                · replace h := (if_pos c_99).symm.trans h
                  exact hX95 _ _ _  _ _ _ h hP hD hS (lv_sub hl [0, 1, 2] rfl)
                · replace h := (if_neg c_99).symm.trans h
                  refine lv_aload_n hx hb dX1_putInOrder_102 rfl (lv_at hl 0 rfl) ?_
                  refine lv_aload_n hx hb dX1_putInOrder_103 rfl (lv_at hl 0 rfl) ?_
                  refine lv_iload_n hx hb dX1_putInOrder_104 rfl (lv_at hl 3 rfl) ?_
                  refine lv_iload hx hb dX1_putInOrder_105 (lv_at hl 4 rfl) ?_
                  obtain ⟨r_107, hc_107, h⟩ := ob1_e h
                  refine k_si (va_runV (As := [.int r_88, .int v4_95]) (rest := [.ref d_h]) ⟨hx, hb, hml, hown, hts⟩ (c_X1_sortAfter l G d_h d_hp d_q d_a d_rm d_stateOf_o2 d_kindOf_95 d_order_95 d_rooms d_count d_next d_says d_note d_sort d_freshSort  r_88 v4_95 r_107 hc_107) (cwV 2 hts gX1_putInOrder_X1_sortAfter rfl rfl rfl ⟨rfl, eX1_sortAfter⟩ ⟨Nat.le_of_ble_eq_true rfl, Nat.le_of_ble_eq_true rfl⟩) (preSV (ci := 1) (q0 := 0) hK hP rfl rfl) rfl rfl hl.1 rfl (lv_room (Nat.le_of_ble_eq_true rfl)) dX1_putInOrder_107 ⟨Nat.le_of_ble_eq_true rfl, Nat.le_of_ble_eq_true rfl⟩) ?_
                  refine lv_iload_n hx hb dX1_putInOrder_110 rfl (lv_at hl 1 rfl) ?_
                  obtain ⟨r_111, d_kindOf_111, d_order_111, hc_111, h⟩ := ob3_e h
                  refine k_ciA (va_runV (As := [.int r_107, .int v1_95]) (rest := []) ⟨hx, hb, hml, hown, hts⟩ (c_X1_meet l G d_h d_hp d_q d_a d_rm d_stateOf_o2 d_kindOf_95 d_order_95 d_rooms d_count d_next d_says d_note d_sort d_freshSort  r_107 v1_95 _ r_111 d_kindOf_111 d_order_111 hc_111) (cwV 2 hts gX1_putInOrder_X1_meet rfl rfl rfl ⟨rfl, eX1_meet⟩ ⟨Nat.le_of_ble_eq_true rfl, Nat.le_of_ble_eq_true rfl⟩) (preWV (ci := 1) (q0 := 0) hK hP hD rfl rfl) rfl rfl hl.1 rfl (lv_room (Nat.le_of_ble_eq_true rfl)) dX1_putInOrder_111 ⟨Nat.le_of_ble_eq_true rfl, Nat.le_of_ble_eq_true rfl⟩) hD hS hA (fun u_111 H locs hP hD hS => ?_)
                  have hP : va_P G.1 vwCl (WD G d_h d_hp d_q d_a d_rm d_stateOf_o2 d_kindOf_111 d_order_111 d_rooms d_count d_next d_says d_note d_sort d_freshSort) H := hP
                  have hD : va_D A (WD G d_h d_hp d_q d_a d_rm d_stateOf_o2 d_kindOf_111 d_order_111 d_rooms d_count d_next d_says d_note d_sort d_freshSort) := hD
                  refine lv_istore_n (lv' := [(1, .int r_111), (0, .ref d_h), (2, .int v2_70), (3, .int r_88), (4, .int v4_95)]) hx hb dX1_putInOrder_114 rfl hl (by decide) rfl (fun ls hl => ?_)
                  refine lv_iinc (v := (v4_95 + (1 : Int32))) (lv' := [(4, .int (v4_95 + (1 : Int32))), (1, .int r_111), (0, .ref d_h), (2, .int v2_70), (3, .int r_88)]) hx hb dX1_putInOrder_115 hl (k := 4) rfl rfl (by decide) rfl (fun ls hl => ?_)
                  refine lv_goto (tgt := 95) hx hb dX1_putInOrder_118 (by decide) ?_
                  exact ih _ _ _ _  _ _ _ h hP hD hS (lv_sub hl [2, 1, 3, 4, 0] rfl)
            exact hL95 n _ _ _ _  _ _ _ hT95 hP hD hS (lv_sub hl [2, 3, 4, 1, 0] rfl)
    exact hL70 n _ _ _ _  _ _ _ hT70 hP hD hS (lv_sub hl [2, 1, 0] rfl)
  have hL2 : ∀ (f : Nat) (v1_2 : Int32) (d_stateOf_2 : AI)  (H : Heap) (locs : List Loc) (ls : Array Slot), p_X1_putInOrder_L2 d_count d_rm d_sort f v1_2 d_stateOf_2 = some d_stateOf_o2 → va_P G.1 vwCl (WD G d_h d_hp d_q d_a d_rm d_stateOf_2 d_kindOf d_order d_rooms d_count d_next d_says d_note d_sort d_freshSort) H → va_D A (WD G d_h d_hp d_q d_a d_rm d_stateOf_2 d_kindOf d_order d_rooms d_count d_next d_says d_note d_sort d_freshSort) → va_S A s.heap H locs → lv_has ls 5 [(0, .ref d_h), (1, .int v1_2)] → W p l e rX1_putInOrder s m args below meth c H locs 0 0 Q (F0 m 2 ls []) := by
    intro f
    induction f with
    | zero => intro v1_2 d_stateOf_2 H locs ls h hP hD hS hl; cases (show none = some _ from h)
    | succ f ih =>
      intro v1_2 d_stateOf_2 H locs ls h hP hD hS hl
      rw [p_X1_putInOrder_L2] at h
      refine lv_iload_n hx hb dX1_putInOrder_2 rfl (lv_at hl 1 rfl) ?_
      refine lv_aload_n hx hb dX1_putInOrder_3 rfl (lv_at hl 0 rfl) ?_
      refine va_get (D := G.1) (ci := 1) (v := .int d_count) (C := RX1) (T := TX1) (N := 11) hx hb hts hinX1 hown hK.1 hP 0 rfl rfl 5 (by decide) hf25 (fun _ h9 => h9) rfl dX1_putInOrder_4 ?_
      refine lv_icmp_ge (tgt := 48) hx hb dX1_putInOrder_7 (by decide) (fun c_7 => ?_) (fun c_7 => ?_)
      · replace h := (if_pos c_7).symm.trans h
        exact hX2 _  _ _ _ h hP hD hS (lv_sub hl [0] rfl)
      · replace h := (if_neg c_7).symm.trans h
        refine lv_aload_n hx hb dX1_putInOrder_10 rfl (lv_at hl 0 rfl) ?_
        refine va_get (D := G.1) (ci := 1) (v := .ref (d_a 3)) (C := RX1) (T := TX1) (N := 11) hx hb hts hinX1 hown hK.1 hP 0 rfl rfl 9 (by decide) hf38 (fun _ h9 => h9) rfl dX1_putInOrder_11 ?_
        refine lv_iload_n hx hb dX1_putInOrder_14 rfl (lv_at hl 1 rfl) ?_
        obtain ⟨g_15, h⟩ := gi_e h
        refine va_iald hx hb hK.1 hP 7 0 rfl rfl g_15 dX1_putInOrder_15 ?_
        obtain ⟨d_stateOf_j16, hT16, h⟩ := ob1_e h
        have hJ16 : ∀ (d_stateOf_j16x : AI)  (H : Heap) (locs : List Loc) (ls : Array Slot), some d_stateOf_j16x = some d_stateOf_j16 → va_P G.1 vwCl (WD G d_h d_hp d_q d_a d_rm d_stateOf_j16x d_kindOf d_order d_rooms d_count d_next d_says d_note d_sort d_freshSort) H → va_D A (WD G d_h d_hp d_q d_a d_rm d_stateOf_j16x d_kindOf d_order d_rooms d_count d_next d_says d_note d_sort d_freshSort) → va_S A s.heap H locs → lv_has ls 5 [(0, .ref d_h), (1, .int v1_2)] → W p l e rX1_putInOrder s m args below meth c H locs 0 0 Q (F0 m 42 ls []) := by
          intro d_stateOf_j16x H locs ls hq hP hD hS hl
          obtain rfl := oi1 hq
          refine lv_iinc (v := (v1_2 + (1 : Int32))) (lv' := [(1, .int (v1_2 + (1 : Int32))), (0, .ref d_h)]) hx hb dX1_putInOrder_42 hl (k := 1) rfl rfl (by decide) rfl (fun ls hl => ?_)
          refine lv_goto (tgt := 2) hx hb dX1_putInOrder_45 (by decide) ?_
          exact ih _ _  _ _ _ h hP hD hS (lv_sub hl [1, 0] rfl)
        replace h := hT16
        refine lv_if_lt (tgt := 42) hx hb dX1_putInOrder_16 (by decide) (fun c_16 => ?_) (fun c_16 => ?_)
        · replace h := (if_pos c_16).symm.trans h
          exact hJ16 _  _ _ _ h hP hD hS (lv_sub hl [0, 1] rfl)
        · replace h := (if_neg c_16).symm.trans h
          refine lv_aload_n hx hb dX1_putInOrder_19 rfl (lv_at hl 0 rfl) ?_
          refine va_get (D := G.1) (ci := 1) (v := .ref (d_a 3)) (C := RX1) (T := TX1) (N := 11) hx hb hts hinX1 hown hK.1 hP 0 rfl rfl 9 (by decide) hf38 (fun _ h9 => h9) rfl dX1_putInOrder_20 ?_
          refine lv_iload_n hx hb dX1_putInOrder_23 rfl (lv_at hl 1 rfl) ?_
          obtain ⟨g_24, h⟩ := gi_e h
          refine va_iald hx hb hK.1 hP 7 0 rfl rfl g_24 dX1_putInOrder_24 ?_
          refine lv_bipush (v := 60) hx hb dX1_putInOrder_25 (by decide) ?_
          refine lv_icmp_ge (tgt := 42) hx hb dX1_putInOrder_27 (by decide) (fun c_27 => ?_) (fun c_27 => ?_)
          · replace h := (if_pos c_27).symm.trans h
            exact hJ16 _  _ _ _ h hP hD hS (lv_sub hl [0, 1] rfl)
          · replace h := (if_neg c_27).symm.trans h
            refine lv_aload_n hx hb dX1_putInOrder_30 rfl (lv_at hl 0 rfl) ?_
            refine va_get (D := G.1) (ci := 1) (v := .ref (d_q 0)) (C := RX1) (T := TX1) (N := 11) hx hb hts hinX1 hown hK.1 hP 0 rfl rfl 1 (by decide) hf9 (fun _ h9 => h9) rfl dX1_putInOrder_31 ?_
            refine lv_aload_n hx hb dX1_putInOrder_34 rfl (lv_at hl 0 rfl) ?_
            refine va_get (D := G.1) (ci := 1) (v := .ref (d_a 3)) (C := RX1) (T := TX1) (N := 11) hx hb hts hinX1 hown hK.1 hP 0 rfl rfl 9 (by decide) hf38 (fun _ h9 => h9) rfl dX1_putInOrder_35 ?_
            refine lv_iload_n hx hb dX1_putInOrder_38 rfl (lv_at hl 1 rfl) ?_
            obtain ⟨g_39, h⟩ := gi_e h
            refine va_iald hx hb hK.1 hP 7 0 rfl rfl g_39 dX1_putInOrder_39 ?_
            refine lv_iload_n hx hb dX1_putInOrder_40 rfl (lv_at hl 1 rfl) ?_
            obtain ⟨g_41, h⟩ := gi_e h
            refine va_iast hx hb hK.1 hP hD hS 1 0 rfl rfl g_41 dX1_putInOrder_41 (fun H locs hP hD hS => ?_)
            have hP : va_P G.1 vwCl (WD G d_h d_hp d_q d_a d_rm (upd d_stateOf_2 (d_sort v1_2.toNatClampNeg).toNatClampNeg v1_2) d_kindOf d_order d_rooms d_count d_next d_says d_note d_sort d_freshSort) H := hP
            have hD : va_D A (WD G d_h d_hp d_q d_a d_rm (upd d_stateOf_2 (d_sort v1_2.toNatClampNeg).toNatClampNeg v1_2) d_kindOf d_order d_rooms d_count d_next d_says d_note d_sort d_freshSort) := hD
            exact hJ16 _  _ _ _ h hP hD hS (lv_sub hl [0, 1] rfl)
  exact hL2 n _ _  _ _ _ hT2 hP hD hS (lv_sub hl [1, 0] rfl)
abbrev rX1_copyInto : Room := { frames := 2, cells := 0, slots := 0, locals := 44 }
set_option maxHeartbeats 4000000 in
set_option maxRecDepth 100000 in
theorem c_X1_copyInto (l : Launch) (G : GG) (n : Nat) (d_h : Nat) (d_hp : Nat) (d_q : Nat → Nat) (d_a : Nat → Nat) (c_h : Nat) (c_q : Nat → Nat) (d_rm : Nat) (d_stateOf : AI) (d_kindOf : AI) (d_order : AI) (d_rooms : Int32) (d_count : Int32) (d_next : AI) (d_says : AI) (d_note : AI) (d_sort : AI) (d_freshSort : AI) (c_next : AI) (c_says : AI) (c_size : Int32)  (v2 : Int32) (sz : Nat) (c_next_z : AI) (c_says_z : AI) (c_size_z : Int32) (h : p_X1_copyInto n d_rm d_stateOf d_kindOf d_order d_count d_next d_says d_sort c_next c_says v2 = some (c_next_z, c_says_z, c_size_z)) : CV l yX1_copyInto wsX1_copyInto rX1_copyInto G [.ref d_h, .ref c_h, .int v2] ((WD G d_h d_hp d_q d_a d_rm d_stateOf d_kindOf d_order d_rooms d_count d_next d_says d_note d_sort d_freshSort) ++ (WC G c_h c_q c_next c_says c_size)) sz (fun u => (WD G d_h d_hp d_q d_a d_rm d_stateOf d_kindOf d_order d_rooms d_count d_next d_says d_note d_sort d_freshSort) ++ (WC G c_h c_q c_next_z c_says_z c_size_z)) := by
  refine enterCV (cc := cX1_copyInto) (maxL := 6) (by decide) rfl (Nat.le_of_ble_eq_true rfl) ?_
  intro p e s m args below meth c A Q hx hb hml hown hts hK hP hD hS hA hnm hret ls hl
  have hown : s.vm.findClass RX1 = some m.cls := hown
  have hf18 := hts (.fieldLink RX1 18 "DigitClaims$Draft" "order" "[I") (by decide +kernel)
  have hf31 := hts (.fieldLink RX1 31 "DigitClaims$Draft" "says" "[Z") (by decide +kernel)
  have hinX1 : ∀ w ∈ wsX10, w ∈ wsX1_copyInto := by decide +kernel
  have hl : lv_has ls 6 [(0, .ref d_h), (1, .ref c_h), (2, .int v2)] := hl
  unfold p_X1_copyInto at h
  refine lv_aload_n hx hb dX1_copyInto_0 rfl (lv_at hl 1 rfl) ?_
  refine lv_iload_n hx hb dX1_copyInto_1 rfl (lv_at hl 2 rfl) ?_
  obtain ⟨c_size_2, hc_2, h⟩ := ob1_e h
  refine k_cv (wr := WD G d_h d_hp d_q d_a d_rm d_stateOf d_kindOf d_order d_rooms d_count d_next d_says d_note d_sort d_freshSort) (va_runV (As := [.int v2]) (rest := []) ⟨hx, hb, hml, hown, hts⟩ (c_X0_begin l G c_h c_q c_next c_says c_size  v2 _ c_size_2 hc_2) (cwV 1 hts gX1_copyInto_X0_begin rfl rfl rfl ⟨rfl, eX0_begin⟩ ⟨Nat.le_of_ble_eq_true rfl, Nat.le_of_ble_eq_true rfl⟩) (preWV (ci := 0) (q0 := 0) hK (hP.sub (ws' := WC G c_h c_q c_next c_says c_size) [9, 10, 11] rfl) (hD.sub (ws' := WC G c_h c_q c_next c_says c_size) [9, 10, 11] (by decide) rfl) rfl rfl) rfl rfl hl.1 rfl (lv_room (Nat.le_of_ble_eq_true rfl)) dX1_copyInto_2 ⟨Nat.le_of_ble_eq_true rfl, Nat.le_of_ble_eq_true rfl⟩) hP hD hS hA [9, 10, 11] [0, 1, 2, 3, 4, 5, 6, 7, 8] rfl rfl (by decide) (by decide) (fun u_2 H locs hP hD hS => ?_)
  have hP := hP.sub (ws' := (WD G d_h d_hp d_q d_a d_rm d_stateOf d_kindOf d_order d_rooms d_count d_next d_says d_note d_sort d_freshSort) ++ (WC G c_h c_q c_next c_says c_size_2)) [0, 1, 2, 3, 4, 5, 6, 7, 8, 9, 10, 11] rfl
  have hD := hD.sub (ws' := (WD G d_h d_hp d_q d_a d_rm d_stateOf d_kindOf d_order d_rooms d_count d_next d_says d_note d_sort d_freshSort) ++ (WC G c_h c_q c_next c_says c_size_2)) [0, 1, 2, 3, 4, 5, 6, 7, 8, 9, 10, 11] (by decide) rfl
  refine lv_iconst (v := 0) hx hb dX1_copyInto_5 (by decide) ?_
  refine lv_istore_n (lv' := [(3, .int (0 : Int32)), (0, .ref d_h), (1, .ref c_h), (2, .int v2)]) hx hb dX1_copyInto_6 rfl hl (by decide) rfl (fun ls hl => ?_)
  obtain ⟨c_next_o7, c_says_o7, hT7, h⟩ := ob2_e h
  have hX7 : ∀ (c_next_o7x : AI) (c_says_o7x : AI)  (H : Heap) (locs : List Loc) (ls : Array Slot), some (c_next_o7x, c_says_o7x) = some (c_next_o7, c_says_o7) → va_P G.1 vwCl ((WD G d_h d_hp d_q d_a d_rm d_stateOf d_kindOf d_order d_rooms d_count d_next d_says d_note d_sort d_freshSort) ++ (WC G c_h c_q c_next_o7x c_says_o7x c_size_2)) H → va_D A ((WD G d_h d_hp d_q d_a d_rm d_stateOf d_kindOf d_order d_rooms d_count d_next d_says d_note d_sort d_freshSort) ++ (WC G c_h c_q c_next_o7x c_says_o7x c_size_2)) → va_S A s.heap H locs → lv_has ls 6 [] → W p l e rX1_copyInto s m args below meth c H locs 0 0 Q (F0 m 100 ls []) := by
    intro c_next_o7x c_says_o7x H locs ls hq hP hD hS hl
    obtain ⟨rfl, rfl⟩ := oi2 hq
    obtain ⟨rfl, rfl, rfl⟩ := oi3 h
    exact hret (fun _ => 0) _ _ _ _ _ _ dX1_copyInto_100 hP hD hS (Nat.le_of_ble_eq_true rfl) (Nat.le_of_ble_eq_true rfl)
  have hL7 : ∀ (f : Nat) (v3_7 : Int32) (c_next_7 : AI) (c_says_7 : AI)  (H : Heap) (locs : List Loc) (ls : Array Slot), p_X1_copyInto_L7 n v2 d_stateOf d_order d_count d_rm d_says c_size_2 d_next d_sort d_kindOf f v3_7 c_next_7 c_says_7 = some (c_next_o7, c_says_o7) → va_P G.1 vwCl ((WD G d_h d_hp d_q d_a d_rm d_stateOf d_kindOf d_order d_rooms d_count d_next d_says d_note d_sort d_freshSort) ++ (WC G c_h c_q c_next_7 c_says_7 c_size_2)) H → va_D A ((WD G d_h d_hp d_q d_a d_rm d_stateOf d_kindOf d_order d_rooms d_count d_next d_says d_note d_sort d_freshSort) ++ (WC G c_h c_q c_next_7 c_says_7 c_size_2)) → va_S A s.heap H locs → lv_has ls 6 [(0, .ref d_h), (1, .ref c_h), (2, .int v2), (3, .int v3_7)] → W p l e rX1_copyInto s m args below meth c H locs 0 0 Q (F0 m 7 ls []) := by
    intro f
    induction f with
    | zero => intro v3_7 c_next_7 c_says_7 H locs ls h hP hD hS hl; cases (show none = some _ from h)
    | succ f ih =>
      intro v3_7 c_next_7 c_says_7 H locs ls h hP hD hS hl
      rw [p_X1_copyInto_L7] at h
      refine lv_iload_n hx hb dX1_copyInto_7 rfl (lv_at hl 3 rfl) ?_
      refine lv_iload_n hx hb dX1_copyInto_8 rfl (lv_at hl 2 rfl) ?_
      refine lv_icmp_ge (tgt := 100) hx hb dX1_copyInto_9 (by decide) (fun c_9 => ?_) (fun c_9 => ?_)
      · replace h := (if_pos c_9).symm.trans h
        exact hX7 _ _  _ _ _ h hP hD hS (lv_sub hl [] rfl)
      · replace h := (if_neg c_9).symm.trans h
        refine lv_iload_n hx hb dX1_copyInto_12 rfl (lv_at hl 3 rfl) ?_
        refine lv_bipush (v := 60) hx hb dX1_copyInto_13 (by decide) ?_
        refine lv_icmp_ge (tgt := 100) hx hb dX1_copyInto_15 (by decide) (fun c_15 => ?_) (fun c_15 => ?_)
        · replace h := (if_pos c_15).symm.trans h
          exact hX7 _ _  _ _ _ h hP hD hS (lv_sub hl [] rfl)
        · replace h := (if_neg c_15).symm.trans h
          refine lv_aload_n hx hb dX1_copyInto_18 rfl (lv_at hl 0 rfl) ?_
          refine lv_aload_n hx hb dX1_copyInto_19 rfl (lv_at hl 0 rfl) ?_
          refine va_get (D := G.1) (ci := 1) (v := .ref (d_q 2)) (C := RX1) (T := TX1) (N := 11) hx hb hts hinX1 hown hK.1 hP 0 rfl rfl 3 (by decide) hf18 (fun _ h9 => h9) rfl dX1_copyInto_20 ?_
          refine lv_iload_n hx hb dX1_copyInto_23 rfl (lv_at hl 3 rfl) ?_
          obtain ⟨g_24, h⟩ := gi_e h
          refine va_iald hx hb hK.1 hP 3 0 rfl rfl g_24 dX1_copyInto_24 ?_
          obtain ⟨r_25, hc_25, h⟩ := ob1_e h
          refine k_si (va_runV (As := [.int (d_order v3_7.toNatClampNeg)]) (rest := []) ⟨hx, hb, hml, hown, hts⟩ (c_X1_stateOfSort l G d_h d_hp d_q d_a d_rm d_stateOf d_kindOf d_order d_rooms d_count d_next d_says d_note d_sort d_freshSort  (d_order v3_7.toNatClampNeg) r_25 hc_25) (cwV 1 hts gX1_copyInto_X1_stateOfSort rfl rfl rfl ⟨rfl, eX1_stateOfSort⟩ ⟨Nat.le_of_ble_eq_true rfl, Nat.le_of_ble_eq_true rfl⟩) (preSV (ci := 1) (q0 := 0) hK (hP.sub (ws' := WD G d_h d_hp d_q d_a d_rm d_stateOf d_kindOf d_order d_rooms d_count d_next d_says d_note d_sort d_freshSort) [0, 1, 2, 3, 4, 5, 6, 7, 8] rfl) rfl rfl) rfl rfl hl.1 rfl (lv_room (Nat.le_of_ble_eq_true rfl)) dX1_copyInto_25 ⟨Nat.le_of_ble_eq_true rfl, Nat.le_of_ble_eq_true rfl⟩) ?_
          refine lv_istore (lv' := [(4, .int r_25), (0, .ref d_h), (1, .ref c_h), (2, .int v2), (3, .int v3_7)]) hx hb dX1_copyInto_28 hl (by decide) rfl (fun ls hl => ?_)
          refine lv_aload_n hx hb dX1_copyInto_30 rfl (lv_at hl 2 rfl) ?_
          refine lv_iload_n hx hb dX1_copyInto_31 rfl (lv_at hl 4 rfl) ?_
          refine lv_aload_n hx hb dX1_copyInto_32 rfl (lv_at hl 1 rfl) ?_
          refine lv_iload hx hb dX1_copyInto_33 (lv_at hl 0 rfl) ?_
          obtain ⟨r_35, hc_35, h⟩ := ob1_e h
          refine k_si (va_runV (As := [.int r_25]) (rest := [.int v3_7, .ref c_h]) ⟨hx, hb, hml, hown, hts⟩ (c_X1_isState l G d_h d_hp d_q d_a d_rm d_stateOf d_kindOf d_order d_rooms d_count d_next d_says d_note d_sort d_freshSort  r_25 r_35 hc_35) (cwV 1 hts gX1_copyInto_X1_isState rfl rfl rfl ⟨rfl, eX1_isState⟩ ⟨Nat.le_of_ble_eq_true rfl, Nat.le_of_ble_eq_true rfl⟩) (preSV (ci := 1) (q0 := 0) hK (hP.sub (ws' := WD G d_h d_hp d_q d_a d_rm d_stateOf d_kindOf d_order d_rooms d_count d_next d_says d_note d_sort d_freshSort) [0, 1, 2, 3, 4, 5, 6, 7, 8] rfl) rfl rfl) rfl rfl hl.1 rfl (lv_room (Nat.le_of_ble_eq_true rfl)) dX1_copyInto_35 ⟨Nat.le_of_ble_eq_true rfl, Nat.le_of_ble_eq_true rfl⟩) ?_
          obtain ⟨j0_38, hT38, h⟩ := ob1_e h
          have hJ38 : ∀ (j0_38x : Int32)  (H : Heap) (locs : List Loc) (ls : Array Slot), some j0_38x = some j0_38 → va_P G.1 vwCl ((WD G d_h d_hp d_q d_a d_rm d_stateOf d_kindOf d_order d_rooms d_count d_next d_says d_note d_sort d_freshSort) ++ (WC G c_h c_q c_next_7 c_says_7 c_size_2)) H → va_D A ((WD G d_h d_hp d_q d_a d_rm d_stateOf d_kindOf d_order d_rooms d_count d_next d_says d_note d_sort d_freshSort) ++ (WC G c_h c_q c_next_7 c_says_7 c_size_2)) → va_S A s.heap H locs → lv_has ls 6 [(0, .ref d_h), (1, .ref c_h), (2, .int v2), (3, .int v3_7), (4, .int r_25)] → W p l e rX1_copyInto s m args below meth c H locs 0 0 Q (F0 m 56 ls [.int j0_38x, .int v3_7, .ref c_h]) := by
            intro j0_38x H locs ls hq hP hD hS hl
            obtain rfl := oi1 hq
            obtain ⟨c_says_56, hc_56, h⟩ := ob1_e h
            refine k_cv (wr := WD G d_h d_hp d_q d_a d_rm d_stateOf d_kindOf d_order d_rooms d_count d_next d_says d_note d_sort d_freshSort) (va_runV (As := [.int v3_7, .int j0_38]) (rest := []) ⟨hx, hb, hml, hown, hts⟩ (c_X0_writeSays l G c_h c_q c_next_7 c_says_7 c_size_2  v3_7 j0_38 _ c_says_56 hc_56) (cwV 2 hts gX1_copyInto_X0_writeSays rfl rfl rfl ⟨rfl, eX0_writeSays⟩ ⟨Nat.le_of_ble_eq_true rfl, Nat.le_of_ble_eq_true rfl⟩) (preWV (ci := 0) (q0 := 0) hK (hP.sub (ws' := WC G c_h c_q c_next_7 c_says_7 c_size_2) [9, 10, 11] rfl) (hD.sub (ws' := WC G c_h c_q c_next_7 c_says_7 c_size_2) [9, 10, 11] (by decide) rfl) rfl rfl) rfl rfl hl.1 rfl (lv_room (Nat.le_of_ble_eq_true rfl)) dX1_copyInto_56 ⟨Nat.le_of_ble_eq_true rfl, Nat.le_of_ble_eq_true rfl⟩) hP hD hS hA [9, 10, 11] [0, 1, 2, 3, 4, 5, 6, 7, 8] rfl rfl (by decide) (by decide) (fun u_56 H locs hP hD hS => ?_)
            have hP := hP.sub (ws' := (WD G d_h d_hp d_q d_a d_rm d_stateOf d_kindOf d_order d_rooms d_count d_next d_says d_note d_sort d_freshSort) ++ (WC G c_h c_q c_next_7 c_says_56 c_size_2)) [0, 1, 2, 3, 4, 5, 6, 7, 8, 9, 10, 11] rfl
            have hD := hD.sub (ws' := (WD G d_h d_hp d_q d_a d_rm d_stateOf d_kindOf d_order d_rooms d_count d_next d_says d_note d_sort d_freshSort) ++ (WC G c_h c_q c_next_7 c_says_56 c_size_2)) [0, 1, 2, 3, 4, 5, 6, 7, 8, 9, 10, 11] (by decide) rfl
            refine lv_iconst (v := 0) hx hb dX1_copyInto_59 (by decide) ?_
            refine lv_istore (lv' := [(5, .int (0 : Int32)), (0, .ref d_h), (1, .ref c_h), (2, .int v2), (3, .int v3_7), (4, .int r_25)]) hx hb dX1_copyInto_60 hl (by decide) rfl (fun ls hl => ?_)
            obtain ⟨c_next_o62, hT62, h⟩ := ob1_e h
            have hX62 : ∀ (c_next_o62x : AI)  (H : Heap) (locs : List Loc) (ls : Array Slot), some c_next_o62x = some c_next_o62 → va_P G.1 vwCl ((WD G d_h d_hp d_q d_a d_rm d_stateOf d_kindOf d_order d_rooms d_count d_next d_says d_note d_sort d_freshSort) ++ (WC G c_h c_q c_next_o62x c_says_56 c_size_2)) H → va_D A ((WD G d_h d_hp d_q d_a d_rm d_stateOf d_kindOf d_order d_rooms d_count d_next d_says d_note d_sort d_freshSort) ++ (WC G c_h c_q c_next_o62x c_says_56 c_size_2)) → va_S A s.heap H locs → lv_has ls 6 [(0, .ref d_h), (1, .ref c_h), (2, .int v2), (3, .int v3_7)] → W p l e rX1_copyInto s m args below meth c H locs 0 0 Q (F0 m 94 ls []) := by
              intro c_next_o62x H locs ls hq hP hD hS hl
              obtain rfl := oi1 hq
              refine lv_iinc (v := (v3_7 + (1 : Int32))) (lv' := [(3, .int (v3_7 + (1 : Int32))), (0, .ref d_h), (1, .ref c_h), (2, .int v2)]) hx hb dX1_copyInto_94 hl (k := 3) rfl rfl (by decide) rfl (fun ls hl => ?_)
              refine lv_goto (tgt := 7) hx hb dX1_copyInto_97 (by decide) ?_
              exact ih _ _ _  _ _ _ h hP hD hS (lv_sub hl [1, 2, 3, 0] rfl)
            have hL62 : ∀ (f : Nat) (v5_62 : Int32) (c_next_62 : AI)  (H : Heap) (locs : List Loc) (ls : Array Slot), p_X1_copyInto_L62 d_rm d_count d_next d_sort r_25 d_kindOf c_size_2 v3_7 f v5_62 c_next_62 = some c_next_o62 → va_P G.1 vwCl ((WD G d_h d_hp d_q d_a d_rm d_stateOf d_kindOf d_order d_rooms d_count d_next d_says d_note d_sort d_freshSort) ++ (WC G c_h c_q c_next_62 c_says_56 c_size_2)) H → va_D A ((WD G d_h d_hp d_q d_a d_rm d_stateOf d_kindOf d_order d_rooms d_count d_next d_says d_note d_sort d_freshSort) ++ (WC G c_h c_q c_next_62 c_says_56 c_size_2)) → va_S A s.heap H locs → lv_has ls 6 [(0, .ref d_h), (1, .ref c_h), (2, .int v2), (3, .int v3_7), (4, .int r_25), (5, .int v5_62)] → W p l e rX1_copyInto s m args below meth c H locs 0 0 Q (F0 m 62 ls []) := by
              intro f
              induction f with
              | zero => intro v5_62 c_next_62 H locs ls h hP hD hS hl; cases (show none = some _ from h)
              | succ f ih =>
                intro v5_62 c_next_62 H locs ls h hP hD hS hl
                rw [p_X1_copyInto_L62] at h
                refine lv_iload hx hb dX1_copyInto_62 (lv_at hl 5 rfl) ?_
                refine lv_bipush (v := 8) hx hb dX1_copyInto_64 (by decide) ?_
                refine lv_icmp_ge (tgt := 94) hx hb dX1_copyInto_66 (by decide) (fun c_66 => ?_) (fun c_66 => ?_)
                · replace h := (if_pos c_66).symm.trans h
                  exact hX62 _  _ _ _ h hP hD hS (lv_sub hl [0, 1, 2, 3] rfl)
                · replace h := (if_neg c_66).symm.trans h
                  refine lv_aload_n hx hb dX1_copyInto_69 rfl (lv_at hl 1 rfl) ?_
                  refine lv_iload_n hx hb dX1_copyInto_70 rfl (lv_at hl 3 rfl) ?_
                  refine lv_iload hx hb dX1_copyInto_71 (lv_at hl 5 rfl) ?_
                  refine lv_aload_n hx hb dX1_copyInto_73 rfl (lv_at hl 0 rfl) ?_
                  refine lv_aload_n hx hb dX1_copyInto_74 rfl (lv_at hl 0 rfl) ?_
                  refine lv_iload hx hb dX1_copyInto_75 (lv_at hl 4 rfl) ?_
                  refine lv_iload hx hb dX1_copyInto_77 (lv_at hl 5 rfl) ?_
                  obtain ⟨r_79, hc_79, h⟩ := ob1_e h
                  refine k_si (va_runV (As := [.int r_25, .int v5_62]) (rest := [.ref d_h, .int v5_62, .int v3_7, .ref c_h]) ⟨hx, hb, hml, hown, hts⟩ (c_X1_sortAfter l G d_h d_hp d_q d_a d_rm d_stateOf d_kindOf d_order d_rooms d_count d_next d_says d_note d_sort d_freshSort  r_25 v5_62 r_79 hc_79) (cwV 2 hts gX1_copyInto_X1_sortAfter rfl rfl rfl ⟨rfl, eX1_sortAfter⟩ ⟨Nat.le_of_ble_eq_true rfl, Nat.le_of_ble_eq_true rfl⟩) (preSV (ci := 1) (q0 := 0) hK (hP.sub (ws' := WD G d_h d_hp d_q d_a d_rm d_stateOf d_kindOf d_order d_rooms d_count d_next d_says d_note d_sort d_freshSort) [0, 1, 2, 3, 4, 5, 6, 7, 8] rfl) rfl rfl) rfl rfl hl.1 rfl (lv_room (Nat.le_of_ble_eq_true rfl)) dX1_copyInto_79 ⟨Nat.le_of_ble_eq_true rfl, Nat.le_of_ble_eq_true rfl⟩) ?_
                  obtain ⟨r_82, hc_82, h⟩ := ob1_e h
                  refine k_si (va_runV (As := [.int r_79]) (rest := [.int v5_62, .int v3_7, .ref c_h]) ⟨hx, hb, hml, hown, hts⟩ (c_X1_kindOfSort l G d_h d_hp d_q d_a d_rm d_stateOf d_kindOf d_order d_rooms d_count d_next d_says d_note d_sort d_freshSort  r_79 r_82 hc_82) (cwV 1 hts gX1_copyInto_X1_kindOfSort rfl rfl rfl ⟨rfl, eX1_kindOfSort⟩ ⟨Nat.le_of_ble_eq_true rfl, Nat.le_of_ble_eq_true rfl⟩) (preSV (ci := 1) (q0 := 0) hK (hP.sub (ws' := WD G d_h d_hp d_q d_a d_rm d_stateOf d_kindOf d_order d_rooms d_count d_next d_says d_note d_sort d_freshSort) [0, 1, 2, 3, 4, 5, 6, 7, 8] rfl) rfl rfl) rfl rfl hl.1 rfl (lv_room (Nat.le_of_ble_eq_true rfl)) dX1_copyInto_82 ⟨Nat.le_of_ble_eq_true rfl, Nat.le_of_ble_eq_true rfl⟩) ?_
                  obtain ⟨c_next_85, hc_85, h⟩ := ob1_e h
                  refine k_cv (wr := WD G d_h d_hp d_q d_a d_rm d_stateOf d_kindOf d_order d_rooms d_count d_next d_says d_note d_sort d_freshSort) (va_runV (As := [.int v3_7, .int v5_62, .int r_82]) (rest := []) ⟨hx, hb, hml, hown, hts⟩ (c_X0_write l G c_h c_q c_next_62 c_says_56 c_size_2  v3_7 v5_62 r_82 _ c_next_85 hc_85) (cwV 3 hts gX1_copyInto_X0_write rfl rfl rfl ⟨rfl, eX0_write⟩ ⟨Nat.le_of_ble_eq_true rfl, Nat.le_of_ble_eq_true rfl⟩) (preWV (ci := 0) (q0 := 0) hK (hP.sub (ws' := WC G c_h c_q c_next_62 c_says_56 c_size_2) [9, 10, 11] rfl) (hD.sub (ws' := WC G c_h c_q c_next_62 c_says_56 c_size_2) [9, 10, 11] (by decide) rfl) rfl rfl) rfl rfl hl.1 rfl (lv_room (Nat.le_of_ble_eq_true rfl)) dX1_copyInto_85 ⟨Nat.le_of_ble_eq_true rfl, Nat.le_of_ble_eq_true rfl⟩) hP hD hS hA [9, 10, 11] [0, 1, 2, 3, 4, 5, 6, 7, 8] rfl rfl (by decide) (by decide) (fun u_85 H locs hP hD hS => ?_)
                  have hP := hP.sub (ws' := (WD G d_h d_hp d_q d_a d_rm d_stateOf d_kindOf d_order d_rooms d_count d_next d_says d_note d_sort d_freshSort) ++ (WC G c_h c_q c_next_85 c_says_56 c_size_2)) [0, 1, 2, 3, 4, 5, 6, 7, 8, 9, 10, 11] rfl
                  have hD := hD.sub (ws' := (WD G d_h d_hp d_q d_a d_rm d_stateOf d_kindOf d_order d_rooms d_count d_next d_says d_note d_sort d_freshSort) ++ (WC G c_h c_q c_next_85 c_says_56 c_size_2)) [0, 1, 2, 3, 4, 5, 6, 7, 8, 9, 10, 11] (by decide) rfl
                  refine lv_iinc (v := (v5_62 + (1 : Int32))) (lv' := [(5, .int (v5_62 + (1 : Int32))), (0, .ref d_h), (1, .ref c_h), (2, .int v2), (3, .int v3_7), (4, .int r_25)]) hx hb dX1_copyInto_88 hl (k := 5) rfl rfl (by decide) rfl (fun ls hl => ?_)
                  refine lv_goto (tgt := 62) hx hb dX1_copyInto_91 (by decide) ?_
                  exact ih _ _  _ _ _ h hP hD hS (lv_sub hl [1, 2, 3, 4, 5, 0] rfl)
            exact hL62 n _ _  _ _ _ hT62 hP hD hS (lv_sub hl [1, 2, 3, 4, 5, 0] rfl)
          replace h := hT38
          refine lv_if_eq (tgt := 55) hx hb dX1_copyInto_38 (by decide) (fun c_38 => ?_) (fun c_38 => ?_)
          · replace h := (if_pos c_38).symm.trans h
            refine lv_iconst (v := 0) hx hb dX1_copyInto_55 (by decide) ?_
            exact hJ38 _  _ _ _ h hP hD hS (lv_sub hl [1, 2, 3, 4, 0] rfl)
          · replace h := (if_neg c_38).symm.trans h
            refine lv_aload_n hx hb dX1_copyInto_41 rfl (lv_at hl 1 rfl) ?_
            refine va_get (D := G.1) (ci := 1) (v := .ref (d_a 1)) (C := RX1) (T := TX1) (N := 11) hx hb hts hinX1 hown hK.1 hP 0 rfl rfl 7 (by decide) hf31 (fun _ h9 => h9) rfl dX1_copyInto_42 ?_
            refine lv_iload hx hb dX1_copyInto_45 (lv_at hl 0 rfl) ?_
            obtain ⟨g_47, h⟩ := gi_e h
            refine va_zald hx hb hK.1 hP 5 1 rfl rfl g_47 dX1_copyInto_47 ?_
            refine lv_if_eq (tgt := 55) hx hb dX1_copyInto_48 (by decide) (fun c_48 => ?_) (fun c_48 => ?_)
            · replace h := (if_pos c_48).symm.trans h
              refine lv_iconst (v := 0) hx hb dX1_copyInto_55 (by decide) ?_
              exact hJ38 _  _ _ _ h hP hD hS (lv_sub hl [1, 2, 3, 4, 0] rfl)
            · replace h := (if_neg c_48).symm.trans h
              refine lv_iconst (v := 1) hx hb dX1_copyInto_51 (by decide) ?_
              refine lv_goto (tgt := 56) hx hb dX1_copyInto_52 (by decide) ?_
              exact hJ38 _  _ _ _ h hP hD hS (lv_sub hl [1, 2, 3, 4, 0] rfl)
  exact hL7 n _ _ _  _ _ _ hT7 hP hD hS (lv_sub hl [1, 2, 3, 0] rfl)
abbrev rX1_reduceInto : Room := { frames := 4, cells := 0, slots := 0, locals := 89 }
set_option maxHeartbeats 4000000 in
set_option maxRecDepth 100000 in
theorem c_X1_reduceInto (l : Launch) (G : GG) (n : Nat) (d_h : Nat) (d_hp : Nat) (d_q : Nat → Nat) (d_a : Nat → Nat) (p_q : Nat → Nat) (c_h : Nat) (c_q : Nat → Nat) (d_rm : Nat) (d_stateOf : AI) (d_kindOf : AI) (d_order : AI) (d_rooms : Int32) (d_count : Int32) (d_next : AI) (d_says : AI) (d_note : AI) (d_sort : AI) (d_freshSort : AI) (p_table : AI) (p_turn : Int32) (p_count : Int32) (c_next : AI) (c_says : AI) (c_size : Int32)   (sz : Nat) (r : Int32) (d_stateOf_z : AI) (d_kindOf_z : AI) (d_order_z : AI) (d_sort_z : AI) (d_freshSort_z : AI) (p_table_z : AI) (p_turn_z : Int32) (p_count_z : Int32) (c_next_z : AI) (c_says_z : AI) (c_size_z : Int32) (h : p_X1_reduceInto n d_rm d_stateOf d_kindOf d_order d_count d_next d_says d_sort d_freshSort p_table p_turn c_next c_says c_size = some (r, d_stateOf_z, d_kindOf_z, d_order_z, d_sort_z, d_freshSort_z, p_table_z, p_turn_z, p_count_z, c_next_z, c_says_z, c_size_z)) : CI l yX1_reduceInto wsX1_reduceInto rX1_reduceInto G [.ref d_h, .ref c_h] ((WD G d_h d_hp d_q d_a d_rm d_stateOf d_kindOf d_order d_rooms d_count d_next d_says d_note d_sort d_freshSort) ++ (WP G d_hp p_q p_table p_turn p_count) ++ (WC G c_h c_q c_next c_says c_size)) sz r (fun u => (WD G d_h d_hp d_q u d_rm d_stateOf_z d_kindOf_z d_order_z d_rooms d_count d_next d_says d_note d_sort_z d_freshSort_z) ++ (WP G d_hp p_q p_table_z p_turn_z p_count_z) ++ (WC G c_h c_q c_next_z c_says_z c_size_z)) := by
  refine enterCI (cc := cX1_reduceInto) (maxL := 3) (by decide) rfl (Nat.le_of_ble_eq_true rfl) ?_
  intro p e s m args below meth c A Q hx hb hml hown hts hK hP hD hS hA hret ls hl
  have hown : s.vm.findClass RX1 = some m.cls := hown
  have hl : lv_has ls 3 [(0, .ref d_h), (1, .ref c_h)] := hl
  unfold p_X1_reduceInto at h
  refine lv_aload_n hx hb dX1_reduceInto_0 rfl (lv_at hl 0 rfl) ?_
  obtain ⟨r_1, d_sort_1, d_freshSort_1, p_table_1, p_turn_1, p_count_1, hc_1, h⟩ := ob6_e h
  refine k_ci (wr := WC G c_h c_q c_next c_says c_size) (va_runV (As := []) (rest := []) ⟨hx, hb, hml, hown, hts⟩ (c_X1_tellApart l G n d_h d_hp d_q d_a p_q d_rm d_stateOf d_kindOf d_order d_rooms d_count d_next d_says d_note d_sort d_freshSort p_table p_turn p_count   _ r_1 d_sort_1 d_freshSort_1 p_table_1 p_turn_1 p_count_1 hc_1) (cwV 0 hts gX1_reduceInto_X1_tellApart rfl rfl rfl ⟨rfl, eX1_tellApart⟩ ⟨Nat.le_of_ble_eq_true rfl, Nat.le_of_ble_eq_true rfl⟩) (preWV (ci := 1) (q0 := 0) hK (hP.sub (ws' := (WD G d_h d_hp d_q d_a d_rm d_stateOf d_kindOf d_order d_rooms d_count d_next d_says d_note d_sort d_freshSort) ++ (WP G d_hp p_q p_table p_turn p_count)) [0, 1, 2, 3, 4, 5, 6, 7, 8, 9, 10] rfl) (hD.sub (ws' := (WD G d_h d_hp d_q d_a d_rm d_stateOf d_kindOf d_order d_rooms d_count d_next d_says d_note d_sort d_freshSort) ++ (WP G d_hp p_q p_table p_turn p_count)) [0, 1, 2, 3, 4, 5, 6, 7, 8, 9, 10] (by decide) rfl) rfl rfl) rfl rfl hl.1 rfl (lv_room (Nat.le_of_ble_eq_true rfl)) dX1_reduceInto_1 ⟨Nat.le_of_ble_eq_true rfl, Nat.le_of_ble_eq_true rfl⟩) hP hD hS hA [0, 1, 2, 3, 4, 5, 6, 7, 8, 9, 10] [11, 12, 13] rfl rfl (by decide) (by decide) (fun u_1 H locs hP hD hS => ?_)
  have hP := hP.sub (ws' := (WD G d_h d_hp d_q u_1 d_rm d_stateOf d_kindOf d_order d_rooms d_count d_next d_says d_note d_sort_1 d_freshSort_1) ++ (WP G d_hp p_q p_table_1 p_turn_1 p_count_1) ++ (WC G c_h c_q c_next c_says c_size)) [3, 4, 5, 6, 7, 8, 9, 10, 11, 12, 13, 0, 1, 2] rfl
  have hD := hD.sub (ws' := (WD G d_h d_hp d_q u_1 d_rm d_stateOf d_kindOf d_order d_rooms d_count d_next d_says d_note d_sort_1 d_freshSort_1) ++ (WP G d_hp p_q p_table_1 p_turn_1 p_count_1) ++ (WC G c_h c_q c_next c_says c_size)) [3, 4, 5, 6, 7, 8, 9, 10, 11, 12, 13, 0, 1, 2] (by decide) rfl
  refine lv_if_ne (tgt := 10) hx hb dX1_reduceInto_4 (by decide) (fun c_4 => ?_) (fun c_4 => ?_)
  · replace h := (if_neg c_4).symm.trans h
    refine lv_aload_n hx hb dX1_reduceInto_10 rfl (lv_at hl 0 rfl) ?_
    obtain ⟨r_11, d_stateOf_11, d_kindOf_11, d_order_11, hc_11, h⟩ := ob4_e h
    refine k_ci (wr := (WP G d_hp p_q p_table_1 p_turn_1 p_count_1) ++ (WC G c_h c_q c_next c_says c_size)) (va_runV (As := []) (rest := []) ⟨hx, hb, hml, hown, hts⟩ (c_X1_putInOrder l G n d_h d_hp d_q u_1 d_rm d_stateOf d_kindOf d_order d_rooms d_count d_next d_says d_note d_sort_1 d_freshSort_1   _ r_11 d_stateOf_11 d_kindOf_11 d_order_11 hc_11) (cwV 0 hts gX1_reduceInto_X1_putInOrder rfl rfl rfl ⟨rfl, eX1_putInOrder⟩ ⟨Nat.le_of_ble_eq_true rfl, Nat.le_of_ble_eq_true rfl⟩) (preWV (ci := 1) (q0 := 0) hK (hP.sub (ws' := WD G d_h d_hp d_q u_1 d_rm d_stateOf d_kindOf d_order d_rooms d_count d_next d_says d_note d_sort_1 d_freshSort_1) [0, 1, 2, 3, 4, 5, 6, 7, 8] rfl) (hD.sub (ws' := WD G d_h d_hp d_q u_1 d_rm d_stateOf d_kindOf d_order d_rooms d_count d_next d_says d_note d_sort_1 d_freshSort_1) [0, 1, 2, 3, 4, 5, 6, 7, 8] (by decide) rfl) rfl rfl) rfl rfl hl.1 rfl (lv_room (Nat.le_of_ble_eq_true rfl)) dX1_reduceInto_11 ⟨Nat.le_of_ble_eq_true rfl, Nat.le_of_ble_eq_true rfl⟩) hP hD hS hA [0, 1, 2, 3, 4, 5, 6, 7, 8] [9, 10, 11, 12, 13] rfl rfl (by decide) (by decide) (fun u_11 H locs hP hD hS => ?_)
    have hP := hP.sub (ws' := (WD G d_h d_hp d_q u_1 d_rm d_stateOf_11 d_kindOf_11 d_order_11 d_rooms d_count d_next d_says d_note d_sort_1 d_freshSort_1) ++ (WP G d_hp p_q p_table_1 p_turn_1 p_count_1) ++ (WC G c_h c_q c_next c_says c_size)) [5, 6, 7, 8, 9, 10, 11, 12, 13, 0, 1, 2, 3, 4] rfl
    have hD := hD.sub (ws' := (WD G d_h d_hp d_q u_1 d_rm d_stateOf_11 d_kindOf_11 d_order_11 d_rooms d_count d_next d_says d_note d_sort_1 d_freshSort_1) ++ (WP G d_hp p_q p_table_1 p_turn_1 p_count_1) ++ (WC G c_h c_q c_next c_says c_size)) [5, 6, 7, 8, 9, 10, 11, 12, 13, 0, 1, 2, 3, 4] (by decide) rfl
    refine lv_istore_n (lv' := [(2, .int r_11), (0, .ref d_h), (1, .ref c_h)]) hx hb dX1_reduceInto_14 rfl hl (by decide) rfl (fun ls hl => ?_)
    refine lv_aload_n hx hb dX1_reduceInto_15 rfl (lv_at hl 1 rfl) ?_
    refine lv_aload_n hx hb dX1_reduceInto_16 rfl (lv_at hl 2 rfl) ?_
    refine lv_iload_n hx hb dX1_reduceInto_17 rfl (lv_at hl 0 rfl) ?_
    obtain ⟨c_next_18, c_says_18, c_size_18, hc_18, h⟩ := ob3_e h
    refine k_cv (wr := WP G d_hp p_q p_table_1 p_turn_1 p_count_1) (va_runV (As := [.ref c_h, .int r_11]) (rest := []) ⟨hx, hb, hml, hown, hts⟩ (c_X1_copyInto l G n d_h d_hp d_q u_1 c_h c_q d_rm d_stateOf_11 d_kindOf_11 d_order_11 d_rooms d_count d_next d_says d_note d_sort_1 d_freshSort_1 c_next c_says c_size  r_11 _ c_next_18 c_says_18 c_size_18 hc_18) (cwV 2 hts gX1_reduceInto_X1_copyInto rfl rfl rfl ⟨rfl, eX1_copyInto⟩ ⟨Nat.le_of_ble_eq_true rfl, Nat.le_of_ble_eq_true rfl⟩) (preWV (ci := 1) (q0 := 0) hK (hP.sub (ws' := (WD G d_h d_hp d_q u_1 d_rm d_stateOf_11 d_kindOf_11 d_order_11 d_rooms d_count d_next d_says d_note d_sort_1 d_freshSort_1) ++ (WC G c_h c_q c_next c_says c_size)) [0, 1, 2, 3, 4, 5, 6, 7, 8, 11, 12, 13] rfl) (hD.sub (ws' := (WD G d_h d_hp d_q u_1 d_rm d_stateOf_11 d_kindOf_11 d_order_11 d_rooms d_count d_next d_says d_note d_sort_1 d_freshSort_1) ++ (WC G c_h c_q c_next c_says c_size)) [0, 1, 2, 3, 4, 5, 6, 7, 8, 11, 12, 13] (by decide) rfl) rfl rfl) rfl rfl hl.1 rfl (lv_room (Nat.le_of_ble_eq_true rfl)) dX1_reduceInto_18 ⟨Nat.le_of_ble_eq_true rfl, Nat.le_of_ble_eq_true rfl⟩) hP hD hS hA [0, 1, 2, 3, 4, 5, 6, 7, 8, 11, 12, 13] [9, 10] rfl rfl (by decide) (by decide) (fun u_18 H locs hP hD hS => ?_)
    have hP := hP.sub (ws' := (WD G d_h d_hp d_q u_1 d_rm d_stateOf_11 d_kindOf_11 d_order_11 d_rooms d_count d_next d_says d_note d_sort_1 d_freshSort_1) ++ (WP G d_hp p_q p_table_1 p_turn_1 p_count_1) ++ (WC G c_h c_q c_next_18 c_says_18 c_size_18)) [2, 3, 4, 5, 6, 7, 8, 9, 10, 0, 1, 11, 12, 13] rfl
    have hD := hD.sub (ws' := (WD G d_h d_hp d_q u_1 d_rm d_stateOf_11 d_kindOf_11 d_order_11 d_rooms d_count d_next d_says d_note d_sort_1 d_freshSort_1) ++ (WP G d_hp p_q p_table_1 p_turn_1 p_count_1) ++ (WC G c_h c_q c_next_18 c_says_18 c_size_18)) [2, 3, 4, 5, 6, 7, 8, 9, 10, 0, 1, 11, 12, 13] (by decide) rfl
    refine lv_iload_n hx hb dX1_reduceInto_21 rfl (lv_at hl 0 rfl) ?_
    obtain ⟨rfl, rfl, rfl, rfl, rfl, rfl, rfl, rfl, rfl, rfl, rfl, rfl⟩ := oi12 h
    exact hret u_1 _ _ _ _ _ _ _ dX1_reduceInto_22 rfl rfl hP hD hS (Nat.le_of_ble_eq_true rfl) (Nat.le_of_ble_eq_true rfl)
  · replace h := (if_pos c_4).symm.trans h
    refine lv_bipush (v := -6) hx hb dX1_reduceInto_7 (by decide) ?_
    obtain ⟨rfl, rfl, rfl, rfl, rfl, rfl, rfl, rfl, rfl, rfl, rfl, rfl⟩ := oi12 h
    exact hret u_1 _ _ _ _ _ _ _ dX1_reduceInto_9 rfl rfl hP hD hS (Nat.le_of_ble_eq_true rfl) (Nat.le_of_ble_eq_true rfl)
