abbrev rX4_start (ms1 : Nat) : Room := { frames := 3, cells := 5, slots := ms1, locals := 64 }
set_option maxHeartbeats 4000000 in
set_option maxRecDepth 100000 in
theorem c_X4_start (l : Launch) (G : GG) (l_h : Nat) (l_hd : Nat) (d_hp : Nat) (d_q : Nat → Nat) (d_a : Nat → Nat) (d_rm : Nat) (d_stateOf : AI) (d_kindOf : AI) (d_order : AI) (d_rooms : Int32) (d_count : Int32) (d_next : AI) (d_says : AI) (d_note : AI) (d_sort : AI) (d_freshSort : AI)  (v1 : Int32) (rmx1 : Nat) (ms1 : Nat) (hms1 : rmx1 = d_rm ∨ 12 * rmx1 ≤ ms1) (sz : Nat) (d_rm_z : Nat) (d_rooms_z : Int32) (d_count_z : Int32) (d_next_z : AI) (d_says_z : AI) (d_note_z : AI) (d_sort_z : AI) (d_freshSort_z : AI) (h : p_X4_start d_rm d_rooms d_next d_says d_note d_sort d_freshSort rmx1 v1 = some (d_rm_z, d_rooms_z, d_count_z, d_next_z, d_says_z, d_note_z, d_sort_z, d_freshSort_z)) : CV l yX4_start wsX4_start (rX4_start ms1) G [.ref l_h, .int v1] ((WL G l_h l_hd) ++ (WD G l_hd d_hp d_q d_a d_rm d_stateOf d_kindOf d_order d_rooms d_count d_next d_says d_note d_sort d_freshSort)) sz (fun u => (WL G l_h l_hd) ++ (WD G l_hd d_hp d_q u d_rm_z d_stateOf d_kindOf d_order d_rooms_z d_count_z d_next_z d_says_z d_note_z d_sort_z d_freshSort_z)) := by
  refine enterCV (cc := cX4_start) (maxL := 2) (by decide) rfl (Nat.le_of_ble_eq_true rfl) ?_
  intro p e s m args below meth c A Q hx hb hml hown hts hK hP hD hS hA hnm hret ls hl
  have hown : s.vm.findClass RX4 = some m.cls := hown
  have hf9 := hts (.fieldLink RX4 9 "DigitClaims$PlainClaims" "draft" "LDigitClaims$Draft;") (by decide +kernel)
  have hinX4 : ∀ w ∈ wsX40, w ∈ wsX4_start := by decide +kernel
  have hl : lv_has ls 2 [(0, .ref l_h), (1, .int v1)] := hl
  unfold p_X4_start at h
  refine lv_aload_n hx hb dX4_start_0 rfl (lv_at hl 0 rfl) ?_
  refine va_get (D := G.1) (ci := 4) (v := .ref l_hd) (C := RX4) (T := TX4) (N := 1) hx hb hts hinX4 hown hK.1 hP 0 rfl rfl 0 (by decide) hf9 (fun _ h9 => h9) rfl dX4_start_1 ?_
  refine lv_iload_n hx hb dX4_start_4 rfl (lv_at hl 1 rfl) ?_
  refine lv_iload_n hx hb dX4_start_5 rfl (lv_at hl 1 rfl) ?_
  obtain ⟨d_rm_6, d_rooms_6, d_count_6, d_next_6, d_says_6, d_note_6, d_sort_6, d_freshSort_6, hc_6, h⟩ := ob8_e h
  refine k_cv (wr := WL G l_h l_hd) (va_runV (As := [.int v1, .int v1]) (rest := []) ⟨hx, hb, hml, hown, hts⟩ (c_X1_begin l G l_hd d_hp d_q d_a d_rm d_stateOf d_kindOf d_order d_rooms d_count d_next d_says d_note d_sort d_freshSort  v1 v1 rmx1 ms1 hms1 _ d_rm_6 d_rooms_6 d_count_6 d_next_6 d_says_6 d_note_6 d_sort_6 d_freshSort_6 hc_6) (cwV 2 hts gX4_start_X1_begin rfl rfl rfl ⟨rfl, eX1_begin⟩ ⟨Nat.le_of_ble_eq_true rfl, Nat.le_of_ble_eq_true rfl⟩) (preWV (ci := 1) (q0 := 0) hK (hP.sub (ws' := WD G l_hd d_hp d_q d_a d_rm d_stateOf d_kindOf d_order d_rooms d_count d_next d_says d_note d_sort d_freshSort) [1, 2, 3, 4, 5, 6, 7, 8, 9] rfl) (hD.sub (ws' := WD G l_hd d_hp d_q d_a d_rm d_stateOf d_kindOf d_order d_rooms d_count d_next d_says d_note d_sort d_freshSort) [1, 2, 3, 4, 5, 6, 7, 8, 9] (by decide) rfl) rfl rfl) rfl rfl hl.1 rfl (lv_room (Nat.le_of_ble_eq_true rfl)) dX4_start_6 ⟨Nat.le_of_ble_eq_true rfl, by show 0 + (ms1) ≤ ms1; omega⟩) hP hD hS hA [1, 2, 3, 4, 5, 6, 7, 8, 9] [0] rfl rfl (by decide) (by decide) (fun u_6 H locs hP hD hS => ?_)
  have hP := hP.sub (ws' := (WL G l_h l_hd) ++ (WD G l_hd d_hp d_q u_6 d_rm_6 d_stateOf d_kindOf d_order d_rooms_6 d_count_6 d_next_6 d_says_6 d_note_6 d_sort_6 d_freshSort_6)) [0, 1, 2, 3, 4, 5, 6, 7, 8, 9] rfl
  have hD := hD.sub (ws' := (WL G l_h l_hd) ++ (WD G l_hd d_hp d_q u_6 d_rm_6 d_stateOf d_kindOf d_order d_rooms_6 d_count_6 d_next_6 d_says_6 d_note_6 d_sort_6 d_freshSort_6)) [0, 1, 2, 3, 4, 5, 6, 7, 8, 9] (by decide) rfl
  obtain ⟨rfl, rfl, rfl, rfl, rfl, rfl, rfl, rfl⟩ := oi8 h
  exact hret u_6 _ _ _ _ _ _ dX4_start_9 hP hD hS (Nat.le_of_ble_eq_true rfl) (by show 0 + (ms1) ≤ ms1; omega)
abbrev rX4_digitsOf : Room := { frames := 0, cells := 0, slots := 0, locals := 0 }
set_option maxHeartbeats 4000000 in
set_option maxRecDepth 100000 in
theorem c_X4_digitsOf (l : Launch) (G : GG) (n : Nat)    (v0 : Int32) (r : Int32) (h : p_X4_digitsOf n v0 = some r) : SI l yX4_digitsOf wsX4_digitsOf rX4_digitsOf G [.int v0] (([] : va_W)) r := by
  refine enterSI (cc := cX4_digitsOf) (maxL := 2) (by decide) rfl (Nat.le_of_ble_eq_true rfl) ?_
  intro p e s m args below meth c Q hx hb hml hown hts hK hP hret ls hl
  have hown : s.vm.findClass RX4 = some m.cls := hown
  have hl : lv_has ls 2 [(0, .int v0)] := hl
  unfold p_X4_digitsOf at h
  refine lv_iconst (v := 0) hx hb dX4_digitsOf_0 (by decide) ?_
  refine lv_istore_n (lv' := [(1, .int (0 : Int32)), (0, .int v0)]) hx hb dX4_digitsOf_1 rfl hl (by decide) rfl (fun ls hl => ?_)
  obtain ⟨o1_2, hT2, h⟩ := ob1_e h
  have hX2 : ∀ (x1_2 : Int32)  (ls : Array Slot), some x1_2 = some o1_2 → lv_has ls 2 [(1, .int x1_2)] → W p l e rX4_digitsOf s m args below meth c s.heap [] 0 0 Q (F0 m 20 ls []) := by
    intro x1_2 ls hq hl
    obtain rfl := oi1 hq
    refine lv_iload_n hx hb dX4_digitsOf_20 rfl (lv_at hl 0 rfl) ?_
    obtain rfl := oi1 h
    exact hret _ _ _ dX4_digitsOf_21 rfl rfl
  have hL2 : ∀ (f : Nat) (v1_2 : Int32)  (ls : Array Slot), p_X4_digitsOf_L2 v0 f v1_2 = some o1_2 → lv_has ls 2 [(0, .int v0), (1, .int v1_2)] → W p l e rX4_digitsOf s m args below meth c s.heap [] 0 0 Q (F0 m 2 ls []) := by
    intro f
    induction f with
    | zero => intro v1_2 ls h hl; cases (show none = some _ from h)
    | succ f ih =>
      intro v1_2 ls h hl
      rw [p_X4_digitsOf_L2] at h
      refine lv_iload_n hx hb dX4_digitsOf_2 rfl (lv_at hl 1 rfl) ?_
      refine lv_bipush (v := 20) hx hb dX4_digitsOf_3 (by decide) ?_
      refine lv_icmp_ge (tgt := 20) hx hb dX4_digitsOf_5 (by decide) (fun c_5 => ?_) (fun c_5 => ?_)
      · replace h := (if_pos c_5).symm.trans h
        exact hX2 _  _ h (lv_sub hl [1] rfl)
      · replace h := (if_neg c_5).symm.trans h
        refine lv_iload_n hx hb dX4_digitsOf_8 rfl (lv_at hl 0 rfl) ?_
        refine lv_iload_n hx hb dX4_digitsOf_9 rfl (lv_at hl 1 rfl) ?_
        refine lv_ishr hx hb dX4_digitsOf_10 ?_
        refine lv_if_eq (tgt := 20) hx hb dX4_digitsOf_11 (by decide) (fun c_11 => ?_) (fun c_11 => ?_)
        · replace h := (if_pos c_11).symm.trans h
          exact hX2 _  _ h (lv_sub hl [1] rfl)
        · replace h := (if_neg c_11).symm.trans h
          refine lv_iinc (v := (v1_2 + (1 : Int32))) (lv' := [(1, .int (v1_2 + (1 : Int32))), (0, .int v0)]) hx hb dX4_digitsOf_14 hl (k := 1) rfl rfl (by decide) rfl (fun ls hl => ?_)
          refine lv_goto (tgt := 2) hx hb dX4_digitsOf_17 (by decide) ?_
          exact ih _  _ h (lv_sub hl [1, 0] rfl)
  exact hL2 n _  _ hT2 (lv_sub hl [1, 0] rfl)
abbrev rX4_afterDigit : Room := { frames := 0, cells := 0, slots := 0, locals := 0 }
set_option maxHeartbeats 4000000 in
set_option maxRecDepth 100000 in
theorem c_X4_afterDigit (l : Launch) (G : GG)    (v0 : Int32) (v1 : Int32) (v2 : Int32) (v3 : Int32) (r : Int32) (h : p_X4_afterDigit v0 v1 v2 v3 = some r) : SI l yX4_afterDigit wsX4_afterDigit rX4_afterDigit G [.int v0, .int v1, .int v2, .int v3] (([] : va_W)) r := by
  refine enterSI (cc := cX4_afterDigit) (maxL := 5) (by decide) rfl (Nat.le_of_ble_eq_true rfl) ?_
  intro p e s m args below meth c Q hx hb hml hown hts hK hP hret ls hl
  have hown : s.vm.findClass RX4 = some m.cls := hown
  have hl : lv_has ls 5 [(0, .int v0), (1, .int v1), (2, .int v2), (3, .int v3)] := hl
  unfold p_X4_afterDigit at h
  refine lv_iload_n hx hb dX4_afterDigit_0 rfl (lv_at hl 0 rfl) ?_
  refine lv_if_ne (tgt := 10) hx hb dX4_afterDigit_1 (by decide) (fun c_1 => ?_) (fun c_1 => ?_)
  · replace h := (if_neg c_1).symm.trans h
    refine lv_iload_n hx hb dX4_afterDigit_10 rfl (lv_at hl 0 rfl) ?_
    refine lv_iload_n hx hb dX4_afterDigit_11 rfl (lv_at hl 3 rfl) ?_
    obtain ⟨j0_12, hT12, h⟩ := ob1_e h
    have hJ12 : ∀ (j0_12x : Int32)  (ls : Array Slot), some j0_12x = some j0_12 → lv_has ls 5 [(0, .int v0), (3, .int v3)] → W p l e rX4_afterDigit s m args below meth c s.heap [] 0 0 Q (F0 m 33 ls [.int j0_12x]) := by
      intro j0_12x ls hq hl
      obtain rfl := oi1 hq
      refine lv_istore (lv' := [(4, .int j0_12), (0, .int v0), (3, .int v3)]) hx hb dX4_afterDigit_33 hl (by decide) rfl (fun ls hl => ?_)
      refine lv_iload hx hb dX4_afterDigit_35 (lv_at hl 0 rfl) ?_
      refine lv_if_eq (tgt := 46) hx hb dX4_afterDigit_37 (by decide) (fun c_37 => ?_) (fun c_37 => ?_)
      · replace h := (if_pos c_37).symm.trans h
        refine lv_iload_n hx hb dX4_afterDigit_46 rfl (lv_at hl 2 rfl) ?_
        refine lv_iconst (v := 1) hx hb dX4_afterDigit_47 (by decide) ?_
        refine lv_iadd hx hb dX4_afterDigit_48 ?_
        obtain rfl := oi1 h
        exact hret _ _ _ dX4_afterDigit_49 rfl rfl
      · replace h := (if_neg c_37).symm.trans h
        refine lv_iload_n hx hb dX4_afterDigit_40 rfl (lv_at hl 1 rfl) ?_
        refine lv_iconst (v := 1) hx hb dX4_afterDigit_41 (by decide) ?_
        refine lv_iadd hx hb dX4_afterDigit_42 ?_
        refine lv_goto (tgt := 49) hx hb dX4_afterDigit_43 (by decide) ?_
        obtain rfl := oi1 h
        exact hret _ _ _ dX4_afterDigit_49 rfl rfl
    replace h := hT12
    refine lv_icmp_ge (tgt := 32) hx hb dX4_afterDigit_12 (by decide) (fun c_12 => ?_) (fun c_12 => ?_)
    · replace h := (if_pos c_12).symm.trans h
      refine lv_iconst (v := 0) hx hb dX4_afterDigit_32 (by decide) ?_
      exact hJ12 _  _ h (lv_sub hl [0, 3] rfl)
    · replace h := (if_neg c_12).symm.trans h
      refine lv_iload_n hx hb dX4_afterDigit_15 rfl (lv_at hl 2 rfl) ?_
      refine lv_iload_n hx hb dX4_afterDigit_16 rfl (lv_at hl 3 rfl) ?_
      refine lv_iconst (v := 1) hx hb dX4_afterDigit_17 (by decide) ?_
      refine lv_isub hx hb dX4_afterDigit_18 ?_
      refine lv_iload_n hx hb dX4_afterDigit_19 rfl (lv_at hl 0 rfl) ?_
      refine lv_isub hx hb dX4_afterDigit_20 ?_
      refine lv_ishr hx hb dX4_afterDigit_21 ?_
      refine lv_iconst (v := 1) hx hb dX4_afterDigit_22 (by decide) ?_
      refine lv_iand hx hb dX4_afterDigit_23 ?_
      refine lv_iload_n hx hb dX4_afterDigit_24 rfl (lv_at hl 1 rfl) ?_
      refine lv_icmp_ne (tgt := 32) hx hb dX4_afterDigit_25 (by decide) (fun c_25 => ?_) (fun c_25 => ?_)
      · replace h := (if_neg c_25).symm.trans h
        refine lv_iconst (v := 0) hx hb dX4_afterDigit_32 (by decide) ?_
        exact hJ12 _  _ h (lv_sub hl [0, 3] rfl)
      · replace h := (if_pos c_25).symm.trans h
        refine lv_iconst (v := 1) hx hb dX4_afterDigit_28 (by decide) ?_
        refine lv_goto (tgt := 33) hx hb dX4_afterDigit_29 (by decide) ?_
        exact hJ12 _  _ h (lv_sub hl [0, 3] rfl)
  · replace h := (if_pos c_1).symm.trans h
    refine lv_iload_n hx hb dX4_afterDigit_4 rfl (lv_at hl 1 rfl) ?_
    refine lv_if_ne (tgt := 10) hx hb dX4_afterDigit_5 (by decide) (fun c_5 => ?_) (fun c_5 => ?_)
    · replace h := (if_neg c_5).symm.trans h
      refine lv_iload_n hx hb dX4_afterDigit_10 rfl (lv_at hl 0 rfl) ?_
      refine lv_iload_n hx hb dX4_afterDigit_11 rfl (lv_at hl 3 rfl) ?_
      obtain ⟨j0_12, hT12, h⟩ := ob1_e h
      have hJ12 : ∀ (j0_12x : Int32)  (ls : Array Slot), some j0_12x = some j0_12 → lv_has ls 5 [(0, .int v0), (3, .int v3)] → W p l e rX4_afterDigit s m args below meth c s.heap [] 0 0 Q (F0 m 33 ls [.int j0_12x]) := by
        intro j0_12x ls hq hl
        obtain rfl := oi1 hq
        refine lv_istore (lv' := [(4, .int j0_12), (0, .int v0), (3, .int v3)]) hx hb dX4_afterDigit_33 hl (by decide) rfl (fun ls hl => ?_)
        refine lv_iload hx hb dX4_afterDigit_35 (lv_at hl 0 rfl) ?_
        refine lv_if_eq (tgt := 46) hx hb dX4_afterDigit_37 (by decide) (fun c_37 => ?_) (fun c_37 => ?_)
        · replace h := (if_pos c_37).symm.trans h
          refine lv_iload_n hx hb dX4_afterDigit_46 rfl (lv_at hl 2 rfl) ?_
          refine lv_iconst (v := 1) hx hb dX4_afterDigit_47 (by decide) ?_
          refine lv_iadd hx hb dX4_afterDigit_48 ?_
          obtain rfl := oi1 h
          exact hret _ _ _ dX4_afterDigit_49 rfl rfl
        · replace h := (if_neg c_37).symm.trans h
          refine lv_iload_n hx hb dX4_afterDigit_40 rfl (lv_at hl 1 rfl) ?_
          refine lv_iconst (v := 1) hx hb dX4_afterDigit_41 (by decide) ?_
          refine lv_iadd hx hb dX4_afterDigit_42 ?_
          refine lv_goto (tgt := 49) hx hb dX4_afterDigit_43 (by decide) ?_
          obtain rfl := oi1 h
          exact hret _ _ _ dX4_afterDigit_49 rfl rfl
      replace h := hT12
      refine lv_icmp_ge (tgt := 32) hx hb dX4_afterDigit_12 (by decide) (fun c_12 => ?_) (fun c_12 => ?_)
      · replace h := (if_pos c_12).symm.trans h
        refine lv_iconst (v := 0) hx hb dX4_afterDigit_32 (by decide) ?_
        exact hJ12 _  _ h (lv_sub hl [0, 3] rfl)
      · replace h := (if_neg c_12).symm.trans h
        refine lv_iload_n hx hb dX4_afterDigit_15 rfl (lv_at hl 2 rfl) ?_
        refine lv_iload_n hx hb dX4_afterDigit_16 rfl (lv_at hl 3 rfl) ?_
        refine lv_iconst (v := 1) hx hb dX4_afterDigit_17 (by decide) ?_
        refine lv_isub hx hb dX4_afterDigit_18 ?_
        refine lv_iload_n hx hb dX4_afterDigit_19 rfl (lv_at hl 0 rfl) ?_
        refine lv_isub hx hb dX4_afterDigit_20 ?_
        refine lv_ishr hx hb dX4_afterDigit_21 ?_
        refine lv_iconst (v := 1) hx hb dX4_afterDigit_22 (by decide) ?_
        refine lv_iand hx hb dX4_afterDigit_23 ?_
        refine lv_iload_n hx hb dX4_afterDigit_24 rfl (lv_at hl 1 rfl) ?_
        refine lv_icmp_ne (tgt := 32) hx hb dX4_afterDigit_25 (by decide) (fun c_25 => ?_) (fun c_25 => ?_)
        · replace h := (if_neg c_25).symm.trans h
          refine lv_iconst (v := 0) hx hb dX4_afterDigit_32 (by decide) ?_
          exact hJ12 _  _ h (lv_sub hl [0, 3] rfl)
        · replace h := (if_pos c_25).symm.trans h
          refine lv_iconst (v := 1) hx hb dX4_afterDigit_28 (by decide) ?_
          refine lv_goto (tgt := 33) hx hb dX4_afterDigit_29 (by decide) ?_
          exact hJ12 _  _ h (lv_sub hl [0, 3] rfl)
    · replace h := (if_pos c_5).symm.trans h
      refine lv_iconst (v := 0) hx hb dX4_afterDigit_8 (by decide) ?_
      obtain rfl := oi1 h
      exact hret _ _ _ dX4_afterDigit_9 rfl rfl
abbrev rX4_makeEqual (ms1 : Nat) : Room := { frames := 5, cells := 5, slots := ms1, locals := 111 }
set_option maxHeartbeats 4000000 in
set_option maxRecDepth 100000 in
theorem c_X4_makeEqual (l : Launch) (G : GG) (n : Nat) (l_h : Nat) (l_hd : Nat) (d_hp : Nat) (d_q : Nat → Nat) (d_a : Nat → Nat) (p_q : Nat → Nat) (c_h : Nat) (c_q : Nat → Nat) (d_rm : Nat) (d_stateOf : AI) (d_kindOf : AI) (d_order : AI) (d_rooms : Int32) (d_count : Int32) (d_next : AI) (d_says : AI) (d_note : AI) (d_sort : AI) (d_freshSort : AI) (p_table : AI) (p_turn : Int32) (p_count : Int32) (c_next : AI) (c_says : AI) (c_size : Int32)  (v2 : Int32) (v3 : Int32) (rmx1 : Nat) (ms1 : Nat) (hms1 : rmx1 = d_rm ∨ 12 * rmx1 ≤ ms1) (sz : Nat) (r : Int32) (d_rm_z : Nat) (d_stateOf_z : AI) (d_kindOf_z : AI) (d_order_z : AI) (d_rooms_z : Int32) (d_count_z : Int32) (d_next_z : AI) (d_says_z : AI) (d_note_z : AI) (d_sort_z : AI) (d_freshSort_z : AI) (p_table_z : AI) (p_turn_z : Int32) (p_count_z : Int32) (c_next_z : AI) (c_says_z : AI) (c_size_z : Int32) (h : p_X4_makeEqual n d_rm d_stateOf d_kindOf d_order d_rooms d_next d_says d_note d_sort d_freshSort p_table p_turn c_next c_says c_size rmx1 v2 v3 = some (r, d_rm_z, d_stateOf_z, d_kindOf_z, d_order_z, d_rooms_z, d_count_z, d_next_z, d_says_z, d_note_z, d_sort_z, d_freshSort_z, p_table_z, p_turn_z, p_count_z, c_next_z, c_says_z, c_size_z)) : CI l yX4_makeEqual wsX4_makeEqual (rX4_makeEqual ms1) G [.ref l_h, .ref c_h, .int v2, .int v3] ((WL G l_h l_hd) ++ (WD G l_hd d_hp d_q d_a d_rm d_stateOf d_kindOf d_order d_rooms d_count d_next d_says d_note d_sort d_freshSort) ++ (WP G d_hp p_q p_table p_turn p_count) ++ (WC G c_h c_q c_next c_says c_size)) sz r (fun u => (WL G l_h l_hd) ++ (WD G l_hd d_hp d_q u d_rm_z d_stateOf_z d_kindOf_z d_order_z d_rooms_z d_count_z d_next_z d_says_z d_note_z d_sort_z d_freshSort_z) ++ (WP G d_hp p_q p_table_z p_turn_z p_count_z) ++ (WC G c_h c_q c_next_z c_says_z c_size_z)) := by
  refine enterCI (cc := cX4_makeEqual) (maxL := 5) (by decide) rfl (Nat.le_of_ble_eq_true rfl) ?_
  intro p e s m args below meth c A Q hx hb hml hown hts hK hP hD hS hA hret ls hl
  have hown : s.vm.findClass RX4 = some m.cls := hown
  have hf9 := hts (.fieldLink RX4 9 "DigitClaims$PlainClaims" "draft" "LDigitClaims$Draft;") (by decide +kernel)
  have hinX4 : ∀ w ∈ wsX40, w ∈ wsX4_makeEqual := by decide +kernel
  have hl : lv_has ls 5 [(0, .ref l_h), (1, .ref c_h), (2, .int v2), (3, .int v3)] := hl
  unfold p_X4_makeEqual at h
  refine lv_aload_n hx hb dX4_makeEqual_0 rfl (lv_at hl 0 rfl) ?_
  refine lv_iconst (v := 2) hx hb dX4_makeEqual_1 (by decide) ?_
  obtain ⟨d_rm_2, d_rooms_2, d_count_2, d_next_2, d_says_2, d_note_2, d_sort_2, d_freshSort_2, hc_2, h⟩ := ob8_e h
  refine k_cv (wr := (WP G d_hp p_q p_table p_turn p_count) ++ (WC G c_h c_q c_next c_says c_size)) (va_runV (As := [.int (2 : Int32)]) (rest := []) ⟨hx, hb, hml, hown, hts⟩ (c_X4_start l G l_h l_hd d_hp d_q d_a d_rm d_stateOf d_kindOf d_order d_rooms d_count d_next d_says d_note d_sort d_freshSort  (2 : Int32) rmx1 ms1 hms1 _ d_rm_2 d_rooms_2 d_count_2 d_next_2 d_says_2 d_note_2 d_sort_2 d_freshSort_2 hc_2) (cwV 1 hts gX4_makeEqual_X4_start rfl rfl rfl ⟨rfl, eX4_start⟩ ⟨Nat.le_of_ble_eq_true rfl, Nat.le_of_ble_eq_true rfl⟩) (preWV (ci := 4) (q0 := 0) hK (hP.sub (ws' := (WL G l_h l_hd) ++ (WD G l_hd d_hp d_q d_a d_rm d_stateOf d_kindOf d_order d_rooms d_count d_next d_says d_note d_sort d_freshSort)) [0, 1, 2, 3, 4, 5, 6, 7, 8, 9] rfl) (hD.sub (ws' := (WL G l_h l_hd) ++ (WD G l_hd d_hp d_q d_a d_rm d_stateOf d_kindOf d_order d_rooms d_count d_next d_says d_note d_sort d_freshSort)) [0, 1, 2, 3, 4, 5, 6, 7, 8, 9] (by decide) rfl) rfl rfl) rfl rfl hl.1 rfl (lv_room (Nat.le_of_ble_eq_true rfl)) dX4_makeEqual_2 ⟨Nat.le_of_ble_eq_true rfl, by show 0 + (ms1) ≤ ms1; omega⟩) hP hD hS hA [0, 1, 2, 3, 4, 5, 6, 7, 8, 9] [10, 11, 12, 13, 14] rfl rfl (by decide) (by decide) (fun u_2 H locs hP hD hS => ?_)
  have hP := hP.sub (ws' := (WL G l_h l_hd) ++ (WD G l_hd d_hp d_q u_2 d_rm_2 d_stateOf d_kindOf d_order d_rooms_2 d_count_2 d_next_2 d_says_2 d_note_2 d_sort_2 d_freshSort_2) ++ (WP G d_hp p_q p_table p_turn p_count) ++ (WC G c_h c_q c_next c_says c_size)) [5, 6, 7, 8, 9, 10, 11, 12, 13, 14, 0, 1, 2, 3, 4] rfl
  have hD := hD.sub (ws' := (WL G l_h l_hd) ++ (WD G l_hd d_hp d_q u_2 d_rm_2 d_stateOf d_kindOf d_order d_rooms_2 d_count_2 d_next_2 d_says_2 d_note_2 d_sort_2 d_freshSort_2) ++ (WP G d_hp p_q p_table p_turn p_count) ++ (WC G c_h c_q c_next c_says c_size)) [5, 6, 7, 8, 9, 10, 11, 12, 13, 14, 0, 1, 2, 3, 4] (by decide) rfl
  refine lv_iconst (v := 0) hx hb dX4_makeEqual_5 (by decide) ?_
  refine lv_istore (lv' := [(4, .int (0 : Int32)), (0, .ref l_h), (1, .ref c_h), (2, .int v2), (3, .int v3)]) hx hb dX4_makeEqual_6 hl (by decide) rfl (fun ls hl => ?_)
  obtain ⟨d_next_o8, hT8, h⟩ := ob1_e h
  have hX8 : ∀ (d_next_o8x : AI)  (H : Heap) (locs : List Loc) (ls : Array Slot), some d_next_o8x = some d_next_o8 → va_P G.1 vwCl ((WL G l_h l_hd) ++ (WD G l_hd d_hp d_q u_2 d_rm_2 d_stateOf d_kindOf d_order d_rooms_2 d_count_2 d_next_o8x d_says_2 d_note_2 d_sort_2 d_freshSort_2) ++ (WP G d_hp p_q p_table p_turn p_count) ++ (WC G c_h c_q c_next c_says c_size)) H → va_D A ((WL G l_h l_hd) ++ (WD G l_hd d_hp d_q u_2 d_rm_2 d_stateOf d_kindOf d_order d_rooms_2 d_count_2 d_next_o8x d_says_2 d_note_2 d_sort_2 d_freshSort_2) ++ (WP G d_hp p_q p_table p_turn p_count) ++ (WC G c_h c_q c_next c_says c_size)) → va_S A s.heap H locs → lv_has ls 5 [(0, .ref l_h), (1, .ref c_h)] → W p l e (rX4_makeEqual ms1) s m args below meth c H locs (0 + 5) (0 + (ms1)) Q (F0 m 62 ls []) := by
    intro d_next_o8x H locs ls hq hP hD hS hl
    obtain rfl := oi1 hq
    refine lv_aload_n hx hb dX4_makeEqual_62 rfl (lv_at hl 0 rfl) ?_
    refine va_get (D := G.1) (ci := 4) (v := .ref l_hd) (C := RX4) (T := TX4) (N := 1) hx hb hts hinX4 hown hK.1 hP 0 rfl rfl 0 (by decide) hf9 (fun _ h9 => h9) rfl dX4_makeEqual_63 ?_
    refine lv_iconst (v := 0) hx hb dX4_makeEqual_66 (by decide) ?_
    refine lv_iconst (v := 1) hx hb dX4_makeEqual_67 (by decide) ?_
    obtain ⟨d_says_68, hc_68, h⟩ := ob1_e h
    refine k_cv (wr := (WL G l_h l_hd) ++ (WP G d_hp p_q p_table p_turn p_count) ++ (WC G c_h c_q c_next c_says c_size)) (va_runV (As := [.int (0 : Int32), .int (1 : Int32)]) (rest := []) ⟨hx, hb, hml, hown, hts⟩ (c_X1_writeSays l G l_hd d_hp d_q u_2 d_rm_2 d_stateOf d_kindOf d_order d_rooms_2 d_count_2 d_next_o8 d_says_2 d_note_2 d_sort_2 d_freshSort_2  (0 : Int32) (1 : Int32) _ d_says_68 hc_68) (cwV 2 hts gX4_makeEqual_X1_writeSays rfl rfl rfl ⟨rfl, eX1_writeSays⟩ ⟨Nat.le_of_ble_eq_true rfl, Nat.le_of_ble_eq_true rfl⟩) (preWV (ci := 1) (q0 := 0) hK (hP.sub (ws' := WD G l_hd d_hp d_q u_2 d_rm_2 d_stateOf d_kindOf d_order d_rooms_2 d_count_2 d_next_o8 d_says_2 d_note_2 d_sort_2 d_freshSort_2) [1, 2, 3, 4, 5, 6, 7, 8, 9] rfl) (hD.sub (ws' := WD G l_hd d_hp d_q u_2 d_rm_2 d_stateOf d_kindOf d_order d_rooms_2 d_count_2 d_next_o8 d_says_2 d_note_2 d_sort_2 d_freshSort_2) [1, 2, 3, 4, 5, 6, 7, 8, 9] (by decide) rfl) rfl rfl) rfl rfl hl.1 rfl (lv_room (Nat.le_of_ble_eq_true rfl)) dX4_makeEqual_68 ⟨Nat.le_of_ble_eq_true rfl, by show 0 + (ms1) + 0 ≤ ms1; omega⟩) hP hD hS hA [1, 2, 3, 4, 5, 6, 7, 8, 9] [0, 10, 11, 12, 13, 14] rfl rfl (by decide) (by decide) (fun u_68 H locs hP hD hS => ?_)
    have hP := hP.sub (ws' := (WL G l_h l_hd) ++ (WD G l_hd d_hp d_q u_2 d_rm_2 d_stateOf d_kindOf d_order d_rooms_2 d_count_2 d_next_o8 d_says_68 d_note_2 d_sort_2 d_freshSort_2) ++ (WP G d_hp p_q p_table p_turn p_count) ++ (WC G c_h c_q c_next c_says c_size)) [0, 6, 7, 8, 9, 10, 11, 12, 13, 14, 1, 2, 3, 4, 5] rfl
    have hD := hD.sub (ws' := (WL G l_h l_hd) ++ (WD G l_hd d_hp d_q u_2 d_rm_2 d_stateOf d_kindOf d_order d_rooms_2 d_count_2 d_next_o8 d_says_68 d_note_2 d_sort_2 d_freshSort_2) ++ (WP G d_hp p_q p_table p_turn p_count) ++ (WC G c_h c_q c_next c_says c_size)) [0, 6, 7, 8, 9, 10, 11, 12, 13, 14, 1, 2, 3, 4, 5] (by decide) rfl
    refine lv_aload_n hx hb dX4_makeEqual_71 rfl (lv_at hl 0 rfl) ?_
    refine va_get (D := G.1) (ci := 4) (v := .ref l_hd) (C := RX4) (T := TX4) (N := 1) hx hb hts hinX4 hown hK.1 hP 0 rfl rfl 0 (by decide) hf9 (fun _ h9 => h9) rfl dX4_makeEqual_72 ?_
    refine lv_iconst (v := 1) hx hb dX4_makeEqual_75 (by decide) ?_
    refine lv_iconst (v := 0) hx hb dX4_makeEqual_76 (by decide) ?_
    obtain ⟨d_says_77, hc_77, h⟩ := ob1_e h
    refine k_cv (wr := (WL G l_h l_hd) ++ (WP G d_hp p_q p_table p_turn p_count) ++ (WC G c_h c_q c_next c_says c_size)) (va_runV (As := [.int (1 : Int32), .int (0 : Int32)]) (rest := []) ⟨hx, hb, hml, hown, hts⟩ (c_X1_writeSays l G l_hd d_hp d_q u_2 d_rm_2 d_stateOf d_kindOf d_order d_rooms_2 d_count_2 d_next_o8 d_says_68 d_note_2 d_sort_2 d_freshSort_2  (1 : Int32) (0 : Int32) _ d_says_77 hc_77) (cwV 2 hts gX4_makeEqual_X1_writeSays rfl rfl rfl ⟨rfl, eX1_writeSays⟩ ⟨Nat.le_of_ble_eq_true rfl, Nat.le_of_ble_eq_true rfl⟩) (preWV (ci := 1) (q0 := 0) hK (hP.sub (ws' := WD G l_hd d_hp d_q u_2 d_rm_2 d_stateOf d_kindOf d_order d_rooms_2 d_count_2 d_next_o8 d_says_68 d_note_2 d_sort_2 d_freshSort_2) [1, 2, 3, 4, 5, 6, 7, 8, 9] rfl) (hD.sub (ws' := WD G l_hd d_hp d_q u_2 d_rm_2 d_stateOf d_kindOf d_order d_rooms_2 d_count_2 d_next_o8 d_says_68 d_note_2 d_sort_2 d_freshSort_2) [1, 2, 3, 4, 5, 6, 7, 8, 9] (by decide) rfl) rfl rfl) rfl rfl hl.1 rfl (lv_room (Nat.le_of_ble_eq_true rfl)) dX4_makeEqual_77 ⟨Nat.le_of_ble_eq_true rfl, by show 0 + (ms1) + 0 ≤ ms1; omega⟩) hP hD hS hA [1, 2, 3, 4, 5, 6, 7, 8, 9] [0, 10, 11, 12, 13, 14] rfl rfl (by decide) (by decide) (fun u_77 H locs hP hD hS => ?_)
    have hP := hP.sub (ws' := (WL G l_h l_hd) ++ (WD G l_hd d_hp d_q u_2 d_rm_2 d_stateOf d_kindOf d_order d_rooms_2 d_count_2 d_next_o8 d_says_77 d_note_2 d_sort_2 d_freshSort_2) ++ (WP G d_hp p_q p_table p_turn p_count) ++ (WC G c_h c_q c_next c_says c_size)) [0, 6, 7, 8, 9, 10, 11, 12, 13, 14, 1, 2, 3, 4, 5] rfl
    have hD := hD.sub (ws' := (WL G l_h l_hd) ++ (WD G l_hd d_hp d_q u_2 d_rm_2 d_stateOf d_kindOf d_order d_rooms_2 d_count_2 d_next_o8 d_says_77 d_note_2 d_sort_2 d_freshSort_2) ++ (WP G d_hp p_q p_table p_turn p_count) ++ (WC G c_h c_q c_next c_says c_size)) [0, 6, 7, 8, 9, 10, 11, 12, 13, 14, 1, 2, 3, 4, 5] (by decide) rfl
    refine lv_aload_n hx hb dX4_makeEqual_80 rfl (lv_at hl 0 rfl) ?_
    refine va_get (D := G.1) (ci := 4) (v := .ref l_hd) (C := RX4) (T := TX4) (N := 1) hx hb hts hinX4 hown hK.1 hP 0 rfl rfl 0 (by decide) hf9 (fun _ h9 => h9) rfl dX4_makeEqual_81 ?_
    refine lv_aload_n hx hb dX4_makeEqual_84 rfl (lv_at hl 1 rfl) ?_
    obtain ⟨r_85, d_stateOf_85, d_kindOf_85, d_order_85, d_sort_85, d_freshSort_85, p_table_85, p_turn_85, p_count_85, c_next_85, c_says_85, c_size_85, hc_85, h⟩ := ob12_e h
    refine k_ci (wr := WL G l_h l_hd) (va_runV (As := [.ref c_h]) (rest := []) ⟨hx, hb, hml, hown, hts⟩ (c_X1_reduceInto l G n l_hd d_hp d_q u_2 p_q c_h c_q d_rm_2 d_stateOf d_kindOf d_order d_rooms_2 d_count_2 d_next_o8 d_says_77 d_note_2 d_sort_2 d_freshSort_2 p_table p_turn p_count c_next c_says c_size   _ r_85 d_stateOf_85 d_kindOf_85 d_order_85 d_sort_85 d_freshSort_85 p_table_85 p_turn_85 p_count_85 c_next_85 c_says_85 c_size_85 hc_85) (cwV 1 hts gX4_makeEqual_X1_reduceInto rfl rfl rfl ⟨rfl, eX1_reduceInto⟩ ⟨Nat.le_of_ble_eq_true rfl, Nat.le_of_ble_eq_true rfl⟩) (preWV (ci := 1) (q0 := 0) hK (hP.sub (ws' := (WD G l_hd d_hp d_q u_2 d_rm_2 d_stateOf d_kindOf d_order d_rooms_2 d_count_2 d_next_o8 d_says_77 d_note_2 d_sort_2 d_freshSort_2) ++ (WP G d_hp p_q p_table p_turn p_count) ++ (WC G c_h c_q c_next c_says c_size)) [1, 2, 3, 4, 5, 6, 7, 8, 9, 10, 11, 12, 13, 14] rfl) (hD.sub (ws' := (WD G l_hd d_hp d_q u_2 d_rm_2 d_stateOf d_kindOf d_order d_rooms_2 d_count_2 d_next_o8 d_says_77 d_note_2 d_sort_2 d_freshSort_2) ++ (WP G d_hp p_q p_table p_turn p_count) ++ (WC G c_h c_q c_next c_says c_size)) [1, 2, 3, 4, 5, 6, 7, 8, 9, 10, 11, 12, 13, 14] (by decide) rfl) rfl rfl) rfl rfl hl.1 rfl (lv_room (Nat.le_of_ble_eq_true rfl)) dX4_makeEqual_85 ⟨Nat.le_of_ble_eq_true rfl, by show 0 + (ms1) + 0 ≤ ms1; omega⟩) hP hD hS hA [1, 2, 3, 4, 5, 6, 7, 8, 9, 10, 11, 12, 13, 14] [0] rfl rfl (by decide) (by decide) (fun u_85 H locs hP hD hS => ?_)
    have hP := hP.sub (ws' := (WL G l_h l_hd) ++ (WD G l_hd d_hp d_q u_85 d_rm_2 d_stateOf_85 d_kindOf_85 d_order_85 d_rooms_2 d_count_2 d_next_o8 d_says_77 d_note_2 d_sort_85 d_freshSort_85) ++ (WP G d_hp p_q p_table_85 p_turn_85 p_count_85) ++ (WC G c_h c_q c_next_85 c_says_85 c_size_85)) [0, 1, 2, 3, 4, 5, 6, 7, 8, 9, 10, 11, 12, 13, 14] rfl
    have hD := hD.sub (ws' := (WL G l_h l_hd) ++ (WD G l_hd d_hp d_q u_85 d_rm_2 d_stateOf_85 d_kindOf_85 d_order_85 d_rooms_2 d_count_2 d_next_o8 d_says_77 d_note_2 d_sort_85 d_freshSort_85) ++ (WP G d_hp p_q p_table_85 p_turn_85 p_count_85) ++ (WC G c_h c_q c_next_85 c_says_85 c_size_85)) [0, 1, 2, 3, 4, 5, 6, 7, 8, 9, 10, 11, 12, 13, 14] (by decide) rfl
    obtain ⟨rfl, rfl, rfl, rfl, rfl, rfl, rfl, rfl, rfl, rfl, rfl, rfl, rfl, rfl, rfl, rfl, rfl, rfl⟩ := oi18 h
    exact hret u_85 _ _ _ _ _ _ _ dX4_makeEqual_88 rfl rfl hP hD hS (Nat.le_of_ble_eq_true rfl) (by show 0 + (ms1) ≤ ms1; omega)
  have hL8 : ∀ (f : Nat) (v4_8 : Int32) (d_next_8 : AI)  (H : Heap) (locs : List Loc) (ls : Array Slot), p_X4_makeEqual_L8 v2 v3 d_rm_2 d_count_2 f v4_8 d_next_8 = some d_next_o8 → va_P G.1 vwCl ((WL G l_h l_hd) ++ (WD G l_hd d_hp d_q u_2 d_rm_2 d_stateOf d_kindOf d_order d_rooms_2 d_count_2 d_next_8 d_says_2 d_note_2 d_sort_2 d_freshSort_2) ++ (WP G d_hp p_q p_table p_turn p_count) ++ (WC G c_h c_q c_next c_says c_size)) H → va_D A ((WL G l_h l_hd) ++ (WD G l_hd d_hp d_q u_2 d_rm_2 d_stateOf d_kindOf d_order d_rooms_2 d_count_2 d_next_8 d_says_2 d_note_2 d_sort_2 d_freshSort_2) ++ (WP G d_hp p_q p_table p_turn p_count) ++ (WC G c_h c_q c_next c_says c_size)) → va_S A s.heap H locs → lv_has ls 5 [(0, .ref l_h), (1, .ref c_h), (2, .int v2), (3, .int v3), (4, .int v4_8)] → W p l e (rX4_makeEqual ms1) s m args below meth c H locs (0 + 5) (0 + (ms1)) Q (F0 m 8 ls []) := by
    intro f
    induction f with
    | zero => intro v4_8 d_next_8 H locs ls h hP hD hS hl; cases (show none = some _ from h)
    | succ f ih =>
      intro v4_8 d_next_8 H locs ls h hP hD hS hl
      rw [p_X4_makeEqual_L8] at h
      refine lv_iload hx hb dX4_makeEqual_8 (lv_at hl 4 rfl) ?_
      refine lv_bipush (v := 8) hx hb dX4_makeEqual_10 (by decide) ?_
      refine lv_icmp_ge (tgt := 62) hx hb dX4_makeEqual_12 (by decide) (fun c_12 => ?_) (fun c_12 => ?_)
      · replace h := (if_pos c_12).symm.trans h
        exact hX8 _  _ _ _ h hP hD hS (lv_sub hl [0, 1] rfl)
      · replace h := (if_neg c_12).symm.trans h
        refine lv_aload_n hx hb dX4_makeEqual_15 rfl (lv_at hl 0 rfl) ?_
        refine va_get (D := G.1) (ci := 4) (v := .ref l_hd) (C := RX4) (T := TX4) (N := 1) hx hb hts hinX4 hown hK.1 hP 0 rfl rfl 0 (by decide) hf9 (fun _ h9 => h9) rfl dX4_makeEqual_16 ?_
        refine lv_iconst (v := 0) hx hb dX4_makeEqual_19 (by decide) ?_
        refine lv_iload hx hb dX4_makeEqual_20 (lv_at hl 4 rfl) ?_
        refine lv_iload hx hb dX4_makeEqual_22 (lv_at hl 4 rfl) ?_
        refine lv_iload_n hx hb dX4_makeEqual_24 rfl (lv_at hl 2 rfl) ?_
        obtain ⟨r_25, hc_25, h⟩ := ob1_e h
        refine k_si (va_runSN (As := [.int v4_8, .int v2]) (rest := [.int v4_8, .int (0 : Int32), .ref l_hd]) ⟨hx, hb, hml, hown, hts⟩ (c_X9_digitOf l G    v4_8 v2 r_25 hc_25) ⟨va_cnB 2 hts gX4_makeEqual_X9_digitOf_n25 rfl rfl rfl (hK.2 _ (List.mem_of_getElem? (i := 7) rfl)) (hts (.initialized RX9) (by decide +kernel)) eX9_digitOf ⟨Nat.le_of_ble_eq_true rfl, Nat.le_of_ble_eq_true rfl⟩, hts (.static yX9_digitOf) (by decide +kernel), trivial⟩ (preSS hK (fun k q h => by cases h)) rfl rfl hl.1 rfl (lv_room (Nat.le_of_ble_eq_true rfl)) dX4_makeEqual_25 ⟨Nat.le_of_ble_eq_true rfl, by show 0 + (ms1) + 0 ≤ ms1; omega⟩) ?_
        refine lv_iload hx hb dX4_makeEqual_28 (lv_at hl 4 rfl) ?_
        refine lv_iload_n hx hb dX4_makeEqual_30 rfl (lv_at hl 3 rfl) ?_
        obtain ⟨r_31, hc_31, h⟩ := ob1_e h
        refine k_si (va_runSN (As := [.int v4_8, .int v3]) (rest := [.int r_25, .int v4_8, .int (0 : Int32), .ref l_hd]) ⟨hx, hb, hml, hown, hts⟩ (c_X9_digitOf l G    v4_8 v3 r_31 hc_31) ⟨va_cnB 2 hts gX4_makeEqual_X9_digitOf_n25 rfl rfl rfl (hK.2 _ (List.mem_of_getElem? (i := 7) rfl)) (hts (.initialized RX9) (by decide +kernel)) eX9_digitOf ⟨Nat.le_of_ble_eq_true rfl, Nat.le_of_ble_eq_true rfl⟩, hts (.static yX9_digitOf) (by decide +kernel), trivial⟩ (preSS hK (fun k q h => by cases h)) rfl rfl hl.1 rfl (lv_room (Nat.le_of_ble_eq_true rfl)) dX4_makeEqual_31 ⟨Nat.le_of_ble_eq_true rfl, by show 0 + (ms1) + 0 ≤ ms1; omega⟩) ?_
        obtain ⟨j0_34, hT34, h⟩ := ob1_e h
        have hJ34 : ∀ (j0_34x : Int32)  (H : Heap) (locs : List Loc) (ls : Array Slot), some j0_34x = some j0_34 → va_P G.1 vwCl ((WL G l_h l_hd) ++ (WD G l_hd d_hp d_q u_2 d_rm_2 d_stateOf d_kindOf d_order d_rooms_2 d_count_2 d_next_8 d_says_2 d_note_2 d_sort_2 d_freshSort_2) ++ (WP G d_hp p_q p_table p_turn p_count) ++ (WC G c_h c_q c_next c_says c_size)) H → va_D A ((WL G l_h l_hd) ++ (WD G l_hd d_hp d_q u_2 d_rm_2 d_stateOf d_kindOf d_order d_rooms_2 d_count_2 d_next_8 d_says_2 d_note_2 d_sort_2 d_freshSort_2) ++ (WP G d_hp p_q p_table p_turn p_count) ++ (WC G c_h c_q c_next c_says c_size)) → va_S A s.heap H locs → lv_has ls 5 [(0, .ref l_h), (1, .ref c_h), (2, .int v2), (3, .int v3), (4, .int v4_8)] → W p l e (rX4_makeEqual ms1) s m args below meth c H locs (0 + 5) (0 + (ms1)) Q (F0 m 42 ls [.int j0_34x, .int v4_8, .int (0 : Int32), .ref l_hd]) := by
          intro j0_34x H locs ls hq hP hD hS hl
          obtain rfl := oi1 hq
          obtain ⟨d_next_42, hc_42, h⟩ := ob1_e h
          refine k_cv (wr := (WL G l_h l_hd) ++ (WP G d_hp p_q p_table p_turn p_count) ++ (WC G c_h c_q c_next c_says c_size)) (va_runV (As := [.int (0 : Int32), .int v4_8, .int j0_34]) (rest := []) ⟨hx, hb, hml, hown, hts⟩ (c_X1_write l G l_hd d_hp d_q u_2 d_rm_2 d_stateOf d_kindOf d_order d_rooms_2 d_count_2 d_next_8 d_says_2 d_note_2 d_sort_2 d_freshSort_2  (0 : Int32) v4_8 j0_34 _ d_next_42 hc_42) (cwV 3 hts gX4_makeEqual_X1_write rfl rfl rfl ⟨rfl, eX1_write⟩ ⟨Nat.le_of_ble_eq_true rfl, Nat.le_of_ble_eq_true rfl⟩) (preWV (ci := 1) (q0 := 0) hK (hP.sub (ws' := WD G l_hd d_hp d_q u_2 d_rm_2 d_stateOf d_kindOf d_order d_rooms_2 d_count_2 d_next_8 d_says_2 d_note_2 d_sort_2 d_freshSort_2) [1, 2, 3, 4, 5, 6, 7, 8, 9] rfl) (hD.sub (ws' := WD G l_hd d_hp d_q u_2 d_rm_2 d_stateOf d_kindOf d_order d_rooms_2 d_count_2 d_next_8 d_says_2 d_note_2 d_sort_2 d_freshSort_2) [1, 2, 3, 4, 5, 6, 7, 8, 9] (by decide) rfl) rfl rfl) rfl rfl hl.1 rfl (lv_room (Nat.le_of_ble_eq_true rfl)) dX4_makeEqual_42 ⟨Nat.le_of_ble_eq_true rfl, by show 0 + (ms1) + 0 ≤ ms1; omega⟩) hP hD hS hA [1, 2, 3, 4, 5, 6, 7, 8, 9] [0, 10, 11, 12, 13, 14] rfl rfl (by decide) (by decide) (fun u_42 H locs hP hD hS => ?_)
          have hP := hP.sub (ws' := (WL G l_h l_hd) ++ (WD G l_hd d_hp d_q u_2 d_rm_2 d_stateOf d_kindOf d_order d_rooms_2 d_count_2 d_next_42 d_says_2 d_note_2 d_sort_2 d_freshSort_2) ++ (WP G d_hp p_q p_table p_turn p_count) ++ (WC G c_h c_q c_next c_says c_size)) [0, 6, 7, 8, 9, 10, 11, 12, 13, 14, 1, 2, 3, 4, 5] rfl
          have hD := hD.sub (ws' := (WL G l_h l_hd) ++ (WD G l_hd d_hp d_q u_2 d_rm_2 d_stateOf d_kindOf d_order d_rooms_2 d_count_2 d_next_42 d_says_2 d_note_2 d_sort_2 d_freshSort_2) ++ (WP G d_hp p_q p_table p_turn p_count) ++ (WC G c_h c_q c_next c_says c_size)) [0, 6, 7, 8, 9, 10, 11, 12, 13, 14, 1, 2, 3, 4, 5] (by decide) rfl
          refine lv_aload_n hx hb dX4_makeEqual_45 rfl (lv_at hl 0 rfl) ?_
          refine va_get (D := G.1) (ci := 4) (v := .ref l_hd) (C := RX4) (T := TX4) (N := 1) hx hb hts hinX4 hown hK.1 hP 0 rfl rfl 0 (by decide) hf9 (fun _ h9 => h9) rfl dX4_makeEqual_46 ?_
          refine lv_iconst (v := 1) hx hb dX4_makeEqual_49 (by decide) ?_
          refine lv_iload hx hb dX4_makeEqual_50 (lv_at hl 4 rfl) ?_
          refine lv_iconst (v := 1) hx hb dX4_makeEqual_52 (by decide) ?_
          obtain ⟨d_next_53, hc_53, h⟩ := ob1_e h
          refine k_cv (wr := (WL G l_h l_hd) ++ (WP G d_hp p_q p_table p_turn p_count) ++ (WC G c_h c_q c_next c_says c_size)) (va_runV (As := [.int (1 : Int32), .int v4_8, .int (1 : Int32)]) (rest := []) ⟨hx, hb, hml, hown, hts⟩ (c_X1_write l G l_hd d_hp d_q u_2 d_rm_2 d_stateOf d_kindOf d_order d_rooms_2 d_count_2 d_next_42 d_says_2 d_note_2 d_sort_2 d_freshSort_2  (1 : Int32) v4_8 (1 : Int32) _ d_next_53 hc_53) (cwV 3 hts gX4_makeEqual_X1_write rfl rfl rfl ⟨rfl, eX1_write⟩ ⟨Nat.le_of_ble_eq_true rfl, Nat.le_of_ble_eq_true rfl⟩) (preWV (ci := 1) (q0 := 0) hK (hP.sub (ws' := WD G l_hd d_hp d_q u_2 d_rm_2 d_stateOf d_kindOf d_order d_rooms_2 d_count_2 d_next_42 d_says_2 d_note_2 d_sort_2 d_freshSort_2) [1, 2, 3, 4, 5, 6, 7, 8, 9] rfl) (hD.sub (ws' := WD G l_hd d_hp d_q u_2 d_rm_2 d_stateOf d_kindOf d_order d_rooms_2 d_count_2 d_next_42 d_says_2 d_note_2 d_sort_2 d_freshSort_2) [1, 2, 3, 4, 5, 6, 7, 8, 9] (by decide) rfl) rfl rfl) rfl rfl hl.1 rfl (lv_room (Nat.le_of_ble_eq_true rfl)) dX4_makeEqual_53 ⟨Nat.le_of_ble_eq_true rfl, by show 0 + (ms1) + 0 ≤ ms1; omega⟩) hP hD hS hA [1, 2, 3, 4, 5, 6, 7, 8, 9] [0, 10, 11, 12, 13, 14] rfl rfl (by decide) (by decide) (fun u_53 H locs hP hD hS => ?_)
          have hP := hP.sub (ws' := (WL G l_h l_hd) ++ (WD G l_hd d_hp d_q u_2 d_rm_2 d_stateOf d_kindOf d_order d_rooms_2 d_count_2 d_next_53 d_says_2 d_note_2 d_sort_2 d_freshSort_2) ++ (WP G d_hp p_q p_table p_turn p_count) ++ (WC G c_h c_q c_next c_says c_size)) [0, 6, 7, 8, 9, 10, 11, 12, 13, 14, 1, 2, 3, 4, 5] rfl
          have hD := hD.sub (ws' := (WL G l_h l_hd) ++ (WD G l_hd d_hp d_q u_2 d_rm_2 d_stateOf d_kindOf d_order d_rooms_2 d_count_2 d_next_53 d_says_2 d_note_2 d_sort_2 d_freshSort_2) ++ (WP G d_hp p_q p_table p_turn p_count) ++ (WC G c_h c_q c_next c_says c_size)) [0, 6, 7, 8, 9, 10, 11, 12, 13, 14, 1, 2, 3, 4, 5] (by decide) rfl
          refine lv_iinc (v := (v4_8 + (1 : Int32))) (lv' := [(4, .int (v4_8 + (1 : Int32))), (0, .ref l_h), (1, .ref c_h), (2, .int v2), (3, .int v3)]) hx hb dX4_makeEqual_56 hl (k := 4) rfl rfl (by decide) rfl (fun ls hl => ?_)
          refine lv_goto (tgt := 8) hx hb dX4_makeEqual_59 (by decide) ?_
          exact ih _ _  _ _ _ h hP hD hS (lv_sub hl [1, 2, 3, 4, 0] rfl)
        replace h := hT34
        refine lv_icmp_ne (tgt := 41) hx hb dX4_makeEqual_34 (by decide) (fun c_34 => ?_) (fun c_34 => ?_)
        · replace h := (if_neg c_34).symm.trans h
          refine lv_iconst (v := 1) hx hb dX4_makeEqual_41 (by decide) ?_
          exact hJ34 _  _ _ _ h hP hD hS (lv_sub hl [0, 1, 2, 3, 4] rfl)
        · replace h := (if_pos c_34).symm.trans h
          refine lv_iconst (v := 0) hx hb dX4_makeEqual_37 (by decide) ?_
          refine lv_goto (tgt := 42) hx hb dX4_makeEqual_38 (by decide) ?_
          exact hJ34 _  _ _ _ h hP hD hS (lv_sub hl [0, 1, 2, 3, 4] rfl)
  exact hL8 n _ _  _ _ _ hT8 hP hD hS (lv_sub hl [1, 2, 3, 4, 0] rfl)
abbrev rX4_makeLess (ms1 : Nat) : Room := { frames := 5, cells := 5, slots := ms1, locals := 111 }
set_option maxHeartbeats 4000000 in
set_option maxRecDepth 100000 in
theorem c_X4_makeLess (l : Launch) (G : GG) (n : Nat) (l_h : Nat) (l_hd : Nat) (d_hp : Nat) (d_q : Nat → Nat) (d_a : Nat → Nat) (p_q : Nat → Nat) (c_h : Nat) (c_q : Nat → Nat) (d_rm : Nat) (d_stateOf : AI) (d_kindOf : AI) (d_order : AI) (d_rooms : Int32) (d_count : Int32) (d_next : AI) (d_says : AI) (d_note : AI) (d_sort : AI) (d_freshSort : AI) (p_table : AI) (p_turn : Int32) (p_count : Int32) (c_next : AI) (c_says : AI) (c_size : Int32)  (v2 : Int32) (v3 : Int32) (rmx1 : Nat) (ms1 : Nat) (hms1 : rmx1 = d_rm ∨ 12 * rmx1 ≤ ms1) (sz : Nat) (r : Int32) (d_rm_z : Nat) (d_stateOf_z : AI) (d_kindOf_z : AI) (d_order_z : AI) (d_rooms_z : Int32) (d_count_z : Int32) (d_next_z : AI) (d_says_z : AI) (d_note_z : AI) (d_sort_z : AI) (d_freshSort_z : AI) (p_table_z : AI) (p_turn_z : Int32) (p_count_z : Int32) (c_next_z : AI) (c_says_z : AI) (c_size_z : Int32) (h : p_X4_makeLess n d_rm d_stateOf d_kindOf d_order d_rooms d_next d_says d_note d_sort d_freshSort p_table p_turn c_next c_says c_size rmx1 v2 v3 = some (r, d_rm_z, d_stateOf_z, d_kindOf_z, d_order_z, d_rooms_z, d_count_z, d_next_z, d_says_z, d_note_z, d_sort_z, d_freshSort_z, p_table_z, p_turn_z, p_count_z, c_next_z, c_says_z, c_size_z)) : CI l yX4_makeLess wsX4_makeLess (rX4_makeLess ms1) G [.ref l_h, .ref c_h, .int v2, .int v3] ((WL G l_h l_hd) ++ (WD G l_hd d_hp d_q d_a d_rm d_stateOf d_kindOf d_order d_rooms d_count d_next d_says d_note d_sort d_freshSort) ++ (WP G d_hp p_q p_table p_turn p_count) ++ (WC G c_h c_q c_next c_says c_size)) sz r (fun u => (WL G l_h l_hd) ++ (WD G l_hd d_hp d_q u d_rm_z d_stateOf_z d_kindOf_z d_order_z d_rooms_z d_count_z d_next_z d_says_z d_note_z d_sort_z d_freshSort_z) ++ (WP G d_hp p_q p_table_z p_turn_z p_count_z) ++ (WC G c_h c_q c_next_z c_says_z c_size_z)) := by
  refine enterCI (cc := cX4_makeLess) (maxL := 6) (by decide) rfl (Nat.le_of_ble_eq_true rfl) ?_
  intro p e s m args below meth c A Q hx hb hml hown hts hK hP hD hS hA hret ls hl
  have hown : s.vm.findClass RX4 = some m.cls := hown
  have hf9 := hts (.fieldLink RX4 9 "DigitClaims$PlainClaims" "draft" "LDigitClaims$Draft;") (by decide +kernel)
  have hinX4 : ∀ w ∈ wsX40, w ∈ wsX4_makeLess := by decide +kernel
  have hl : lv_has ls 6 [(0, .ref l_h), (1, .ref c_h), (2, .int v2), (3, .int v3)] := hl
  unfold p_X4_makeLess at h
  refine lv_aload_n hx hb dX4_makeLess_0 rfl (lv_at hl 0 rfl) ?_
  refine lv_iconst (v := 3) hx hb dX4_makeLess_1 (by decide) ?_
  obtain ⟨d_rm_2, d_rooms_2, d_count_2, d_next_2, d_says_2, d_note_2, d_sort_2, d_freshSort_2, hc_2, h⟩ := ob8_e h
  refine k_cv (wr := (WP G d_hp p_q p_table p_turn p_count) ++ (WC G c_h c_q c_next c_says c_size)) (va_runV (As := [.int (3 : Int32)]) (rest := []) ⟨hx, hb, hml, hown, hts⟩ (c_X4_start l G l_h l_hd d_hp d_q d_a d_rm d_stateOf d_kindOf d_order d_rooms d_count d_next d_says d_note d_sort d_freshSort  (3 : Int32) rmx1 ms1 hms1 _ d_rm_2 d_rooms_2 d_count_2 d_next_2 d_says_2 d_note_2 d_sort_2 d_freshSort_2 hc_2) (cwV 1 hts gX4_makeLess_X4_start rfl rfl rfl ⟨rfl, eX4_start⟩ ⟨Nat.le_of_ble_eq_true rfl, Nat.le_of_ble_eq_true rfl⟩) (preWV (ci := 4) (q0 := 0) hK (hP.sub (ws' := (WL G l_h l_hd) ++ (WD G l_hd d_hp d_q d_a d_rm d_stateOf d_kindOf d_order d_rooms d_count d_next d_says d_note d_sort d_freshSort)) [0, 1, 2, 3, 4, 5, 6, 7, 8, 9] rfl) (hD.sub (ws' := (WL G l_h l_hd) ++ (WD G l_hd d_hp d_q d_a d_rm d_stateOf d_kindOf d_order d_rooms d_count d_next d_says d_note d_sort d_freshSort)) [0, 1, 2, 3, 4, 5, 6, 7, 8, 9] (by decide) rfl) rfl rfl) rfl rfl hl.1 rfl (lv_room (Nat.le_of_ble_eq_true rfl)) dX4_makeLess_2 ⟨Nat.le_of_ble_eq_true rfl, by show 0 + (ms1) ≤ ms1; omega⟩) hP hD hS hA [0, 1, 2, 3, 4, 5, 6, 7, 8, 9] [10, 11, 12, 13, 14] rfl rfl (by decide) (by decide) (fun u_2 H locs hP hD hS => ?_)
  have hP := hP.sub (ws' := (WL G l_h l_hd) ++ (WD G l_hd d_hp d_q u_2 d_rm_2 d_stateOf d_kindOf d_order d_rooms_2 d_count_2 d_next_2 d_says_2 d_note_2 d_sort_2 d_freshSort_2) ++ (WP G d_hp p_q p_table p_turn p_count) ++ (WC G c_h c_q c_next c_says c_size)) [5, 6, 7, 8, 9, 10, 11, 12, 13, 14, 0, 1, 2, 3, 4] rfl
  have hD := hD.sub (ws' := (WL G l_h l_hd) ++ (WD G l_hd d_hp d_q u_2 d_rm_2 d_stateOf d_kindOf d_order d_rooms_2 d_count_2 d_next_2 d_says_2 d_note_2 d_sort_2 d_freshSort_2) ++ (WP G d_hp p_q p_table p_turn p_count) ++ (WC G c_h c_q c_next c_says c_size)) [5, 6, 7, 8, 9, 10, 11, 12, 13, 14, 0, 1, 2, 3, 4] (by decide) rfl
  refine lv_iconst (v := 0) hx hb dX4_makeLess_5 (by decide) ?_
  refine lv_istore (lv' := [(4, .int (0 : Int32)), (0, .ref l_h), (1, .ref c_h), (2, .int v2), (3, .int v3)]) hx hb dX4_makeLess_6 hl (by decide) rfl (fun ls hl => ?_)
  obtain ⟨d_next_o8, hT8, h⟩ := ob1_e h
  have hX8 : ∀ (d_next_o8x : AI)  (H : Heap) (locs : List Loc) (ls : Array Slot), some d_next_o8x = some d_next_o8 → va_P G.1 vwCl ((WL G l_h l_hd) ++ (WD G l_hd d_hp d_q u_2 d_rm_2 d_stateOf d_kindOf d_order d_rooms_2 d_count_2 d_next_o8x d_says_2 d_note_2 d_sort_2 d_freshSort_2) ++ (WP G d_hp p_q p_table p_turn p_count) ++ (WC G c_h c_q c_next c_says c_size)) H → va_D A ((WL G l_h l_hd) ++ (WD G l_hd d_hp d_q u_2 d_rm_2 d_stateOf d_kindOf d_order d_rooms_2 d_count_2 d_next_o8x d_says_2 d_note_2 d_sort_2 d_freshSort_2) ++ (WP G d_hp p_q p_table p_turn p_count) ++ (WC G c_h c_q c_next c_says c_size)) → va_S A s.heap H locs → lv_has ls 6 [(0, .ref l_h), (1, .ref c_h)] → W p l e (rX4_makeLess ms1) s m args below meth c H locs (0 + 5) (0 + (ms1)) Q (F0 m 87 ls []) := by
    intro d_next_o8x H locs ls hq hP hD hS hl
    obtain rfl := oi1 hq
    refine lv_iconst (v := 0) hx hb dX4_makeLess_87 (by decide) ?_
    refine lv_istore (lv' := [(4, .int (0 : Int32)), (0, .ref l_h), (1, .ref c_h)]) hx hb dX4_makeLess_88 hl (by decide) rfl (fun ls hl => ?_)
    obtain ⟨d_says_o90, hT90, h⟩ := ob1_e h
    have hX90 : ∀ (d_says_o90x : AI)  (H : Heap) (locs : List Loc) (ls : Array Slot), some d_says_o90x = some d_says_o90 → va_P G.1 vwCl ((WL G l_h l_hd) ++ (WD G l_hd d_hp d_q u_2 d_rm_2 d_stateOf d_kindOf d_order d_rooms_2 d_count_2 d_next_o8 d_says_o90x d_note_2 d_sort_2 d_freshSort_2) ++ (WP G d_hp p_q p_table p_turn p_count) ++ (WC G c_h c_q c_next c_says c_size)) H → va_D A ((WL G l_h l_hd) ++ (WD G l_hd d_hp d_q u_2 d_rm_2 d_stateOf d_kindOf d_order d_rooms_2 d_count_2 d_next_o8 d_says_o90x d_note_2 d_sort_2 d_freshSort_2) ++ (WP G d_hp p_q p_table p_turn p_count) ++ (WC G c_h c_q c_next c_says c_size)) → va_S A s.heap H locs → lv_has ls 6 [(0, .ref l_h), (1, .ref c_h)] → W p l e (rX4_makeLess ms1) s m args below meth c H locs (0 + 5) (0 + (ms1)) Q (F0 m 122 ls []) := by
      intro d_says_o90x H locs ls hq hP hD hS hl
      obtain rfl := oi1 hq
      refine lv_aload_n hx hb dX4_makeLess_122 rfl (lv_at hl 0 rfl) ?_
      refine va_get (D := G.1) (ci := 4) (v := .ref l_hd) (C := RX4) (T := TX4) (N := 1) hx hb hts hinX4 hown hK.1 hP 0 rfl rfl 0 (by decide) hf9 (fun _ h9 => h9) rfl dX4_makeLess_123 ?_
      refine lv_aload_n hx hb dX4_makeLess_126 rfl (lv_at hl 1 rfl) ?_
      obtain ⟨r_127, d_stateOf_127, d_kindOf_127, d_order_127, d_sort_127, d_freshSort_127, p_table_127, p_turn_127, p_count_127, c_next_127, c_says_127, c_size_127, hc_127, h⟩ := ob12_e h
      refine k_ci (wr := WL G l_h l_hd) (va_runV (As := [.ref c_h]) (rest := []) ⟨hx, hb, hml, hown, hts⟩ (c_X1_reduceInto l G n l_hd d_hp d_q u_2 p_q c_h c_q d_rm_2 d_stateOf d_kindOf d_order d_rooms_2 d_count_2 d_next_o8 d_says_o90 d_note_2 d_sort_2 d_freshSort_2 p_table p_turn p_count c_next c_says c_size   _ r_127 d_stateOf_127 d_kindOf_127 d_order_127 d_sort_127 d_freshSort_127 p_table_127 p_turn_127 p_count_127 c_next_127 c_says_127 c_size_127 hc_127) (cwV 1 hts gX4_makeLess_X1_reduceInto rfl rfl rfl ⟨rfl, eX1_reduceInto⟩ ⟨Nat.le_of_ble_eq_true rfl, Nat.le_of_ble_eq_true rfl⟩) (preWV (ci := 1) (q0 := 0) hK (hP.sub (ws' := (WD G l_hd d_hp d_q u_2 d_rm_2 d_stateOf d_kindOf d_order d_rooms_2 d_count_2 d_next_o8 d_says_o90 d_note_2 d_sort_2 d_freshSort_2) ++ (WP G d_hp p_q p_table p_turn p_count) ++ (WC G c_h c_q c_next c_says c_size)) [1, 2, 3, 4, 5, 6, 7, 8, 9, 10, 11, 12, 13, 14] rfl) (hD.sub (ws' := (WD G l_hd d_hp d_q u_2 d_rm_2 d_stateOf d_kindOf d_order d_rooms_2 d_count_2 d_next_o8 d_says_o90 d_note_2 d_sort_2 d_freshSort_2) ++ (WP G d_hp p_q p_table p_turn p_count) ++ (WC G c_h c_q c_next c_says c_size)) [1, 2, 3, 4, 5, 6, 7, 8, 9, 10, 11, 12, 13, 14] (by decide) rfl) rfl rfl) rfl rfl hl.1 rfl (lv_room (Nat.le_of_ble_eq_true rfl)) dX4_makeLess_127 ⟨Nat.le_of_ble_eq_true rfl, by show 0 + (ms1) + 0 ≤ ms1; omega⟩) hP hD hS hA [1, 2, 3, 4, 5, 6, 7, 8, 9, 10, 11, 12, 13, 14] [0] rfl rfl (by decide) (by decide) (fun u_127 H locs hP hD hS => ?_)
      have hP := hP.sub (ws' := (WL G l_h l_hd) ++ (WD G l_hd d_hp d_q u_127 d_rm_2 d_stateOf_127 d_kindOf_127 d_order_127 d_rooms_2 d_count_2 d_next_o8 d_says_o90 d_note_2 d_sort_127 d_freshSort_127) ++ (WP G d_hp p_q p_table_127 p_turn_127 p_count_127) ++ (WC G c_h c_q c_next_127 c_says_127 c_size_127)) [0, 1, 2, 3, 4, 5, 6, 7, 8, 9, 10, 11, 12, 13, 14] rfl
      have hD := hD.sub (ws' := (WL G l_h l_hd) ++ (WD G l_hd d_hp d_q u_127 d_rm_2 d_stateOf_127 d_kindOf_127 d_order_127 d_rooms_2 d_count_2 d_next_o8 d_says_o90 d_note_2 d_sort_127 d_freshSort_127) ++ (WP G d_hp p_q p_table_127 p_turn_127 p_count_127) ++ (WC G c_h c_q c_next_127 c_says_127 c_size_127)) [0, 1, 2, 3, 4, 5, 6, 7, 8, 9, 10, 11, 12, 13, 14] (by decide) rfl
      obtain ⟨rfl, rfl, rfl, rfl, rfl, rfl, rfl, rfl, rfl, rfl, rfl, rfl, rfl, rfl, rfl, rfl, rfl, rfl⟩ := oi18 h
      exact hret u_127 _ _ _ _ _ _ _ dX4_makeLess_130 rfl rfl hP hD hS (Nat.le_of_ble_eq_true rfl) (by show 0 + (ms1) ≤ ms1; omega)
    have hL90 : ∀ (f : Nat) (v4_90 : Int32) (d_says_90 : AI)  (H : Heap) (locs : List Loc) (ls : Array Slot), p_X4_makeLess_L90 d_rm_2 d_count_2 f v4_90 d_says_90 = some d_says_o90 → va_P G.1 vwCl ((WL G l_h l_hd) ++ (WD G l_hd d_hp d_q u_2 d_rm_2 d_stateOf d_kindOf d_order d_rooms_2 d_count_2 d_next_o8 d_says_90 d_note_2 d_sort_2 d_freshSort_2) ++ (WP G d_hp p_q p_table p_turn p_count) ++ (WC G c_h c_q c_next c_says c_size)) H → va_D A ((WL G l_h l_hd) ++ (WD G l_hd d_hp d_q u_2 d_rm_2 d_stateOf d_kindOf d_order d_rooms_2 d_count_2 d_next_o8 d_says_90 d_note_2 d_sort_2 d_freshSort_2) ++ (WP G d_hp p_q p_table p_turn p_count) ++ (WC G c_h c_q c_next c_says c_size)) → va_S A s.heap H locs → lv_has ls 6 [(0, .ref l_h), (1, .ref c_h), (4, .int v4_90)] → W p l e (rX4_makeLess ms1) s m args below meth c H locs (0 + 5) (0 + (ms1)) Q (F0 m 90 ls []) := by
      intro f
      induction f with
      | zero => intro v4_90 d_says_90 H locs ls h hP hD hS hl; cases (show none = some _ from h)
      | succ f ih =>
        intro v4_90 d_says_90 H locs ls h hP hD hS hl
        rw [p_X4_makeLess_L90] at h
        refine lv_iload hx hb dX4_makeLess_90 (lv_at hl 2 rfl) ?_
        refine lv_iconst (v := 3) hx hb dX4_makeLess_92 (by decide) ?_
        refine lv_icmp_ge (tgt := 122) hx hb dX4_makeLess_93 (by decide) (fun c_93 => ?_) (fun c_93 => ?_)
        · replace h := (if_pos c_93).symm.trans h
          exact hX90 _  _ _ _ h hP hD hS (lv_sub hl [0, 1] rfl)
        · replace h := (if_neg c_93).symm.trans h
          refine lv_aload_n hx hb dX4_makeLess_96 rfl (lv_at hl 0 rfl) ?_
          refine va_get (D := G.1) (ci := 4) (v := .ref l_hd) (C := RX4) (T := TX4) (N := 1) hx hb hts hinX4 hown hK.1 hP 0 rfl rfl 0 (by decide) hf9 (fun _ h9 => h9) rfl dX4_makeLess_97 ?_
          refine lv_iload hx hb dX4_makeLess_100 (lv_at hl 2 rfl) ?_
          refine lv_iload hx hb dX4_makeLess_102 (lv_at hl 2 rfl) ?_
          refine lv_iconst (v := 1) hx hb dX4_makeLess_104 (by decide) ?_
          obtain ⟨j0_105, hT105, h⟩ := ob1_e h
          have hJ105 : ∀ (j0_105x : Int32)  (H : Heap) (locs : List Loc) (ls : Array Slot), some j0_105x = some j0_105 → va_P G.1 vwCl ((WL G l_h l_hd) ++ (WD G l_hd d_hp d_q u_2 d_rm_2 d_stateOf d_kindOf d_order d_rooms_2 d_count_2 d_next_o8 d_says_90 d_note_2 d_sort_2 d_freshSort_2) ++ (WP G d_hp p_q p_table p_turn p_count) ++ (WC G c_h c_q c_next c_says c_size)) H → va_D A ((WL G l_h l_hd) ++ (WD G l_hd d_hp d_q u_2 d_rm_2 d_stateOf d_kindOf d_order d_rooms_2 d_count_2 d_next_o8 d_says_90 d_note_2 d_sort_2 d_freshSort_2) ++ (WP G d_hp p_q p_table p_turn p_count) ++ (WC G c_h c_q c_next c_says c_size)) → va_S A s.heap H locs → lv_has ls 6 [(0, .ref l_h), (1, .ref c_h), (4, .int v4_90)] → W p l e (rX4_makeLess ms1) s m args below meth c H locs (0 + 5) (0 + (ms1)) Q (F0 m 113 ls [.int j0_105x, .int v4_90, .ref l_hd]) := by
            intro j0_105x H locs ls hq hP hD hS hl
            obtain rfl := oi1 hq
            obtain ⟨d_says_113, hc_113, h⟩ := ob1_e h
            refine k_cv (wr := (WL G l_h l_hd) ++ (WP G d_hp p_q p_table p_turn p_count) ++ (WC G c_h c_q c_next c_says c_size)) (va_runV (As := [.int v4_90, .int j0_105]) (rest := []) ⟨hx, hb, hml, hown, hts⟩ (c_X1_writeSays l G l_hd d_hp d_q u_2 d_rm_2 d_stateOf d_kindOf d_order d_rooms_2 d_count_2 d_next_o8 d_says_90 d_note_2 d_sort_2 d_freshSort_2  v4_90 j0_105 _ d_says_113 hc_113) (cwV 2 hts gX4_makeLess_X1_writeSays rfl rfl rfl ⟨rfl, eX1_writeSays⟩ ⟨Nat.le_of_ble_eq_true rfl, Nat.le_of_ble_eq_true rfl⟩) (preWV (ci := 1) (q0 := 0) hK (hP.sub (ws' := WD G l_hd d_hp d_q u_2 d_rm_2 d_stateOf d_kindOf d_order d_rooms_2 d_count_2 d_next_o8 d_says_90 d_note_2 d_sort_2 d_freshSort_2) [1, 2, 3, 4, 5, 6, 7, 8, 9] rfl) (hD.sub (ws' := WD G l_hd d_hp d_q u_2 d_rm_2 d_stateOf d_kindOf d_order d_rooms_2 d_count_2 d_next_o8 d_says_90 d_note_2 d_sort_2 d_freshSort_2) [1, 2, 3, 4, 5, 6, 7, 8, 9] (by decide) rfl) rfl rfl) rfl rfl hl.1 rfl (lv_room (Nat.le_of_ble_eq_true rfl)) dX4_makeLess_113 ⟨Nat.le_of_ble_eq_true rfl, by show 0 + (ms1) + 0 ≤ ms1; omega⟩) hP hD hS hA [1, 2, 3, 4, 5, 6, 7, 8, 9] [0, 10, 11, 12, 13, 14] rfl rfl (by decide) (by decide) (fun u_113 H locs hP hD hS => ?_)
            have hP := hP.sub (ws' := (WL G l_h l_hd) ++ (WD G l_hd d_hp d_q u_2 d_rm_2 d_stateOf d_kindOf d_order d_rooms_2 d_count_2 d_next_o8 d_says_113 d_note_2 d_sort_2 d_freshSort_2) ++ (WP G d_hp p_q p_table p_turn p_count) ++ (WC G c_h c_q c_next c_says c_size)) [0, 6, 7, 8, 9, 10, 11, 12, 13, 14, 1, 2, 3, 4, 5] rfl
            have hD := hD.sub (ws' := (WL G l_h l_hd) ++ (WD G l_hd d_hp d_q u_2 d_rm_2 d_stateOf d_kindOf d_order d_rooms_2 d_count_2 d_next_o8 d_says_113 d_note_2 d_sort_2 d_freshSort_2) ++ (WP G d_hp p_q p_table p_turn p_count) ++ (WC G c_h c_q c_next c_says c_size)) [0, 6, 7, 8, 9, 10, 11, 12, 13, 14, 1, 2, 3, 4, 5] (by decide) rfl
            refine lv_iinc (v := (v4_90 + (1 : Int32))) (lv' := [(4, .int (v4_90 + (1 : Int32))), (0, .ref l_h), (1, .ref c_h)]) hx hb dX4_makeLess_116 hl (k := 2) rfl rfl (by decide) rfl (fun ls hl => ?_)
            refine lv_goto (tgt := 90) hx hb dX4_makeLess_119 (by decide) ?_
            exact ih _ _  _ _ _ h hP hD hS (lv_sub hl [1, 2, 0] rfl)
          replace h := hT105
          refine lv_icmp_ne (tgt := 112) hx hb dX4_makeLess_105 (by decide) (fun c_105 => ?_) (fun c_105 => ?_)
          · replace h := (if_neg c_105).symm.trans h
            refine lv_iconst (v := 0) hx hb dX4_makeLess_112 (by decide) ?_
            exact hJ105 _  _ _ _ h hP hD hS (lv_sub hl [0, 1, 2] rfl)
          · replace h := (if_pos c_105).symm.trans h
            refine lv_iconst (v := 1) hx hb dX4_makeLess_108 (by decide) ?_
            refine lv_goto (tgt := 113) hx hb dX4_makeLess_109 (by decide) ?_
            exact hJ105 _  _ _ _ h hP hD hS (lv_sub hl [0, 1, 2] rfl)
    exact hL90 n _ _  _ _ _ hT90 hP hD hS (lv_sub hl [1, 2, 0] rfl)
  have hL8 : ∀ (f : Nat) (v4_8 : Int32) (d_next_8 : AI)  (H : Heap) (locs : List Loc) (ls : Array Slot), p_X4_makeLess_L8 v2 v3 d_rm_2 d_count_2 f v4_8 d_next_8 = some d_next_o8 → va_P G.1 vwCl ((WL G l_h l_hd) ++ (WD G l_hd d_hp d_q u_2 d_rm_2 d_stateOf d_kindOf d_order d_rooms_2 d_count_2 d_next_8 d_says_2 d_note_2 d_sort_2 d_freshSort_2) ++ (WP G d_hp p_q p_table p_turn p_count) ++ (WC G c_h c_q c_next c_says c_size)) H → va_D A ((WL G l_h l_hd) ++ (WD G l_hd d_hp d_q u_2 d_rm_2 d_stateOf d_kindOf d_order d_rooms_2 d_count_2 d_next_8 d_says_2 d_note_2 d_sort_2 d_freshSort_2) ++ (WP G d_hp p_q p_table p_turn p_count) ++ (WC G c_h c_q c_next c_says c_size)) → va_S A s.heap H locs → lv_has ls 6 [(0, .ref l_h), (1, .ref c_h), (2, .int v2), (3, .int v3), (4, .int v4_8)] → W p l e (rX4_makeLess ms1) s m args below meth c H locs (0 + 5) (0 + (ms1)) Q (F0 m 8 ls []) := by
    intro f
    induction f with
    | zero => intro v4_8 d_next_8 H locs ls h hP hD hS hl; cases (show none = some _ from h)
    | succ f ih =>
      intro v4_8 d_next_8 H locs ls h hP hD hS hl
      rw [p_X4_makeLess_L8] at h
      refine lv_iload hx hb dX4_makeLess_8 (lv_at hl 4 rfl) ?_
      refine lv_bipush (v := 8) hx hb dX4_makeLess_10 (by decide) ?_
      refine lv_icmp_ge (tgt := 87) hx hb dX4_makeLess_12 (by decide) (fun c_12 => ?_) (fun c_12 => ?_)
      · replace h := (if_pos c_12).symm.trans h
        exact hX8 _  _ _ _ h hP hD hS (lv_sub hl [0, 1] rfl)
      · replace h := (if_neg c_12).symm.trans h
        refine lv_iload hx hb dX4_makeLess_15 (lv_at hl 4 rfl) ?_
        refine lv_iload_n hx hb dX4_makeLess_17 rfl (lv_at hl 2 rfl) ?_
        obtain ⟨r_18, hc_18, h⟩ := ob1_e h
        refine k_si (va_runSN (As := [.int v4_8, .int v2]) (rest := []) ⟨hx, hb, hml, hown, hts⟩ (c_X9_digitOf l G    v4_8 v2 r_18 hc_18) ⟨va_cnB 2 hts gX4_makeLess_X9_digitOf_n25 rfl rfl rfl (hK.2 _ (List.mem_of_getElem? (i := 7) rfl)) (hts (.initialized RX9) (by decide +kernel)) eX9_digitOf ⟨Nat.le_of_ble_eq_true rfl, Nat.le_of_ble_eq_true rfl⟩, hts (.static yX9_digitOf) (by decide +kernel), trivial⟩ (preSS hK (fun k q h => by cases h)) rfl rfl hl.1 rfl (lv_room (Nat.le_of_ble_eq_true rfl)) dX4_makeLess_18 ⟨Nat.le_of_ble_eq_true rfl, by show 0 + (ms1) + 0 ≤ ms1; omega⟩) ?_
        refine lv_iload hx hb dX4_makeLess_21 (lv_at hl 4 rfl) ?_
        refine lv_iload_n hx hb dX4_makeLess_23 rfl (lv_at hl 3 rfl) ?_
        obtain ⟨r_24, hc_24, h⟩ := ob1_e h
        refine k_si (va_runSN (As := [.int v4_8, .int v3]) (rest := [.int r_18]) ⟨hx, hb, hml, hown, hts⟩ (c_X9_digitOf l G    v4_8 v3 r_24 hc_24) ⟨va_cnB 2 hts gX4_makeLess_X9_digitOf_n25 rfl rfl rfl (hK.2 _ (List.mem_of_getElem? (i := 7) rfl)) (hts (.initialized RX9) (by decide +kernel)) eX9_digitOf ⟨Nat.le_of_ble_eq_true rfl, Nat.le_of_ble_eq_true rfl⟩, hts (.static yX9_digitOf) (by decide +kernel), trivial⟩ (preSS hK (fun k q h => by cases h)) rfl rfl hl.1 rfl (lv_room (Nat.le_of_ble_eq_true rfl)) dX4_makeLess_24 ⟨Nat.le_of_ble_eq_true rfl, by show 0 + (ms1) + 0 ≤ ms1; omega⟩) ?_
        refine lv_isub hx hb dX4_makeLess_27 ?_
        refine lv_istore (lv' := [(5, .int (r_18 - r_24)), (0, .ref l_h), (1, .ref c_h), (2, .int v2), (3, .int v3), (4, .int v4_8)]) hx hb dX4_makeLess_28 hl (by decide) rfl (fun ls hl => ?_)
        refine lv_aload_n hx hb dX4_makeLess_30 rfl (lv_at hl 1 rfl) ?_
        refine va_get (D := G.1) (ci := 4) (v := .ref l_hd) (C := RX4) (T := TX4) (N := 1) hx hb hts hinX4 hown hK.1 hP 0 rfl rfl 0 (by decide) hf9 (fun _ h9 => h9) rfl dX4_makeLess_31 ?_
        refine lv_iconst (v := 0) hx hb dX4_makeLess_34 (by decide) ?_
        refine lv_iload hx hb dX4_makeLess_35 (lv_at hl 5 rfl) ?_
        refine lv_iload hx hb dX4_makeLess_37 (lv_at hl 0 rfl) ?_
        obtain ⟨j0_39, hT39, h⟩ := ob1_e h
        have hJ39 : ∀ (j0_39x : Int32)  (H : Heap) (locs : List Loc) (ls : Array Slot), some j0_39x = some j0_39 → va_P G.1 vwCl ((WL G l_h l_hd) ++ (WD G l_hd d_hp d_q u_2 d_rm_2 d_stateOf d_kindOf d_order d_rooms_2 d_count_2 d_next_8 d_says_2 d_note_2 d_sort_2 d_freshSort_2) ++ (WP G d_hp p_q p_table p_turn p_count) ++ (WC G c_h c_q c_next c_says c_size)) H → va_D A ((WL G l_h l_hd) ++ (WD G l_hd d_hp d_q u_2 d_rm_2 d_stateOf d_kindOf d_order d_rooms_2 d_count_2 d_next_8 d_says_2 d_note_2 d_sort_2 d_freshSort_2) ++ (WP G d_hp p_q p_table p_turn p_count) ++ (WC G c_h c_q c_next c_says c_size)) → va_S A s.heap H locs → lv_has ls 6 [(0, .ref l_h), (1, .ref c_h), (2, .int v2), (3, .int v3), (4, .int v4_8)] → W p l e (rX4_makeLess ms1) s m args below meth c H locs (0 + 5) (0 + (ms1)) Q (F0 m 56 ls [.int j0_39x, .int v4_8, .int (0 : Int32), .ref l_hd]) := by
          intro j0_39x H locs ls hq hP hD hS hl
          obtain rfl := oi1 hq
          obtain ⟨d_next_56, hc_56, h⟩ := ob1_e h
          refine k_cv (wr := (WL G l_h l_hd) ++ (WP G d_hp p_q p_table p_turn p_count) ++ (WC G c_h c_q c_next c_says c_size)) (va_runV (As := [.int (0 : Int32), .int v4_8, .int j0_39]) (rest := []) ⟨hx, hb, hml, hown, hts⟩ (c_X1_write l G l_hd d_hp d_q u_2 d_rm_2 d_stateOf d_kindOf d_order d_rooms_2 d_count_2 d_next_8 d_says_2 d_note_2 d_sort_2 d_freshSort_2  (0 : Int32) v4_8 j0_39 _ d_next_56 hc_56) (cwV 3 hts gX4_makeLess_X1_write rfl rfl rfl ⟨rfl, eX1_write⟩ ⟨Nat.le_of_ble_eq_true rfl, Nat.le_of_ble_eq_true rfl⟩) (preWV (ci := 1) (q0 := 0) hK (hP.sub (ws' := WD G l_hd d_hp d_q u_2 d_rm_2 d_stateOf d_kindOf d_order d_rooms_2 d_count_2 d_next_8 d_says_2 d_note_2 d_sort_2 d_freshSort_2) [1, 2, 3, 4, 5, 6, 7, 8, 9] rfl) (hD.sub (ws' := WD G l_hd d_hp d_q u_2 d_rm_2 d_stateOf d_kindOf d_order d_rooms_2 d_count_2 d_next_8 d_says_2 d_note_2 d_sort_2 d_freshSort_2) [1, 2, 3, 4, 5, 6, 7, 8, 9] (by decide) rfl) rfl rfl) rfl rfl hl.1 rfl (lv_room (Nat.le_of_ble_eq_true rfl)) dX4_makeLess_56 ⟨Nat.le_of_ble_eq_true rfl, by show 0 + (ms1) + 0 ≤ ms1; omega⟩) hP hD hS hA [1, 2, 3, 4, 5, 6, 7, 8, 9] [0, 10, 11, 12, 13, 14] rfl rfl (by decide) (by decide) (fun u_56 H locs hP hD hS => ?_)
          have hP := hP.sub (ws' := (WL G l_h l_hd) ++ (WD G l_hd d_hp d_q u_2 d_rm_2 d_stateOf d_kindOf d_order d_rooms_2 d_count_2 d_next_56 d_says_2 d_note_2 d_sort_2 d_freshSort_2) ++ (WP G d_hp p_q p_table p_turn p_count) ++ (WC G c_h c_q c_next c_says c_size)) [0, 6, 7, 8, 9, 10, 11, 12, 13, 14, 1, 2, 3, 4, 5] rfl
          have hD := hD.sub (ws' := (WL G l_h l_hd) ++ (WD G l_hd d_hp d_q u_2 d_rm_2 d_stateOf d_kindOf d_order d_rooms_2 d_count_2 d_next_56 d_says_2 d_note_2 d_sort_2 d_freshSort_2) ++ (WP G d_hp p_q p_table p_turn p_count) ++ (WC G c_h c_q c_next c_says c_size)) [0, 6, 7, 8, 9, 10, 11, 12, 13, 14, 1, 2, 3, 4, 5] (by decide) rfl
          refine lv_aload_n hx hb dX4_makeLess_59 rfl (lv_at hl 0 rfl) ?_
          refine va_get (D := G.1) (ci := 4) (v := .ref l_hd) (C := RX4) (T := TX4) (N := 1) hx hb hts hinX4 hown hK.1 hP 0 rfl rfl 0 (by decide) hf9 (fun _ h9 => h9) rfl dX4_makeLess_60 ?_
          refine lv_iconst (v := 1) hx hb dX4_makeLess_63 (by decide) ?_
          refine lv_iload hx hb dX4_makeLess_64 (lv_at hl 4 rfl) ?_
          refine lv_iconst (v := 1) hx hb dX4_makeLess_66 (by decide) ?_
          obtain ⟨d_next_67, hc_67, h⟩ := ob1_e h
          refine k_cv (wr := (WL G l_h l_hd) ++ (WP G d_hp p_q p_table p_turn p_count) ++ (WC G c_h c_q c_next c_says c_size)) (va_runV (As := [.int (1 : Int32), .int v4_8, .int (1 : Int32)]) (rest := []) ⟨hx, hb, hml, hown, hts⟩ (c_X1_write l G l_hd d_hp d_q u_2 d_rm_2 d_stateOf d_kindOf d_order d_rooms_2 d_count_2 d_next_56 d_says_2 d_note_2 d_sort_2 d_freshSort_2  (1 : Int32) v4_8 (1 : Int32) _ d_next_67 hc_67) (cwV 3 hts gX4_makeLess_X1_write rfl rfl rfl ⟨rfl, eX1_write⟩ ⟨Nat.le_of_ble_eq_true rfl, Nat.le_of_ble_eq_true rfl⟩) (preWV (ci := 1) (q0 := 0) hK (hP.sub (ws' := WD G l_hd d_hp d_q u_2 d_rm_2 d_stateOf d_kindOf d_order d_rooms_2 d_count_2 d_next_56 d_says_2 d_note_2 d_sort_2 d_freshSort_2) [1, 2, 3, 4, 5, 6, 7, 8, 9] rfl) (hD.sub (ws' := WD G l_hd d_hp d_q u_2 d_rm_2 d_stateOf d_kindOf d_order d_rooms_2 d_count_2 d_next_56 d_says_2 d_note_2 d_sort_2 d_freshSort_2) [1, 2, 3, 4, 5, 6, 7, 8, 9] (by decide) rfl) rfl rfl) rfl rfl hl.1 rfl (lv_room (Nat.le_of_ble_eq_true rfl)) dX4_makeLess_67 ⟨Nat.le_of_ble_eq_true rfl, by show 0 + (ms1) + 0 ≤ ms1; omega⟩) hP hD hS hA [1, 2, 3, 4, 5, 6, 7, 8, 9] [0, 10, 11, 12, 13, 14] rfl rfl (by decide) (by decide) (fun u_67 H locs hP hD hS => ?_)
          have hP := hP.sub (ws' := (WL G l_h l_hd) ++ (WD G l_hd d_hp d_q u_2 d_rm_2 d_stateOf d_kindOf d_order d_rooms_2 d_count_2 d_next_67 d_says_2 d_note_2 d_sort_2 d_freshSort_2) ++ (WP G d_hp p_q p_table p_turn p_count) ++ (WC G c_h c_q c_next c_says c_size)) [0, 6, 7, 8, 9, 10, 11, 12, 13, 14, 1, 2, 3, 4, 5] rfl
          have hD := hD.sub (ws' := (WL G l_h l_hd) ++ (WD G l_hd d_hp d_q u_2 d_rm_2 d_stateOf d_kindOf d_order d_rooms_2 d_count_2 d_next_67 d_says_2 d_note_2 d_sort_2 d_freshSort_2) ++ (WP G d_hp p_q p_table p_turn p_count) ++ (WC G c_h c_q c_next c_says c_size)) [0, 6, 7, 8, 9, 10, 11, 12, 13, 14, 1, 2, 3, 4, 5] (by decide) rfl
          refine lv_aload_n hx hb dX4_makeLess_70 rfl (lv_at hl 0 rfl) ?_
          refine va_get (D := G.1) (ci := 4) (v := .ref l_hd) (C := RX4) (T := TX4) (N := 1) hx hb hts hinX4 hown hK.1 hP 0 rfl rfl 0 (by decide) hf9 (fun _ h9 => h9) rfl dX4_makeLess_71 ?_
          refine lv_iconst (v := 2) hx hb dX4_makeLess_74 (by decide) ?_
          refine lv_iload hx hb dX4_makeLess_75 (lv_at hl 4 rfl) ?_
          refine lv_iconst (v := 2) hx hb dX4_makeLess_77 (by decide) ?_
          obtain ⟨d_next_78, hc_78, h⟩ := ob1_e h
          refine k_cv (wr := (WL G l_h l_hd) ++ (WP G d_hp p_q p_table p_turn p_count) ++ (WC G c_h c_q c_next c_says c_size)) (va_runV (As := [.int (2 : Int32), .int v4_8, .int (2 : Int32)]) (rest := []) ⟨hx, hb, hml, hown, hts⟩ (c_X1_write l G l_hd d_hp d_q u_2 d_rm_2 d_stateOf d_kindOf d_order d_rooms_2 d_count_2 d_next_67 d_says_2 d_note_2 d_sort_2 d_freshSort_2  (2 : Int32) v4_8 (2 : Int32) _ d_next_78 hc_78) (cwV 3 hts gX4_makeLess_X1_write rfl rfl rfl ⟨rfl, eX1_write⟩ ⟨Nat.le_of_ble_eq_true rfl, Nat.le_of_ble_eq_true rfl⟩) (preWV (ci := 1) (q0 := 0) hK (hP.sub (ws' := WD G l_hd d_hp d_q u_2 d_rm_2 d_stateOf d_kindOf d_order d_rooms_2 d_count_2 d_next_67 d_says_2 d_note_2 d_sort_2 d_freshSort_2) [1, 2, 3, 4, 5, 6, 7, 8, 9] rfl) (hD.sub (ws' := WD G l_hd d_hp d_q u_2 d_rm_2 d_stateOf d_kindOf d_order d_rooms_2 d_count_2 d_next_67 d_says_2 d_note_2 d_sort_2 d_freshSort_2) [1, 2, 3, 4, 5, 6, 7, 8, 9] (by decide) rfl) rfl rfl) rfl rfl hl.1 rfl (lv_room (Nat.le_of_ble_eq_true rfl)) dX4_makeLess_78 ⟨Nat.le_of_ble_eq_true rfl, by show 0 + (ms1) + 0 ≤ ms1; omega⟩) hP hD hS hA [1, 2, 3, 4, 5, 6, 7, 8, 9] [0, 10, 11, 12, 13, 14] rfl rfl (by decide) (by decide) (fun u_78 H locs hP hD hS => ?_)
          have hP := hP.sub (ws' := (WL G l_h l_hd) ++ (WD G l_hd d_hp d_q u_2 d_rm_2 d_stateOf d_kindOf d_order d_rooms_2 d_count_2 d_next_78 d_says_2 d_note_2 d_sort_2 d_freshSort_2) ++ (WP G d_hp p_q p_table p_turn p_count) ++ (WC G c_h c_q c_next c_says c_size)) [0, 6, 7, 8, 9, 10, 11, 12, 13, 14, 1, 2, 3, 4, 5] rfl
          have hD := hD.sub (ws' := (WL G l_h l_hd) ++ (WD G l_hd d_hp d_q u_2 d_rm_2 d_stateOf d_kindOf d_order d_rooms_2 d_count_2 d_next_78 d_says_2 d_note_2 d_sort_2 d_freshSort_2) ++ (WP G d_hp p_q p_table p_turn p_count) ++ (WC G c_h c_q c_next c_says c_size)) [0, 6, 7, 8, 9, 10, 11, 12, 13, 14, 1, 2, 3, 4, 5] (by decide) rfl
          refine lv_iinc (v := (v4_8 + (1 : Int32))) (lv' := [(4, .int (v4_8 + (1 : Int32))), (0, .ref l_h), (1, .ref c_h), (2, .int v2), (3, .int v3)]) hx hb dX4_makeLess_81 hl (k := 4) rfl rfl (by decide) rfl (fun ls hl => ?_)
          refine lv_goto (tgt := 8) hx hb dX4_makeLess_84 (by decide) ?_
          exact ih _ _  _ _ _ h hP hD hS (lv_sub hl [1, 2, 3, 4, 0] rfl)
        replace h := hT39
        refine lv_if_ne (tgt := 46) hx hb dX4_makeLess_39 (by decide) (fun c_39 => ?_) (fun c_39 => ?_)
        · replace h := (if_neg c_39).symm.trans h
          refine lv_iload hx hb dX4_makeLess_46 (lv_at hl 0 rfl) ?_
          refine lv_if_ge (tgt := 55) hx hb dX4_makeLess_48 (by decide) (fun c_48 => ?_) (fun c_48 => ?_)
          · replace h := (if_pos c_48).symm.trans h
            refine lv_iconst (v := 2) hx hb dX4_makeLess_55 (by decide) ?_
            exact hJ39 _  _ _ _ h hP hD hS (lv_sub hl [1, 2, 3, 4, 5] rfl)
          · replace h := (if_neg c_48).symm.trans h
            refine lv_iconst (v := 1) hx hb dX4_makeLess_51 (by decide) ?_
            refine lv_goto (tgt := 56) hx hb dX4_makeLess_52 (by decide) ?_
            exact hJ39 _  _ _ _ h hP hD hS (lv_sub hl [1, 2, 3, 4, 5] rfl)
        · replace h := (if_pos c_39).symm.trans h
          refine lv_iconst (v := 0) hx hb dX4_makeLess_42 (by decide) ?_
          refine lv_goto (tgt := 56) hx hb dX4_makeLess_43 (by decide) ?_
          exact hJ39 _  _ _ _ h hP hD hS (lv_sub hl [1, 2, 3, 4, 5] rfl)
  exact hL8 n _ _  _ _ _ hT8 hP hD hS (lv_sub hl [1, 2, 3, 4, 0] rfl)
abbrev rX4_makeSum (ms1 : Nat) : Room := { frames := 5, cells := 5, slots := ms1, locals := 111 }
set_option maxHeartbeats 4000000 in
set_option maxRecDepth 100000 in
theorem c_X4_makeSum (l : Launch) (G : GG) (n : Nat) (l_h : Nat) (l_hd : Nat) (d_hp : Nat) (d_q : Nat → Nat) (d_a : Nat → Nat) (p_q : Nat → Nat) (c_h : Nat) (c_q : Nat → Nat) (d_rm : Nat) (d_stateOf : AI) (d_kindOf : AI) (d_order : AI) (d_rooms : Int32) (d_count : Int32) (d_next : AI) (d_says : AI) (d_note : AI) (d_sort : AI) (d_freshSort : AI) (p_table : AI) (p_turn : Int32) (p_count : Int32) (c_next : AI) (c_says : AI) (c_size : Int32)  (v2 : Int32) (v3 : Int32) (rmx1 : Nat) (ms1 : Nat) (hms1 : rmx1 = d_rm ∨ 12 * rmx1 ≤ ms1) (sz : Nat) (r : Int32) (d_rm_z : Nat) (d_stateOf_z : AI) (d_kindOf_z : AI) (d_order_z : AI) (d_rooms_z : Int32) (d_count_z : Int32) (d_next_z : AI) (d_says_z : AI) (d_note_z : AI) (d_sort_z : AI) (d_freshSort_z : AI) (p_table_z : AI) (p_turn_z : Int32) (p_count_z : Int32) (c_next_z : AI) (c_says_z : AI) (c_size_z : Int32) (h : p_X4_makeSum n d_rm d_stateOf d_kindOf d_order d_rooms d_next d_says d_note d_sort d_freshSort p_table p_turn c_next c_says c_size rmx1 v2 v3 = some (r, d_rm_z, d_stateOf_z, d_kindOf_z, d_order_z, d_rooms_z, d_count_z, d_next_z, d_says_z, d_note_z, d_sort_z, d_freshSort_z, p_table_z, p_turn_z, p_count_z, c_next_z, c_says_z, c_size_z)) : CI l yX4_makeSum wsX4_makeSum (rX4_makeSum ms1) G [.ref l_h, .ref c_h, .int v2, .int v3] ((WL G l_h l_hd) ++ (WD G l_hd d_hp d_q d_a d_rm d_stateOf d_kindOf d_order d_rooms d_count d_next d_says d_note d_sort d_freshSort) ++ (WP G d_hp p_q p_table p_turn p_count) ++ (WC G c_h c_q c_next c_says c_size)) sz r (fun u => (WL G l_h l_hd) ++ (WD G l_hd d_hp d_q u d_rm_z d_stateOf_z d_kindOf_z d_order_z d_rooms_z d_count_z d_next_z d_says_z d_note_z d_sort_z d_freshSort_z) ++ (WP G d_hp p_q p_table_z p_turn_z p_count_z) ++ (WC G c_h c_q c_next_z c_says_z c_size_z)) := by
  refine enterCI (cc := cX4_makeSum) (maxL := 9) (by decide) rfl (Nat.le_of_ble_eq_true rfl) ?_
  intro p e s m args below meth c A Q hx hb hml hown hts hK hP hD hS hA hret ls hl
  have hown : s.vm.findClass RX4 = some m.cls := hown
  have hf9 := hts (.fieldLink RX4 9 "DigitClaims$PlainClaims" "draft" "LDigitClaims$Draft;") (by decide +kernel)
  have hinX4 : ∀ w ∈ wsX40, w ∈ wsX4_makeSum := by decide +kernel
  have hl : lv_has ls 9 [(0, .ref l_h), (1, .ref c_h), (2, .int v2), (3, .int v3)] := hl
  unfold p_X4_makeSum at h
  refine lv_aload_n hx hb dX4_makeSum_0 rfl (lv_at hl 0 rfl) ?_
  refine lv_iconst (v := 3) hx hb dX4_makeSum_1 (by decide) ?_
  obtain ⟨d_rm_2, d_rooms_2, d_count_2, d_next_2, d_says_2, d_note_2, d_sort_2, d_freshSort_2, hc_2, h⟩ := ob8_e h
  refine k_cv (wr := (WP G d_hp p_q p_table p_turn p_count) ++ (WC G c_h c_q c_next c_says c_size)) (va_runV (As := [.int (3 : Int32)]) (rest := []) ⟨hx, hb, hml, hown, hts⟩ (c_X4_start l G l_h l_hd d_hp d_q d_a d_rm d_stateOf d_kindOf d_order d_rooms d_count d_next d_says d_note d_sort d_freshSort  (3 : Int32) rmx1 ms1 hms1 _ d_rm_2 d_rooms_2 d_count_2 d_next_2 d_says_2 d_note_2 d_sort_2 d_freshSort_2 hc_2) (cwV 1 hts gX4_makeSum_X4_start rfl rfl rfl ⟨rfl, eX4_start⟩ ⟨Nat.le_of_ble_eq_true rfl, Nat.le_of_ble_eq_true rfl⟩) (preWV (ci := 4) (q0 := 0) hK (hP.sub (ws' := (WL G l_h l_hd) ++ (WD G l_hd d_hp d_q d_a d_rm d_stateOf d_kindOf d_order d_rooms d_count d_next d_says d_note d_sort d_freshSort)) [0, 1, 2, 3, 4, 5, 6, 7, 8, 9] rfl) (hD.sub (ws' := (WL G l_h l_hd) ++ (WD G l_hd d_hp d_q d_a d_rm d_stateOf d_kindOf d_order d_rooms d_count d_next d_says d_note d_sort d_freshSort)) [0, 1, 2, 3, 4, 5, 6, 7, 8, 9] (by decide) rfl) rfl rfl) rfl rfl hl.1 rfl (lv_room (Nat.le_of_ble_eq_true rfl)) dX4_makeSum_2 ⟨Nat.le_of_ble_eq_true rfl, by show 0 + (ms1) ≤ ms1; omega⟩) hP hD hS hA [0, 1, 2, 3, 4, 5, 6, 7, 8, 9] [10, 11, 12, 13, 14] rfl rfl (by decide) (by decide) (fun u_2 H locs hP hD hS => ?_)
  have hP := hP.sub (ws' := (WL G l_h l_hd) ++ (WD G l_hd d_hp d_q u_2 d_rm_2 d_stateOf d_kindOf d_order d_rooms_2 d_count_2 d_next_2 d_says_2 d_note_2 d_sort_2 d_freshSort_2) ++ (WP G d_hp p_q p_table p_turn p_count) ++ (WC G c_h c_q c_next c_says c_size)) [5, 6, 7, 8, 9, 10, 11, 12, 13, 14, 0, 1, 2, 3, 4] rfl
  have hD := hD.sub (ws' := (WL G l_h l_hd) ++ (WD G l_hd d_hp d_q u_2 d_rm_2 d_stateOf d_kindOf d_order d_rooms_2 d_count_2 d_next_2 d_says_2 d_note_2 d_sort_2 d_freshSort_2) ++ (WP G d_hp p_q p_table p_turn p_count) ++ (WC G c_h c_q c_next c_says c_size)) [5, 6, 7, 8, 9, 10, 11, 12, 13, 14, 0, 1, 2, 3, 4] (by decide) rfl
  refine lv_iconst (v := 3) hx hb dX4_makeSum_5 (by decide) ?_
  refine lv_iload_n hx hb dX4_makeSum_6 rfl (lv_at hl 2 rfl) ?_
  refine lv_isub hx hb dX4_makeSum_7 ?_
  refine lv_iload_n hx hb dX4_makeSum_8 rfl (lv_at hl 3 rfl) ?_
  refine lv_isub hx hb dX4_makeSum_9 ?_
  refine lv_istore (lv' := [(4, .int (((3 : Int32) - v2) - v3)), (0, .ref l_h), (1, .ref c_h), (2, .int v2), (3, .int v3)]) hx hb dX4_makeSum_10 hl (by decide) rfl (fun ls hl => ?_)
  refine lv_iconst (v := 0) hx hb dX4_makeSum_12 (by decide) ?_
  refine lv_istore (lv' := [(5, .int (0 : Int32)), (4, .int (((3 : Int32) - v2) - v3)), (0, .ref l_h), (1, .ref c_h), (2, .int v2), (3, .int v3)]) hx hb dX4_makeSum_13 hl (by decide) rfl (fun ls hl => ?_)
  obtain ⟨d_next_o15, hT15, h⟩ := ob1_e h
  have hX15 : ∀ (d_next_o15x : AI)  (H : Heap) (locs : List Loc) (ls : Array Slot), some d_next_o15x = some d_next_o15 → va_P G.1 vwCl ((WL G l_h l_hd) ++ (WD G l_hd d_hp d_q u_2 d_rm_2 d_stateOf d_kindOf d_order d_rooms_2 d_count_2 d_next_o15x d_says_2 d_note_2 d_sort_2 d_freshSort_2) ++ (WP G d_hp p_q p_table p_turn p_count) ++ (WC G c_h c_q c_next c_says c_size)) H → va_D A ((WL G l_h l_hd) ++ (WD G l_hd d_hp d_q u_2 d_rm_2 d_stateOf d_kindOf d_order d_rooms_2 d_count_2 d_next_o15x d_says_2 d_note_2 d_sort_2 d_freshSort_2) ++ (WP G d_hp p_q p_table p_turn p_count) ++ (WC G c_h c_q c_next c_says c_size)) → va_S A s.heap H locs → lv_has ls 9 [(0, .ref l_h), (1, .ref c_h)] → W p l e (rX4_makeSum ms1) s m args below meth c H locs (0 + 5) (0 + (ms1)) Q (F0 m 114 ls []) := by
    intro d_next_o15x H locs ls hq hP hD hS hl
    obtain rfl := oi1 hq
    refine lv_iconst (v := 0) hx hb dX4_makeSum_114 (by decide) ?_
    refine lv_istore (lv' := [(5, .int (0 : Int32)), (0, .ref l_h), (1, .ref c_h)]) hx hb dX4_makeSum_115 hl (by decide) rfl (fun ls hl => ?_)
    obtain ⟨d_says_o117, hT117, h⟩ := ob1_e h
    have hX117 : ∀ (d_says_o117x : AI)  (H : Heap) (locs : List Loc) (ls : Array Slot), some d_says_o117x = some d_says_o117 → va_P G.1 vwCl ((WL G l_h l_hd) ++ (WD G l_hd d_hp d_q u_2 d_rm_2 d_stateOf d_kindOf d_order d_rooms_2 d_count_2 d_next_o15 d_says_o117x d_note_2 d_sort_2 d_freshSort_2) ++ (WP G d_hp p_q p_table p_turn p_count) ++ (WC G c_h c_q c_next c_says c_size)) H → va_D A ((WL G l_h l_hd) ++ (WD G l_hd d_hp d_q u_2 d_rm_2 d_stateOf d_kindOf d_order d_rooms_2 d_count_2 d_next_o15 d_says_o117x d_note_2 d_sort_2 d_freshSort_2) ++ (WP G d_hp p_q p_table p_turn p_count) ++ (WC G c_h c_q c_next c_says c_size)) → va_S A s.heap H locs → lv_has ls 9 [(0, .ref l_h), (1, .ref c_h)] → W p l e (rX4_makeSum ms1) s m args below meth c H locs (0 + 5) (0 + (ms1)) Q (F0 m 148 ls []) := by
      intro d_says_o117x H locs ls hq hP hD hS hl
      obtain rfl := oi1 hq
      refine lv_aload_n hx hb dX4_makeSum_148 rfl (lv_at hl 0 rfl) ?_
      refine va_get (D := G.1) (ci := 4) (v := .ref l_hd) (C := RX4) (T := TX4) (N := 1) hx hb hts hinX4 hown hK.1 hP 0 rfl rfl 0 (by decide) hf9 (fun _ h9 => h9) rfl dX4_makeSum_149 ?_
      refine lv_aload_n hx hb dX4_makeSum_152 rfl (lv_at hl 1 rfl) ?_
      obtain ⟨r_153, d_stateOf_153, d_kindOf_153, d_order_153, d_sort_153, d_freshSort_153, p_table_153, p_turn_153, p_count_153, c_next_153, c_says_153, c_size_153, hc_153, h⟩ := ob12_e h
      refine k_ci (wr := WL G l_h l_hd) (va_runV (As := [.ref c_h]) (rest := []) ⟨hx, hb, hml, hown, hts⟩ (c_X1_reduceInto l G n l_hd d_hp d_q u_2 p_q c_h c_q d_rm_2 d_stateOf d_kindOf d_order d_rooms_2 d_count_2 d_next_o15 d_says_o117 d_note_2 d_sort_2 d_freshSort_2 p_table p_turn p_count c_next c_says c_size   _ r_153 d_stateOf_153 d_kindOf_153 d_order_153 d_sort_153 d_freshSort_153 p_table_153 p_turn_153 p_count_153 c_next_153 c_says_153 c_size_153 hc_153) (cwV 1 hts gX4_makeSum_X1_reduceInto rfl rfl rfl ⟨rfl, eX1_reduceInto⟩ ⟨Nat.le_of_ble_eq_true rfl, Nat.le_of_ble_eq_true rfl⟩) (preWV (ci := 1) (q0 := 0) hK (hP.sub (ws' := (WD G l_hd d_hp d_q u_2 d_rm_2 d_stateOf d_kindOf d_order d_rooms_2 d_count_2 d_next_o15 d_says_o117 d_note_2 d_sort_2 d_freshSort_2) ++ (WP G d_hp p_q p_table p_turn p_count) ++ (WC G c_h c_q c_next c_says c_size)) [1, 2, 3, 4, 5, 6, 7, 8, 9, 10, 11, 12, 13, 14] rfl) (hD.sub (ws' := (WD G l_hd d_hp d_q u_2 d_rm_2 d_stateOf d_kindOf d_order d_rooms_2 d_count_2 d_next_o15 d_says_o117 d_note_2 d_sort_2 d_freshSort_2) ++ (WP G d_hp p_q p_table p_turn p_count) ++ (WC G c_h c_q c_next c_says c_size)) [1, 2, 3, 4, 5, 6, 7, 8, 9, 10, 11, 12, 13, 14] (by decide) rfl) rfl rfl) rfl rfl hl.1 rfl (lv_room (Nat.le_of_ble_eq_true rfl)) dX4_makeSum_153 ⟨Nat.le_of_ble_eq_true rfl, by show 0 + (ms1) + 0 ≤ ms1; omega⟩) hP hD hS hA [1, 2, 3, 4, 5, 6, 7, 8, 9, 10, 11, 12, 13, 14] [0] rfl rfl (by decide) (by decide) (fun u_153 H locs hP hD hS => ?_)
      have hP := hP.sub (ws' := (WL G l_h l_hd) ++ (WD G l_hd d_hp d_q u_153 d_rm_2 d_stateOf_153 d_kindOf_153 d_order_153 d_rooms_2 d_count_2 d_next_o15 d_says_o117 d_note_2 d_sort_153 d_freshSort_153) ++ (WP G d_hp p_q p_table_153 p_turn_153 p_count_153) ++ (WC G c_h c_q c_next_153 c_says_153 c_size_153)) [0, 1, 2, 3, 4, 5, 6, 7, 8, 9, 10, 11, 12, 13, 14] rfl
      have hD := hD.sub (ws' := (WL G l_h l_hd) ++ (WD G l_hd d_hp d_q u_153 d_rm_2 d_stateOf_153 d_kindOf_153 d_order_153 d_rooms_2 d_count_2 d_next_o15 d_says_o117 d_note_2 d_sort_153 d_freshSort_153) ++ (WP G d_hp p_q p_table_153 p_turn_153 p_count_153) ++ (WC G c_h c_q c_next_153 c_says_153 c_size_153)) [0, 1, 2, 3, 4, 5, 6, 7, 8, 9, 10, 11, 12, 13, 14] (by decide) rfl
      obtain ⟨rfl, rfl, rfl, rfl, rfl, rfl, rfl, rfl, rfl, rfl, rfl, rfl, rfl, rfl, rfl, rfl, rfl, rfl⟩ := oi18 h
      exact hret u_153 _ _ _ _ _ _ _ dX4_makeSum_156 rfl rfl hP hD hS (Nat.le_of_ble_eq_true rfl) (by show 0 + (ms1) ≤ ms1; omega)
    have hL117 : ∀ (f : Nat) (v5_117 : Int32) (d_says_117 : AI)  (H : Heap) (locs : List Loc) (ls : Array Slot), p_X4_makeSum_L117 d_rm_2 d_count_2 f v5_117 d_says_117 = some d_says_o117 → va_P G.1 vwCl ((WL G l_h l_hd) ++ (WD G l_hd d_hp d_q u_2 d_rm_2 d_stateOf d_kindOf d_order d_rooms_2 d_count_2 d_next_o15 d_says_117 d_note_2 d_sort_2 d_freshSort_2) ++ (WP G d_hp p_q p_table p_turn p_count) ++ (WC G c_h c_q c_next c_says c_size)) H → va_D A ((WL G l_h l_hd) ++ (WD G l_hd d_hp d_q u_2 d_rm_2 d_stateOf d_kindOf d_order d_rooms_2 d_count_2 d_next_o15 d_says_117 d_note_2 d_sort_2 d_freshSort_2) ++ (WP G d_hp p_q p_table p_turn p_count) ++ (WC G c_h c_q c_next c_says c_size)) → va_S A s.heap H locs → lv_has ls 9 [(0, .ref l_h), (1, .ref c_h), (5, .int v5_117)] → W p l e (rX4_makeSum ms1) s m args below meth c H locs (0 + 5) (0 + (ms1)) Q (F0 m 117 ls []) := by
      intro f
      induction f with
      | zero => intro v5_117 d_says_117 H locs ls h hP hD hS hl; cases (show none = some _ from h)
      | succ f ih =>
        intro v5_117 d_says_117 H locs ls h hP hD hS hl
        rw [p_X4_makeSum_L117] at h
        refine lv_iload hx hb dX4_makeSum_117 (lv_at hl 2 rfl) ?_
        refine lv_iconst (v := 3) hx hb dX4_makeSum_119 (by decide) ?_
        refine lv_icmp_ge (tgt := 148) hx hb dX4_makeSum_120 (by decide) (fun c_120 => ?_) (fun c_120 => ?_)
        · replace h := (if_pos c_120).symm.trans h
          exact hX117 _  _ _ _ h hP hD hS (lv_sub hl [0, 1] rfl)
        · replace h := (if_neg c_120).symm.trans h
          refine lv_aload_n hx hb dX4_makeSum_123 rfl (lv_at hl 0 rfl) ?_
          refine va_get (D := G.1) (ci := 4) (v := .ref l_hd) (C := RX4) (T := TX4) (N := 1) hx hb hts hinX4 hown hK.1 hP 0 rfl rfl 0 (by decide) hf9 (fun _ h9 => h9) rfl dX4_makeSum_124 ?_
          refine lv_iload hx hb dX4_makeSum_127 (lv_at hl 2 rfl) ?_
          refine lv_iload hx hb dX4_makeSum_129 (lv_at hl 2 rfl) ?_
          obtain ⟨j0_131, hT131, h⟩ := ob1_e h
          have hJ131 : ∀ (j0_131x : Int32)  (H : Heap) (locs : List Loc) (ls : Array Slot), some j0_131x = some j0_131 → va_P G.1 vwCl ((WL G l_h l_hd) ++ (WD G l_hd d_hp d_q u_2 d_rm_2 d_stateOf d_kindOf d_order d_rooms_2 d_count_2 d_next_o15 d_says_117 d_note_2 d_sort_2 d_freshSort_2) ++ (WP G d_hp p_q p_table p_turn p_count) ++ (WC G c_h c_q c_next c_says c_size)) H → va_D A ((WL G l_h l_hd) ++ (WD G l_hd d_hp d_q u_2 d_rm_2 d_stateOf d_kindOf d_order d_rooms_2 d_count_2 d_next_o15 d_says_117 d_note_2 d_sort_2 d_freshSort_2) ++ (WP G d_hp p_q p_table p_turn p_count) ++ (WC G c_h c_q c_next c_says c_size)) → va_S A s.heap H locs → lv_has ls 9 [(0, .ref l_h), (1, .ref c_h), (5, .int v5_117)] → W p l e (rX4_makeSum ms1) s m args below meth c H locs (0 + 5) (0 + (ms1)) Q (F0 m 139 ls [.int j0_131x, .int v5_117, .ref l_hd]) := by
            intro j0_131x H locs ls hq hP hD hS hl
            obtain rfl := oi1 hq
            obtain ⟨d_says_139, hc_139, h⟩ := ob1_e h
            refine k_cv (wr := (WL G l_h l_hd) ++ (WP G d_hp p_q p_table p_turn p_count) ++ (WC G c_h c_q c_next c_says c_size)) (va_runV (As := [.int v5_117, .int j0_131]) (rest := []) ⟨hx, hb, hml, hown, hts⟩ (c_X1_writeSays l G l_hd d_hp d_q u_2 d_rm_2 d_stateOf d_kindOf d_order d_rooms_2 d_count_2 d_next_o15 d_says_117 d_note_2 d_sort_2 d_freshSort_2  v5_117 j0_131 _ d_says_139 hc_139) (cwV 2 hts gX4_makeSum_X1_writeSays rfl rfl rfl ⟨rfl, eX1_writeSays⟩ ⟨Nat.le_of_ble_eq_true rfl, Nat.le_of_ble_eq_true rfl⟩) (preWV (ci := 1) (q0 := 0) hK (hP.sub (ws' := WD G l_hd d_hp d_q u_2 d_rm_2 d_stateOf d_kindOf d_order d_rooms_2 d_count_2 d_next_o15 d_says_117 d_note_2 d_sort_2 d_freshSort_2) [1, 2, 3, 4, 5, 6, 7, 8, 9] rfl) (hD.sub (ws' := WD G l_hd d_hp d_q u_2 d_rm_2 d_stateOf d_kindOf d_order d_rooms_2 d_count_2 d_next_o15 d_says_117 d_note_2 d_sort_2 d_freshSort_2) [1, 2, 3, 4, 5, 6, 7, 8, 9] (by decide) rfl) rfl rfl) rfl rfl hl.1 rfl (lv_room (Nat.le_of_ble_eq_true rfl)) dX4_makeSum_139 ⟨Nat.le_of_ble_eq_true rfl, by show 0 + (ms1) + 0 ≤ ms1; omega⟩) hP hD hS hA [1, 2, 3, 4, 5, 6, 7, 8, 9] [0, 10, 11, 12, 13, 14] rfl rfl (by decide) (by decide) (fun u_139 H locs hP hD hS => ?_)
            have hP := hP.sub (ws' := (WL G l_h l_hd) ++ (WD G l_hd d_hp d_q u_2 d_rm_2 d_stateOf d_kindOf d_order d_rooms_2 d_count_2 d_next_o15 d_says_139 d_note_2 d_sort_2 d_freshSort_2) ++ (WP G d_hp p_q p_table p_turn p_count) ++ (WC G c_h c_q c_next c_says c_size)) [0, 6, 7, 8, 9, 10, 11, 12, 13, 14, 1, 2, 3, 4, 5] rfl
            have hD := hD.sub (ws' := (WL G l_h l_hd) ++ (WD G l_hd d_hp d_q u_2 d_rm_2 d_stateOf d_kindOf d_order d_rooms_2 d_count_2 d_next_o15 d_says_139 d_note_2 d_sort_2 d_freshSort_2) ++ (WP G d_hp p_q p_table p_turn p_count) ++ (WC G c_h c_q c_next c_says c_size)) [0, 6, 7, 8, 9, 10, 11, 12, 13, 14, 1, 2, 3, 4, 5] (by decide) rfl
            refine lv_iinc (v := (v5_117 + (1 : Int32))) (lv' := [(5, .int (v5_117 + (1 : Int32))), (0, .ref l_h), (1, .ref c_h)]) hx hb dX4_makeSum_142 hl (k := 2) rfl rfl (by decide) rfl (fun ls hl => ?_)
            refine lv_goto (tgt := 117) hx hb dX4_makeSum_145 (by decide) ?_
            exact ih _ _  _ _ _ h hP hD hS (lv_sub hl [1, 2, 0] rfl)
          replace h := hT131
          refine lv_if_ne (tgt := 138) hx hb dX4_makeSum_131 (by decide) (fun c_131 => ?_) (fun c_131 => ?_)
          · replace h := (if_neg c_131).symm.trans h
            refine lv_iconst (v := 0) hx hb dX4_makeSum_138 (by decide) ?_
            exact hJ131 _  _ _ _ h hP hD hS (lv_sub hl [0, 1, 2] rfl)
          · replace h := (if_pos c_131).symm.trans h
            refine lv_iconst (v := 1) hx hb dX4_makeSum_134 (by decide) ?_
            refine lv_goto (tgt := 139) hx hb dX4_makeSum_135 (by decide) ?_
            exact hJ131 _  _ _ _ h hP hD hS (lv_sub hl [0, 1, 2] rfl)
    exact hL117 n _ _  _ _ _ hT117 hP hD hS (lv_sub hl [1, 2, 0] rfl)
  have hL15 : ∀ (f : Nat) (v5_15 : Int32) (d_next_15 : AI)  (H : Heap) (locs : List Loc) (ls : Array Slot), p_X4_makeSum_L15 n v2 v3 d_rm_2 d_count_2 f v5_15 d_next_15 = some d_next_o15 → va_P G.1 vwCl ((WL G l_h l_hd) ++ (WD G l_hd d_hp d_q u_2 d_rm_2 d_stateOf d_kindOf d_order d_rooms_2 d_count_2 d_next_15 d_says_2 d_note_2 d_sort_2 d_freshSort_2) ++ (WP G d_hp p_q p_table p_turn p_count) ++ (WC G c_h c_q c_next c_says c_size)) H → va_D A ((WL G l_h l_hd) ++ (WD G l_hd d_hp d_q u_2 d_rm_2 d_stateOf d_kindOf d_order d_rooms_2 d_count_2 d_next_15 d_says_2 d_note_2 d_sort_2 d_freshSort_2) ++ (WP G d_hp p_q p_table p_turn p_count) ++ (WC G c_h c_q c_next c_says c_size)) → va_S A s.heap H locs → lv_has ls 9 [(0, .ref l_h), (1, .ref c_h), (2, .int v2), (3, .int v3), (4, .int (((3 : Int32) - v2) - v3)), (5, .int v5_15)] → W p l e (rX4_makeSum ms1) s m args below meth c H locs (0 + 5) (0 + (ms1)) Q (F0 m 15 ls []) := by
    intro f
    induction f with
    | zero => intro v5_15 d_next_15 H locs ls h hP hD hS hl; cases (show none = some _ from h)
    | succ f ih =>
      intro v5_15 d_next_15 H locs ls h hP hD hS hl
      rw [p_X4_makeSum_L15] at h
      refine lv_iload hx hb dX4_makeSum_15 (lv_at hl 5 rfl) ?_
      refine lv_bipush (v := 8) hx hb dX4_makeSum_17 (by decide) ?_
      refine lv_icmp_ge (tgt := 114) hx hb dX4_makeSum_19 (by decide) (fun c_19 => ?_) (fun c_19 => ?_)
      · replace h := (if_pos c_19).symm.trans h
        exact hX15 _  _ _ _ h hP hD hS (lv_sub hl [0, 1] rfl)
      · replace h := (if_neg c_19).symm.trans h
        refine lv_iload hx hb dX4_makeSum_22 (lv_at hl 5 rfl) ?_
        refine lv_iload hx hb dX4_makeSum_24 (lv_at hl 4 rfl) ?_
        obtain ⟨r_26, hc_26, h⟩ := ob1_e h
        refine k_si (va_runSN (As := [.int v5_15, .int (((3 : Int32) - v2) - v3)]) (rest := []) ⟨hx, hb, hml, hown, hts⟩ (c_X9_digitOf l G    v5_15 (((3 : Int32) - v2) - v3) r_26 hc_26) ⟨va_cnB 2 hts gX4_makeSum_X9_digitOf_n25 rfl rfl rfl (hK.2 _ (List.mem_of_getElem? (i := 7) rfl)) (hts (.initialized RX9) (by decide +kernel)) eX9_digitOf ⟨Nat.le_of_ble_eq_true rfl, Nat.le_of_ble_eq_true rfl⟩, hts (.static yX9_digitOf) (by decide +kernel), trivial⟩ (preSS hK (fun k q h => by cases h)) rfl rfl hl.1 rfl (lv_room (Nat.le_of_ble_eq_true rfl)) dX4_makeSum_26 ⟨Nat.le_of_ble_eq_true rfl, by show 0 + (ms1) + 0 ≤ ms1; omega⟩) ?_
        refine lv_iload hx hb dX4_makeSum_29 (lv_at hl 5 rfl) ?_
        refine lv_iload_n hx hb dX4_makeSum_31 rfl (lv_at hl 2 rfl) ?_
        obtain ⟨r_32, hc_32, h⟩ := ob1_e h
        refine k_si (va_runSN (As := [.int v5_15, .int v2]) (rest := [.int r_26]) ⟨hx, hb, hml, hown, hts⟩ (c_X9_digitOf l G    v5_15 v2 r_32 hc_32) ⟨va_cnB 2 hts gX4_makeSum_X9_digitOf_n25 rfl rfl rfl (hK.2 _ (List.mem_of_getElem? (i := 7) rfl)) (hts (.initialized RX9) (by decide +kernel)) eX9_digitOf ⟨Nat.le_of_ble_eq_true rfl, Nat.le_of_ble_eq_true rfl⟩, hts (.static yX9_digitOf) (by decide +kernel), trivial⟩ (preSS hK (fun k q h => by cases h)) rfl rfl hl.1 rfl (lv_room (Nat.le_of_ble_eq_true rfl)) dX4_makeSum_32 ⟨Nat.le_of_ble_eq_true rfl, by show 0 + (ms1) + 0 ≤ ms1; omega⟩) ?_
        refine lv_isub hx hb dX4_makeSum_35 ?_
        refine lv_iload hx hb dX4_makeSum_36 (lv_at hl 5 rfl) ?_
        refine lv_iload_n hx hb dX4_makeSum_38 rfl (lv_at hl 3 rfl) ?_
        obtain ⟨r_39, hc_39, h⟩ := ob1_e h
        refine k_si (va_runSN (As := [.int v5_15, .int v3]) (rest := [.int (r_26 - r_32)]) ⟨hx, hb, hml, hown, hts⟩ (c_X9_digitOf l G    v5_15 v3 r_39 hc_39) ⟨va_cnB 2 hts gX4_makeSum_X9_digitOf_n25 rfl rfl rfl (hK.2 _ (List.mem_of_getElem? (i := 7) rfl)) (hts (.initialized RX9) (by decide +kernel)) eX9_digitOf ⟨Nat.le_of_ble_eq_true rfl, Nat.le_of_ble_eq_true rfl⟩, hts (.static yX9_digitOf) (by decide +kernel), trivial⟩ (preSS hK (fun k q h => by cases h)) rfl rfl hl.1 rfl (lv_room (Nat.le_of_ble_eq_true rfl)) dX4_makeSum_39 ⟨Nat.le_of_ble_eq_true rfl, by show 0 + (ms1) + 0 ≤ ms1; omega⟩) ?_
        refine lv_isub hx hb dX4_makeSum_42 ?_
        refine lv_istore (lv' := [(6, .int ((r_26 - r_32) - r_39)), (0, .ref l_h), (1, .ref c_h), (2, .int v2), (3, .int v3), (4, .int (((3 : Int32) - v2) - v3)), (5, .int v5_15)]) hx hb dX4_makeSum_43 hl (by decide) rfl (fun ls hl => ?_)
        refine lv_iconst (v := 0) hx hb dX4_makeSum_45 (by decide) ?_
        refine lv_istore (lv' := [(7, .int (0 : Int32)), (6, .int ((r_26 - r_32) - r_39)), (0, .ref l_h), (1, .ref c_h), (2, .int v2), (3, .int v3), (4, .int (((3 : Int32) - v2) - v3)), (5, .int v5_15)]) hx hb dX4_makeSum_46 hl (by decide) rfl (fun ls hl => ?_)
        obtain ⟨d_next_o48, hT48, h⟩ := ob1_e h
        have hX48 : ∀ (d_next_o48x : AI)  (H : Heap) (locs : List Loc) (ls : Array Slot), some d_next_o48x = some d_next_o48 → va_P G.1 vwCl ((WL G l_h l_hd) ++ (WD G l_hd d_hp d_q u_2 d_rm_2 d_stateOf d_kindOf d_order d_rooms_2 d_count_2 d_next_o48x d_says_2 d_note_2 d_sort_2 d_freshSort_2) ++ (WP G d_hp p_q p_table p_turn p_count) ++ (WC G c_h c_q c_next c_says c_size)) H → va_D A ((WL G l_h l_hd) ++ (WD G l_hd d_hp d_q u_2 d_rm_2 d_stateOf d_kindOf d_order d_rooms_2 d_count_2 d_next_o48x d_says_2 d_note_2 d_sort_2 d_freshSort_2) ++ (WP G d_hp p_q p_table p_turn p_count) ++ (WC G c_h c_q c_next c_says c_size)) → va_S A s.heap H locs → lv_has ls 9 [(0, .ref l_h), (1, .ref c_h), (2, .int v2), (3, .int v3), (4, .int (((3 : Int32) - v2) - v3)), (5, .int v5_15)] → W p l e (rX4_makeSum ms1) s m args below meth c H locs (0 + 5) (0 + (ms1)) Q (F0 m 97 ls []) := by
          intro d_next_o48x H locs ls hq hP hD hS hl
          obtain rfl := oi1 hq
          refine lv_aload_n hx hb dX4_makeSum_97 rfl (lv_at hl 0 rfl) ?_
          refine va_get (D := G.1) (ci := 4) (v := .ref l_hd) (C := RX4) (T := TX4) (N := 1) hx hb hts hinX4 hown hK.1 hP 0 rfl rfl 0 (by decide) hf9 (fun _ h9 => h9) rfl dX4_makeSum_98 ?_
          refine lv_iconst (v := 2) hx hb dX4_makeSum_101 (by decide) ?_
          refine lv_iload hx hb dX4_makeSum_102 (lv_at hl 5 rfl) ?_
          refine lv_iconst (v := 2) hx hb dX4_makeSum_104 (by decide) ?_
          obtain ⟨d_next_105, hc_105, h⟩ := ob1_e h
          refine k_cv (wr := (WL G l_h l_hd) ++ (WP G d_hp p_q p_table p_turn p_count) ++ (WC G c_h c_q c_next c_says c_size)) (va_runV (As := [.int (2 : Int32), .int v5_15, .int (2 : Int32)]) (rest := []) ⟨hx, hb, hml, hown, hts⟩ (c_X1_write l G l_hd d_hp d_q u_2 d_rm_2 d_stateOf d_kindOf d_order d_rooms_2 d_count_2 d_next_o48 d_says_2 d_note_2 d_sort_2 d_freshSort_2  (2 : Int32) v5_15 (2 : Int32) _ d_next_105 hc_105) (cwV 3 hts gX4_makeSum_X1_write rfl rfl rfl ⟨rfl, eX1_write⟩ ⟨Nat.le_of_ble_eq_true rfl, Nat.le_of_ble_eq_true rfl⟩) (preWV (ci := 1) (q0 := 0) hK (hP.sub (ws' := WD G l_hd d_hp d_q u_2 d_rm_2 d_stateOf d_kindOf d_order d_rooms_2 d_count_2 d_next_o48 d_says_2 d_note_2 d_sort_2 d_freshSort_2) [1, 2, 3, 4, 5, 6, 7, 8, 9] rfl) (hD.sub (ws' := WD G l_hd d_hp d_q u_2 d_rm_2 d_stateOf d_kindOf d_order d_rooms_2 d_count_2 d_next_o48 d_says_2 d_note_2 d_sort_2 d_freshSort_2) [1, 2, 3, 4, 5, 6, 7, 8, 9] (by decide) rfl) rfl rfl) rfl rfl hl.1 rfl (lv_room (Nat.le_of_ble_eq_true rfl)) dX4_makeSum_105 ⟨Nat.le_of_ble_eq_true rfl, by show 0 + (ms1) + 0 ≤ ms1; omega⟩) hP hD hS hA [1, 2, 3, 4, 5, 6, 7, 8, 9] [0, 10, 11, 12, 13, 14] rfl rfl (by decide) (by decide) (fun u_105 H locs hP hD hS => ?_)
          have hP := hP.sub (ws' := (WL G l_h l_hd) ++ (WD G l_hd d_hp d_q u_2 d_rm_2 d_stateOf d_kindOf d_order d_rooms_2 d_count_2 d_next_105 d_says_2 d_note_2 d_sort_2 d_freshSort_2) ++ (WP G d_hp p_q p_table p_turn p_count) ++ (WC G c_h c_q c_next c_says c_size)) [0, 6, 7, 8, 9, 10, 11, 12, 13, 14, 1, 2, 3, 4, 5] rfl
          have hD := hD.sub (ws' := (WL G l_h l_hd) ++ (WD G l_hd d_hp d_q u_2 d_rm_2 d_stateOf d_kindOf d_order d_rooms_2 d_count_2 d_next_105 d_says_2 d_note_2 d_sort_2 d_freshSort_2) ++ (WP G d_hp p_q p_table p_turn p_count) ++ (WC G c_h c_q c_next c_says c_size)) [0, 6, 7, 8, 9, 10, 11, 12, 13, 14, 1, 2, 3, 4, 5] (by decide) rfl
          refine lv_iinc (v := (v5_15 + (1 : Int32))) (lv' := [(5, .int (v5_15 + (1 : Int32))), (0, .ref l_h), (1, .ref c_h), (2, .int v2), (3, .int v3), (4, .int (((3 : Int32) - v2) - v3))]) hx hb dX4_makeSum_108 hl (k := 5) rfl rfl (by decide) rfl (fun ls hl => ?_)
          refine lv_goto (tgt := 15) hx hb dX4_makeSum_111 (by decide) ?_
          exact ih _ _  _ _ _ h hP hD hS (lv_sub hl [1, 2, 3, 4, 5, 0] rfl)
        have hL48 : ∀ (f : Nat) (v7_48 : Int32) (d_next_48 : AI)  (H : Heap) (locs : List Loc) (ls : Array Slot), p_X4_makeSum_L48 r_26 r_32 r_39 d_rm_2 d_count_2 v5_15 f v7_48 d_next_48 = some d_next_o48 → va_P G.1 vwCl ((WL G l_h l_hd) ++ (WD G l_hd d_hp d_q u_2 d_rm_2 d_stateOf d_kindOf d_order d_rooms_2 d_count_2 d_next_48 d_says_2 d_note_2 d_sort_2 d_freshSort_2) ++ (WP G d_hp p_q p_table p_turn p_count) ++ (WC G c_h c_q c_next c_says c_size)) H → va_D A ((WL G l_h l_hd) ++ (WD G l_hd d_hp d_q u_2 d_rm_2 d_stateOf d_kindOf d_order d_rooms_2 d_count_2 d_next_48 d_says_2 d_note_2 d_sort_2 d_freshSort_2) ++ (WP G d_hp p_q p_table p_turn p_count) ++ (WC G c_h c_q c_next c_says c_size)) → va_S A s.heap H locs → lv_has ls 9 [(0, .ref l_h), (1, .ref c_h), (2, .int v2), (3, .int v3), (4, .int (((3 : Int32) - v2) - v3)), (5, .int v5_15), (6, .int ((r_26 - r_32) - r_39)), (7, .int v7_48)] → W p l e (rX4_makeSum ms1) s m args below meth c H locs (0 + 5) (0 + (ms1)) Q (F0 m 48 ls []) := by
          intro f
          induction f with
          | zero => intro v7_48 d_next_48 H locs ls h hP hD hS hl; cases (show none = some _ from h)
          | succ f ih =>
            intro v7_48 d_next_48 H locs ls h hP hD hS hl
            rw [p_X4_makeSum_L48] at h
            refine lv_iload hx hb dX4_makeSum_48 (lv_at hl 7 rfl) ?_
            refine lv_iconst (v := 2) hx hb dX4_makeSum_50 (by decide) ?_
            refine lv_icmp_ge (tgt := 97) hx hb dX4_makeSum_51 (by decide) (fun c_51 => ?_) (fun c_51 => ?_)
            · replace h := (if_pos c_51).symm.trans h
              exact hX48 _  _ _ _ h hP hD hS (lv_sub hl [0, 1, 2, 3, 4, 5] rfl)
            · replace h := (if_neg c_51).symm.trans h
              refine lv_iconst (v := 2) hx hb dX4_makeSum_54 (by decide) ?_
              refine lv_iload hx hb dX4_makeSum_55 (lv_at hl 7 rfl) ?_
              refine lv_imul hx hb dX4_makeSum_57 ?_
              refine lv_iload hx hb dX4_makeSum_58 (lv_at hl 6 rfl) ?_
              refine lv_iadd hx hb dX4_makeSum_60 ?_
              refine lv_istore (lv' := [(8, .int (((2 : Int32) * v7_48) + ((r_26 - r_32) - r_39))), (0, .ref l_h), (1, .ref c_h), (2, .int v2), (3, .int v3), (4, .int (((3 : Int32) - v2) - v3)), (5, .int v5_15), (6, .int ((r_26 - r_32) - r_39)), (7, .int v7_48)]) hx hb dX4_makeSum_61 hl (by decide) rfl (fun ls hl => ?_)
              refine lv_aload_n hx hb dX4_makeSum_63 rfl (lv_at hl 1 rfl) ?_
              refine va_get (D := G.1) (ci := 4) (v := .ref l_hd) (C := RX4) (T := TX4) (N := 1) hx hb hts hinX4 hown hK.1 hP 0 rfl rfl 0 (by decide) hf9 (fun _ h9 => h9) rfl dX4_makeSum_64 ?_
              refine lv_iload hx hb dX4_makeSum_67 (lv_at hl 8 rfl) ?_
              refine lv_iload hx hb dX4_makeSum_69 (lv_at hl 6 rfl) ?_
              refine lv_iload hx hb dX4_makeSum_71 (lv_at hl 0 rfl) ?_
              obtain ⟨j0_73, hT73, h⟩ := ob1_e h
              have hJ73 : ∀ (j0_73x : Int32)  (H : Heap) (locs : List Loc) (ls : Array Slot), some j0_73x = some j0_73 → va_P G.1 vwCl ((WL G l_h l_hd) ++ (WD G l_hd d_hp d_q u_2 d_rm_2 d_stateOf d_kindOf d_order d_rooms_2 d_count_2 d_next_48 d_says_2 d_note_2 d_sort_2 d_freshSort_2) ++ (WP G d_hp p_q p_table p_turn p_count) ++ (WC G c_h c_q c_next c_says c_size)) H → va_D A ((WL G l_h l_hd) ++ (WD G l_hd d_hp d_q u_2 d_rm_2 d_stateOf d_kindOf d_order d_rooms_2 d_count_2 d_next_48 d_says_2 d_note_2 d_sort_2 d_freshSort_2) ++ (WP G d_hp p_q p_table p_turn p_count) ++ (WC G c_h c_q c_next c_says c_size)) → va_S A s.heap H locs → lv_has ls 9 [(0, .ref l_h), (1, .ref c_h), (2, .int v2), (3, .int v3), (4, .int (((3 : Int32) - v2) - v3)), (5, .int v5_15), (6, .int ((r_26 - r_32) - r_39)), (7, .int v7_48)] → W p l e (rX4_makeSum ms1) s m args below meth c H locs (0 + 5) (0 + (ms1)) Q (F0 m 88 ls [.int j0_73x, .int v5_15, .int v7_48, .ref l_hd]) := by
                intro j0_73x H locs ls hq hP hD hS hl
                obtain rfl := oi1 hq
                obtain ⟨d_next_88, hc_88, h⟩ := ob1_e h
                refine k_cv (wr := (WL G l_h l_hd) ++ (WP G d_hp p_q p_table p_turn p_count) ++ (WC G c_h c_q c_next c_says c_size)) (va_runV (As := [.int v7_48, .int v5_15, .int j0_73]) (rest := []) ⟨hx, hb, hml, hown, hts⟩ (c_X1_write l G l_hd d_hp d_q u_2 d_rm_2 d_stateOf d_kindOf d_order d_rooms_2 d_count_2 d_next_48 d_says_2 d_note_2 d_sort_2 d_freshSort_2  v7_48 v5_15 j0_73 _ d_next_88 hc_88) (cwV 3 hts gX4_makeSum_X1_write rfl rfl rfl ⟨rfl, eX1_write⟩ ⟨Nat.le_of_ble_eq_true rfl, Nat.le_of_ble_eq_true rfl⟩) (preWV (ci := 1) (q0 := 0) hK (hP.sub (ws' := WD G l_hd d_hp d_q u_2 d_rm_2 d_stateOf d_kindOf d_order d_rooms_2 d_count_2 d_next_48 d_says_2 d_note_2 d_sort_2 d_freshSort_2) [1, 2, 3, 4, 5, 6, 7, 8, 9] rfl) (hD.sub (ws' := WD G l_hd d_hp d_q u_2 d_rm_2 d_stateOf d_kindOf d_order d_rooms_2 d_count_2 d_next_48 d_says_2 d_note_2 d_sort_2 d_freshSort_2) [1, 2, 3, 4, 5, 6, 7, 8, 9] (by decide) rfl) rfl rfl) rfl rfl hl.1 rfl (lv_room (Nat.le_of_ble_eq_true rfl)) dX4_makeSum_88 ⟨Nat.le_of_ble_eq_true rfl, by show 0 + (ms1) + 0 ≤ ms1; omega⟩) hP hD hS hA [1, 2, 3, 4, 5, 6, 7, 8, 9] [0, 10, 11, 12, 13, 14] rfl rfl (by decide) (by decide) (fun u_88 H locs hP hD hS => ?_)
                have hP := hP.sub (ws' := (WL G l_h l_hd) ++ (WD G l_hd d_hp d_q u_2 d_rm_2 d_stateOf d_kindOf d_order d_rooms_2 d_count_2 d_next_88 d_says_2 d_note_2 d_sort_2 d_freshSort_2) ++ (WP G d_hp p_q p_table p_turn p_count) ++ (WC G c_h c_q c_next c_says c_size)) [0, 6, 7, 8, 9, 10, 11, 12, 13, 14, 1, 2, 3, 4, 5] rfl
                have hD := hD.sub (ws' := (WL G l_h l_hd) ++ (WD G l_hd d_hp d_q u_2 d_rm_2 d_stateOf d_kindOf d_order d_rooms_2 d_count_2 d_next_88 d_says_2 d_note_2 d_sort_2 d_freshSort_2) ++ (WP G d_hp p_q p_table p_turn p_count) ++ (WC G c_h c_q c_next c_says c_size)) [0, 6, 7, 8, 9, 10, 11, 12, 13, 14, 1, 2, 3, 4, 5] (by decide) rfl
                refine lv_iinc (v := (v7_48 + (1 : Int32))) (lv' := [(7, .int (v7_48 + (1 : Int32))), (0, .ref l_h), (1, .ref c_h), (2, .int v2), (3, .int v3), (4, .int (((3 : Int32) - v2) - v3)), (5, .int v5_15), (6, .int ((r_26 - r_32) - r_39))]) hx hb dX4_makeSum_91 hl (k := 7) rfl rfl (by decide) rfl (fun ls hl => ?_)
                refine lv_goto (tgt := 48) hx hb dX4_makeSum_94 (by decide) ?_
                exact ih _ _  _ _ _ h hP hD hS (lv_sub hl [1, 2, 3, 4, 5, 6, 7, 0] rfl)
              replace h := hT73
              refine lv_if_eq (tgt := 82) hx hb dX4_makeSum_73 (by decide) (fun c_73 => ?_) (fun c_73 => ?_)
              · replace h := (if_pos c_73).symm.trans h
                refine lv_iload hx hb dX4_makeSum_82 (lv_at hl 0 rfl) ?_
                refine lv_goto (tgt := 88) hx hb dX4_makeSum_84 (by decide) ?_
                exact hJ73 _  _ _ _ h hP hD hS (lv_sub hl [1, 2, 3, 4, 5, 6, 7, 8] rfl)
              · replace h := (if_neg c_73).symm.trans h
                refine lv_iload hx hb dX4_makeSum_76 (lv_at hl 0 rfl) ?_
                refine lv_iconst (v := 1) hx hb dX4_makeSum_78 (by decide) ?_
                refine lv_icmp_ne (tgt := 87) hx hb dX4_makeSum_79 (by decide) (fun c_79 => ?_) (fun c_79 => ?_)
                · replace h := (if_neg c_79).symm.trans h
                  refine lv_iconst (v := 2) hx hb dX4_makeSum_87 (by decide) ?_
                  exact hJ73 _  _ _ _ h hP hD hS (lv_sub hl [1, 2, 3, 4, 5, 6, 7, 8] rfl)
                · replace h := (if_pos c_79).symm.trans h
                  refine lv_iload hx hb dX4_makeSum_82 (lv_at hl 0 rfl) ?_
                  refine lv_goto (tgt := 88) hx hb dX4_makeSum_84 (by decide) ?_
                  exact hJ73 _  _ _ _ h hP hD hS (lv_sub hl [1, 2, 3, 4, 5, 6, 7, 8] rfl)
        exact hL48 n _ _  _ _ _ hT48 hP hD hS (lv_sub hl [2, 3, 4, 5, 6, 7, 1, 0] rfl)
  exact hL15 n _ _  _ _ _ hT15 hP hD hS (lv_sub hl [2, 3, 4, 5, 1, 0] rfl)
abbrev rX4_makeFixed (ms1 : Nat) : Room := { frames := 5, cells := 5, slots := ms1, locals := 111 }
set_option maxHeartbeats 4000000 in
set_option maxRecDepth 100000 in
theorem c_X4_makeFixed (l : Launch) (G : GG) (n : Nat) (l_h : Nat) (l_hd : Nat) (d_hp : Nat) (d_q : Nat → Nat) (d_a : Nat → Nat) (p_q : Nat → Nat) (c_h : Nat) (c_q : Nat → Nat) (d_rm : Nat) (d_stateOf : AI) (d_kindOf : AI) (d_order : AI) (d_rooms : Int32) (d_count : Int32) (d_next : AI) (d_says : AI) (d_note : AI) (d_sort : AI) (d_freshSort : AI) (p_table : AI) (p_turn : Int32) (p_count : Int32) (c_next : AI) (c_says : AI) (c_size : Int32)  (v2 : Int32) (v3 : Int32) (rmx1 : Nat) (ms1 : Nat) (hms1 : rmx1 = d_rm ∨ 12 * rmx1 ≤ ms1) (sz : Nat) (r : Int32) (d_rm_z : Nat) (d_stateOf_z : AI) (d_kindOf_z : AI) (d_order_z : AI) (d_rooms_z : Int32) (d_count_z : Int32) (d_next_z : AI) (d_says_z : AI) (d_note_z : AI) (d_sort_z : AI) (d_freshSort_z : AI) (p_table_z : AI) (p_turn_z : Int32) (p_count_z : Int32) (c_next_z : AI) (c_says_z : AI) (c_size_z : Int32) (h : p_X4_makeFixed n d_rm d_stateOf d_kindOf d_order d_rooms d_next d_says d_note d_sort d_freshSort p_table p_turn c_next c_says c_size rmx1 v2 v3 = some (r, d_rm_z, d_stateOf_z, d_kindOf_z, d_order_z, d_rooms_z, d_count_z, d_next_z, d_says_z, d_note_z, d_sort_z, d_freshSort_z, p_table_z, p_turn_z, p_count_z, c_next_z, c_says_z, c_size_z)) : CI l yX4_makeFixed wsX4_makeFixed (rX4_makeFixed ms1) G [.ref l_h, .ref c_h, .int v2, .int v3] ((WL G l_h l_hd) ++ (WD G l_hd d_hp d_q d_a d_rm d_stateOf d_kindOf d_order d_rooms d_count d_next d_says d_note d_sort d_freshSort) ++ (WP G d_hp p_q p_table p_turn p_count) ++ (WC G c_h c_q c_next c_says c_size)) sz r (fun u => (WL G l_h l_hd) ++ (WD G l_hd d_hp d_q u d_rm_z d_stateOf_z d_kindOf_z d_order_z d_rooms_z d_count_z d_next_z d_says_z d_note_z d_sort_z d_freshSort_z) ++ (WP G d_hp p_q p_table_z p_turn_z p_count_z) ++ (WC G c_h c_q c_next_z c_says_z c_size_z)) := by
  refine enterCI (cc := cX4_makeFixed) (maxL := 8) (by decide) rfl (Nat.le_of_ble_eq_true rfl) ?_
  intro p e s m args below meth c A Q hx hb hml hown hts hK hP hD hS hA hret ls hl
  have hown : s.vm.findClass RX4 = some m.cls := hown
  have hf9 := hts (.fieldLink RX4 9 "DigitClaims$PlainClaims" "draft" "LDigitClaims$Draft;") (by decide +kernel)
  have hinX4 : ∀ w ∈ wsX40, w ∈ wsX4_makeFixed := by decide +kernel
  have hl : lv_has ls 8 [(0, .ref l_h), (1, .ref c_h), (2, .int v2), (3, .int v3)] := hl
  unfold p_X4_makeFixed at h
  refine lv_iload_n hx hb dX4_makeFixed_0 rfl (lv_at hl 3 rfl) ?_
  obtain ⟨r_1, hc_1, h⟩ := ob1_e h
  refine k_si (va_runS (As := [.int v3]) (rest := []) ⟨hx, hb, hml, hown, hts⟩ (c_X4_digitsOf l G n    v3 r_1 hc_1) (va_cwS 1 hts gX4_makeFixed_X4_digitsOf rfl rfl rfl eX4_digitsOf ⟨Nat.le_of_ble_eq_true rfl, Nat.le_of_ble_eq_true rfl⟩) (preSS hK (fun k q h => by cases h)) rfl rfl hl.1 rfl (lv_room (Nat.le_of_ble_eq_true rfl)) dX4_makeFixed_1 ⟨Nat.le_of_ble_eq_true rfl, by show 0 + 0 ≤ ms1; omega⟩) ?_
  refine lv_istore (lv' := [(4, .int r_1), (0, .ref l_h), (1, .ref c_h), (2, .int v2), (3, .int v3)]) hx hb dX4_makeFixed_4 hl (by decide) rfl (fun ls hl => ?_)
  refine lv_iload hx hb dX4_makeFixed_6 (lv_at hl 0 rfl) ?_
  refine lv_iconst (v := 1) hx hb dX4_makeFixed_8 (by decide) ?_
  refine lv_iadd hx hb dX4_makeFixed_9 ?_
  refine lv_istore (lv' := [(5, .int (r_1 + (1 : Int32))), (4, .int r_1), (0, .ref l_h), (1, .ref c_h), (2, .int v2), (3, .int v3)]) hx hb dX4_makeFixed_10 hl (by decide) rfl (fun ls hl => ?_)
  refine lv_aload_n hx hb dX4_makeFixed_12 rfl (lv_at hl 2 rfl) ?_
  refine lv_iload hx hb dX4_makeFixed_13 (lv_at hl 1 rfl) ?_
  refine lv_iconst (v := 2) hx hb dX4_makeFixed_15 (by decide) ?_
  refine lv_iadd hx hb dX4_makeFixed_16 ?_
  obtain ⟨d_rm_17, d_rooms_17, d_count_17, d_next_17, d_says_17, d_note_17, d_sort_17, d_freshSort_17, hc_17, h⟩ := ob8_e h
  refine k_cv (wr := (WP G d_hp p_q p_table p_turn p_count) ++ (WC G c_h c_q c_next c_says c_size)) (va_runV (As := [.int (r_1 + (2 : Int32))]) (rest := []) ⟨hx, hb, hml, hown, hts⟩ (c_X4_start l G l_h l_hd d_hp d_q d_a d_rm d_stateOf d_kindOf d_order d_rooms d_count d_next d_says d_note d_sort d_freshSort  (r_1 + (2 : Int32)) rmx1 ms1 hms1 _ d_rm_17 d_rooms_17 d_count_17 d_next_17 d_says_17 d_note_17 d_sort_17 d_freshSort_17 hc_17) (cwV 1 hts gX4_makeFixed_X4_start rfl rfl rfl ⟨rfl, eX4_start⟩ ⟨Nat.le_of_ble_eq_true rfl, Nat.le_of_ble_eq_true rfl⟩) (preWV (ci := 4) (q0 := 0) hK (hP.sub (ws' := (WL G l_h l_hd) ++ (WD G l_hd d_hp d_q d_a d_rm d_stateOf d_kindOf d_order d_rooms d_count d_next d_says d_note d_sort d_freshSort)) [0, 1, 2, 3, 4, 5, 6, 7, 8, 9] rfl) (hD.sub (ws' := (WL G l_h l_hd) ++ (WD G l_hd d_hp d_q d_a d_rm d_stateOf d_kindOf d_order d_rooms d_count d_next d_says d_note d_sort d_freshSort)) [0, 1, 2, 3, 4, 5, 6, 7, 8, 9] (by decide) rfl) rfl rfl) rfl rfl hl.1 rfl (lv_room (Nat.le_of_ble_eq_true rfl)) dX4_makeFixed_17 ⟨Nat.le_of_ble_eq_true rfl, by show 0 + (ms1) ≤ ms1; omega⟩) hP hD hS hA [0, 1, 2, 3, 4, 5, 6, 7, 8, 9] [10, 11, 12, 13, 14] rfl rfl (by decide) (by decide) (fun u_17 H locs hP hD hS => ?_)
  have hP := hP.sub (ws' := (WL G l_h l_hd) ++ (WD G l_hd d_hp d_q u_17 d_rm_17 d_stateOf d_kindOf d_order d_rooms_17 d_count_17 d_next_17 d_says_17 d_note_17 d_sort_17 d_freshSort_17) ++ (WP G d_hp p_q p_table p_turn p_count) ++ (WC G c_h c_q c_next c_says c_size)) [5, 6, 7, 8, 9, 10, 11, 12, 13, 14, 0, 1, 2, 3, 4] rfl
  have hD := hD.sub (ws' := (WL G l_h l_hd) ++ (WD G l_hd d_hp d_q u_17 d_rm_17 d_stateOf d_kindOf d_order d_rooms_17 d_count_17 d_next_17 d_says_17 d_note_17 d_sort_17 d_freshSort_17) ++ (WP G d_hp p_q p_table p_turn p_count) ++ (WC G c_h c_q c_next c_says c_size)) [5, 6, 7, 8, 9, 10, 11, 12, 13, 14, 0, 1, 2, 3, 4] (by decide) rfl
  refine lv_iconst (v := 0) hx hb dX4_makeFixed_20 (by decide) ?_
  refine lv_istore (lv' := [(6, .int (0 : Int32)), (5, .int (r_1 + (1 : Int32))), (4, .int r_1), (0, .ref l_h), (1, .ref c_h), (2, .int v2), (3, .int v3)]) hx hb dX4_makeFixed_21 hl (by decide) rfl (fun ls hl => ?_)
  obtain ⟨d_next_o23, d_says_o23, hT23, h⟩ := ob2_e h
  have hX23 : ∀ (d_next_o23x : AI) (d_says_o23x : AI)  (H : Heap) (locs : List Loc) (ls : Array Slot), some (d_next_o23x, d_says_o23x) = some (d_next_o23, d_says_o23) → va_P G.1 vwCl ((WL G l_h l_hd) ++ (WD G l_hd d_hp d_q u_17 d_rm_17 d_stateOf d_kindOf d_order d_rooms_17 d_count_17 d_next_o23x d_says_o23x d_note_17 d_sort_17 d_freshSort_17) ++ (WP G d_hp p_q p_table p_turn p_count) ++ (WC G c_h c_q c_next c_says c_size)) H → va_D A ((WL G l_h l_hd) ++ (WD G l_hd d_hp d_q u_17 d_rm_17 d_stateOf d_kindOf d_order d_rooms_17 d_count_17 d_next_o23x d_says_o23x d_note_17 d_sort_17 d_freshSort_17) ++ (WP G d_hp p_q p_table p_turn p_count) ++ (WC G c_h c_q c_next c_says c_size)) → va_S A s.heap H locs → lv_has ls 8 [(0, .ref l_h), (1, .ref c_h), (5, .int (r_1 + (1 : Int32)))] → W p l e (rX4_makeFixed ms1) s m args below meth c H locs (0 + 5) (0 + (ms1)) Q (F0 m 98 ls []) := by
    intro d_next_o23x d_says_o23x H locs ls hq hP hD hS hl
    obtain ⟨rfl, rfl⟩ := oi2 hq
    refine lv_iconst (v := 0) hx hb dX4_makeFixed_98 (by decide) ?_
    refine lv_istore (lv' := [(6, .int (0 : Int32)), (0, .ref l_h), (1, .ref c_h), (5, .int (r_1 + (1 : Int32)))]) hx hb dX4_makeFixed_99 hl (by decide) rfl (fun ls hl => ?_)
    obtain ⟨d_next_o101, hT101, h⟩ := ob1_e h
    have hX101 : ∀ (d_next_o101x : AI)  (H : Heap) (locs : List Loc) (ls : Array Slot), some d_next_o101x = some d_next_o101 → va_P G.1 vwCl ((WL G l_h l_hd) ++ (WD G l_hd d_hp d_q u_17 d_rm_17 d_stateOf d_kindOf d_order d_rooms_17 d_count_17 d_next_o101x d_says_o23 d_note_17 d_sort_17 d_freshSort_17) ++ (WP G d_hp p_q p_table p_turn p_count) ++ (WC G c_h c_q c_next c_says c_size)) H → va_D A ((WL G l_h l_hd) ++ (WD G l_hd d_hp d_q u_17 d_rm_17 d_stateOf d_kindOf d_order d_rooms_17 d_count_17 d_next_o101x d_says_o23 d_note_17 d_sort_17 d_freshSort_17) ++ (WP G d_hp p_q p_table p_turn p_count) ++ (WC G c_h c_q c_next c_says c_size)) → va_S A s.heap H locs → lv_has ls 8 [(0, .ref l_h), (1, .ref c_h), (5, .int (r_1 + (1 : Int32)))] → W p l e (rX4_makeFixed ms1) s m args below meth c H locs (0 + 5) (0 + (ms1)) Q (F0 m 127 ls []) := by
      intro d_next_o101x H locs ls hq hP hD hS hl
      obtain rfl := oi1 hq
      refine lv_aload_n hx hb dX4_makeFixed_127 rfl (lv_at hl 0 rfl) ?_
      refine va_get (D := G.1) (ci := 4) (v := .ref l_hd) (C := RX4) (T := TX4) (N := 1) hx hb hts hinX4 hown hK.1 hP 0 rfl rfl 0 (by decide) hf9 (fun _ h9 => h9) rfl dX4_makeFixed_128 ?_
      refine lv_iload hx hb dX4_makeFixed_131 (lv_at hl 2 rfl) ?_
      refine lv_iconst (v := 0) hx hb dX4_makeFixed_133 (by decide) ?_
      obtain ⟨d_says_134, hc_134, h⟩ := ob1_e h
      refine k_cv (wr := (WL G l_h l_hd) ++ (WP G d_hp p_q p_table p_turn p_count) ++ (WC G c_h c_q c_next c_says c_size)) (va_runV (As := [.int (r_1 + (1 : Int32)), .int (0 : Int32)]) (rest := []) ⟨hx, hb, hml, hown, hts⟩ (c_X1_writeSays l G l_hd d_hp d_q u_17 d_rm_17 d_stateOf d_kindOf d_order d_rooms_17 d_count_17 d_next_o101 d_says_o23 d_note_17 d_sort_17 d_freshSort_17  (r_1 + (1 : Int32)) (0 : Int32) _ d_says_134 hc_134) (cwV 2 hts gX4_makeFixed_X1_writeSays rfl rfl rfl ⟨rfl, eX1_writeSays⟩ ⟨Nat.le_of_ble_eq_true rfl, Nat.le_of_ble_eq_true rfl⟩) (preWV (ci := 1) (q0 := 0) hK (hP.sub (ws' := WD G l_hd d_hp d_q u_17 d_rm_17 d_stateOf d_kindOf d_order d_rooms_17 d_count_17 d_next_o101 d_says_o23 d_note_17 d_sort_17 d_freshSort_17) [1, 2, 3, 4, 5, 6, 7, 8, 9] rfl) (hD.sub (ws' := WD G l_hd d_hp d_q u_17 d_rm_17 d_stateOf d_kindOf d_order d_rooms_17 d_count_17 d_next_o101 d_says_o23 d_note_17 d_sort_17 d_freshSort_17) [1, 2, 3, 4, 5, 6, 7, 8, 9] (by decide) rfl) rfl rfl) rfl rfl hl.1 rfl (lv_room (Nat.le_of_ble_eq_true rfl)) dX4_makeFixed_134 ⟨Nat.le_of_ble_eq_true rfl, by show 0 + (ms1) + 0 ≤ ms1; omega⟩) hP hD hS hA [1, 2, 3, 4, 5, 6, 7, 8, 9] [0, 10, 11, 12, 13, 14] rfl rfl (by decide) (by decide) (fun u_134 H locs hP hD hS => ?_)
      have hP := hP.sub (ws' := (WL G l_h l_hd) ++ (WD G l_hd d_hp d_q u_17 d_rm_17 d_stateOf d_kindOf d_order d_rooms_17 d_count_17 d_next_o101 d_says_134 d_note_17 d_sort_17 d_freshSort_17) ++ (WP G d_hp p_q p_table p_turn p_count) ++ (WC G c_h c_q c_next c_says c_size)) [0, 6, 7, 8, 9, 10, 11, 12, 13, 14, 1, 2, 3, 4, 5] rfl
      have hD := hD.sub (ws' := (WL G l_h l_hd) ++ (WD G l_hd d_hp d_q u_17 d_rm_17 d_stateOf d_kindOf d_order d_rooms_17 d_count_17 d_next_o101 d_says_134 d_note_17 d_sort_17 d_freshSort_17) ++ (WP G d_hp p_q p_table p_turn p_count) ++ (WC G c_h c_q c_next c_says c_size)) [0, 6, 7, 8, 9, 10, 11, 12, 13, 14, 1, 2, 3, 4, 5] (by decide) rfl
      refine lv_aload_n hx hb dX4_makeFixed_137 rfl (lv_at hl 0 rfl) ?_
      refine va_get (D := G.1) (ci := 4) (v := .ref l_hd) (C := RX4) (T := TX4) (N := 1) hx hb hts hinX4 hown hK.1 hP 0 rfl rfl 0 (by decide) hf9 (fun _ h9 => h9) rfl dX4_makeFixed_138 ?_
      refine lv_aload_n hx hb dX4_makeFixed_141 rfl (lv_at hl 1 rfl) ?_
      obtain ⟨r_142, d_stateOf_142, d_kindOf_142, d_order_142, d_sort_142, d_freshSort_142, p_table_142, p_turn_142, p_count_142, c_next_142, c_says_142, c_size_142, hc_142, h⟩ := ob12_e h
      refine k_ci (wr := WL G l_h l_hd) (va_runV (As := [.ref c_h]) (rest := []) ⟨hx, hb, hml, hown, hts⟩ (c_X1_reduceInto l G n l_hd d_hp d_q u_17 p_q c_h c_q d_rm_17 d_stateOf d_kindOf d_order d_rooms_17 d_count_17 d_next_o101 d_says_134 d_note_17 d_sort_17 d_freshSort_17 p_table p_turn p_count c_next c_says c_size   _ r_142 d_stateOf_142 d_kindOf_142 d_order_142 d_sort_142 d_freshSort_142 p_table_142 p_turn_142 p_count_142 c_next_142 c_says_142 c_size_142 hc_142) (cwV 1 hts gX4_makeFixed_X1_reduceInto rfl rfl rfl ⟨rfl, eX1_reduceInto⟩ ⟨Nat.le_of_ble_eq_true rfl, Nat.le_of_ble_eq_true rfl⟩) (preWV (ci := 1) (q0 := 0) hK (hP.sub (ws' := (WD G l_hd d_hp d_q u_17 d_rm_17 d_stateOf d_kindOf d_order d_rooms_17 d_count_17 d_next_o101 d_says_134 d_note_17 d_sort_17 d_freshSort_17) ++ (WP G d_hp p_q p_table p_turn p_count) ++ (WC G c_h c_q c_next c_says c_size)) [1, 2, 3, 4, 5, 6, 7, 8, 9, 10, 11, 12, 13, 14] rfl) (hD.sub (ws' := (WD G l_hd d_hp d_q u_17 d_rm_17 d_stateOf d_kindOf d_order d_rooms_17 d_count_17 d_next_o101 d_says_134 d_note_17 d_sort_17 d_freshSort_17) ++ (WP G d_hp p_q p_table p_turn p_count) ++ (WC G c_h c_q c_next c_says c_size)) [1, 2, 3, 4, 5, 6, 7, 8, 9, 10, 11, 12, 13, 14] (by decide) rfl) rfl rfl) rfl rfl hl.1 rfl (lv_room (Nat.le_of_ble_eq_true rfl)) dX4_makeFixed_142 ⟨Nat.le_of_ble_eq_true rfl, by show 0 + (ms1) + 0 ≤ ms1; omega⟩) hP hD hS hA [1, 2, 3, 4, 5, 6, 7, 8, 9, 10, 11, 12, 13, 14] [0] rfl rfl (by decide) (by decide) (fun u_142 H locs hP hD hS => ?_)
      have hP := hP.sub (ws' := (WL G l_h l_hd) ++ (WD G l_hd d_hp d_q u_142 d_rm_17 d_stateOf_142 d_kindOf_142 d_order_142 d_rooms_17 d_count_17 d_next_o101 d_says_134 d_note_17 d_sort_142 d_freshSort_142) ++ (WP G d_hp p_q p_table_142 p_turn_142 p_count_142) ++ (WC G c_h c_q c_next_142 c_says_142 c_size_142)) [0, 1, 2, 3, 4, 5, 6, 7, 8, 9, 10, 11, 12, 13, 14] rfl
      have hD := hD.sub (ws' := (WL G l_h l_hd) ++ (WD G l_hd d_hp d_q u_142 d_rm_17 d_stateOf_142 d_kindOf_142 d_order_142 d_rooms_17 d_count_17 d_next_o101 d_says_134 d_note_17 d_sort_142 d_freshSort_142) ++ (WP G d_hp p_q p_table_142 p_turn_142 p_count_142) ++ (WC G c_h c_q c_next_142 c_says_142 c_size_142)) [0, 1, 2, 3, 4, 5, 6, 7, 8, 9, 10, 11, 12, 13, 14] (by decide) rfl
      obtain ⟨rfl, rfl, rfl, rfl, rfl, rfl, rfl, rfl, rfl, rfl, rfl, rfl, rfl, rfl, rfl, rfl, rfl, rfl⟩ := oi18 h
      exact hret u_142 _ _ _ _ _ _ _ dX4_makeFixed_145 rfl rfl hP hD hS (Nat.le_of_ble_eq_true rfl) (by show 0 + (ms1) ≤ ms1; omega)
    have hL101 : ∀ (f : Nat) (v6_101 : Int32) (d_next_101 : AI)  (H : Heap) (locs : List Loc) (ls : Array Slot), p_X4_makeFixed_L101 d_rm_17 d_count_17 r_1 f v6_101 d_next_101 = some d_next_o101 → va_P G.1 vwCl ((WL G l_h l_hd) ++ (WD G l_hd d_hp d_q u_17 d_rm_17 d_stateOf d_kindOf d_order d_rooms_17 d_count_17 d_next_101 d_says_o23 d_note_17 d_sort_17 d_freshSort_17) ++ (WP G d_hp p_q p_table p_turn p_count) ++ (WC G c_h c_q c_next c_says c_size)) H → va_D A ((WL G l_h l_hd) ++ (WD G l_hd d_hp d_q u_17 d_rm_17 d_stateOf d_kindOf d_order d_rooms_17 d_count_17 d_next_101 d_says_o23 d_note_17 d_sort_17 d_freshSort_17) ++ (WP G d_hp p_q p_table p_turn p_count) ++ (WC G c_h c_q c_next c_says c_size)) → va_S A s.heap H locs → lv_has ls 8 [(0, .ref l_h), (1, .ref c_h), (5, .int (r_1 + (1 : Int32))), (6, .int v6_101)] → W p l e (rX4_makeFixed ms1) s m args below meth c H locs (0 + 5) (0 + (ms1)) Q (F0 m 101 ls []) := by
      intro f
      induction f with
      | zero => intro v6_101 d_next_101 H locs ls h hP hD hS hl; cases (show none = some _ from h)
      | succ f ih =>
        intro v6_101 d_next_101 H locs ls h hP hD hS hl
        rw [p_X4_makeFixed_L101] at h
        refine lv_iload hx hb dX4_makeFixed_101 (lv_at hl 3 rfl) ?_
        refine lv_bipush (v := 8) hx hb dX4_makeFixed_103 (by decide) ?_
        refine lv_icmp_ge (tgt := 127) hx hb dX4_makeFixed_105 (by decide) (fun c_105 => ?_) (fun c_105 => ?_)
        · replace h := (if_pos c_105).symm.trans h
          exact hX101 _  _ _ _ h hP hD hS (lv_sub hl [0, 1, 2] rfl)
        · replace h := (if_neg c_105).symm.trans h
          refine lv_aload_n hx hb dX4_makeFixed_108 rfl (lv_at hl 0 rfl) ?_
          refine va_get (D := G.1) (ci := 4) (v := .ref l_hd) (C := RX4) (T := TX4) (N := 1) hx hb hts hinX4 hown hK.1 hP 0 rfl rfl 0 (by decide) hf9 (fun _ h9 => h9) rfl dX4_makeFixed_109 ?_
          refine lv_iload hx hb dX4_makeFixed_112 (lv_at hl 2 rfl) ?_
          refine lv_iload hx hb dX4_makeFixed_114 (lv_at hl 3 rfl) ?_
          refine lv_iload hx hb dX4_makeFixed_116 (lv_at hl 2 rfl) ?_
          obtain ⟨d_next_118, hc_118, h⟩ := ob1_e h
          refine k_cv (wr := (WL G l_h l_hd) ++ (WP G d_hp p_q p_table p_turn p_count) ++ (WC G c_h c_q c_next c_says c_size)) (va_runV (As := [.int (r_1 + (1 : Int32)), .int v6_101, .int (r_1 + (1 : Int32))]) (rest := []) ⟨hx, hb, hml, hown, hts⟩ (c_X1_write l G l_hd d_hp d_q u_17 d_rm_17 d_stateOf d_kindOf d_order d_rooms_17 d_count_17 d_next_101 d_says_o23 d_note_17 d_sort_17 d_freshSort_17  (r_1 + (1 : Int32)) v6_101 (r_1 + (1 : Int32)) _ d_next_118 hc_118) (cwV 3 hts gX4_makeFixed_X1_write rfl rfl rfl ⟨rfl, eX1_write⟩ ⟨Nat.le_of_ble_eq_true rfl, Nat.le_of_ble_eq_true rfl⟩) (preWV (ci := 1) (q0 := 0) hK (hP.sub (ws' := WD G l_hd d_hp d_q u_17 d_rm_17 d_stateOf d_kindOf d_order d_rooms_17 d_count_17 d_next_101 d_says_o23 d_note_17 d_sort_17 d_freshSort_17) [1, 2, 3, 4, 5, 6, 7, 8, 9] rfl) (hD.sub (ws' := WD G l_hd d_hp d_q u_17 d_rm_17 d_stateOf d_kindOf d_order d_rooms_17 d_count_17 d_next_101 d_says_o23 d_note_17 d_sort_17 d_freshSort_17) [1, 2, 3, 4, 5, 6, 7, 8, 9] (by decide) rfl) rfl rfl) rfl rfl hl.1 rfl (lv_room (Nat.le_of_ble_eq_true rfl)) dX4_makeFixed_118 ⟨Nat.le_of_ble_eq_true rfl, by show 0 + (ms1) + 0 ≤ ms1; omega⟩) hP hD hS hA [1, 2, 3, 4, 5, 6, 7, 8, 9] [0, 10, 11, 12, 13, 14] rfl rfl (by decide) (by decide) (fun u_118 H locs hP hD hS => ?_)
          have hP := hP.sub (ws' := (WL G l_h l_hd) ++ (WD G l_hd d_hp d_q u_17 d_rm_17 d_stateOf d_kindOf d_order d_rooms_17 d_count_17 d_next_118 d_says_o23 d_note_17 d_sort_17 d_freshSort_17) ++ (WP G d_hp p_q p_table p_turn p_count) ++ (WC G c_h c_q c_next c_says c_size)) [0, 6, 7, 8, 9, 10, 11, 12, 13, 14, 1, 2, 3, 4, 5] rfl
          have hD := hD.sub (ws' := (WL G l_h l_hd) ++ (WD G l_hd d_hp d_q u_17 d_rm_17 d_stateOf d_kindOf d_order d_rooms_17 d_count_17 d_next_118 d_says_o23 d_note_17 d_sort_17 d_freshSort_17) ++ (WP G d_hp p_q p_table p_turn p_count) ++ (WC G c_h c_q c_next c_says c_size)) [0, 6, 7, 8, 9, 10, 11, 12, 13, 14, 1, 2, 3, 4, 5] (by decide) rfl
          refine lv_iinc (v := (v6_101 + (1 : Int32))) (lv' := [(6, .int (v6_101 + (1 : Int32))), (0, .ref l_h), (1, .ref c_h), (5, .int (r_1 + (1 : Int32)))]) hx hb dX4_makeFixed_121 hl (k := 3) rfl rfl (by decide) rfl (fun ls hl => ?_)
          refine lv_goto (tgt := 101) hx hb dX4_makeFixed_124 (by decide) ?_
          exact ih _ _  _ _ _ h hP hD hS (lv_sub hl [1, 2, 3, 0] rfl)
    exact hL101 n _ _  _ _ _ hT101 hP hD hS (lv_sub hl [1, 2, 3, 0] rfl)
  have hL23 : ∀ (f : Nat) (v6_23 : Int32) (d_next_23 : AI) (d_says_23 : AI)  (H : Heap) (locs : List Loc) (ls : Array Slot), p_X4_makeFixed_L23 n r_1 v2 v3 d_rm_17 d_count_17 f v6_23 d_next_23 d_says_23 = some (d_next_o23, d_says_o23) → va_P G.1 vwCl ((WL G l_h l_hd) ++ (WD G l_hd d_hp d_q u_17 d_rm_17 d_stateOf d_kindOf d_order d_rooms_17 d_count_17 d_next_23 d_says_23 d_note_17 d_sort_17 d_freshSort_17) ++ (WP G d_hp p_q p_table p_turn p_count) ++ (WC G c_h c_q c_next c_says c_size)) H → va_D A ((WL G l_h l_hd) ++ (WD G l_hd d_hp d_q u_17 d_rm_17 d_stateOf d_kindOf d_order d_rooms_17 d_count_17 d_next_23 d_says_23 d_note_17 d_sort_17 d_freshSort_17) ++ (WP G d_hp p_q p_table p_turn p_count) ++ (WC G c_h c_q c_next c_says c_size)) → va_S A s.heap H locs → lv_has ls 8 [(0, .ref l_h), (1, .ref c_h), (2, .int v2), (3, .int v3), (4, .int r_1), (5, .int (r_1 + (1 : Int32))), (6, .int v6_23)] → W p l e (rX4_makeFixed ms1) s m args below meth c H locs (0 + 5) (0 + (ms1)) Q (F0 m 23 ls []) := by
    intro f
    induction f with
    | zero => intro v6_23 d_next_23 d_says_23 H locs ls h hP hD hS hl; cases (show none = some _ from h)
    | succ f ih =>
      intro v6_23 d_next_23 d_says_23 H locs ls h hP hD hS hl
      rw [p_X4_makeFixed_L23] at h
      refine lv_iload hx hb dX4_makeFixed_23 (lv_at hl 6 rfl) ?_
      refine lv_iload hx hb dX4_makeFixed_25 (lv_at hl 4 rfl) ?_
      refine lv_icmp_gt (tgt := 98) hx hb dX4_makeFixed_27 (by decide) (fun c_27 => ?_) (fun c_27 => ?_)
      · replace h := (if_pos c_27).symm.trans h
        exact hX23 _ _  _ _ _ h hP hD hS (lv_sub hl [0, 1, 5] rfl)
      · replace h := (if_neg c_27).symm.trans h
        refine lv_iconst (v := 0) hx hb dX4_makeFixed_30 (by decide) ?_
        refine lv_istore (lv' := [(7, .int (0 : Int32)), (0, .ref l_h), (1, .ref c_h), (2, .int v2), (3, .int v3), (4, .int r_1), (5, .int (r_1 + (1 : Int32))), (6, .int v6_23)]) hx hb dX4_makeFixed_31 hl (by decide) rfl (fun ls hl => ?_)
        obtain ⟨d_next_o33, hT33, h⟩ := ob1_e h
        have hX33 : ∀ (d_next_o33x : AI)  (H : Heap) (locs : List Loc) (ls : Array Slot), some d_next_o33x = some d_next_o33 → va_P G.1 vwCl ((WL G l_h l_hd) ++ (WD G l_hd d_hp d_q u_17 d_rm_17 d_stateOf d_kindOf d_order d_rooms_17 d_count_17 d_next_o33x d_says_23 d_note_17 d_sort_17 d_freshSort_17) ++ (WP G d_hp p_q p_table p_turn p_count) ++ (WC G c_h c_q c_next c_says c_size)) H → va_D A ((WL G l_h l_hd) ++ (WD G l_hd d_hp d_q u_17 d_rm_17 d_stateOf d_kindOf d_order d_rooms_17 d_count_17 d_next_o33x d_says_23 d_note_17 d_sort_17 d_freshSort_17) ++ (WP G d_hp p_q p_table p_turn p_count) ++ (WC G c_h c_q c_next c_says c_size)) → va_S A s.heap H locs → lv_has ls 8 [(0, .ref l_h), (1, .ref c_h), (2, .int v2), (3, .int v3), (4, .int r_1), (5, .int (r_1 + (1 : Int32))), (6, .int v6_23)] → W p l e (rX4_makeFixed ms1) s m args below meth c H locs (0 + 5) (0 + (ms1)) Q (F0 m 71 ls []) := by
          intro d_next_o33x H locs ls hq hP hD hS hl
          obtain rfl := oi1 hq
          refine lv_aload_n hx hb dX4_makeFixed_71 rfl (lv_at hl 0 rfl) ?_
          refine va_get (D := G.1) (ci := 4) (v := .ref l_hd) (C := RX4) (T := TX4) (N := 1) hx hb hts hinX4 hown hK.1 hP 0 rfl rfl 0 (by decide) hf9 (fun _ h9 => h9) rfl dX4_makeFixed_72 ?_
          refine lv_iload hx hb dX4_makeFixed_75 (lv_at hl 6 rfl) ?_
          refine lv_iload hx hb dX4_makeFixed_77 (lv_at hl 6 rfl) ?_
          refine lv_iload hx hb dX4_makeFixed_79 (lv_at hl 4 rfl) ?_
          obtain ⟨j0_81, hT81, h⟩ := ob1_e h
          have hJ81 : ∀ (j0_81x : Int32)  (H : Heap) (locs : List Loc) (ls : Array Slot), some j0_81x = some j0_81 → va_P G.1 vwCl ((WL G l_h l_hd) ++ (WD G l_hd d_hp d_q u_17 d_rm_17 d_stateOf d_kindOf d_order d_rooms_17 d_count_17 d_next_o33 d_says_23 d_note_17 d_sort_17 d_freshSort_17) ++ (WP G d_hp p_q p_table p_turn p_count) ++ (WC G c_h c_q c_next c_says c_size)) H → va_D A ((WL G l_h l_hd) ++ (WD G l_hd d_hp d_q u_17 d_rm_17 d_stateOf d_kindOf d_order d_rooms_17 d_count_17 d_next_o33 d_says_23 d_note_17 d_sort_17 d_freshSort_17) ++ (WP G d_hp p_q p_table p_turn p_count) ++ (WC G c_h c_q c_next c_says c_size)) → va_S A s.heap H locs → lv_has ls 8 [(0, .ref l_h), (1, .ref c_h), (2, .int v2), (3, .int v3), (4, .int r_1), (5, .int (r_1 + (1 : Int32))), (6, .int v6_23)] → W p l e (rX4_makeFixed ms1) s m args below meth c H locs (0 + 5) (0 + (ms1)) Q (F0 m 89 ls [.int j0_81x, .int v6_23, .ref l_hd]) := by
            intro j0_81x H locs ls hq hP hD hS hl
            obtain rfl := oi1 hq
            obtain ⟨d_says_89, hc_89, h⟩ := ob1_e h
            refine k_cv (wr := (WL G l_h l_hd) ++ (WP G d_hp p_q p_table p_turn p_count) ++ (WC G c_h c_q c_next c_says c_size)) (va_runV (As := [.int v6_23, .int j0_81]) (rest := []) ⟨hx, hb, hml, hown, hts⟩ (c_X1_writeSays l G l_hd d_hp d_q u_17 d_rm_17 d_stateOf d_kindOf d_order d_rooms_17 d_count_17 d_next_o33 d_says_23 d_note_17 d_sort_17 d_freshSort_17  v6_23 j0_81 _ d_says_89 hc_89) (cwV 2 hts gX4_makeFixed_X1_writeSays rfl rfl rfl ⟨rfl, eX1_writeSays⟩ ⟨Nat.le_of_ble_eq_true rfl, Nat.le_of_ble_eq_true rfl⟩) (preWV (ci := 1) (q0 := 0) hK (hP.sub (ws' := WD G l_hd d_hp d_q u_17 d_rm_17 d_stateOf d_kindOf d_order d_rooms_17 d_count_17 d_next_o33 d_says_23 d_note_17 d_sort_17 d_freshSort_17) [1, 2, 3, 4, 5, 6, 7, 8, 9] rfl) (hD.sub (ws' := WD G l_hd d_hp d_q u_17 d_rm_17 d_stateOf d_kindOf d_order d_rooms_17 d_count_17 d_next_o33 d_says_23 d_note_17 d_sort_17 d_freshSort_17) [1, 2, 3, 4, 5, 6, 7, 8, 9] (by decide) rfl) rfl rfl) rfl rfl hl.1 rfl (lv_room (Nat.le_of_ble_eq_true rfl)) dX4_makeFixed_89 ⟨Nat.le_of_ble_eq_true rfl, by show 0 + (ms1) + 0 ≤ ms1; omega⟩) hP hD hS hA [1, 2, 3, 4, 5, 6, 7, 8, 9] [0, 10, 11, 12, 13, 14] rfl rfl (by decide) (by decide) (fun u_89 H locs hP hD hS => ?_)
            have hP := hP.sub (ws' := (WL G l_h l_hd) ++ (WD G l_hd d_hp d_q u_17 d_rm_17 d_stateOf d_kindOf d_order d_rooms_17 d_count_17 d_next_o33 d_says_89 d_note_17 d_sort_17 d_freshSort_17) ++ (WP G d_hp p_q p_table p_turn p_count) ++ (WC G c_h c_q c_next c_says c_size)) [0, 6, 7, 8, 9, 10, 11, 12, 13, 14, 1, 2, 3, 4, 5] rfl
            have hD := hD.sub (ws' := (WL G l_h l_hd) ++ (WD G l_hd d_hp d_q u_17 d_rm_17 d_stateOf d_kindOf d_order d_rooms_17 d_count_17 d_next_o33 d_says_89 d_note_17 d_sort_17 d_freshSort_17) ++ (WP G d_hp p_q p_table p_turn p_count) ++ (WC G c_h c_q c_next c_says c_size)) [0, 6, 7, 8, 9, 10, 11, 12, 13, 14, 1, 2, 3, 4, 5] (by decide) rfl
            refine lv_iinc (v := (v6_23 + (1 : Int32))) (lv' := [(6, .int (v6_23 + (1 : Int32))), (0, .ref l_h), (1, .ref c_h), (2, .int v2), (3, .int v3), (4, .int r_1), (5, .int (r_1 + (1 : Int32)))]) hx hb dX4_makeFixed_92 hl (k := 6) rfl rfl (by decide) rfl (fun ls hl => ?_)
            refine lv_goto (tgt := 23) hx hb dX4_makeFixed_95 (by decide) ?_
            exact ih _ _ _  _ _ _ h hP hD hS (lv_sub hl [1, 2, 3, 4, 5, 6, 0] rfl)
          replace h := hT81
          refine lv_icmp_ne (tgt := 88) hx hb dX4_makeFixed_81 (by decide) (fun c_81 => ?_) (fun c_81 => ?_)
          · replace h := (if_neg c_81).symm.trans h
            refine lv_iconst (v := 0) hx hb dX4_makeFixed_88 (by decide) ?_
            exact hJ81 _  _ _ _ h hP hD hS (lv_sub hl [0, 1, 2, 3, 4, 5, 6] rfl)
          · replace h := (if_pos c_81).symm.trans h
            refine lv_iconst (v := 1) hx hb dX4_makeFixed_84 (by decide) ?_
            refine lv_goto (tgt := 89) hx hb dX4_makeFixed_85 (by decide) ?_
            exact hJ81 _  _ _ _ h hP hD hS (lv_sub hl [0, 1, 2, 3, 4, 5, 6] rfl)
        have hL33 : ∀ (f : Nat) (v7_33 : Int32) (d_next_33 : AI)  (H : Heap) (locs : List Loc) (ls : Array Slot), p_X4_makeFixed_L33 v2 v6_23 v3 r_1 d_rm_17 d_count_17 f v7_33 d_next_33 = some d_next_o33 → va_P G.1 vwCl ((WL G l_h l_hd) ++ (WD G l_hd d_hp d_q u_17 d_rm_17 d_stateOf d_kindOf d_order d_rooms_17 d_count_17 d_next_33 d_says_23 d_note_17 d_sort_17 d_freshSort_17) ++ (WP G d_hp p_q p_table p_turn p_count) ++ (WC G c_h c_q c_next c_says c_size)) H → va_D A ((WL G l_h l_hd) ++ (WD G l_hd d_hp d_q u_17 d_rm_17 d_stateOf d_kindOf d_order d_rooms_17 d_count_17 d_next_33 d_says_23 d_note_17 d_sort_17 d_freshSort_17) ++ (WP G d_hp p_q p_table p_turn p_count) ++ (WC G c_h c_q c_next c_says c_size)) → va_S A s.heap H locs → lv_has ls 8 [(0, .ref l_h), (1, .ref c_h), (2, .int v2), (3, .int v3), (4, .int r_1), (5, .int (r_1 + (1 : Int32))), (6, .int v6_23), (7, .int v7_33)] → W p l e (rX4_makeFixed ms1) s m args below meth c H locs (0 + 5) (0 + (ms1)) Q (F0 m 33 ls []) := by
          intro f
          induction f with
          | zero => intro v7_33 d_next_33 H locs ls h hP hD hS hl; cases (show none = some _ from h)
          | succ f ih =>
            intro v7_33 d_next_33 H locs ls h hP hD hS hl
            rw [p_X4_makeFixed_L33] at h
            refine lv_iload hx hb dX4_makeFixed_33 (lv_at hl 7 rfl) ?_
            refine lv_bipush (v := 8) hx hb dX4_makeFixed_35 (by decide) ?_
            refine lv_icmp_ge (tgt := 71) hx hb dX4_makeFixed_37 (by decide) (fun c_37 => ?_) (fun c_37 => ?_)
            · replace h := (if_pos c_37).symm.trans h
              exact hX33 _  _ _ _ h hP hD hS (lv_sub hl [0, 1, 2, 3, 4, 5, 6] rfl)
            · replace h := (if_neg c_37).symm.trans h
              refine lv_aload_n hx hb dX4_makeFixed_40 rfl (lv_at hl 0 rfl) ?_
              refine va_get (D := G.1) (ci := 4) (v := .ref l_hd) (C := RX4) (T := TX4) (N := 1) hx hb hts hinX4 hown hK.1 hP 0 rfl rfl 0 (by decide) hf9 (fun _ h9 => h9) rfl dX4_makeFixed_41 ?_
              refine lv_iload hx hb dX4_makeFixed_44 (lv_at hl 6 rfl) ?_
              refine lv_iload hx hb dX4_makeFixed_46 (lv_at hl 7 rfl) ?_
              refine lv_iload hx hb dX4_makeFixed_48 (lv_at hl 6 rfl) ?_
              refine lv_iload hx hb dX4_makeFixed_50 (lv_at hl 7 rfl) ?_
              refine lv_iload_n hx hb dX4_makeFixed_52 rfl (lv_at hl 2 rfl) ?_
              obtain ⟨r_53, hc_53, h⟩ := ob1_e h
              refine k_si (va_runSN (As := [.int v7_33, .int v2]) (rest := [.int v6_23, .int v7_33, .int v6_23, .ref l_hd]) ⟨hx, hb, hml, hown, hts⟩ (c_X9_digitOf l G    v7_33 v2 r_53 hc_53) ⟨va_cnB 2 hts gX4_makeFixed_X9_digitOf_n25 rfl rfl rfl (hK.2 _ (List.mem_of_getElem? (i := 7) rfl)) (hts (.initialized RX9) (by decide +kernel)) eX9_digitOf ⟨Nat.le_of_ble_eq_true rfl, Nat.le_of_ble_eq_true rfl⟩, hts (.static yX9_digitOf) (by decide +kernel), trivial⟩ (preSS hK (fun k q h => by cases h)) rfl rfl hl.1 rfl (lv_room (Nat.le_of_ble_eq_true rfl)) dX4_makeFixed_53 ⟨Nat.le_of_ble_eq_true rfl, by show 0 + (ms1) + 0 ≤ ms1; omega⟩) ?_
              refine lv_iload_n hx hb dX4_makeFixed_56 rfl (lv_at hl 3 rfl) ?_
              refine lv_iload hx hb dX4_makeFixed_57 (lv_at hl 4 rfl) ?_
              obtain ⟨r_59, hc_59, h⟩ := ob1_e h
              refine k_si (va_runS (As := [.int v6_23, .int r_53, .int v3, .int r_1]) (rest := [.int v7_33, .int v6_23, .ref l_hd]) ⟨hx, hb, hml, hown, hts⟩ (c_X4_afterDigit l G    v6_23 r_53 v3 r_1 r_59 hc_59) (va_cwS 4 hts gX4_makeFixed_X4_afterDigit rfl rfl rfl eX4_afterDigit ⟨Nat.le_of_ble_eq_true rfl, Nat.le_of_ble_eq_true rfl⟩) (preSS hK (fun k q h => by cases h)) rfl rfl hl.1 rfl (lv_room (Nat.le_of_ble_eq_true rfl)) dX4_makeFixed_59 ⟨Nat.le_of_ble_eq_true rfl, by show 0 + (ms1) + 0 ≤ ms1; omega⟩) ?_
              obtain ⟨d_next_62, hc_62, h⟩ := ob1_e h
              refine k_cv (wr := (WL G l_h l_hd) ++ (WP G d_hp p_q p_table p_turn p_count) ++ (WC G c_h c_q c_next c_says c_size)) (va_runV (As := [.int v6_23, .int v7_33, .int r_59]) (rest := []) ⟨hx, hb, hml, hown, hts⟩ (c_X1_write l G l_hd d_hp d_q u_17 d_rm_17 d_stateOf d_kindOf d_order d_rooms_17 d_count_17 d_next_33 d_says_23 d_note_17 d_sort_17 d_freshSort_17  v6_23 v7_33 r_59 _ d_next_62 hc_62) (cwV 3 hts gX4_makeFixed_X1_write rfl rfl rfl ⟨rfl, eX1_write⟩ ⟨Nat.le_of_ble_eq_true rfl, Nat.le_of_ble_eq_true rfl⟩) (preWV (ci := 1) (q0 := 0) hK (hP.sub (ws' := WD G l_hd d_hp d_q u_17 d_rm_17 d_stateOf d_kindOf d_order d_rooms_17 d_count_17 d_next_33 d_says_23 d_note_17 d_sort_17 d_freshSort_17) [1, 2, 3, 4, 5, 6, 7, 8, 9] rfl) (hD.sub (ws' := WD G l_hd d_hp d_q u_17 d_rm_17 d_stateOf d_kindOf d_order d_rooms_17 d_count_17 d_next_33 d_says_23 d_note_17 d_sort_17 d_freshSort_17) [1, 2, 3, 4, 5, 6, 7, 8, 9] (by decide) rfl) rfl rfl) rfl rfl hl.1 rfl (lv_room (Nat.le_of_ble_eq_true rfl)) dX4_makeFixed_62 ⟨Nat.le_of_ble_eq_true rfl, by show 0 + (ms1) + 0 ≤ ms1; omega⟩) hP hD hS hA [1, 2, 3, 4, 5, 6, 7, 8, 9] [0, 10, 11, 12, 13, 14] rfl rfl (by decide) (by decide) (fun u_62 H locs hP hD hS => ?_)
              have hP := hP.sub (ws' := (WL G l_h l_hd) ++ (WD G l_hd d_hp d_q u_17 d_rm_17 d_stateOf d_kindOf d_order d_rooms_17 d_count_17 d_next_62 d_says_23 d_note_17 d_sort_17 d_freshSort_17) ++ (WP G d_hp p_q p_table p_turn p_count) ++ (WC G c_h c_q c_next c_says c_size)) [0, 6, 7, 8, 9, 10, 11, 12, 13, 14, 1, 2, 3, 4, 5] rfl
              have hD := hD.sub (ws' := (WL G l_h l_hd) ++ (WD G l_hd d_hp d_q u_17 d_rm_17 d_stateOf d_kindOf d_order d_rooms_17 d_count_17 d_next_62 d_says_23 d_note_17 d_sort_17 d_freshSort_17) ++ (WP G d_hp p_q p_table p_turn p_count) ++ (WC G c_h c_q c_next c_says c_size)) [0, 6, 7, 8, 9, 10, 11, 12, 13, 14, 1, 2, 3, 4, 5] (by decide) rfl
              refine lv_iinc (v := (v7_33 + (1 : Int32))) (lv' := [(7, .int (v7_33 + (1 : Int32))), (0, .ref l_h), (1, .ref c_h), (2, .int v2), (3, .int v3), (4, .int r_1), (5, .int (r_1 + (1 : Int32))), (6, .int v6_23)]) hx hb dX4_makeFixed_65 hl (k := 7) rfl rfl (by decide) rfl (fun ls hl => ?_)
              refine lv_goto (tgt := 33) hx hb dX4_makeFixed_68 (by decide) ?_
              exact ih _ _  _ _ _ h hP hD hS (lv_sub hl [1, 2, 3, 4, 5, 6, 7, 0] rfl)
        exact hL33 n _ _  _ _ _ hT33 hP hD hS (lv_sub hl [1, 2, 3, 4, 5, 6, 7, 0] rfl)
  exact hL23 n _ _ _  _ _ _ hT23 hP hD hS (lv_sub hl [3, 4, 5, 6, 2, 1, 0] rfl)
abbrev rX4_makeTells (ms1 : Nat) : Room := { frames := 5, cells := 5, slots := ms1, locals := 111 }
set_option maxHeartbeats 4000000 in
set_option maxRecDepth 100000 in
theorem c_X4_makeTells (l : Launch) (G : GG) (n : Nat) (l_h : Nat) (l_hd : Nat) (d_hp : Nat) (d_q : Nat → Nat) (d_a : Nat → Nat) (p_q : Nat → Nat) (r_h : Nat) (r_q : Nat → Nat) (c_h : Nat) (c_q : Nat → Nat) (d_rm : Nat) (d_stateOf : AI) (d_kindOf : AI) (d_order : AI) (d_rooms : Int32) (d_count : Int32) (d_next : AI) (d_says : AI) (d_note : AI) (d_sort : AI) (d_freshSort : AI) (p_table : AI) (p_turn : Int32) (p_count : Int32) (r_goes : AI) (r_told : AI) (c_next : AI) (c_says : AI) (c_size : Int32)  (v3 : Int32) (v4 : Int32) (rmx1 : Nat) (ms1 : Nat) (hms1 : rmx1 = d_rm ∨ 12 * rmx1 ≤ ms1) (sz : Nat) (r : Int32) (d_rm_z : Nat) (d_stateOf_z : AI) (d_kindOf_z : AI) (d_order_z : AI) (d_rooms_z : Int32) (d_count_z : Int32) (d_next_z : AI) (d_says_z : AI) (d_note_z : AI) (d_sort_z : AI) (d_freshSort_z : AI) (p_table_z : AI) (p_turn_z : Int32) (p_count_z : Int32) (c_next_z : AI) (c_says_z : AI) (c_size_z : Int32) (h : p_X4_makeTells n d_rm d_stateOf d_kindOf d_order d_rooms d_next d_says d_note d_sort d_freshSort p_table p_turn r_goes r_told c_next c_says c_size rmx1 v3 v4 = some (r, d_rm_z, d_stateOf_z, d_kindOf_z, d_order_z, d_rooms_z, d_count_z, d_next_z, d_says_z, d_note_z, d_sort_z, d_freshSort_z, p_table_z, p_turn_z, p_count_z, c_next_z, c_says_z, c_size_z)) : CI l yX4_makeTells wsX4_makeTells (rX4_makeTells ms1) G [.ref l_h, .ref c_h, .ref r_h, .int v3, .int v4] ((WL G l_h l_hd) ++ (WD G l_hd d_hp d_q d_a d_rm d_stateOf d_kindOf d_order d_rooms d_count d_next d_says d_note d_sort d_freshSort) ++ (WP G d_hp p_q p_table p_turn p_count) ++ (WR G r_h r_q r_goes r_told) ++ (WC G c_h c_q c_next c_says c_size)) sz r (fun u => (WL G l_h l_hd) ++ (WD G l_hd d_hp d_q u d_rm_z d_stateOf_z d_kindOf_z d_order_z d_rooms_z d_count_z d_next_z d_says_z d_note_z d_sort_z d_freshSort_z) ++ (WP G d_hp p_q p_table_z p_turn_z p_count_z) ++ (WR G r_h r_q r_goes r_told) ++ (WC G c_h c_q c_next_z c_says_z c_size_z)) := by
  refine enterCI (cc := cX4_makeTells) (maxL := 7) (by decide) rfl (Nat.le_of_ble_eq_true rfl) ?_
  intro p e s m args below meth c A Q hx hb hml hown hts hK hP hD hS hA hret ls hl
  have hown : s.vm.findClass RX4 = some m.cls := hown
  have hf9 := hts (.fieldLink RX4 9 "DigitClaims$PlainClaims" "draft" "LDigitClaims$Draft;") (by decide +kernel)
  have hinX4 : ∀ w ∈ wsX40, w ∈ wsX4_makeTells := by decide +kernel
  have hl : lv_has ls 7 [(0, .ref l_h), (1, .ref c_h), (2, .ref r_h), (3, .int v3), (4, .int v4)] := hl
  unfold p_X4_makeTells at h
  refine lv_aload_n hx hb dX4_makeTells_0 rfl (lv_at hl 0 rfl) ?_
  refine lv_iconst (v := 5) hx hb dX4_makeTells_1 (by decide) ?_
  obtain ⟨d_rm_2, d_rooms_2, d_count_2, d_next_2, d_says_2, d_note_2, d_sort_2, d_freshSort_2, hc_2, h⟩ := ob8_e h
  refine k_cv (wr := (WP G d_hp p_q p_table p_turn p_count) ++ (WR G r_h r_q r_goes r_told) ++ (WC G c_h c_q c_next c_says c_size)) (va_runV (As := [.int (5 : Int32)]) (rest := []) ⟨hx, hb, hml, hown, hts⟩ (c_X4_start l G l_h l_hd d_hp d_q d_a d_rm d_stateOf d_kindOf d_order d_rooms d_count d_next d_says d_note d_sort d_freshSort  (5 : Int32) rmx1 ms1 hms1 _ d_rm_2 d_rooms_2 d_count_2 d_next_2 d_says_2 d_note_2 d_sort_2 d_freshSort_2 hc_2) (cwV 1 hts gX4_makeTells_X4_start rfl rfl rfl ⟨rfl, eX4_start⟩ ⟨Nat.le_of_ble_eq_true rfl, Nat.le_of_ble_eq_true rfl⟩) (preWV (ci := 4) (q0 := 0) hK (hP.sub (ws' := (WL G l_h l_hd) ++ (WD G l_hd d_hp d_q d_a d_rm d_stateOf d_kindOf d_order d_rooms d_count d_next d_says d_note d_sort d_freshSort)) [0, 1, 2, 3, 4, 5, 6, 7, 8, 9] rfl) (hD.sub (ws' := (WL G l_h l_hd) ++ (WD G l_hd d_hp d_q d_a d_rm d_stateOf d_kindOf d_order d_rooms d_count d_next d_says d_note d_sort d_freshSort)) [0, 1, 2, 3, 4, 5, 6, 7, 8, 9] (by decide) rfl) rfl rfl) rfl rfl hl.1 rfl (lv_room (Nat.le_of_ble_eq_true rfl)) dX4_makeTells_2 ⟨Nat.le_of_ble_eq_true rfl, by show 0 + (ms1) ≤ ms1; omega⟩) hP hD hS hA [0, 1, 2, 3, 4, 5, 6, 7, 8, 9] [10, 11, 12, 13, 14, 15, 16, 17] rfl rfl (by decide) (by decide) (fun u_2 H locs hP hD hS => ?_)
  have hP := hP.sub (ws' := (WL G l_h l_hd) ++ (WD G l_hd d_hp d_q u_2 d_rm_2 d_stateOf d_kindOf d_order d_rooms_2 d_count_2 d_next_2 d_says_2 d_note_2 d_sort_2 d_freshSort_2) ++ (WP G d_hp p_q p_table p_turn p_count) ++ (WR G r_h r_q r_goes r_told) ++ (WC G c_h c_q c_next c_says c_size)) [8, 9, 10, 11, 12, 13, 14, 15, 16, 17, 0, 1, 2, 3, 4, 5, 6, 7] rfl
  have hD := hD.sub (ws' := (WL G l_h l_hd) ++ (WD G l_hd d_hp d_q u_2 d_rm_2 d_stateOf d_kindOf d_order d_rooms_2 d_count_2 d_next_2 d_says_2 d_note_2 d_sort_2 d_freshSort_2) ++ (WP G d_hp p_q p_table p_turn p_count) ++ (WR G r_h r_q r_goes r_told) ++ (WC G c_h c_q c_next c_says c_size)) [8, 9, 10, 11, 12, 13, 14, 15, 16, 17, 0, 1, 2, 3, 4, 5, 6, 7] (by decide) rfl
  refine lv_iconst (v := 0) hx hb dX4_makeTells_5 (by decide) ?_
  refine lv_istore (lv' := [(5, .int (0 : Int32)), (0, .ref l_h), (1, .ref c_h), (2, .ref r_h), (3, .int v3), (4, .int v4)]) hx hb dX4_makeTells_6 hl (by decide) rfl (fun ls hl => ?_)
  obtain ⟨d_next_o8, d_says_o8, hT8, h⟩ := ob2_e h
  have hX8 : ∀ (d_next_o8x : AI) (d_says_o8x : AI)  (H : Heap) (locs : List Loc) (ls : Array Slot), some (d_next_o8x, d_says_o8x) = some (d_next_o8, d_says_o8) → va_P G.1 vwCl ((WL G l_h l_hd) ++ (WD G l_hd d_hp d_q u_2 d_rm_2 d_stateOf d_kindOf d_order d_rooms_2 d_count_2 d_next_o8x d_says_o8x d_note_2 d_sort_2 d_freshSort_2) ++ (WP G d_hp p_q p_table p_turn p_count) ++ (WR G r_h r_q r_goes r_told) ++ (WC G c_h c_q c_next c_says c_size)) H → va_D A ((WL G l_h l_hd) ++ (WD G l_hd d_hp d_q u_2 d_rm_2 d_stateOf d_kindOf d_order d_rooms_2 d_count_2 d_next_o8x d_says_o8x d_note_2 d_sort_2 d_freshSort_2) ++ (WP G d_hp p_q p_table p_turn p_count) ++ (WR G r_h r_q r_goes r_told) ++ (WC G c_h c_q c_next c_says c_size)) → va_S A s.heap H locs → lv_has ls 7 [(0, .ref l_h), (1, .ref c_h)] → W p l e (rX4_makeTells ms1) s m args below meth c H locs (0 + 5) (0 + (ms1)) Q (F0 m 84 ls []) := by
    intro d_next_o8x d_says_o8x H locs ls hq hP hD hS hl
    obtain ⟨rfl, rfl⟩ := oi2 hq
    refine lv_aload_n hx hb dX4_makeTells_84 rfl (lv_at hl 0 rfl) ?_
    refine va_get (D := G.1) (ci := 4) (v := .ref l_hd) (C := RX4) (T := TX4) (N := 1) hx hb hts hinX4 hown hK.1 hP 0 rfl rfl 0 (by decide) hf9 (fun _ h9 => h9) rfl dX4_makeTells_85 ?_
    refine lv_aload_n hx hb dX4_makeTells_88 rfl (lv_at hl 1 rfl) ?_
    obtain ⟨r_89, d_stateOf_89, d_kindOf_89, d_order_89, d_sort_89, d_freshSort_89, p_table_89, p_turn_89, p_count_89, c_next_89, c_says_89, c_size_89, hc_89, h⟩ := ob12_e h
    refine k_ci (wr := (WL G l_h l_hd) ++ (WR G r_h r_q r_goes r_told)) (va_runV (As := [.ref c_h]) (rest := []) ⟨hx, hb, hml, hown, hts⟩ (c_X1_reduceInto l G n l_hd d_hp d_q u_2 p_q c_h c_q d_rm_2 d_stateOf d_kindOf d_order d_rooms_2 d_count_2 d_next_o8 d_says_o8 d_note_2 d_sort_2 d_freshSort_2 p_table p_turn p_count c_next c_says c_size   _ r_89 d_stateOf_89 d_kindOf_89 d_order_89 d_sort_89 d_freshSort_89 p_table_89 p_turn_89 p_count_89 c_next_89 c_says_89 c_size_89 hc_89) (cwV 1 hts gX4_makeTells_X1_reduceInto rfl rfl rfl ⟨rfl, eX1_reduceInto⟩ ⟨Nat.le_of_ble_eq_true rfl, Nat.le_of_ble_eq_true rfl⟩) (preWV (ci := 1) (q0 := 0) hK (hP.sub (ws' := (WD G l_hd d_hp d_q u_2 d_rm_2 d_stateOf d_kindOf d_order d_rooms_2 d_count_2 d_next_o8 d_says_o8 d_note_2 d_sort_2 d_freshSort_2) ++ (WP G d_hp p_q p_table p_turn p_count) ++ (WC G c_h c_q c_next c_says c_size)) [1, 2, 3, 4, 5, 6, 7, 8, 9, 10, 11, 15, 16, 17] rfl) (hD.sub (ws' := (WD G l_hd d_hp d_q u_2 d_rm_2 d_stateOf d_kindOf d_order d_rooms_2 d_count_2 d_next_o8 d_says_o8 d_note_2 d_sort_2 d_freshSort_2) ++ (WP G d_hp p_q p_table p_turn p_count) ++ (WC G c_h c_q c_next c_says c_size)) [1, 2, 3, 4, 5, 6, 7, 8, 9, 10, 11, 15, 16, 17] (by decide) rfl) rfl rfl) rfl rfl hl.1 rfl (lv_room (Nat.le_of_ble_eq_true rfl)) dX4_makeTells_89 ⟨Nat.le_of_ble_eq_true rfl, by show 0 + (ms1) + 0 ≤ ms1; omega⟩) hP hD hS hA [1, 2, 3, 4, 5, 6, 7, 8, 9, 10, 11, 15, 16, 17] [0, 12, 13, 14] rfl rfl (by decide) (by decide) (fun u_89 H locs hP hD hS => ?_)
    have hP := hP.sub (ws' := (WL G l_h l_hd) ++ (WD G l_hd d_hp d_q u_89 d_rm_2 d_stateOf_89 d_kindOf_89 d_order_89 d_rooms_2 d_count_2 d_next_o8 d_says_o8 d_note_2 d_sort_89 d_freshSort_89) ++ (WP G d_hp p_q p_table_89 p_turn_89 p_count_89) ++ (WR G r_h r_q r_goes r_told) ++ (WC G c_h c_q c_next_89 c_says_89 c_size_89)) [0, 4, 5, 6, 7, 8, 9, 10, 11, 12, 13, 14, 1, 2, 3, 15, 16, 17] rfl
    have hD := hD.sub (ws' := (WL G l_h l_hd) ++ (WD G l_hd d_hp d_q u_89 d_rm_2 d_stateOf_89 d_kindOf_89 d_order_89 d_rooms_2 d_count_2 d_next_o8 d_says_o8 d_note_2 d_sort_89 d_freshSort_89) ++ (WP G d_hp p_q p_table_89 p_turn_89 p_count_89) ++ (WR G r_h r_q r_goes r_told) ++ (WC G c_h c_q c_next_89 c_says_89 c_size_89)) [0, 4, 5, 6, 7, 8, 9, 10, 11, 12, 13, 14, 1, 2, 3, 15, 16, 17] (by decide) rfl
    obtain ⟨rfl, rfl, rfl, rfl, rfl, rfl, rfl, rfl, rfl, rfl, rfl, rfl, rfl, rfl, rfl, rfl, rfl, rfl⟩ := oi18 h
    exact hret u_89 _ _ _ _ _ _ _ dX4_makeTells_92 rfl rfl hP hD hS (Nat.le_of_ble_eq_true rfl) (by show 0 + (ms1) ≤ ms1; omega)
  have hL8 : ∀ (f : Nat) (v5_8 : Int32) (d_next_8 : AI) (d_says_8 : AI)  (H : Heap) (locs : List Loc) (ls : Array Slot), p_X4_makeTells_L8 n v3 r_goes d_rm_2 d_count_2 r_told v4 f v5_8 d_next_8 d_says_8 = some (d_next_o8, d_says_o8) → va_P G.1 vwCl ((WL G l_h l_hd) ++ (WD G l_hd d_hp d_q u_2 d_rm_2 d_stateOf d_kindOf d_order d_rooms_2 d_count_2 d_next_8 d_says_8 d_note_2 d_sort_2 d_freshSort_2) ++ (WP G d_hp p_q p_table p_turn p_count) ++ (WR G r_h r_q r_goes r_told) ++ (WC G c_h c_q c_next c_says c_size)) H → va_D A ((WL G l_h l_hd) ++ (WD G l_hd d_hp d_q u_2 d_rm_2 d_stateOf d_kindOf d_order d_rooms_2 d_count_2 d_next_8 d_says_8 d_note_2 d_sort_2 d_freshSort_2) ++ (WP G d_hp p_q p_table p_turn p_count) ++ (WR G r_h r_q r_goes r_told) ++ (WC G c_h c_q c_next c_says c_size)) → va_S A s.heap H locs → lv_has ls 7 [(0, .ref l_h), (1, .ref c_h), (2, .ref r_h), (3, .int v3), (4, .int v4), (5, .int v5_8)] → W p l e (rX4_makeTells ms1) s m args below meth c H locs (0 + 5) (0 + (ms1)) Q (F0 m 8 ls []) := by
    intro f
    induction f with
    | zero => intro v5_8 d_next_8 d_says_8 H locs ls h hP hD hS hl; cases (show none = some _ from h)
    | succ f ih =>
      intro v5_8 d_next_8 d_says_8 H locs ls h hP hD hS hl
      rw [p_X4_makeTells_L8] at h
      refine lv_iload hx hb dX4_makeTells_8 (lv_at hl 5 rfl) ?_
      refine lv_iconst (v := 5) hx hb dX4_makeTells_10 (by decide) ?_
      refine lv_icmp_ge (tgt := 84) hx hb dX4_makeTells_11 (by decide) (fun c_11 => ?_) (fun c_11 => ?_)
      · replace h := (if_pos c_11).symm.trans h
        exact hX8 _ _  _ _ _ h hP hD hS (lv_sub hl [0, 1] rfl)
      · replace h := (if_neg c_11).symm.trans h
        refine lv_iconst (v := 0) hx hb dX4_makeTells_14 (by decide) ?_
        refine lv_istore (lv' := [(6, .int (0 : Int32)), (0, .ref l_h), (1, .ref c_h), (2, .ref r_h), (3, .int v3), (4, .int v4), (5, .int v5_8)]) hx hb dX4_makeTells_15 hl (by decide) rfl (fun ls hl => ?_)
        obtain ⟨d_next_o17, hT17, h⟩ := ob1_e h
        have hX17 : ∀ (d_next_o17x : AI)  (H : Heap) (locs : List Loc) (ls : Array Slot), some d_next_o17x = some d_next_o17 → va_P G.1 vwCl ((WL G l_h l_hd) ++ (WD G l_hd d_hp d_q u_2 d_rm_2 d_stateOf d_kindOf d_order d_rooms_2 d_count_2 d_next_o17x d_says_8 d_note_2 d_sort_2 d_freshSort_2) ++ (WP G d_hp p_q p_table p_turn p_count) ++ (WR G r_h r_q r_goes r_told) ++ (WC G c_h c_q c_next c_says c_size)) H → va_D A ((WL G l_h l_hd) ++ (WD G l_hd d_hp d_q u_2 d_rm_2 d_stateOf d_kindOf d_order d_rooms_2 d_count_2 d_next_o17x d_says_8 d_note_2 d_sort_2 d_freshSort_2) ++ (WP G d_hp p_q p_table p_turn p_count) ++ (WR G r_h r_q r_goes r_told) ++ (WC G c_h c_q c_next c_says c_size)) → va_S A s.heap H locs → lv_has ls 7 [(0, .ref l_h), (1, .ref c_h), (2, .ref r_h), (3, .int v3), (4, .int v4), (5, .int v5_8)] → W p l e (rX4_makeTells ms1) s m args below meth c H locs (0 + 5) (0 + (ms1)) Q (F0 m 53 ls []) := by
          intro d_next_o17x H locs ls hq hP hD hS hl
          obtain rfl := oi1 hq
          refine lv_aload_n hx hb dX4_makeTells_53 rfl (lv_at hl 0 rfl) ?_
          refine va_get (D := G.1) (ci := 4) (v := .ref l_hd) (C := RX4) (T := TX4) (N := 1) hx hb hts hinX4 hown hK.1 hP 0 rfl rfl 0 (by decide) hf9 (fun _ h9 => h9) rfl dX4_makeTells_54 ?_
          refine lv_iload hx hb dX4_makeTells_57 (lv_at hl 5 rfl) ?_
          refine lv_aload_n hx hb dX4_makeTells_59 rfl (lv_at hl 2 rfl) ?_
          refine lv_iload hx hb dX4_makeTells_60 (lv_at hl 5 rfl) ?_
          obtain ⟨r_62, hc_62, h⟩ := ob1_e h
          refine k_si (va_runV (As := [.int v5_8]) (rest := [.int v5_8, .ref l_hd]) ⟨hx, hb, hml, hown, hts⟩ (c_X5_toldAt l G r_h r_q r_goes r_told  v5_8 r_62 hc_62) (cwV 1 hts gX4_makeTells_X5_toldAt rfl rfl rfl ⟨rfl, eX5_toldAt⟩ ⟨Nat.le_of_ble_eq_true rfl, Nat.le_of_ble_eq_true rfl⟩) (preSV (ci := 5) (q0 := 0) hK (hP.sub (ws' := WR G r_h r_q r_goes r_told) [12, 13, 14] rfl) rfl rfl) rfl rfl hl.1 rfl (lv_room (Nat.le_of_ble_eq_true rfl)) dX4_makeTells_62 ⟨Nat.le_of_ble_eq_true rfl, by show 0 + (ms1) + 0 ≤ ms1; omega⟩) ?_
          refine lv_iload hx hb dX4_makeTells_65 (lv_at hl 4 rfl) ?_
          obtain ⟨j0_67, hT67, h⟩ := ob1_e h
          have hJ67 : ∀ (j0_67x : Int32)  (H : Heap) (locs : List Loc) (ls : Array Slot), some j0_67x = some j0_67 → va_P G.1 vwCl ((WL G l_h l_hd) ++ (WD G l_hd d_hp d_q u_2 d_rm_2 d_stateOf d_kindOf d_order d_rooms_2 d_count_2 d_next_o17 d_says_8 d_note_2 d_sort_2 d_freshSort_2) ++ (WP G d_hp p_q p_table p_turn p_count) ++ (WR G r_h r_q r_goes r_told) ++ (WC G c_h c_q c_next c_says c_size)) H → va_D A ((WL G l_h l_hd) ++ (WD G l_hd d_hp d_q u_2 d_rm_2 d_stateOf d_kindOf d_order d_rooms_2 d_count_2 d_next_o17 d_says_8 d_note_2 d_sort_2 d_freshSort_2) ++ (WP G d_hp p_q p_table p_turn p_count) ++ (WR G r_h r_q r_goes r_told) ++ (WC G c_h c_q c_next c_says c_size)) → va_S A s.heap H locs → lv_has ls 7 [(0, .ref l_h), (1, .ref c_h), (2, .ref r_h), (3, .int v3), (4, .int v4), (5, .int v5_8)] → W p l e (rX4_makeTells ms1) s m args below meth c H locs (0 + 5) (0 + (ms1)) Q (F0 m 75 ls [.int j0_67x, .int v5_8, .ref l_hd]) := by
            intro j0_67x H locs ls hq hP hD hS hl
            obtain rfl := oi1 hq
            obtain ⟨d_says_75, hc_75, h⟩ := ob1_e h
            refine k_cv (wr := (WL G l_h l_hd) ++ (WP G d_hp p_q p_table p_turn p_count) ++ (WR G r_h r_q r_goes r_told) ++ (WC G c_h c_q c_next c_says c_size)) (va_runV (As := [.int v5_8, .int j0_67]) (rest := []) ⟨hx, hb, hml, hown, hts⟩ (c_X1_writeSays l G l_hd d_hp d_q u_2 d_rm_2 d_stateOf d_kindOf d_order d_rooms_2 d_count_2 d_next_o17 d_says_8 d_note_2 d_sort_2 d_freshSort_2  v5_8 j0_67 _ d_says_75 hc_75) (cwV 2 hts gX4_makeTells_X1_writeSays rfl rfl rfl ⟨rfl, eX1_writeSays⟩ ⟨Nat.le_of_ble_eq_true rfl, Nat.le_of_ble_eq_true rfl⟩) (preWV (ci := 1) (q0 := 0) hK (hP.sub (ws' := WD G l_hd d_hp d_q u_2 d_rm_2 d_stateOf d_kindOf d_order d_rooms_2 d_count_2 d_next_o17 d_says_8 d_note_2 d_sort_2 d_freshSort_2) [1, 2, 3, 4, 5, 6, 7, 8, 9] rfl) (hD.sub (ws' := WD G l_hd d_hp d_q u_2 d_rm_2 d_stateOf d_kindOf d_order d_rooms_2 d_count_2 d_next_o17 d_says_8 d_note_2 d_sort_2 d_freshSort_2) [1, 2, 3, 4, 5, 6, 7, 8, 9] (by decide) rfl) rfl rfl) rfl rfl hl.1 rfl (lv_room (Nat.le_of_ble_eq_true rfl)) dX4_makeTells_75 ⟨Nat.le_of_ble_eq_true rfl, by show 0 + (ms1) + 0 ≤ ms1; omega⟩) hP hD hS hA [1, 2, 3, 4, 5, 6, 7, 8, 9] [0, 10, 11, 12, 13, 14, 15, 16, 17] rfl rfl (by decide) (by decide) (fun u_75 H locs hP hD hS => ?_)
            have hP := hP.sub (ws' := (WL G l_h l_hd) ++ (WD G l_hd d_hp d_q u_2 d_rm_2 d_stateOf d_kindOf d_order d_rooms_2 d_count_2 d_next_o17 d_says_75 d_note_2 d_sort_2 d_freshSort_2) ++ (WP G d_hp p_q p_table p_turn p_count) ++ (WR G r_h r_q r_goes r_told) ++ (WC G c_h c_q c_next c_says c_size)) [0, 9, 10, 11, 12, 13, 14, 15, 16, 17, 1, 2, 3, 4, 5, 6, 7, 8] rfl
            have hD := hD.sub (ws' := (WL G l_h l_hd) ++ (WD G l_hd d_hp d_q u_2 d_rm_2 d_stateOf d_kindOf d_order d_rooms_2 d_count_2 d_next_o17 d_says_75 d_note_2 d_sort_2 d_freshSort_2) ++ (WP G d_hp p_q p_table p_turn p_count) ++ (WR G r_h r_q r_goes r_told) ++ (WC G c_h c_q c_next c_says c_size)) [0, 9, 10, 11, 12, 13, 14, 15, 16, 17, 1, 2, 3, 4, 5, 6, 7, 8] (by decide) rfl
            refine lv_iinc (v := (v5_8 + (1 : Int32))) (lv' := [(5, .int (v5_8 + (1 : Int32))), (0, .ref l_h), (1, .ref c_h), (2, .ref r_h), (3, .int v3), (4, .int v4)]) hx hb dX4_makeTells_78 hl (k := 5) rfl rfl (by decide) rfl (fun ls hl => ?_)
            refine lv_goto (tgt := 8) hx hb dX4_makeTells_81 (by decide) ?_
            exact ih _ _ _  _ _ _ h hP hD hS (lv_sub hl [1, 2, 3, 4, 5, 0] rfl)
          replace h := hT67
          refine lv_icmp_ne (tgt := 74) hx hb dX4_makeTells_67 (by decide) (fun c_67 => ?_) (fun c_67 => ?_)
          · replace h := (if_neg c_67).symm.trans h
            refine lv_iconst (v := 0) hx hb dX4_makeTells_74 (by decide) ?_
            exact hJ67 _  _ _ _ h hP hD hS (lv_sub hl [0, 1, 2, 3, 4, 5] rfl)
          · replace h := (if_pos c_67).symm.trans h
            refine lv_iconst (v := 1) hx hb dX4_makeTells_70 (by decide) ?_
            refine lv_goto (tgt := 75) hx hb dX4_makeTells_71 (by decide) ?_
            exact hJ67 _  _ _ _ h hP hD hS (lv_sub hl [0, 1, 2, 3, 4, 5] rfl)
        have hL17 : ∀ (f : Nat) (v6_17 : Int32) (d_next_17 : AI)  (H : Heap) (locs : List Loc) (ls : Array Slot), p_X4_makeTells_L17 v3 r_goes v5_8 d_rm_2 d_count_2 f v6_17 d_next_17 = some d_next_o17 → va_P G.1 vwCl ((WL G l_h l_hd) ++ (WD G l_hd d_hp d_q u_2 d_rm_2 d_stateOf d_kindOf d_order d_rooms_2 d_count_2 d_next_17 d_says_8 d_note_2 d_sort_2 d_freshSort_2) ++ (WP G d_hp p_q p_table p_turn p_count) ++ (WR G r_h r_q r_goes r_told) ++ (WC G c_h c_q c_next c_says c_size)) H → va_D A ((WL G l_h l_hd) ++ (WD G l_hd d_hp d_q u_2 d_rm_2 d_stateOf d_kindOf d_order d_rooms_2 d_count_2 d_next_17 d_says_8 d_note_2 d_sort_2 d_freshSort_2) ++ (WP G d_hp p_q p_table p_turn p_count) ++ (WR G r_h r_q r_goes r_told) ++ (WC G c_h c_q c_next c_says c_size)) → va_S A s.heap H locs → lv_has ls 7 [(0, .ref l_h), (1, .ref c_h), (2, .ref r_h), (3, .int v3), (4, .int v4), (5, .int v5_8), (6, .int v6_17)] → W p l e (rX4_makeTells ms1) s m args below meth c H locs (0 + 5) (0 + (ms1)) Q (F0 m 17 ls []) := by
          intro f
          induction f with
          | zero => intro v6_17 d_next_17 H locs ls h hP hD hS hl; cases (show none = some _ from h)
          | succ f ih =>
            intro v6_17 d_next_17 H locs ls h hP hD hS hl
            rw [p_X4_makeTells_L17] at h
            refine lv_iload hx hb dX4_makeTells_17 (lv_at hl 6 rfl) ?_
            refine lv_bipush (v := 8) hx hb dX4_makeTells_19 (by decide) ?_
            refine lv_icmp_ge (tgt := 53) hx hb dX4_makeTells_21 (by decide) (fun c_21 => ?_) (fun c_21 => ?_)
            · replace h := (if_pos c_21).symm.trans h
              exact hX17 _  _ _ _ h hP hD hS (lv_sub hl [0, 1, 2, 3, 4, 5] rfl)
            · replace h := (if_neg c_21).symm.trans h
              refine lv_aload_n hx hb dX4_makeTells_24 rfl (lv_at hl 0 rfl) ?_
              refine va_get (D := G.1) (ci := 4) (v := .ref l_hd) (C := RX4) (T := TX4) (N := 1) hx hb hts hinX4 hown hK.1 hP 0 rfl rfl 0 (by decide) hf9 (fun _ h9 => h9) rfl dX4_makeTells_25 ?_
              refine lv_iload hx hb dX4_makeTells_28 (lv_at hl 5 rfl) ?_
              refine lv_iload hx hb dX4_makeTells_30 (lv_at hl 6 rfl) ?_
              refine lv_aload_n hx hb dX4_makeTells_32 rfl (lv_at hl 2 rfl) ?_
              refine lv_iload hx hb dX4_makeTells_33 (lv_at hl 5 rfl) ?_
              refine lv_iload hx hb dX4_makeTells_35 (lv_at hl 6 rfl) ?_
              refine lv_iload_n hx hb dX4_makeTells_37 rfl (lv_at hl 3 rfl) ?_
              obtain ⟨r_38, hc_38, h⟩ := ob1_e h
              refine k_si (va_runSN (As := [.int v6_17, .int v3]) (rest := [.int v5_8, .ref r_h, .int v6_17, .int v5_8, .ref l_hd]) ⟨hx, hb, hml, hown, hts⟩ (c_X9_digitOf l G    v6_17 v3 r_38 hc_38) ⟨va_cnB 2 hts gX4_makeTells_X9_digitOf_n25 rfl rfl rfl (hK.2 _ (List.mem_of_getElem? (i := 7) rfl)) (hts (.initialized RX9) (by decide +kernel)) eX9_digitOf ⟨Nat.le_of_ble_eq_true rfl, Nat.le_of_ble_eq_true rfl⟩, hts (.static yX9_digitOf) (by decide +kernel), trivial⟩ (preSS hK (fun k q h => by cases h)) rfl rfl hl.1 rfl (lv_room (Nat.le_of_ble_eq_true rfl)) dX4_makeTells_38 ⟨Nat.le_of_ble_eq_true rfl, by show 0 + (ms1) + 0 ≤ ms1; omega⟩) ?_
              obtain ⟨r_41, hc_41, h⟩ := ob1_e h
              refine k_si (va_runV (As := [.int v5_8, .int r_38]) (rest := [.int v6_17, .int v5_8, .ref l_hd]) ⟨hx, hb, hml, hown, hts⟩ (c_X5_goesOn l G r_h r_q r_goes r_told  v5_8 r_38 r_41 hc_41) (cwV 2 hts gX4_makeTells_X5_goesOn rfl rfl rfl ⟨rfl, eX5_goesOn⟩ ⟨Nat.le_of_ble_eq_true rfl, Nat.le_of_ble_eq_true rfl⟩) (preSV (ci := 5) (q0 := 0) hK (hP.sub (ws' := WR G r_h r_q r_goes r_told) [12, 13, 14] rfl) rfl rfl) rfl rfl hl.1 rfl (lv_room (Nat.le_of_ble_eq_true rfl)) dX4_makeTells_41 ⟨Nat.le_of_ble_eq_true rfl, by show 0 + (ms1) + 0 ≤ ms1; omega⟩) ?_
              obtain ⟨d_next_44, hc_44, h⟩ := ob1_e h
              refine k_cv (wr := (WL G l_h l_hd) ++ (WP G d_hp p_q p_table p_turn p_count) ++ (WR G r_h r_q r_goes r_told) ++ (WC G c_h c_q c_next c_says c_size)) (va_runV (As := [.int v5_8, .int v6_17, .int r_41]) (rest := []) ⟨hx, hb, hml, hown, hts⟩ (c_X1_write l G l_hd d_hp d_q u_2 d_rm_2 d_stateOf d_kindOf d_order d_rooms_2 d_count_2 d_next_17 d_says_8 d_note_2 d_sort_2 d_freshSort_2  v5_8 v6_17 r_41 _ d_next_44 hc_44) (cwV 3 hts gX4_makeTells_X1_write rfl rfl rfl ⟨rfl, eX1_write⟩ ⟨Nat.le_of_ble_eq_true rfl, Nat.le_of_ble_eq_true rfl⟩) (preWV (ci := 1) (q0 := 0) hK (hP.sub (ws' := WD G l_hd d_hp d_q u_2 d_rm_2 d_stateOf d_kindOf d_order d_rooms_2 d_count_2 d_next_17 d_says_8 d_note_2 d_sort_2 d_freshSort_2) [1, 2, 3, 4, 5, 6, 7, 8, 9] rfl) (hD.sub (ws' := WD G l_hd d_hp d_q u_2 d_rm_2 d_stateOf d_kindOf d_order d_rooms_2 d_count_2 d_next_17 d_says_8 d_note_2 d_sort_2 d_freshSort_2) [1, 2, 3, 4, 5, 6, 7, 8, 9] (by decide) rfl) rfl rfl) rfl rfl hl.1 rfl (lv_room (Nat.le_of_ble_eq_true rfl)) dX4_makeTells_44 ⟨Nat.le_of_ble_eq_true rfl, by show 0 + (ms1) + 0 ≤ ms1; omega⟩) hP hD hS hA [1, 2, 3, 4, 5, 6, 7, 8, 9] [0, 10, 11, 12, 13, 14, 15, 16, 17] rfl rfl (by decide) (by decide) (fun u_44 H locs hP hD hS => ?_)
              have hP := hP.sub (ws' := (WL G l_h l_hd) ++ (WD G l_hd d_hp d_q u_2 d_rm_2 d_stateOf d_kindOf d_order d_rooms_2 d_count_2 d_next_44 d_says_8 d_note_2 d_sort_2 d_freshSort_2) ++ (WP G d_hp p_q p_table p_turn p_count) ++ (WR G r_h r_q r_goes r_told) ++ (WC G c_h c_q c_next c_says c_size)) [0, 9, 10, 11, 12, 13, 14, 15, 16, 17, 1, 2, 3, 4, 5, 6, 7, 8] rfl
              have hD := hD.sub (ws' := (WL G l_h l_hd) ++ (WD G l_hd d_hp d_q u_2 d_rm_2 d_stateOf d_kindOf d_order d_rooms_2 d_count_2 d_next_44 d_says_8 d_note_2 d_sort_2 d_freshSort_2) ++ (WP G d_hp p_q p_table p_turn p_count) ++ (WR G r_h r_q r_goes r_told) ++ (WC G c_h c_q c_next c_says c_size)) [0, 9, 10, 11, 12, 13, 14, 15, 16, 17, 1, 2, 3, 4, 5, 6, 7, 8] (by decide) rfl
              refine lv_iinc (v := (v6_17 + (1 : Int32))) (lv' := [(6, .int (v6_17 + (1 : Int32))), (0, .ref l_h), (1, .ref c_h), (2, .ref r_h), (3, .int v3), (4, .int v4), (5, .int v5_8)]) hx hb dX4_makeTells_47 hl (k := 6) rfl rfl (by decide) rfl (fun ls hl => ?_)
              refine lv_goto (tgt := 17) hx hb dX4_makeTells_50 (by decide) ?_
              exact ih _ _  _ _ _ h hP hD hS (lv_sub hl [1, 2, 3, 4, 5, 6, 0] rfl)
        exact hL17 n _ _  _ _ _ hT17 hP hD hS (lv_sub hl [1, 2, 3, 4, 5, 6, 0] rfl)
  exact hL8 n _ _ _  _ _ _ hT8 hP hD hS (lv_sub hl [1, 2, 3, 4, 5, 0] rfl)
abbrev rX4_makeAlike (ms1 : Nat) : Room := { frames := 5, cells := 5, slots := ms1, locals := 111 }
set_option maxHeartbeats 4000000 in
set_option maxRecDepth 100000 in
theorem c_X4_makeAlike (l : Launch) (G : GG) (n : Nat) (l_h : Nat) (l_hd : Nat) (d_hp : Nat) (d_q : Nat → Nat) (d_a : Nat → Nat) (p_q : Nat → Nat) (r_h : Nat) (r_q : Nat → Nat) (c_h : Nat) (c_q : Nat → Nat) (d_rm : Nat) (d_stateOf : AI) (d_kindOf : AI) (d_order : AI) (d_rooms : Int32) (d_count : Int32) (d_next : AI) (d_says : AI) (d_note : AI) (d_sort : AI) (d_freshSort : AI) (p_table : AI) (p_turn : Int32) (p_count : Int32) (r_goes : AI) (r_told : AI) (c_next : AI) (c_says : AI) (c_size : Int32)  (v3 : Int32) (v4 : Int32) (rmx1 : Nat) (ms1 : Nat) (hms1 : rmx1 = d_rm ∨ 12 * rmx1 ≤ ms1) (sz : Nat) (r : Int32) (d_rm_z : Nat) (d_stateOf_z : AI) (d_kindOf_z : AI) (d_order_z : AI) (d_rooms_z : Int32) (d_count_z : Int32) (d_next_z : AI) (d_says_z : AI) (d_note_z : AI) (d_sort_z : AI) (d_freshSort_z : AI) (p_table_z : AI) (p_turn_z : Int32) (p_count_z : Int32) (c_next_z : AI) (c_says_z : AI) (c_size_z : Int32) (h : p_X4_makeAlike n d_rm d_stateOf d_kindOf d_order d_rooms d_next d_says d_note d_sort d_freshSort p_table p_turn r_goes r_told c_next c_says c_size rmx1 v3 v4 = some (r, d_rm_z, d_stateOf_z, d_kindOf_z, d_order_z, d_rooms_z, d_count_z, d_next_z, d_says_z, d_note_z, d_sort_z, d_freshSort_z, p_table_z, p_turn_z, p_count_z, c_next_z, c_says_z, c_size_z)) : CI l yX4_makeAlike wsX4_makeAlike (rX4_makeAlike ms1) G [.ref l_h, .ref c_h, .ref r_h, .int v3, .int v4] ((WL G l_h l_hd) ++ (WD G l_hd d_hp d_q d_a d_rm d_stateOf d_kindOf d_order d_rooms d_count d_next d_says d_note d_sort d_freshSort) ++ (WP G d_hp p_q p_table p_turn p_count) ++ (WR G r_h r_q r_goes r_told) ++ (WC G c_h c_q c_next c_says c_size)) sz r (fun u => (WL G l_h l_hd) ++ (WD G l_hd d_hp d_q u d_rm_z d_stateOf_z d_kindOf_z d_order_z d_rooms_z d_count_z d_next_z d_says_z d_note_z d_sort_z d_freshSort_z) ++ (WP G d_hp p_q p_table_z p_turn_z p_count_z) ++ (WR G r_h r_q r_goes r_told) ++ (WC G c_h c_q c_next_z c_says_z c_size_z)) := by
  refine enterCI (cc := cX4_makeAlike) (maxL := 11) (by decide) rfl (Nat.le_of_ble_eq_true rfl) ?_
  intro p e s m args below meth c A Q hx hb hml hown hts hK hP hD hS hA hret ls hl
  have hown : s.vm.findClass RX4 = some m.cls := hown
  have hf9 := hts (.fieldLink RX4 9 "DigitClaims$PlainClaims" "draft" "LDigitClaims$Draft;") (by decide +kernel)
  have hinX4 : ∀ w ∈ wsX40, w ∈ wsX4_makeAlike := by decide +kernel
  have hl : lv_has ls 11 [(0, .ref l_h), (1, .ref c_h), (2, .ref r_h), (3, .int v3), (4, .int v4)] := hl
  unfold p_X4_makeAlike at h
  refine lv_aload_n hx hb dX4_makeAlike_0 rfl (lv_at hl 0 rfl) ?_
  refine lv_bipush (v := 25) hx hb dX4_makeAlike_1 (by decide) ?_
  obtain ⟨d_rm_3, d_rooms_3, d_count_3, d_next_3, d_says_3, d_note_3, d_sort_3, d_freshSort_3, hc_3, h⟩ := ob8_e h
  refine k_cv (wr := (WP G d_hp p_q p_table p_turn p_count) ++ (WR G r_h r_q r_goes r_told) ++ (WC G c_h c_q c_next c_says c_size)) (va_runV (As := [.int (25 : Int32)]) (rest := []) ⟨hx, hb, hml, hown, hts⟩ (c_X4_start l G l_h l_hd d_hp d_q d_a d_rm d_stateOf d_kindOf d_order d_rooms d_count d_next d_says d_note d_sort d_freshSort  (25 : Int32) rmx1 ms1 hms1 _ d_rm_3 d_rooms_3 d_count_3 d_next_3 d_says_3 d_note_3 d_sort_3 d_freshSort_3 hc_3) (cwV 1 hts gX4_makeAlike_X4_start rfl rfl rfl ⟨rfl, eX4_start⟩ ⟨Nat.le_of_ble_eq_true rfl, Nat.le_of_ble_eq_true rfl⟩) (preWV (ci := 4) (q0 := 0) hK (hP.sub (ws' := (WL G l_h l_hd) ++ (WD G l_hd d_hp d_q d_a d_rm d_stateOf d_kindOf d_order d_rooms d_count d_next d_says d_note d_sort d_freshSort)) [0, 1, 2, 3, 4, 5, 6, 7, 8, 9] rfl) (hD.sub (ws' := (WL G l_h l_hd) ++ (WD G l_hd d_hp d_q d_a d_rm d_stateOf d_kindOf d_order d_rooms d_count d_next d_says d_note d_sort d_freshSort)) [0, 1, 2, 3, 4, 5, 6, 7, 8, 9] (by decide) rfl) rfl rfl) rfl rfl hl.1 rfl (lv_room (Nat.le_of_ble_eq_true rfl)) dX4_makeAlike_3 ⟨Nat.le_of_ble_eq_true rfl, by show 0 + (ms1) ≤ ms1; omega⟩) hP hD hS hA [0, 1, 2, 3, 4, 5, 6, 7, 8, 9] [10, 11, 12, 13, 14, 15, 16, 17] rfl rfl (by decide) (by decide) (fun u_3 H locs hP hD hS => ?_)
  have hP := hP.sub (ws' := (WL G l_h l_hd) ++ (WD G l_hd d_hp d_q u_3 d_rm_3 d_stateOf d_kindOf d_order d_rooms_3 d_count_3 d_next_3 d_says_3 d_note_3 d_sort_3 d_freshSort_3) ++ (WP G d_hp p_q p_table p_turn p_count) ++ (WR G r_h r_q r_goes r_told) ++ (WC G c_h c_q c_next c_says c_size)) [8, 9, 10, 11, 12, 13, 14, 15, 16, 17, 0, 1, 2, 3, 4, 5, 6, 7] rfl
  have hD := hD.sub (ws' := (WL G l_h l_hd) ++ (WD G l_hd d_hp d_q u_3 d_rm_3 d_stateOf d_kindOf d_order d_rooms_3 d_count_3 d_next_3 d_says_3 d_note_3 d_sort_3 d_freshSort_3) ++ (WP G d_hp p_q p_table p_turn p_count) ++ (WR G r_h r_q r_goes r_told) ++ (WC G c_h c_q c_next c_says c_size)) [8, 9, 10, 11, 12, 13, 14, 15, 16, 17, 0, 1, 2, 3, 4, 5, 6, 7] (by decide) rfl
  refine lv_iconst (v := 0) hx hb dX4_makeAlike_6 (by decide) ?_
  refine lv_istore (lv' := [(5, .int (0 : Int32)), (0, .ref l_h), (1, .ref c_h), (2, .ref r_h), (3, .int v3), (4, .int v4)]) hx hb dX4_makeAlike_7 hl (by decide) rfl (fun ls hl => ?_)
  obtain ⟨d_next_o9, d_says_o9, hT9, h⟩ := ob2_e h
  have hX9 : ∀ (d_next_o9x : AI) (d_says_o9x : AI)  (H : Heap) (locs : List Loc) (ls : Array Slot), some (d_next_o9x, d_says_o9x) = some (d_next_o9, d_says_o9) → va_P G.1 vwCl ((WL G l_h l_hd) ++ (WD G l_hd d_hp d_q u_3 d_rm_3 d_stateOf d_kindOf d_order d_rooms_3 d_count_3 d_next_o9x d_says_o9x d_note_3 d_sort_3 d_freshSort_3) ++ (WP G d_hp p_q p_table p_turn p_count) ++ (WR G r_h r_q r_goes r_told) ++ (WC G c_h c_q c_next c_says c_size)) H → va_D A ((WL G l_h l_hd) ++ (WD G l_hd d_hp d_q u_3 d_rm_3 d_stateOf d_kindOf d_order d_rooms_3 d_count_3 d_next_o9x d_says_o9x d_note_3 d_sort_3 d_freshSort_3) ++ (WP G d_hp p_q p_table p_turn p_count) ++ (WR G r_h r_q r_goes r_told) ++ (WC G c_h c_q c_next c_says c_size)) → va_S A s.heap H locs → lv_has ls 11 [(0, .ref l_h), (1, .ref c_h)] → W p l e (rX4_makeAlike ms1) s m args below meth c H locs (0 + 5) (0 + (ms1)) Q (F0 m 137 ls []) := by
    intro d_next_o9x d_says_o9x H locs ls hq hP hD hS hl
    obtain ⟨rfl, rfl⟩ := oi2 hq
    refine lv_aload_n hx hb dX4_makeAlike_137 rfl (lv_at hl 0 rfl) ?_
    refine va_get (D := G.1) (ci := 4) (v := .ref l_hd) (C := RX4) (T := TX4) (N := 1) hx hb hts hinX4 hown hK.1 hP 0 rfl rfl 0 (by decide) hf9 (fun _ h9 => h9) rfl dX4_makeAlike_138 ?_
    refine lv_aload_n hx hb dX4_makeAlike_141 rfl (lv_at hl 1 rfl) ?_
    obtain ⟨r_142, d_stateOf_142, d_kindOf_142, d_order_142, d_sort_142, d_freshSort_142, p_table_142, p_turn_142, p_count_142, c_next_142, c_says_142, c_size_142, hc_142, h⟩ := ob12_e h
    refine k_ci (wr := (WL G l_h l_hd) ++ (WR G r_h r_q r_goes r_told)) (va_runV (As := [.ref c_h]) (rest := []) ⟨hx, hb, hml, hown, hts⟩ (c_X1_reduceInto l G n l_hd d_hp d_q u_3 p_q c_h c_q d_rm_3 d_stateOf d_kindOf d_order d_rooms_3 d_count_3 d_next_o9 d_says_o9 d_note_3 d_sort_3 d_freshSort_3 p_table p_turn p_count c_next c_says c_size   _ r_142 d_stateOf_142 d_kindOf_142 d_order_142 d_sort_142 d_freshSort_142 p_table_142 p_turn_142 p_count_142 c_next_142 c_says_142 c_size_142 hc_142) (cwV 1 hts gX4_makeAlike_X1_reduceInto rfl rfl rfl ⟨rfl, eX1_reduceInto⟩ ⟨Nat.le_of_ble_eq_true rfl, Nat.le_of_ble_eq_true rfl⟩) (preWV (ci := 1) (q0 := 0) hK (hP.sub (ws' := (WD G l_hd d_hp d_q u_3 d_rm_3 d_stateOf d_kindOf d_order d_rooms_3 d_count_3 d_next_o9 d_says_o9 d_note_3 d_sort_3 d_freshSort_3) ++ (WP G d_hp p_q p_table p_turn p_count) ++ (WC G c_h c_q c_next c_says c_size)) [1, 2, 3, 4, 5, 6, 7, 8, 9, 10, 11, 15, 16, 17] rfl) (hD.sub (ws' := (WD G l_hd d_hp d_q u_3 d_rm_3 d_stateOf d_kindOf d_order d_rooms_3 d_count_3 d_next_o9 d_says_o9 d_note_3 d_sort_3 d_freshSort_3) ++ (WP G d_hp p_q p_table p_turn p_count) ++ (WC G c_h c_q c_next c_says c_size)) [1, 2, 3, 4, 5, 6, 7, 8, 9, 10, 11, 15, 16, 17] (by decide) rfl) rfl rfl) rfl rfl hl.1 rfl (lv_room (Nat.le_of_ble_eq_true rfl)) dX4_makeAlike_142 ⟨Nat.le_of_ble_eq_true rfl, by show 0 + (ms1) + 0 ≤ ms1; omega⟩) hP hD hS hA [1, 2, 3, 4, 5, 6, 7, 8, 9, 10, 11, 15, 16, 17] [0, 12, 13, 14] rfl rfl (by decide) (by decide) (fun u_142 H locs hP hD hS => ?_)
    have hP := hP.sub (ws' := (WL G l_h l_hd) ++ (WD G l_hd d_hp d_q u_142 d_rm_3 d_stateOf_142 d_kindOf_142 d_order_142 d_rooms_3 d_count_3 d_next_o9 d_says_o9 d_note_3 d_sort_142 d_freshSort_142) ++ (WP G d_hp p_q p_table_142 p_turn_142 p_count_142) ++ (WR G r_h r_q r_goes r_told) ++ (WC G c_h c_q c_next_142 c_says_142 c_size_142)) [0, 4, 5, 6, 7, 8, 9, 10, 11, 12, 13, 14, 1, 2, 3, 15, 16, 17] rfl
    have hD := hD.sub (ws' := (WL G l_h l_hd) ++ (WD G l_hd d_hp d_q u_142 d_rm_3 d_stateOf_142 d_kindOf_142 d_order_142 d_rooms_3 d_count_3 d_next_o9 d_says_o9 d_note_3 d_sort_142 d_freshSort_142) ++ (WP G d_hp p_q p_table_142 p_turn_142 p_count_142) ++ (WR G r_h r_q r_goes r_told) ++ (WC G c_h c_q c_next_142 c_says_142 c_size_142)) [0, 4, 5, 6, 7, 8, 9, 10, 11, 12, 13, 14, 1, 2, 3, 15, 16, 17] (by decide) rfl
    obtain ⟨rfl, rfl, rfl, rfl, rfl, rfl, rfl, rfl, rfl, rfl, rfl, rfl, rfl, rfl, rfl, rfl, rfl, rfl⟩ := oi18 h
    exact hret u_142 _ _ _ _ _ _ _ dX4_makeAlike_145 rfl rfl hP hD hS (Nat.le_of_ble_eq_true rfl) (by show 0 + (ms1) ≤ ms1; omega)
  have hL9 : ∀ (f : Nat) (v5_9 : Int32) (d_next_9 : AI) (d_says_9 : AI)  (H : Heap) (locs : List Loc) (ls : Array Slot), p_X4_makeAlike_L9 n v3 r_goes v4 d_rm_3 d_count_3 r_told f v5_9 d_next_9 d_says_9 = some (d_next_o9, d_says_o9) → va_P G.1 vwCl ((WL G l_h l_hd) ++ (WD G l_hd d_hp d_q u_3 d_rm_3 d_stateOf d_kindOf d_order d_rooms_3 d_count_3 d_next_9 d_says_9 d_note_3 d_sort_3 d_freshSort_3) ++ (WP G d_hp p_q p_table p_turn p_count) ++ (WR G r_h r_q r_goes r_told) ++ (WC G c_h c_q c_next c_says c_size)) H → va_D A ((WL G l_h l_hd) ++ (WD G l_hd d_hp d_q u_3 d_rm_3 d_stateOf d_kindOf d_order d_rooms_3 d_count_3 d_next_9 d_says_9 d_note_3 d_sort_3 d_freshSort_3) ++ (WP G d_hp p_q p_table p_turn p_count) ++ (WR G r_h r_q r_goes r_told) ++ (WC G c_h c_q c_next c_says c_size)) → va_S A s.heap H locs → lv_has ls 11 [(0, .ref l_h), (1, .ref c_h), (2, .ref r_h), (3, .int v3), (4, .int v4), (5, .int v5_9)] → W p l e (rX4_makeAlike ms1) s m args below meth c H locs (0 + 5) (0 + (ms1)) Q (F0 m 9 ls []) := by
    intro f
    induction f with
    | zero => intro v5_9 d_next_9 d_says_9 H locs ls h hP hD hS hl; cases (show none = some _ from h)
    | succ f ih =>
      intro v5_9 d_next_9 d_says_9 H locs ls h hP hD hS hl
      rw [p_X4_makeAlike_L9] at h
      refine lv_iload hx hb dX4_makeAlike_9 (lv_at hl 5 rfl) ?_
      refine lv_iconst (v := 5) hx hb dX4_makeAlike_11 (by decide) ?_
      refine lv_icmp_ge (tgt := 137) hx hb dX4_makeAlike_12 (by decide) (fun c_12 => ?_) (fun c_12 => ?_)
      · replace h := (if_pos c_12).symm.trans h
        exact hX9 _ _  _ _ _ h hP hD hS (lv_sub hl [0, 1] rfl)
      · replace h := (if_neg c_12).symm.trans h
        refine lv_iconst (v := 0) hx hb dX4_makeAlike_15 (by decide) ?_
        refine lv_istore (lv' := [(6, .int (0 : Int32)), (0, .ref l_h), (1, .ref c_h), (2, .ref r_h), (3, .int v3), (4, .int v4), (5, .int v5_9)]) hx hb dX4_makeAlike_16 hl (by decide) rfl (fun ls hl => ?_)
        obtain ⟨d_next_o18, d_says_o18, hT18, h⟩ := ob2_e h
        have hX18 : ∀ (d_next_o18x : AI) (d_says_o18x : AI)  (H : Heap) (locs : List Loc) (ls : Array Slot), some (d_next_o18x, d_says_o18x) = some (d_next_o18, d_says_o18) → va_P G.1 vwCl ((WL G l_h l_hd) ++ (WD G l_hd d_hp d_q u_3 d_rm_3 d_stateOf d_kindOf d_order d_rooms_3 d_count_3 d_next_o18x d_says_o18x d_note_3 d_sort_3 d_freshSort_3) ++ (WP G d_hp p_q p_table p_turn p_count) ++ (WR G r_h r_q r_goes r_told) ++ (WC G c_h c_q c_next c_says c_size)) H → va_D A ((WL G l_h l_hd) ++ (WD G l_hd d_hp d_q u_3 d_rm_3 d_stateOf d_kindOf d_order d_rooms_3 d_count_3 d_next_o18x d_says_o18x d_note_3 d_sort_3 d_freshSort_3) ++ (WP G d_hp p_q p_table p_turn p_count) ++ (WR G r_h r_q r_goes r_told) ++ (WC G c_h c_q c_next c_says c_size)) → va_S A s.heap H locs → lv_has ls 11 [(0, .ref l_h), (1, .ref c_h), (2, .ref r_h), (3, .int v3), (4, .int v4), (5, .int v5_9)] → W p l e (rX4_makeAlike ms1) s m args below meth c H locs (0 + 5) (0 + (ms1)) Q (F0 m 131 ls []) := by
          intro d_next_o18x d_says_o18x H locs ls hq hP hD hS hl
          obtain ⟨rfl, rfl⟩ := oi2 hq
          refine lv_iinc (v := (v5_9 + (1 : Int32))) (lv' := [(5, .int (v5_9 + (1 : Int32))), (0, .ref l_h), (1, .ref c_h), (2, .ref r_h), (3, .int v3), (4, .int v4)]) hx hb dX4_makeAlike_131 hl (k := 5) rfl rfl (by decide) rfl (fun ls hl => ?_)
          refine lv_goto (tgt := 9) hx hb dX4_makeAlike_134 (by decide) ?_
          exact ih _ _ _  _ _ _ h hP hD hS (lv_sub hl [1, 2, 3, 4, 5, 0] rfl)
        have hL18 : ∀ (f : Nat) (v6_18 : Int32) (d_next_18 : AI) (d_says_18 : AI)  (H : Heap) (locs : List Loc) (ls : Array Slot), p_X4_makeAlike_L18 n v3 r_goes v5_9 v4 d_rm_3 d_count_3 r_told f v6_18 d_next_18 d_says_18 = some (d_next_o18, d_says_o18) → va_P G.1 vwCl ((WL G l_h l_hd) ++ (WD G l_hd d_hp d_q u_3 d_rm_3 d_stateOf d_kindOf d_order d_rooms_3 d_count_3 d_next_18 d_says_18 d_note_3 d_sort_3 d_freshSort_3) ++ (WP G d_hp p_q p_table p_turn p_count) ++ (WR G r_h r_q r_goes r_told) ++ (WC G c_h c_q c_next c_says c_size)) H → va_D A ((WL G l_h l_hd) ++ (WD G l_hd d_hp d_q u_3 d_rm_3 d_stateOf d_kindOf d_order d_rooms_3 d_count_3 d_next_18 d_says_18 d_note_3 d_sort_3 d_freshSort_3) ++ (WP G d_hp p_q p_table p_turn p_count) ++ (WR G r_h r_q r_goes r_told) ++ (WC G c_h c_q c_next c_says c_size)) → va_S A s.heap H locs → lv_has ls 11 [(0, .ref l_h), (1, .ref c_h), (2, .ref r_h), (3, .int v3), (4, .int v4), (5, .int v5_9), (6, .int v6_18)] → W p l e (rX4_makeAlike ms1) s m args below meth c H locs (0 + 5) (0 + (ms1)) Q (F0 m 18 ls []) := by
          intro f
          induction f with
          | zero => intro v6_18 d_next_18 d_says_18 H locs ls h hP hD hS hl; cases (show none = some _ from h)
          | succ f ih =>
            intro v6_18 d_next_18 d_says_18 H locs ls h hP hD hS hl
            rw [p_X4_makeAlike_L18] at h
            refine lv_iload hx hb dX4_makeAlike_18 (lv_at hl 6 rfl) ?_
            refine lv_iconst (v := 5) hx hb dX4_makeAlike_20 (by decide) ?_
            refine lv_icmp_ge (tgt := 131) hx hb dX4_makeAlike_21 (by decide) (fun c_21 => ?_) (fun c_21 => ?_)
            · replace h := (if_pos c_21).symm.trans h
              exact hX18 _ _  _ _ _ h hP hD hS (lv_sub hl [0, 1, 2, 3, 4, 5] rfl)
            · replace h := (if_neg c_21).symm.trans h
              refine lv_iload hx hb dX4_makeAlike_24 (lv_at hl 5 rfl) ?_
              refine lv_iconst (v := 5) hx hb dX4_makeAlike_26 (by decide) ?_
              refine lv_imul hx hb dX4_makeAlike_27 ?_
              refine lv_iload hx hb dX4_makeAlike_28 (lv_at hl 6 rfl) ?_
              refine lv_iadd hx hb dX4_makeAlike_30 ?_
              refine lv_istore (lv' := [(7, .int ((v5_9 * (5 : Int32)) + v6_18)), (0, .ref l_h), (1, .ref c_h), (2, .ref r_h), (3, .int v3), (4, .int v4), (5, .int v5_9), (6, .int v6_18)]) hx hb dX4_makeAlike_31 hl (by decide) rfl (fun ls hl => ?_)
              refine lv_iconst (v := 0) hx hb dX4_makeAlike_33 (by decide) ?_
              refine lv_istore (lv' := [(8, .int (0 : Int32)), (7, .int ((v5_9 * (5 : Int32)) + v6_18)), (0, .ref l_h), (1, .ref c_h), (2, .ref r_h), (3, .int v3), (4, .int v4), (5, .int v5_9), (6, .int v6_18)]) hx hb dX4_makeAlike_34 hl (by decide) rfl (fun ls hl => ?_)
              obtain ⟨d_next_o36, hT36, h⟩ := ob1_e h
              have hX36 : ∀ (d_next_o36x : AI)  (H : Heap) (locs : List Loc) (ls : Array Slot), some d_next_o36x = some d_next_o36 → va_P G.1 vwCl ((WL G l_h l_hd) ++ (WD G l_hd d_hp d_q u_3 d_rm_3 d_stateOf d_kindOf d_order d_rooms_3 d_count_3 d_next_o36x d_says_18 d_note_3 d_sort_3 d_freshSort_3) ++ (WP G d_hp p_q p_table p_turn p_count) ++ (WR G r_h r_q r_goes r_told) ++ (WC G c_h c_q c_next c_says c_size)) H → va_D A ((WL G l_h l_hd) ++ (WD G l_hd d_hp d_q u_3 d_rm_3 d_stateOf d_kindOf d_order d_rooms_3 d_count_3 d_next_o36x d_says_18 d_note_3 d_sort_3 d_freshSort_3) ++ (WP G d_hp p_q p_table p_turn p_count) ++ (WR G r_h r_q r_goes r_told) ++ (WC G c_h c_q c_next c_says c_size)) → va_S A s.heap H locs → lv_has ls 11 [(0, .ref l_h), (1, .ref c_h), (2, .ref r_h), (3, .int v3), (4, .int v4), (5, .int v5_9), (6, .int v6_18), (7, .int ((v5_9 * (5 : Int32)) + v6_18))] → W p l e (rX4_makeAlike ms1) s m args below meth c H locs (0 + 5) (0 + (ms1)) Q (F0 m 96 ls []) := by
                intro d_next_o36x H locs ls hq hP hD hS hl
                obtain rfl := oi1 hq
                refine lv_aload_n hx hb dX4_makeAlike_96 rfl (lv_at hl 0 rfl) ?_
                refine va_get (D := G.1) (ci := 4) (v := .ref l_hd) (C := RX4) (T := TX4) (N := 1) hx hb hts hinX4 hown hK.1 hP 0 rfl rfl 0 (by decide) hf9 (fun _ h9 => h9) rfl dX4_makeAlike_97 ?_
                refine lv_iload hx hb dX4_makeAlike_100 (lv_at hl 7 rfl) ?_
                refine lv_aload_n hx hb dX4_makeAlike_102 rfl (lv_at hl 2 rfl) ?_
                refine lv_iload hx hb dX4_makeAlike_103 (lv_at hl 5 rfl) ?_
                obtain ⟨r_105, hc_105, h⟩ := ob1_e h
                refine k_si (va_runV (As := [.int v5_9]) (rest := [.int ((v5_9 * (5 : Int32)) + v6_18), .ref l_hd]) ⟨hx, hb, hml, hown, hts⟩ (c_X5_toldAt l G r_h r_q r_goes r_told  v5_9 r_105 hc_105) (cwV 1 hts gX4_makeAlike_X5_toldAt rfl rfl rfl ⟨rfl, eX5_toldAt⟩ ⟨Nat.le_of_ble_eq_true rfl, Nat.le_of_ble_eq_true rfl⟩) (preSV (ci := 5) (q0 := 0) hK (hP.sub (ws' := WR G r_h r_q r_goes r_told) [12, 13, 14] rfl) rfl rfl) rfl rfl hl.1 rfl (lv_room (Nat.le_of_ble_eq_true rfl)) dX4_makeAlike_105 ⟨Nat.le_of_ble_eq_true rfl, by show 0 + (ms1) + 0 ≤ ms1; omega⟩) ?_
                refine lv_aload_n hx hb dX4_makeAlike_108 rfl (lv_at hl 2 rfl) ?_
                refine lv_iload hx hb dX4_makeAlike_109 (lv_at hl 6 rfl) ?_
                obtain ⟨r_111, hc_111, h⟩ := ob1_e h
                refine k_si (va_runV (As := [.int v6_18]) (rest := [.int r_105, .int ((v5_9 * (5 : Int32)) + v6_18), .ref l_hd]) ⟨hx, hb, hml, hown, hts⟩ (c_X5_toldAt l G r_h r_q r_goes r_told  v6_18 r_111 hc_111) (cwV 1 hts gX4_makeAlike_X5_toldAt rfl rfl rfl ⟨rfl, eX5_toldAt⟩ ⟨Nat.le_of_ble_eq_true rfl, Nat.le_of_ble_eq_true rfl⟩) (preSV (ci := 5) (q0 := 0) hK (hP.sub (ws' := WR G r_h r_q r_goes r_told) [12, 13, 14] rfl) rfl rfl) rfl rfl hl.1 rfl (lv_room (Nat.le_of_ble_eq_true rfl)) dX4_makeAlike_111 ⟨Nat.le_of_ble_eq_true rfl, by show 0 + (ms1) + 0 ≤ ms1; omega⟩) ?_
                obtain ⟨j0_114, hT114, h⟩ := ob1_e h
                have hJ114 : ∀ (j0_114x : Int32)  (H : Heap) (locs : List Loc) (ls : Array Slot), some j0_114x = some j0_114 → va_P G.1 vwCl ((WL G l_h l_hd) ++ (WD G l_hd d_hp d_q u_3 d_rm_3 d_stateOf d_kindOf d_order d_rooms_3 d_count_3 d_next_o36 d_says_18 d_note_3 d_sort_3 d_freshSort_3) ++ (WP G d_hp p_q p_table p_turn p_count) ++ (WR G r_h r_q r_goes r_told) ++ (WC G c_h c_q c_next c_says c_size)) H → va_D A ((WL G l_h l_hd) ++ (WD G l_hd d_hp d_q u_3 d_rm_3 d_stateOf d_kindOf d_order d_rooms_3 d_count_3 d_next_o36 d_says_18 d_note_3 d_sort_3 d_freshSort_3) ++ (WP G d_hp p_q p_table p_turn p_count) ++ (WR G r_h r_q r_goes r_told) ++ (WC G c_h c_q c_next c_says c_size)) → va_S A s.heap H locs → lv_has ls 11 [(0, .ref l_h), (1, .ref c_h), (2, .ref r_h), (3, .int v3), (4, .int v4), (5, .int v5_9), (6, .int v6_18)] → W p l e (rX4_makeAlike ms1) s m args below meth c H locs (0 + 5) (0 + (ms1)) Q (F0 m 122 ls [.int j0_114x, .int ((v5_9 * (5 : Int32)) + v6_18), .ref l_hd]) := by
                  intro j0_114x H locs ls hq hP hD hS hl
                  obtain rfl := oi1 hq
                  obtain ⟨d_says_122, hc_122, h⟩ := ob1_e h
                  refine k_cv (wr := (WL G l_h l_hd) ++ (WP G d_hp p_q p_table p_turn p_count) ++ (WR G r_h r_q r_goes r_told) ++ (WC G c_h c_q c_next c_says c_size)) (va_runV (As := [.int ((v5_9 * (5 : Int32)) + v6_18), .int j0_114]) (rest := []) ⟨hx, hb, hml, hown, hts⟩ (c_X1_writeSays l G l_hd d_hp d_q u_3 d_rm_3 d_stateOf d_kindOf d_order d_rooms_3 d_count_3 d_next_o36 d_says_18 d_note_3 d_sort_3 d_freshSort_3  ((v5_9 * (5 : Int32)) + v6_18) j0_114 _ d_says_122 hc_122) (cwV 2 hts gX4_makeAlike_X1_writeSays rfl rfl rfl ⟨rfl, eX1_writeSays⟩ ⟨Nat.le_of_ble_eq_true rfl, Nat.le_of_ble_eq_true rfl⟩) (preWV (ci := 1) (q0 := 0) hK (hP.sub (ws' := WD G l_hd d_hp d_q u_3 d_rm_3 d_stateOf d_kindOf d_order d_rooms_3 d_count_3 d_next_o36 d_says_18 d_note_3 d_sort_3 d_freshSort_3) [1, 2, 3, 4, 5, 6, 7, 8, 9] rfl) (hD.sub (ws' := WD G l_hd d_hp d_q u_3 d_rm_3 d_stateOf d_kindOf d_order d_rooms_3 d_count_3 d_next_o36 d_says_18 d_note_3 d_sort_3 d_freshSort_3) [1, 2, 3, 4, 5, 6, 7, 8, 9] (by decide) rfl) rfl rfl) rfl rfl hl.1 rfl (lv_room (Nat.le_of_ble_eq_true rfl)) dX4_makeAlike_122 ⟨Nat.le_of_ble_eq_true rfl, by show 0 + (ms1) + 0 ≤ ms1; omega⟩) hP hD hS hA [1, 2, 3, 4, 5, 6, 7, 8, 9] [0, 10, 11, 12, 13, 14, 15, 16, 17] rfl rfl (by decide) (by decide) (fun u_122 H locs hP hD hS => ?_)
                  have hP := hP.sub (ws' := (WL G l_h l_hd) ++ (WD G l_hd d_hp d_q u_3 d_rm_3 d_stateOf d_kindOf d_order d_rooms_3 d_count_3 d_next_o36 d_says_122 d_note_3 d_sort_3 d_freshSort_3) ++ (WP G d_hp p_q p_table p_turn p_count) ++ (WR G r_h r_q r_goes r_told) ++ (WC G c_h c_q c_next c_says c_size)) [0, 9, 10, 11, 12, 13, 14, 15, 16, 17, 1, 2, 3, 4, 5, 6, 7, 8] rfl
                  have hD := hD.sub (ws' := (WL G l_h l_hd) ++ (WD G l_hd d_hp d_q u_3 d_rm_3 d_stateOf d_kindOf d_order d_rooms_3 d_count_3 d_next_o36 d_says_122 d_note_3 d_sort_3 d_freshSort_3) ++ (WP G d_hp p_q p_table p_turn p_count) ++ (WR G r_h r_q r_goes r_told) ++ (WC G c_h c_q c_next c_says c_size)) [0, 9, 10, 11, 12, 13, 14, 15, 16, 17, 1, 2, 3, 4, 5, 6, 7, 8] (by decide) rfl
                  refine lv_iinc (v := (v6_18 + (1 : Int32))) (lv' := [(6, .int (v6_18 + (1 : Int32))), (0, .ref l_h), (1, .ref c_h), (2, .ref r_h), (3, .int v3), (4, .int v4), (5, .int v5_9)]) hx hb dX4_makeAlike_125 hl (k := 6) rfl rfl (by decide) rfl (fun ls hl => ?_)
                  refine lv_goto (tgt := 18) hx hb dX4_makeAlike_128 (by decide) ?_
                  exact ih _ _ _  _ _ _ h hP hD hS (lv_sub hl [1, 2, 3, 4, 5, 6, 0] rfl)
                replace h := hT114
                refine lv_icmp_ne (tgt := 121) hx hb dX4_makeAlike_114 (by decide) (fun c_114 => ?_) (fun c_114 => ?_)
                · replace h := (if_neg c_114).symm.trans h
                  refine lv_iconst (v := 0) hx hb dX4_makeAlike_121 (by decide) ?_
                  exact hJ114 _  _ _ _ h hP hD hS (lv_sub hl [0, 1, 2, 3, 4, 5, 6] rfl)
                · replace h := (if_pos c_114).symm.trans h
                  refine lv_iconst (v := 1) hx hb dX4_makeAlike_117 (by decide) ?_
                  refine lv_goto (tgt := 122) hx hb dX4_makeAlike_118 (by decide) ?_
                  exact hJ114 _  _ _ _ h hP hD hS (lv_sub hl [0, 1, 2, 3, 4, 5, 6] rfl)
              have hL36 : ∀ (f : Nat) (v8_36 : Int32) (d_next_36 : AI)  (H : Heap) (locs : List Loc) (ls : Array Slot), p_X4_makeAlike_L36 v3 r_goes v5_9 v4 v6_18 d_rm_3 d_count_3 f v8_36 d_next_36 = some d_next_o36 → va_P G.1 vwCl ((WL G l_h l_hd) ++ (WD G l_hd d_hp d_q u_3 d_rm_3 d_stateOf d_kindOf d_order d_rooms_3 d_count_3 d_next_36 d_says_18 d_note_3 d_sort_3 d_freshSort_3) ++ (WP G d_hp p_q p_table p_turn p_count) ++ (WR G r_h r_q r_goes r_told) ++ (WC G c_h c_q c_next c_says c_size)) H → va_D A ((WL G l_h l_hd) ++ (WD G l_hd d_hp d_q u_3 d_rm_3 d_stateOf d_kindOf d_order d_rooms_3 d_count_3 d_next_36 d_says_18 d_note_3 d_sort_3 d_freshSort_3) ++ (WP G d_hp p_q p_table p_turn p_count) ++ (WR G r_h r_q r_goes r_told) ++ (WC G c_h c_q c_next c_says c_size)) → va_S A s.heap H locs → lv_has ls 11 [(0, .ref l_h), (1, .ref c_h), (2, .ref r_h), (3, .int v3), (4, .int v4), (5, .int v5_9), (6, .int v6_18), (7, .int ((v5_9 * (5 : Int32)) + v6_18)), (8, .int v8_36)] → W p l e (rX4_makeAlike ms1) s m args below meth c H locs (0 + 5) (0 + (ms1)) Q (F0 m 36 ls []) := by
                intro f
                induction f with
                | zero => intro v8_36 d_next_36 H locs ls h hP hD hS hl; cases (show none = some _ from h)
                | succ f ih =>
                  intro v8_36 d_next_36 H locs ls h hP hD hS hl
                  rw [p_X4_makeAlike_L36] at h
                  refine lv_iload hx hb dX4_makeAlike_36 (lv_at hl 8 rfl) ?_
                  refine lv_bipush (v := 8) hx hb dX4_makeAlike_38 (by decide) ?_
                  refine lv_icmp_ge (tgt := 96) hx hb dX4_makeAlike_40 (by decide) (fun c_40 => ?_) (fun c_40 => ?_)
                  · replace h := (if_pos c_40).symm.trans h
                    exact hX36 _  _ _ _ h hP hD hS (lv_sub hl [0, 1, 2, 3, 4, 5, 6, 7] rfl)
                  · replace h := (if_neg c_40).symm.trans h
                    refine lv_aload_n hx hb dX4_makeAlike_43 rfl (lv_at hl 2 rfl) ?_
                    refine lv_iload hx hb dX4_makeAlike_44 (lv_at hl 5 rfl) ?_
                    refine lv_iload hx hb dX4_makeAlike_46 (lv_at hl 8 rfl) ?_
                    refine lv_iload_n hx hb dX4_makeAlike_48 rfl (lv_at hl 3 rfl) ?_
                    obtain ⟨r_49, hc_49, h⟩ := ob1_e h
                    refine k_si (va_runSN (As := [.int v8_36, .int v3]) (rest := [.int v5_9, .ref r_h]) ⟨hx, hb, hml, hown, hts⟩ (c_X9_digitOf l G    v8_36 v3 r_49 hc_49) ⟨va_cnB 2 hts gX4_makeAlike_X9_digitOf_n25 rfl rfl rfl (hK.2 _ (List.mem_of_getElem? (i := 7) rfl)) (hts (.initialized RX9) (by decide +kernel)) eX9_digitOf ⟨Nat.le_of_ble_eq_true rfl, Nat.le_of_ble_eq_true rfl⟩, hts (.static yX9_digitOf) (by decide +kernel), trivial⟩ (preSS hK (fun k q h => by cases h)) rfl rfl hl.1 rfl (lv_room (Nat.le_of_ble_eq_true rfl)) dX4_makeAlike_49 ⟨Nat.le_of_ble_eq_true rfl, by show 0 + (ms1) + 0 ≤ ms1; omega⟩) ?_
                    obtain ⟨r_52, hc_52, h⟩ := ob1_e h
                    refine k_si (va_runV (As := [.int v5_9, .int r_49]) (rest := []) ⟨hx, hb, hml, hown, hts⟩ (c_X5_goesOn l G r_h r_q r_goes r_told  v5_9 r_49 r_52 hc_52) (cwV 2 hts gX4_makeAlike_X5_goesOn rfl rfl rfl ⟨rfl, eX5_goesOn⟩ ⟨Nat.le_of_ble_eq_true rfl, Nat.le_of_ble_eq_true rfl⟩) (preSV (ci := 5) (q0 := 0) hK (hP.sub (ws' := WR G r_h r_q r_goes r_told) [12, 13, 14] rfl) rfl rfl) rfl rfl hl.1 rfl (lv_room (Nat.le_of_ble_eq_true rfl)) dX4_makeAlike_52 ⟨Nat.le_of_ble_eq_true rfl, by show 0 + (ms1) + 0 ≤ ms1; omega⟩) ?_
                    refine lv_istore (lv' := [(9, .int r_52), (0, .ref l_h), (1, .ref c_h), (2, .ref r_h), (3, .int v3), (4, .int v4), (5, .int v5_9), (6, .int v6_18), (7, .int ((v5_9 * (5 : Int32)) + v6_18)), (8, .int v8_36)]) hx hb dX4_makeAlike_55 hl (by decide) rfl (fun ls hl => ?_)
                    refine lv_aload_n hx hb dX4_makeAlike_57 rfl (lv_at hl 3 rfl) ?_
                    refine lv_iload hx hb dX4_makeAlike_58 (lv_at hl 7 rfl) ?_
                    refine lv_iload hx hb dX4_makeAlike_60 (lv_at hl 9 rfl) ?_
                    refine lv_iload hx hb dX4_makeAlike_62 (lv_at hl 5 rfl) ?_
                    obtain ⟨r_64, hc_64, h⟩ := ob1_e h
                    refine k_si (va_runSN (As := [.int v8_36, .int v4]) (rest := [.int v6_18, .ref r_h]) ⟨hx, hb, hml, hown, hts⟩ (c_X9_digitOf l G    v8_36 v4 r_64 hc_64) ⟨va_cnB 2 hts gX4_makeAlike_X9_digitOf_n25 rfl rfl rfl (hK.2 _ (List.mem_of_getElem? (i := 7) rfl)) (hts (.initialized RX9) (by decide +kernel)) eX9_digitOf ⟨Nat.le_of_ble_eq_true rfl, Nat.le_of_ble_eq_true rfl⟩, hts (.static yX9_digitOf) (by decide +kernel), trivial⟩ (preSS hK (fun k q h => by cases h)) rfl rfl hl.1 rfl (lv_room (Nat.le_of_ble_eq_true rfl)) dX4_makeAlike_64 ⟨Nat.le_of_ble_eq_true rfl, by show 0 + (ms1) + 0 ≤ ms1; omega⟩) ?_
                    obtain ⟨r_67, hc_67, h⟩ := ob1_e h
                    refine k_si (va_runV (As := [.int v6_18, .int r_64]) (rest := []) ⟨hx, hb, hml, hown, hts⟩ (c_X5_goesOn l G r_h r_q r_goes r_told  v6_18 r_64 r_67 hc_67) (cwV 2 hts gX4_makeAlike_X5_goesOn rfl rfl rfl ⟨rfl, eX5_goesOn⟩ ⟨Nat.le_of_ble_eq_true rfl, Nat.le_of_ble_eq_true rfl⟩) (preSV (ci := 5) (q0 := 0) hK (hP.sub (ws' := WR G r_h r_q r_goes r_told) [12, 13, 14] rfl) rfl rfl) rfl rfl hl.1 rfl (lv_room (Nat.le_of_ble_eq_true rfl)) dX4_makeAlike_67 ⟨Nat.le_of_ble_eq_true rfl, by show 0 + (ms1) + 0 ≤ ms1; omega⟩) ?_
                    refine lv_istore (lv' := [(10, .int r_67), (9, .int r_52), (0, .ref l_h), (1, .ref c_h), (2, .ref r_h), (3, .int v3), (4, .int v4), (5, .int v5_9), (6, .int v6_18), (7, .int ((v5_9 * (5 : Int32)) + v6_18)), (8, .int v8_36)]) hx hb dX4_makeAlike_70 hl (by decide) rfl (fun ls hl => ?_)
                    refine lv_aload_n hx hb dX4_makeAlike_72 rfl (lv_at hl 2 rfl) ?_
                    refine va_get (D := G.1) (ci := 4) (v := .ref l_hd) (C := RX4) (T := TX4) (N := 1) hx hb hts hinX4 hown hK.1 hP 0 rfl rfl 0 (by decide) hf9 (fun _ h9 => h9) rfl dX4_makeAlike_73 ?_
                    refine lv_iload hx hb dX4_makeAlike_76 (lv_at hl 9 rfl) ?_
                    refine lv_iload hx hb dX4_makeAlike_78 (lv_at hl 10 rfl) ?_
                    refine lv_iload hx hb dX4_makeAlike_80 (lv_at hl 1 rfl) ?_
                    refine lv_iconst (v := 5) hx hb dX4_makeAlike_82 (by decide) ?_
                    refine lv_imul hx hb dX4_makeAlike_83 ?_
                    refine lv_iload hx hb dX4_makeAlike_84 (lv_at hl 0 rfl) ?_
                    refine lv_iadd hx hb dX4_makeAlike_86 ?_
                    obtain ⟨d_next_87, hc_87, h⟩ := ob1_e h
                    refine k_cv (wr := (WL G l_h l_hd) ++ (WP G d_hp p_q p_table p_turn p_count) ++ (WR G r_h r_q r_goes r_told) ++ (WC G c_h c_q c_next c_says c_size)) (va_runV (As := [.int ((v5_9 * (5 : Int32)) + v6_18), .int v8_36, .int ((r_52 * (5 : Int32)) + r_67)]) (rest := []) ⟨hx, hb, hml, hown, hts⟩ (c_X1_write l G l_hd d_hp d_q u_3 d_rm_3 d_stateOf d_kindOf d_order d_rooms_3 d_count_3 d_next_36 d_says_18 d_note_3 d_sort_3 d_freshSort_3  ((v5_9 * (5 : Int32)) + v6_18) v8_36 ((r_52 * (5 : Int32)) + r_67) _ d_next_87 hc_87) (cwV 3 hts gX4_makeAlike_X1_write rfl rfl rfl ⟨rfl, eX1_write⟩ ⟨Nat.le_of_ble_eq_true rfl, Nat.le_of_ble_eq_true rfl⟩) (preWV (ci := 1) (q0 := 0) hK (hP.sub (ws' := WD G l_hd d_hp d_q u_3 d_rm_3 d_stateOf d_kindOf d_order d_rooms_3 d_count_3 d_next_36 d_says_18 d_note_3 d_sort_3 d_freshSort_3) [1, 2, 3, 4, 5, 6, 7, 8, 9] rfl) (hD.sub (ws' := WD G l_hd d_hp d_q u_3 d_rm_3 d_stateOf d_kindOf d_order d_rooms_3 d_count_3 d_next_36 d_says_18 d_note_3 d_sort_3 d_freshSort_3) [1, 2, 3, 4, 5, 6, 7, 8, 9] (by decide) rfl) rfl rfl) rfl rfl hl.1 rfl (lv_room (Nat.le_of_ble_eq_true rfl)) dX4_makeAlike_87 ⟨Nat.le_of_ble_eq_true rfl, by show 0 + (ms1) + 0 ≤ ms1; omega⟩) hP hD hS hA [1, 2, 3, 4, 5, 6, 7, 8, 9] [0, 10, 11, 12, 13, 14, 15, 16, 17] rfl rfl (by decide) (by decide) (fun u_87 H locs hP hD hS => ?_)
                    have hP := hP.sub (ws' := (WL G l_h l_hd) ++ (WD G l_hd d_hp d_q u_3 d_rm_3 d_stateOf d_kindOf d_order d_rooms_3 d_count_3 d_next_87 d_says_18 d_note_3 d_sort_3 d_freshSort_3) ++ (WP G d_hp p_q p_table p_turn p_count) ++ (WR G r_h r_q r_goes r_told) ++ (WC G c_h c_q c_next c_says c_size)) [0, 9, 10, 11, 12, 13, 14, 15, 16, 17, 1, 2, 3, 4, 5, 6, 7, 8] rfl
                    have hD := hD.sub (ws' := (WL G l_h l_hd) ++ (WD G l_hd d_hp d_q u_3 d_rm_3 d_stateOf d_kindOf d_order d_rooms_3 d_count_3 d_next_87 d_says_18 d_note_3 d_sort_3 d_freshSort_3) ++ (WP G d_hp p_q p_table p_turn p_count) ++ (WR G r_h r_q r_goes r_told) ++ (WC G c_h c_q c_next c_says c_size)) [0, 9, 10, 11, 12, 13, 14, 15, 16, 17, 1, 2, 3, 4, 5, 6, 7, 8] (by decide) rfl
                    refine lv_iinc (v := (v8_36 + (1 : Int32))) (lv' := [(8, .int (v8_36 + (1 : Int32))), (10, .int r_67), (9, .int r_52), (0, .ref l_h), (1, .ref c_h), (2, .ref r_h), (3, .int v3), (4, .int v4), (5, .int v5_9), (6, .int v6_18), (7, .int ((v5_9 * (5 : Int32)) + v6_18))]) hx hb dX4_makeAlike_90 hl (k := 10) rfl rfl (by decide) rfl (fun ls hl => ?_)
                    refine lv_goto (tgt := 36) hx hb dX4_makeAlike_93 (by decide) ?_
                    exact ih _ _  _ _ _ h hP hD hS (lv_sub hl [3, 4, 5, 6, 7, 8, 9, 10, 0] rfl)
              exact hL36 n _ _  _ _ _ hT36 hP hD hS (lv_sub hl [2, 3, 4, 5, 6, 7, 8, 1, 0] rfl)
        exact hL18 n _ _ _  _ _ _ hT18 hP hD hS (lv_sub hl [1, 2, 3, 4, 5, 6, 0] rfl)
  exact hL9 n _ _ _  _ _ _ hT9 hP hD hS (lv_sub hl [1, 2, 3, 4, 5, 0] rfl)
abbrev rX2_exchanged : Room := { frames := 1, cells := 0, slots := 0, locals := 21 }
set_option maxHeartbeats 4000000 in
set_option maxRecDepth 100000 in
theorem c_X2_exchanged (l : Launch) (G : GG)    (v0 : Int32) (v1 : Int32) (v2 : Int32) (r : Int32) (h : p_X2_exchanged v0 v1 v2 = some r) : SI l yX2_exchanged wsX2_exchanged rX2_exchanged G [.int v0, .int v1, .int v2] (([] : va_W)) r := by
  refine enterSI (cc := cX2_exchanged) (maxL := 3) (by decide) rfl (Nat.le_of_ble_eq_true rfl) ?_
  intro p e s m args below meth c Q hx hb hml hown hts hK hP hret ls hl
  have hown : s.vm.findClass RX2 = some m.cls := hown
  have hl : lv_has ls 3 [(0, .int v0), (1, .int v1), (2, .int v2)] := hl
  unfold p_X2_exchanged at h
  refine lv_iload_n hx hb dX2_exchanged_0 rfl (lv_at hl 0 rfl) ?_
  refine lv_iload_n hx hb dX2_exchanged_1 rfl (lv_at hl 1 rfl) ?_
  obtain ⟨r_2, hc_2, h⟩ := ob1_e h
  refine k_si (va_runSN (As := [.int v0, .int v1]) (rest := []) ⟨hx, hb, hml, hown, hts⟩ (c_X9_digitOf l G    v0 v1 r_2 hc_2) ⟨va_cnB 2 hts gX2_exchanged_X9_digitOf_n79 rfl rfl rfl (hK.2 _ (List.mem_of_getElem? (i := 6) rfl)) (hts (.initialized RX9) (by decide +kernel)) eX9_digitOf ⟨Nat.le_of_ble_eq_true rfl, Nat.le_of_ble_eq_true rfl⟩, hts (.static yX9_digitOf) (by decide +kernel), trivial⟩ (preSS hK (fun k q h => by cases h)) rfl rfl hl.1 rfl (lv_room (Nat.le_of_ble_eq_true rfl)) dX2_exchanged_2 ⟨Nat.le_of_ble_eq_true rfl, Nat.le_of_ble_eq_true rfl⟩) ?_
  refine lv_iload_n hx hb dX2_exchanged_5 rfl (lv_at hl 0 rfl) ?_
  refine lv_iload_n hx hb dX2_exchanged_6 rfl (lv_at hl 2 rfl) ?_
  obtain ⟨r_7, hc_7, h⟩ := ob1_e h
  refine k_si (va_runSN (As := [.int v0, .int v2]) (rest := [.int r_2]) ⟨hx, hb, hml, hown, hts⟩ (c_X9_digitOf l G    v0 v2 r_7 hc_7) ⟨va_cnB 2 hts gX2_exchanged_X9_digitOf_n79 rfl rfl rfl (hK.2 _ (List.mem_of_getElem? (i := 6) rfl)) (hts (.initialized RX9) (by decide +kernel)) eX9_digitOf ⟨Nat.le_of_ble_eq_true rfl, Nat.le_of_ble_eq_true rfl⟩, hts (.static yX9_digitOf) (by decide +kernel), trivial⟩ (preSS hK (fun k q h => by cases h)) rfl rfl hl.1 rfl (lv_room (Nat.le_of_ble_eq_true rfl)) dX2_exchanged_7 ⟨Nat.le_of_ble_eq_true rfl, Nat.le_of_ble_eq_true rfl⟩) ?_
  refine lv_icmp_ne (tgt := 17) hx hb dX2_exchanged_10 (by decide) (fun c_10 => ?_) (fun c_10 => ?_)
  · replace h := (if_neg c_10).symm.trans h
    refine lv_iload_n hx hb dX2_exchanged_17 rfl (lv_at hl 0 rfl) ?_
    refine lv_iconst (v := 1) hx hb dX2_exchanged_18 (by decide) ?_
    refine lv_iload_n hx hb dX2_exchanged_19 rfl (lv_at hl 1 rfl) ?_
    refine lv_ishl hx hb dX2_exchanged_20 ?_
    refine lv_ixor hx hb dX2_exchanged_21 ?_
    refine lv_iconst (v := 1) hx hb dX2_exchanged_22 (by decide) ?_
    refine lv_iload_n hx hb dX2_exchanged_23 rfl (lv_at hl 2 rfl) ?_
    refine lv_ishl hx hb dX2_exchanged_24 ?_
    refine lv_ixor hx hb dX2_exchanged_25 ?_
    obtain rfl := oi1 h
    exact hret _ _ _ dX2_exchanged_26 rfl rfl
  · replace h := (if_pos c_10).symm.trans h
    refine lv_iload_n hx hb dX2_exchanged_13 rfl (lv_at hl 0 rfl) ?_
    refine lv_goto (tgt := 26) hx hb dX2_exchanged_14 (by decide) ?_
    obtain rfl := oi1 h
    exact hret _ _ _ dX2_exchanged_26 rfl rfl
abbrev rX2_stateFor : Room := { frames := 2, cells := 0, slots := 0, locals := 43 }
set_option maxHeartbeats 4000000 in
set_option maxRecDepth 100000 in
theorem c_X2_stateFor (l : Launch) (G : GG) (k_h : Nat) (k_hd : Nat) (k_hp : Nat) (d_q : Nat → Nat) (d_a : Nat → Nat) (p_q : Nat → Nat) (d_rm : Nat) (d_stateOf : AI) (d_kindOf : AI) (d_order : AI) (d_rooms : Int32) (d_count : Int32) (d_next : AI) (d_says : AI) (d_note : AI) (d_sort : AI) (d_freshSort : AI) (p_table : AI) (p_turn : Int32) (p_count : Int32)  (v1 : Int32) (v2 : Int32) (sz : Nat) (r : Int32) (d_count_z : Int32) (d_note_z : AI) (p_table_z : AI) (p_count_z : Int32) (h : p_X2_stateFor d_rm d_rooms d_count d_note p_table p_turn p_count v1 v2 = some (r, d_count_z, d_note_z, p_table_z, p_count_z)) : CI l yX2_stateFor wsX2_stateFor rX2_stateFor G [.ref k_h, .int v1, .int v2] ((WK G k_h k_hd k_hp) ++ (WD G k_hd k_hp d_q d_a d_rm d_stateOf d_kindOf d_order d_rooms d_count d_next d_says d_note d_sort d_freshSort) ++ (WP G k_hp p_q p_table p_turn p_count)) sz r (fun u => (WK G k_h k_hd k_hp) ++ (WD G k_hd k_hp d_q d_a d_rm d_stateOf d_kindOf d_order d_rooms d_count_z d_next d_says d_note_z d_sort d_freshSort) ++ (WP G k_hp p_q p_table_z p_turn p_count_z)) := by
  refine enterCI (cc := cX2_stateFor) (maxL := 4) (by decide) rfl (Nat.le_of_ble_eq_true rfl) ?_
  intro p e s m args below meth c A Q hx hb hml hown hts hK hP hD hS hA hret ls hl
  have hown : s.vm.findClass RX2 = some m.cls := hown
  have hf11 := hts (.fieldLink RX2 11 "DigitClaims$MadeClaims" "draft" "LDigitClaims$Draft;") (by decide +kernel)
  have hf15 := hts (.fieldLink RX2 15 "DigitClaims$MadeClaims" "pairs" "LDigitClaims$PairNumbers;") (by decide +kernel)
  have hinX2 : ∀ w ∈ wsX20, w ∈ wsX2_stateFor := by decide +kernel
  have hl : lv_has ls 4 [(0, .ref k_h), (1, .int v1), (2, .int v2)] := hl
  unfold p_X2_stateFor at h
  refine lv_aload_n hx hb dX2_stateFor_0 rfl (lv_at hl 0 rfl) ?_
  refine va_get (D := G.1) (ci := 2) (v := .ref k_hp) (C := RX2) (T := TX2) (N := 2) hx hb hts hinX2 hown hK.1 hP 0 rfl rfl 1 (by decide) hf15 (fun _ h9 => h9) rfl dX2_stateFor_1 ?_
  refine lv_iload_n hx hb dX2_stateFor_4 rfl (lv_at hl 1 rfl) ?_
  refine lv_iload_n hx hb dX2_stateFor_5 rfl (lv_at hl 2 rfl) ?_
  obtain ⟨r_6, p_table_6, p_count_6, hc_6, h⟩ := ob3_e h
  refine k_ci (wr := (WK G k_h k_hd k_hp) ++ (WD G k_hd k_hp d_q d_a d_rm d_stateOf d_kindOf d_order d_rooms d_count d_next d_says d_note d_sort d_freshSort)) (va_runV (As := [.int v1, .int v2]) (rest := []) ⟨hx, hb, hml, hown, hts⟩ (c_X3_numberOf l G k_hp p_q p_table p_turn p_count  v1 v2 _ r_6 p_table_6 p_count_6 hc_6) (cwV 2 hts gX2_stateFor_X3_numberOf rfl rfl rfl ⟨rfl, eX3_numberOf⟩ ⟨Nat.le_of_ble_eq_true rfl, Nat.le_of_ble_eq_true rfl⟩) (preWV (ci := 3) (q0 := 0) hK (hP.sub (ws' := WP G k_hp p_q p_table p_turn p_count) [10, 11] rfl) (hD.sub (ws' := WP G k_hp p_q p_table p_turn p_count) [10, 11] (by decide) rfl) rfl rfl) rfl rfl hl.1 rfl (lv_room (Nat.le_of_ble_eq_true rfl)) dX2_stateFor_6 ⟨Nat.le_of_ble_eq_true rfl, Nat.le_of_ble_eq_true rfl⟩) hP hD hS hA [10, 11] [0, 1, 2, 3, 4, 5, 6, 7, 8, 9] rfl rfl (by decide) (by decide) (fun u_6 H locs hP hD hS => ?_)
  have hP := hP.sub (ws' := (WK G k_h k_hd k_hp) ++ (WD G k_hd k_hp d_q d_a d_rm d_stateOf d_kindOf d_order d_rooms d_count d_next d_says d_note d_sort d_freshSort) ++ (WP G k_hp p_q p_table_6 p_turn p_count_6)) [0, 1, 2, 3, 4, 5, 6, 7, 8, 9, 10, 11] rfl
  have hD := hD.sub (ws' := (WK G k_h k_hd k_hp) ++ (WD G k_hd k_hp d_q d_a d_rm d_stateOf d_kindOf d_order d_rooms d_count d_next d_says d_note d_sort d_freshSort) ++ (WP G k_hp p_q p_table_6 p_turn p_count_6)) [0, 1, 2, 3, 4, 5, 6, 7, 8, 9, 10, 11] (by decide) rfl
  refine lv_istore_n (lv' := [(3, .int r_6), (0, .ref k_h), (1, .int v1), (2, .int v2)]) hx hb dX2_stateFor_9 rfl hl (by decide) rfl (fun ls hl => ?_)
  refine lv_iload_n hx hb dX2_stateFor_10 rfl (lv_at hl 0 rfl) ?_
  refine lv_aload_n hx hb dX2_stateFor_11 rfl (lv_at hl 1 rfl) ?_
  refine va_get (D := G.1) (ci := 2) (v := .ref k_hd) (C := RX2) (T := TX2) (N := 2) hx hb hts hinX2 hown hK.1 hP 0 rfl rfl 0 (by decide) hf11 (fun _ h9 => h9) rfl dX2_stateFor_12 ?_
  obtain ⟨r_15, hc_15, h⟩ := ob1_e h
  refine k_si (va_runV (As := []) (rest := [.int r_6]) ⟨hx, hb, hml, hown, hts⟩ (c_X1_count l G k_hd k_hp d_q d_a d_rm d_stateOf d_kindOf d_order d_rooms d_count d_next d_says d_note d_sort d_freshSort   r_15 hc_15) (cwV 0 hts gX2_stateFor_X1_count rfl rfl rfl ⟨rfl, eX1_count⟩ ⟨Nat.le_of_ble_eq_true rfl, Nat.le_of_ble_eq_true rfl⟩) (preSV (ci := 1) (q0 := 0) hK (hP.sub (ws' := WD G k_hd k_hp d_q d_a d_rm d_stateOf d_kindOf d_order d_rooms d_count d_next d_says d_note d_sort d_freshSort) [1, 2, 3, 4, 5, 6, 7, 8, 9] rfl) rfl rfl) rfl rfl hl.1 rfl (lv_room (Nat.le_of_ble_eq_true rfl)) dX2_stateFor_15 ⟨Nat.le_of_ble_eq_true rfl, Nat.le_of_ble_eq_true rfl⟩) ?_
  obtain ⟨d_count_j18, d_note_j18, hT18, h⟩ := ob2_e h
  have hJ18 : ∀ (d_count_j18x : Int32) (d_note_j18x : AI)  (H : Heap) (locs : List Loc) (ls : Array Slot), some (d_count_j18x, d_note_j18x) = some (d_count_j18, d_note_j18) → va_P G.1 vwCl ((WK G k_h k_hd k_hp) ++ (WD G k_hd k_hp d_q d_a d_rm d_stateOf d_kindOf d_order d_rooms d_count_j18x d_next d_says d_note_j18x d_sort d_freshSort) ++ (WP G k_hp p_q p_table_6 p_turn p_count_6)) H → va_D A ((WK G k_h k_hd k_hp) ++ (WD G k_hd k_hp d_q d_a d_rm d_stateOf d_kindOf d_order d_rooms d_count_j18x d_next d_says d_note_j18x d_sort d_freshSort) ++ (WP G k_hp p_q p_table_6 p_turn p_count_6)) → va_S A s.heap H locs → lv_has ls 4 [(3, .int r_6)] → W p l e rX2_stateFor s m args below meth c H locs 0 0 Q (F0 m 42 ls []) := by
    intro d_count_j18x d_note_j18x H locs ls hq hP hD hS hl
    obtain ⟨rfl, rfl⟩ := oi2 hq
    refine lv_iload_n hx hb dX2_stateFor_42 rfl (lv_at hl 0 rfl) ?_
    obtain ⟨rfl, rfl, rfl, rfl, rfl⟩ := oi5 h
    exact hret (fun _ => 0) _ _ _ _ _ _ _ dX2_stateFor_43 rfl rfl hP hD hS (Nat.le_of_ble_eq_true rfl) (Nat.le_of_ble_eq_true rfl)
  replace h := hT18
  refine lv_icmp_ne (tgt := 42) hx hb dX2_stateFor_18 (by decide) (fun c_18 => ?_) (fun c_18 => ?_)
  · replace h := (if_neg c_18).symm.trans h
    exact hJ18 _ _  _ _ _ h hP hD hS (lv_sub hl [0] rfl)
  · replace h := (if_pos c_18).symm.trans h
    refine lv_aload_n hx hb dX2_stateFor_21 rfl (lv_at hl 1 rfl) ?_
    refine va_get (D := G.1) (ci := 2) (v := .ref k_hd) (C := RX2) (T := TX2) (N := 2) hx hb hts hinX2 hown hK.1 hP 0 rfl rfl 0 (by decide) hf11 (fun _ h9 => h9) rfl dX2_stateFor_22 ?_
    obtain ⟨d_count_25, hc_25, h⟩ := ob1_e h
    refine k_cv (wr := (WK G k_h k_hd k_hp) ++ (WP G k_hp p_q p_table_6 p_turn p_count_6)) (va_runV (As := []) (rest := []) ⟨hx, hb, hml, hown, hts⟩ (c_X1_add l G k_hd k_hp d_q d_a d_rm d_stateOf d_kindOf d_order d_rooms d_count d_next d_says d_note d_sort d_freshSort   _ d_count_25 hc_25) (cwV 0 hts gX2_stateFor_X1_add rfl rfl rfl ⟨rfl, eX1_add⟩ ⟨Nat.le_of_ble_eq_true rfl, Nat.le_of_ble_eq_true rfl⟩) (preWV (ci := 1) (q0 := 0) hK (hP.sub (ws' := WD G k_hd k_hp d_q d_a d_rm d_stateOf d_kindOf d_order d_rooms d_count d_next d_says d_note d_sort d_freshSort) [1, 2, 3, 4, 5, 6, 7, 8, 9] rfl) (hD.sub (ws' := WD G k_hd k_hp d_q d_a d_rm d_stateOf d_kindOf d_order d_rooms d_count d_next d_says d_note d_sort d_freshSort) [1, 2, 3, 4, 5, 6, 7, 8, 9] (by decide) rfl) rfl rfl) rfl rfl hl.1 rfl (lv_room (Nat.le_of_ble_eq_true rfl)) dX2_stateFor_25 ⟨Nat.le_of_ble_eq_true rfl, Nat.le_of_ble_eq_true rfl⟩) hP hD hS hA [1, 2, 3, 4, 5, 6, 7, 8, 9] [0, 10, 11] rfl rfl (by decide) (by decide) (fun u_25 H locs hP hD hS => ?_)
    have hP := hP.sub (ws' := (WK G k_h k_hd k_hp) ++ (WD G k_hd k_hp d_q d_a d_rm d_stateOf d_kindOf d_order d_rooms d_count_25 d_next d_says d_note d_sort d_freshSort) ++ (WP G k_hp p_q p_table_6 p_turn p_count_6)) [0, 3, 4, 5, 6, 7, 8, 9, 10, 11, 1, 2] rfl
    have hD := hD.sub (ws' := (WK G k_h k_hd k_hp) ++ (WD G k_hd k_hp d_q d_a d_rm d_stateOf d_kindOf d_order d_rooms d_count_25 d_next d_says d_note d_sort d_freshSort) ++ (WP G k_hp p_q p_table_6 p_turn p_count_6)) [0, 3, 4, 5, 6, 7, 8, 9, 10, 11, 1, 2] (by decide) rfl
    refine lv_aload_n hx hb dX2_stateFor_28 rfl (lv_at hl 1 rfl) ?_
    refine va_get (D := G.1) (ci := 2) (v := .ref k_hd) (C := RX2) (T := TX2) (N := 2) hx hb hts hinX2 hown hK.1 hP 0 rfl rfl 0 (by decide) hf11 (fun _ h9 => h9) rfl dX2_stateFor_29 ?_
    refine lv_iload_n hx hb dX2_stateFor_32 rfl (lv_at hl 0 rfl) ?_
    refine lv_iload_n hx hb dX2_stateFor_33 rfl (lv_at hl 2 rfl) ?_
    refine lv_bipush (v := 6) hx hb dX2_stateFor_34 (by decide) ?_
    refine lv_ishl hx hb dX2_stateFor_36 ?_
    refine lv_iload_n hx hb dX2_stateFor_37 rfl (lv_at hl 3 rfl) ?_
    refine lv_ior hx hb dX2_stateFor_38 ?_
    obtain ⟨d_note_39, hc_39, h⟩ := ob1_e h
    refine k_cv (wr := (WK G k_h k_hd k_hp) ++ (WP G k_hp p_q p_table_6 p_turn p_count_6)) (va_runV (As := [.int r_6, .int ((v1 <<< ((6 : Int32) &&& (31 : Int32))) ||| v2)]) (rest := []) ⟨hx, hb, hml, hown, hts⟩ (c_X1_writeNote l G k_hd k_hp d_q d_a d_rm d_stateOf d_kindOf d_order d_rooms d_count_25 d_next d_says d_note d_sort d_freshSort  r_6 ((v1 <<< ((6 : Int32) &&& (31 : Int32))) ||| v2) _ d_note_39 hc_39) (cwV 2 hts gX2_stateFor_X1_writeNote rfl rfl rfl ⟨rfl, eX1_writeNote⟩ ⟨Nat.le_of_ble_eq_true rfl, Nat.le_of_ble_eq_true rfl⟩) (preWV (ci := 1) (q0 := 0) hK (hP.sub (ws' := WD G k_hd k_hp d_q d_a d_rm d_stateOf d_kindOf d_order d_rooms d_count_25 d_next d_says d_note d_sort d_freshSort) [1, 2, 3, 4, 5, 6, 7, 8, 9] rfl) (hD.sub (ws' := WD G k_hd k_hp d_q d_a d_rm d_stateOf d_kindOf d_order d_rooms d_count_25 d_next d_says d_note d_sort d_freshSort) [1, 2, 3, 4, 5, 6, 7, 8, 9] (by decide) rfl) rfl rfl) rfl rfl hl.1 rfl (lv_room (Nat.le_of_ble_eq_true rfl)) dX2_stateFor_39 ⟨Nat.le_of_ble_eq_true rfl, Nat.le_of_ble_eq_true rfl⟩) hP hD hS hA [1, 2, 3, 4, 5, 6, 7, 8, 9] [0, 10, 11] rfl rfl (by decide) (by decide) (fun u_39 H locs hP hD hS => ?_)
    have hP := hP.sub (ws' := (WK G k_h k_hd k_hp) ++ (WD G k_hd k_hp d_q d_a d_rm d_stateOf d_kindOf d_order d_rooms d_count_25 d_next d_says d_note_39 d_sort d_freshSort) ++ (WP G k_hp p_q p_table_6 p_turn p_count_6)) [0, 3, 4, 5, 6, 7, 8, 9, 10, 11, 1, 2] rfl
    have hD := hD.sub (ws' := (WK G k_h k_hd k_hp) ++ (WD G k_hd k_hp d_q d_a d_rm d_stateOf d_kindOf d_order d_rooms d_count_25 d_next d_says d_note_39 d_sort d_freshSort) ++ (WP G k_hp p_q p_table_6 p_turn p_count_6)) [0, 3, 4, 5, 6, 7, 8, 9, 10, 11, 1, 2] (by decide) rfl
    exact hJ18 _ _  _ _ _ h hP hD hS (lv_sub hl [0] rfl)
abbrev rX2_join (ms1 : Nat) : Room := { frames := 5, cells := 5, slots := ms1, locals := 111 }
set_option maxHeartbeats 4000000 in
set_option maxRecDepth 100000 in
theorem c_X2_join (l : Launch) (G : GG) (n : Nat) (k_h : Nat) (k_hd : Nat) (k_hp : Nat) (d_q : Nat → Nat) (d_a : Nat → Nat) (p_q : Nat → Nat) (f_h : Nat → Nat) (f_q : Nat → Nat → Nat) (d_rm : Nat) (d_stateOf : AI) (d_kindOf : AI) (d_order : AI) (d_rooms : Int32) (d_count : Int32) (d_next : AI) (d_says : AI) (d_note : AI) (d_sort : AI) (d_freshSort : AI) (p_table : AI) (p_turn : Int32) (p_count : Int32) (f_next : AF) (f_says : AF) (f_size : AI) (k0 : Nat) (hk0 : k0 < 7) (k1 : Nat) (hk1 : k1 < 7) (k2 : Nat) (hk2 : k2 < 7) (v4 : Int32) (rmx1 : Nat) (ms1 : Nat) (hms1 : rmx1 = d_rm ∨ 12 * rmx1 ≤ ms1) (sz : Nat) (r : Int32) (d_rm_z : Nat) (d_stateOf_z : AI) (d_kindOf_z : AI) (d_order_z : AI) (d_rooms_z : Int32) (d_count_z : Int32) (d_next_z : AI) (d_says_z : AI) (d_note_z : AI) (d_sort_z : AI) (d_freshSort_z : AI) (p_table_z : AI) (p_turn_z : Int32) (p_count_z : Int32) (f_next_z : AF) (f_says_z : AF) (f_size_z : AI) (h : p_X2_join n d_rm d_stateOf d_kindOf d_order d_rooms d_next d_says d_note d_sort d_freshSort p_table p_turn f_next f_says f_size k0 k1 k2 rmx1 v4 = some (r, d_rm_z, d_stateOf_z, d_kindOf_z, d_order_z, d_rooms_z, d_count_z, d_next_z, d_says_z, d_note_z, d_sort_z, d_freshSort_z, p_table_z, p_turn_z, p_count_z, f_next_z, f_says_z, f_size_z)) : CI l yX2_join wsX2_join (rX2_join ms1) G [.ref k_h, .ref (f_h k0), .ref (f_h k1), .ref (f_h k2), .int v4] ((WK G k_h k_hd k_hp) ++ (WD G k_hd k_hp d_q d_a d_rm d_stateOf d_kindOf d_order d_rooms d_count d_next d_says d_note d_sort d_freshSort) ++ (WP G k_hp p_q p_table p_turn p_count) ++ (WF G f_h f_q f_next f_says f_size)) sz r (fun u => (WK G k_h k_hd k_hp) ++ (WD G k_hd k_hp d_q u d_rm_z d_stateOf_z d_kindOf_z d_order_z d_rooms_z d_count_z d_next_z d_says_z d_note_z d_sort_z d_freshSort_z) ++ (WP G k_hp p_q p_table_z p_turn_z p_count_z) ++ (WF G f_h f_q f_next_z f_says_z f_size_z)) := by
  refine enterCI (cc := cX2_join) (maxL := 10) (by decide) rfl (Nat.le_of_ble_eq_true rfl) ?_
  intro p e s m args below meth c A Q hx hb hml hown hts hK hP hD hS hA hret ls hl
  have hown : s.vm.findClass RX2 = some m.cls := hown
  have hf11 := hts (.fieldLink RX2 11 "DigitClaims$MadeClaims" "draft" "LDigitClaims$Draft;") (by decide +kernel)
  have hf15 := hts (.fieldLink RX2 15 "DigitClaims$MadeClaims" "pairs" "LDigitClaims$PairNumbers;") (by decide +kernel)
  have hinX2 : ∀ w ∈ wsX20, w ∈ wsX2_join := by decide +kernel
  have hl : lv_has ls 10 [(0, .ref k_h), (1, .ref (f_h k0)), (2, .ref (f_h k1)), (3, .ref (f_h k2)), (4, .int v4)] := hl
  unfold p_X2_join at h
  refine lv_aload_n hx hb dX2_join_0 rfl (lv_at hl 0 rfl) ?_
  refine va_get (D := G.1) (ci := 2) (v := .ref k_hd) (C := RX2) (T := TX2) (N := 2) hx hb hts hinX2 hown hK.1 hP 0 rfl rfl 0 (by decide) hf11 (fun _ h9 => h9) rfl dX2_join_1 ?_
  refine lv_iconst (v := 0) hx hb dX2_join_4 (by decide) ?_
  refine lv_aload_n hx hb dX2_join_5 rfl (lv_at hl 2 rfl) ?_
  obtain ⟨r_6, hc_6, h⟩ := ob1_e h
  refine k_si (va_runV (As := []) (rest := [.int (0 : Int32), .ref k_hd]) ⟨hx, hb, hml, hown, hts⟩ (c_X0_size l G (f_h k1) (f_q k1) (f_next k1) (f_says k1) (f_size k1)   r_6 hc_6) (cwV 0 hts gX2_join_X0_size rfl rfl rfl ⟨rfl, eX0_size⟩ ⟨Nat.le_of_ble_eq_true rfl, Nat.le_of_ble_eq_true rfl⟩) (preSV (ci := 0) (q0 := 0) hK (famC (hP.sub (ws' := WF G f_h f_q f_next f_says f_size) [12, 13, 14, 15, 16, 17, 18, 19, 20, 21, 22, 23, 24, 25, 26, 27, 28, 29, 30, 31, 32] rfl) k1 hk1) rfl rfl) rfl rfl hl.1 rfl (lv_room (Nat.le_of_ble_eq_true rfl)) dX2_join_6 ⟨Nat.le_of_ble_eq_true rfl, by show 0 + 0 ≤ ms1; omega⟩) ?_
  refine lv_aload_n hx hb dX2_join_9 rfl (lv_at hl 3 rfl) ?_
  obtain ⟨r_10, hc_10, h⟩ := ob1_e h
  refine k_si (va_runV (As := []) (rest := [.int r_6, .int (0 : Int32), .ref k_hd]) ⟨hx, hb, hml, hown, hts⟩ (c_X0_size l G (f_h k2) (f_q k2) (f_next k2) (f_says k2) (f_size k2)   r_10 hc_10) (cwV 0 hts gX2_join_X0_size rfl rfl rfl ⟨rfl, eX0_size⟩ ⟨Nat.le_of_ble_eq_true rfl, Nat.le_of_ble_eq_true rfl⟩) (preSV (ci := 0) (q0 := 0) hK (famC (hP.sub (ws' := WF G f_h f_q f_next f_says f_size) [12, 13, 14, 15, 16, 17, 18, 19, 20, 21, 22, 23, 24, 25, 26, 27, 28, 29, 30, 31, 32] rfl) k2 hk2) rfl rfl) rfl rfl hl.1 rfl (lv_room (Nat.le_of_ble_eq_true rfl)) dX2_join_10 ⟨Nat.le_of_ble_eq_true rfl, by show 0 + 0 ≤ ms1; omega⟩) ?_
  refine lv_imul hx hb dX2_join_13 ?_
  obtain ⟨d_rm_14, d_rooms_14, d_count_14, d_next_14, d_says_14, d_note_14, d_sort_14, d_freshSort_14, hc_14, h⟩ := ob8_e h
  refine k_cv (wr := (WK G k_h k_hd k_hp) ++ (WP G k_hp p_q p_table p_turn p_count) ++ (WF G f_h f_q f_next f_says f_size)) (va_runV (As := [.int (0 : Int32), .int (r_6 * r_10)]) (rest := []) ⟨hx, hb, hml, hown, hts⟩ (c_X1_begin l G k_hd k_hp d_q d_a d_rm d_stateOf d_kindOf d_order d_rooms d_count d_next d_says d_note d_sort d_freshSort  (0 : Int32) (r_6 * r_10) rmx1 ms1 hms1 _ d_rm_14 d_rooms_14 d_count_14 d_next_14 d_says_14 d_note_14 d_sort_14 d_freshSort_14 hc_14) (cwV 2 hts gX2_join_X1_begin rfl rfl rfl ⟨rfl, eX1_begin⟩ ⟨Nat.le_of_ble_eq_true rfl, Nat.le_of_ble_eq_true rfl⟩) (preWV (ci := 1) (q0 := 0) hK (hP.sub (ws' := WD G k_hd k_hp d_q d_a d_rm d_stateOf d_kindOf d_order d_rooms d_count d_next d_says d_note d_sort d_freshSort) [1, 2, 3, 4, 5, 6, 7, 8, 9] rfl) (hD.sub (ws' := WD G k_hd k_hp d_q d_a d_rm d_stateOf d_kindOf d_order d_rooms d_count d_next d_says d_note d_sort d_freshSort) [1, 2, 3, 4, 5, 6, 7, 8, 9] (by decide) rfl) rfl rfl) rfl rfl hl.1 rfl (lv_room (Nat.le_of_ble_eq_true rfl)) dX2_join_14 ⟨Nat.le_of_ble_eq_true rfl, by show 0 + (ms1) ≤ ms1; omega⟩) hP hD hS hA [1, 2, 3, 4, 5, 6, 7, 8, 9] [0, 10, 11, 12, 13, 14, 15, 16, 17, 18, 19, 20, 21, 22, 23, 24, 25, 26, 27, 28, 29, 30, 31, 32] rfl rfl (by decide) (by decide) (fun u_14 H locs hP hD hS => ?_)
  have hP := hP.sub (ws' := (WK G k_h k_hd k_hp) ++ (WD G k_hd k_hp d_q u_14 d_rm_14 d_stateOf d_kindOf d_order d_rooms_14 d_count_14 d_next_14 d_says_14 d_note_14 d_sort_14 d_freshSort_14) ++ (WP G k_hp p_q p_table p_turn p_count) ++ (WF G f_h f_q f_next f_says f_size)) [0, 24, 25, 26, 27, 28, 29, 30, 31, 32, 1, 2, 3, 4, 5, 6, 7, 8, 9, 10, 11, 12, 13, 14, 15, 16, 17, 18, 19, 20, 21, 22, 23] rfl
  have hD := hD.sub (ws' := (WK G k_h k_hd k_hp) ++ (WD G k_hd k_hp d_q u_14 d_rm_14 d_stateOf d_kindOf d_order d_rooms_14 d_count_14 d_next_14 d_says_14 d_note_14 d_sort_14 d_freshSort_14) ++ (WP G k_hp p_q p_table p_turn p_count) ++ (WF G f_h f_q f_next f_says f_size)) [0, 24, 25, 26, 27, 28, 29, 30, 31, 32, 1, 2, 3, 4, 5, 6, 7, 8, 9, 10, 11, 12, 13, 14, 15, 16, 17, 18, 19, 20, 21, 22, 23] (by decide) rfl
  refine lv_aload_n hx hb dX2_join_17 rfl (lv_at hl 0 rfl) ?_
  refine va_get (D := G.1) (ci := 2) (v := .ref k_hp) (C := RX2) (T := TX2) (N := 2) hx hb hts hinX2 hown hK.1 hP 0 rfl rfl 1 (by decide) hf15 (fun _ h9 => h9) rfl dX2_join_18 ?_
  obtain ⟨p_table_21, p_turn_21, p_count_21, hc_21, h⟩ := ob3_e h
  refine k_cv (wr := (WK G k_h k_hd k_hp) ++ (WD G k_hd k_hp d_q u_14 d_rm_14 d_stateOf d_kindOf d_order d_rooms_14 d_count_14 d_next_14 d_says_14 d_note_14 d_sort_14 d_freshSort_14) ++ (WF G f_h f_q f_next f_says f_size)) (va_runV (As := []) (rest := []) ⟨hx, hb, hml, hown, hts⟩ (c_X3_forget l G n k_hp p_q p_table p_turn p_count   _ p_table_21 p_turn_21 p_count_21 hc_21) (cwV 0 hts gX2_join_X3_forget rfl rfl rfl ⟨rfl, eX3_forget⟩ ⟨Nat.le_of_ble_eq_true rfl, Nat.le_of_ble_eq_true rfl⟩) (preWV (ci := 3) (q0 := 0) hK (hP.sub (ws' := WP G k_hp p_q p_table p_turn p_count) [10, 11] rfl) (hD.sub (ws' := WP G k_hp p_q p_table p_turn p_count) [10, 11] (by decide) rfl) rfl rfl) rfl rfl hl.1 rfl (lv_room (Nat.le_of_ble_eq_true rfl)) dX2_join_21 ⟨Nat.le_of_ble_eq_true rfl, by show 0 + (ms1) + 0 ≤ ms1; omega⟩) hP hD hS hA [10, 11] [0, 1, 2, 3, 4, 5, 6, 7, 8, 9, 12, 13, 14, 15, 16, 17, 18, 19, 20, 21, 22, 23, 24, 25, 26, 27, 28, 29, 30, 31, 32] rfl rfl (by decide) (by decide) (fun u_21 H locs hP hD hS => ?_)
  have hP := hP.sub (ws' := (WK G k_h k_hd k_hp) ++ (WD G k_hd k_hp d_q u_14 d_rm_14 d_stateOf d_kindOf d_order d_rooms_14 d_count_14 d_next_14 d_says_14 d_note_14 d_sort_14 d_freshSort_14) ++ (WP G k_hp p_q p_table_21 p_turn_21 p_count_21) ++ (WF G f_h f_q f_next f_says f_size)) [0, 1, 2, 3, 4, 5, 6, 7, 8, 9, 31, 32, 10, 11, 12, 13, 14, 15, 16, 17, 18, 19, 20, 21, 22, 23, 24, 25, 26, 27, 28, 29, 30] rfl
  have hD := hD.sub (ws' := (WK G k_h k_hd k_hp) ++ (WD G k_hd k_hp d_q u_14 d_rm_14 d_stateOf d_kindOf d_order d_rooms_14 d_count_14 d_next_14 d_says_14 d_note_14 d_sort_14 d_freshSort_14) ++ (WP G k_hp p_q p_table_21 p_turn_21 p_count_21) ++ (WF G f_h f_q f_next f_says f_size)) [0, 1, 2, 3, 4, 5, 6, 7, 8, 9, 31, 32, 10, 11, 12, 13, 14, 15, 16, 17, 18, 19, 20, 21, 22, 23, 24, 25, 26, 27, 28, 29, 30] (by decide) rfl
  refine lv_aload_n hx hb dX2_join_24 rfl (lv_at hl 0 rfl) ?_
  refine lv_iconst (v := 0) hx hb dX2_join_25 (by decide) ?_
  refine lv_iconst (v := 0) hx hb dX2_join_26 (by decide) ?_
  obtain ⟨r_27, d_count_27, d_note_27, p_table_27, p_count_27, hc_27, h⟩ := ob5_e h
  refine k_ci (wr := WF G f_h f_q f_next f_says f_size) (va_runV (As := [.int (0 : Int32), .int (0 : Int32)]) (rest := []) ⟨hx, hb, hml, hown, hts⟩ (c_X2_stateFor l G k_h k_hd k_hp d_q u_14 p_q d_rm_14 d_stateOf d_kindOf d_order d_rooms_14 d_count_14 d_next_14 d_says_14 d_note_14 d_sort_14 d_freshSort_14 p_table_21 p_turn_21 p_count_21  (0 : Int32) (0 : Int32) _ r_27 d_count_27 d_note_27 p_table_27 p_count_27 hc_27) (cwV 2 hts gX2_join_X2_stateFor rfl rfl rfl ⟨rfl, eX2_stateFor⟩ ⟨Nat.le_of_ble_eq_true rfl, Nat.le_of_ble_eq_true rfl⟩) (preWV (ci := 2) (q0 := 0) hK (hP.sub (ws' := (WK G k_h k_hd k_hp) ++ (WD G k_hd k_hp d_q u_14 d_rm_14 d_stateOf d_kindOf d_order d_rooms_14 d_count_14 d_next_14 d_says_14 d_note_14 d_sort_14 d_freshSort_14) ++ (WP G k_hp p_q p_table_21 p_turn_21 p_count_21)) [0, 1, 2, 3, 4, 5, 6, 7, 8, 9, 10, 11] rfl) (hD.sub (ws' := (WK G k_h k_hd k_hp) ++ (WD G k_hd k_hp d_q u_14 d_rm_14 d_stateOf d_kindOf d_order d_rooms_14 d_count_14 d_next_14 d_says_14 d_note_14 d_sort_14 d_freshSort_14) ++ (WP G k_hp p_q p_table_21 p_turn_21 p_count_21)) [0, 1, 2, 3, 4, 5, 6, 7, 8, 9, 10, 11] (by decide) rfl) rfl rfl) rfl rfl hl.1 rfl (lv_room (Nat.le_of_ble_eq_true rfl)) dX2_join_27 ⟨Nat.le_of_ble_eq_true rfl, by show 0 + (ms1) + 0 ≤ ms1; omega⟩) hP hD hS hA [0, 1, 2, 3, 4, 5, 6, 7, 8, 9, 10, 11] [12, 13, 14, 15, 16, 17, 18, 19, 20, 21, 22, 23, 24, 25, 26, 27, 28, 29, 30, 31, 32] rfl rfl (by decide) (by decide) (fun u_27 H locs hP hD hS => ?_)
  have hP := hP.sub (ws' := (WK G k_h k_hd k_hp) ++ (WD G k_hd k_hp d_q u_14 d_rm_14 d_stateOf d_kindOf d_order d_rooms_14 d_count_27 d_next_14 d_says_14 d_note_27 d_sort_14 d_freshSort_14) ++ (WP G k_hp p_q p_table_27 p_turn_21 p_count_27) ++ (WF G f_h f_q f_next f_says f_size)) [21, 22, 23, 24, 25, 26, 27, 28, 29, 30, 31, 32, 0, 1, 2, 3, 4, 5, 6, 7, 8, 9, 10, 11, 12, 13, 14, 15, 16, 17, 18, 19, 20] rfl
  have hD := hD.sub (ws' := (WK G k_h k_hd k_hp) ++ (WD G k_hd k_hp d_q u_14 d_rm_14 d_stateOf d_kindOf d_order d_rooms_14 d_count_27 d_next_14 d_says_14 d_note_27 d_sort_14 d_freshSort_14) ++ (WP G k_hp p_q p_table_27 p_turn_21 p_count_27) ++ (WF G f_h f_q f_next f_says f_size)) [21, 22, 23, 24, 25, 26, 27, 28, 29, 30, 31, 32, 0, 1, 2, 3, 4, 5, 6, 7, 8, 9, 10, 11, 12, 13, 14, 15, 16, 17, 18, 19, 20] (by decide) rfl
  refine lv_pop hx hb dX2_join_30 rfl ?_
  refine lv_iconst (v := 0) hx hb dX2_join_31 (by decide) ?_
  refine lv_istore (lv' := [(5, .int (0 : Int32)), (0, .ref k_h), (1, .ref (f_h k0)), (2, .ref (f_h k1)), (3, .ref (f_h k2)), (4, .int v4)]) hx hb dX2_join_32 hl (by decide) rfl (fun ls hl => ?_)
  obtain ⟨d_count_o34, d_next_o34, d_says_o34, d_note_o34, p_table_o34, p_count_o34, hT34, h⟩ := ob6_e h
  have hX34 : ∀ (d_count_o34x : Int32) (d_next_o34x : AI) (d_says_o34x : AI) (d_note_o34x : AI) (p_table_o34x : AI) (p_count_o34x : Int32)  (H : Heap) (locs : List Loc) (ls : Array Slot), some (d_count_o34x, d_next_o34x, d_says_o34x, d_note_o34x, p_table_o34x, p_count_o34x) = some (d_count_o34, d_next_o34, d_says_o34, d_note_o34, p_table_o34, p_count_o34) → va_P G.1 vwCl ((WK G k_h k_hd k_hp) ++ (WD G k_hd k_hp d_q u_14 d_rm_14 d_stateOf d_kindOf d_order d_rooms_14 d_count_o34x d_next_o34x d_says_o34x d_note_o34x d_sort_14 d_freshSort_14) ++ (WP G k_hp p_q p_table_o34x p_turn_21 p_count_o34x) ++ (WF G f_h f_q f_next f_says f_size)) H → va_D A ((WK G k_h k_hd k_hp) ++ (WD G k_hd k_hp d_q u_14 d_rm_14 d_stateOf d_kindOf d_order d_rooms_14 d_count_o34x d_next_o34x d_says_o34x d_note_o34x d_sort_14 d_freshSort_14) ++ (WP G k_hp p_q p_table_o34x p_turn_21 p_count_o34x) ++ (WF G f_h f_q f_next f_says f_size)) → va_S A s.heap H locs → lv_has ls 10 [(0, .ref k_h), (1, .ref (f_h k0))] → W p l e (rX2_join ms1) s m args below meth c H locs (0 + 5) (0 + (ms1)) Q (F0 m 198 ls []) := by
    intro d_count_o34x d_next_o34x d_says_o34x d_note_o34x p_table_o34x p_count_o34x H locs ls hq hP hD hS hl
    obtain ⟨rfl, rfl, rfl, rfl, rfl, rfl⟩ := oi6 hq
    refine lv_aload_n hx hb dX2_join_198 rfl (lv_at hl 0 rfl) ?_
    refine va_get (D := G.1) (ci := 2) (v := .ref k_hd) (C := RX2) (T := TX2) (N := 2) hx hb hts hinX2 hown hK.1 hP 0 rfl rfl 0 (by decide) hf11 (fun _ h9 => h9) rfl dX2_join_199 ?_
    refine lv_aload_n hx hb dX2_join_202 rfl (lv_at hl 1 rfl) ?_
    obtain ⟨r_203, d_stateOf_203, d_kindOf_203, d_order_203, d_sort_203, d_freshSort_203, p_table_203, p_turn_203, p_count_203, y_next_203, y_says_203, y_size_203, hc_203, h⟩ := ob12_e h
    refine k_ciF (X := (WK G k_h k_hd k_hp) ++ (WD G k_hd k_hp d_q u_14 d_rm_14 d_stateOf d_kindOf d_order d_rooms_14 d_count_o34 d_next_o34 d_says_o34 d_note_o34 d_sort_14 d_freshSort_14) ++ (WP G k_hp p_q p_table_o34 p_turn_21 p_count_o34)) (Xc := (WD G k_hd k_hp d_q u_14 d_rm_14 d_stateOf d_kindOf d_order d_rooms_14 d_count_o34 d_next_o34 d_says_o34 d_note_o34 d_sort_14 d_freshSort_14) ++ (WP G k_hp p_q p_table_o34 p_turn_21 p_count_o34)) (wr := WK G k_h k_hd k_hp) (x1 := fun u => (WD G k_hd k_hp d_q u d_rm_14 d_stateOf_203 d_kindOf_203 d_order_203 d_rooms_14 d_count_o34 d_next_o34 d_says_o34 d_note_o34 d_sort_203 d_freshSort_203) ++ (WP G k_hp p_q p_table_203 p_turn_203 p_count_203)) (fh := f_h) (fq := f_q) (fn := f_next) (fs := f_says) (fz := f_size) (k := k0) (nx := y_next_203) (sy := y_says_203) (sz := y_size_203) hk0 (va_runV (As := [.ref (f_h k0)]) (rest := []) ⟨hx, hb, hml, hown, hts⟩ (c_X1_reduceInto l G n k_hd k_hp d_q u_14 p_q (f_h k0) (f_q k0) d_rm_14 d_stateOf d_kindOf d_order d_rooms_14 d_count_o34 d_next_o34 d_says_o34 d_note_o34 d_sort_14 d_freshSort_14 p_table_o34 p_turn_21 p_count_o34 (f_next k0) (f_says k0) (f_size k0)   _ r_203 d_stateOf_203 d_kindOf_203 d_order_203 d_sort_203 d_freshSort_203 p_table_203 p_turn_203 p_count_203 y_next_203 y_says_203 y_size_203 hc_203) (cwV 1 hts gX2_join_X1_reduceInto rfl rfl rfl ⟨rfl, eX1_reduceInto⟩ ⟨Nat.le_of_ble_eq_true rfl, Nat.le_of_ble_eq_true rfl⟩) (preWVF (X := (WK G k_h k_hd k_hp) ++ (WD G k_hd k_hp d_q u_14 d_rm_14 d_stateOf d_kindOf d_order d_rooms_14 d_count_o34 d_next_o34 d_says_o34 d_note_o34 d_sort_14 d_freshSort_14) ++ (WP G k_hp p_q p_table_o34 p_turn_21 p_count_o34)) (Xc := (WD G k_hd k_hp d_q u_14 d_rm_14 d_stateOf d_kindOf d_order d_rooms_14 d_count_o34 d_next_o34 d_says_o34 d_note_o34 d_sort_14 d_freshSort_14) ++ (WP G k_hp p_q p_table_o34 p_turn_21 p_count_o34)) (ci := 1) (q0 := 0) hK hP hD hk0 [1, 2, 3, 4, 5, 6, 7, 8, 9, 10, 11, 12, 13, 14] rfl (by decide) rfl rfl) rfl rfl hl.1 rfl (lv_room (Nat.le_of_ble_eq_true rfl)) dX2_join_203 ⟨Nat.le_of_ble_eq_true rfl, by show 0 + (ms1) + 0 ≤ ms1; omega⟩) hP hD hS hA [1, 2, 3, 4, 5, 6, 7, 8, 9, 10, 11, 12, 13, 14] [0] rfl rfl (by decide) (by decide) (fun u_203 H locs hP hD hS => ?_)
    have hP := hP.part (cx := (WK G k_h k_hd k_hp) ++ (WD G k_hd k_hp d_q u_203 d_rm_14 d_stateOf_203 d_kindOf_203 d_order_203 d_rooms_14 d_count_o34 d_next_o34 d_says_o34 d_note_o34 d_sort_203 d_freshSort_203) ++ (WP G k_hp p_q p_table_203 p_turn_203 p_count_203)) [0, 1, 2, 3, 4, 5, 6, 7, 8, 9, 10, 11] rfl
    have hD := hD.part (cx := (WK G k_h k_hd k_hp) ++ (WD G k_hd k_hp d_q u_203 d_rm_14 d_stateOf_203 d_kindOf_203 d_order_203 d_rooms_14 d_count_o34 d_next_o34 d_says_o34 d_note_o34 d_sort_203 d_freshSort_203) ++ (WP G k_hp p_q p_table_203 p_turn_203 p_count_203)) [0, 1, 2, 3, 4, 5, 6, 7, 8, 9, 10, 11] (by decide) rfl
    have hP : va_P G.1 vwCl ((WK G k_h k_hd k_hp) ++ (WD G k_hd k_hp d_q u_203 d_rm_14 d_stateOf_203 d_kindOf_203 d_order_203 d_rooms_14 d_count_o34 d_next_o34 d_says_o34 d_note_o34 d_sort_203 d_freshSort_203) ++ (WP G k_hp p_q p_table_203 p_turn_203 p_count_203) ++ (WF G f_h f_q (va_up f_next k0 y_next_203) (va_up f_says k0 y_says_203) (va_up f_size k0 y_size_203))) H := hP
    have hD : va_D A ((WK G k_h k_hd k_hp) ++ (WD G k_hd k_hp d_q u_203 d_rm_14 d_stateOf_203 d_kindOf_203 d_order_203 d_rooms_14 d_count_o34 d_next_o34 d_says_o34 d_note_o34 d_sort_203 d_freshSort_203) ++ (WP G k_hp p_q p_table_203 p_turn_203 p_count_203) ++ (WF G f_h f_q (va_up f_next k0 y_next_203) (va_up f_says k0 y_says_203) (va_up f_size k0 y_size_203))) := hD
    obtain ⟨rfl, rfl, rfl, rfl, rfl, rfl, rfl, rfl, rfl, rfl, rfl, rfl, rfl, rfl, rfl, rfl, rfl, rfl⟩ := oi18 h
    exact hret u_203 _ _ _ _ _ _ _ dX2_join_206 rfl rfl hP hD hS (Nat.le_of_ble_eq_true rfl) (by show 0 + (ms1) ≤ ms1; omega)
  have hL34 : ∀ (f : Nat) (v5_34 : Int32) (d_count_34 : Int32) (d_next_34 : AI) (d_says_34 : AI) (d_note_34 : AI) (p_table_34 : AI) (p_count_34 : Int32)  (H : Heap) (locs : List Loc) (ls : Array Slot), p_X2_join_L34 n d_rm_14 f_next k1 f_size k2 d_rooms_14 p_turn_21 f_says v4 f v5_34 d_count_34 d_next_34 d_says_34 d_note_34 p_table_34 p_count_34 = some (d_count_o34, d_next_o34, d_says_o34, d_note_o34, p_table_o34, p_count_o34) → va_P G.1 vwCl ((WK G k_h k_hd k_hp) ++ (WD G k_hd k_hp d_q u_14 d_rm_14 d_stateOf d_kindOf d_order d_rooms_14 d_count_34 d_next_34 d_says_34 d_note_34 d_sort_14 d_freshSort_14) ++ (WP G k_hp p_q p_table_34 p_turn_21 p_count_34) ++ (WF G f_h f_q f_next f_says f_size)) H → va_D A ((WK G k_h k_hd k_hp) ++ (WD G k_hd k_hp d_q u_14 d_rm_14 d_stateOf d_kindOf d_order d_rooms_14 d_count_34 d_next_34 d_says_34 d_note_34 d_sort_14 d_freshSort_14) ++ (WP G k_hp p_q p_table_34 p_turn_21 p_count_34) ++ (WF G f_h f_q f_next f_says f_size)) → va_S A s.heap H locs → lv_has ls 10 [(0, .ref k_h), (1, .ref (f_h k0)), (2, .ref (f_h k1)), (3, .ref (f_h k2)), (4, .int v4), (5, .int v5_34)] → W p l e (rX2_join ms1) s m args below meth c H locs (0 + 5) (0 + (ms1)) Q (F0 m 34 ls []) := by
    intro f
    induction f with
    | zero => intro v5_34 d_count_34 d_next_34 d_says_34 d_note_34 p_table_34 p_count_34 H locs ls h hP hD hS hl; cases (show none = some _ from h)
    | succ f ih =>
      intro v5_34 d_count_34 d_next_34 d_says_34 d_note_34 p_table_34 p_count_34 H locs ls h hP hD hS hl
      rw [p_X2_join_L34] at h
      refine lv_iload hx hb dX2_join_34 (lv_at hl 5 rfl) ?_
      refine lv_aload_n hx hb dX2_join_36 rfl (lv_at hl 0 rfl) ?_
      refine va_get (D := G.1) (ci := 2) (v := .ref k_hd) (C := RX2) (T := TX2) (N := 2) hx hb hts hinX2 hown hK.1 hP 0 rfl rfl 0 (by decide) hf11 (fun _ h9 => h9) rfl dX2_join_37 ?_
      obtain ⟨r_40, hc_40, h⟩ := ob1_e h
      refine k_si (va_runV (As := []) (rest := [.int v5_34]) ⟨hx, hb, hml, hown, hts⟩ (c_X1_count l G k_hd k_hp d_q u_14 d_rm_14 d_stateOf d_kindOf d_order d_rooms_14 d_count_34 d_next_34 d_says_34 d_note_34 d_sort_14 d_freshSort_14   r_40 hc_40) (cwV 0 hts gX2_join_X1_count rfl rfl rfl ⟨rfl, eX1_count⟩ ⟨Nat.le_of_ble_eq_true rfl, Nat.le_of_ble_eq_true rfl⟩) (preSV (ci := 1) (q0 := 0) hK (hP.sub (ws' := WD G k_hd k_hp d_q u_14 d_rm_14 d_stateOf d_kindOf d_order d_rooms_14 d_count_34 d_next_34 d_says_34 d_note_34 d_sort_14 d_freshSort_14) [1, 2, 3, 4, 5, 6, 7, 8, 9] rfl) rfl rfl) rfl rfl hl.1 rfl (lv_room (Nat.le_of_ble_eq_true rfl)) dX2_join_40 ⟨Nat.le_of_ble_eq_true rfl, by show 0 + (ms1) + 0 ≤ ms1; omega⟩) ?_
      refine lv_icmp_ge (tgt := 198) hx hb dX2_join_43 (by decide) (fun c_43 => ?_) (fun c_43 => ?_)
      · replace h := (if_pos c_43).symm.trans h
        exact hX34 _ _ _ _ _ _  _ _ _ h hP hD hS (lv_sub hl [0, 1] rfl)
      · replace h := (if_neg c_43).symm.trans h
        refine lv_iload hx hb dX2_join_46 (lv_at hl 5 rfl) ?_
        refine lv_sipush (v := 3600) hx hb dX2_join_48 (by decide) ?_
        refine lv_icmp_ge (tgt := 198) hx hb dX2_join_51 (by decide) (fun c_51 => ?_) (fun c_51 => ?_)
        · replace h := (if_pos c_51).symm.trans h
          exact hX34 _ _ _ _ _ _  _ _ _ h hP hD hS (lv_sub hl [0, 1] rfl)
        · replace h := (if_neg c_51).symm.trans h
          refine lv_aload_n hx hb dX2_join_54 rfl (lv_at hl 0 rfl) ?_
          refine va_get (D := G.1) (ci := 2) (v := .ref k_hd) (C := RX2) (T := TX2) (N := 2) hx hb hts hinX2 hown hK.1 hP 0 rfl rfl 0 (by decide) hf11 (fun _ h9 => h9) rfl dX2_join_55 ?_
          refine lv_iload hx hb dX2_join_58 (lv_at hl 5 rfl) ?_
          obtain ⟨r_60, hc_60, h⟩ := ob1_e h
          refine k_si (va_runV (As := [.int v5_34]) (rest := []) ⟨hx, hb, hml, hown, hts⟩ (c_X1_noteOf l G k_hd k_hp d_q u_14 d_rm_14 d_stateOf d_kindOf d_order d_rooms_14 d_count_34 d_next_34 d_says_34 d_note_34 d_sort_14 d_freshSort_14  v5_34 r_60 hc_60) (cwV 1 hts gX2_join_X1_noteOf rfl rfl rfl ⟨rfl, eX1_noteOf⟩ ⟨Nat.le_of_ble_eq_true rfl, Nat.le_of_ble_eq_true rfl⟩) (preSV (ci := 1) (q0 := 0) hK (hP.sub (ws' := WD G k_hd k_hp d_q u_14 d_rm_14 d_stateOf d_kindOf d_order d_rooms_14 d_count_34 d_next_34 d_says_34 d_note_34 d_sort_14 d_freshSort_14) [1, 2, 3, 4, 5, 6, 7, 8, 9] rfl) rfl rfl) rfl rfl hl.1 rfl (lv_room (Nat.le_of_ble_eq_true rfl)) dX2_join_60 ⟨Nat.le_of_ble_eq_true rfl, by show 0 + (ms1) + 0 ≤ ms1; omega⟩) ?_
          refine lv_bipush (v := 6) hx hb dX2_join_63 (by decide) ?_
          refine lv_ishr hx hb dX2_join_65 ?_
          refine lv_istore (lv' := [(6, .int (r_60 >>> ((6 : Int32) &&& (31 : Int32)))), (0, .ref k_h), (1, .ref (f_h k0)), (2, .ref (f_h k1)), (3, .ref (f_h k2)), (4, .int v4), (5, .int v5_34)]) hx hb dX2_join_66 hl (by decide) rfl (fun ls hl => ?_)
          refine lv_aload_n hx hb dX2_join_68 rfl (lv_at hl 1 rfl) ?_
          refine va_get (D := G.1) (ci := 2) (v := .ref k_hd) (C := RX2) (T := TX2) (N := 2) hx hb hts hinX2 hown hK.1 hP 0 rfl rfl 0 (by decide) hf11 (fun _ h9 => h9) rfl dX2_join_69 ?_
          refine lv_iload hx hb dX2_join_72 (lv_at hl 6 rfl) ?_
          obtain ⟨r_74, hc_74, h⟩ := ob1_e h
          refine k_si (va_runV (As := [.int v5_34]) (rest := []) ⟨hx, hb, hml, hown, hts⟩ (c_X1_noteOf l G k_hd k_hp d_q u_14 d_rm_14 d_stateOf d_kindOf d_order d_rooms_14 d_count_34 d_next_34 d_says_34 d_note_34 d_sort_14 d_freshSort_14  v5_34 r_74 hc_74) (cwV 1 hts gX2_join_X1_noteOf rfl rfl rfl ⟨rfl, eX1_noteOf⟩ ⟨Nat.le_of_ble_eq_true rfl, Nat.le_of_ble_eq_true rfl⟩) (preSV (ci := 1) (q0 := 0) hK (hP.sub (ws' := WD G k_hd k_hp d_q u_14 d_rm_14 d_stateOf d_kindOf d_order d_rooms_14 d_count_34 d_next_34 d_says_34 d_note_34 d_sort_14 d_freshSort_14) [1, 2, 3, 4, 5, 6, 7, 8, 9] rfl) rfl rfl) rfl rfl hl.1 rfl (lv_room (Nat.le_of_ble_eq_true rfl)) dX2_join_74 ⟨Nat.le_of_ble_eq_true rfl, by show 0 + (ms1) + 0 ≤ ms1; omega⟩) ?_
          refine lv_bipush (v := 63) hx hb dX2_join_77 (by decide) ?_
          refine lv_iand hx hb dX2_join_79 ?_
          refine lv_istore (lv' := [(7, .int (r_74 &&& (63 : Int32))), (6, .int (r_60 >>> ((6 : Int32) &&& (31 : Int32)))), (0, .ref k_h), (1, .ref (f_h k0)), (2, .ref (f_h k1)), (3, .ref (f_h k2)), (4, .int v4), (5, .int v5_34)]) hx hb dX2_join_80 hl (by decide) rfl (fun ls hl => ?_)
          refine lv_iconst (v := 0) hx hb dX2_join_82 (by decide) ?_
          refine lv_istore (lv' := [(8, .int (0 : Int32)), (7, .int (r_74 &&& (63 : Int32))), (6, .int (r_60 >>> ((6 : Int32) &&& (31 : Int32)))), (0, .ref k_h), (1, .ref (f_h k0)), (2, .ref (f_h k1)), (3, .ref (f_h k2)), (4, .int v4), (5, .int v5_34)]) hx hb dX2_join_83 hl (by decide) rfl (fun ls hl => ?_)
          obtain ⟨d_count_o85, d_next_o85, d_note_o85, p_table_o85, p_count_o85, hT85, h⟩ := ob5_e h
          have hX85 : ∀ (d_count_o85x : Int32) (d_next_o85x : AI) (d_note_o85x : AI) (p_table_o85x : AI) (p_count_o85x : Int32)  (H : Heap) (locs : List Loc) (ls : Array Slot), some (d_count_o85x, d_next_o85x, d_note_o85x, p_table_o85x, p_count_o85x) = some (d_count_o85, d_next_o85, d_note_o85, p_table_o85, p_count_o85) → va_P G.1 vwCl ((WK G k_h k_hd k_hp) ++ (WD G k_hd k_hp d_q u_14 d_rm_14 d_stateOf d_kindOf d_order d_rooms_14 d_count_o85x d_next_o85x d_says_34 d_note_o85x d_sort_14 d_freshSort_14) ++ (WP G k_hp p_q p_table_o85x p_turn_21 p_count_o85x) ++ (WF G f_h f_q f_next f_says f_size)) H → va_D A ((WK G k_h k_hd k_hp) ++ (WD G k_hd k_hp d_q u_14 d_rm_14 d_stateOf d_kindOf d_order d_rooms_14 d_count_o85x d_next_o85x d_says_34 d_note_o85x d_sort_14 d_freshSort_14) ++ (WP G k_hp p_q p_table_o85x p_turn_21 p_count_o85x) ++ (WF G f_h f_q f_next f_says f_size)) → va_S A s.heap H locs → lv_has ls 10 [(0, .ref k_h), (1, .ref (f_h k0)), (2, .ref (f_h k1)), (3, .ref (f_h k2)), (4, .int v4), (5, .int v5_34), (6, .int (r_60 >>> ((6 : Int32) &&& (31 : Int32)))), (7, .int (r_74 &&& (63 : Int32)))] → W p l e (rX2_join ms1) s m args below meth c H locs (0 + 5) (0 + (ms1)) Q (F0 m 129 ls []) := by
            intro d_count_o85x d_next_o85x d_note_o85x p_table_o85x p_count_o85x H locs ls hq hP hD hS hl
            obtain ⟨rfl, rfl, rfl, rfl, rfl⟩ := oi5 hq
            refine lv_aload_n hx hb dX2_join_129 rfl (lv_at hl 2 rfl) ?_
            refine lv_iload hx hb dX2_join_130 (lv_at hl 6 rfl) ?_
            obtain ⟨r_132, hc_132, h⟩ := ob1_e h
            refine k_si (va_runV (As := [.int (r_60 >>> ((6 : Int32) &&& (31 : Int32)))]) (rest := []) ⟨hx, hb, hml, hown, hts⟩ (c_X0_saysAt l G (f_h k1) (f_q k1) (f_next k1) (f_says k1) (f_size k1)  (r_60 >>> ((6 : Int32) &&& (31 : Int32))) r_132 hc_132) (cwV 1 hts gX2_join_X0_saysAt rfl rfl rfl ⟨rfl, eX0_saysAt⟩ ⟨Nat.le_of_ble_eq_true rfl, Nat.le_of_ble_eq_true rfl⟩) (preSV (ci := 0) (q0 := 0) hK (famC (hP.sub (ws' := WF G f_h f_q f_next f_says f_size) [12, 13, 14, 15, 16, 17, 18, 19, 20, 21, 22, 23, 24, 25, 26, 27, 28, 29, 30, 31, 32] rfl) k1 hk1) rfl rfl) rfl rfl hl.1 rfl (lv_room (Nat.le_of_ble_eq_true rfl)) dX2_join_132 ⟨Nat.le_of_ble_eq_true rfl, by show 0 + (ms1) + 0 ≤ ms1; omega⟩) ?_
            refine lv_istore (lv' := [(8, .int r_132), (0, .ref k_h), (1, .ref (f_h k0)), (2, .ref (f_h k1)), (3, .ref (f_h k2)), (4, .int v4), (5, .int v5_34), (6, .int (r_60 >>> ((6 : Int32) &&& (31 : Int32)))), (7, .int (r_74 &&& (63 : Int32)))]) hx hb dX2_join_135 hl (by decide) rfl (fun ls hl => ?_)
            refine lv_aload_n hx hb dX2_join_137 rfl (lv_at hl 4 rfl) ?_
            refine lv_iload hx hb dX2_join_138 (lv_at hl 8 rfl) ?_
            obtain ⟨r_140, hc_140, h⟩ := ob1_e h
            refine k_si (va_runV (As := [.int (r_74 &&& (63 : Int32))]) (rest := []) ⟨hx, hb, hml, hown, hts⟩ (c_X0_saysAt l G (f_h k2) (f_q k2) (f_next k2) (f_says k2) (f_size k2)  (r_74 &&& (63 : Int32)) r_140 hc_140) (cwV 1 hts gX2_join_X0_saysAt rfl rfl rfl ⟨rfl, eX0_saysAt⟩ ⟨Nat.le_of_ble_eq_true rfl, Nat.le_of_ble_eq_true rfl⟩) (preSV (ci := 0) (q0 := 0) hK (famC (hP.sub (ws' := WF G f_h f_q f_next f_says f_size) [12, 13, 14, 15, 16, 17, 18, 19, 20, 21, 22, 23, 24, 25, 26, 27, 28, 29, 30, 31, 32] rfl) k2 hk2) rfl rfl) rfl rfl hl.1 rfl (lv_room (Nat.le_of_ble_eq_true rfl)) dX2_join_140 ⟨Nat.le_of_ble_eq_true rfl, by show 0 + (ms1) + 0 ≤ ms1; omega⟩) ?_
            refine lv_istore (lv' := [(9, .int r_140), (8, .int r_132), (0, .ref k_h), (1, .ref (f_h k0)), (2, .ref (f_h k1)), (3, .ref (f_h k2)), (4, .int v4), (5, .int v5_34), (6, .int (r_60 >>> ((6 : Int32) &&& (31 : Int32)))), (7, .int (r_74 &&& (63 : Int32)))]) hx hb dX2_join_143 hl (by decide) rfl (fun ls hl => ?_)
            refine lv_aload_n hx hb dX2_join_145 rfl (lv_at hl 2 rfl) ?_
            refine va_get (D := G.1) (ci := 2) (v := .ref k_hd) (C := RX2) (T := TX2) (N := 2) hx hb hts hinX2 hown hK.1 hP 0 rfl rfl 0 (by decide) hf11 (fun _ h9 => h9) rfl dX2_join_146 ?_
            refine lv_iload hx hb dX2_join_149 (lv_at hl 7 rfl) ?_
            refine lv_iload hx hb dX2_join_151 (lv_at hl 6 rfl) ?_
            obtain ⟨j0_153, hT153, h⟩ := ob1_e h
            have hJ153 : ∀ (j0_153x : Int32)  (H : Heap) (locs : List Loc) (ls : Array Slot), some j0_153x = some j0_153 → va_P G.1 vwCl ((WK G k_h k_hd k_hp) ++ (WD G k_hd k_hp d_q u_14 d_rm_14 d_stateOf d_kindOf d_order d_rooms_14 d_count_o85 d_next_o85 d_says_34 d_note_o85 d_sort_14 d_freshSort_14) ++ (WP G k_hp p_q p_table_o85 p_turn_21 p_count_o85) ++ (WF G f_h f_q f_next f_says f_size)) H → va_D A ((WK G k_h k_hd k_hp) ++ (WD G k_hd k_hp d_q u_14 d_rm_14 d_stateOf d_kindOf d_order d_rooms_14 d_count_o85 d_next_o85 d_says_34 d_note_o85 d_sort_14 d_freshSort_14) ++ (WP G k_hp p_q p_table_o85 p_turn_21 p_count_o85) ++ (WF G f_h f_q f_next f_says f_size)) → va_S A s.heap H locs → lv_has ls 10 [(0, .ref k_h), (1, .ref (f_h k0)), (2, .ref (f_h k1)), (3, .ref (f_h k2)), (4, .int v4), (5, .int v5_34)] → W p l e (rX2_join ms1) s m args below meth c H locs (0 + 5) (0 + (ms1)) Q (F0 m 189 ls [.int j0_153x, .int v5_34, .ref k_hd]) := by
              intro j0_153x H locs ls hq hP hD hS hl
              obtain rfl := oi1 hq
              obtain ⟨d_says_189, hc_189, h⟩ := ob1_e h
              refine k_cv (wr := (WK G k_h k_hd k_hp) ++ (WP G k_hp p_q p_table_o85 p_turn_21 p_count_o85) ++ (WF G f_h f_q f_next f_says f_size)) (va_runV (As := [.int v5_34, .int j0_153]) (rest := []) ⟨hx, hb, hml, hown, hts⟩ (c_X1_writeSays l G k_hd k_hp d_q u_14 d_rm_14 d_stateOf d_kindOf d_order d_rooms_14 d_count_o85 d_next_o85 d_says_34 d_note_o85 d_sort_14 d_freshSort_14  v5_34 j0_153 _ d_says_189 hc_189) (cwV 2 hts gX2_join_X1_writeSays rfl rfl rfl ⟨rfl, eX1_writeSays⟩ ⟨Nat.le_of_ble_eq_true rfl, Nat.le_of_ble_eq_true rfl⟩) (preWV (ci := 1) (q0 := 0) hK (hP.sub (ws' := WD G k_hd k_hp d_q u_14 d_rm_14 d_stateOf d_kindOf d_order d_rooms_14 d_count_o85 d_next_o85 d_says_34 d_note_o85 d_sort_14 d_freshSort_14) [1, 2, 3, 4, 5, 6, 7, 8, 9] rfl) (hD.sub (ws' := WD G k_hd k_hp d_q u_14 d_rm_14 d_stateOf d_kindOf d_order d_rooms_14 d_count_o85 d_next_o85 d_says_34 d_note_o85 d_sort_14 d_freshSort_14) [1, 2, 3, 4, 5, 6, 7, 8, 9] (by decide) rfl) rfl rfl) rfl rfl hl.1 rfl (lv_room (Nat.le_of_ble_eq_true rfl)) dX2_join_189 ⟨Nat.le_of_ble_eq_true rfl, by show 0 + (ms1) + 0 ≤ ms1; omega⟩) hP hD hS hA [1, 2, 3, 4, 5, 6, 7, 8, 9] [0, 10, 11, 12, 13, 14, 15, 16, 17, 18, 19, 20, 21, 22, 23, 24, 25, 26, 27, 28, 29, 30, 31, 32] rfl rfl (by decide) (by decide) (fun u_189 H locs hP hD hS => ?_)
              have hP := hP.sub (ws' := (WK G k_h k_hd k_hp) ++ (WD G k_hd k_hp d_q u_14 d_rm_14 d_stateOf d_kindOf d_order d_rooms_14 d_count_o85 d_next_o85 d_says_189 d_note_o85 d_sort_14 d_freshSort_14) ++ (WP G k_hp p_q p_table_o85 p_turn_21 p_count_o85) ++ (WF G f_h f_q f_next f_says f_size)) [0, 24, 25, 26, 27, 28, 29, 30, 31, 32, 1, 2, 3, 4, 5, 6, 7, 8, 9, 10, 11, 12, 13, 14, 15, 16, 17, 18, 19, 20, 21, 22, 23] rfl
              have hD := hD.sub (ws' := (WK G k_h k_hd k_hp) ++ (WD G k_hd k_hp d_q u_14 d_rm_14 d_stateOf d_kindOf d_order d_rooms_14 d_count_o85 d_next_o85 d_says_189 d_note_o85 d_sort_14 d_freshSort_14) ++ (WP G k_hp p_q p_table_o85 p_turn_21 p_count_o85) ++ (WF G f_h f_q f_next f_says f_size)) [0, 24, 25, 26, 27, 28, 29, 30, 31, 32, 1, 2, 3, 4, 5, 6, 7, 8, 9, 10, 11, 12, 13, 14, 15, 16, 17, 18, 19, 20, 21, 22, 23] (by decide) rfl
              refine lv_iinc (v := (v5_34 + (1 : Int32))) (lv' := [(5, .int (v5_34 + (1 : Int32))), (0, .ref k_h), (1, .ref (f_h k0)), (2, .ref (f_h k1)), (3, .ref (f_h k2)), (4, .int v4)]) hx hb dX2_join_192 hl (k := 5) rfl rfl (by decide) rfl (fun ls hl => ?_)
              refine lv_goto (tgt := 34) hx hb dX2_join_195 (by decide) ?_
              exact ih _ _ _ _ _ _ _  _ _ _ h hP hD hS (lv_sub hl [1, 2, 3, 4, 5, 0] rfl)
            replace h := hT153
            refine lv_if_eq (tgt := 174) hx hb dX2_join_153 (by decide) (fun c_153 => ?_) (fun c_153 => ?_)
            · replace h := (if_pos c_153).symm.trans h
              refine lv_iload hx hb dX2_join_174 (lv_at hl 1 rfl) ?_
              refine lv_if_ne (tgt := 184) hx hb dX2_join_176 (by decide) (fun c_176 => ?_) (fun c_176 => ?_)
              · replace h := (if_neg c_176).symm.trans h
                refine lv_iconst (v := 1) hx hb dX2_join_184 (by decide) ?_
                refine lv_goto (tgt := 189) hx hb dX2_join_185 (by decide) ?_
                exact hJ153 _  _ _ _ h hP hD hS (lv_sub hl [2, 3, 4, 5, 6, 7] rfl)
              · replace h := (if_pos c_176).symm.trans h
                refine lv_iload hx hb dX2_join_179 (lv_at hl 0 rfl) ?_
                refine lv_if_eq (tgt := 188) hx hb dX2_join_181 (by decide) (fun c_181 => ?_) (fun c_181 => ?_)
                · replace h := (if_pos c_181).symm.trans h
                  refine lv_iconst (v := 0) hx hb dX2_join_188 (by decide) ?_
                  exact hJ153 _  _ _ _ h hP hD hS (lv_sub hl [2, 3, 4, 5, 6, 7] rfl)
                · replace h := (if_neg c_181).symm.trans h
                  refine lv_iconst (v := 1) hx hb dX2_join_184 (by decide) ?_
                  refine lv_goto (tgt := 189) hx hb dX2_join_185 (by decide) ?_
                  exact hJ153 _  _ _ _ h hP hD hS (lv_sub hl [2, 3, 4, 5, 6, 7] rfl)
            · replace h := (if_neg c_153).symm.trans h
              refine lv_iload hx hb dX2_join_156 (lv_at hl 1 rfl) ?_
              refine lv_if_eq (tgt := 170) hx hb dX2_join_158 (by decide) (fun c_158 => ?_) (fun c_158 => ?_)
              · replace h := (if_pos c_158).symm.trans h
                refine lv_iconst (v := 0) hx hb dX2_join_170 (by decide) ?_
                refine lv_goto (tgt := 189) hx hb dX2_join_171 (by decide) ?_
                exact hJ153 _  _ _ _ h hP hD hS (lv_sub hl [2, 3, 4, 5, 6, 7] rfl)
              · replace h := (if_neg c_158).symm.trans h
                refine lv_iload hx hb dX2_join_161 (lv_at hl 0 rfl) ?_
                refine lv_if_eq (tgt := 170) hx hb dX2_join_163 (by decide) (fun c_163 => ?_) (fun c_163 => ?_)
                · replace h := (if_pos c_163).symm.trans h
                  refine lv_iconst (v := 0) hx hb dX2_join_170 (by decide) ?_
                  refine lv_goto (tgt := 189) hx hb dX2_join_171 (by decide) ?_
                  exact hJ153 _  _ _ _ h hP hD hS (lv_sub hl [2, 3, 4, 5, 6, 7] rfl)
                · replace h := (if_neg c_163).symm.trans h
                  refine lv_iconst (v := 1) hx hb dX2_join_166 (by decide) ?_
                  refine lv_goto (tgt := 189) hx hb dX2_join_167 (by decide) ?_
                  exact hJ153 _  _ _ _ h hP hD hS (lv_sub hl [2, 3, 4, 5, 6, 7] rfl)
          have hL85 : ∀ (f : Nat) (v8_85 : Int32) (d_count_85 : Int32) (d_next_85 : AI) (d_note_85 : AI) (p_table_85 : AI) (p_count_85 : Int32)  (H : Heap) (locs : List Loc) (ls : Array Slot), p_X2_join_L85 f_next k1 f_size r_60 k2 r_74 d_rm_14 d_rooms_14 p_turn_21 v5_34 f v8_85 d_count_85 d_next_85 d_note_85 p_table_85 p_count_85 = some (d_count_o85, d_next_o85, d_note_o85, p_table_o85, p_count_o85) → va_P G.1 vwCl ((WK G k_h k_hd k_hp) ++ (WD G k_hd k_hp d_q u_14 d_rm_14 d_stateOf d_kindOf d_order d_rooms_14 d_count_85 d_next_85 d_says_34 d_note_85 d_sort_14 d_freshSort_14) ++ (WP G k_hp p_q p_table_85 p_turn_21 p_count_85) ++ (WF G f_h f_q f_next f_says f_size)) H → va_D A ((WK G k_h k_hd k_hp) ++ (WD G k_hd k_hp d_q u_14 d_rm_14 d_stateOf d_kindOf d_order d_rooms_14 d_count_85 d_next_85 d_says_34 d_note_85 d_sort_14 d_freshSort_14) ++ (WP G k_hp p_q p_table_85 p_turn_21 p_count_85) ++ (WF G f_h f_q f_next f_says f_size)) → va_S A s.heap H locs → lv_has ls 10 [(0, .ref k_h), (1, .ref (f_h k0)), (2, .ref (f_h k1)), (3, .ref (f_h k2)), (4, .int v4), (5, .int v5_34), (6, .int (r_60 >>> ((6 : Int32) &&& (31 : Int32)))), (7, .int (r_74 &&& (63 : Int32))), (8, .int v8_85)] → W p l e (rX2_join ms1) s m args below meth c H locs (0 + 5) (0 + (ms1)) Q (F0 m 85 ls []) := by
            intro f
            induction f with
            | zero => intro v8_85 d_count_85 d_next_85 d_note_85 p_table_85 p_count_85 H locs ls h hP hD hS hl; cases (show none = some _ from h)
            | succ f ih =>
              intro v8_85 d_count_85 d_next_85 d_note_85 p_table_85 p_count_85 H locs ls h hP hD hS hl
              rw [p_X2_join_L85] at h
              refine lv_iload hx hb dX2_join_85 (lv_at hl 8 rfl) ?_
              refine lv_bipush (v := 8) hx hb dX2_join_87 (by decide) ?_
              refine lv_icmp_ge (tgt := 129) hx hb dX2_join_89 (by decide) (fun c_89 => ?_) (fun c_89 => ?_)
              · replace h := (if_pos c_89).symm.trans h
                exact hX85 _ _ _ _ _  _ _ _ h hP hD hS (lv_sub hl [0, 1, 2, 3, 4, 5, 6, 7] rfl)
              · replace h := (if_neg c_89).symm.trans h
                refine lv_aload_n hx hb dX2_join_92 rfl (lv_at hl 0 rfl) ?_
                refine va_get (D := G.1) (ci := 2) (v := .ref k_hd) (C := RX2) (T := TX2) (N := 2) hx hb hts hinX2 hown hK.1 hP 0 rfl rfl 0 (by decide) hf11 (fun _ h9 => h9) rfl dX2_join_93 ?_
                refine lv_iload hx hb dX2_join_96 (lv_at hl 5 rfl) ?_
                refine lv_iload hx hb dX2_join_98 (lv_at hl 8 rfl) ?_
                refine lv_aload_n hx hb dX2_join_100 rfl (lv_at hl 0 rfl) ?_
                refine lv_aload_n hx hb dX2_join_101 rfl (lv_at hl 2 rfl) ?_
                refine lv_iload hx hb dX2_join_102 (lv_at hl 6 rfl) ?_
                refine lv_iload hx hb dX2_join_104 (lv_at hl 8 rfl) ?_
                obtain ⟨r_106, hc_106, h⟩ := ob1_e h
                refine k_si (va_runV (As := [.int (r_60 >>> ((6 : Int32) &&& (31 : Int32))), .int v8_85]) (rest := [.ref k_h, .int v8_85, .int v5_34, .ref k_hd]) ⟨hx, hb, hml, hown, hts⟩ (c_X0_after l G (f_h k1) (f_q k1) (f_next k1) (f_says k1) (f_size k1)  (r_60 >>> ((6 : Int32) &&& (31 : Int32))) v8_85 r_106 hc_106) (cwV 2 hts gX2_join_X0_after rfl rfl rfl ⟨rfl, eX0_after⟩ ⟨Nat.le_of_ble_eq_true rfl, Nat.le_of_ble_eq_true rfl⟩) (preSV (ci := 0) (q0 := 0) hK (famC (hP.sub (ws' := WF G f_h f_q f_next f_says f_size) [12, 13, 14, 15, 16, 17, 18, 19, 20, 21, 22, 23, 24, 25, 26, 27, 28, 29, 30, 31, 32] rfl) k1 hk1) rfl rfl) rfl rfl hl.1 rfl (lv_room (Nat.le_of_ble_eq_true rfl)) dX2_join_106 ⟨Nat.le_of_ble_eq_true rfl, by show 0 + (ms1) + 0 ≤ ms1; omega⟩) ?_
                refine lv_aload_n hx hb dX2_join_109 rfl (lv_at hl 3 rfl) ?_
                refine lv_iload hx hb dX2_join_110 (lv_at hl 7 rfl) ?_
                refine lv_iload hx hb dX2_join_112 (lv_at hl 8 rfl) ?_
                obtain ⟨r_114, hc_114, h⟩ := ob1_e h
                refine k_si (va_runV (As := [.int (r_74 &&& (63 : Int32)), .int v8_85]) (rest := [.int r_106, .ref k_h, .int v8_85, .int v5_34, .ref k_hd]) ⟨hx, hb, hml, hown, hts⟩ (c_X0_after l G (f_h k2) (f_q k2) (f_next k2) (f_says k2) (f_size k2)  (r_74 &&& (63 : Int32)) v8_85 r_114 hc_114) (cwV 2 hts gX2_join_X0_after rfl rfl rfl ⟨rfl, eX0_after⟩ ⟨Nat.le_of_ble_eq_true rfl, Nat.le_of_ble_eq_true rfl⟩) (preSV (ci := 0) (q0 := 0) hK (famC (hP.sub (ws' := WF G f_h f_q f_next f_says f_size) [12, 13, 14, 15, 16, 17, 18, 19, 20, 21, 22, 23, 24, 25, 26, 27, 28, 29, 30, 31, 32] rfl) k2 hk2) rfl rfl) rfl rfl hl.1 rfl (lv_room (Nat.le_of_ble_eq_true rfl)) dX2_join_114 ⟨Nat.le_of_ble_eq_true rfl, by show 0 + (ms1) + 0 ≤ ms1; omega⟩) ?_
                obtain ⟨r_117, d_count_117, d_note_117, p_table_117, p_count_117, hc_117, h⟩ := ob5_e h
                refine k_ci (wr := WF G f_h f_q f_next f_says f_size) (va_runV (As := [.int r_106, .int r_114]) (rest := [.int v8_85, .int v5_34, .ref k_hd]) ⟨hx, hb, hml, hown, hts⟩ (c_X2_stateFor l G k_h k_hd k_hp d_q u_14 p_q d_rm_14 d_stateOf d_kindOf d_order d_rooms_14 d_count_85 d_next_85 d_says_34 d_note_85 d_sort_14 d_freshSort_14 p_table_85 p_turn_21 p_count_85  r_106 r_114 _ r_117 d_count_117 d_note_117 p_table_117 p_count_117 hc_117) (cwV 2 hts gX2_join_X2_stateFor rfl rfl rfl ⟨rfl, eX2_stateFor⟩ ⟨Nat.le_of_ble_eq_true rfl, Nat.le_of_ble_eq_true rfl⟩) (preWV (ci := 2) (q0 := 0) hK (hP.sub (ws' := (WK G k_h k_hd k_hp) ++ (WD G k_hd k_hp d_q u_14 d_rm_14 d_stateOf d_kindOf d_order d_rooms_14 d_count_85 d_next_85 d_says_34 d_note_85 d_sort_14 d_freshSort_14) ++ (WP G k_hp p_q p_table_85 p_turn_21 p_count_85)) [0, 1, 2, 3, 4, 5, 6, 7, 8, 9, 10, 11] rfl) (hD.sub (ws' := (WK G k_h k_hd k_hp) ++ (WD G k_hd k_hp d_q u_14 d_rm_14 d_stateOf d_kindOf d_order d_rooms_14 d_count_85 d_next_85 d_says_34 d_note_85 d_sort_14 d_freshSort_14) ++ (WP G k_hp p_q p_table_85 p_turn_21 p_count_85)) [0, 1, 2, 3, 4, 5, 6, 7, 8, 9, 10, 11] (by decide) rfl) rfl rfl) rfl rfl hl.1 rfl (lv_room (Nat.le_of_ble_eq_true rfl)) dX2_join_117 ⟨Nat.le_of_ble_eq_true rfl, by show 0 + (ms1) + 0 ≤ ms1; omega⟩) hP hD hS hA [0, 1, 2, 3, 4, 5, 6, 7, 8, 9, 10, 11] [12, 13, 14, 15, 16, 17, 18, 19, 20, 21, 22, 23, 24, 25, 26, 27, 28, 29, 30, 31, 32] rfl rfl (by decide) (by decide) (fun u_117 H locs hP hD hS => ?_)
                have hP := hP.sub (ws' := (WK G k_h k_hd k_hp) ++ (WD G k_hd k_hp d_q u_14 d_rm_14 d_stateOf d_kindOf d_order d_rooms_14 d_count_117 d_next_85 d_says_34 d_note_117 d_sort_14 d_freshSort_14) ++ (WP G k_hp p_q p_table_117 p_turn_21 p_count_117) ++ (WF G f_h f_q f_next f_says f_size)) [21, 22, 23, 24, 25, 26, 27, 28, 29, 30, 31, 32, 0, 1, 2, 3, 4, 5, 6, 7, 8, 9, 10, 11, 12, 13, 14, 15, 16, 17, 18, 19, 20] rfl
                have hD := hD.sub (ws' := (WK G k_h k_hd k_hp) ++ (WD G k_hd k_hp d_q u_14 d_rm_14 d_stateOf d_kindOf d_order d_rooms_14 d_count_117 d_next_85 d_says_34 d_note_117 d_sort_14 d_freshSort_14) ++ (WP G k_hp p_q p_table_117 p_turn_21 p_count_117) ++ (WF G f_h f_q f_next f_says f_size)) [21, 22, 23, 24, 25, 26, 27, 28, 29, 30, 31, 32, 0, 1, 2, 3, 4, 5, 6, 7, 8, 9, 10, 11, 12, 13, 14, 15, 16, 17, 18, 19, 20] (by decide) rfl
                obtain ⟨d_next_120, hc_120, h⟩ := ob1_e h
                refine k_cv (wr := (WK G k_h k_hd k_hp) ++ (WP G k_hp p_q p_table_117 p_turn_21 p_count_117) ++ (WF G f_h f_q f_next f_says f_size)) (va_runV (As := [.int v5_34, .int v8_85, .int r_117]) (rest := []) ⟨hx, hb, hml, hown, hts⟩ (c_X1_write l G k_hd k_hp d_q u_14 d_rm_14 d_stateOf d_kindOf d_order d_rooms_14 d_count_117 d_next_85 d_says_34 d_note_117 d_sort_14 d_freshSort_14  v5_34 v8_85 r_117 _ d_next_120 hc_120) (cwV 3 hts gX2_join_X1_write rfl rfl rfl ⟨rfl, eX1_write⟩ ⟨Nat.le_of_ble_eq_true rfl, Nat.le_of_ble_eq_true rfl⟩) (preWV (ci := 1) (q0 := 0) hK (hP.sub (ws' := WD G k_hd k_hp d_q u_14 d_rm_14 d_stateOf d_kindOf d_order d_rooms_14 d_count_117 d_next_85 d_says_34 d_note_117 d_sort_14 d_freshSort_14) [1, 2, 3, 4, 5, 6, 7, 8, 9] rfl) (hD.sub (ws' := WD G k_hd k_hp d_q u_14 d_rm_14 d_stateOf d_kindOf d_order d_rooms_14 d_count_117 d_next_85 d_says_34 d_note_117 d_sort_14 d_freshSort_14) [1, 2, 3, 4, 5, 6, 7, 8, 9] (by decide) rfl) rfl rfl) rfl rfl hl.1 rfl (lv_room (Nat.le_of_ble_eq_true rfl)) dX2_join_120 ⟨Nat.le_of_ble_eq_true rfl, by show 0 + (ms1) + 0 ≤ ms1; omega⟩) hP hD hS hA [1, 2, 3, 4, 5, 6, 7, 8, 9] [0, 10, 11, 12, 13, 14, 15, 16, 17, 18, 19, 20, 21, 22, 23, 24, 25, 26, 27, 28, 29, 30, 31, 32] rfl rfl (by decide) (by decide) (fun u_120 H locs hP hD hS => ?_)
                have hP := hP.sub (ws' := (WK G k_h k_hd k_hp) ++ (WD G k_hd k_hp d_q u_14 d_rm_14 d_stateOf d_kindOf d_order d_rooms_14 d_count_117 d_next_120 d_says_34 d_note_117 d_sort_14 d_freshSort_14) ++ (WP G k_hp p_q p_table_117 p_turn_21 p_count_117) ++ (WF G f_h f_q f_next f_says f_size)) [0, 24, 25, 26, 27, 28, 29, 30, 31, 32, 1, 2, 3, 4, 5, 6, 7, 8, 9, 10, 11, 12, 13, 14, 15, 16, 17, 18, 19, 20, 21, 22, 23] rfl
                have hD := hD.sub (ws' := (WK G k_h k_hd k_hp) ++ (WD G k_hd k_hp d_q u_14 d_rm_14 d_stateOf d_kindOf d_order d_rooms_14 d_count_117 d_next_120 d_says_34 d_note_117 d_sort_14 d_freshSort_14) ++ (WP G k_hp p_q p_table_117 p_turn_21 p_count_117) ++ (WF G f_h f_q f_next f_says f_size)) [0, 24, 25, 26, 27, 28, 29, 30, 31, 32, 1, 2, 3, 4, 5, 6, 7, 8, 9, 10, 11, 12, 13, 14, 15, 16, 17, 18, 19, 20, 21, 22, 23] (by decide) rfl
                refine lv_iinc (v := (v8_85 + (1 : Int32))) (lv' := [(8, .int (v8_85 + (1 : Int32))), (0, .ref k_h), (1, .ref (f_h k0)), (2, .ref (f_h k1)), (3, .ref (f_h k2)), (4, .int v4), (5, .int v5_34), (6, .int (r_60 >>> ((6 : Int32) &&& (31 : Int32)))), (7, .int (r_74 &&& (63 : Int32)))]) hx hb dX2_join_123 hl (k := 8) rfl rfl (by decide) rfl (fun ls hl => ?_)
                refine lv_goto (tgt := 85) hx hb dX2_join_126 (by decide) ?_
                exact ih _ _ _ _ _ _  _ _ _ h hP hD hS (lv_sub hl [1, 2, 3, 4, 5, 6, 7, 8, 0] rfl)
          exact hL85 n _ _ _ _ _ _  _ _ _ hT85 hP hD hS (lv_sub hl [3, 4, 5, 6, 7, 8, 2, 1, 0] rfl)
  exact hL34 n _ _ _ _ _ _ _  _ _ _ hT34 hP hD hS (lv_sub hl [1, 2, 3, 4, 5, 0] rfl)
abbrev rX2_exchange (ms1 : Nat) : Room := { frames := 5, cells := 5, slots := ms1, locals := 111 }
set_option maxHeartbeats 4000000 in
set_option maxRecDepth 100000 in
theorem c_X2_exchange (l : Launch) (G : GG) (n : Nat) (k_h : Nat) (k_hd : Nat) (k_hp : Nat) (d_q : Nat → Nat) (d_a : Nat → Nat) (p_q : Nat → Nat) (f_h : Nat → Nat) (f_q : Nat → Nat → Nat) (d_rm : Nat) (d_stateOf : AI) (d_kindOf : AI) (d_order : AI) (d_rooms : Int32) (d_count : Int32) (d_next : AI) (d_says : AI) (d_note : AI) (d_sort : AI) (d_freshSort : AI) (p_table : AI) (p_turn : Int32) (p_count : Int32) (f_next : AF) (f_says : AF) (f_size : AI) (k0 : Nat) (hk0 : k0 < 7) (k1 : Nat) (hk1 : k1 < 7) (v3 : Int32) (v4 : Int32) (rmx1 : Nat) (ms1 : Nat) (hms1 : rmx1 = d_rm ∨ 12 * rmx1 ≤ ms1) (sz : Nat) (r : Int32) (d_rm_z : Nat) (d_stateOf_z : AI) (d_kindOf_z : AI) (d_order_z : AI) (d_rooms_z : Int32) (d_count_z : Int32) (d_next_z : AI) (d_says_z : AI) (d_note_z : AI) (d_sort_z : AI) (d_freshSort_z : AI) (p_table_z : AI) (p_turn_z : Int32) (p_count_z : Int32) (f_next_z : AF) (f_says_z : AF) (f_size_z : AI) (h : p_X2_exchange n d_rm d_stateOf d_kindOf d_order d_rooms d_next d_says d_note d_sort d_freshSort p_table p_turn f_next f_says f_size k0 k1 rmx1 v3 v4 = some (r, d_rm_z, d_stateOf_z, d_kindOf_z, d_order_z, d_rooms_z, d_count_z, d_next_z, d_says_z, d_note_z, d_sort_z, d_freshSort_z, p_table_z, p_turn_z, p_count_z, f_next_z, f_says_z, f_size_z)) : CI l yX2_exchange wsX2_exchange (rX2_exchange ms1) G [.ref k_h, .ref (f_h k0), .ref (f_h k1), .int v3, .int v4] ((WK G k_h k_hd k_hp) ++ (WD G k_hd k_hp d_q d_a d_rm d_stateOf d_kindOf d_order d_rooms d_count d_next d_says d_note d_sort d_freshSort) ++ (WP G k_hp p_q p_table p_turn p_count) ++ (WF G f_h f_q f_next f_says f_size)) sz r (fun u => (WK G k_h k_hd k_hp) ++ (WD G k_hd k_hp d_q u d_rm_z d_stateOf_z d_kindOf_z d_order_z d_rooms_z d_count_z d_next_z d_says_z d_note_z d_sort_z d_freshSort_z) ++ (WP G k_hp p_q p_table_z p_turn_z p_count_z) ++ (WF G f_h f_q f_next_z f_says_z f_size_z)) := by
  refine enterCI (cc := cX2_exchange) (maxL := 7) (by decide) rfl (Nat.le_of_ble_eq_true rfl) ?_
  intro p e s m args below meth c A Q hx hb hml hown hts hK hP hD hS hA hret ls hl
  have hown : s.vm.findClass RX2 = some m.cls := hown
  have hf11 := hts (.fieldLink RX2 11 "DigitClaims$MadeClaims" "draft" "LDigitClaims$Draft;") (by decide +kernel)
  have hinX2 : ∀ w ∈ wsX20, w ∈ wsX2_exchange := by decide +kernel
  have hl : lv_has ls 7 [(0, .ref k_h), (1, .ref (f_h k0)), (2, .ref (f_h k1)), (3, .int v3), (4, .int v4)] := hl
  unfold p_X2_exchange at h
  refine lv_aload_n hx hb dX2_exchange_0 rfl (lv_at hl 0 rfl) ?_
  refine va_get (D := G.1) (ci := 2) (v := .ref k_hd) (C := RX2) (T := TX2) (N := 2) hx hb hts hinX2 hown hK.1 hP 0 rfl rfl 0 (by decide) hf11 (fun _ h9 => h9) rfl dX2_exchange_1 ?_
  refine lv_aload_n hx hb dX2_exchange_4 rfl (lv_at hl 2 rfl) ?_
  obtain ⟨r_5, hc_5, h⟩ := ob1_e h
  refine k_si (va_runV (As := []) (rest := [.ref k_hd]) ⟨hx, hb, hml, hown, hts⟩ (c_X0_size l G (f_h k1) (f_q k1) (f_next k1) (f_says k1) (f_size k1)   r_5 hc_5) (cwV 0 hts gX2_exchange_X0_size rfl rfl rfl ⟨rfl, eX0_size⟩ ⟨Nat.le_of_ble_eq_true rfl, Nat.le_of_ble_eq_true rfl⟩) (preSV (ci := 0) (q0 := 0) hK (famC (hP.sub (ws' := WF G f_h f_q f_next f_says f_size) [12, 13, 14, 15, 16, 17, 18, 19, 20, 21, 22, 23, 24, 25, 26, 27, 28, 29, 30, 31, 32] rfl) k1 hk1) rfl rfl) rfl rfl hl.1 rfl (lv_room (Nat.le_of_ble_eq_true rfl)) dX2_exchange_5 ⟨Nat.le_of_ble_eq_true rfl, by show 0 + 0 ≤ ms1; omega⟩) ?_
  refine lv_aload_n hx hb dX2_exchange_8 rfl (lv_at hl 2 rfl) ?_
  obtain ⟨r_9, hc_9, h⟩ := ob1_e h
  refine k_si (va_runV (As := []) (rest := [.int r_5, .ref k_hd]) ⟨hx, hb, hml, hown, hts⟩ (c_X0_size l G (f_h k1) (f_q k1) (f_next k1) (f_says k1) (f_size k1)   r_9 hc_9) (cwV 0 hts gX2_exchange_X0_size rfl rfl rfl ⟨rfl, eX0_size⟩ ⟨Nat.le_of_ble_eq_true rfl, Nat.le_of_ble_eq_true rfl⟩) (preSV (ci := 0) (q0 := 0) hK (famC (hP.sub (ws' := WF G f_h f_q f_next f_says f_size) [12, 13, 14, 15, 16, 17, 18, 19, 20, 21, 22, 23, 24, 25, 26, 27, 28, 29, 30, 31, 32] rfl) k1 hk1) rfl rfl) rfl rfl hl.1 rfl (lv_room (Nat.le_of_ble_eq_true rfl)) dX2_exchange_9 ⟨Nat.le_of_ble_eq_true rfl, by show 0 + 0 ≤ ms1; omega⟩) ?_
  obtain ⟨d_rm_12, d_rooms_12, d_count_12, d_next_12, d_says_12, d_note_12, d_sort_12, d_freshSort_12, hc_12, h⟩ := ob8_e h
  refine k_cv (wr := (WK G k_h k_hd k_hp) ++ (WP G k_hp p_q p_table p_turn p_count) ++ (WF G f_h f_q f_next f_says f_size)) (va_runV (As := [.int r_5, .int r_9]) (rest := []) ⟨hx, hb, hml, hown, hts⟩ (c_X1_begin l G k_hd k_hp d_q d_a d_rm d_stateOf d_kindOf d_order d_rooms d_count d_next d_says d_note d_sort d_freshSort  r_5 r_9 rmx1 ms1 hms1 _ d_rm_12 d_rooms_12 d_count_12 d_next_12 d_says_12 d_note_12 d_sort_12 d_freshSort_12 hc_12) (cwV 2 hts gX2_exchange_X1_begin rfl rfl rfl ⟨rfl, eX1_begin⟩ ⟨Nat.le_of_ble_eq_true rfl, Nat.le_of_ble_eq_true rfl⟩) (preWV (ci := 1) (q0 := 0) hK (hP.sub (ws' := WD G k_hd k_hp d_q d_a d_rm d_stateOf d_kindOf d_order d_rooms d_count d_next d_says d_note d_sort d_freshSort) [1, 2, 3, 4, 5, 6, 7, 8, 9] rfl) (hD.sub (ws' := WD G k_hd k_hp d_q d_a d_rm d_stateOf d_kindOf d_order d_rooms d_count d_next d_says d_note d_sort d_freshSort) [1, 2, 3, 4, 5, 6, 7, 8, 9] (by decide) rfl) rfl rfl) rfl rfl hl.1 rfl (lv_room (Nat.le_of_ble_eq_true rfl)) dX2_exchange_12 ⟨Nat.le_of_ble_eq_true rfl, by show 0 + (ms1) ≤ ms1; omega⟩) hP hD hS hA [1, 2, 3, 4, 5, 6, 7, 8, 9] [0, 10, 11, 12, 13, 14, 15, 16, 17, 18, 19, 20, 21, 22, 23, 24, 25, 26, 27, 28, 29, 30, 31, 32] rfl rfl (by decide) (by decide) (fun u_12 H locs hP hD hS => ?_)
  have hP := hP.sub (ws' := (WK G k_h k_hd k_hp) ++ (WD G k_hd k_hp d_q u_12 d_rm_12 d_stateOf d_kindOf d_order d_rooms_12 d_count_12 d_next_12 d_says_12 d_note_12 d_sort_12 d_freshSort_12) ++ (WP G k_hp p_q p_table p_turn p_count) ++ (WF G f_h f_q f_next f_says f_size)) [0, 24, 25, 26, 27, 28, 29, 30, 31, 32, 1, 2, 3, 4, 5, 6, 7, 8, 9, 10, 11, 12, 13, 14, 15, 16, 17, 18, 19, 20, 21, 22, 23] rfl
  have hD := hD.sub (ws' := (WK G k_h k_hd k_hp) ++ (WD G k_hd k_hp d_q u_12 d_rm_12 d_stateOf d_kindOf d_order d_rooms_12 d_count_12 d_next_12 d_says_12 d_note_12 d_sort_12 d_freshSort_12) ++ (WP G k_hp p_q p_table p_turn p_count) ++ (WF G f_h f_q f_next f_says f_size)) [0, 24, 25, 26, 27, 28, 29, 30, 31, 32, 1, 2, 3, 4, 5, 6, 7, 8, 9, 10, 11, 12, 13, 14, 15, 16, 17, 18, 19, 20, 21, 22, 23] (by decide) rfl
  refine lv_iconst (v := 0) hx hb dX2_exchange_15 (by decide) ?_
  refine lv_istore (lv' := [(5, .int (0 : Int32)), (0, .ref k_h), (1, .ref (f_h k0)), (2, .ref (f_h k1)), (3, .int v3), (4, .int v4)]) hx hb dX2_exchange_16 hl (by decide) rfl (fun ls hl => ?_)
  obtain ⟨d_next_o18, d_says_o18, hT18, h⟩ := ob2_e h
  have hX18 : ∀ (d_next_o18x : AI) (d_says_o18x : AI)  (H : Heap) (locs : List Loc) (ls : Array Slot), some (d_next_o18x, d_says_o18x) = some (d_next_o18, d_says_o18) → va_P G.1 vwCl ((WK G k_h k_hd k_hp) ++ (WD G k_hd k_hp d_q u_12 d_rm_12 d_stateOf d_kindOf d_order d_rooms_12 d_count_12 d_next_o18x d_says_o18x d_note_12 d_sort_12 d_freshSort_12) ++ (WP G k_hp p_q p_table p_turn p_count) ++ (WF G f_h f_q f_next f_says f_size)) H → va_D A ((WK G k_h k_hd k_hp) ++ (WD G k_hd k_hp d_q u_12 d_rm_12 d_stateOf d_kindOf d_order d_rooms_12 d_count_12 d_next_o18x d_says_o18x d_note_12 d_sort_12 d_freshSort_12) ++ (WP G k_hp p_q p_table p_turn p_count) ++ (WF G f_h f_q f_next f_says f_size)) → va_S A s.heap H locs → lv_has ls 7 [(0, .ref k_h), (1, .ref (f_h k0))] → W p l e (rX2_exchange ms1) s m args below meth c H locs (0 + 5) (0 + (ms1)) Q (F0 m 89 ls []) := by
    intro d_next_o18x d_says_o18x H locs ls hq hP hD hS hl
    obtain ⟨rfl, rfl⟩ := oi2 hq
    refine lv_aload_n hx hb dX2_exchange_89 rfl (lv_at hl 0 rfl) ?_
    refine va_get (D := G.1) (ci := 2) (v := .ref k_hd) (C := RX2) (T := TX2) (N := 2) hx hb hts hinX2 hown hK.1 hP 0 rfl rfl 0 (by decide) hf11 (fun _ h9 => h9) rfl dX2_exchange_90 ?_
    refine lv_aload_n hx hb dX2_exchange_93 rfl (lv_at hl 1 rfl) ?_
    obtain ⟨r_94, d_stateOf_94, d_kindOf_94, d_order_94, d_sort_94, d_freshSort_94, p_table_94, p_turn_94, p_count_94, y_next_94, y_says_94, y_size_94, hc_94, h⟩ := ob12_e h
    refine k_ciF (X := (WK G k_h k_hd k_hp) ++ (WD G k_hd k_hp d_q u_12 d_rm_12 d_stateOf d_kindOf d_order d_rooms_12 d_count_12 d_next_o18 d_says_o18 d_note_12 d_sort_12 d_freshSort_12) ++ (WP G k_hp p_q p_table p_turn p_count)) (Xc := (WD G k_hd k_hp d_q u_12 d_rm_12 d_stateOf d_kindOf d_order d_rooms_12 d_count_12 d_next_o18 d_says_o18 d_note_12 d_sort_12 d_freshSort_12) ++ (WP G k_hp p_q p_table p_turn p_count)) (wr := WK G k_h k_hd k_hp) (x1 := fun u => (WD G k_hd k_hp d_q u d_rm_12 d_stateOf_94 d_kindOf_94 d_order_94 d_rooms_12 d_count_12 d_next_o18 d_says_o18 d_note_12 d_sort_94 d_freshSort_94) ++ (WP G k_hp p_q p_table_94 p_turn_94 p_count_94)) (fh := f_h) (fq := f_q) (fn := f_next) (fs := f_says) (fz := f_size) (k := k0) (nx := y_next_94) (sy := y_says_94) (sz := y_size_94) hk0 (va_runV (As := [.ref (f_h k0)]) (rest := []) ⟨hx, hb, hml, hown, hts⟩ (c_X1_reduceInto l G n k_hd k_hp d_q u_12 p_q (f_h k0) (f_q k0) d_rm_12 d_stateOf d_kindOf d_order d_rooms_12 d_count_12 d_next_o18 d_says_o18 d_note_12 d_sort_12 d_freshSort_12 p_table p_turn p_count (f_next k0) (f_says k0) (f_size k0)   _ r_94 d_stateOf_94 d_kindOf_94 d_order_94 d_sort_94 d_freshSort_94 p_table_94 p_turn_94 p_count_94 y_next_94 y_says_94 y_size_94 hc_94) (cwV 1 hts gX2_exchange_X1_reduceInto rfl rfl rfl ⟨rfl, eX1_reduceInto⟩ ⟨Nat.le_of_ble_eq_true rfl, Nat.le_of_ble_eq_true rfl⟩) (preWVF (X := (WK G k_h k_hd k_hp) ++ (WD G k_hd k_hp d_q u_12 d_rm_12 d_stateOf d_kindOf d_order d_rooms_12 d_count_12 d_next_o18 d_says_o18 d_note_12 d_sort_12 d_freshSort_12) ++ (WP G k_hp p_q p_table p_turn p_count)) (Xc := (WD G k_hd k_hp d_q u_12 d_rm_12 d_stateOf d_kindOf d_order d_rooms_12 d_count_12 d_next_o18 d_says_o18 d_note_12 d_sort_12 d_freshSort_12) ++ (WP G k_hp p_q p_table p_turn p_count)) (ci := 1) (q0 := 0) hK hP hD hk0 [1, 2, 3, 4, 5, 6, 7, 8, 9, 10, 11, 12, 13, 14] rfl (by decide) rfl rfl) rfl rfl hl.1 rfl (lv_room (Nat.le_of_ble_eq_true rfl)) dX2_exchange_94 ⟨Nat.le_of_ble_eq_true rfl, by show 0 + (ms1) + 0 ≤ ms1; omega⟩) hP hD hS hA [1, 2, 3, 4, 5, 6, 7, 8, 9, 10, 11, 12, 13, 14] [0] rfl rfl (by decide) (by decide) (fun u_94 H locs hP hD hS => ?_)
    have hP := hP.part (cx := (WK G k_h k_hd k_hp) ++ (WD G k_hd k_hp d_q u_94 d_rm_12 d_stateOf_94 d_kindOf_94 d_order_94 d_rooms_12 d_count_12 d_next_o18 d_says_o18 d_note_12 d_sort_94 d_freshSort_94) ++ (WP G k_hp p_q p_table_94 p_turn_94 p_count_94)) [0, 1, 2, 3, 4, 5, 6, 7, 8, 9, 10, 11] rfl
    have hD := hD.part (cx := (WK G k_h k_hd k_hp) ++ (WD G k_hd k_hp d_q u_94 d_rm_12 d_stateOf_94 d_kindOf_94 d_order_94 d_rooms_12 d_count_12 d_next_o18 d_says_o18 d_note_12 d_sort_94 d_freshSort_94) ++ (WP G k_hp p_q p_table_94 p_turn_94 p_count_94)) [0, 1, 2, 3, 4, 5, 6, 7, 8, 9, 10, 11] (by decide) rfl
    have hP : va_P G.1 vwCl ((WK G k_h k_hd k_hp) ++ (WD G k_hd k_hp d_q u_94 d_rm_12 d_stateOf_94 d_kindOf_94 d_order_94 d_rooms_12 d_count_12 d_next_o18 d_says_o18 d_note_12 d_sort_94 d_freshSort_94) ++ (WP G k_hp p_q p_table_94 p_turn_94 p_count_94) ++ (WF G f_h f_q (va_up f_next k0 y_next_94) (va_up f_says k0 y_says_94) (va_up f_size k0 y_size_94))) H := hP
    have hD : va_D A ((WK G k_h k_hd k_hp) ++ (WD G k_hd k_hp d_q u_94 d_rm_12 d_stateOf_94 d_kindOf_94 d_order_94 d_rooms_12 d_count_12 d_next_o18 d_says_o18 d_note_12 d_sort_94 d_freshSort_94) ++ (WP G k_hp p_q p_table_94 p_turn_94 p_count_94) ++ (WF G f_h f_q (va_up f_next k0 y_next_94) (va_up f_says k0 y_says_94) (va_up f_size k0 y_size_94))) := hD
    obtain ⟨rfl, rfl, rfl, rfl, rfl, rfl, rfl, rfl, rfl, rfl, rfl, rfl, rfl, rfl, rfl, rfl, rfl, rfl⟩ := oi18 h
    exact hret u_94 _ _ _ _ _ _ _ dX2_exchange_97 rfl rfl hP hD hS (Nat.le_of_ble_eq_true rfl) (by show 0 + (ms1) ≤ ms1; omega)
  have hL18 : ∀ (f : Nat) (v5_18 : Int32) (d_next_18 : AI) (d_says_18 : AI)  (H : Heap) (locs : List Loc) (ls : Array Slot), p_X2_exchange_L18 n f_size k1 v3 v4 f_next d_rm_12 d_count_12 f_says f v5_18 d_next_18 d_says_18 = some (d_next_o18, d_says_o18) → va_P G.1 vwCl ((WK G k_h k_hd k_hp) ++ (WD G k_hd k_hp d_q u_12 d_rm_12 d_stateOf d_kindOf d_order d_rooms_12 d_count_12 d_next_18 d_says_18 d_note_12 d_sort_12 d_freshSort_12) ++ (WP G k_hp p_q p_table p_turn p_count) ++ (WF G f_h f_q f_next f_says f_size)) H → va_D A ((WK G k_h k_hd k_hp) ++ (WD G k_hd k_hp d_q u_12 d_rm_12 d_stateOf d_kindOf d_order d_rooms_12 d_count_12 d_next_18 d_says_18 d_note_12 d_sort_12 d_freshSort_12) ++ (WP G k_hp p_q p_table p_turn p_count) ++ (WF G f_h f_q f_next f_says f_size)) → va_S A s.heap H locs → lv_has ls 7 [(0, .ref k_h), (1, .ref (f_h k0)), (2, .ref (f_h k1)), (3, .int v3), (4, .int v4), (5, .int v5_18)] → W p l e (rX2_exchange ms1) s m args below meth c H locs (0 + 5) (0 + (ms1)) Q (F0 m 18 ls []) := by
    intro f
    induction f with
    | zero => intro v5_18 d_next_18 d_says_18 H locs ls h hP hD hS hl; cases (show none = some _ from h)
    | succ f ih =>
      intro v5_18 d_next_18 d_says_18 H locs ls h hP hD hS hl
      rw [p_X2_exchange_L18] at h
      refine lv_iload hx hb dX2_exchange_18 (lv_at hl 5 rfl) ?_
      refine lv_aload_n hx hb dX2_exchange_20 rfl (lv_at hl 2 rfl) ?_
      obtain ⟨r_21, hc_21, h⟩ := ob1_e h
      refine k_si (va_runV (As := []) (rest := [.int v5_18]) ⟨hx, hb, hml, hown, hts⟩ (c_X0_size l G (f_h k1) (f_q k1) (f_next k1) (f_says k1) (f_size k1)   r_21 hc_21) (cwV 0 hts gX2_exchange_X0_size rfl rfl rfl ⟨rfl, eX0_size⟩ ⟨Nat.le_of_ble_eq_true rfl, Nat.le_of_ble_eq_true rfl⟩) (preSV (ci := 0) (q0 := 0) hK (famC (hP.sub (ws' := WF G f_h f_q f_next f_says f_size) [12, 13, 14, 15, 16, 17, 18, 19, 20, 21, 22, 23, 24, 25, 26, 27, 28, 29, 30, 31, 32] rfl) k1 hk1) rfl rfl) rfl rfl hl.1 rfl (lv_room (Nat.le_of_ble_eq_true rfl)) dX2_exchange_21 ⟨Nat.le_of_ble_eq_true rfl, by show 0 + (ms1) + 0 ≤ ms1; omega⟩) ?_
      refine lv_icmp_ge (tgt := 89) hx hb dX2_exchange_24 (by decide) (fun c_24 => ?_) (fun c_24 => ?_)
      · replace h := (if_pos c_24).symm.trans h
        exact hX18 _ _  _ _ _ h hP hD hS (lv_sub hl [0, 1] rfl)
      · replace h := (if_neg c_24).symm.trans h
        refine lv_iconst (v := 0) hx hb dX2_exchange_27 (by decide) ?_
        refine lv_istore (lv' := [(6, .int (0 : Int32)), (0, .ref k_h), (1, .ref (f_h k0)), (2, .ref (f_h k1)), (3, .int v3), (4, .int v4), (5, .int v5_18)]) hx hb dX2_exchange_28 hl (by decide) rfl (fun ls hl => ?_)
        obtain ⟨d_next_o30, hT30, h⟩ := ob1_e h
        have hX30 : ∀ (d_next_o30x : AI)  (H : Heap) (locs : List Loc) (ls : Array Slot), some d_next_o30x = some d_next_o30 → va_P G.1 vwCl ((WK G k_h k_hd k_hp) ++ (WD G k_hd k_hp d_q u_12 d_rm_12 d_stateOf d_kindOf d_order d_rooms_12 d_count_12 d_next_o30x d_says_18 d_note_12 d_sort_12 d_freshSort_12) ++ (WP G k_hp p_q p_table p_turn p_count) ++ (WF G f_h f_q f_next f_says f_size)) H → va_D A ((WK G k_h k_hd k_hp) ++ (WD G k_hd k_hp d_q u_12 d_rm_12 d_stateOf d_kindOf d_order d_rooms_12 d_count_12 d_next_o30x d_says_18 d_note_12 d_sort_12 d_freshSort_12) ++ (WP G k_hp p_q p_table p_turn p_count) ++ (WF G f_h f_q f_next f_says f_size)) → va_S A s.heap H locs → lv_has ls 7 [(0, .ref k_h), (1, .ref (f_h k0)), (2, .ref (f_h k1)), (3, .int v3), (4, .int v4), (5, .int v5_18)] → W p l e (rX2_exchange ms1) s m args below meth c H locs (0 + 5) (0 + (ms1)) Q (F0 m 68 ls []) := by
          intro d_next_o30x H locs ls hq hP hD hS hl
          obtain rfl := oi1 hq
          refine lv_aload_n hx hb dX2_exchange_68 rfl (lv_at hl 0 rfl) ?_
          refine va_get (D := G.1) (ci := 2) (v := .ref k_hd) (C := RX2) (T := TX2) (N := 2) hx hb hts hinX2 hown hK.1 hP 0 rfl rfl 0 (by decide) hf11 (fun _ h9 => h9) rfl dX2_exchange_69 ?_
          refine lv_iload hx hb dX2_exchange_72 (lv_at hl 5 rfl) ?_
          refine lv_aload_n hx hb dX2_exchange_74 rfl (lv_at hl 2 rfl) ?_
          refine lv_iload hx hb dX2_exchange_75 (lv_at hl 5 rfl) ?_
          obtain ⟨r_77, hc_77, h⟩ := ob1_e h
          refine k_si (va_runV (As := [.int v5_18]) (rest := [.int v5_18, .ref k_hd]) ⟨hx, hb, hml, hown, hts⟩ (c_X0_saysAt l G (f_h k1) (f_q k1) (f_next k1) (f_says k1) (f_size k1)  v5_18 r_77 hc_77) (cwV 1 hts gX2_exchange_X0_saysAt rfl rfl rfl ⟨rfl, eX0_saysAt⟩ ⟨Nat.le_of_ble_eq_true rfl, Nat.le_of_ble_eq_true rfl⟩) (preSV (ci := 0) (q0 := 0) hK (famC (hP.sub (ws' := WF G f_h f_q f_next f_says f_size) [12, 13, 14, 15, 16, 17, 18, 19, 20, 21, 22, 23, 24, 25, 26, 27, 28, 29, 30, 31, 32] rfl) k1 hk1) rfl rfl) rfl rfl hl.1 rfl (lv_room (Nat.le_of_ble_eq_true rfl)) dX2_exchange_77 ⟨Nat.le_of_ble_eq_true rfl, by show 0 + (ms1) + 0 ≤ ms1; omega⟩) ?_
          obtain ⟨d_says_80, hc_80, h⟩ := ob1_e h
          refine k_cv (wr := (WK G k_h k_hd k_hp) ++ (WP G k_hp p_q p_table p_turn p_count) ++ (WF G f_h f_q f_next f_says f_size)) (va_runV (As := [.int v5_18, .int r_77]) (rest := []) ⟨hx, hb, hml, hown, hts⟩ (c_X1_writeSays l G k_hd k_hp d_q u_12 d_rm_12 d_stateOf d_kindOf d_order d_rooms_12 d_count_12 d_next_o30 d_says_18 d_note_12 d_sort_12 d_freshSort_12  v5_18 r_77 _ d_says_80 hc_80) (cwV 2 hts gX2_exchange_X1_writeSays rfl rfl rfl ⟨rfl, eX1_writeSays⟩ ⟨Nat.le_of_ble_eq_true rfl, Nat.le_of_ble_eq_true rfl⟩) (preWV (ci := 1) (q0 := 0) hK (hP.sub (ws' := WD G k_hd k_hp d_q u_12 d_rm_12 d_stateOf d_kindOf d_order d_rooms_12 d_count_12 d_next_o30 d_says_18 d_note_12 d_sort_12 d_freshSort_12) [1, 2, 3, 4, 5, 6, 7, 8, 9] rfl) (hD.sub (ws' := WD G k_hd k_hp d_q u_12 d_rm_12 d_stateOf d_kindOf d_order d_rooms_12 d_count_12 d_next_o30 d_says_18 d_note_12 d_sort_12 d_freshSort_12) [1, 2, 3, 4, 5, 6, 7, 8, 9] (by decide) rfl) rfl rfl) rfl rfl hl.1 rfl (lv_room (Nat.le_of_ble_eq_true rfl)) dX2_exchange_80 ⟨Nat.le_of_ble_eq_true rfl, by show 0 + (ms1) + 0 ≤ ms1; omega⟩) hP hD hS hA [1, 2, 3, 4, 5, 6, 7, 8, 9] [0, 10, 11, 12, 13, 14, 15, 16, 17, 18, 19, 20, 21, 22, 23, 24, 25, 26, 27, 28, 29, 30, 31, 32] rfl rfl (by decide) (by decide) (fun u_80 H locs hP hD hS => ?_)
          have hP := hP.sub (ws' := (WK G k_h k_hd k_hp) ++ (WD G k_hd k_hp d_q u_12 d_rm_12 d_stateOf d_kindOf d_order d_rooms_12 d_count_12 d_next_o30 d_says_80 d_note_12 d_sort_12 d_freshSort_12) ++ (WP G k_hp p_q p_table p_turn p_count) ++ (WF G f_h f_q f_next f_says f_size)) [0, 24, 25, 26, 27, 28, 29, 30, 31, 32, 1, 2, 3, 4, 5, 6, 7, 8, 9, 10, 11, 12, 13, 14, 15, 16, 17, 18, 19, 20, 21, 22, 23] rfl
          have hD := hD.sub (ws' := (WK G k_h k_hd k_hp) ++ (WD G k_hd k_hp d_q u_12 d_rm_12 d_stateOf d_kindOf d_order d_rooms_12 d_count_12 d_next_o30 d_says_80 d_note_12 d_sort_12 d_freshSort_12) ++ (WP G k_hp p_q p_table p_turn p_count) ++ (WF G f_h f_q f_next f_says f_size)) [0, 24, 25, 26, 27, 28, 29, 30, 31, 32, 1, 2, 3, 4, 5, 6, 7, 8, 9, 10, 11, 12, 13, 14, 15, 16, 17, 18, 19, 20, 21, 22, 23] (by decide) rfl
          refine lv_iinc (v := (v5_18 + (1 : Int32))) (lv' := [(5, .int (v5_18 + (1 : Int32))), (0, .ref k_h), (1, .ref (f_h k0)), (2, .ref (f_h k1)), (3, .int v3), (4, .int v4)]) hx hb dX2_exchange_83 hl (k := 5) rfl rfl (by decide) rfl (fun ls hl => ?_)
          refine lv_goto (tgt := 18) hx hb dX2_exchange_86 (by decide) ?_
          exact ih _ _ _  _ _ _ h hP hD hS (lv_sub hl [1, 2, 3, 4, 5, 0] rfl)
        have hL30 : ∀ (f : Nat) (v6_30 : Int32) (d_next_30 : AI)  (H : Heap) (locs : List Loc) (ls : Array Slot), p_X2_exchange_L30 v3 v4 f_next k1 f_size v5_18 d_rm_12 d_count_12 f v6_30 d_next_30 = some d_next_o30 → va_P G.1 vwCl ((WK G k_h k_hd k_hp) ++ (WD G k_hd k_hp d_q u_12 d_rm_12 d_stateOf d_kindOf d_order d_rooms_12 d_count_12 d_next_30 d_says_18 d_note_12 d_sort_12 d_freshSort_12) ++ (WP G k_hp p_q p_table p_turn p_count) ++ (WF G f_h f_q f_next f_says f_size)) H → va_D A ((WK G k_h k_hd k_hp) ++ (WD G k_hd k_hp d_q u_12 d_rm_12 d_stateOf d_kindOf d_order d_rooms_12 d_count_12 d_next_30 d_says_18 d_note_12 d_sort_12 d_freshSort_12) ++ (WP G k_hp p_q p_table p_turn p_count) ++ (WF G f_h f_q f_next f_says f_size)) → va_S A s.heap H locs → lv_has ls 7 [(0, .ref k_h), (1, .ref (f_h k0)), (2, .ref (f_h k1)), (3, .int v3), (4, .int v4), (5, .int v5_18), (6, .int v6_30)] → W p l e (rX2_exchange ms1) s m args below meth c H locs (0 + 5) (0 + (ms1)) Q (F0 m 30 ls []) := by
          intro f
          induction f with
          | zero => intro v6_30 d_next_30 H locs ls h hP hD hS hl; cases (show none = some _ from h)
          | succ f ih =>
            intro v6_30 d_next_30 H locs ls h hP hD hS hl
            rw [p_X2_exchange_L30] at h
            refine lv_iload hx hb dX2_exchange_30 (lv_at hl 6 rfl) ?_
            refine lv_bipush (v := 8) hx hb dX2_exchange_32 (by decide) ?_
            refine lv_icmp_ge (tgt := 68) hx hb dX2_exchange_34 (by decide) (fun c_34 => ?_) (fun c_34 => ?_)
            · replace h := (if_pos c_34).symm.trans h
              exact hX30 _  _ _ _ h hP hD hS (lv_sub hl [0, 1, 2, 3, 4, 5] rfl)
            · replace h := (if_neg c_34).symm.trans h
              refine lv_aload_n hx hb dX2_exchange_37 rfl (lv_at hl 0 rfl) ?_
              refine va_get (D := G.1) (ci := 2) (v := .ref k_hd) (C := RX2) (T := TX2) (N := 2) hx hb hts hinX2 hown hK.1 hP 0 rfl rfl 0 (by decide) hf11 (fun _ h9 => h9) rfl dX2_exchange_38 ?_
              refine lv_iload hx hb dX2_exchange_41 (lv_at hl 5 rfl) ?_
              refine lv_iload hx hb dX2_exchange_43 (lv_at hl 6 rfl) ?_
              refine lv_iload_n hx hb dX2_exchange_45 rfl (lv_at hl 3 rfl) ?_
              refine lv_iload hx hb dX2_exchange_46 (lv_at hl 4 rfl) ?_
              obtain ⟨r_48, hc_48, h⟩ := ob1_e h
              refine k_si (va_runS (As := [.int v6_30, .int v3, .int v4]) (rest := [.int v5_18, .ref k_hd]) ⟨hx, hb, hml, hown, hts⟩ (c_X2_exchanged l G    v6_30 v3 v4 r_48 hc_48) (va_cwS 3 hts gX2_exchange_X2_exchanged rfl rfl rfl eX2_exchanged ⟨Nat.le_of_ble_eq_true rfl, Nat.le_of_ble_eq_true rfl⟩) (preSS hK (fun k q h => by cases h)) rfl rfl hl.1 rfl (lv_room (Nat.le_of_ble_eq_true rfl)) dX2_exchange_48 ⟨Nat.le_of_ble_eq_true rfl, by show 0 + (ms1) + 0 ≤ ms1; omega⟩) ?_
              refine lv_aload_n hx hb dX2_exchange_51 rfl (lv_at hl 2 rfl) ?_
              refine lv_iload hx hb dX2_exchange_52 (lv_at hl 5 rfl) ?_
              refine lv_iload hx hb dX2_exchange_54 (lv_at hl 6 rfl) ?_
              obtain ⟨r_56, hc_56, h⟩ := ob1_e h
              refine k_si (va_runV (As := [.int v5_18, .int v6_30]) (rest := [.int r_48, .int v5_18, .ref k_hd]) ⟨hx, hb, hml, hown, hts⟩ (c_X0_after l G (f_h k1) (f_q k1) (f_next k1) (f_says k1) (f_size k1)  v5_18 v6_30 r_56 hc_56) (cwV 2 hts gX2_exchange_X0_after rfl rfl rfl ⟨rfl, eX0_after⟩ ⟨Nat.le_of_ble_eq_true rfl, Nat.le_of_ble_eq_true rfl⟩) (preSV (ci := 0) (q0 := 0) hK (famC (hP.sub (ws' := WF G f_h f_q f_next f_says f_size) [12, 13, 14, 15, 16, 17, 18, 19, 20, 21, 22, 23, 24, 25, 26, 27, 28, 29, 30, 31, 32] rfl) k1 hk1) rfl rfl) rfl rfl hl.1 rfl (lv_room (Nat.le_of_ble_eq_true rfl)) dX2_exchange_56 ⟨Nat.le_of_ble_eq_true rfl, by show 0 + (ms1) + 0 ≤ ms1; omega⟩) ?_
              obtain ⟨d_next_59, hc_59, h⟩ := ob1_e h
              refine k_cv (wr := (WK G k_h k_hd k_hp) ++ (WP G k_hp p_q p_table p_turn p_count) ++ (WF G f_h f_q f_next f_says f_size)) (va_runV (As := [.int v5_18, .int r_48, .int r_56]) (rest := []) ⟨hx, hb, hml, hown, hts⟩ (c_X1_write l G k_hd k_hp d_q u_12 d_rm_12 d_stateOf d_kindOf d_order d_rooms_12 d_count_12 d_next_30 d_says_18 d_note_12 d_sort_12 d_freshSort_12  v5_18 r_48 r_56 _ d_next_59 hc_59) (cwV 3 hts gX2_exchange_X1_write rfl rfl rfl ⟨rfl, eX1_write⟩ ⟨Nat.le_of_ble_eq_true rfl, Nat.le_of_ble_eq_true rfl⟩) (preWV (ci := 1) (q0 := 0) hK (hP.sub (ws' := WD G k_hd k_hp d_q u_12 d_rm_12 d_stateOf d_kindOf d_order d_rooms_12 d_count_12 d_next_30 d_says_18 d_note_12 d_sort_12 d_freshSort_12) [1, 2, 3, 4, 5, 6, 7, 8, 9] rfl) (hD.sub (ws' := WD G k_hd k_hp d_q u_12 d_rm_12 d_stateOf d_kindOf d_order d_rooms_12 d_count_12 d_next_30 d_says_18 d_note_12 d_sort_12 d_freshSort_12) [1, 2, 3, 4, 5, 6, 7, 8, 9] (by decide) rfl) rfl rfl) rfl rfl hl.1 rfl (lv_room (Nat.le_of_ble_eq_true rfl)) dX2_exchange_59 ⟨Nat.le_of_ble_eq_true rfl, by show 0 + (ms1) + 0 ≤ ms1; omega⟩) hP hD hS hA [1, 2, 3, 4, 5, 6, 7, 8, 9] [0, 10, 11, 12, 13, 14, 15, 16, 17, 18, 19, 20, 21, 22, 23, 24, 25, 26, 27, 28, 29, 30, 31, 32] rfl rfl (by decide) (by decide) (fun u_59 H locs hP hD hS => ?_)
              have hP := hP.sub (ws' := (WK G k_h k_hd k_hp) ++ (WD G k_hd k_hp d_q u_12 d_rm_12 d_stateOf d_kindOf d_order d_rooms_12 d_count_12 d_next_59 d_says_18 d_note_12 d_sort_12 d_freshSort_12) ++ (WP G k_hp p_q p_table p_turn p_count) ++ (WF G f_h f_q f_next f_says f_size)) [0, 24, 25, 26, 27, 28, 29, 30, 31, 32, 1, 2, 3, 4, 5, 6, 7, 8, 9, 10, 11, 12, 13, 14, 15, 16, 17, 18, 19, 20, 21, 22, 23] rfl
              have hD := hD.sub (ws' := (WK G k_h k_hd k_hp) ++ (WD G k_hd k_hp d_q u_12 d_rm_12 d_stateOf d_kindOf d_order d_rooms_12 d_count_12 d_next_59 d_says_18 d_note_12 d_sort_12 d_freshSort_12) ++ (WP G k_hp p_q p_table p_turn p_count) ++ (WF G f_h f_q f_next f_says f_size)) [0, 24, 25, 26, 27, 28, 29, 30, 31, 32, 1, 2, 3, 4, 5, 6, 7, 8, 9, 10, 11, 12, 13, 14, 15, 16, 17, 18, 19, 20, 21, 22, 23] (by decide) rfl
              refine lv_iinc (v := (v6_30 + (1 : Int32))) (lv' := [(6, .int (v6_30 + (1 : Int32))), (0, .ref k_h), (1, .ref (f_h k0)), (2, .ref (f_h k1)), (3, .int v3), (4, .int v4), (5, .int v5_18)]) hx hb dX2_exchange_62 hl (k := 6) rfl rfl (by decide) rfl (fun ls hl => ?_)
              refine lv_goto (tgt := 30) hx hb dX2_exchange_65 (by decide) ?_
              exact ih _ _  _ _ _ h hP hD hS (lv_sub hl [1, 2, 3, 4, 5, 6, 0] rfl)
        exact hL30 n _ _  _ _ _ hT30 hP hD hS (lv_sub hl [1, 2, 3, 4, 5, 6, 0] rfl)
  exact hL18 n _ _ _  _ _ _ hT18 hP hD hS (lv_sub hl [1, 2, 3, 4, 5, 0] rfl)
abbrev rX6_prepare : Room := { frames := 2, cells := 0, slots := 0, locals := 43 }
set_option maxHeartbeats 4000000 in
set_option maxRecDepth 100000 in
theorem c_X6_prepare (l : Launch) (G : GG) (n : Nat) (e_h : Nat) (e_hd : Nat) (e_hs : Nat) (e_q : Nat → Nat) (f_h : Nat → Nat) (f_q : Nat → Nat → Nat) (e_steps : AL) (e_yes : Int64) (f_next : AF) (f_says : AF) (f_size : AI) (k0 : Nat) (hk0 : k0 < 7) (v2 : Int32) (sz : Nat) (e_steps_z : AL) (e_yes_z : Int64) (h : p_X6_prepare n e_steps f_next f_says f_size k0 v2 = some (e_steps_z, e_yes_z)) : CV l yX6_prepare wsX6_prepare rX6_prepare G [.ref e_h, .ref (f_h k0), .int v2] ((WE G e_h e_hd e_hs e_q e_steps e_yes) ++ (WF G f_h f_q f_next f_says f_size)) sz (fun u => (WE G e_h e_hd e_hs e_q e_steps_z e_yes_z) ++ (WF G f_h f_q f_next f_says f_size)) := by
  refine enterCV (cc := cX6_prepare) (maxL := 9) (by decide) rfl (Nat.le_of_ble_eq_true rfl) ?_
  intro p e s m args below meth c A Q hx hb hml hown hts hK hP hD hS hA hnm hret ls hl
  have hown : s.vm.findClass RX6 = some m.cls := hown
  have hf18 := hts (.fieldLink RX6 18 "DigitClaims$SaidClaims" "steps" "[J") (by decide +kernel)
  have hf22 := hts (.fieldLink RX6 22 "DigitClaims$SaidClaims" "yes" "J") (by decide +kernel)
  have hinX6 : ∀ w ∈ wsX60, w ∈ wsX6_prepare := by decide +kernel
  have hl : lv_has ls 9 [(0, .ref e_h), (1, .ref (f_h k0)), (2, .int v2)] := hl
  unfold p_X6_prepare at h
  refine lv_aload_n hx hb dX6_prepare_0 rfl (lv_at hl 0 rfl) ?_
  refine lv_lconst (v := 0) hx hb dX6_prepare_1 (by decide) ?_
  refine va_put (D := G.1) (ci := 6) (v := .long (0 : Int64)) (ty := .long) (C := RX6) (T := TX6) (N := 4) hx hb hts hinX6 tyX6 tyX6_ok nmX6 hown hK.1 hP hD hS 0 rfl rfl 3 (by decide) hf22 (fun _ h9 => h9) rfl (by decide +kernel) rfl rfl (Nat.le_of_ble_eq_true rfl) dX6_prepare_2 (fun H locs hP hD hS => ?_)
  have hP : va_P G.1 vwCl ((WE G e_h e_hd e_hs e_q e_steps (0 : Int64)) ++ (WF G f_h f_q f_next f_says f_size)) H := hP
  have hD : va_D A ((WE G e_h e_hd e_hs e_q e_steps (0 : Int64)) ++ (WF G f_h f_q f_next f_says f_size)) := hD
  refine lv_iconst (v := 0) hx hb dX6_prepare_5 (by decide) ?_
  refine lv_istore_n (lv' := [(3, .int (0 : Int32)), (0, .ref e_h), (1, .ref (f_h k0)), (2, .int v2)]) hx hb dX6_prepare_6 rfl hl (by decide) rfl (fun ls hl => ?_)
  obtain ⟨e_steps_o7, e_yes_o7, hT7, h⟩ := ob2_e h
  have hX7 : ∀ (e_steps_o7x : AL) (e_yes_o7x : Int64)  (H : Heap) (locs : List Loc) (ls : Array Slot), some (e_steps_o7x, e_yes_o7x) = some (e_steps_o7, e_yes_o7) → va_P G.1 vwCl ((WE G e_h e_hd e_hs e_q e_steps_o7x e_yes_o7x) ++ (WF G f_h f_q f_next f_says f_size)) H → va_D A ((WE G e_h e_hd e_hs e_q e_steps_o7x e_yes_o7x) ++ (WF G f_h f_q f_next f_says f_size)) → va_S A s.heap H locs → lv_has ls 9 [] → W p l e rX6_prepare s m args below meth c H locs 0 0 Q (F0 m 106 ls []) := by
    intro e_steps_o7x e_yes_o7x H locs ls hq hP hD hS hl
    obtain ⟨rfl, rfl⟩ := oi2 hq
    obtain ⟨rfl, rfl⟩ := oi2 h
    exact hret (fun _ => 0) _ _ _ _ _ _ dX6_prepare_106 hP hD hS (Nat.le_of_ble_eq_true rfl) (Nat.le_of_ble_eq_true rfl)
  have hL7 : ∀ (f : Nat) (v3_7 : Int32) (e_steps_7 : AL) (e_yes_7 : Int64)  (H : Heap) (locs : List Loc) (ls : Array Slot), p_X6_prepare_L7 n f_size k0 f_says f_next v2 f v3_7 e_steps_7 e_yes_7 = some (e_steps_o7, e_yes_o7) → va_P G.1 vwCl ((WE G e_h e_hd e_hs e_q e_steps_7 e_yes_7) ++ (WF G f_h f_q f_next f_says f_size)) H → va_D A ((WE G e_h e_hd e_hs e_q e_steps_7 e_yes_7) ++ (WF G f_h f_q f_next f_says f_size)) → va_S A s.heap H locs → lv_has ls 9 [(0, .ref e_h), (1, .ref (f_h k0)), (2, .int v2), (3, .int v3_7)] → W p l e rX6_prepare s m args below meth c H locs 0 0 Q (F0 m 7 ls []) := by
    intro f
    induction f with
    | zero => intro v3_7 e_steps_7 e_yes_7 H locs ls h hP hD hS hl; cases (show none = some _ from h)
    | succ f ih =>
      intro v3_7 e_steps_7 e_yes_7 H locs ls h hP hD hS hl
      rw [p_X6_prepare_L7] at h
      refine lv_iload_n hx hb dX6_prepare_7 rfl (lv_at hl 3 rfl) ?_
      refine lv_aload_n hx hb dX6_prepare_8 rfl (lv_at hl 1 rfl) ?_
      obtain ⟨r_9, hc_9, h⟩ := ob1_e h
      refine k_si (va_runV (As := []) (rest := [.int v3_7]) ⟨hx, hb, hml, hown, hts⟩ (c_X0_size l G (f_h k0) (f_q k0) (f_next k0) (f_says k0) (f_size k0)   r_9 hc_9) (cwV 0 hts gX6_prepare_X0_size rfl rfl rfl ⟨rfl, eX0_size⟩ ⟨Nat.le_of_ble_eq_true rfl, Nat.le_of_ble_eq_true rfl⟩) (preSV (ci := 0) (q0 := 0) hK (famC (hP.sub (ws' := WF G f_h f_q f_next f_says f_size) [2, 3, 4, 5, 6, 7, 8, 9, 10, 11, 12, 13, 14, 15, 16, 17, 18, 19, 20, 21, 22] rfl) k0 hk0) rfl rfl) rfl rfl hl.1 rfl (lv_room (Nat.le_of_ble_eq_true rfl)) dX6_prepare_9 ⟨Nat.le_of_ble_eq_true rfl, Nat.le_of_ble_eq_true rfl⟩) ?_
      refine lv_icmp_ge (tgt := 106) hx hb dX6_prepare_12 (by decide) (fun c_12 => ?_) (fun c_12 => ?_)
      · replace h := (if_pos c_12).symm.trans h
        exact hX7 _ _  _ _ _ h hP hD hS (lv_sub hl [] rfl)
      · replace h := (if_neg c_12).symm.trans h
        refine lv_iload_n hx hb dX6_prepare_15 rfl (lv_at hl 3 rfl) ?_
        refine lv_bipush (v := 60) hx hb dX6_prepare_16 (by decide) ?_
        refine lv_icmp_ge (tgt := 106) hx hb dX6_prepare_18 (by decide) (fun c_18 => ?_) (fun c_18 => ?_)
        · replace h := (if_pos c_18).symm.trans h
          exact hX7 _ _  _ _ _ h hP hD hS (lv_sub hl [] rfl)
        · replace h := (if_neg c_18).symm.trans h
          refine lv_aload_n hx hb dX6_prepare_21 rfl (lv_at hl 1 rfl) ?_
          refine lv_iload_n hx hb dX6_prepare_22 rfl (lv_at hl 3 rfl) ?_
          obtain ⟨r_23, hc_23, h⟩ := ob1_e h
          refine k_si (va_runV (As := [.int v3_7]) (rest := []) ⟨hx, hb, hml, hown, hts⟩ (c_X0_saysAt l G (f_h k0) (f_q k0) (f_next k0) (f_says k0) (f_size k0)  v3_7 r_23 hc_23) (cwV 1 hts gX6_prepare_X0_saysAt rfl rfl rfl ⟨rfl, eX0_saysAt⟩ ⟨Nat.le_of_ble_eq_true rfl, Nat.le_of_ble_eq_true rfl⟩) (preSV (ci := 0) (q0 := 0) hK (famC (hP.sub (ws' := WF G f_h f_q f_next f_says f_size) [2, 3, 4, 5, 6, 7, 8, 9, 10, 11, 12, 13, 14, 15, 16, 17, 18, 19, 20, 21, 22] rfl) k0 hk0) rfl rfl) rfl rfl hl.1 rfl (lv_room (Nat.le_of_ble_eq_true rfl)) dX6_prepare_23 ⟨Nat.le_of_ble_eq_true rfl, Nat.le_of_ble_eq_true rfl⟩) ?_
          obtain ⟨e_yes_j26, hT26, h⟩ := ob1_e h
          have hJ26 : ∀ (e_yes_j26x : Int64)  (H : Heap) (locs : List Loc) (ls : Array Slot), some e_yes_j26x = some e_yes_j26 → va_P G.1 vwCl ((WE G e_h e_hd e_hs e_q e_steps_7 e_yes_j26x) ++ (WF G f_h f_q f_next f_says f_size)) H → va_D A ((WE G e_h e_hd e_hs e_q e_steps_7 e_yes_j26x) ++ (WF G f_h f_q f_next f_says f_size)) → va_S A s.heap H locs → lv_has ls 9 [(0, .ref e_h), (1, .ref (f_h k0)), (2, .int v2), (3, .int v3_7)] → W p l e rX6_prepare s m args below meth c H locs 0 0 Q (F0 m 41 ls []) := by
            intro e_yes_j26x H locs ls hq hP hD hS hl
            obtain rfl := oi1 hq
            refine lv_iconst (v := 0) hx hb dX6_prepare_41 (by decide) ?_
            refine lv_istore (lv' := [(4, .int (0 : Int32)), (0, .ref e_h), (1, .ref (f_h k0)), (2, .int v2), (3, .int v3_7)]) hx hb dX6_prepare_42 hl (by decide) rfl (fun ls hl => ?_)
            obtain ⟨e_steps_o44, hT44, h⟩ := ob1_e h
            have hX44 : ∀ (e_steps_o44x : AL)  (H : Heap) (locs : List Loc) (ls : Array Slot), some e_steps_o44x = some e_steps_o44 → va_P G.1 vwCl ((WE G e_h e_hd e_hs e_q e_steps_o44x e_yes_j26) ++ (WF G f_h f_q f_next f_says f_size)) H → va_D A ((WE G e_h e_hd e_hs e_q e_steps_o44x e_yes_j26) ++ (WF G f_h f_q f_next f_says f_size)) → va_S A s.heap H locs → lv_has ls 9 [(0, .ref e_h), (1, .ref (f_h k0)), (2, .int v2), (3, .int v3_7)] → W p l e rX6_prepare s m args below meth c H locs 0 0 Q (F0 m 100 ls []) := by
              intro e_steps_o44x H locs ls hq hP hD hS hl
              obtain rfl := oi1 hq
              refine lv_iinc (v := (v3_7 + (1 : Int32))) (lv' := [(3, .int (v3_7 + (1 : Int32))), (0, .ref e_h), (1, .ref (f_h k0)), (2, .int v2)]) hx hb dX6_prepare_100 hl (k := 3) rfl rfl (by decide) rfl (fun ls hl => ?_)
              refine lv_goto (tgt := 7) hx hb dX6_prepare_103 (by decide) ?_
              exact ih _ _ _  _ _ _ h hP hD hS (lv_sub hl [1, 2, 3, 0] rfl)
            have hL44 : ∀ (f : Nat) (v4_44 : Int32) (e_steps_44 : AL)  (H : Heap) (locs : List Loc) (ls : Array Slot), p_X6_prepare_L44 f_next k0 f_size v3_7 v2 f v4_44 e_steps_44 = some e_steps_o44 → va_P G.1 vwCl ((WE G e_h e_hd e_hs e_q e_steps_44 e_yes_j26) ++ (WF G f_h f_q f_next f_says f_size)) H → va_D A ((WE G e_h e_hd e_hs e_q e_steps_44 e_yes_j26) ++ (WF G f_h f_q f_next f_says f_size)) → va_S A s.heap H locs → lv_has ls 9 [(0, .ref e_h), (1, .ref (f_h k0)), (2, .int v2), (3, .int v3_7), (4, .int v4_44)] → W p l e rX6_prepare s m args below meth c H locs 0 0 Q (F0 m 44 ls []) := by
              intro f
              induction f with
              | zero => intro v4_44 e_steps_44 H locs ls h hP hD hS hl; cases (show none = some _ from h)
              | succ f ih =>
                intro v4_44 e_steps_44 H locs ls h hP hD hS hl
                rw [p_X6_prepare_L44] at h
                refine lv_iload hx hb dX6_prepare_44 (lv_at hl 4 rfl) ?_
                refine lv_bipush (v := 8) hx hb dX6_prepare_46 (by decide) ?_
                refine lv_icmp_ge (tgt := 100) hx hb dX6_prepare_48 (by decide) (fun c_48 => ?_) (fun c_48 => ?_)
                · replace h := (if_pos c_48).symm.trans h
                  exact hX44 _  _ _ _ h hP hD hS (lv_sub hl [0, 1, 2, 3] rfl)
                · replace h := (if_neg c_48).symm.trans h
                  refine lv_lconst (v := 1) hx hb dX6_prepare_51 (by decide) ?_
                  refine lv_aload_n hx hb dX6_prepare_52 rfl (lv_at hl 1 rfl) ?_
                  refine lv_iload_n hx hb dX6_prepare_53 rfl (lv_at hl 3 rfl) ?_
                  refine lv_iload hx hb dX6_prepare_54 (lv_at hl 4 rfl) ?_
                  obtain ⟨r_56, hc_56, h⟩ := ob1_e h
                  refine k_si (va_runV (As := [.int v3_7, .int v4_44]) (rest := [.long (1 : Int64)]) ⟨hx, hb, hml, hown, hts⟩ (c_X0_after l G (f_h k0) (f_q k0) (f_next k0) (f_says k0) (f_size k0)  v3_7 v4_44 r_56 hc_56) (cwV 2 hts gX6_prepare_X0_after rfl rfl rfl ⟨rfl, eX0_after⟩ ⟨Nat.le_of_ble_eq_true rfl, Nat.le_of_ble_eq_true rfl⟩) (preSV (ci := 0) (q0 := 0) hK (famC (hP.sub (ws' := WF G f_h f_q f_next f_says f_size) [2, 3, 4, 5, 6, 7, 8, 9, 10, 11, 12, 13, 14, 15, 16, 17, 18, 19, 20, 21, 22] rfl) k0 hk0) rfl rfl) rfl rfl hl.1 rfl (lv_room (Nat.le_of_ble_eq_true rfl)) dX6_prepare_56 ⟨Nat.le_of_ble_eq_true rfl, Nat.le_of_ble_eq_true rfl⟩) ?_
                  refine lv_lshl (v := ((1 : Int64) <<< (r_56.toInt64 &&& (63 : Int64)))) hx hb dX6_prepare_59 rfl ?_
                  refine lv_lstore (lv' := [(5, .long ((1 : Int64) <<< (r_56.toInt64 &&& (63 : Int64)))), (0, .ref e_h), (1, .ref (f_h k0)), (2, .int v2), (3, .int v3_7), (4, .int v4_44)]) hx hb dX6_prepare_60 hl (by decide) rfl (fun ls hl => ?_)
                  refine lv_lconst (v := 1) hx hb dX6_prepare_62 (by decide) ?_
                  refine lv_aload_n hx hb dX6_prepare_63 rfl (lv_at hl 2 rfl) ?_
                  refine lv_iload_n hx hb dX6_prepare_64 rfl (lv_at hl 4 rfl) ?_
                  refine lv_iload hx hb dX6_prepare_65 (lv_at hl 5 rfl) ?_
                  refine lv_iconst (v := 1) hx hb dX6_prepare_67 (by decide) ?_
                  refine lv_iload_n hx hb dX6_prepare_68 rfl (lv_at hl 3 rfl) ?_
                  refine lv_ishl hx hb dX6_prepare_69 ?_
                  refine lv_ixor hx hb dX6_prepare_70 ?_
                  obtain ⟨r_71, hc_71, h⟩ := ob1_e h
                  refine k_si (va_runV (As := [.int v3_7, .int (v4_44 ^^^ ((1 : Int32) <<< (v2 &&& (31 : Int32))))]) (rest := [.long (1 : Int64)]) ⟨hx, hb, hml, hown, hts⟩ (c_X0_after l G (f_h k0) (f_q k0) (f_next k0) (f_says k0) (f_size k0)  v3_7 (v4_44 ^^^ ((1 : Int32) <<< (v2 &&& (31 : Int32)))) r_71 hc_71) (cwV 2 hts gX6_prepare_X0_after rfl rfl rfl ⟨rfl, eX0_after⟩ ⟨Nat.le_of_ble_eq_true rfl, Nat.le_of_ble_eq_true rfl⟩) (preSV (ci := 0) (q0 := 0) hK (famC (hP.sub (ws' := WF G f_h f_q f_next f_says f_size) [2, 3, 4, 5, 6, 7, 8, 9, 10, 11, 12, 13, 14, 15, 16, 17, 18, 19, 20, 21, 22] rfl) k0 hk0) rfl rfl) rfl rfl hl.1 rfl (lv_room (Nat.le_of_ble_eq_true rfl)) dX6_prepare_71 ⟨Nat.le_of_ble_eq_true rfl, Nat.le_of_ble_eq_true rfl⟩) ?_
                  refine lv_lshl (v := ((1 : Int64) <<< (r_71.toInt64 &&& (63 : Int64)))) hx hb dX6_prepare_74 rfl ?_
                  refine lv_lstore (lv' := [(7, .long ((1 : Int64) <<< (r_71.toInt64 &&& (63 : Int64)))), (5, .long ((1 : Int64) <<< (r_56.toInt64 &&& (63 : Int64)))), (0, .ref e_h), (1, .ref (f_h k0)), (2, .int v2), (3, .int v3_7), (4, .int v4_44)]) hx hb dX6_prepare_75 hl (by decide) rfl (fun ls hl => ?_)
                  refine lv_aload_n hx hb dX6_prepare_77 rfl (lv_at hl 2 rfl) ?_
                  refine va_get (D := G.1) (ci := 6) (v := .ref (e_q 0)) (C := RX6) (T := TX6) (N := 4) hx hb hts hinX6 hown hK.1 hP 0 rfl rfl 2 (by decide) hf18 (fun _ h9 => h9) rfl dX6_prepare_78 ?_
                  refine lv_iload_n hx hb dX6_prepare_81 rfl (lv_at hl 5 rfl) ?_
                  refine lv_bipush (v := 8) hx hb dX6_prepare_82 (by decide) ?_
                  refine lv_imul hx hb dX6_prepare_84 ?_
                  refine lv_iload hx hb dX6_prepare_85 (lv_at hl 6 rfl) ?_
                  refine lv_iadd hx hb dX6_prepare_87 ?_
                  refine lv_lload hx hb dX6_prepare_88 (lv_at hl 1 rfl) ?_
                  refine lv_lload hx hb dX6_prepare_90 (lv_at hl 0 rfl) ?_
                  refine lv_lor hx hb dX6_prepare_92 ?_
                  obtain ⟨g_93, h⟩ := gi_e h
                  refine va_last hx hb hK.1 hP hD hS 1 2 rfl rfl g_93 dX6_prepare_93 (fun H locs hP hD hS => ?_)
                  have hP : va_P G.1 vwCl ((WE G e_h e_hd e_hs e_q (vp_updL e_steps_44 ((v3_7 * (8 : Int32)) + v4_44).toNatClampNeg (((1 : Int64) <<< (r_56.toInt64 &&& (63 : Int64))) ||| ((1 : Int64) <<< (r_71.toInt64 &&& (63 : Int64))))) e_yes_j26) ++ (WF G f_h f_q f_next f_says f_size)) H := hP
                  have hD : va_D A ((WE G e_h e_hd e_hs e_q (vp_updL e_steps_44 ((v3_7 * (8 : Int32)) + v4_44).toNatClampNeg (((1 : Int64) <<< (r_56.toInt64 &&& (63 : Int64))) ||| ((1 : Int64) <<< (r_71.toInt64 &&& (63 : Int64))))) e_yes_j26) ++ (WF G f_h f_q f_next f_says f_size)) := hD
                  refine lv_iinc (v := (v4_44 + (1 : Int32))) (lv' := [(4, .int (v4_44 + (1 : Int32))), (7, .long ((1 : Int64) <<< (r_71.toInt64 &&& (63 : Int64)))), (5, .long ((1 : Int64) <<< (r_56.toInt64 &&& (63 : Int64)))), (0, .ref e_h), (1, .ref (f_h k0)), (2, .int v2), (3, .int v3_7)]) hx hb dX6_prepare_94 hl (k := 6) rfl rfl (by decide) rfl (fun ls hl => ?_)
                  refine lv_goto (tgt := 44) hx hb dX6_prepare_97 (by decide) ?_
                  exact ih _ _  _ _ _ h hP hD hS (lv_sub hl [3, 4, 5, 6, 0] rfl)
            exact hL44 n _ _  _ _ _ hT44 hP hD hS (lv_sub hl [1, 2, 3, 4, 0] rfl)
          replace h := hT26
          refine lv_if_eq (tgt := 41) hx hb dX6_prepare_26 (by decide) (fun c_26 => ?_) (fun c_26 => ?_)
          · replace h := (if_pos c_26).symm.trans h
            exact hJ26 _  _ _ _ h hP hD hS (lv_sub hl [0, 1, 2, 3] rfl)
          · replace h := (if_neg c_26).symm.trans h
            refine lv_aload_n hx hb dX6_prepare_29 rfl (lv_at hl 0 rfl) ?_
            refine lv_dup hx hb dX6_prepare_30 rfl ?_
            refine va_get (D := G.1) (ci := 6) (v := .long e_yes_7) (C := RX6) (T := TX6) (N := 4) hx hb hts hinX6 hown hK.1 hP 0 rfl rfl 3 (by decide) hf22 (fun _ h9 => h9) rfl dX6_prepare_31 ?_
            refine lv_lconst (v := 1) hx hb dX6_prepare_34 (by decide) ?_
            refine lv_iload_n hx hb dX6_prepare_35 rfl (lv_at hl 3 rfl) ?_
            refine lv_lshl (v := ((1 : Int64) <<< (v3_7.toInt64 &&& (63 : Int64)))) hx hb dX6_prepare_36 rfl ?_
            refine lv_lor hx hb dX6_prepare_37 ?_
            refine va_put (D := G.1) (ci := 6) (v := .long (e_yes_7 ||| ((1 : Int64) <<< (v3_7.toInt64 &&& (63 : Int64))))) (ty := .long) (C := RX6) (T := TX6) (N := 4) hx hb hts hinX6 tyX6 tyX6_ok nmX6 hown hK.1 hP hD hS 0 rfl rfl 3 (by decide) hf22 (fun _ h9 => h9) rfl (by decide +kernel) rfl rfl (Nat.le_of_ble_eq_true rfl) dX6_prepare_38 (fun H locs hP hD hS => ?_)
            have hP : va_P G.1 vwCl ((WE G e_h e_hd e_hs e_q e_steps_7 (e_yes_7 ||| ((1 : Int64) <<< (v3_7.toInt64 &&& (63 : Int64))))) ++ (WF G f_h f_q f_next f_says f_size)) H := hP
            have hD : va_D A ((WE G e_h e_hd e_hs e_q e_steps_7 (e_yes_7 ||| ((1 : Int64) <<< (v3_7.toInt64 &&& (63 : Int64))))) ++ (WF G f_h f_q f_next f_says f_size)) := hD
            exact hJ26 _  _ _ _ h hP hD hS (lv_sub hl [0, 1, 2, 3] rfl)
  exact hL7 n _ _ _  _ _ _ hT7 hP hD hS (lv_sub hl [1, 2, 3, 0] rfl)
abbrev rX6_afterSet : Room := { frames := 1, cells := 0, slots := 0, locals := 20 }
set_option maxHeartbeats 4000000 in
set_option maxRecDepth 100000 in
theorem c_X6_afterSet (l : Launch) (G : GG) (n : Nat) (e_h : Nat) (e_hd : Nat) (e_hs : Nat) (e_q : Nat → Nat) (e_steps : AL) (e_yes : Int64)  (v1 : Int64) (v3 : Int32) (v4 : Int32) (r : Int64) (h : p_X6_afterSet n e_steps v1 v3 v4 = some r) : SL l yX6_afterSet wsX6_afterSet rX6_afterSet G [.ref e_h, .long v1, .int v3, .int v4] (WE G e_h e_hd e_hs e_q e_steps e_yes) r := by
  refine enterSL (cc := cX6_afterSet) (maxL := 8) (by decide) rfl (Nat.le_of_ble_eq_true rfl) ?_
  intro p e s m args below meth c Q hx hb hml hown hts hK hP hret ls hl
  have hown : s.vm.findClass RX6 = some m.cls := hown
  have hf18 := hts (.fieldLink RX6 18 "DigitClaims$SaidClaims" "steps" "[J") (by decide +kernel)
  have hinX6 : ∀ w ∈ wsX60, w ∈ wsX6_afterSet := by decide +kernel
  have hl : lv_has ls 8 [(0, .ref e_h), (1, .long v1), (3, .int v3), (4, .int v4)] := hl
  unfold p_X6_afterSet at h
  refine lv_lconst (v := 0) hx hb dX6_afterSet_0 (by decide) ?_
  refine lv_lstore (lv' := [(5, .long (0 : Int64)), (0, .ref e_h), (1, .long v1), (3, .int v3), (4, .int v4)]) hx hb dX6_afterSet_1 hl (by decide) rfl (fun ls hl => ?_)
  refine lv_iconst (v := 0) hx hb dX6_afterSet_3 (by decide) ?_
  refine lv_istore (lv' := [(7, .int (0 : Int32)), (5, .long (0 : Int64)), (0, .ref e_h), (1, .long v1), (3, .int v3), (4, .int v4)]) hx hb dX6_afterSet_4 hl (by decide) rfl (fun ls hl => ?_)
  obtain ⟨o5_6, hT6, h⟩ := ob1_e h
  have hX6 : ∀ (x5_6 : Int64)  (ls : Array Slot), some x5_6 = some o5_6 → lv_has ls 8 [(5, .long x5_6)] → W p l e rX6_afterSet s m args below meth c s.heap [] 0 0 Q (F0 m 62 ls []) := by
    intro x5_6 ls hq hl
    obtain rfl := oi1 hq
    refine lv_lload hx hb dX6_afterSet_62 (lv_at hl 0 rfl) ?_
    obtain rfl := oi1 h
    exact hret _ _ _ dX6_afterSet_64 rfl
  have hL6 : ∀ (f : Nat) (v5_6 : Int64) (v7_6 : Int32)  (ls : Array Slot), p_X6_afterSet_L6 v3 v1 v4 e_steps f v5_6 v7_6 = some o5_6 → lv_has ls 8 [(0, .ref e_h), (1, .long v1), (3, .int v3), (4, .int v4), (5, .long v5_6), (7, .int v7_6)] → W p l e rX6_afterSet s m args below meth c s.heap [] 0 0 Q (F0 m 6 ls []) := by
    intro f
    induction f with
    | zero => intro v5_6 v7_6 ls h hl; cases (show none = some _ from h)
    | succ f ih =>
      intro v5_6 v7_6 ls h hl
      rw [p_X6_afterSet_L6] at h
      refine lv_iload hx hb dX6_afterSet_6 (lv_at hl 5 rfl) ?_
      refine lv_iload_n hx hb dX6_afterSet_8 rfl (lv_at hl 2 rfl) ?_
      refine lv_icmp_ge (tgt := 62) hx hb dX6_afterSet_9 (by decide) (fun c_9 => ?_) (fun c_9 => ?_)
      · replace h := (if_pos c_9).symm.trans h
        exact hX6 _  _ h (lv_sub hl [4] rfl)
      · replace h := (if_neg c_9).symm.trans h
        refine lv_iload hx hb dX6_afterSet_12 (lv_at hl 5 rfl) ?_
        refine lv_bipush (v := 60) hx hb dX6_afterSet_14 (by decide) ?_
        refine lv_icmp_ge (tgt := 62) hx hb dX6_afterSet_16 (by decide) (fun c_16 => ?_) (fun c_16 => ?_)
        · replace h := (if_pos c_16).symm.trans h
          exact hX6 _  _ h (lv_sub hl [4] rfl)
        · replace h := (if_neg c_16).symm.trans h
          refine lv_lload_n hx hb dX6_afterSet_19 rfl (lv_at hl 1 rfl) ?_
          refine lv_iload hx hb dX6_afterSet_20 (lv_at hl 5 rfl) ?_
          refine lv_lshr (v := (v1 >>> (v7_6.toInt64 &&& (63 : Int64)))) hx hb dX6_afterSet_22 rfl ?_
          refine lv_lconst (v := 1) hx hb dX6_afterSet_23 (by decide) ?_
          refine lv_land hx hb dX6_afterSet_24 ?_
          refine lv_lconst (v := 0) hx hb dX6_afterSet_25 (by decide) ?_
          refine W.lcmp hx hb dX6_afterSet_26 ?_
          obtain ⟨v5_j27, hT27, h⟩ := ob1_e h
          have hJ27 : ∀ (v5_j27x : Int64)  (ls : Array Slot), some v5_j27x = some v5_j27 → lv_has ls 8 [(0, .ref e_h), (1, .long v1), (3, .int v3), (4, .int v4), (5, .long v5_j27x), (7, .int v7_6)] → W p l e rX6_afterSet s m args below meth c s.heap [] 0 0 Q (F0 m 56 ls []) := by
            intro v5_j27x ls hq hl
            obtain rfl := oi1 hq
            refine lv_iinc (v := (v7_6 + (1 : Int32))) (lv' := [(7, .int (v7_6 + (1 : Int32))), (0, .ref e_h), (1, .long v1), (3, .int v3), (4, .int v4), (5, .long v5_j27)]) hx hb dX6_afterSet_56 hl (k := 5) rfl rfl (by decide) rfl (fun ls hl => ?_)
            refine lv_goto (tgt := 6) hx hb dX6_afterSet_59 (by decide) ?_
            exact ih _ _  _ h (lv_sub hl [1, 2, 3, 4, 5, 0] rfl)
          replace h := hT27
          refine lv_if_eq (tgt := 56) hx hb dX6_afterSet_27 (by decide) (fun c_27 => ?_) (fun c_27 => ?_)
          · replace h := (if_pos c_27).symm.trans h
            exact hJ27 _  _ h (lv_sub hl [0, 1, 2, 3, 4, 5] rfl)
          · replace h := (if_neg c_27).symm.trans h
            refine lv_iload hx hb dX6_afterSet_30 (lv_at hl 3 rfl) ?_
            obtain ⟨r_32, hc_32, h⟩ := ob1_e h
            refine k_si (va_runSN (As := [.int v4]) (rest := []) ⟨hx, hb, hml, hown, hts⟩ (c_X9_isColumn l G    v4 r_32 hc_32) ⟨va_cnB 1 hts gX6_afterSet_X9_isColumn_n89 rfl rfl rfl (hK.2 _ (List.mem_of_getElem? (i := 10) rfl)) (hts (.initialized RX9) (by decide +kernel)) eX9_isColumn ⟨Nat.le_of_ble_eq_true rfl, Nat.le_of_ble_eq_true rfl⟩, hts (.static yX9_isColumn) (by decide +kernel), trivial⟩ (preSS hK (fun k q h => by cases h)) rfl rfl hl.1 rfl (lv_room (Nat.le_of_ble_eq_true rfl)) dX6_afterSet_32 ⟨Nat.le_of_ble_eq_true rfl, Nat.le_of_ble_eq_true rfl⟩) ?_
            refine lv_if_eq (tgt := 56) hx hb dX6_afterSet_35 (by decide) (fun c_35 => ?_) (fun c_35 => ?_)
            · replace h := (if_pos c_35).symm.trans h
              exact hJ27 _  _ h (lv_sub hl [0, 1, 2, 3, 4, 5] rfl)
            · replace h := (if_neg c_35).symm.trans h
              refine lv_lload hx hb dX6_afterSet_38 (lv_at hl 4 rfl) ?_
              refine lv_aload_n hx hb dX6_afterSet_40 rfl (lv_at hl 0 rfl) ?_
              refine va_get (D := G.1) (ci := 6) (v := .ref (e_q 0)) (C := RX6) (T := TX6) (N := 4) hx hb hts hinX6 hown hK.1 hP 0 rfl rfl 2 (by decide) hf18 (fun _ h9 => h9) rfl dX6_afterSet_41 ?_
              refine lv_iload hx hb dX6_afterSet_44 (lv_at hl 5 rfl) ?_
              refine lv_bipush (v := 8) hx hb dX6_afterSet_46 (by decide) ?_
              refine lv_imul hx hb dX6_afterSet_48 ?_
              refine lv_iload hx hb dX6_afterSet_49 (lv_at hl 3 rfl) ?_
              refine lv_iadd hx hb dX6_afterSet_51 ?_
              obtain ⟨g_52, h⟩ := gi_e h
              refine va_lald hx hb hK.1 hP 1 2 rfl rfl g_52 dX6_afterSet_52 ?_
              refine lv_lor hx hb dX6_afterSet_53 ?_
              refine lv_lstore (lv' := [(5, .long (v5_6 ||| (e_steps ((v7_6 * (8 : Int32)) + v4).toNatClampNeg))), (0, .ref e_h), (1, .long v1), (3, .int v3), (4, .int v4), (7, .int v7_6)]) hx hb dX6_afterSet_54 hl (by decide) rfl (fun ls hl => ?_)
              exact hJ27 _  _ h (lv_sub hl [1, 2, 3, 4, 0, 5] rfl)
  exact hL6 n _ _  _ hT6 (lv_sub hl [2, 3, 4, 5, 1, 0] rfl)
abbrev rX6_firstSet : Room := { frames := 2, cells := 0, slots := 0, locals := 47 }
set_option maxHeartbeats 4000000 in
set_option maxRecDepth 100000 in
theorem c_X6_firstSet (l : Launch) (G : GG) (n : Nat) (e_h : Nat) (e_hd : Nat) (e_hs : Nat) (e_q : Nat → Nat) (e_steps : AL) (e_yes : Int64)  (v1 : Int32) (r : Int64) (h : p_X6_firstSet n e_steps v1 = some r) : SL l yX6_firstSet wsX6_firstSet rX6_firstSet G [.ref e_h, .int v1] (WE G e_h e_hd e_hs e_q e_steps e_yes) r := by
  refine enterSL (cc := cX6_firstSet) (maxL := 7) (by decide) rfl (Nat.le_of_ble_eq_true rfl) ?_
  intro p e s m args below meth c Q hx hb hml hown hts hK hP hret ls hl
  have hown : s.vm.findClass RX6 = some m.cls := hown
  have hl : lv_has ls 7 [(0, .ref e_h), (1, .int v1)] := hl
  unfold p_X6_firstSet at h
  refine lv_lconst (v := 1) hx hb dX6_firstSet_0 (by decide) ?_
  refine lv_lstore_n (lv' := [(2, .long (1 : Int64)), (0, .ref e_h), (1, .int v1)]) hx hb dX6_firstSet_1 rfl hl (by decide) rfl (fun ls hl => ?_)
  refine lv_iconst (v := 0) hx hb dX6_firstSet_2 (by decide) ?_
  refine lv_istore (lv' := [(4, .int (0 : Int32)), (2, .long (1 : Int64)), (0, .ref e_h), (1, .int v1)]) hx hb dX6_firstSet_3 hl (by decide) rfl (fun ls hl => ?_)
  obtain ⟨o_5, hT5, hd5⟩ := obS1_e h
  have hX5 : ∀ (x2_5 : Int64)  (ls : Array Slot), some (Sum.inr x2_5) = some o_5 → lv_has ls 7 [(2, .long x2_5)] → W p l e rX6_firstSet s m args below meth c s.heap [] 0 0 Q (F0 m 42 ls []) := by
    intro x2_5 ls hq hl
    rcases hd5 with ⟨x, hx1, h⟩ | ⟨o2_5, hx1, h⟩
    · rw [hx1] at hq; cases hq
    rw [hx1] at hq
    obtain rfl := oiS1 hq
    refine lv_lload_n hx hb dX6_firstSet_42 rfl (lv_at hl 0 rfl) ?_
    obtain rfl := oi1 h
    exact hret _ _ _ dX6_firstSet_43 rfl
  have hL5 : ∀ (f : Nat) (v2_5 : Int64) (v4_5 : Int32)  (ls : Array Slot), p_X6_firstSet_L5 n e_steps v1 f v2_5 v4_5 = some o_5 → lv_has ls 7 [(0, .ref e_h), (1, .int v1), (2, .long v2_5), (4, .int v4_5)] → W p l e rX6_firstSet s m args below meth c s.heap [] 0 0 Q (F0 m 5 ls []) := by
    intro f
    induction f with
    | zero => intro v2_5 v4_5 ls h hl; cases (show none = some _ from h)
    | succ f ih =>
      intro v2_5 v4_5 ls h hl
      rw [p_X6_firstSet_L5] at h
      refine lv_iload hx hb dX6_firstSet_5 (lv_at hl 3 rfl) ?_
      refine lv_bipush (v := 60) hx hb dX6_firstSet_7 (by decide) ?_
      refine lv_icmp_ge (tgt := 42) hx hb dX6_firstSet_9 (by decide) (fun c_9 => ?_) (fun c_9 => ?_)
      · replace h := (if_pos c_9).symm.trans h
        exact hX5 _  _ h (lv_sub hl [2] rfl)
      · replace h := (if_neg c_9).symm.trans h
        refine lv_lload_n hx hb dX6_firstSet_12 rfl (lv_at hl 2 rfl) ?_
        refine lv_aload_n hx hb dX6_firstSet_13 rfl (lv_at hl 0 rfl) ?_
        refine lv_lload_n hx hb dX6_firstSet_14 rfl (lv_at hl 2 rfl) ?_
        refine lv_iload_n hx hb dX6_firstSet_15 rfl (lv_at hl 1 rfl) ?_
        refine lv_iconst (v := 0) hx hb dX6_firstSet_16 (by decide) ?_
        obtain ⟨r_17, hc_17, h⟩ := ob1_e h
        refine k_sl (va_runV (As := [.long v2_5, .int v1, .int (0 : Int32)]) (rest := [.long v2_5]) ⟨hx, hb, hml, hown, hts⟩ (c_X6_afterSet l G n e_h e_hd e_hs e_q e_steps e_yes  v2_5 v1 (0 : Int32) r_17 hc_17) (cwV 3 hts gX6_firstSet_X6_afterSet rfl rfl rfl ⟨rfl, eX6_afterSet⟩ ⟨Nat.le_of_ble_eq_true rfl, Nat.le_of_ble_eq_true rfl⟩) (preSV (ci := 6) (q0 := 0) hK hP rfl rfl) rfl rfl hl.1 rfl (lv_room (Nat.le_of_ble_eq_true rfl)) dX6_firstSet_17 ⟨Nat.le_of_ble_eq_true rfl, Nat.le_of_ble_eq_true rfl⟩) ?_
        refine lv_lor hx hb dX6_firstSet_20 ?_
        refine lv_lstore (lv' := [(5, .long (v2_5 ||| r_17)), (0, .ref e_h), (1, .int v1), (2, .long v2_5), (4, .int v4_5)]) hx hb dX6_firstSet_21 hl (by decide) rfl (fun ls hl => ?_)
        refine lv_lload hx hb dX6_firstSet_23 (lv_at hl 0 rfl) ?_
        refine lv_lload_n hx hb dX6_firstSet_25 rfl (lv_at hl 3 rfl) ?_
        refine W.lcmp hx hb dX6_firstSet_26 ?_
        refine lv_if_ne (tgt := 33) hx hb dX6_firstSet_27 (by decide) (fun c_27 => ?_) (fun c_27 => ?_)
        · replace h := (if_neg c_27).symm.trans h
          refine lv_lload hx hb dX6_firstSet_33 (lv_at hl 0 rfl) ?_
          refine lv_lstore_n (lv' := [(2, .long (v2_5 ||| r_17)), (5, .long (v2_5 ||| r_17)), (0, .ref e_h), (1, .int v1), (4, .int v4_5)]) hx hb dX6_firstSet_35 rfl hl (by decide) rfl (fun ls hl => ?_)
          refine lv_iinc (v := (v4_5 + (1 : Int32))) (lv' := [(4, .int (v4_5 + (1 : Int32))), (2, .long (v2_5 ||| r_17)), (5, .long (v2_5 ||| r_17)), (0, .ref e_h), (1, .int v1)]) hx hb dX6_firstSet_36 hl (k := 4) rfl rfl (by decide) rfl (fun ls hl => ?_)
          refine lv_goto (tgt := 5) hx hb dX6_firstSet_39 (by decide) ?_
          exact ih _ _  _ h (lv_sub hl [3, 4, 1, 0] rfl)
        · replace h := (if_pos c_27).symm.trans h
          refine lv_goto (tgt := 42) hx hb dX6_firstSet_30 (by decide) ?_
          exact hX5 _  _ h (lv_sub hl [3] rfl)
  exact hL5 n _ _  _ hT5 (lv_sub hl [2, 3, 1, 0] rfl)
abbrev rX6_stateFor : Room := { frames := 2, cells := 0, slots := 0, locals := 47 }
set_option maxHeartbeats 4000000 in
set_option maxRecDepth 100000 in
theorem c_X6_stateFor (l : Launch) (G : GG) (n : Nat) (e_h : Nat) (e_hd : Nat) (e_hs : Nat) (e_q : Nat → Nat) (s_q : Nat → Nat) (d_hp : Nat) (d_q : Nat → Nat) (d_a : Nat → Nat) (e_steps : AL) (e_yes : Int64) (s_sets : AL) (s_slots : AI) (s_count : Int32) (d_rm : Nat) (d_stateOf : AI) (d_kindOf : AI) (d_order : AI) (d_rooms : Int32) (d_count : Int32) (d_next : AI) (d_says : AI) (d_note : AI) (d_sort : AI) (d_freshSort : AI)  (v1 : Int64) (sz : Nat) (r : Int32) (s_sets_z : AL) (s_slots_z : AI) (s_count_z : Int32) (d_count_z : Int32) (h : p_X6_stateFor n s_sets s_slots s_count d_rooms d_count v1 = some (r, s_sets_z, s_slots_z, s_count_z, d_count_z)) : CI l yX6_stateFor wsX6_stateFor rX6_stateFor G [.ref e_h, .long v1] ((WE G e_h e_hd e_hs e_q e_steps e_yes) ++ (WS G e_hs s_q s_sets s_slots s_count) ++ (WD G e_hd d_hp d_q d_a d_rm d_stateOf d_kindOf d_order d_rooms d_count d_next d_says d_note d_sort d_freshSort)) sz r (fun u => (WE G e_h e_hd e_hs e_q e_steps e_yes) ++ (WS G e_hs s_q s_sets_z s_slots_z s_count_z) ++ (WD G e_hd d_hp d_q d_a d_rm d_stateOf d_kindOf d_order d_rooms d_count_z d_next d_says d_note d_sort d_freshSort)) := by
  refine enterCI (cc := cX6_stateFor) (maxL := 4) (by decide) rfl (Nat.le_of_ble_eq_true rfl) ?_
  intro p e s m args below meth c A Q hx hb hml hown hts hK hP hD hS hA hret ls hl
  have hown : s.vm.findClass RX6 = some m.cls := hown
  have hf12 := hts (.fieldLink RX6 12 "DigitClaims$SaidClaims" "sets" "LDigitClaims$SetNumbers;") (by decide +kernel)
  have hf26 := hts (.fieldLink RX6 26 "DigitClaims$SaidClaims" "draft" "LDigitClaims$Draft;") (by decide +kernel)
  have hinX6 : ∀ w ∈ wsX60, w ∈ wsX6_stateFor := by decide +kernel
  have hl : lv_has ls 4 [(0, .ref e_h), (1, .long v1)] := hl
  unfold p_X6_stateFor at h
  refine lv_aload_n hx hb dX6_stateFor_0 rfl (lv_at hl 0 rfl) ?_
  refine va_get (D := G.1) (ci := 6) (v := .ref e_hs) (C := RX6) (T := TX6) (N := 4) hx hb hts hinX6 hown hK.1 hP 0 rfl rfl 1 (by decide) hf12 (fun _ h9 => h9) rfl dX6_stateFor_1 ?_
  refine lv_lload_n hx hb dX6_stateFor_4 rfl (lv_at hl 1 rfl) ?_
  obtain ⟨r_5, s_sets_5, s_slots_5, s_count_5, hc_5, h⟩ := ob4_e h
  refine k_ci (wr := (WE G e_h e_hd e_hs e_q e_steps e_yes) ++ (WD G e_hd d_hp d_q d_a d_rm d_stateOf d_kindOf d_order d_rooms d_count d_next d_says d_note d_sort d_freshSort)) (va_runV (As := [.long v1]) (rest := []) ⟨hx, hb, hml, hown, hts⟩ (c_X7_numberOf l G n e_hs s_q s_sets s_slots s_count  v1 _ r_5 s_sets_5 s_slots_5 s_count_5 hc_5) (cwV 1 hts gX6_stateFor_X7_numberOf rfl rfl rfl ⟨rfl, eX7_numberOf⟩ ⟨Nat.le_of_ble_eq_true rfl, Nat.le_of_ble_eq_true rfl⟩) (preWV (ci := 7) (q0 := 0) hK (hP.sub (ws' := WS G e_hs s_q s_sets s_slots s_count) [2, 3, 4] rfl) (hD.sub (ws' := WS G e_hs s_q s_sets s_slots s_count) [2, 3, 4] (by decide) rfl) rfl rfl) rfl rfl hl.1 rfl (lv_room (Nat.le_of_ble_eq_true rfl)) dX6_stateFor_5 ⟨Nat.le_of_ble_eq_true rfl, Nat.le_of_ble_eq_true rfl⟩) hP hD hS hA [2, 3, 4] [0, 1, 5, 6, 7, 8, 9, 10, 11, 12, 13] rfl rfl (by decide) (by decide) (fun u_5 H locs hP hD hS => ?_)
  have hP := hP.sub (ws' := (WE G e_h e_hd e_hs e_q e_steps e_yes) ++ (WS G e_hs s_q s_sets_5 s_slots_5 s_count_5) ++ (WD G e_hd d_hp d_q d_a d_rm d_stateOf d_kindOf d_order d_rooms d_count d_next d_says d_note d_sort d_freshSort)) [0, 1, 11, 12, 13, 2, 3, 4, 5, 6, 7, 8, 9, 10] rfl
  have hD := hD.sub (ws' := (WE G e_h e_hd e_hs e_q e_steps e_yes) ++ (WS G e_hs s_q s_sets_5 s_slots_5 s_count_5) ++ (WD G e_hd d_hp d_q d_a d_rm d_stateOf d_kindOf d_order d_rooms d_count d_next d_says d_note d_sort d_freshSort)) [0, 1, 11, 12, 13, 2, 3, 4, 5, 6, 7, 8, 9, 10] (by decide) rfl
  refine lv_istore_n (lv' := [(3, .int r_5), (0, .ref e_h), (1, .long v1)]) hx hb dX6_stateFor_8 rfl hl (by decide) rfl (fun ls hl => ?_)
  refine lv_iload_n hx hb dX6_stateFor_9 rfl (lv_at hl 0 rfl) ?_
  refine lv_aload_n hx hb dX6_stateFor_10 rfl (lv_at hl 1 rfl) ?_
  refine va_get (D := G.1) (ci := 6) (v := .ref e_hd) (C := RX6) (T := TX6) (N := 4) hx hb hts hinX6 hown hK.1 hP 0 rfl rfl 0 (by decide) hf26 (fun _ h9 => h9) rfl dX6_stateFor_11 ?_
  obtain ⟨r_14, hc_14, h⟩ := ob1_e h
  refine k_si (va_runV (As := []) (rest := [.int r_5]) ⟨hx, hb, hml, hown, hts⟩ (c_X1_count l G e_hd d_hp d_q d_a d_rm d_stateOf d_kindOf d_order d_rooms d_count d_next d_says d_note d_sort d_freshSort   r_14 hc_14) (cwV 0 hts gX6_stateFor_X1_count rfl rfl rfl ⟨rfl, eX1_count⟩ ⟨Nat.le_of_ble_eq_true rfl, Nat.le_of_ble_eq_true rfl⟩) (preSV (ci := 1) (q0 := 0) hK (hP.sub (ws' := WD G e_hd d_hp d_q d_a d_rm d_stateOf d_kindOf d_order d_rooms d_count d_next d_says d_note d_sort d_freshSort) [5, 6, 7, 8, 9, 10, 11, 12, 13] rfl) rfl rfl) rfl rfl hl.1 rfl (lv_room (Nat.le_of_ble_eq_true rfl)) dX6_stateFor_14 ⟨Nat.le_of_ble_eq_true rfl, Nat.le_of_ble_eq_true rfl⟩) ?_
  obtain ⟨d_count_j17, hT17, h⟩ := ob1_e h
  have hJ17 : ∀ (d_count_j17x : Int32)  (H : Heap) (locs : List Loc) (ls : Array Slot), some d_count_j17x = some d_count_j17 → va_P G.1 vwCl ((WE G e_h e_hd e_hs e_q e_steps e_yes) ++ (WS G e_hs s_q s_sets_5 s_slots_5 s_count_5) ++ (WD G e_hd d_hp d_q d_a d_rm d_stateOf d_kindOf d_order d_rooms d_count_j17x d_next d_says d_note d_sort d_freshSort)) H → va_D A ((WE G e_h e_hd e_hs e_q e_steps e_yes) ++ (WS G e_hs s_q s_sets_5 s_slots_5 s_count_5) ++ (WD G e_hd d_hp d_q d_a d_rm d_stateOf d_kindOf d_order d_rooms d_count_j17x d_next d_says d_note d_sort d_freshSort)) → va_S A s.heap H locs → lv_has ls 4 [(3, .int r_5)] → W p l e rX6_stateFor s m args below meth c H locs 0 0 Q (F0 m 27 ls []) := by
    intro d_count_j17x H locs ls hq hP hD hS hl
    obtain rfl := oi1 hq
    refine lv_iload_n hx hb dX6_stateFor_27 rfl (lv_at hl 0 rfl) ?_
    obtain ⟨rfl, rfl, rfl, rfl, rfl⟩ := oi5 h
    exact hret (fun _ => 0) _ _ _ _ _ _ _ dX6_stateFor_28 rfl rfl hP hD hS (Nat.le_of_ble_eq_true rfl) (Nat.le_of_ble_eq_true rfl)
  replace h := hT17
  refine lv_icmp_ne (tgt := 27) hx hb dX6_stateFor_17 (by decide) (fun c_17 => ?_) (fun c_17 => ?_)
  · replace h := (if_neg c_17).symm.trans h
    exact hJ17 _  _ _ _ h hP hD hS (lv_sub hl [0] rfl)
  · replace h := (if_pos c_17).symm.trans h
    refine lv_aload_n hx hb dX6_stateFor_20 rfl (lv_at hl 1 rfl) ?_
    refine va_get (D := G.1) (ci := 6) (v := .ref e_hd) (C := RX6) (T := TX6) (N := 4) hx hb hts hinX6 hown hK.1 hP 0 rfl rfl 0 (by decide) hf26 (fun _ h9 => h9) rfl dX6_stateFor_21 ?_
    obtain ⟨d_count_24, hc_24, h⟩ := ob1_e h
    refine k_cv (wr := (WE G e_h e_hd e_hs e_q e_steps e_yes) ++ (WS G e_hs s_q s_sets_5 s_slots_5 s_count_5)) (va_runV (As := []) (rest := []) ⟨hx, hb, hml, hown, hts⟩ (c_X1_add l G e_hd d_hp d_q d_a d_rm d_stateOf d_kindOf d_order d_rooms d_count d_next d_says d_note d_sort d_freshSort   _ d_count_24 hc_24) (cwV 0 hts gX6_stateFor_X1_add rfl rfl rfl ⟨rfl, eX1_add⟩ ⟨Nat.le_of_ble_eq_true rfl, Nat.le_of_ble_eq_true rfl⟩) (preWV (ci := 1) (q0 := 0) hK (hP.sub (ws' := WD G e_hd d_hp d_q d_a d_rm d_stateOf d_kindOf d_order d_rooms d_count d_next d_says d_note d_sort d_freshSort) [5, 6, 7, 8, 9, 10, 11, 12, 13] rfl) (hD.sub (ws' := WD G e_hd d_hp d_q d_a d_rm d_stateOf d_kindOf d_order d_rooms d_count d_next d_says d_note d_sort d_freshSort) [5, 6, 7, 8, 9, 10, 11, 12, 13] (by decide) rfl) rfl rfl) rfl rfl hl.1 rfl (lv_room (Nat.le_of_ble_eq_true rfl)) dX6_stateFor_24 ⟨Nat.le_of_ble_eq_true rfl, Nat.le_of_ble_eq_true rfl⟩) hP hD hS hA [5, 6, 7, 8, 9, 10, 11, 12, 13] [0, 1, 2, 3, 4] rfl rfl (by decide) (by decide) (fun u_24 H locs hP hD hS => ?_)
    have hP := hP.sub (ws' := (WE G e_h e_hd e_hs e_q e_steps e_yes) ++ (WS G e_hs s_q s_sets_5 s_slots_5 s_count_5) ++ (WD G e_hd d_hp d_q d_a d_rm d_stateOf d_kindOf d_order d_rooms d_count_24 d_next d_says d_note d_sort d_freshSort)) [0, 1, 2, 3, 4, 5, 6, 7, 8, 9, 10, 11, 12, 13] rfl
    have hD := hD.sub (ws' := (WE G e_h e_hd e_hs e_q e_steps e_yes) ++ (WS G e_hs s_q s_sets_5 s_slots_5 s_count_5) ++ (WD G e_hd d_hp d_q d_a d_rm d_stateOf d_kindOf d_order d_rooms d_count_24 d_next d_says d_note d_sort d_freshSort)) [0, 1, 2, 3, 4, 5, 6, 7, 8, 9, 10, 11, 12, 13] (by decide) rfl
    exact hJ17 _  _ _ _ h hP hD hS (lv_sub hl [0] rfl)
abbrev rX6_stepOn : Room := { frames := 3, cells := 0, slots := 0, locals := 70 }
set_option maxHeartbeats 4000000 in
set_option maxRecDepth 100000 in
theorem c_X6_stepOn (l : Launch) (G : GG) (n : Nat) (e_h : Nat) (e_hd : Nat) (e_hs : Nat) (e_q : Nat → Nat) (s_q : Nat → Nat) (d_hp : Nat) (d_q : Nat → Nat) (d_a : Nat → Nat) (e_steps : AL) (e_yes : Int64) (s_sets : AL) (s_slots : AI) (s_count : Int32) (d_rm : Nat) (d_stateOf : AI) (d_kindOf : AI) (d_order : AI) (d_rooms : Int32) (d_count : Int32) (d_next : AI) (d_says : AI) (d_note : AI) (d_sort : AI) (d_freshSort : AI)  (v1 : Int32) (v2 : Int32) (v3 : Int32) (sz : Nat) (r : Int32) (s_sets_z : AL) (s_slots_z : AI) (s_count_z : Int32) (d_count_z : Int32) (d_next_z : AI) (h : p_X6_stepOn n e_steps s_sets s_slots s_count d_rm d_rooms d_count d_next v1 v2 v3 = some (r, s_sets_z, s_slots_z, s_count_z, d_count_z, d_next_z)) : CI l yX6_stepOn wsX6_stepOn rX6_stepOn G [.ref e_h, .int v1, .int v2, .int v3] ((WE G e_h e_hd e_hs e_q e_steps e_yes) ++ (WS G e_hs s_q s_sets s_slots s_count) ++ (WD G e_hd d_hp d_q d_a d_rm d_stateOf d_kindOf d_order d_rooms d_count d_next d_says d_note d_sort d_freshSort)) sz r (fun u => (WE G e_h e_hd e_hs e_q e_steps e_yes) ++ (WS G e_hs s_q s_sets_z s_slots_z s_count_z) ++ (WD G e_hd d_hp d_q d_a d_rm d_stateOf d_kindOf d_order d_rooms d_count_z d_next_z d_says d_note d_sort d_freshSort)) := by
  refine enterCI (cc := cX6_stepOn) (maxL := 8) (by decide) rfl (Nat.le_of_ble_eq_true rfl) ?_
  intro p e s m args below meth c A Q hx hb hml hown hts hK hP hD hS hA hret ls hl
  have hown : s.vm.findClass RX6 = some m.cls := hown
  have hf12 := hts (.fieldLink RX6 12 "DigitClaims$SaidClaims" "sets" "LDigitClaims$SetNumbers;") (by decide +kernel)
  have hf26 := hts (.fieldLink RX6 26 "DigitClaims$SaidClaims" "draft" "LDigitClaims$Draft;") (by decide +kernel)
  have hinX6 : ∀ w ∈ wsX60, w ∈ wsX6_stepOn := by decide +kernel
  have hl : lv_has ls 8 [(0, .ref e_h), (1, .int v1), (2, .int v2), (3, .int v3)] := hl
  unfold p_X6_stepOn at h
  refine lv_aload_n hx hb dX6_stepOn_0 rfl (lv_at hl 0 rfl) ?_
  refine va_get (D := G.1) (ci := 6) (v := .ref e_hs) (C := RX6) (T := TX6) (N := 4) hx hb hts hinX6 hown hK.1 hP 0 rfl rfl 1 (by decide) hf12 (fun _ h9 => h9) rfl dX6_stepOn_1 ?_
  refine lv_iload_n hx hb dX6_stepOn_4 rfl (lv_at hl 1 rfl) ?_
  obtain ⟨r_5, hc_5, h⟩ := ob1_e h
  refine k_sl (va_runV (As := [.int v1]) (rest := []) ⟨hx, hb, hml, hown, hts⟩ (c_X7_setOf l G e_hs s_q s_sets s_slots s_count  v1 r_5 hc_5) (cwV 1 hts gX6_stepOn_X7_setOf rfl rfl rfl ⟨rfl, eX7_setOf⟩ ⟨Nat.le_of_ble_eq_true rfl, Nat.le_of_ble_eq_true rfl⟩) (preSV (ci := 7) (q0 := 0) hK (hP.sub (ws' := WS G e_hs s_q s_sets s_slots s_count) [2, 3, 4] rfl) rfl rfl) rfl rfl hl.1 rfl (lv_room (Nat.le_of_ble_eq_true rfl)) dX6_stepOn_5 ⟨Nat.le_of_ble_eq_true rfl, Nat.le_of_ble_eq_true rfl⟩) ?_
  refine lv_lstore (lv' := [(4, .long r_5), (0, .ref e_h), (1, .int v1), (2, .int v2), (3, .int v3)]) hx hb dX6_stepOn_8 hl (by decide) rfl (fun ls hl => ?_)
  refine lv_iconst (v := 0) hx hb dX6_stepOn_10 (by decide) ?_
  refine lv_istore (lv' := [(6, .int (0 : Int32)), (4, .long r_5), (0, .ref e_h), (1, .int v1), (2, .int v2), (3, .int v3)]) hx hb dX6_stepOn_11 hl (by decide) rfl (fun ls hl => ?_)
  obtain ⟨o_13, hT13, hd13⟩ := obS5_e h
  have hX13 : ∀ (s_sets_o13x : AL) (s_slots_o13x : AI) (s_count_o13x : Int32) (d_count_o13x : Int32) (d_next_o13x : AI)  (H : Heap) (locs : List Loc) (ls : Array Slot), some (Sum.inr (s_sets_o13x, s_slots_o13x, s_count_o13x, d_count_o13x, d_next_o13x)) = some o_13 → va_P G.1 vwCl ((WE G e_h e_hd e_hs e_q e_steps e_yes) ++ (WS G e_hs s_q s_sets_o13x s_slots_o13x s_count_o13x) ++ (WD G e_hd d_hp d_q d_a d_rm d_stateOf d_kindOf d_order d_rooms d_count_o13x d_next_o13x d_says d_note d_sort d_freshSort)) H → va_D A ((WE G e_h e_hd e_hs e_q e_steps e_yes) ++ (WS G e_hs s_q s_sets_o13x s_slots_o13x s_count_o13x) ++ (WD G e_hd d_hp d_q d_a d_rm d_stateOf d_kindOf d_order d_rooms d_count_o13x d_next_o13x d_says d_note d_sort d_freshSort)) → va_S A s.heap H locs → lv_has ls 8 [] → W p l e rX6_stepOn s m args below meth c H locs 0 0 Q (F0 m 87 ls []) := by
    intro s_sets_o13x s_slots_o13x s_count_o13x d_count_o13x d_next_o13x H locs ls hq hP hD hS hl
    rcases hd13 with ⟨x, hx1, h⟩ | ⟨s_sets_o13, s_slots_o13, s_count_o13, d_count_o13, d_next_o13, hx1, h⟩
    · rw [hx1] at hq; cases hq
    rw [hx1] at hq
    obtain ⟨rfl, rfl, rfl, rfl, rfl⟩ := oiS5 hq
    refine lv_iconst (v := 1) hx hb dX6_stepOn_87 (by decide) ?_
    obtain ⟨gbv, h⟩ := gb_e h
    obtain ⟨rfl, rfl, rfl, rfl, rfl, rfl⟩ := oi6 h
    exact hret (fun _ => 0) _ _ _ _ _ _ _ dX6_stepOn_88 rfl (nb gbv) hP hD hS (Nat.le_of_ble_eq_true rfl) (Nat.le_of_ble_eq_true rfl)
  have hL13 : ∀ (f : Nat) (v6_13 : Int32) (s_sets_13 : AL) (s_slots_13 : AI) (s_count_13 : Int32) (d_count_13 : Int32) (d_next_13 : AI)  (H : Heap) (locs : List Loc) (ls : Array Slot), p_X6_stepOn_L13 n v3 e_steps r_5 v2 d_rooms d_rm v1 f v6_13 s_sets_13 s_slots_13 s_count_13 d_count_13 d_next_13 = some o_13 → va_P G.1 vwCl ((WE G e_h e_hd e_hs e_q e_steps e_yes) ++ (WS G e_hs s_q s_sets_13 s_slots_13 s_count_13) ++ (WD G e_hd d_hp d_q d_a d_rm d_stateOf d_kindOf d_order d_rooms d_count_13 d_next_13 d_says d_note d_sort d_freshSort)) H → va_D A ((WE G e_h e_hd e_hs e_q e_steps e_yes) ++ (WS G e_hs s_q s_sets_13 s_slots_13 s_count_13) ++ (WD G e_hd d_hp d_q d_a d_rm d_stateOf d_kindOf d_order d_rooms d_count_13 d_next_13 d_says d_note d_sort d_freshSort)) → va_S A s.heap H locs → lv_has ls 8 [(0, .ref e_h), (1, .int v1), (2, .int v2), (3, .int v3), (4, .long r_5), (6, .int v6_13)] → W p l e rX6_stepOn s m args below meth c H locs 0 0 Q (F0 m 13 ls []) := by
    intro f
    induction f with
    | zero => intro v6_13 s_sets_13 s_slots_13 s_count_13 d_count_13 d_next_13 H locs ls h hP hD hS hl; cases (show none = some _ from h)
    | succ f ih =>
      intro v6_13 s_sets_13 s_slots_13 s_count_13 d_count_13 d_next_13 H locs ls h hP hD hS hl
      rw [p_X6_stepOn_L13] at h
      refine lv_iload hx hb dX6_stepOn_13 (lv_at hl 5 rfl) ?_
      refine lv_bipush (v := 8) hx hb dX6_stepOn_15 (by decide) ?_
      refine lv_icmp_ge (tgt := 87) hx hb dX6_stepOn_17 (by decide) (fun c_17 => ?_) (fun c_17 => ?_)
      · replace h := (if_pos c_17).symm.trans h
        exact hX13 _ _ _ _ _  _ _ _ h hP hD hS (lv_sub hl [] rfl)
      · replace h := (if_neg c_17).symm.trans h
        refine lv_iload hx hb dX6_stepOn_20 (lv_at hl 5 rfl) ?_
        refine lv_iload_n hx hb dX6_stepOn_22 rfl (lv_at hl 3 rfl) ?_
        obtain ⟨r_23, hc_23, h⟩ := ob1_e h
        refine k_si (va_runSN (As := [.int v6_13, .int v3]) (rest := []) ⟨hx, hb, hml, hown, hts⟩ (c_X9_digitOf l G    v6_13 v3 r_23 hc_23) ⟨va_cnB 2 hts gX6_stepOn_X9_digitOf_n92 rfl rfl rfl (hK.2 _ (List.mem_of_getElem? (i := 11) rfl)) (hts (.initialized RX9) (by decide +kernel)) eX9_digitOf ⟨Nat.le_of_ble_eq_true rfl, Nat.le_of_ble_eq_true rfl⟩, hts (.static yX9_digitOf) (by decide +kernel), trivial⟩ (preSS hK (fun k q h => by cases h)) rfl rfl hl.1 rfl (lv_room (Nat.le_of_ble_eq_true rfl)) dX6_stepOn_23 ⟨Nat.le_of_ble_eq_true rfl, Nat.le_of_ble_eq_true rfl⟩) ?_
        refine lv_if_ne (tgt := 81) hx hb dX6_stepOn_26 (by decide) (fun c_26 => ?_) (fun c_26 => ?_)
        · replace h := (if_neg c_26).symm.trans h
          refine lv_iinc (v := (v6_13 + (1 : Int32))) (lv' := [(6, .int (v6_13 + (1 : Int32))), (0, .ref e_h), (1, .int v1), (2, .int v2), (3, .int v3), (4, .long r_5)]) hx hb dX6_stepOn_81 hl (k := 5) rfl rfl (by decide) rfl (fun ls hl => ?_)
          refine lv_goto (tgt := 13) hx hb dX6_stepOn_84 (by decide) ?_
          exact ih _ _ _ _ _ _  _ _ _ h hP hD hS (lv_sub hl [1, 2, 3, 4, 5, 0] rfl)
        · replace h := (if_pos c_26).symm.trans h
          refine lv_aload_n hx hb dX6_stepOn_29 rfl (lv_at hl 0 rfl) ?_
          refine lv_aload_n hx hb dX6_stepOn_30 rfl (lv_at hl 0 rfl) ?_
          refine lv_lload hx hb dX6_stepOn_31 (lv_at hl 4 rfl) ?_
          refine lv_iload_n hx hb dX6_stepOn_33 rfl (lv_at hl 2 rfl) ?_
          refine lv_iload hx hb dX6_stepOn_34 (lv_at hl 5 rfl) ?_
          obtain ⟨r_36, hc_36, h⟩ := ob1_e h
          refine k_sl (va_runV (As := [.long r_5, .int v2, .int v6_13]) (rest := [.ref e_h]) ⟨hx, hb, hml, hown, hts⟩ (c_X6_afterSet l G n e_h e_hd e_hs e_q e_steps e_yes  r_5 v2 v6_13 r_36 hc_36) (cwV 3 hts gX6_stepOn_X6_afterSet rfl rfl rfl ⟨rfl, eX6_afterSet⟩ ⟨Nat.le_of_ble_eq_true rfl, Nat.le_of_ble_eq_true rfl⟩) (preSV (ci := 6) (q0 := 0) hK (hP.sub (ws' := WE G e_h e_hd e_hs e_q e_steps e_yes) [0, 1] rfl) rfl rfl) rfl rfl hl.1 rfl (lv_room (Nat.le_of_ble_eq_true rfl)) dX6_stepOn_36 ⟨Nat.le_of_ble_eq_true rfl, Nat.le_of_ble_eq_true rfl⟩) ?_
          obtain ⟨r_39, s_sets_39, s_slots_39, s_count_39, d_count_39, hc_39, h⟩ := ob5_e h
          refine k_ciA (va_runV (As := [.long r_36]) (rest := []) ⟨hx, hb, hml, hown, hts⟩ (c_X6_stateFor l G n e_h e_hd e_hs e_q s_q d_hp d_q d_a e_steps e_yes s_sets_13 s_slots_13 s_count_13 d_rm d_stateOf d_kindOf d_order d_rooms d_count_13 d_next_13 d_says d_note d_sort d_freshSort  r_36 _ r_39 s_sets_39 s_slots_39 s_count_39 d_count_39 hc_39) (cwV 1 hts gX6_stepOn_X6_stateFor rfl rfl rfl ⟨rfl, eX6_stateFor⟩ ⟨Nat.le_of_ble_eq_true rfl, Nat.le_of_ble_eq_true rfl⟩) (preWV (ci := 6) (q0 := 0) hK hP hD rfl rfl) rfl rfl hl.1 rfl (lv_room (Nat.le_of_ble_eq_true rfl)) dX6_stepOn_39 ⟨Nat.le_of_ble_eq_true rfl, Nat.le_of_ble_eq_true rfl⟩) hD hS hA (fun u_39 H locs hP hD hS => ?_)
          have hP : va_P G.1 vwCl ((WE G e_h e_hd e_hs e_q e_steps e_yes) ++ (WS G e_hs s_q s_sets_39 s_slots_39 s_count_39) ++ (WD G e_hd d_hp d_q d_a d_rm d_stateOf d_kindOf d_order d_rooms d_count_39 d_next_13 d_says d_note d_sort d_freshSort)) H := hP
          have hD : va_D A ((WE G e_h e_hd e_hs e_q e_steps e_yes) ++ (WS G e_hs s_q s_sets_39 s_slots_39 s_count_39) ++ (WD G e_hd d_hp d_q d_a d_rm d_stateOf d_kindOf d_order d_rooms d_count_39 d_next_13 d_says d_note d_sort d_freshSort)) := hD
          refine lv_istore (lv' := [(7, .int r_39), (0, .ref e_h), (1, .int v1), (2, .int v2), (3, .int v3), (4, .long r_5), (6, .int v6_13)]) hx hb dX6_stepOn_42 hl (by decide) rfl (fun ls hl => ?_)
          refine lv_iload hx hb dX6_stepOn_44 (lv_at hl 0 rfl) ?_
          refine lv_bipush (v := -6) hx hb dX6_stepOn_46 (by decide) ?_
          refine lv_icmp_ne (tgt := 53) hx hb dX6_stepOn_48 (by decide) (fun c_48 => ?_) (fun c_48 => ?_)
          · replace h := (if_neg c_48).symm.trans h
            refine lv_aload_n hx hb dX6_stepOn_53 rfl (lv_at hl 1 rfl) ?_
            refine va_get (D := G.1) (ci := 6) (v := .ref e_hd) (C := RX6) (T := TX6) (N := 4) hx hb hts hinX6 hown hK.1 hP 0 rfl rfl 0 (by decide) hf26 (fun _ h9 => h9) rfl dX6_stepOn_54 ?_
            refine lv_iload_n hx hb dX6_stepOn_57 rfl (lv_at hl 2 rfl) ?_
            refine lv_iload hx hb dX6_stepOn_58 (lv_at hl 6 rfl) ?_
            refine lv_iload hx hb dX6_stepOn_60 (lv_at hl 0 rfl) ?_
            obtain ⟨d_next_62, hc_62, h⟩ := ob1_e h
            refine k_cv (wr := (WE G e_h e_hd e_hs e_q e_steps e_yes) ++ (WS G e_hs s_q s_sets_39 s_slots_39 s_count_39)) (va_runV (As := [.int v1, .int v6_13, .int r_39]) (rest := []) ⟨hx, hb, hml, hown, hts⟩ (c_X1_write l G e_hd d_hp d_q d_a d_rm d_stateOf d_kindOf d_order d_rooms d_count_39 d_next_13 d_says d_note d_sort d_freshSort  v1 v6_13 r_39 _ d_next_62 hc_62) (cwV 3 hts gX6_stepOn_X1_write rfl rfl rfl ⟨rfl, eX1_write⟩ ⟨Nat.le_of_ble_eq_true rfl, Nat.le_of_ble_eq_true rfl⟩) (preWV (ci := 1) (q0 := 0) hK (hP.sub (ws' := WD G e_hd d_hp d_q d_a d_rm d_stateOf d_kindOf d_order d_rooms d_count_39 d_next_13 d_says d_note d_sort d_freshSort) [5, 6, 7, 8, 9, 10, 11, 12, 13] rfl) (hD.sub (ws' := WD G e_hd d_hp d_q d_a d_rm d_stateOf d_kindOf d_order d_rooms d_count_39 d_next_13 d_says d_note d_sort d_freshSort) [5, 6, 7, 8, 9, 10, 11, 12, 13] (by decide) rfl) rfl rfl) rfl rfl hl.1 rfl (lv_room (Nat.le_of_ble_eq_true rfl)) dX6_stepOn_62 ⟨Nat.le_of_ble_eq_true rfl, Nat.le_of_ble_eq_true rfl⟩) hP hD hS hA [5, 6, 7, 8, 9, 10, 11, 12, 13] [0, 1, 2, 3, 4] rfl rfl (by decide) (by decide) (fun u_62 H locs hP hD hS => ?_)
            have hP := hP.sub (ws' := (WE G e_h e_hd e_hs e_q e_steps e_yes) ++ (WS G e_hs s_q s_sets_39 s_slots_39 s_count_39) ++ (WD G e_hd d_hp d_q d_a d_rm d_stateOf d_kindOf d_order d_rooms d_count_39 d_next_62 d_says d_note d_sort d_freshSort)) [0, 1, 2, 3, 4, 5, 6, 7, 8, 9, 10, 11, 12, 13] rfl
            have hD := hD.sub (ws' := (WE G e_h e_hd e_hs e_q e_steps e_yes) ++ (WS G e_hs s_q s_sets_39 s_slots_39 s_count_39) ++ (WD G e_hd d_hp d_q d_a d_rm d_stateOf d_kindOf d_order d_rooms d_count_39 d_next_62 d_says d_note d_sort d_freshSort)) [0, 1, 2, 3, 4, 5, 6, 7, 8, 9, 10, 11, 12, 13] (by decide) rfl
            refine lv_aload_n hx hb dX6_stepOn_65 rfl (lv_at hl 1 rfl) ?_
            refine va_get (D := G.1) (ci := 6) (v := .ref e_hd) (C := RX6) (T := TX6) (N := 4) hx hb hts hinX6 hown hK.1 hP 0 rfl rfl 0 (by decide) hf26 (fun _ h9 => h9) rfl dX6_stepOn_66 ?_
            refine lv_iload_n hx hb dX6_stepOn_69 rfl (lv_at hl 2 rfl) ?_
            refine lv_iload hx hb dX6_stepOn_70 (lv_at hl 6 rfl) ?_
            refine lv_iconst (v := 1) hx hb dX6_stepOn_72 (by decide) ?_
            refine lv_iload_n hx hb dX6_stepOn_73 rfl (lv_at hl 4 rfl) ?_
            refine lv_ishl hx hb dX6_stepOn_74 ?_
            refine lv_ixor hx hb dX6_stepOn_75 ?_
            refine lv_iload hx hb dX6_stepOn_76 (lv_at hl 0 rfl) ?_
            obtain ⟨d_next_78, hc_78, h⟩ := ob1_e h
            refine k_cv (wr := (WE G e_h e_hd e_hs e_q e_steps e_yes) ++ (WS G e_hs s_q s_sets_39 s_slots_39 s_count_39)) (va_runV (As := [.int v1, .int (v6_13 ^^^ ((1 : Int32) <<< (v3 &&& (31 : Int32)))), .int r_39]) (rest := []) ⟨hx, hb, hml, hown, hts⟩ (c_X1_write l G e_hd d_hp d_q d_a d_rm d_stateOf d_kindOf d_order d_rooms d_count_39 d_next_62 d_says d_note d_sort d_freshSort  v1 (v6_13 ^^^ ((1 : Int32) <<< (v3 &&& (31 : Int32)))) r_39 _ d_next_78 hc_78) (cwV 3 hts gX6_stepOn_X1_write rfl rfl rfl ⟨rfl, eX1_write⟩ ⟨Nat.le_of_ble_eq_true rfl, Nat.le_of_ble_eq_true rfl⟩) (preWV (ci := 1) (q0 := 0) hK (hP.sub (ws' := WD G e_hd d_hp d_q d_a d_rm d_stateOf d_kindOf d_order d_rooms d_count_39 d_next_62 d_says d_note d_sort d_freshSort) [5, 6, 7, 8, 9, 10, 11, 12, 13] rfl) (hD.sub (ws' := WD G e_hd d_hp d_q d_a d_rm d_stateOf d_kindOf d_order d_rooms d_count_39 d_next_62 d_says d_note d_sort d_freshSort) [5, 6, 7, 8, 9, 10, 11, 12, 13] (by decide) rfl) rfl rfl) rfl rfl hl.1 rfl (lv_room (Nat.le_of_ble_eq_true rfl)) dX6_stepOn_78 ⟨Nat.le_of_ble_eq_true rfl, Nat.le_of_ble_eq_true rfl⟩) hP hD hS hA [5, 6, 7, 8, 9, 10, 11, 12, 13] [0, 1, 2, 3, 4] rfl rfl (by decide) (by decide) (fun u_78 H locs hP hD hS => ?_)
            have hP := hP.sub (ws' := (WE G e_h e_hd e_hs e_q e_steps e_yes) ++ (WS G e_hs s_q s_sets_39 s_slots_39 s_count_39) ++ (WD G e_hd d_hp d_q d_a d_rm d_stateOf d_kindOf d_order d_rooms d_count_39 d_next_78 d_says d_note d_sort d_freshSort)) [0, 1, 2, 3, 4, 5, 6, 7, 8, 9, 10, 11, 12, 13] rfl
            have hD := hD.sub (ws' := (WE G e_h e_hd e_hs e_q e_steps e_yes) ++ (WS G e_hs s_q s_sets_39 s_slots_39 s_count_39) ++ (WD G e_hd d_hp d_q d_a d_rm d_stateOf d_kindOf d_order d_rooms d_count_39 d_next_78 d_says d_note d_sort d_freshSort)) [0, 1, 2, 3, 4, 5, 6, 7, 8, 9, 10, 11, 12, 13] (by decide) rfl
            refine lv_iinc (v := (v6_13 + (1 : Int32))) (lv' := [(6, .int (v6_13 + (1 : Int32))), (7, .int r_39), (0, .ref e_h), (1, .int v1), (2, .int v2), (3, .int v3), (4, .long r_5)]) hx hb dX6_stepOn_81 hl (k := 6) rfl rfl (by decide) rfl (fun ls hl => ?_)
            refine lv_goto (tgt := 13) hx hb dX6_stepOn_84 (by decide) ?_
            exact ih _ _ _ _ _ _  _ _ _ h hP hD hS (lv_sub hl [2, 3, 4, 5, 6, 0] rfl)
          · replace h := (if_pos c_48).symm.trans h
            refine lv_iconst (v := 0) hx hb dX6_stepOn_51 (by decide) ?_
            obtain ⟨gbv, h⟩ := gb_e h
            rcases hd13 with ⟨x, hx1, h2⟩ | ⟨_, _, _, _, _, hx1, _⟩
            · rw [hx1] at h
              have hx2 := oiL h
              rw [hx2] at h2
              replace h := h2
              obtain ⟨rfl, rfl, rfl, rfl, rfl, rfl⟩ := oi6 h
              exact hret (fun _ => 0) _ _ _ _ _ _ _ dX6_stepOn_52 rfl (nb gbv) hP hD hS (Nat.le_of_ble_eq_true rfl) (Nat.le_of_ble_eq_true rfl)
            · rw [hx1] at h; cases h
  exact hL13 n _ _ _ _ _ _  _ _ _ hT13 hP hD hS (lv_sub hl [2, 3, 4, 5, 1, 0] rfl)
abbrev rX6_say (ms1 : Nat) : Room := { frames := 5, cells := 5, slots := ms1, locals := 111 }
set_option maxHeartbeats 4000000 in
set_option maxRecDepth 100000 in
theorem c_X6_say (l : Launch) (G : GG) (n : Nat) (e_h : Nat) (e_hd : Nat) (e_hs : Nat) (e_q : Nat → Nat) (s_q : Nat → Nat) (d_hp : Nat) (d_q : Nat → Nat) (d_a : Nat → Nat) (p_q : Nat → Nat) (f_h : Nat → Nat) (f_q : Nat → Nat → Nat) (e_steps : AL) (e_yes : Int64) (s_sets : AL) (s_slots : AI) (s_count : Int32) (d_rm : Nat) (d_stateOf : AI) (d_kindOf : AI) (d_order : AI) (d_rooms : Int32) (d_count : Int32) (d_next : AI) (d_says : AI) (d_note : AI) (d_sort : AI) (d_freshSort : AI) (p_table : AI) (p_turn : Int32) (p_count : Int32) (f_next : AF) (f_says : AF) (f_size : AI) (k0 : Nat) (hk0 : k0 < 7) (k1 : Nat) (hk1 : k1 < 7) (v3 : Int32) (v4 : Int32) (rmx1 : Nat) (ms1 : Nat) (hms1 : rmx1 = d_rm ∨ 12 * rmx1 ≤ ms1) (sz : Nat) (r : Int32) (e_steps_z : AL) (e_yes_z : Int64) (s_sets_z : AL) (s_slots_z : AI) (s_count_z : Int32) (d_rm_z : Nat) (d_stateOf_z : AI) (d_kindOf_z : AI) (d_order_z : AI) (d_rooms_z : Int32) (d_count_z : Int32) (d_next_z : AI) (d_says_z : AI) (d_note_z : AI) (d_sort_z : AI) (d_freshSort_z : AI) (p_table_z : AI) (p_turn_z : Int32) (p_count_z : Int32) (f_next_z : AF) (f_says_z : AF) (f_size_z : AI) (h : p_X6_say n e_steps s_sets s_slots d_rm d_stateOf d_kindOf d_order d_rooms d_next d_says d_note d_sort d_freshSort p_table p_turn p_count f_next f_says f_size k0 k1 rmx1 v3 v4 = some (r, e_steps_z, e_yes_z, s_sets_z, s_slots_z, s_count_z, d_rm_z, d_stateOf_z, d_kindOf_z, d_order_z, d_rooms_z, d_count_z, d_next_z, d_says_z, d_note_z, d_sort_z, d_freshSort_z, p_table_z, p_turn_z, p_count_z, f_next_z, f_says_z, f_size_z)) : CI l yX6_say wsX6_say (rX6_say ms1) G [.ref e_h, .ref (f_h k0), .ref (f_h k1), .int v3, .int v4] ((WE G e_h e_hd e_hs e_q e_steps e_yes) ++ (WS G e_hs s_q s_sets s_slots s_count) ++ (WD G e_hd d_hp d_q d_a d_rm d_stateOf d_kindOf d_order d_rooms d_count d_next d_says d_note d_sort d_freshSort) ++ (WP G d_hp p_q p_table p_turn p_count) ++ (WF G f_h f_q f_next f_says f_size)) sz r (fun u => (WE G e_h e_hd e_hs e_q e_steps_z e_yes_z) ++ (WS G e_hs s_q s_sets_z s_slots_z s_count_z) ++ (WD G e_hd d_hp d_q u d_rm_z d_stateOf_z d_kindOf_z d_order_z d_rooms_z d_count_z d_next_z d_says_z d_note_z d_sort_z d_freshSort_z) ++ (WP G d_hp p_q p_table_z p_turn_z p_count_z) ++ (WF G f_h f_q f_next_z f_says_z f_size_z)) := by
  refine enterCI (cc := cX6_say) (maxL := 8) (by decide) rfl (Nat.le_of_ble_eq_true rfl) ?_
  intro p e s m args below meth c A Q hx hb hml hown hts hK hP hD hS hA hret ls hl
  have hown : s.vm.findClass RX6 = some m.cls := hown
  have hf12 := hts (.fieldLink RX6 12 "DigitClaims$SaidClaims" "sets" "LDigitClaims$SetNumbers;") (by decide +kernel)
  have hf22 := hts (.fieldLink RX6 22 "DigitClaims$SaidClaims" "yes" "J") (by decide +kernel)
  have hf26 := hts (.fieldLink RX6 26 "DigitClaims$SaidClaims" "draft" "LDigitClaims$Draft;") (by decide +kernel)
  have hinX6 : ∀ w ∈ wsX60, w ∈ wsX6_say := by decide +kernel
  have hl : lv_has ls 8 [(0, .ref e_h), (1, .ref (f_h k0)), (2, .ref (f_h k1)), (3, .int v3), (4, .int v4)] := hl
  unfold p_X6_say at h
  refine lv_aload_n hx hb dX6_say_0 rfl (lv_at hl 0 rfl) ?_
  refine lv_aload_n hx hb dX6_say_1 rfl (lv_at hl 2 rfl) ?_
  refine lv_iload_n hx hb dX6_say_2 rfl (lv_at hl 3 rfl) ?_
  obtain ⟨e_steps_3, e_yes_3, hc_3, h⟩ := ob2_e h
  refine k_cv (wr := (WS G e_hs s_q s_sets s_slots s_count) ++ (WD G e_hd d_hp d_q d_a d_rm d_stateOf d_kindOf d_order d_rooms d_count d_next d_says d_note d_sort d_freshSort) ++ (WP G d_hp p_q p_table p_turn p_count)) (va_runV (As := [.ref (f_h k1), .int v3]) (rest := []) ⟨hx, hb, hml, hown, hts⟩ (c_X6_prepare l G n e_h e_hd e_hs e_q f_h f_q e_steps e_yes f_next f_says f_size k1 hk1 v3 _ e_steps_3 e_yes_3 hc_3) (cwV 2 hts gX6_say_X6_prepare rfl rfl rfl ⟨rfl, eX6_prepare⟩ ⟨Nat.le_of_ble_eq_true rfl, Nat.le_of_ble_eq_true rfl⟩) (preWV (ci := 6) (q0 := 0) hK (hP.sub (ws' := (WE G e_h e_hd e_hs e_q e_steps e_yes) ++ (WF G f_h f_q f_next f_says f_size)) [0, 1, 16, 17, 18, 19, 20, 21, 22, 23, 24, 25, 26, 27, 28, 29, 30, 31, 32, 33, 34, 35, 36] rfl) (hD.sub (ws' := (WE G e_h e_hd e_hs e_q e_steps e_yes) ++ (WF G f_h f_q f_next f_says f_size)) [0, 1, 16, 17, 18, 19, 20, 21, 22, 23, 24, 25, 26, 27, 28, 29, 30, 31, 32, 33, 34, 35, 36] (by decide) rfl) rfl rfl) rfl rfl hl.1 rfl (lv_room (Nat.le_of_ble_eq_true rfl)) dX6_say_3 ⟨Nat.le_of_ble_eq_true rfl, by show 0 + 0 ≤ ms1; omega⟩) hP hD hS hA [0, 1, 16, 17, 18, 19, 20, 21, 22, 23, 24, 25, 26, 27, 28, 29, 30, 31, 32, 33, 34, 35, 36] [2, 3, 4, 5, 6, 7, 8, 9, 10, 11, 12, 13, 14, 15] rfl rfl (by decide) (by decide) (fun u_3 H locs hP hD hS => ?_)
  have hP := hP.sub (ws' := (WE G e_h e_hd e_hs e_q e_steps_3 e_yes_3) ++ (WS G e_hs s_q s_sets s_slots s_count) ++ (WD G e_hd d_hp d_q d_a d_rm d_stateOf d_kindOf d_order d_rooms d_count d_next d_says d_note d_sort d_freshSort) ++ (WP G d_hp p_q p_table p_turn p_count) ++ (WF G f_h f_q f_next f_says f_size)) [14, 15, 0, 1, 2, 3, 4, 5, 6, 7, 8, 9, 10, 11, 12, 13, 16, 17, 18, 19, 20, 21, 22, 23, 24, 25, 26, 27, 28, 29, 30, 31, 32, 33, 34, 35, 36] rfl
  have hD := hD.sub (ws' := (WE G e_h e_hd e_hs e_q e_steps_3 e_yes_3) ++ (WS G e_hs s_q s_sets s_slots s_count) ++ (WD G e_hd d_hp d_q d_a d_rm d_stateOf d_kindOf d_order d_rooms d_count d_next d_says d_note d_sort d_freshSort) ++ (WP G d_hp p_q p_table p_turn p_count) ++ (WF G f_h f_q f_next f_says f_size)) [14, 15, 0, 1, 2, 3, 4, 5, 6, 7, 8, 9, 10, 11, 12, 13, 16, 17, 18, 19, 20, 21, 22, 23, 24, 25, 26, 27, 28, 29, 30, 31, 32, 33, 34, 35, 36] (by decide) rfl
  refine lv_aload_n hx hb dX6_say_6 rfl (lv_at hl 0 rfl) ?_
  refine va_get (D := G.1) (ci := 6) (v := .ref e_hs) (C := RX6) (T := TX6) (N := 4) hx hb hts hinX6 hown hK.1 hP 0 rfl rfl 1 (by decide) hf12 (fun _ h9 => h9) rfl dX6_say_7 ?_
  obtain ⟨s_slots_10, s_count_10, hc_10, h⟩ := ob2_e h
  refine k_cv (wr := (WE G e_h e_hd e_hs e_q e_steps_3 e_yes_3) ++ (WD G e_hd d_hp d_q d_a d_rm d_stateOf d_kindOf d_order d_rooms d_count d_next d_says d_note d_sort d_freshSort) ++ (WP G d_hp p_q p_table p_turn p_count) ++ (WF G f_h f_q f_next f_says f_size)) (va_runV (As := []) (rest := []) ⟨hx, hb, hml, hown, hts⟩ (c_X7_forget l G n e_hs s_q s_sets s_slots s_count   _ s_slots_10 s_count_10 hc_10) (cwV 0 hts gX6_say_X7_forget rfl rfl rfl ⟨rfl, eX7_forget⟩ ⟨Nat.le_of_ble_eq_true rfl, Nat.le_of_ble_eq_true rfl⟩) (preWV (ci := 7) (q0 := 0) hK (hP.sub (ws' := WS G e_hs s_q s_sets s_slots s_count) [2, 3, 4] rfl) (hD.sub (ws' := WS G e_hs s_q s_sets s_slots s_count) [2, 3, 4] (by decide) rfl) rfl rfl) rfl rfl hl.1 rfl (lv_room (Nat.le_of_ble_eq_true rfl)) dX6_say_10 ⟨Nat.le_of_ble_eq_true rfl, by show 0 + 0 ≤ ms1; omega⟩) hP hD hS hA [2, 3, 4] [0, 1, 5, 6, 7, 8, 9, 10, 11, 12, 13, 14, 15, 16, 17, 18, 19, 20, 21, 22, 23, 24, 25, 26, 27, 28, 29, 30, 31, 32, 33, 34, 35, 36] rfl rfl (by decide) (by decide) (fun u_10 H locs hP hD hS => ?_)
  have hP := hP.sub (ws' := (WE G e_h e_hd e_hs e_q e_steps_3 e_yes_3) ++ (WS G e_hs s_q s_sets s_slots_10 s_count_10) ++ (WD G e_hd d_hp d_q d_a d_rm d_stateOf d_kindOf d_order d_rooms d_count d_next d_says d_note d_sort d_freshSort) ++ (WP G d_hp p_q p_table p_turn p_count) ++ (WF G f_h f_q f_next f_says f_size)) [0, 1, 34, 35, 36, 2, 3, 4, 5, 6, 7, 8, 9, 10, 11, 12, 13, 14, 15, 16, 17, 18, 19, 20, 21, 22, 23, 24, 25, 26, 27, 28, 29, 30, 31, 32, 33] rfl
  have hD := hD.sub (ws' := (WE G e_h e_hd e_hs e_q e_steps_3 e_yes_3) ++ (WS G e_hs s_q s_sets s_slots_10 s_count_10) ++ (WD G e_hd d_hp d_q d_a d_rm d_stateOf d_kindOf d_order d_rooms d_count d_next d_says d_note d_sort d_freshSort) ++ (WP G d_hp p_q p_table p_turn p_count) ++ (WF G f_h f_q f_next f_says f_size)) [0, 1, 34, 35, 36, 2, 3, 4, 5, 6, 7, 8, 9, 10, 11, 12, 13, 14, 15, 16, 17, 18, 19, 20, 21, 22, 23, 24, 25, 26, 27, 28, 29, 30, 31, 32, 33] (by decide) rfl
  refine lv_aload_n hx hb dX6_say_13 rfl (lv_at hl 0 rfl) ?_
  refine va_get (D := G.1) (ci := 6) (v := .ref e_hd) (C := RX6) (T := TX6) (N := 4) hx hb hts hinX6 hown hK.1 hP 0 rfl rfl 0 (by decide) hf26 (fun _ h9 => h9) rfl dX6_say_14 ?_
  refine lv_iconst (v := 0) hx hb dX6_say_17 (by decide) ?_
  refine lv_sipush (v := 300) hx hb dX6_say_18 (by decide) ?_
  obtain ⟨d_rm_21, d_rooms_21, d_count_21, d_next_21, d_says_21, d_note_21, d_sort_21, d_freshSort_21, hc_21, h⟩ := ob8_e h
  refine k_cv (wr := (WE G e_h e_hd e_hs e_q e_steps_3 e_yes_3) ++ (WS G e_hs s_q s_sets s_slots_10 s_count_10) ++ (WP G d_hp p_q p_table p_turn p_count) ++ (WF G f_h f_q f_next f_says f_size)) (va_runV (As := [.int (0 : Int32), .int (300 : Int32)]) (rest := []) ⟨hx, hb, hml, hown, hts⟩ (c_X1_begin l G e_hd d_hp d_q d_a d_rm d_stateOf d_kindOf d_order d_rooms d_count d_next d_says d_note d_sort d_freshSort  (0 : Int32) (300 : Int32) rmx1 ms1 hms1 _ d_rm_21 d_rooms_21 d_count_21 d_next_21 d_says_21 d_note_21 d_sort_21 d_freshSort_21 hc_21) (cwV 2 hts gX6_say_X1_begin rfl rfl rfl ⟨rfl, eX1_begin⟩ ⟨Nat.le_of_ble_eq_true rfl, Nat.le_of_ble_eq_true rfl⟩) (preWV (ci := 1) (q0 := 0) hK (hP.sub (ws' := WD G e_hd d_hp d_q d_a d_rm d_stateOf d_kindOf d_order d_rooms d_count d_next d_says d_note d_sort d_freshSort) [5, 6, 7, 8, 9, 10, 11, 12, 13] rfl) (hD.sub (ws' := WD G e_hd d_hp d_q d_a d_rm d_stateOf d_kindOf d_order d_rooms d_count d_next d_says d_note d_sort d_freshSort) [5, 6, 7, 8, 9, 10, 11, 12, 13] (by decide) rfl) rfl rfl) rfl rfl hl.1 rfl (lv_room (Nat.le_of_ble_eq_true rfl)) dX6_say_21 ⟨Nat.le_of_ble_eq_true rfl, by show 0 + (ms1) ≤ ms1; omega⟩) hP hD hS hA [5, 6, 7, 8, 9, 10, 11, 12, 13] [0, 1, 2, 3, 4, 14, 15, 16, 17, 18, 19, 20, 21, 22, 23, 24, 25, 26, 27, 28, 29, 30, 31, 32, 33, 34, 35, 36] rfl rfl (by decide) (by decide) (fun u_21 H locs hP hD hS => ?_)
  have hP := hP.sub (ws' := (WE G e_h e_hd e_hs e_q e_steps_3 e_yes_3) ++ (WS G e_hs s_q s_sets s_slots_10 s_count_10) ++ (WD G e_hd d_hp d_q u_21 d_rm_21 d_stateOf d_kindOf d_order d_rooms_21 d_count_21 d_next_21 d_says_21 d_note_21 d_sort_21 d_freshSort_21) ++ (WP G d_hp p_q p_table p_turn p_count) ++ (WF G f_h f_q f_next f_says f_size)) [0, 1, 2, 3, 4, 28, 29, 30, 31, 32, 33, 34, 35, 36, 5, 6, 7, 8, 9, 10, 11, 12, 13, 14, 15, 16, 17, 18, 19, 20, 21, 22, 23, 24, 25, 26, 27] rfl
  have hD := hD.sub (ws' := (WE G e_h e_hd e_hs e_q e_steps_3 e_yes_3) ++ (WS G e_hs s_q s_sets s_slots_10 s_count_10) ++ (WD G e_hd d_hp d_q u_21 d_rm_21 d_stateOf d_kindOf d_order d_rooms_21 d_count_21 d_next_21 d_says_21 d_note_21 d_sort_21 d_freshSort_21) ++ (WP G d_hp p_q p_table p_turn p_count) ++ (WF G f_h f_q f_next f_says f_size)) [0, 1, 2, 3, 4, 28, 29, 30, 31, 32, 33, 34, 35, 36, 5, 6, 7, 8, 9, 10, 11, 12, 13, 14, 15, 16, 17, 18, 19, 20, 21, 22, 23, 24, 25, 26, 27] (by decide) rfl
  refine lv_aload_n hx hb dX6_say_24 rfl (lv_at hl 0 rfl) ?_
  refine lv_aload_n hx hb dX6_say_25 rfl (lv_at hl 0 rfl) ?_
  refine lv_aload_n hx hb dX6_say_26 rfl (lv_at hl 2 rfl) ?_
  obtain ⟨r_27, hc_27, h⟩ := ob1_e h
  refine k_si (va_runV (As := []) (rest := [.ref e_h, .ref e_h]) ⟨hx, hb, hml, hown, hts⟩ (c_X0_size l G (f_h k1) (f_q k1) (f_next k1) (f_says k1) (f_size k1)   r_27 hc_27) (cwV 0 hts gX6_say_X0_size rfl rfl rfl ⟨rfl, eX0_size⟩ ⟨Nat.le_of_ble_eq_true rfl, Nat.le_of_ble_eq_true rfl⟩) (preSV (ci := 0) (q0 := 0) hK (famC (hP.sub (ws' := WF G f_h f_q f_next f_says f_size) [16, 17, 18, 19, 20, 21, 22, 23, 24, 25, 26, 27, 28, 29, 30, 31, 32, 33, 34, 35, 36] rfl) k1 hk1) rfl rfl) rfl rfl hl.1 rfl (lv_room (Nat.le_of_ble_eq_true rfl)) dX6_say_27 ⟨Nat.le_of_ble_eq_true rfl, by show 0 + (ms1) + 0 ≤ ms1; omega⟩) ?_
  obtain ⟨r_30, hc_30, h⟩ := ob1_e h
  refine k_sl (va_runV (As := [.int r_27]) (rest := [.ref e_h]) ⟨hx, hb, hml, hown, hts⟩ (c_X6_firstSet l G n e_h e_hd e_hs e_q e_steps_3 e_yes_3  r_27 r_30 hc_30) (cwV 1 hts gX6_say_X6_firstSet rfl rfl rfl ⟨rfl, eX6_firstSet⟩ ⟨Nat.le_of_ble_eq_true rfl, Nat.le_of_ble_eq_true rfl⟩) (preSV (ci := 6) (q0 := 0) hK (hP.sub (ws' := WE G e_h e_hd e_hs e_q e_steps_3 e_yes_3) [0, 1] rfl) rfl rfl) rfl rfl hl.1 rfl (lv_room (Nat.le_of_ble_eq_true rfl)) dX6_say_30 ⟨Nat.le_of_ble_eq_true rfl, by show 0 + (ms1) + 0 ≤ ms1; omega⟩) ?_
  obtain ⟨r_33, s_sets_33, s_slots_33, s_count_33, d_count_33, hc_33, h⟩ := ob5_e h
  refine k_ci (wr := (WP G d_hp p_q p_table p_turn p_count) ++ (WF G f_h f_q f_next f_says f_size)) (va_runV (As := [.long r_30]) (rest := []) ⟨hx, hb, hml, hown, hts⟩ (c_X6_stateFor l G n e_h e_hd e_hs e_q s_q d_hp d_q u_21 e_steps_3 e_yes_3 s_sets s_slots_10 s_count_10 d_rm_21 d_stateOf d_kindOf d_order d_rooms_21 d_count_21 d_next_21 d_says_21 d_note_21 d_sort_21 d_freshSort_21  r_30 _ r_33 s_sets_33 s_slots_33 s_count_33 d_count_33 hc_33) (cwV 1 hts gX6_say_X6_stateFor rfl rfl rfl ⟨rfl, eX6_stateFor⟩ ⟨Nat.le_of_ble_eq_true rfl, Nat.le_of_ble_eq_true rfl⟩) (preWV (ci := 6) (q0 := 0) hK (hP.sub (ws' := (WE G e_h e_hd e_hs e_q e_steps_3 e_yes_3) ++ (WS G e_hs s_q s_sets s_slots_10 s_count_10) ++ (WD G e_hd d_hp d_q u_21 d_rm_21 d_stateOf d_kindOf d_order d_rooms_21 d_count_21 d_next_21 d_says_21 d_note_21 d_sort_21 d_freshSort_21)) [0, 1, 2, 3, 4, 5, 6, 7, 8, 9, 10, 11, 12, 13] rfl) (hD.sub (ws' := (WE G e_h e_hd e_hs e_q e_steps_3 e_yes_3) ++ (WS G e_hs s_q s_sets s_slots_10 s_count_10) ++ (WD G e_hd d_hp d_q u_21 d_rm_21 d_stateOf d_kindOf d_order d_rooms_21 d_count_21 d_next_21 d_says_21 d_note_21 d_sort_21 d_freshSort_21)) [0, 1, 2, 3, 4, 5, 6, 7, 8, 9, 10, 11, 12, 13] (by decide) rfl) rfl rfl) rfl rfl hl.1 rfl (lv_room (Nat.le_of_ble_eq_true rfl)) dX6_say_33 ⟨Nat.le_of_ble_eq_true rfl, by show 0 + (ms1) + 0 ≤ ms1; omega⟩) hP hD hS hA [0, 1, 2, 3, 4, 5, 6, 7, 8, 9, 10, 11, 12, 13] [14, 15, 16, 17, 18, 19, 20, 21, 22, 23, 24, 25, 26, 27, 28, 29, 30, 31, 32, 33, 34, 35, 36] rfl rfl (by decide) (by decide) (fun u_33 H locs hP hD hS => ?_)
  have hP := hP.sub (ws' := (WE G e_h e_hd e_hs e_q e_steps_3 e_yes_3) ++ (WS G e_hs s_q s_sets_33 s_slots_33 s_count_33) ++ (WD G e_hd d_hp d_q u_21 d_rm_21 d_stateOf d_kindOf d_order d_rooms_21 d_count_33 d_next_21 d_says_21 d_note_21 d_sort_21 d_freshSort_21) ++ (WP G d_hp p_q p_table p_turn p_count) ++ (WF G f_h f_q f_next f_says f_size)) [23, 24, 25, 26, 27, 28, 29, 30, 31, 32, 33, 34, 35, 36, 0, 1, 2, 3, 4, 5, 6, 7, 8, 9, 10, 11, 12, 13, 14, 15, 16, 17, 18, 19, 20, 21, 22] rfl
  have hD := hD.sub (ws' := (WE G e_h e_hd e_hs e_q e_steps_3 e_yes_3) ++ (WS G e_hs s_q s_sets_33 s_slots_33 s_count_33) ++ (WD G e_hd d_hp d_q u_21 d_rm_21 d_stateOf d_kindOf d_order d_rooms_21 d_count_33 d_next_21 d_says_21 d_note_21 d_sort_21 d_freshSort_21) ++ (WP G d_hp p_q p_table p_turn p_count) ++ (WF G f_h f_q f_next f_says f_size)) [23, 24, 25, 26, 27, 28, 29, 30, 31, 32, 33, 34, 35, 36, 0, 1, 2, 3, 4, 5, 6, 7, 8, 9, 10, 11, 12, 13, 14, 15, 16, 17, 18, 19, 20, 21, 22] (by decide) rfl
  refine lv_pop hx hb dX6_say_36 rfl ?_
  refine lv_iconst (v := 0) hx hb dX6_say_37 (by decide) ?_
  refine lv_istore (lv' := [(5, .int (0 : Int32)), (0, .ref e_h), (1, .ref (f_h k0)), (2, .ref (f_h k1)), (3, .int v3), (4, .int v4)]) hx hb dX6_say_38 hl (by decide) rfl (fun ls hl => ?_)
  obtain ⟨o_40, hT40, hd40⟩ := obS6_e h
  have hX40 : ∀ (s_sets_o40x : AL) (s_slots_o40x : AI) (s_count_o40x : Int32) (d_count_o40x : Int32) (d_next_o40x : AI) (d_says_o40x : AI)  (H : Heap) (locs : List Loc) (ls : Array Slot), some (Sum.inr (s_sets_o40x, s_slots_o40x, s_count_o40x, d_count_o40x, d_next_o40x, d_says_o40x)) = some o_40 → va_P G.1 vwCl ((WE G e_h e_hd e_hs e_q e_steps_3 e_yes_3) ++ (WS G e_hs s_q s_sets_o40x s_slots_o40x s_count_o40x) ++ (WD G e_hd d_hp d_q u_21 d_rm_21 d_stateOf d_kindOf d_order d_rooms_21 d_count_o40x d_next_o40x d_says_o40x d_note_21 d_sort_21 d_freshSort_21) ++ (WP G d_hp p_q p_table p_turn p_count) ++ (WF G f_h f_q f_next f_says f_size)) H → va_D A ((WE G e_h e_hd e_hs e_q e_steps_3 e_yes_3) ++ (WS G e_hs s_q s_sets_o40x s_slots_o40x s_count_o40x) ++ (WD G e_hd d_hp d_q u_21 d_rm_21 d_stateOf d_kindOf d_order d_rooms_21 d_count_o40x d_next_o40x d_says_o40x d_note_21 d_sort_21 d_freshSort_21) ++ (WP G d_hp p_q p_table p_turn p_count) ++ (WF G f_h f_q f_next f_says f_size)) → va_S A s.heap H locs → lv_has ls 8 [(0, .ref e_h), (1, .ref (f_h k0))] → W p l e (rX6_say ms1) s m args below meth c H locs (0 + 5) (0 + (ms1)) Q (F0 m 149 ls []) := by
    intro s_sets_o40x s_slots_o40x s_count_o40x d_count_o40x d_next_o40x d_says_o40x H locs ls hq hP hD hS hl
    rcases hd40 with ⟨x, hx1, h⟩ | ⟨s_sets_o40, s_slots_o40, s_count_o40, d_count_o40, d_next_o40, d_says_o40, hx1, h⟩
    · rw [hx1] at hq; cases hq
    rw [hx1] at hq
    obtain ⟨rfl, rfl, rfl, rfl, rfl, rfl⟩ := oiS6 hq
    refine lv_aload_n hx hb dX6_say_149 rfl (lv_at hl 0 rfl) ?_
    refine va_get (D := G.1) (ci := 6) (v := .ref e_hd) (C := RX6) (T := TX6) (N := 4) hx hb hts hinX6 hown hK.1 hP 0 rfl rfl 0 (by decide) hf26 (fun _ h9 => h9) rfl dX6_say_150 ?_
    refine lv_aload_n hx hb dX6_say_153 rfl (lv_at hl 1 rfl) ?_
    obtain ⟨r_154, d_stateOf_154, d_kindOf_154, d_order_154, d_sort_154, d_freshSort_154, p_table_154, p_turn_154, p_count_154, y_next_154, y_says_154, y_size_154, hc_154, h⟩ := ob12_e h
    refine k_ciF (X := (WE G e_h e_hd e_hs e_q e_steps_3 e_yes_3) ++ (WS G e_hs s_q s_sets_o40 s_slots_o40 s_count_o40) ++ (WD G e_hd d_hp d_q u_21 d_rm_21 d_stateOf d_kindOf d_order d_rooms_21 d_count_o40 d_next_o40 d_says_o40 d_note_21 d_sort_21 d_freshSort_21) ++ (WP G d_hp p_q p_table p_turn p_count)) (Xc := (WD G e_hd d_hp d_q u_21 d_rm_21 d_stateOf d_kindOf d_order d_rooms_21 d_count_o40 d_next_o40 d_says_o40 d_note_21 d_sort_21 d_freshSort_21) ++ (WP G d_hp p_q p_table p_turn p_count)) (wr := (WE G e_h e_hd e_hs e_q e_steps_3 e_yes_3) ++ (WS G e_hs s_q s_sets_o40 s_slots_o40 s_count_o40)) (x1 := fun u => (WD G e_hd d_hp d_q u d_rm_21 d_stateOf_154 d_kindOf_154 d_order_154 d_rooms_21 d_count_o40 d_next_o40 d_says_o40 d_note_21 d_sort_154 d_freshSort_154) ++ (WP G d_hp p_q p_table_154 p_turn_154 p_count_154)) (fh := f_h) (fq := f_q) (fn := f_next) (fs := f_says) (fz := f_size) (k := k0) (nx := y_next_154) (sy := y_says_154) (sz := y_size_154) hk0 (va_runV (As := [.ref (f_h k0)]) (rest := []) ⟨hx, hb, hml, hown, hts⟩ (c_X1_reduceInto l G n e_hd d_hp d_q u_21 p_q (f_h k0) (f_q k0) d_rm_21 d_stateOf d_kindOf d_order d_rooms_21 d_count_o40 d_next_o40 d_says_o40 d_note_21 d_sort_21 d_freshSort_21 p_table p_turn p_count (f_next k0) (f_says k0) (f_size k0)   _ r_154 d_stateOf_154 d_kindOf_154 d_order_154 d_sort_154 d_freshSort_154 p_table_154 p_turn_154 p_count_154 y_next_154 y_says_154 y_size_154 hc_154) (cwV 1 hts gX6_say_X1_reduceInto rfl rfl rfl ⟨rfl, eX1_reduceInto⟩ ⟨Nat.le_of_ble_eq_true rfl, Nat.le_of_ble_eq_true rfl⟩) (preWVF (X := (WE G e_h e_hd e_hs e_q e_steps_3 e_yes_3) ++ (WS G e_hs s_q s_sets_o40 s_slots_o40 s_count_o40) ++ (WD G e_hd d_hp d_q u_21 d_rm_21 d_stateOf d_kindOf d_order d_rooms_21 d_count_o40 d_next_o40 d_says_o40 d_note_21 d_sort_21 d_freshSort_21) ++ (WP G d_hp p_q p_table p_turn p_count)) (Xc := (WD G e_hd d_hp d_q u_21 d_rm_21 d_stateOf d_kindOf d_order d_rooms_21 d_count_o40 d_next_o40 d_says_o40 d_note_21 d_sort_21 d_freshSort_21) ++ (WP G d_hp p_q p_table p_turn p_count)) (ci := 1) (q0 := 0) hK hP hD hk0 [5, 6, 7, 8, 9, 10, 11, 12, 13, 14, 15, 16, 17, 18] rfl (by decide) rfl rfl) rfl rfl hl.1 rfl (lv_room (Nat.le_of_ble_eq_true rfl)) dX6_say_154 ⟨Nat.le_of_ble_eq_true rfl, by show 0 + (ms1) + 0 ≤ ms1; omega⟩) hP hD hS hA [5, 6, 7, 8, 9, 10, 11, 12, 13, 14, 15, 16, 17, 18] [0, 1, 2, 3, 4] rfl rfl (by decide) (by decide) (fun u_154 H locs hP hD hS => ?_)
    have hP := hP.part (cx := (WE G e_h e_hd e_hs e_q e_steps_3 e_yes_3) ++ (WS G e_hs s_q s_sets_o40 s_slots_o40 s_count_o40) ++ (WD G e_hd d_hp d_q u_154 d_rm_21 d_stateOf_154 d_kindOf_154 d_order_154 d_rooms_21 d_count_o40 d_next_o40 d_says_o40 d_note_21 d_sort_154 d_freshSort_154) ++ (WP G d_hp p_q p_table_154 p_turn_154 p_count_154)) [0, 1, 2, 3, 4, 5, 6, 7, 8, 9, 10, 11, 12, 13, 14, 15] rfl
    have hD := hD.part (cx := (WE G e_h e_hd e_hs e_q e_steps_3 e_yes_3) ++ (WS G e_hs s_q s_sets_o40 s_slots_o40 s_count_o40) ++ (WD G e_hd d_hp d_q u_154 d_rm_21 d_stateOf_154 d_kindOf_154 d_order_154 d_rooms_21 d_count_o40 d_next_o40 d_says_o40 d_note_21 d_sort_154 d_freshSort_154) ++ (WP G d_hp p_q p_table_154 p_turn_154 p_count_154)) [0, 1, 2, 3, 4, 5, 6, 7, 8, 9, 10, 11, 12, 13, 14, 15] (by decide) rfl
    have hP : va_P G.1 vwCl ((WE G e_h e_hd e_hs e_q e_steps_3 e_yes_3) ++ (WS G e_hs s_q s_sets_o40 s_slots_o40 s_count_o40) ++ (WD G e_hd d_hp d_q u_154 d_rm_21 d_stateOf_154 d_kindOf_154 d_order_154 d_rooms_21 d_count_o40 d_next_o40 d_says_o40 d_note_21 d_sort_154 d_freshSort_154) ++ (WP G d_hp p_q p_table_154 p_turn_154 p_count_154) ++ (WF G f_h f_q (va_up f_next k0 y_next_154) (va_up f_says k0 y_says_154) (va_up f_size k0 y_size_154))) H := hP
    have hD : va_D A ((WE G e_h e_hd e_hs e_q e_steps_3 e_yes_3) ++ (WS G e_hs s_q s_sets_o40 s_slots_o40 s_count_o40) ++ (WD G e_hd d_hp d_q u_154 d_rm_21 d_stateOf_154 d_kindOf_154 d_order_154 d_rooms_21 d_count_o40 d_next_o40 d_says_o40 d_note_21 d_sort_154 d_freshSort_154) ++ (WP G d_hp p_q p_table_154 p_turn_154 p_count_154) ++ (WF G f_h f_q (va_up f_next k0 y_next_154) (va_up f_says k0 y_says_154) (va_up f_size k0 y_size_154))) := hD
    obtain ⟨rfl, rfl, rfl, rfl, rfl, rfl, rfl, rfl, rfl, rfl, rfl, rfl, rfl, rfl, rfl, rfl, rfl, rfl, rfl, rfl, rfl, rfl, rfl⟩ := oi23 h
    exact hret u_154 _ _ _ _ _ _ _ dX6_say_157 rfl rfl hP hD hS (Nat.le_of_ble_eq_true rfl) (by show 0 + (ms1) ≤ ms1; omega)
  have hL40 : ∀ (f : Nat) (v5_40 : Int32) (s_sets_40 : AL) (s_slots_40 : AI) (s_count_40 : Int32) (d_count_40 : Int32) (d_next_40 : AI) (d_says_40 : AI)  (H : Heap) (locs : List Loc) (ls : Array Slot), p_X6_say_L40 n v4 e_yes_3 d_rm_21 f_size k1 e_steps_3 d_rooms_21 v3 d_stateOf d_kindOf d_order d_note_21 d_sort_21 d_freshSort_21 p_table p_turn p_count f_next f_says f v5_40 s_sets_40 s_slots_40 s_count_40 d_count_40 d_next_40 d_says_40 = some o_40 → va_P G.1 vwCl ((WE G e_h e_hd e_hs e_q e_steps_3 e_yes_3) ++ (WS G e_hs s_q s_sets_40 s_slots_40 s_count_40) ++ (WD G e_hd d_hp d_q u_21 d_rm_21 d_stateOf d_kindOf d_order d_rooms_21 d_count_40 d_next_40 d_says_40 d_note_21 d_sort_21 d_freshSort_21) ++ (WP G d_hp p_q p_table p_turn p_count) ++ (WF G f_h f_q f_next f_says f_size)) H → va_D A ((WE G e_h e_hd e_hs e_q e_steps_3 e_yes_3) ++ (WS G e_hs s_q s_sets_40 s_slots_40 s_count_40) ++ (WD G e_hd d_hp d_q u_21 d_rm_21 d_stateOf d_kindOf d_order d_rooms_21 d_count_40 d_next_40 d_says_40 d_note_21 d_sort_21 d_freshSort_21) ++ (WP G d_hp p_q p_table p_turn p_count) ++ (WF G f_h f_q f_next f_says f_size)) → va_S A s.heap H locs → lv_has ls 8 [(0, .ref e_h), (1, .ref (f_h k0)), (2, .ref (f_h k1)), (3, .int v3), (4, .int v4), (5, .int v5_40)] → W p l e (rX6_say ms1) s m args below meth c H locs (0 + 5) (0 + (ms1)) Q (F0 m 40 ls []) := by
    intro f
    induction f with
    | zero => intro v5_40 s_sets_40 s_slots_40 s_count_40 d_count_40 d_next_40 d_says_40 H locs ls h hP hD hS hl; cases (show none = some _ from h)
    | succ f ih =>
      intro v5_40 s_sets_40 s_slots_40 s_count_40 d_count_40 d_next_40 d_says_40 H locs ls h hP hD hS hl
      rw [p_X6_say_L40] at h
      refine lv_iload hx hb dX6_say_40 (lv_at hl 5 rfl) ?_
      refine lv_aload_n hx hb dX6_say_42 rfl (lv_at hl 0 rfl) ?_
      refine va_get (D := G.1) (ci := 6) (v := .ref e_hd) (C := RX6) (T := TX6) (N := 4) hx hb hts hinX6 hown hK.1 hP 0 rfl rfl 0 (by decide) hf26 (fun _ h9 => h9) rfl dX6_say_43 ?_
      obtain ⟨r_46, hc_46, h⟩ := ob1_e h
      refine k_si (va_runV (As := []) (rest := [.int v5_40]) ⟨hx, hb, hml, hown, hts⟩ (c_X1_count l G e_hd d_hp d_q u_21 d_rm_21 d_stateOf d_kindOf d_order d_rooms_21 d_count_40 d_next_40 d_says_40 d_note_21 d_sort_21 d_freshSort_21   r_46 hc_46) (cwV 0 hts gX6_say_X1_count rfl rfl rfl ⟨rfl, eX1_count⟩ ⟨Nat.le_of_ble_eq_true rfl, Nat.le_of_ble_eq_true rfl⟩) (preSV (ci := 1) (q0 := 0) hK (hP.sub (ws' := WD G e_hd d_hp d_q u_21 d_rm_21 d_stateOf d_kindOf d_order d_rooms_21 d_count_40 d_next_40 d_says_40 d_note_21 d_sort_21 d_freshSort_21) [5, 6, 7, 8, 9, 10, 11, 12, 13] rfl) rfl rfl) rfl rfl hl.1 rfl (lv_room (Nat.le_of_ble_eq_true rfl)) dX6_say_46 ⟨Nat.le_of_ble_eq_true rfl, by show 0 + (ms1) + 0 ≤ ms1; omega⟩) ?_
      refine lv_icmp_ge (tgt := 149) hx hb dX6_say_49 (by decide) (fun c_49 => ?_) (fun c_49 => ?_)
      · replace h := (if_pos c_49).symm.trans h
        exact hX40 _ _ _ _ _ _  _ _ _ h hP hD hS (lv_sub hl [0, 1] rfl)
      · replace h := (if_neg c_49).symm.trans h
        refine lv_iload hx hb dX6_say_52 (lv_at hl 5 rfl) ?_
        refine lv_sipush (v := 300) hx hb dX6_say_54 (by decide) ?_
        refine lv_icmp_ge (tgt := 149) hx hb dX6_say_57 (by decide) (fun c_57 => ?_) (fun c_57 => ?_)
        · replace h := (if_pos c_57).symm.trans h
          exact hX40 _ _ _ _ _ _  _ _ _ h hP hD hS (lv_sub hl [0, 1] rfl)
        · replace h := (if_neg c_57).symm.trans h
          refine lv_aload_n hx hb dX6_say_60 rfl (lv_at hl 0 rfl) ?_
          refine va_get (D := G.1) (ci := 6) (v := .ref e_hs) (C := RX6) (T := TX6) (N := 4) hx hb hts hinX6 hown hK.1 hP 0 rfl rfl 1 (by decide) hf12 (fun _ h9 => h9) rfl dX6_say_61 ?_
          refine lv_iload hx hb dX6_say_64 (lv_at hl 5 rfl) ?_
          obtain ⟨r_66, hc_66, h⟩ := ob1_e h
          refine k_sl (va_runV (As := [.int v5_40]) (rest := []) ⟨hx, hb, hml, hown, hts⟩ (c_X7_setOf l G e_hs s_q s_sets_40 s_slots_40 s_count_40  v5_40 r_66 hc_66) (cwV 1 hts gX6_say_X7_setOf rfl rfl rfl ⟨rfl, eX7_setOf⟩ ⟨Nat.le_of_ble_eq_true rfl, Nat.le_of_ble_eq_true rfl⟩) (preSV (ci := 7) (q0 := 0) hK (hP.sub (ws' := WS G e_hs s_q s_sets_40 s_slots_40 s_count_40) [2, 3, 4] rfl) rfl rfl) rfl rfl hl.1 rfl (lv_room (Nat.le_of_ble_eq_true rfl)) dX6_say_66 ⟨Nat.le_of_ble_eq_true rfl, by show 0 + (ms1) + 0 ≤ ms1; omega⟩) ?_
          refine lv_lstore (lv' := [(6, .long r_66), (0, .ref e_h), (1, .ref (f_h k0)), (2, .ref (f_h k1)), (3, .int v3), (4, .int v4), (5, .int v5_40)]) hx hb dX6_say_69 hl (by decide) rfl (fun ls hl => ?_)
          refine lv_aload_n hx hb dX6_say_71 rfl (lv_at hl 1 rfl) ?_
          refine va_get (D := G.1) (ci := 6) (v := .ref e_hd) (C := RX6) (T := TX6) (N := 4) hx hb hts hinX6 hown hK.1 hP 0 rfl rfl 0 (by decide) hf26 (fun _ h9 => h9) rfl dX6_say_72 ?_
          refine lv_iload hx hb dX6_say_75 (lv_at hl 6 rfl) ?_
          refine lv_iload hx hb dX6_say_77 (lv_at hl 5 rfl) ?_
          obtain ⟨j0_79, hT79, h⟩ := ob1_e h
          have hJ79 : ∀ (j0_79x : Int32)  (H : Heap) (locs : List Loc) (ls : Array Slot), some j0_79x = some j0_79 → va_P G.1 vwCl ((WE G e_h e_hd e_hs e_q e_steps_3 e_yes_3) ++ (WS G e_hs s_q s_sets_40 s_slots_40 s_count_40) ++ (WD G e_hd d_hp d_q u_21 d_rm_21 d_stateOf d_kindOf d_order d_rooms_21 d_count_40 d_next_40 d_says_40 d_note_21 d_sort_21 d_freshSort_21) ++ (WP G d_hp p_q p_table p_turn p_count) ++ (WF G f_h f_q f_next f_says f_size)) H → va_D A ((WE G e_h e_hd e_hs e_q e_steps_3 e_yes_3) ++ (WS G e_hs s_q s_sets_40 s_slots_40 s_count_40) ++ (WD G e_hd d_hp d_q u_21 d_rm_21 d_stateOf d_kindOf d_order d_rooms_21 d_count_40 d_next_40 d_says_40 d_note_21 d_sort_21 d_freshSort_21) ++ (WP G d_hp p_q p_table p_turn p_count) ++ (WF G f_h f_q f_next f_says f_size)) → va_S A s.heap H locs → lv_has ls 8 [(0, .ref e_h), (1, .ref (f_h k0)), (2, .ref (f_h k1)), (3, .int v3), (4, .int v4), (5, .int v5_40)] → W p l e (rX6_say ms1) s m args below meth c H locs (0 + 5) (0 + (ms1)) Q (F0 m 123 ls [.int j0_79x, .int v5_40, .ref e_hd]) := by
            intro j0_79x H locs ls hq hP hD hS hl
            obtain rfl := oi1 hq
            obtain ⟨d_says_123, hc_123, h⟩ := ob1_e h
            refine k_cv (wr := (WE G e_h e_hd e_hs e_q e_steps_3 e_yes_3) ++ (WS G e_hs s_q s_sets_40 s_slots_40 s_count_40) ++ (WP G d_hp p_q p_table p_turn p_count) ++ (WF G f_h f_q f_next f_says f_size)) (va_runV (As := [.int v5_40, .int j0_79]) (rest := []) ⟨hx, hb, hml, hown, hts⟩ (c_X1_writeSays l G e_hd d_hp d_q u_21 d_rm_21 d_stateOf d_kindOf d_order d_rooms_21 d_count_40 d_next_40 d_says_40 d_note_21 d_sort_21 d_freshSort_21  v5_40 j0_79 _ d_says_123 hc_123) (cwV 2 hts gX6_say_X1_writeSays rfl rfl rfl ⟨rfl, eX1_writeSays⟩ ⟨Nat.le_of_ble_eq_true rfl, Nat.le_of_ble_eq_true rfl⟩) (preWV (ci := 1) (q0 := 0) hK (hP.sub (ws' := WD G e_hd d_hp d_q u_21 d_rm_21 d_stateOf d_kindOf d_order d_rooms_21 d_count_40 d_next_40 d_says_40 d_note_21 d_sort_21 d_freshSort_21) [5, 6, 7, 8, 9, 10, 11, 12, 13] rfl) (hD.sub (ws' := WD G e_hd d_hp d_q u_21 d_rm_21 d_stateOf d_kindOf d_order d_rooms_21 d_count_40 d_next_40 d_says_40 d_note_21 d_sort_21 d_freshSort_21) [5, 6, 7, 8, 9, 10, 11, 12, 13] (by decide) rfl) rfl rfl) rfl rfl hl.1 rfl (lv_room (Nat.le_of_ble_eq_true rfl)) dX6_say_123 ⟨Nat.le_of_ble_eq_true rfl, by show 0 + (ms1) + 0 ≤ ms1; omega⟩) hP hD hS hA [5, 6, 7, 8, 9, 10, 11, 12, 13] [0, 1, 2, 3, 4, 14, 15, 16, 17, 18, 19, 20, 21, 22, 23, 24, 25, 26, 27, 28, 29, 30, 31, 32, 33, 34, 35, 36] rfl rfl (by decide) (by decide) (fun u_123 H locs hP hD hS => ?_)
            have hP := hP.sub (ws' := (WE G e_h e_hd e_hs e_q e_steps_3 e_yes_3) ++ (WS G e_hs s_q s_sets_40 s_slots_40 s_count_40) ++ (WD G e_hd d_hp d_q u_21 d_rm_21 d_stateOf d_kindOf d_order d_rooms_21 d_count_40 d_next_40 d_says_123 d_note_21 d_sort_21 d_freshSort_21) ++ (WP G d_hp p_q p_table p_turn p_count) ++ (WF G f_h f_q f_next f_says f_size)) [0, 1, 2, 3, 4, 28, 29, 30, 31, 32, 33, 34, 35, 36, 5, 6, 7, 8, 9, 10, 11, 12, 13, 14, 15, 16, 17, 18, 19, 20, 21, 22, 23, 24, 25, 26, 27] rfl
            have hD := hD.sub (ws' := (WE G e_h e_hd e_hs e_q e_steps_3 e_yes_3) ++ (WS G e_hs s_q s_sets_40 s_slots_40 s_count_40) ++ (WD G e_hd d_hp d_q u_21 d_rm_21 d_stateOf d_kindOf d_order d_rooms_21 d_count_40 d_next_40 d_says_123 d_note_21 d_sort_21 d_freshSort_21) ++ (WP G d_hp p_q p_table p_turn p_count) ++ (WF G f_h f_q f_next f_says f_size)) [0, 1, 2, 3, 4, 28, 29, 30, 31, 32, 33, 34, 35, 36, 5, 6, 7, 8, 9, 10, 11, 12, 13, 14, 15, 16, 17, 18, 19, 20, 21, 22, 23, 24, 25, 26, 27] (by decide) rfl
            refine lv_aload_n hx hb dX6_say_126 rfl (lv_at hl 0 rfl) ?_
            refine lv_iload hx hb dX6_say_127 (lv_at hl 5 rfl) ?_
            refine lv_aload_n hx hb dX6_say_129 rfl (lv_at hl 2 rfl) ?_
            obtain ⟨r_130, hc_130, h⟩ := ob1_e h
            refine k_si (va_runV (As := []) (rest := [.int v5_40, .ref e_h]) ⟨hx, hb, hml, hown, hts⟩ (c_X0_size l G (f_h k1) (f_q k1) (f_next k1) (f_says k1) (f_size k1)   r_130 hc_130) (cwV 0 hts gX6_say_X0_size rfl rfl rfl ⟨rfl, eX0_size⟩ ⟨Nat.le_of_ble_eq_true rfl, Nat.le_of_ble_eq_true rfl⟩) (preSV (ci := 0) (q0 := 0) hK (famC (hP.sub (ws' := WF G f_h f_q f_next f_says f_size) [16, 17, 18, 19, 20, 21, 22, 23, 24, 25, 26, 27, 28, 29, 30, 31, 32, 33, 34, 35, 36] rfl) k1 hk1) rfl rfl) rfl rfl hl.1 rfl (lv_room (Nat.le_of_ble_eq_true rfl)) dX6_say_130 ⟨Nat.le_of_ble_eq_true rfl, by show 0 + (ms1) + 0 ≤ ms1; omega⟩) ?_
            refine lv_iload_n hx hb dX6_say_133 rfl (lv_at hl 3 rfl) ?_
            obtain ⟨r_134, s_sets_134, s_slots_134, s_count_134, d_count_134, d_next_134, hc_134, h⟩ := ob6_e h
            refine k_ci (wr := (WP G d_hp p_q p_table p_turn p_count) ++ (WF G f_h f_q f_next f_says f_size)) (va_runV (As := [.int v5_40, .int r_130, .int v3]) (rest := []) ⟨hx, hb, hml, hown, hts⟩ (c_X6_stepOn l G n e_h e_hd e_hs e_q s_q d_hp d_q u_21 e_steps_3 e_yes_3 s_sets_40 s_slots_40 s_count_40 d_rm_21 d_stateOf d_kindOf d_order d_rooms_21 d_count_40 d_next_40 d_says_123 d_note_21 d_sort_21 d_freshSort_21  v5_40 r_130 v3 _ r_134 s_sets_134 s_slots_134 s_count_134 d_count_134 d_next_134 hc_134) (cwV 3 hts gX6_say_X6_stepOn rfl rfl rfl ⟨rfl, eX6_stepOn⟩ ⟨Nat.le_of_ble_eq_true rfl, Nat.le_of_ble_eq_true rfl⟩) (preWV (ci := 6) (q0 := 0) hK (hP.sub (ws' := (WE G e_h e_hd e_hs e_q e_steps_3 e_yes_3) ++ (WS G e_hs s_q s_sets_40 s_slots_40 s_count_40) ++ (WD G e_hd d_hp d_q u_21 d_rm_21 d_stateOf d_kindOf d_order d_rooms_21 d_count_40 d_next_40 d_says_123 d_note_21 d_sort_21 d_freshSort_21)) [0, 1, 2, 3, 4, 5, 6, 7, 8, 9, 10, 11, 12, 13] rfl) (hD.sub (ws' := (WE G e_h e_hd e_hs e_q e_steps_3 e_yes_3) ++ (WS G e_hs s_q s_sets_40 s_slots_40 s_count_40) ++ (WD G e_hd d_hp d_q u_21 d_rm_21 d_stateOf d_kindOf d_order d_rooms_21 d_count_40 d_next_40 d_says_123 d_note_21 d_sort_21 d_freshSort_21)) [0, 1, 2, 3, 4, 5, 6, 7, 8, 9, 10, 11, 12, 13] (by decide) rfl) rfl rfl) rfl rfl hl.1 rfl (lv_room (Nat.le_of_ble_eq_true rfl)) dX6_say_134 ⟨Nat.le_of_ble_eq_true rfl, by show 0 + (ms1) + 0 ≤ ms1; omega⟩) hP hD hS hA [0, 1, 2, 3, 4, 5, 6, 7, 8, 9, 10, 11, 12, 13] [14, 15, 16, 17, 18, 19, 20, 21, 22, 23, 24, 25, 26, 27, 28, 29, 30, 31, 32, 33, 34, 35, 36] rfl rfl (by decide) (by decide) (fun u_134 H locs hP hD hS => ?_)
            have hP := hP.sub (ws' := (WE G e_h e_hd e_hs e_q e_steps_3 e_yes_3) ++ (WS G e_hs s_q s_sets_134 s_slots_134 s_count_134) ++ (WD G e_hd d_hp d_q u_21 d_rm_21 d_stateOf d_kindOf d_order d_rooms_21 d_count_134 d_next_134 d_says_123 d_note_21 d_sort_21 d_freshSort_21) ++ (WP G d_hp p_q p_table p_turn p_count) ++ (WF G f_h f_q f_next f_says f_size)) [23, 24, 25, 26, 27, 28, 29, 30, 31, 32, 33, 34, 35, 36, 0, 1, 2, 3, 4, 5, 6, 7, 8, 9, 10, 11, 12, 13, 14, 15, 16, 17, 18, 19, 20, 21, 22] rfl
            have hD := hD.sub (ws' := (WE G e_h e_hd e_hs e_q e_steps_3 e_yes_3) ++ (WS G e_hs s_q s_sets_134 s_slots_134 s_count_134) ++ (WD G e_hd d_hp d_q u_21 d_rm_21 d_stateOf d_kindOf d_order d_rooms_21 d_count_134 d_next_134 d_says_123 d_note_21 d_sort_21 d_freshSort_21) ++ (WP G d_hp p_q p_table p_turn p_count) ++ (WF G f_h f_q f_next f_says f_size)) [23, 24, 25, 26, 27, 28, 29, 30, 31, 32, 33, 34, 35, 36, 0, 1, 2, 3, 4, 5, 6, 7, 8, 9, 10, 11, 12, 13, 14, 15, 16, 17, 18, 19, 20, 21, 22] (by decide) rfl
            refine lv_if_ne (tgt := 143) hx hb dX6_say_137 (by decide) (fun c_137 => ?_) (fun c_137 => ?_)
            · replace h := (if_neg c_137).symm.trans h
              refine lv_iinc (v := (v5_40 + (1 : Int32))) (lv' := [(5, .int (v5_40 + (1 : Int32))), (0, .ref e_h), (1, .ref (f_h k0)), (2, .ref (f_h k1)), (3, .int v3), (4, .int v4)]) hx hb dX6_say_143 hl (k := 5) rfl rfl (by decide) rfl (fun ls hl => ?_)
              refine lv_goto (tgt := 40) hx hb dX6_say_146 (by decide) ?_
              exact ih _ _ _ _ _ _ _  _ _ _ h hP hD hS (lv_sub hl [1, 2, 3, 4, 5, 0] rfl)
            · replace h := (if_pos c_137).symm.trans h
              refine lv_bipush (v := -6) hx hb dX6_say_140 (by decide) ?_
              rcases hd40 with ⟨x, hx1, h2⟩ | ⟨_, _, _, _, _, _, hx1, _⟩
              · rw [hx1] at h
                have hx2 := oiL h
                rw [hx2] at h2
                replace h := h2
                obtain ⟨rfl, rfl, rfl, rfl, rfl, rfl, rfl, rfl, rfl, rfl, rfl, rfl, rfl, rfl, rfl, rfl, rfl, rfl, rfl, rfl, rfl, rfl, rfl⟩ := oi23 h
                exact hret u_21 _ _ _ _ _ _ _ dX6_say_142 rfl rfl hP hD hS (Nat.le_of_ble_eq_true rfl) (by show 0 + (ms1) ≤ ms1; omega)
              · rw [hx1] at h; cases h
          replace h := hT79
          refine lv_if_eq (tgt := 106) hx hb dX6_say_79 (by decide) (fun c_79 => ?_) (fun c_79 => ?_)
          · replace h := (if_pos c_79).symm.trans h
            refine lv_lload hx hb dX6_say_106 (lv_at hl 0 rfl) ?_
            refine lv_aload_n hx hb dX6_say_108 rfl (lv_at hl 1 rfl) ?_
            refine va_get (D := G.1) (ci := 6) (v := .long e_yes_3) (C := RX6) (T := TX6) (N := 4) hx hb hts hinX6 hown hK.1 hP 0 rfl rfl 3 (by decide) hf22 (fun _ h9 => h9) rfl dX6_say_109 ?_
            refine lv_land hx hb dX6_say_112 ?_
            refine lv_lconst (v := 0) hx hb dX6_say_113 (by decide) ?_
            refine W.lcmp hx hb dX6_say_114 ?_
            refine lv_if_eq (tgt := 122) hx hb dX6_say_115 (by decide) (fun c_115 => ?_) (fun c_115 => ?_)
            · replace h := (if_pos c_115).symm.trans h
              refine lv_iconst (v := 0) hx hb dX6_say_122 (by decide) ?_
              exact hJ79 _  _ _ _ h hP hD hS (lv_sub hl [1, 2, 3, 4, 5, 6] rfl)
            · replace h := (if_neg c_115).symm.trans h
              refine lv_iconst (v := 1) hx hb dX6_say_118 (by decide) ?_
              refine lv_goto (tgt := 123) hx hb dX6_say_119 (by decide) ?_
              exact hJ79 _  _ _ _ h hP hD hS (lv_sub hl [1, 2, 3, 4, 5, 6] rfl)
          · replace h := (if_neg c_79).symm.trans h
            refine lv_lload hx hb dX6_say_82 (lv_at hl 0 rfl) ?_
            refine lv_aload_n hx hb dX6_say_84 rfl (lv_at hl 1 rfl) ?_
            refine va_get (D := G.1) (ci := 6) (v := .long e_yes_3) (C := RX6) (T := TX6) (N := 4) hx hb hts hinX6 hown hK.1 hP 0 rfl rfl 3 (by decide) hf22 (fun _ h9 => h9) rfl dX6_say_85 ?_
            refine lv_ldc2 (v := -1) hx hb hown (hts (.constantLong RX6 63 (-1)) (by decide +kernel)) dX6_say_88 ?_
            refine lv_lxor hx hb dX6_say_91 ?_
            refine lv_land hx hb dX6_say_92 ?_
            refine lv_lconst (v := 0) hx hb dX6_say_93 (by decide) ?_
            refine W.lcmp hx hb dX6_say_94 ?_
            refine lv_if_ne (tgt := 102) hx hb dX6_say_95 (by decide) (fun c_95 => ?_) (fun c_95 => ?_)
            · replace h := (if_neg c_95).symm.trans h
              refine lv_iconst (v := 0) hx hb dX6_say_102 (by decide) ?_
              refine lv_goto (tgt := 123) hx hb dX6_say_103 (by decide) ?_
              exact hJ79 _  _ _ _ h hP hD hS (lv_sub hl [1, 2, 3, 4, 5, 6] rfl)
            · replace h := (if_pos c_95).symm.trans h
              refine lv_iconst (v := 1) hx hb dX6_say_98 (by decide) ?_
              refine lv_goto (tgt := 123) hx hb dX6_say_99 (by decide) ?_
              exact hJ79 _  _ _ _ h hP hD hS (lv_sub hl [1, 2, 3, 4, 5, 6] rfl)
  exact hL40 n _ _ _ _ _ _ _  _ _ _ hT40 hP hD hS (lv_sub hl [1, 2, 3, 4, 5, 0] rfl)
