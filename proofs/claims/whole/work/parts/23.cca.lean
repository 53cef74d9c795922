abbrev rX9_isClaim : Room := { frames := 0, cells := 0, slots := 0, locals := 0 }
set_option maxHeartbeats 4000000 in
set_option maxRecDepth 100000 in
theorem c_X9_isClaim (l : Launch) (G : GG)    (v0 : Int32) (r : Int32) (h : p_X9_isClaim v0 = some r) : SI l yX9_isClaim wsX9_isClaim rX9_isClaim G [.int v0] (([] : va_W)) r := by
  refine enterSI (cc := cX9_isClaim) (maxL := 1) (by decide) rfl (Nat.le_of_ble_eq_true rfl) ?_
  intro p e s m args below meth c Q hx hb hml hown hts hK hP hret ls hl
  have hown : s.vm.findClass RX9 = some m.cls := hown
  have hl : lv_has ls 1 [(0, .int v0)] := hl
  unfold p_X9_isClaim at h
  refine lv_iload_n hx hb dX9_isClaim_0 rfl (lv_at hl 0 rfl) ?_
  refine lv_if_lt (tgt := 14) hx hb dX9_isClaim_1 (by decide) (fun c_1 => ?_) (fun c_1 => ?_)
  · replace h := (if_pos c_1).symm.trans h
    refine lv_iconst (v := 0) hx hb dX9_isClaim_14 (by decide) ?_
    obtain ⟨gbv, h⟩ := gb_e h
    obtain rfl := oi1 h
    exact hret _ _ _ dX9_isClaim_15 rfl (nb gbv)
  · replace h := (if_neg c_1).symm.trans h
    refine lv_iload_n hx hb dX9_isClaim_4 rfl (lv_at hl 0 rfl) ?_
    refine lv_bipush (v := 6) hx hb dX9_isClaim_5 (by decide) ?_
    refine lv_icmp_ge (tgt := 14) hx hb dX9_isClaim_7 (by decide) (fun c_7 => ?_) (fun c_7 => ?_)
    · replace h := (if_pos c_7).symm.trans h
      refine lv_iconst (v := 0) hx hb dX9_isClaim_14 (by decide) ?_
      obtain ⟨gbv, h⟩ := gb_e h
      obtain rfl := oi1 h
      exact hret _ _ _ dX9_isClaim_15 rfl (nb gbv)
    · replace h := (if_neg c_7).symm.trans h
      refine lv_iconst (v := 1) hx hb dX9_isClaim_10 (by decide) ?_
      refine lv_goto (tgt := 15) hx hb dX9_isClaim_11 (by decide) ?_
      obtain ⟨gbv, h⟩ := gb_e h
      obtain rfl := oi1 h
      exact hret _ _ _ dX9_isClaim_15 rfl (nb gbv)
abbrev rX9_isNumber : Room := { frames := 0, cells := 0, slots := 0, locals := 0 }
set_option maxHeartbeats 4000000 in
set_option maxRecDepth 100000 in
theorem c_X9_isNumber (l : Launch) (G : GG)    (v0 : Int32) (r : Int32) (h : p_X9_isNumber v0 = some r) : SI l yX9_isNumber wsX9_isNumber rX9_isNumber G [.int v0] (([] : va_W)) r := by
  refine enterSI (cc := cX9_isNumber) (maxL := 1) (by decide) rfl (Nat.le_of_ble_eq_true rfl) ?_
  intro p e s m args below meth c Q hx hb hml hown hts hK hP hret ls hl
  have hown : s.vm.findClass RX9 = some m.cls := hown
  have hl : lv_has ls 1 [(0, .int v0)] := hl
  unfold p_X9_isNumber at h
  refine lv_iload_n hx hb dX9_isNumber_0 rfl (lv_at hl 0 rfl) ?_
  refine lv_if_lt (tgt := 13) hx hb dX9_isNumber_1 (by decide) (fun c_1 => ?_) (fun c_1 => ?_)
  · replace h := (if_pos c_1).symm.trans h
    refine lv_iconst (v := 0) hx hb dX9_isNumber_13 (by decide) ?_
    obtain ⟨gbv, h⟩ := gb_e h
    obtain rfl := oi1 h
    exact hret _ _ _ dX9_isNumber_14 rfl (nb gbv)
  · replace h := (if_neg c_1).symm.trans h
    refine lv_iload_n hx hb dX9_isNumber_4 rfl (lv_at hl 0 rfl) ?_
    refine lv_iconst (v := 3) hx hb dX9_isNumber_5 (by decide) ?_
    refine lv_icmp_ge (tgt := 13) hx hb dX9_isNumber_6 (by decide) (fun c_6 => ?_) (fun c_6 => ?_)
    · replace h := (if_pos c_6).symm.trans h
      refine lv_iconst (v := 0) hx hb dX9_isNumber_13 (by decide) ?_
      obtain ⟨gbv, h⟩ := gb_e h
      obtain rfl := oi1 h
      exact hret _ _ _ dX9_isNumber_14 rfl (nb gbv)
    · replace h := (if_neg c_6).symm.trans h
      refine lv_iconst (v := 1) hx hb dX9_isNumber_9 (by decide) ?_
      refine lv_goto (tgt := 14) hx hb dX9_isNumber_10 (by decide) ?_
      obtain ⟨gbv, h⟩ := gb_e h
      obtain rfl := oi1 h
      exact hret _ _ _ dX9_isNumber_14 rfl (nb gbv)
abbrev rX9_areTwoNumbers : Room := { frames := 1, cells := 0, slots := 0, locals := 20 }
set_option maxHeartbeats 4000000 in
set_option maxRecDepth 100000 in
theorem c_X9_areTwoNumbers (l : Launch) (G : GG)    (v0 : Int32) (v1 : Int32) (r : Int32) (h : p_X9_areTwoNumbers v0 v1 = some r) : SI l yX9_areTwoNumbers wsX9_areTwoNumbers rX9_areTwoNumbers G [.int v0, .int v1] (([] : va_W)) r := by
  refine enterSI (cc := cX9_areTwoNumbers) (maxL := 2) (by decide) rfl (Nat.le_of_ble_eq_true rfl) ?_
  intro p e s m args below meth c Q hx hb hml hown hts hK hP hret ls hl
  have hown : s.vm.findClass RX9 = some m.cls := hown
  have hl : lv_has ls 2 [(0, .int v0), (1, .int v1)] := hl
  unfold p_X9_areTwoNumbers at h
  refine lv_iload_n hx hb dX9_areTwoNumbers_0 rfl (lv_at hl 0 rfl) ?_
  obtain ⟨r_1, hc_1, h⟩ := ob1_e h
  refine k_si (va_runS (As := [.int v0]) (rest := []) ⟨hx, hb, hml, hown, hts⟩ (c_X9_isNumber l G    v0 r_1 hc_1) (va_cwS 1 hts gX9_areTwoNumbers_X9_isNumber rfl rfl rfl eX9_isNumber ⟨Nat.le_of_ble_eq_true rfl, Nat.le_of_ble_eq_true rfl⟩) (preSS hK (fun k q h => by cases h)) rfl rfl hl.1 rfl (lv_room (Nat.le_of_ble_eq_true rfl)) dX9_areTwoNumbers_1 ⟨Nat.le_of_ble_eq_true rfl, Nat.le_of_ble_eq_true rfl⟩) ?_
  refine lv_if_eq (tgt := 23) hx hb dX9_areTwoNumbers_4 (by decide) (fun c_4 => ?_) (fun c_4 => ?_)
  · replace h := (if_pos c_4).symm.trans h
    refine lv_iconst (v := 0) hx hb dX9_areTwoNumbers_23 (by decide) ?_
    obtain ⟨gbv, h⟩ := gb_e h
    obtain rfl := oi1 h
    exact hret _ _ _ dX9_areTwoNumbers_24 rfl (nb gbv)
  · replace h := (if_neg c_4).symm.trans h
    refine lv_iload_n hx hb dX9_areTwoNumbers_7 rfl (lv_at hl 1 rfl) ?_
    obtain ⟨r_8, hc_8, h⟩ := ob1_e h
    refine k_si (va_runS (As := [.int v1]) (rest := []) ⟨hx, hb, hml, hown, hts⟩ (c_X9_isNumber l G    v1 r_8 hc_8) (va_cwS 1 hts gX9_areTwoNumbers_X9_isNumber rfl rfl rfl eX9_isNumber ⟨Nat.le_of_ble_eq_true rfl, Nat.le_of_ble_eq_true rfl⟩) (preSS hK (fun k q h => by cases h)) rfl rfl hl.1 rfl (lv_room (Nat.le_of_ble_eq_true rfl)) dX9_areTwoNumbers_8 ⟨Nat.le_of_ble_eq_true rfl, Nat.le_of_ble_eq_true rfl⟩) ?_
    refine lv_if_eq (tgt := 23) hx hb dX9_areTwoNumbers_11 (by decide) (fun c_11 => ?_) (fun c_11 => ?_)
    · replace h := (if_pos c_11).symm.trans h
      refine lv_iconst (v := 0) hx hb dX9_areTwoNumbers_23 (by decide) ?_
      obtain ⟨gbv, h⟩ := gb_e h
      obtain rfl := oi1 h
      exact hret _ _ _ dX9_areTwoNumbers_24 rfl (nb gbv)
    · replace h := (if_neg c_11).symm.trans h
      refine lv_iload_n hx hb dX9_areTwoNumbers_14 rfl (lv_at hl 0 rfl) ?_
      refine lv_iload_n hx hb dX9_areTwoNumbers_15 rfl (lv_at hl 1 rfl) ?_
      refine lv_icmp_eq (tgt := 23) hx hb dX9_areTwoNumbers_16 (by decide) (fun c_16 => ?_) (fun c_16 => ?_)
      · replace h := (if_pos c_16).symm.trans h
        refine lv_iconst (v := 0) hx hb dX9_areTwoNumbers_23 (by decide) ?_
        obtain ⟨gbv, h⟩ := gb_e h
        obtain rfl := oi1 h
        exact hret _ _ _ dX9_areTwoNumbers_24 rfl (nb gbv)
      · replace h := (if_neg c_16).symm.trans h
        refine lv_iconst (v := 1) hx hb dX9_areTwoNumbers_19 (by decide) ?_
        refine lv_goto (tgt := 24) hx hb dX9_areTwoNumbers_20 (by decide) ?_
        obtain ⟨gbv, h⟩ := gb_e h
        obtain rfl := oi1 h
        exact hret _ _ _ dX9_areTwoNumbers_24 rfl (nb gbv)
abbrev rX9_isPlace : Room := { frames := 0, cells := 0, slots := 0, locals := 0 }
set_option maxHeartbeats 4000000 in
set_option maxRecDepth 100000 in
theorem c_X9_isPlace (l : Launch) (G : GG)    (v0 : Int32) (r : Int32) (h : p_X9_isPlace v0 = some r) : SI l yX9_isPlace wsX9_isPlace rX9_isPlace G [.int v0] (([] : va_W)) r := by
  refine enterSI (cc := cX9_isPlace) (maxL := 1) (by decide) rfl (Nat.le_of_ble_eq_true rfl) ?_
  intro p e s m args below meth c Q hx hb hml hown hts hK hP hret ls hl
  have hown : s.vm.findClass RX9 = some m.cls := hown
  have hl : lv_has ls 1 [(0, .int v0)] := hl
  unfold p_X9_isPlace at h
  refine lv_iload_n hx hb dX9_isPlace_0 rfl (lv_at hl 0 rfl) ?_
  refine lv_if_lt (tgt := 13) hx hb dX9_isPlace_1 (by decide) (fun c_1 => ?_) (fun c_1 => ?_)
  · replace h := (if_pos c_1).symm.trans h
    refine lv_iconst (v := 0) hx hb dX9_isPlace_13 (by decide) ?_
    obtain ⟨gbv, h⟩ := gb_e h
    obtain rfl := oi1 h
    exact hret _ _ _ dX9_isPlace_14 rfl (nb gbv)
  · replace h := (if_neg c_1).symm.trans h
    refine lv_iload_n hx hb dX9_isPlace_4 rfl (lv_at hl 0 rfl) ?_
    refine lv_iconst (v := 5) hx hb dX9_isPlace_5 (by decide) ?_
    refine lv_icmp_ge (tgt := 13) hx hb dX9_isPlace_6 (by decide) (fun c_6 => ?_) (fun c_6 => ?_)
    · replace h := (if_pos c_6).symm.trans h
      refine lv_iconst (v := 0) hx hb dX9_isPlace_13 (by decide) ?_
      obtain ⟨gbv, h⟩ := gb_e h
      obtain rfl := oi1 h
      exact hret _ _ _ dX9_isPlace_14 rfl (nb gbv)
    · replace h := (if_neg c_6).symm.trans h
      refine lv_iconst (v := 1) hx hb dX9_isPlace_9 (by decide) ?_
      refine lv_goto (tgt := 14) hx hb dX9_isPlace_10 (by decide) ?_
      obtain ⟨gbv, h⟩ := gb_e h
      obtain rfl := oi1 h
      exact hret _ _ _ dX9_isPlace_14 rfl (nb gbv)
abbrev rX9_isTelling : Room := { frames := 0, cells := 0, slots := 0, locals := 0 }
set_option maxHeartbeats 4000000 in
set_option maxRecDepth 100000 in
theorem c_X9_isTelling (l : Launch) (G : GG)    (v0 : Int32) (r : Int32) (h : p_X9_isTelling v0 = some r) : SI l yX9_isTelling wsX9_isTelling rX9_isTelling G [.int v0] (([] : va_W)) r := by
  refine enterSI (cc := cX9_isTelling) (maxL := 1) (by decide) rfl (Nat.le_of_ble_eq_true rfl) ?_
  intro p e s m args below meth c Q hx hb hml hown hts hK hP hret ls hl
  have hown : s.vm.findClass RX9 = some m.cls := hown
  have hl : lv_has ls 1 [(0, .int v0)] := hl
  unfold p_X9_isTelling at h
  refine lv_iload_n hx hb dX9_isTelling_0 rfl (lv_at hl 0 rfl) ?_
  refine lv_if_lt (tgt := 13) hx hb dX9_isTelling_1 (by decide) (fun c_1 => ?_) (fun c_1 => ?_)
  · replace h := (if_pos c_1).symm.trans h
    refine lv_iconst (v := 0) hx hb dX9_isTelling_13 (by decide) ?_
    obtain ⟨gbv, h⟩ := gb_e h
    obtain rfl := oi1 h
    exact hret _ _ _ dX9_isTelling_14 rfl (nb gbv)
  · replace h := (if_neg c_1).symm.trans h
    refine lv_iload_n hx hb dX9_isTelling_4 rfl (lv_at hl 0 rfl) ?_
    refine lv_iconst (v := 3) hx hb dX9_isTelling_5 (by decide) ?_
    refine lv_icmp_ge (tgt := 13) hx hb dX9_isTelling_6 (by decide) (fun c_6 => ?_) (fun c_6 => ?_)
    · replace h := (if_pos c_6).symm.trans h
      refine lv_iconst (v := 0) hx hb dX9_isTelling_13 (by decide) ?_
      obtain ⟨gbv, h⟩ := gb_e h
      obtain rfl := oi1 h
      exact hret _ _ _ dX9_isTelling_14 rfl (nb gbv)
    · replace h := (if_neg c_6).symm.trans h
      refine lv_iconst (v := 1) hx hb dX9_isTelling_9 (by decide) ?_
      refine lv_goto (tgt := 14) hx hb dX9_isTelling_10 (by decide) ?_
      obtain ⟨gbv, h⟩ := gb_e h
      obtain rfl := oi1 h
      exact hret _ _ _ dX9_isTelling_14 rfl (nb gbv)
abbrev rX9_isTold : Room := { frames := 0, cells := 0, slots := 0, locals := 0 }
set_option maxHeartbeats 4000000 in
set_option maxRecDepth 100000 in
theorem c_X9_isTold (l : Launch) (G : GG)    (v0 : Int32) (r : Int32) (h : p_X9_isTold v0 = some r) : SI l yX9_isTold wsX9_isTold rX9_isTold G [.int v0] (([] : va_W)) r := by
  refine enterSI (cc := cX9_isTold) (maxL := 1) (by decide) rfl (Nat.le_of_ble_eq_true rfl) ?_
  intro p e s m args below meth c Q hx hb hml hown hts hK hP hret ls hl
  have hown : s.vm.findClass RX9 = some m.cls := hown
  have hl : lv_has ls 1 [(0, .int v0)] := hl
  unfold p_X9_isTold at h
  refine lv_iload_n hx hb dX9_isTold_0 rfl (lv_at hl 0 rfl) ?_
  refine lv_if_lt (tgt := 14) hx hb dX9_isTold_1 (by decide) (fun c_1 => ?_) (fun c_1 => ?_)
  · replace h := (if_pos c_1).symm.trans h
    refine lv_iconst (v := 0) hx hb dX9_isTold_14 (by decide) ?_
    obtain ⟨gbv, h⟩ := gb_e h
    obtain rfl := oi1 h
    exact hret _ _ _ dX9_isTold_15 rfl (nb gbv)
  · replace h := (if_neg c_1).symm.trans h
    refine lv_iload_n hx hb dX9_isTold_4 rfl (lv_at hl 0 rfl) ?_
    refine lv_ldc (v := 1000000000) hx hb hown (hts (.constant RX9 181 (1000000000)) (by decide +kernel)) dX9_isTold_5 ?_
    refine lv_icmp_gt (tgt := 14) hx hb dX9_isTold_7 (by decide) (fun c_7 => ?_) (fun c_7 => ?_)
    · replace h := (if_pos c_7).symm.trans h
      refine lv_iconst (v := 0) hx hb dX9_isTold_14 (by decide) ?_
      obtain ⟨gbv, h⟩ := gb_e h
      obtain rfl := oi1 h
      exact hret _ _ _ dX9_isTold_15 rfl (nb gbv)
    · replace h := (if_neg c_7).symm.trans h
      refine lv_iconst (v := 1) hx hb dX9_isTold_10 (by decide) ?_
      refine lv_goto (tgt := 15) hx hb dX9_isTold_11 (by decide) ?_
      obtain ⟨gbv, h⟩ := gb_e h
      obtain rfl := oi1 h
      exact hret _ _ _ dX9_isTold_15 rfl (nb gbv)
abbrev rX9_isColumn : Room := { frames := 0, cells := 0, slots := 0, locals := 0 }
set_option maxHeartbeats 4000000 in
set_option maxRecDepth 100000 in
theorem c_X9_isColumn (l : Launch) (G : GG)    (v0 : Int32) (r : Int32) (h : p_X9_isColumn v0 = some r) : SI l yX9_isColumn wsX9_isColumn rX9_isColumn G [.int v0] (([] : va_W)) r := by
  refine enterSI (cc := cX9_isColumn) (maxL := 1) (by decide) rfl (Nat.le_of_ble_eq_true rfl) ?_
  intro p e s m args below meth c Q hx hb hml hown hts hK hP hret ls hl
  have hown : s.vm.findClass RX9 = some m.cls := hown
  have hl : lv_has ls 1 [(0, .int v0)] := hl
  unfold p_X9_isColumn at h
  refine lv_iload_n hx hb dX9_isColumn_0 rfl (lv_at hl 0 rfl) ?_
  refine lv_if_lt (tgt := 14) hx hb dX9_isColumn_1 (by decide) (fun c_1 => ?_) (fun c_1 => ?_)
  · replace h := (if_pos c_1).symm.trans h
    refine lv_iconst (v := 0) hx hb dX9_isColumn_14 (by decide) ?_
    obtain ⟨gbv, h⟩ := gb_e h
    obtain rfl := oi1 h
    exact hret _ _ _ dX9_isColumn_15 rfl (nb gbv)
  · replace h := (if_neg c_1).symm.trans h
    refine lv_iload_n hx hb dX9_isColumn_4 rfl (lv_at hl 0 rfl) ?_
    refine lv_bipush (v := 8) hx hb dX9_isColumn_5 (by decide) ?_
    refine lv_icmp_ge (tgt := 14) hx hb dX9_isColumn_7 (by decide) (fun c_7 => ?_) (fun c_7 => ?_)
    · replace h := (if_pos c_7).symm.trans h
      refine lv_iconst (v := 0) hx hb dX9_isColumn_14 (by decide) ?_
      obtain ⟨gbv, h⟩ := gb_e h
      obtain rfl := oi1 h
      exact hret _ _ _ dX9_isColumn_15 rfl (nb gbv)
    · replace h := (if_neg c_7).symm.trans h
      refine lv_iconst (v := 1) hx hb dX9_isColumn_10 (by decide) ?_
      refine lv_goto (tgt := 15) hx hb dX9_isColumn_11 (by decide) ?_
      obtain ⟨gbv, h⟩ := gb_e h
      obtain rfl := oi1 h
      exact hret _ _ _ dX9_isColumn_15 rfl (nb gbv)
abbrev rX9_digitOf : Room := { frames := 0, cells := 0, slots := 0, locals := 0 }
set_option maxHeartbeats 4000000 in
set_option maxRecDepth 100000 in
theorem c_X9_digitOf (l : Launch) (G : GG)    (v0 : Int32) (v1 : Int32) (r : Int32) (h : p_X9_digitOf v0 v1 = some r) : SI l yX9_digitOf wsX9_digitOf rX9_digitOf G [.int v0, .int v1] (([] : va_W)) r := by
  refine enterSI (cc := cX9_digitOf) (maxL := 2) (by decide) rfl (Nat.le_of_ble_eq_true rfl) ?_
  intro p e s m args below meth c Q hx hb hml hown hts hK hP hret ls hl
  have hown : s.vm.findClass RX9 = some m.cls := hown
  have hl : lv_has ls 2 [(0, .int v0), (1, .int v1)] := hl
  unfold p_X9_digitOf at h
  refine lv_iload_n hx hb dX9_digitOf_0 rfl (lv_at hl 0 rfl) ?_
  refine lv_iload_n hx hb dX9_digitOf_1 rfl (lv_at hl 1 rfl) ?_
  refine lv_ishr hx hb dX9_digitOf_2 ?_
  refine lv_iconst (v := 1) hx hb dX9_digitOf_3 (by decide) ?_
  refine lv_iand hx hb dX9_digitOf_4 ?_
  obtain rfl := oi1 h
  exact hret _ _ _ dX9_digitOf_5 rfl rfl
abbrev rJ7_fill_53178 : Room := { frames := 0, cells := 0, slots := 0, locals := 0 }
set_option maxHeartbeats 4000000 in
set_option maxRecDepth 100000 in
theorem c_J7_fill_53178 (l : Launch) (G : GG) (n : Nat) (z_h : Nat) (z_ln : Nat) (z_arr : AI)  (v1 : Int32) (sz : Nat) (z_arr_z : AI) (h : p_J7_fill_53178 n z_ln z_arr v1 = some z_arr_z) : CV l yJ7_fill_53178 wsJ7_fill_53178 rJ7_fill_53178 G [.ref z_h, .int v1] (WA G z_h z_ln z_arr) sz (fun u => WA G z_h z_ln z_arr_z) := by
  refine enterCV (cc := cJ7_fill_53178) (maxL := 4) (by decide) rfl (Nat.le_of_ble_eq_true rfl) ?_
  intro p e s m args below meth c A Q hx hb hml hown hts hK hP hD hS hA hnm hret ls hl
  have hown : s.vm.findClass RJ7 = some m.cls := hown
  have hl : lv_has ls 4 [(0, .ref z_h), (1, .int v1)] := hl
  unfold p_J7_fill_53178 at h
  refine lv_iconst (v := 0) hx hb dJ7_fill_53178_0 (by decide) ?_
  refine lv_istore_n (lv' := [(2, .int (0 : Int32)), (0, .ref z_h), (1, .int v1)]) hx hb dJ7_fill_53178_1 rfl hl (by decide) rfl (fun ls hl => ?_)
  refine lv_aload_n hx hb dJ7_fill_53178_2 rfl (lv_at hl 1 rfl) ?_
  refine va_alen (v := (Int32.ofNat z_ln)) (ty := .int) hx hb hK.1 hP 0 0 rfl rfl rfl dJ7_fill_53178_3 ?_
  refine lv_istore_n (lv' := [(3, .int (Int32.ofNat z_ln)), (2, .int (0 : Int32)), (0, .ref z_h), (1, .int v1)]) hx hb dJ7_fill_53178_4 rfl hl (by decide) rfl (fun ls hl => ?_)
  obtain ⟨z_arr_o5, hT5, h⟩ := ob1_e h
  have hX5 : ∀ (z_arr_o5x : AI)  (H : Heap) (locs : List Loc) (ls : Array Slot), some z_arr_o5x = some z_arr_o5 → va_P G.1 vwCl (WA G z_h z_ln z_arr_o5x) H → va_D A (WA G z_h z_ln z_arr_o5x) → va_S A s.heap H locs → lv_has ls 4 [] → W p l e rJ7_fill_53178 s m args below meth c H locs 0 0 Q (F0 m 20 ls []) := by
    intro z_arr_o5x H locs ls hq hP hD hS hl
    obtain rfl := oi1 hq
    obtain rfl := oi1 h
    exact hret (fun _ => 0) _ _ _ _ _ _ dJ7_fill_53178_20 hP hD hS (Nat.le_of_ble_eq_true rfl) (Nat.le_of_ble_eq_true rfl)
  have hL5 : ∀ (f : Nat) (v2_5 : Int32) (z_arr_5 : AI)  (H : Heap) (locs : List Loc) (ls : Array Slot), p_J7_fill_53178_L5 z_ln v1 f v2_5 z_arr_5 = some z_arr_o5 → va_P G.1 vwCl (WA G z_h z_ln z_arr_5) H → va_D A (WA G z_h z_ln z_arr_5) → va_S A s.heap H locs → lv_has ls 4 [(0, .ref z_h), (1, .int v1), (2, .int v2_5), (3, .int (Int32.ofNat z_ln))] → W p l e rJ7_fill_53178 s m args below meth c H locs 0 0 Q (F0 m 5 ls []) := by
    intro f
    induction f with
    | zero => intro v2_5 z_arr_5 H locs ls h hP hD hS hl; cases (show none = some _ from h)
    | succ f ih =>
      intro v2_5 z_arr_5 H locs ls h hP hD hS hl
      rw [p_J7_fill_53178_L5] at h
      refine lv_iload_n hx hb dJ7_fill_53178_5 rfl (lv_at hl 2 rfl) ?_
      refine lv_iload_n hx hb dJ7_fill_53178_6 rfl (lv_at hl 3 rfl) ?_
      refine lv_icmp_ge (tgt := 20) hx hb dJ7_fill_53178_7 (by decide) (fun c_7 => ?_) (fun c_7 => ?_)
      · replace h := (if_pos c_7).symm.trans h
        exact hX5 _  _ _ _ h hP hD hS (lv_sub hl [] rfl)
      · replace h := (if_neg c_7).symm.trans h
        refine lv_aload_n hx hb dJ7_fill_53178_10 rfl (lv_at hl 0 rfl) ?_
        refine lv_iload_n hx hb dJ7_fill_53178_11 rfl (lv_at hl 2 rfl) ?_
        refine lv_iload_n hx hb dJ7_fill_53178_12 rfl (lv_at hl 1 rfl) ?_
        obtain ⟨g_13, h⟩ := gi_e h
        refine va_iast hx hb hK.1 hP hD hS 0 0 rfl rfl g_13 dJ7_fill_53178_13 (fun H locs hP hD hS => ?_)
        have hP : va_P G.1 vwCl (WA G z_h z_ln (upd z_arr_5 v2_5.toNatClampNeg v1)) H := hP
        have hD : va_D A (WA G z_h z_ln (upd z_arr_5 v2_5.toNatClampNeg v1)) := hD
        refine lv_iinc (v := (v2_5 + (1 : Int32))) (lv' := [(2, .int (v2_5 + (1 : Int32))), (0, .ref z_h), (1, .int v1), (3, .int (Int32.ofNat z_ln))]) hx hb dJ7_fill_53178_14 hl (k := 2) rfl rfl (by decide) rfl (fun ls hl => ?_)
        refine lv_goto (tgt := 5) hx hb dJ7_fill_53178_17 (by decide) ?_
        exact ih _ _  _ _ _ h hP hD hS (lv_sub hl [1, 2, 0, 3] rfl)
  exact hL5 n _ _  _ _ _ hT5 hP hD hS (lv_sub hl [2, 3, 1, 0] rfl)
abbrev rJ7_fill_d0a16 : Room := { frames := 0, cells := 0, slots := 0, locals := 0 }
set_option maxHeartbeats 4000000 in
set_option maxRecDepth 100000 in
theorem c_J7_fill_d0a16 (l : Launch) (G : GG) (n : Nat) (z_h : Nat) (z_ln : Nat) (z_arr : AL)  (v1 : Int64) (sz : Nat) (z_arr_z : AL) (h : p_J7_fill_d0a16 n z_ln z_arr v1 = some z_arr_z) : CV l yJ7_fill_d0a16 wsJ7_fill_d0a16 rJ7_fill_d0a16 G [.ref z_h, .long v1] (WB G z_h z_ln z_arr) sz (fun u => WB G z_h z_ln z_arr_z) := by
  refine enterCV (cc := cJ7_fill_d0a16) (maxL := 5) (by decide) rfl (Nat.le_of_ble_eq_true rfl) ?_
  intro p e s m args below meth c A Q hx hb hml hown hts hK hP hD hS hA hnm hret ls hl
  have hown : s.vm.findClass RJ7 = some m.cls := hown
  have hl : lv_has ls 5 [(0, .ref z_h), (1, .long v1)] := hl
  unfold p_J7_fill_d0a16 at h
  refine lv_iconst (v := 0) hx hb dJ7_fill_d0a16_0 (by decide) ?_
  refine lv_istore_n (lv' := [(3, .int (0 : Int32)), (0, .ref z_h), (1, .long v1)]) hx hb dJ7_fill_d0a16_1 rfl hl (by decide) rfl (fun ls hl => ?_)
  refine lv_aload_n hx hb dJ7_fill_d0a16_2 rfl (lv_at hl 1 rfl) ?_
  refine va_alen (v := (Int32.ofNat z_ln)) (ty := .long) hx hb hK.1 hP 0 2 rfl rfl rfl dJ7_fill_d0a16_3 ?_
  refine lv_istore (lv' := [(4, .int (Int32.ofNat z_ln)), (3, .int (0 : Int32)), (0, .ref z_h), (1, .long v1)]) hx hb dJ7_fill_d0a16_4 hl (by decide) rfl (fun ls hl => ?_)
  obtain ⟨z_arr_o6, hT6, h⟩ := ob1_e h
  have hX6 : ∀ (z_arr_o6x : AL)  (H : Heap) (locs : List Loc) (ls : Array Slot), some z_arr_o6x = some z_arr_o6 → va_P G.1 vwCl (WB G z_h z_ln z_arr_o6x) H → va_D A (WB G z_h z_ln z_arr_o6x) → va_S A s.heap H locs → lv_has ls 5 [] → W p l e rJ7_fill_d0a16 s m args below meth c H locs 0 0 Q (F0 m 22 ls []) := by
    intro z_arr_o6x H locs ls hq hP hD hS hl
    obtain rfl := oi1 hq
    obtain rfl := oi1 h
    exact hret (fun _ => 0) _ _ _ _ _ _ dJ7_fill_d0a16_22 hP hD hS (Nat.le_of_ble_eq_true rfl) (Nat.le_of_ble_eq_true rfl)
  have hL6 : ∀ (f : Nat) (v3_6 : Int32) (z_arr_6 : AL)  (H : Heap) (locs : List Loc) (ls : Array Slot), p_J7_fill_d0a16_L6 z_ln v1 f v3_6 z_arr_6 = some z_arr_o6 → va_P G.1 vwCl (WB G z_h z_ln z_arr_6) H → va_D A (WB G z_h z_ln z_arr_6) → va_S A s.heap H locs → lv_has ls 5 [(0, .ref z_h), (1, .long v1), (3, .int v3_6), (4, .int (Int32.ofNat z_ln))] → W p l e rJ7_fill_d0a16 s m args below meth c H locs 0 0 Q (F0 m 6 ls []) := by
    intro f
    induction f with
    | zero => intro v3_6 z_arr_6 H locs ls h hP hD hS hl; cases (show none = some _ from h)
    | succ f ih =>
      intro v3_6 z_arr_6 H locs ls h hP hD hS hl
      rw [p_J7_fill_d0a16_L6] at h
      refine lv_iload_n hx hb dJ7_fill_d0a16_6 rfl (lv_at hl 2 rfl) ?_
      refine lv_iload hx hb dJ7_fill_d0a16_7 (lv_at hl 3 rfl) ?_
      refine lv_icmp_ge (tgt := 22) hx hb dJ7_fill_d0a16_9 (by decide) (fun c_9 => ?_) (fun c_9 => ?_)
      · replace h := (if_pos c_9).symm.trans h
        exact hX6 _  _ _ _ h hP hD hS (lv_sub hl [] rfl)
      · replace h := (if_neg c_9).symm.trans h
        refine lv_aload_n hx hb dJ7_fill_d0a16_12 rfl (lv_at hl 0 rfl) ?_
        refine lv_iload_n hx hb dJ7_fill_d0a16_13 rfl (lv_at hl 2 rfl) ?_
        refine lv_lload_n hx hb dJ7_fill_d0a16_14 rfl (lv_at hl 1 rfl) ?_
        obtain ⟨g_15, h⟩ := gi_e h
        refine va_last hx hb hK.1 hP hD hS 0 2 rfl rfl g_15 dJ7_fill_d0a16_15 (fun H locs hP hD hS => ?_)
        have hP : va_P G.1 vwCl (WB G z_h z_ln (vp_updL z_arr_6 v3_6.toNatClampNeg v1)) H := hP
        have hD : va_D A (WB G z_h z_ln (vp_updL z_arr_6 v3_6.toNatClampNeg v1)) := hD
        refine lv_iinc (v := (v3_6 + (1 : Int32))) (lv' := [(3, .int (v3_6 + (1 : Int32))), (0, .ref z_h), (1, .long v1), (4, .int (Int32.ofNat z_ln))]) hx hb dJ7_fill_d0a16_16 hl (k := 2) rfl rfl (by decide) rfl (fun ls hl => ?_)
        refine lv_goto (tgt := 6) hx hb dJ7_fill_d0a16_19 (by decide) ?_
        exact ih _ _  _ _ _ h hP hD hS (lv_sub hl [1, 2, 0, 3] rfl)
  exact hL6 n _ _  _ _ _ hT6 hP hD hS (lv_sub hl [2, 3, 1, 0] rfl)
abbrev rX5_goesOn : Room := { frames := 1, cells := 0, slots := 0, locals := 20 }
set_option maxHeartbeats 4000000 in
set_option maxRecDepth 100000 in
theorem c_X5_goesOn (l : Launch) (G : GG) (r_h : Nat) (r_q : Nat → Nat) (r_goes : AI) (r_told : AI)  (v1 : Int32) (v2 : Int32) (r : Int32) (h : p_X5_goesOn r_goes v1 v2 = some r) : SI l yX5_goesOn wsX5_goesOn rX5_goesOn G [.ref r_h, .int v1, .int v2] (WR G r_h r_q r_goes r_told) r := by
  refine enterSI (cc := cX5_goesOn) (maxL := 3) (by decide) rfl (Nat.le_of_ble_eq_true rfl) ?_
  intro p e s m args below meth c Q hx hb hml hown hts hK hP hret ls hl
  have hown : s.vm.findClass RX5 = some m.cls := hown
  have hf9 := hts (.fieldLink RX5 9 "DigitClaims$RowMachine" "goes" "[I") (by decide +kernel)
  have hinX5 : ∀ w ∈ wsX50, w ∈ wsX5_goesOn := by decide +kernel
  have hl : lv_has ls 3 [(0, .ref r_h), (1, .int v1), (2, .int v2)] := hl
  unfold p_X5_goesOn at h
  refine lv_iload_n hx hb dX5_goesOn_0 rfl (lv_at hl 1 rfl) ?_
  obtain ⟨r_1, hc_1, h⟩ := ob1_e h
  refine k_si (va_runSN (As := [.int v1]) (rest := []) ⟨hx, hb, hml, hown, hts⟩ (c_X9_isPlace l G    v1 r_1 hc_1) ⟨va_cnB 1 hts gX5_goesOn_X9_isPlace_n18 rfl rfl rfl (hK.2 _ (List.mem_of_getElem? (i := 8) rfl)) (hts (.initialized RX9) (by decide +kernel)) eX9_isPlace ⟨Nat.le_of_ble_eq_true rfl, Nat.le_of_ble_eq_true rfl⟩, hts (.static yX9_isPlace) (by decide +kernel), trivial⟩ (preSS hK (fun k q h => by cases h)) rfl rfl hl.1 rfl (lv_room (Nat.le_of_ble_eq_true rfl)) dX5_goesOn_1 ⟨Nat.le_of_ble_eq_true rfl, Nat.le_of_ble_eq_true rfl⟩) ?_
  refine lv_if_eq (tgt := 29) hx hb dX5_goesOn_4 (by decide) (fun c_4 => ?_) (fun c_4 => ?_)
  · replace h := (if_pos c_4).symm.trans h
    refine lv_iconst (v := 0) hx hb dX5_goesOn_29 (by decide) ?_
    obtain rfl := oi1 h
    exact hret _ _ _ dX5_goesOn_30 rfl rfl
  · replace h := (if_neg c_4).symm.trans h
    refine lv_iload_n hx hb dX5_goesOn_7 rfl (lv_at hl 2 rfl) ?_
    refine lv_if_eq (tgt := 16) hx hb dX5_goesOn_8 (by decide) (fun c_8 => ?_) (fun c_8 => ?_)
    · replace h := (if_pos c_8).symm.trans h
      refine lv_aload_n hx hb dX5_goesOn_16 rfl (lv_at hl 0 rfl) ?_
      refine va_get (D := G.1) (ci := 5) (v := .ref (r_q 0)) (C := RX5) (T := TX5) (N := 2) hx hb hts hinX5 hown hK.1 hP 0 rfl rfl 0 (by decide) hf9 (fun _ h9 => h9) rfl dX5_goesOn_17 ?_
      refine lv_iload_n hx hb dX5_goesOn_20 rfl (lv_at hl 1 rfl) ?_
      refine lv_iconst (v := 2) hx hb dX5_goesOn_21 (by decide) ?_
      refine lv_imul hx hb dX5_goesOn_22 ?_
      refine lv_iload_n hx hb dX5_goesOn_23 rfl (lv_at hl 2 rfl) ?_
      refine lv_iadd hx hb dX5_goesOn_24 ?_
      obtain ⟨g_25, h⟩ := gi_e h
      refine va_iald hx hb hK.1 hP 1 0 rfl rfl g_25 dX5_goesOn_25 ?_
      refine lv_goto (tgt := 30) hx hb dX5_goesOn_26 (by decide) ?_
      obtain rfl := oi1 h
      exact hret _ _ _ dX5_goesOn_30 rfl rfl
    · replace h := (if_neg c_8).symm.trans h
      refine lv_iload_n hx hb dX5_goesOn_11 rfl (lv_at hl 2 rfl) ?_
      refine lv_iconst (v := 1) hx hb dX5_goesOn_12 (by decide) ?_
      refine lv_icmp_ne (tgt := 29) hx hb dX5_goesOn_13 (by decide) (fun c_13 => ?_) (fun c_13 => ?_)
      · replace h := (if_neg c_13).symm.trans h
        refine lv_iconst (v := 0) hx hb dX5_goesOn_29 (by decide) ?_
        obtain rfl := oi1 h
        exact hret _ _ _ dX5_goesOn_30 rfl rfl
      · replace h := (if_pos c_13).symm.trans h
        refine lv_aload_n hx hb dX5_goesOn_16 rfl (lv_at hl 0 rfl) ?_
        refine va_get (D := G.1) (ci := 5) (v := .ref (r_q 0)) (C := RX5) (T := TX5) (N := 2) hx hb hts hinX5 hown hK.1 hP 0 rfl rfl 0 (by decide) hf9 (fun _ h9 => h9) rfl dX5_goesOn_17 ?_
        refine lv_iload_n hx hb dX5_goesOn_20 rfl (lv_at hl 1 rfl) ?_
        refine lv_iconst (v := 2) hx hb dX5_goesOn_21 (by decide) ?_
        refine lv_imul hx hb dX5_goesOn_22 ?_
        refine lv_iload_n hx hb dX5_goesOn_23 rfl (lv_at hl 2 rfl) ?_
        refine lv_iadd hx hb dX5_goesOn_24 ?_
        obtain ⟨g_25, h⟩ := gi_e h
        refine va_iald hx hb hK.1 hP 1 0 rfl rfl g_25 dX5_goesOn_25 ?_
        refine lv_goto (tgt := 30) hx hb dX5_goesOn_26 (by decide) ?_
        obtain rfl := oi1 h
        exact hret _ _ _ dX5_goesOn_30 rfl rfl
abbrev rX5_toldAt : Room := { frames := 1, cells := 0, slots := 0, locals := 20 }
set_option maxHeartbeats 4000000 in
set_option maxRecDepth 100000 in
theorem c_X5_toldAt (l : Launch) (G : GG) (r_h : Nat) (r_q : Nat → Nat) (r_goes : AI) (r_told : AI)  (v1 : Int32) (r : Int32) (h : p_X5_toldAt r_told v1 = some r) : SI l yX5_toldAt wsX5_toldAt rX5_toldAt G [.ref r_h, .int v1] (WR G r_h r_q r_goes r_told) r := by
  refine enterSI (cc := cX5_toldAt) (maxL := 2) (by decide) rfl (Nat.le_of_ble_eq_true rfl) ?_
  intro p e s m args below meth c Q hx hb hml hown hts hK hP hret ls hl
  have hown : s.vm.findClass RX5 = some m.cls := hown
  have hf15 := hts (.fieldLink RX5 15 "DigitClaims$RowMachine" "told" "[I") (by decide +kernel)
  have hinX5 : ∀ w ∈ wsX50, w ∈ wsX5_toldAt := by decide +kernel
  have hl : lv_has ls 2 [(0, .ref r_h), (1, .int v1)] := hl
  unfold p_X5_toldAt at h
  refine lv_iload_n hx hb dX5_toldAt_0 rfl (lv_at hl 1 rfl) ?_
  obtain ⟨r_1, hc_1, h⟩ := ob1_e h
  refine k_si (va_runSN (As := [.int v1]) (rest := []) ⟨hx, hb, hml, hown, hts⟩ (c_X9_isPlace l G    v1 r_1 hc_1) ⟨va_cnB 1 hts gX5_toldAt_X9_isPlace_n18 rfl rfl rfl (hK.2 _ (List.mem_of_getElem? (i := 8) rfl)) (hts (.initialized RX9) (by decide +kernel)) eX9_isPlace ⟨Nat.le_of_ble_eq_true rfl, Nat.le_of_ble_eq_true rfl⟩, hts (.static yX9_isPlace) (by decide +kernel), trivial⟩ (preSS hK (fun k q h => by cases h)) rfl rfl hl.1 rfl (lv_room (Nat.le_of_ble_eq_true rfl)) dX5_toldAt_1 ⟨Nat.le_of_ble_eq_true rfl, Nat.le_of_ble_eq_true rfl⟩) ?_
  refine lv_if_eq (tgt := 16) hx hb dX5_toldAt_4 (by decide) (fun c_4 => ?_) (fun c_4 => ?_)
  · replace h := (if_pos c_4).symm.trans h
    refine lv_iconst (v := 0) hx hb dX5_toldAt_16 (by decide) ?_
    obtain rfl := oi1 h
    exact hret _ _ _ dX5_toldAt_17 rfl rfl
  · replace h := (if_neg c_4).symm.trans h
    refine lv_aload_n hx hb dX5_toldAt_7 rfl (lv_at hl 0 rfl) ?_
    refine va_get (D := G.1) (ci := 5) (v := .ref (r_q 1)) (C := RX5) (T := TX5) (N := 2) hx hb hts hinX5 hown hK.1 hP 0 rfl rfl 1 (by decide) hf15 (fun _ h9 => h9) rfl dX5_toldAt_8 ?_
    refine lv_iload_n hx hb dX5_toldAt_11 rfl (lv_at hl 1 rfl) ?_
    obtain ⟨g_12, h⟩ := gi_e h
    refine va_iald hx hb hK.1 hP 2 0 rfl rfl g_12 dX5_toldAt_12 ?_
    refine lv_goto (tgt := 17) hx hb dX5_toldAt_13 (by decide) ?_
    obtain rfl := oi1 h
    exact hret _ _ _ dX5_toldAt_17 rfl rfl
abbrev rX5_put : Room := { frames := 1, cells := 0, slots := 0, locals := 20 }
set_option maxHeartbeats 4000000 in
set_option maxRecDepth 100000 in
theorem c_X5_put (l : Launch) (G : GG) (r_h : Nat) (r_q : Nat → Nat) (r_goes : AI) (r_told : AI)  (v1 : Int32) (v2 : Int32) (v3 : Int32) (v4 : Int32) (sz : Nat) (r_goes_z : AI) (r_told_z : AI) (h : p_X5_put r_goes r_told v1 v2 v3 v4 = some (r_goes_z, r_told_z)) : CV l yX5_put wsX5_put rX5_put G [.ref r_h, .int v1, .int v2, .int v3, .int v4] (WR G r_h r_q r_goes r_told) sz (fun u => WR G r_h r_q r_goes_z r_told_z) := by
  refine enterCV (cc := cX5_put) (maxL := 5) (by decide) rfl (Nat.le_of_ble_eq_true rfl) ?_
  intro p e s m args below meth c A Q hx hb hml hown hts hK hP hD hS hA hnm hret ls hl
  have hown : s.vm.findClass RX5 = some m.cls := hown
  have hf9 := hts (.fieldLink RX5 9 "DigitClaims$RowMachine" "goes" "[I") (by decide +kernel)
  have hf15 := hts (.fieldLink RX5 15 "DigitClaims$RowMachine" "told" "[I") (by decide +kernel)
  have hinX5 : ∀ w ∈ wsX50, w ∈ wsX5_put := by decide +kernel
  have hl : lv_has ls 5 [(0, .ref r_h), (1, .int v1), (2, .int v2), (3, .int v3), (4, .int v4)] := hl
  unfold p_X5_put at h
  refine lv_iload_n hx hb dX5_put_0 rfl (lv_at hl 1 rfl) ?_
  obtain ⟨r_1, hc_1, h⟩ := ob1_e h
  refine k_si (va_runSN (As := [.int v1]) (rest := []) ⟨hx, hb, hml, hown, hts⟩ (c_X9_isPlace l G    v1 r_1 hc_1) ⟨va_cnB 1 hts gX5_put_X9_isPlace_n18 rfl rfl rfl (hK.2 _ (List.mem_of_getElem? (i := 8) rfl)) (hts (.initialized RX9) (by decide +kernel)) eX9_isPlace ⟨Nat.le_of_ble_eq_true rfl, Nat.le_of_ble_eq_true rfl⟩, hts (.static yX9_isPlace) (by decide +kernel), trivial⟩ (preSS hK (fun k q h => by cases h)) rfl rfl hl.1 rfl (lv_room (Nat.le_of_ble_eq_true rfl)) dX5_put_1 ⟨Nat.le_of_ble_eq_true rfl, Nat.le_of_ble_eq_true rfl⟩) ?_
  refine lv_if_ne (tgt := 8) hx hb dX5_put_4 (by decide) (fun c_4 => ?_) (fun c_4 => ?_)
  · replace h := (if_neg c_4).symm.trans h
    refine lv_aload_n hx hb dX5_put_8 rfl (lv_at hl 0 rfl) ?_
    refine va_get (D := G.1) (ci := 5) (v := .ref (r_q 0)) (C := RX5) (T := TX5) (N := 2) hx hb hts hinX5 hown hK.1 hP 0 rfl rfl 0 (by decide) hf9 (fun _ h9 => h9) rfl dX5_put_9 ?_
    refine lv_iload_n hx hb dX5_put_12 rfl (lv_at hl 1 rfl) ?_
    refine lv_iconst (v := 2) hx hb dX5_put_13 (by decide) ?_
    refine lv_imul hx hb dX5_put_14 ?_
    refine lv_iload_n hx hb dX5_put_15 rfl (lv_at hl 2 rfl) ?_
    obtain ⟨g_16, h⟩ := gi_e h
    refine va_iast hx hb hK.1 hP hD hS 1 0 rfl rfl g_16 dX5_put_16 (fun H locs hP hD hS => ?_)
    have hP : va_P G.1 vwCl (WR G r_h r_q (upd r_goes (v1 * (2 : Int32)).toNatClampNeg v2) r_told) H := hP
    have hD : va_D A (WR G r_h r_q (upd r_goes (v1 * (2 : Int32)).toNatClampNeg v2) r_told) := hD
    refine lv_aload_n hx hb dX5_put_17 rfl (lv_at hl 0 rfl) ?_
    refine va_get (D := G.1) (ci := 5) (v := .ref (r_q 0)) (C := RX5) (T := TX5) (N := 2) hx hb hts hinX5 hown hK.1 hP 0 rfl rfl 0 (by decide) hf9 (fun _ h9 => h9) rfl dX5_put_18 ?_
    refine lv_iload_n hx hb dX5_put_21 rfl (lv_at hl 1 rfl) ?_
    refine lv_iconst (v := 2) hx hb dX5_put_22 (by decide) ?_
    refine lv_imul hx hb dX5_put_23 ?_
    refine lv_iconst (v := 1) hx hb dX5_put_24 (by decide) ?_
    refine lv_iadd hx hb dX5_put_25 ?_
    refine lv_iload_n hx hb dX5_put_26 rfl (lv_at hl 3 rfl) ?_
    obtain ⟨g_27, h⟩ := gi_e h
    refine va_iast hx hb hK.1 hP hD hS 1 0 rfl rfl g_27 dX5_put_27 (fun H locs hP hD hS => ?_)
    have hP : va_P G.1 vwCl (WR G r_h r_q (upd (upd r_goes (v1 * (2 : Int32)).toNatClampNeg v2) ((v1 * (2 : Int32)) + (1 : Int32)).toNatClampNeg v3) r_told) H := hP
    have hD : va_D A (WR G r_h r_q (upd (upd r_goes (v1 * (2 : Int32)).toNatClampNeg v2) ((v1 * (2 : Int32)) + (1 : Int32)).toNatClampNeg v3) r_told) := hD
    refine lv_aload_n hx hb dX5_put_28 rfl (lv_at hl 0 rfl) ?_
    refine va_get (D := G.1) (ci := 5) (v := .ref (r_q 1)) (C := RX5) (T := TX5) (N := 2) hx hb hts hinX5 hown hK.1 hP 0 rfl rfl 1 (by decide) hf15 (fun _ h9 => h9) rfl dX5_put_29 ?_
    refine lv_iload_n hx hb dX5_put_32 rfl (lv_at hl 1 rfl) ?_
    refine lv_iload hx hb dX5_put_33 (lv_at hl 4 rfl) ?_
    obtain ⟨g_35, h⟩ := gi_e h
    refine va_iast hx hb hK.1 hP hD hS 2 0 rfl rfl g_35 dX5_put_35 (fun H locs hP hD hS => ?_)
    have hP : va_P G.1 vwCl (WR G r_h r_q (upd (upd r_goes (v1 * (2 : Int32)).toNatClampNeg v2) ((v1 * (2 : Int32)) + (1 : Int32)).toNatClampNeg v3) (upd r_told v1.toNatClampNeg v4)) H := hP
    have hD : va_D A (WR G r_h r_q (upd (upd r_goes (v1 * (2 : Int32)).toNatClampNeg v2) ((v1 * (2 : Int32)) + (1 : Int32)).toNatClampNeg v3) (upd r_told v1.toNatClampNeg v4)) := hD
    obtain ⟨rfl, rfl⟩ := oi2 h
    exact hret (fun _ => 0) _ _ _ _ _ _ dX5_put_36 hP hD hS (Nat.le_of_ble_eq_true rfl) (Nat.le_of_ble_eq_true rfl)
  · replace h := (if_pos c_4).symm.trans h
    obtain ⟨rfl, rfl⟩ := oi2 h
    exact hret (fun _ => 0) _ _ _ _ _ _ dX5_put_7 hP hD hS (Nat.le_of_ble_eq_true rfl) (Nat.le_of_ble_eq_true rfl)
abbrev rX5_toldOf : Room := { frames := 2, cells := 0, slots := 0, locals := 42 }
set_option maxHeartbeats 4000000 in
set_option maxRecDepth 100000 in
theorem c_X5_toldOf (l : Launch) (G : GG) (n : Nat) (r_h : Nat) (r_q : Nat → Nat) (r_goes : AI) (r_told : AI)  (v1 : Int32) (r : Int32) (h : p_X5_toldOf n r_goes r_told v1 = some r) : SI l yX5_toldOf wsX5_toldOf rX5_toldOf G [.ref r_h, .int v1] (WR G r_h r_q r_goes r_told) r := by
  refine enterSI (cc := cX5_toldOf) (maxL := 4) (by decide) rfl (Nat.le_of_ble_eq_true rfl) ?_
  intro p e s m args below meth c Q hx hb hml hown hts hK hP hret ls hl
  have hown : s.vm.findClass RX5 = some m.cls := hown
  have hl : lv_has ls 4 [(0, .ref r_h), (1, .int v1)] := hl
  unfold p_X5_toldOf at h
  refine lv_iconst (v := 0) hx hb dX5_toldOf_0 (by decide) ?_
  refine lv_istore_n (lv' := [(2, .int (0 : Int32)), (0, .ref r_h), (1, .int v1)]) hx hb dX5_toldOf_1 rfl hl (by decide) rfl (fun ls hl => ?_)
  refine lv_bipush (v := 29) hx hb dX5_toldOf_2 (by decide) ?_
  refine lv_istore_n (lv' := [(3, .int (29 : Int32)), (2, .int (0 : Int32)), (0, .ref r_h), (1, .int v1)]) hx hb dX5_toldOf_4 rfl hl (by decide) rfl (fun ls hl => ?_)
  obtain ⟨o2_5, hT5, h⟩ := ob1_e h
  have hX5 : ∀ (x2_5 : Int32)  (ls : Array Slot), some x2_5 = some o2_5 → lv_has ls 4 [(0, .ref r_h), (2, .int x2_5)] → W p l e rX5_toldOf s m args below meth c s.heap [] 0 0 Q (F0 m 26 ls []) := by
    intro x2_5 ls hq hl
    obtain rfl := oi1 hq
    refine lv_aload_n hx hb dX5_toldOf_26 rfl (lv_at hl 0 rfl) ?_
    refine lv_iload_n hx hb dX5_toldOf_27 rfl (lv_at hl 1 rfl) ?_
    obtain ⟨r_28, hc_28, h⟩ := ob1_e h
    refine k_si (va_runV (As := [.int o2_5]) (rest := []) ⟨hx, hb, hml, hown, hts⟩ (c_X5_toldAt l G r_h r_q r_goes r_told  o2_5 r_28 hc_28) (cwV 1 hts gX5_toldOf_X5_toldAt rfl rfl rfl ⟨rfl, eX5_toldAt⟩ ⟨Nat.le_of_ble_eq_true rfl, Nat.le_of_ble_eq_true rfl⟩) (preSV (ci := 5) (q0 := 0) hK hP rfl rfl) rfl rfl hl.1 rfl (lv_room (Nat.le_of_ble_eq_true rfl)) dX5_toldOf_28 ⟨Nat.le_of_ble_eq_true rfl, Nat.le_of_ble_eq_true rfl⟩) ?_
    obtain rfl := oi1 h
    exact hret _ _ _ dX5_toldOf_31 rfl rfl
  have hL5 : ∀ (f : Nat) (v2_5 : Int32) (v3_5 : Int32)  (ls : Array Slot), p_X5_toldOf_L5 r_goes v1 f v2_5 v3_5 = some o2_5 → lv_has ls 4 [(0, .ref r_h), (1, .int v1), (2, .int v2_5), (3, .int v3_5)] → W p l e rX5_toldOf s m args below meth c s.heap [] 0 0 Q (F0 m 5 ls []) := by
    intro f
    induction f with
    | zero => intro v2_5 v3_5 ls h hl; cases (show none = some _ from h)
    | succ f ih =>
      intro v2_5 v3_5 ls h hl
      rw [p_X5_toldOf_L5] at h
      refine lv_iload_n hx hb dX5_toldOf_5 rfl (lv_at hl 3 rfl) ?_
      refine lv_if_lt (tgt := 26) hx hb dX5_toldOf_6 (by decide) (fun c_6 => ?_) (fun c_6 => ?_)
      · replace h := (if_pos c_6).symm.trans h
        exact hX5 _  _ h (lv_sub hl [0, 2] rfl)
      · replace h := (if_neg c_6).symm.trans h
        refine lv_aload_n hx hb dX5_toldOf_9 rfl (lv_at hl 0 rfl) ?_
        refine lv_iload_n hx hb dX5_toldOf_10 rfl (lv_at hl 2 rfl) ?_
        refine lv_iload_n hx hb dX5_toldOf_11 rfl (lv_at hl 1 rfl) ?_
        refine lv_iload_n hx hb dX5_toldOf_12 rfl (lv_at hl 3 rfl) ?_
        refine lv_ishr hx hb dX5_toldOf_13 ?_
        refine lv_iconst (v := 1) hx hb dX5_toldOf_14 (by decide) ?_
        refine lv_iand hx hb dX5_toldOf_15 ?_
        obtain ⟨r_16, hc_16, h⟩ := ob1_e h
        refine k_si (va_runV (As := [.int v2_5, .int ((v1 >>> (v3_5 &&& (31 : Int32))) &&& (1 : Int32))]) (rest := []) ⟨hx, hb, hml, hown, hts⟩ (c_X5_goesOn l G r_h r_q r_goes r_told  v2_5 ((v1 >>> (v3_5 &&& (31 : Int32))) &&& (1 : Int32)) r_16 hc_16) (cwV 2 hts gX5_toldOf_X5_goesOn rfl rfl rfl ⟨rfl, eX5_goesOn⟩ ⟨Nat.le_of_ble_eq_true rfl, Nat.le_of_ble_eq_true rfl⟩) (preSV (ci := 5) (q0 := 0) hK hP rfl rfl) rfl rfl hl.1 rfl (lv_room (Nat.le_of_ble_eq_true rfl)) dX5_toldOf_16 ⟨Nat.le_of_ble_eq_true rfl, Nat.le_of_ble_eq_true rfl⟩) ?_
        refine lv_istore_n (lv' := [(2, .int r_16), (0, .ref r_h), (1, .int v1), (3, .int v3_5)]) hx hb dX5_toldOf_19 rfl hl (by decide) rfl (fun ls hl => ?_)
        refine lv_iinc (v := (v3_5 + (-1 : Int32))) (lv' := [(3, .int (v3_5 + (-1 : Int32))), (2, .int r_16), (0, .ref r_h), (1, .int v1)]) hx hb dX5_toldOf_20 hl (k := 3) rfl rfl (by decide) rfl (fun ls hl => ?_)
        refine lv_goto (tgt := 5) hx hb dX5_toldOf_23 (by decide) ?_
        exact ih _ _  _ h (lv_sub hl [2, 3, 1, 0] rfl)
  exact hL5 n _ _  _ hT5 (lv_sub hl [2, 3, 1, 0] rfl)
abbrev rX0_size : Room := { frames := 0, cells := 0, slots := 0, locals := 0 }
set_option maxHeartbeats 4000000 in
set_option maxRecDepth 100000 in
theorem c_X0_size (l : Launch) (G : GG) (c_h : Nat) (c_q : Nat → Nat) (c_next : AI) (c_says : AI) (c_size : Int32)   (r : Int32) (h : p_X0_size c_size = some r) : SI l yX0_size wsX0_size rX0_size G [.ref c_h] (WC G c_h c_q c_next c_says c_size) r := by
  refine enterSI (cc := cX0_size) (maxL := 1) (by decide) rfl (Nat.le_of_ble_eq_true rfl) ?_
  intro p e s m args below meth c Q hx hb hml hown hts hK hP hret ls hl
  have hown : s.vm.findClass RX0 = some m.cls := hown
  have hf19 := hts (.fieldLink RX0 19 "DigitClaims$Claim" "size" "I") (by decide +kernel)
  have hinX0 : ∀ w ∈ wsX00, w ∈ wsX0_size := by decide +kernel
  have hl : lv_has ls 1 [(0, .ref c_h)] := hl
  unfold p_X0_size at h
  refine lv_aload_n hx hb dX0_size_0 rfl (lv_at hl 0 rfl) ?_
  refine va_get (D := G.1) (ci := 0) (v := .int c_size) (C := RX0) (T := TX0) (N := 3) hx hb hts hinX0 hown hK.1 hP 0 rfl rfl 2 (by decide) hf19 (fun _ h9 => h9) rfl dX0_size_1 ?_
  obtain rfl := oi1 h
  exact hret _ _ _ dX0_size_4 rfl rfl
abbrev rX0_begin : Room := { frames := 1, cells := 0, slots := 0, locals := 21 }
set_option maxHeartbeats 4000000 in
set_option maxRecDepth 100000 in
theorem c_X0_begin (l : Launch) (G : GG) (c_h : Nat) (c_q : Nat → Nat) (c_next : AI) (c_says : AI) (c_size : Int32)  (v1 : Int32) (sz : Nat) (c_size_z : Int32) (h : p_X0_begin v1 = some c_size_z) : CV l yX0_begin wsX0_begin rX0_begin G [.ref c_h, .int v1] (WC G c_h c_q c_next c_says c_size) sz (fun u => WC G c_h c_q c_next c_says c_size_z) := by
  refine enterCV (cc := cX0_begin) (maxL := 2) (by decide) rfl (Nat.le_of_ble_eq_true rfl) ?_
  intro p e s m args below meth c A Q hx hb hml hown hts hK hP hD hS hA hnm hret ls hl
  have hown : s.vm.findClass RX0 = some m.cls := hown
  have hf19 := hts (.fieldLink RX0 19 "DigitClaims$Claim" "size" "I") (by decide +kernel)
  have hinX0 : ∀ w ∈ wsX00, w ∈ wsX0_begin := by decide +kernel
  have hl : lv_has ls 2 [(0, .ref c_h), (1, .int v1)] := hl
  unfold p_X0_begin at h
  refine lv_aload_n hx hb dX0_begin_0 rfl (lv_at hl 0 rfl) ?_
  refine lv_iconst (v := 0) hx hb dX0_begin_1 (by decide) ?_
  refine lv_iload_n hx hb dX0_begin_2 rfl (lv_at hl 1 rfl) ?_
  refine lv_bipush (v := 60) hx hb dX0_begin_3 (by decide) ?_
  refine va_mmin hx hb (hml.trans hl.1.symm) hown (hts (.methodLink RX0 23 Lib.Math.min.name) (by decide +kernel)) (hts (.static Lib.Math.min.name) (by decide +kernel)) (hts (.initialized "java/lang/Math") (by decide +kernel)) (hts (.code Lib.Math.min.name Lib.Math.min.code 2 (some .int)) (by decide +kernel)) (Nat.le_of_ble_eq_true rfl) (Nat.le_of_ble_eq_true rfl) (Nat.le_of_ble_eq_true rfl) (Nat.le_of_ble_eq_true rfl) dX0_begin_5 ?_
  refine va_mmax hx hb (hml.trans hl.1.symm) hown (hts (.methodLink RX0 29 Lib.Math.max.name) (by decide +kernel)) (hts (.static Lib.Math.max.name) (by decide +kernel)) (hts (.initialized "java/lang/Math") (by decide +kernel)) (hts (.code Lib.Math.max.name Lib.Math.max.code 2 (some .int)) (by decide +kernel)) (Nat.le_of_ble_eq_true rfl) (Nat.le_of_ble_eq_true rfl) (Nat.le_of_ble_eq_true rfl) (Nat.le_of_ble_eq_true rfl) dX0_begin_8 ?_
  refine va_put (D := G.1) (ci := 0) (v := .int (if (0 : Int32) < (if (60 : Int32) < v1 then (60 : Int32) else v1) then (if (60 : Int32) < v1 then (60 : Int32) else v1) else (0 : Int32))) (ty := .int) (C := RX0) (T := TX0) (N := 3) hx hb hts hinX0 tyX0 tyX0_ok nmX0 hown hK.1 hP hD hS 0 rfl rfl 2 (by decide) hf19 (fun _ h9 => h9) rfl (by decide +kernel) rfl rfl (Nat.le_of_ble_eq_true rfl) dX0_begin_11 (fun H locs hP hD hS => ?_)
  have hP : va_P G.1 vwCl (WC G c_h c_q c_next c_says (if (0 : Int32) < (if (60 : Int32) < v1 then (60 : Int32) else v1) then (if (60 : Int32) < v1 then (60 : Int32) else v1) else (0 : Int32))) H := hP
  have hD : va_D A (WC G c_h c_q c_next c_says (if (0 : Int32) < (if (60 : Int32) < v1 then (60 : Int32) else v1) then (if (60 : Int32) < v1 then (60 : Int32) else v1) else (0 : Int32))) := hD
  obtain rfl := oi1 h
  exact hret (fun _ => 0) _ _ _ _ _ _ dX0_begin_14 hP hD hS (Nat.le_of_ble_eq_true rfl) (Nat.le_of_ble_eq_true rfl)
abbrev rX0_isKind : Room := { frames := 0, cells := 0, slots := 0, locals := 0 }
set_option maxHeartbeats 4000000 in
set_option maxRecDepth 100000 in
theorem c_X0_isKind (l : Launch) (G : GG) (c_h : Nat) (c_q : Nat → Nat) (c_next : AI) (c_says : AI) (c_size : Int32)  (v1 : Int32) (r : Int32) (h : p_X0_isKind c_size v1 = some r) : SI l yX0_isKind wsX0_isKind rX0_isKind G [.ref c_h, .int v1] (WC G c_h c_q c_next c_says c_size) r := by
  refine enterSI (cc := cX0_isKind) (maxL := 2) (by decide) rfl (Nat.le_of_ble_eq_true rfl) ?_
  intro p e s m args below meth c Q hx hb hml hown hts hK hP hret ls hl
  have hown : s.vm.findClass RX0 = some m.cls := hown
  have hf19 := hts (.fieldLink RX0 19 "DigitClaims$Claim" "size" "I") (by decide +kernel)
  have hinX0 : ∀ w ∈ wsX00, w ∈ wsX0_isKind := by decide +kernel
  have hl : lv_has ls 2 [(0, .ref c_h), (1, .int v1)] := hl
  unfold p_X0_isKind at h
  refine lv_iload_n hx hb dX0_isKind_0 rfl (lv_at hl 1 rfl) ?_
  refine lv_if_lt (tgt := 16) hx hb dX0_isKind_1 (by decide) (fun c_1 => ?_) (fun c_1 => ?_)
  · replace h := (if_pos c_1).symm.trans h
    refine lv_iconst (v := 0) hx hb dX0_isKind_16 (by decide) ?_
    obtain ⟨gbv, h⟩ := gb_e h
    obtain rfl := oi1 h
    exact hret _ _ _ dX0_isKind_17 rfl (nb gbv)
  · replace h := (if_neg c_1).symm.trans h
    refine lv_iload_n hx hb dX0_isKind_4 rfl (lv_at hl 1 rfl) ?_
    refine lv_aload_n hx hb dX0_isKind_5 rfl (lv_at hl 0 rfl) ?_
    refine va_get (D := G.1) (ci := 0) (v := .int c_size) (C := RX0) (T := TX0) (N := 3) hx hb hts hinX0 hown hK.1 hP 0 rfl rfl 2 (by decide) hf19 (fun _ h9 => h9) rfl dX0_isKind_6 ?_
    refine lv_icmp_ge (tgt := 16) hx hb dX0_isKind_9 (by decide) (fun c_9 => ?_) (fun c_9 => ?_)
    · replace h := (if_pos c_9).symm.trans h
      refine lv_iconst (v := 0) hx hb dX0_isKind_16 (by decide) ?_
      obtain ⟨gbv, h⟩ := gb_e h
      obtain rfl := oi1 h
      exact hret _ _ _ dX0_isKind_17 rfl (nb gbv)
    · replace h := (if_neg c_9).symm.trans h
      refine lv_iconst (v := 1) hx hb dX0_isKind_12 (by decide) ?_
      refine lv_goto (tgt := 17) hx hb dX0_isKind_13 (by decide) ?_
      obtain ⟨gbv, h⟩ := gb_e h
      obtain rfl := oi1 h
      exact hret _ _ _ dX0_isKind_17 rfl (nb gbv)
abbrev rX0_write : Room := { frames := 1, cells := 0, slots := 0, locals := 21 }
set_option maxHeartbeats 4000000 in
set_option maxRecDepth 100000 in
theorem c_X0_write (l : Launch) (G : GG) (c_h : Nat) (c_q : Nat → Nat) (c_next : AI) (c_says : AI) (c_size : Int32)  (v1 : Int32) (v2 : Int32) (v3 : Int32) (sz : Nat) (c_next_z : AI) (h : p_X0_write c_next c_size v1 v2 v3 = some c_next_z) : CV l yX0_write wsX0_write rX0_write G [.ref c_h, .int v1, .int v2, .int v3] (WC G c_h c_q c_next c_says c_size) sz (fun u => WC G c_h c_q c_next_z c_says c_size) := by
  refine enterCV (cc := cX0_write) (maxL := 4) (by decide) rfl (Nat.le_of_ble_eq_true rfl) ?_
  intro p e s m args below meth c A Q hx hb hml hown hts hK hP hD hS hA hnm hret ls hl
  have hown : s.vm.findClass RX0 = some m.cls := hown
  have hf9 := hts (.fieldLink RX0 9 "DigitClaims$Claim" "next" "[I") (by decide +kernel)
  have hinX0 : ∀ w ∈ wsX00, w ∈ wsX0_write := by decide +kernel
  have hl : lv_has ls 4 [(0, .ref c_h), (1, .int v1), (2, .int v2), (3, .int v3)] := hl
  unfold p_X0_write at h
  refine lv_aload_n hx hb dX0_write_0 rfl (lv_at hl 0 rfl) ?_
  refine lv_iload_n hx hb dX0_write_1 rfl (lv_at hl 1 rfl) ?_
  obtain ⟨r_2, hc_2, h⟩ := ob1_e h
  refine k_si (va_runV (As := [.int v1]) (rest := []) ⟨hx, hb, hml, hown, hts⟩ (c_X0_isKind l G c_h c_q c_next c_says c_size  v1 r_2 hc_2) (cwV 1 hts gX0_write_X0_isKind rfl rfl rfl ⟨rfl, eX0_isKind⟩ ⟨Nat.le_of_ble_eq_true rfl, Nat.le_of_ble_eq_true rfl⟩) (preSV (ci := 0) (q0 := 0) hK hP rfl rfl) rfl rfl hl.1 rfl (lv_room (Nat.le_of_ble_eq_true rfl)) dX0_write_2 ⟨Nat.le_of_ble_eq_true rfl, Nat.le_of_ble_eq_true rfl⟩) ?_
  refine lv_if_eq (tgt := 35) hx hb dX0_write_5 (by decide) (fun c_5 => ?_) (fun c_5 => ?_)
  · replace h := (if_pos c_5).symm.trans h
    obtain rfl := oi1 h
    exact hret (fun _ => 0) _ _ _ _ _ _ dX0_write_35 hP hD hS (Nat.le_of_ble_eq_true rfl) (Nat.le_of_ble_eq_true rfl)
  · replace h := (if_neg c_5).symm.trans h
    refine lv_iload_n hx hb dX0_write_8 rfl (lv_at hl 2 rfl) ?_
    obtain ⟨r_9, hc_9, h⟩ := ob1_e h
    refine k_si (va_runSN (As := [.int v2]) (rest := []) ⟨hx, hb, hml, hown, hts⟩ (c_X9_isColumn l G    v2 r_9 hc_9) ⟨va_cnB 1 hts gX0_write_X9_isColumn_n36 rfl rfl rfl (hK.2 _ (List.mem_of_getElem? (i := 4) rfl)) (hts (.initialized RX9) (by decide +kernel)) eX9_isColumn ⟨Nat.le_of_ble_eq_true rfl, Nat.le_of_ble_eq_true rfl⟩, hts (.static yX9_isColumn) (by decide +kernel), trivial⟩ (preSS hK (fun k q h => by cases h)) rfl rfl hl.1 rfl (lv_room (Nat.le_of_ble_eq_true rfl)) dX0_write_9 ⟨Nat.le_of_ble_eq_true rfl, Nat.le_of_ble_eq_true rfl⟩) ?_
    refine lv_if_eq (tgt := 35) hx hb dX0_write_12 (by decide) (fun c_12 => ?_) (fun c_12 => ?_)
    · replace h := (if_pos c_12).symm.trans h
      obtain rfl := oi1 h
      exact hret (fun _ => 0) _ _ _ _ _ _ dX0_write_35 hP hD hS (Nat.le_of_ble_eq_true rfl) (Nat.le_of_ble_eq_true rfl)
    · replace h := (if_neg c_12).symm.trans h
      refine lv_aload_n hx hb dX0_write_15 rfl (lv_at hl 0 rfl) ?_
      refine lv_iload_n hx hb dX0_write_16 rfl (lv_at hl 3 rfl) ?_
      obtain ⟨r_17, hc_17, h⟩ := ob1_e h
      refine k_si (va_runV (As := [.int v3]) (rest := []) ⟨hx, hb, hml, hown, hts⟩ (c_X0_isKind l G c_h c_q c_next c_says c_size  v3 r_17 hc_17) (cwV 1 hts gX0_write_X0_isKind rfl rfl rfl ⟨rfl, eX0_isKind⟩ ⟨Nat.le_of_ble_eq_true rfl, Nat.le_of_ble_eq_true rfl⟩) (preSV (ci := 0) (q0 := 0) hK hP rfl rfl) rfl rfl hl.1 rfl (lv_room (Nat.le_of_ble_eq_true rfl)) dX0_write_17 ⟨Nat.le_of_ble_eq_true rfl, Nat.le_of_ble_eq_true rfl⟩) ?_
      refine lv_if_eq (tgt := 35) hx hb dX0_write_20 (by decide) (fun c_20 => ?_) (fun c_20 => ?_)
      · replace h := (if_pos c_20).symm.trans h
        obtain rfl := oi1 h
        exact hret (fun _ => 0) _ _ _ _ _ _ dX0_write_35 hP hD hS (Nat.le_of_ble_eq_true rfl) (Nat.le_of_ble_eq_true rfl)
      · replace h := (if_neg c_20).symm.trans h
        refine lv_aload_n hx hb dX0_write_23 rfl (lv_at hl 0 rfl) ?_
        refine va_get (D := G.1) (ci := 0) (v := .ref (c_q 0)) (C := RX0) (T := TX0) (N := 3) hx hb hts hinX0 hown hK.1 hP 0 rfl rfl 0 (by decide) hf9 (fun _ h9 => h9) rfl dX0_write_24 ?_
        refine lv_iload_n hx hb dX0_write_27 rfl (lv_at hl 1 rfl) ?_
        refine lv_bipush (v := 8) hx hb dX0_write_28 (by decide) ?_
        refine lv_imul hx hb dX0_write_30 ?_
        refine lv_iload_n hx hb dX0_write_31 rfl (lv_at hl 2 rfl) ?_
        refine lv_iadd hx hb dX0_write_32 ?_
        refine lv_iload_n hx hb dX0_write_33 rfl (lv_at hl 3 rfl) ?_
        obtain ⟨g_34, h⟩ := gi_e h
        refine va_iast hx hb hK.1 hP hD hS 1 0 rfl rfl g_34 dX0_write_34 (fun H locs hP hD hS => ?_)
        have hP : va_P G.1 vwCl (WC G c_h c_q (upd c_next ((v1 * (8 : Int32)) + v2).toNatClampNeg v3) c_says c_size) H := hP
        have hD : va_D A (WC G c_h c_q (upd c_next ((v1 * (8 : Int32)) + v2).toNatClampNeg v3) c_says c_size) := hD
        obtain rfl := oi1 h
        exact hret (fun _ => 0) _ _ _ _ _ _ dX0_write_35 hP hD hS (Nat.le_of_ble_eq_true rfl) (Nat.le_of_ble_eq_true rfl)
abbrev rX0_writeSays : Room := { frames := 1, cells := 0, slots := 0, locals := 21 }
set_option maxHeartbeats 4000000 in
set_option maxRecDepth 100000 in
theorem c_X0_writeSays (l : Launch) (G : GG) (c_h : Nat) (c_q : Nat → Nat) (c_next : AI) (c_says : AI) (c_size : Int32)  (v1 : Int32) (v2 : Int32) (sz : Nat) (c_says_z : AI) (h : p_X0_writeSays c_says c_size v1 v2 = some c_says_z) : CV l yX0_writeSays wsX0_writeSays rX0_writeSays G [.ref c_h, .int v1, .int v2] (WC G c_h c_q c_next c_says c_size) sz (fun u => WC G c_h c_q c_next c_says_z c_size) := by
  refine enterCV (cc := cX0_writeSays) (maxL := 3) (by decide) rfl (Nat.le_of_ble_eq_true rfl) ?_
  intro p e s m args below meth c A Q hx hb hml hown hts hK hP hD hS hA hnm hret ls hl
  have hown : s.vm.findClass RX0 = some m.cls := hown
  have hf15 := hts (.fieldLink RX0 15 "DigitClaims$Claim" "says" "[Z") (by decide +kernel)
  have hinX0 : ∀ w ∈ wsX00, w ∈ wsX0_writeSays := by decide +kernel
  have hl : lv_has ls 3 [(0, .ref c_h), (1, .int v1), (2, .int v2)] := hl
  unfold p_X0_writeSays at h
  refine lv_aload_n hx hb dX0_writeSays_0 rfl (lv_at hl 0 rfl) ?_
  refine lv_iload_n hx hb dX0_writeSays_1 rfl (lv_at hl 1 rfl) ?_
  obtain ⟨r_2, hc_2, h⟩ := ob1_e h
  refine k_si (va_runV (As := [.int v1]) (rest := []) ⟨hx, hb, hml, hown, hts⟩ (c_X0_isKind l G c_h c_q c_next c_says c_size  v1 r_2 hc_2) (cwV 1 hts gX0_writeSays_X0_isKind rfl rfl rfl ⟨rfl, eX0_isKind⟩ ⟨Nat.le_of_ble_eq_true rfl, Nat.le_of_ble_eq_true rfl⟩) (preSV (ci := 0) (q0 := 0) hK hP rfl rfl) rfl rfl hl.1 rfl (lv_room (Nat.le_of_ble_eq_true rfl)) dX0_writeSays_2 ⟨Nat.le_of_ble_eq_true rfl, Nat.le_of_ble_eq_true rfl⟩) ?_
  refine lv_if_eq (tgt := 15) hx hb dX0_writeSays_5 (by decide) (fun c_5 => ?_) (fun c_5 => ?_)
  · replace h := (if_pos c_5).symm.trans h
    obtain rfl := oi1 h
    exact hret (fun _ => 0) _ _ _ _ _ _ dX0_writeSays_15 hP hD hS (Nat.le_of_ble_eq_true rfl) (Nat.le_of_ble_eq_true rfl)
  · replace h := (if_neg c_5).symm.trans h
    refine lv_aload_n hx hb dX0_writeSays_8 rfl (lv_at hl 0 rfl) ?_
    refine va_get (D := G.1) (ci := 0) (v := .ref (c_q 1)) (C := RX0) (T := TX0) (N := 3) hx hb hts hinX0 hown hK.1 hP 0 rfl rfl 1 (by decide) hf15 (fun _ h9 => h9) rfl dX0_writeSays_9 ?_
    refine lv_iload_n hx hb dX0_writeSays_12 rfl (lv_at hl 1 rfl) ?_
    refine lv_iload_n hx hb dX0_writeSays_13 rfl (lv_at hl 2 rfl) ?_
    obtain ⟨g_14, h⟩ := gi_e h
    refine va_zast hx hb hK.1 hP hD hS 2 1 rfl rfl g_14 dX0_writeSays_14 (fun H locs hP hD hS => ?_)
    have hP : va_P G.1 vwCl (WC G c_h c_q c_next (upd c_says v1.toNatClampNeg (v2 &&& (1 : Int32))) c_size) H := hP
    have hD : va_D A (WC G c_h c_q c_next (upd c_says v1.toNatClampNeg (v2 &&& (1 : Int32))) c_size) := hD
    obtain rfl := oi1 h
    exact hret (fun _ => 0) _ _ _ _ _ _ dX0_writeSays_15 hP hD hS (Nat.le_of_ble_eq_true rfl) (Nat.le_of_ble_eq_true rfl)
abbrev rX0_after : Room := { frames := 1, cells := 0, slots := 0, locals := 21 }
set_option maxHeartbeats 4000000 in
set_option maxRecDepth 100000 in
theorem c_X0_after (l : Launch) (G : GG) (c_h : Nat) (c_q : Nat → Nat) (c_next : AI) (c_says : AI) (c_size : Int32)  (v1 : Int32) (v2 : Int32) (r : Int32) (h : p_X0_after c_next c_size v1 v2 = some r) : SI l yX0_after wsX0_after rX0_after G [.ref c_h, .int v1, .int v2] (WC G c_h c_q c_next c_says c_size) r := by
  refine enterSI (cc := cX0_after) (maxL := 3) (by decide) rfl (Nat.le_of_ble_eq_true rfl) ?_
  intro p e s m args below meth c Q hx hb hml hown hts hK hP hret ls hl
  have hown : s.vm.findClass RX0 = some m.cls := hown
  have hf9 := hts (.fieldLink RX0 9 "DigitClaims$Claim" "next" "[I") (by decide +kernel)
  have hinX0 : ∀ w ∈ wsX00, w ∈ wsX0_after := by decide +kernel
  have hl : lv_has ls 3 [(0, .ref c_h), (1, .int v1), (2, .int v2)] := hl
  unfold p_X0_after at h
  refine lv_aload_n hx hb dX0_after_0 rfl (lv_at hl 0 rfl) ?_
  refine lv_iload_n hx hb dX0_after_1 rfl (lv_at hl 1 rfl) ?_
  obtain ⟨r_2, hc_2, h⟩ := ob1_e h
  refine k_si (va_runV (As := [.int v1]) (rest := []) ⟨hx, hb, hml, hown, hts⟩ (c_X0_isKind l G c_h c_q c_next c_says c_size  v1 r_2 hc_2) (cwV 1 hts gX0_after_X0_isKind rfl rfl rfl ⟨rfl, eX0_isKind⟩ ⟨Nat.le_of_ble_eq_true rfl, Nat.le_of_ble_eq_true rfl⟩) (preSV (ci := 0) (q0 := 0) hK hP rfl rfl) rfl rfl hl.1 rfl (lv_room (Nat.le_of_ble_eq_true rfl)) dX0_after_2 ⟨Nat.le_of_ble_eq_true rfl, Nat.le_of_ble_eq_true rfl⟩) ?_
  refine lv_if_eq (tgt := 29) hx hb dX0_after_5 (by decide) (fun c_5 => ?_) (fun c_5 => ?_)
  · replace h := (if_pos c_5).symm.trans h
    refine lv_iconst (v := 0) hx hb dX0_after_29 (by decide) ?_
    obtain rfl := oi1 h
    exact hret _ _ _ dX0_after_30 rfl rfl
  · replace h := (if_neg c_5).symm.trans h
    refine lv_iload_n hx hb dX0_after_8 rfl (lv_at hl 2 rfl) ?_
    obtain ⟨r_9, hc_9, h⟩ := ob1_e h
    refine k_si (va_runSN (As := [.int v2]) (rest := []) ⟨hx, hb, hml, hown, hts⟩ (c_X9_isColumn l G    v2 r_9 hc_9) ⟨va_cnB 1 hts gX0_after_X9_isColumn_n36 rfl rfl rfl (hK.2 _ (List.mem_of_getElem? (i := 4) rfl)) (hts (.initialized RX9) (by decide +kernel)) eX9_isColumn ⟨Nat.le_of_ble_eq_true rfl, Nat.le_of_ble_eq_true rfl⟩, hts (.static yX9_isColumn) (by decide +kernel), trivial⟩ (preSS hK (fun k q h => by cases h)) rfl rfl hl.1 rfl (lv_room (Nat.le_of_ble_eq_true rfl)) dX0_after_9 ⟨Nat.le_of_ble_eq_true rfl, Nat.le_of_ble_eq_true rfl⟩) ?_
    refine lv_if_eq (tgt := 29) hx hb dX0_after_12 (by decide) (fun c_12 => ?_) (fun c_12 => ?_)
    · replace h := (if_pos c_12).symm.trans h
      refine lv_iconst (v := 0) hx hb dX0_after_29 (by decide) ?_
      obtain rfl := oi1 h
      exact hret _ _ _ dX0_after_30 rfl rfl
    · replace h := (if_neg c_12).symm.trans h
      refine lv_aload_n hx hb dX0_after_15 rfl (lv_at hl 0 rfl) ?_
      refine va_get (D := G.1) (ci := 0) (v := .ref (c_q 0)) (C := RX0) (T := TX0) (N := 3) hx hb hts hinX0 hown hK.1 hP 0 rfl rfl 0 (by decide) hf9 (fun _ h9 => h9) rfl dX0_after_16 ?_
      refine lv_iload_n hx hb dX0_after_19 rfl (lv_at hl 1 rfl) ?_
      refine lv_bipush (v := 8) hx hb dX0_after_20 (by decide) ?_
      refine lv_imul hx hb dX0_after_22 ?_
      refine lv_iload_n hx hb dX0_after_23 rfl (lv_at hl 2 rfl) ?_
      refine lv_iadd hx hb dX0_after_24 ?_
      obtain ⟨g_25, h⟩ := gi_e h
      refine va_iald hx hb hK.1 hP 1 0 rfl rfl g_25 dX0_after_25 ?_
      refine lv_goto (tgt := 30) hx hb dX0_after_26 (by decide) ?_
      obtain rfl := oi1 h
      exact hret _ _ _ dX0_after_30 rfl rfl
abbrev rX0_saysAt : Room := { frames := 1, cells := 0, slots := 0, locals := 21 }
set_option maxHeartbeats 4000000 in
set_option maxRecDepth 100000 in
theorem c_X0_saysAt (l : Launch) (G : GG) (c_h : Nat) (c_q : Nat → Nat) (c_next : AI) (c_says : AI) (c_size : Int32)  (v1 : Int32) (r : Int32) (h : p_X0_saysAt c_says c_size v1 = some r) : SI l yX0_saysAt wsX0_saysAt rX0_saysAt G [.ref c_h, .int v1] (WC G c_h c_q c_next c_says c_size) r := by
  refine enterSI (cc := cX0_saysAt) (maxL := 2) (by decide) rfl (Nat.le_of_ble_eq_true rfl) ?_
  intro p e s m args below meth c Q hx hb hml hown hts hK hP hret ls hl
  have hown : s.vm.findClass RX0 = some m.cls := hown
  have hf15 := hts (.fieldLink RX0 15 "DigitClaims$Claim" "says" "[Z") (by decide +kernel)
  have hinX0 : ∀ w ∈ wsX00, w ∈ wsX0_saysAt := by decide +kernel
  have hl : lv_has ls 2 [(0, .ref c_h), (1, .int v1)] := hl
  unfold p_X0_saysAt at h
  refine lv_aload_n hx hb dX0_saysAt_0 rfl (lv_at hl 0 rfl) ?_
  refine lv_iload_n hx hb dX0_saysAt_1 rfl (lv_at hl 1 rfl) ?_
  obtain ⟨r_2, hc_2, h⟩ := ob1_e h
  refine k_si (va_runV (As := [.int v1]) (rest := []) ⟨hx, hb, hml, hown, hts⟩ (c_X0_isKind l G c_h c_q c_next c_says c_size  v1 r_2 hc_2) (cwV 1 hts gX0_saysAt_X0_isKind rfl rfl rfl ⟨rfl, eX0_isKind⟩ ⟨Nat.le_of_ble_eq_true rfl, Nat.le_of_ble_eq_true rfl⟩) (preSV (ci := 0) (q0 := 0) hK hP rfl rfl) rfl rfl hl.1 rfl (lv_room (Nat.le_of_ble_eq_true rfl)) dX0_saysAt_2 ⟨Nat.le_of_ble_eq_true rfl, Nat.le_of_ble_eq_true rfl⟩) ?_
  refine lv_if_eq (tgt := 21) hx hb dX0_saysAt_5 (by decide) (fun c_5 => ?_) (fun c_5 => ?_)
  · replace h := (if_pos c_5).symm.trans h
    refine lv_iconst (v := 0) hx hb dX0_saysAt_21 (by decide) ?_
    obtain ⟨gbv, h⟩ := gb_e h
    obtain rfl := oi1 h
    exact hret _ _ _ dX0_saysAt_22 rfl (nb gbv)
  · replace h := (if_neg c_5).symm.trans h
    refine lv_aload_n hx hb dX0_saysAt_8 rfl (lv_at hl 0 rfl) ?_
    refine va_get (D := G.1) (ci := 0) (v := .ref (c_q 1)) (C := RX0) (T := TX0) (N := 3) hx hb hts hinX0 hown hK.1 hP 0 rfl rfl 1 (by decide) hf15 (fun _ h9 => h9) rfl dX0_saysAt_9 ?_
    refine lv_iload_n hx hb dX0_saysAt_12 rfl (lv_at hl 1 rfl) ?_
    obtain ⟨g_13, h⟩ := gi_e h
    refine va_zald hx hb hK.1 hP 2 1 rfl rfl g_13 dX0_saysAt_13 ?_
    refine lv_if_eq (tgt := 21) hx hb dX0_saysAt_14 (by decide) (fun c_14 => ?_) (fun c_14 => ?_)
    · replace h := (if_pos c_14).symm.trans h
      refine lv_iconst (v := 0) hx hb dX0_saysAt_21 (by decide) ?_
      obtain ⟨gbv, h⟩ := gb_e h
      obtain rfl := oi1 h
      exact hret _ _ _ dX0_saysAt_22 rfl (nb gbv)
    · replace h := (if_neg c_14).symm.trans h
      refine lv_iconst (v := 1) hx hb dX0_saysAt_17 (by decide) ?_
      refine lv_goto (tgt := 22) hx hb dX0_saysAt_18 (by decide) ?_
      obtain ⟨gbv, h⟩ := gb_e h
      obtain rfl := oi1 h
      exact hret _ _ _ dX0_saysAt_22 rfl (nb gbv)
abbrev rX0_saysOf : Room := { frames := 2, cells := 0, slots := 0, locals := 43 }
set_option maxHeartbeats 4000000 in
set_option maxRecDepth 100000 in
theorem c_X0_saysOf (l : Launch) (G : GG) (n : Nat) (c_h : Nat) (c_q : Nat → Nat) (c_next : AI) (c_says : AI) (c_size : Int32)  (v1 : Int32) (v2 : Int32) (v3 : Int32) (r : Int32) (h : p_X0_saysOf n c_next c_says c_size v1 v2 v3 = some r) : SI l yX0_saysOf wsX0_saysOf rX0_saysOf G [.ref c_h, .int v1, .int v2, .int v3] (WC G c_h c_q c_next c_says c_size) r := by
  refine enterSI (cc := cX0_saysOf) (maxL := 7) (by decide) rfl (Nat.le_of_ble_eq_true rfl) ?_
  intro p e s m args below meth c Q hx hb hml hown hts hK hP hret ls hl
  have hown : s.vm.findClass RX0 = some m.cls := hown
  have hl : lv_has ls 7 [(0, .ref c_h), (1, .int v1), (2, .int v2), (3, .int v3)] := hl
  unfold p_X0_saysOf at h
  refine lv_iconst (v := 0) hx hb dX0_saysOf_0 (by decide) ?_
  refine lv_istore (lv' := [(4, .int (0 : Int32)), (0, .ref c_h), (1, .int v1), (2, .int v2), (3, .int v3)]) hx hb dX0_saysOf_1 hl (by decide) rfl (fun ls hl => ?_)
  refine lv_bipush (v := 29) hx hb dX0_saysOf_3 (by decide) ?_
  refine lv_istore (lv' := [(5, .int (29 : Int32)), (4, .int (0 : Int32)), (0, .ref c_h), (1, .int v1), (2, .int v2), (3, .int v3)]) hx hb dX0_saysOf_5 hl (by decide) rfl (fun ls hl => ?_)
  obtain ⟨o4_7, hT7, h⟩ := ob1_e h
  have hX7 : ∀ (x4_7 : Int32)  (ls : Array Slot), some x4_7 = some o4_7 → lv_has ls 7 [(0, .ref c_h), (4, .int x4_7)] → W p l e rX0_saysOf s m args below meth c s.heap [] 0 0 Q (F0 m 54 ls []) := by
    intro x4_7 ls hq hl
    obtain rfl := oi1 hq
    refine lv_aload_n hx hb dX0_saysOf_54 rfl (lv_at hl 0 rfl) ?_
    refine lv_iload hx hb dX0_saysOf_55 (lv_at hl 1 rfl) ?_
    obtain ⟨r_57, hc_57, h⟩ := ob1_e h
    refine k_si (va_runV (As := [.int o4_7]) (rest := []) ⟨hx, hb, hml, hown, hts⟩ (c_X0_saysAt l G c_h c_q c_next c_says c_size  o4_7 r_57 hc_57) (cwV 1 hts gX0_saysOf_X0_saysAt rfl rfl rfl ⟨rfl, eX0_saysAt⟩ ⟨Nat.le_of_ble_eq_true rfl, Nat.le_of_ble_eq_true rfl⟩) (preSV (ci := 0) (q0 := 0) hK hP rfl rfl) rfl rfl hl.1 rfl (lv_room (Nat.le_of_ble_eq_true rfl)) dX0_saysOf_57 ⟨Nat.le_of_ble_eq_true rfl, Nat.le_of_ble_eq_true rfl⟩) ?_
    obtain ⟨gbv, h⟩ := gb_e h
    obtain rfl := oi1 h
    exact hret _ _ _ dX0_saysOf_60 rfl (nb gbv)
  have hL7 : ∀ (f : Nat) (v4_7 : Int32) (v5_7 : Int32)  (ls : Array Slot), p_X0_saysOf_L7 c_next c_size v1 v2 v3 f v4_7 v5_7 = some o4_7 → lv_has ls 7 [(0, .ref c_h), (1, .int v1), (2, .int v2), (3, .int v3), (4, .int v4_7), (5, .int v5_7)] → W p l e rX0_saysOf s m args below meth c s.heap [] 0 0 Q (F0 m 7 ls []) := by
    intro f
    induction f with
    | zero => intro v4_7 v5_7 ls h hl; cases (show none = some _ from h)
    | succ f ih =>
      intro v4_7 v5_7 ls h hl
      rw [p_X0_saysOf_L7] at h
      refine lv_iload hx hb dX0_saysOf_7 (lv_at hl 5 rfl) ?_
      refine lv_if_lt (tgt := 54) hx hb dX0_saysOf_9 (by decide) (fun c_9 => ?_) (fun c_9 => ?_)
      · replace h := (if_pos c_9).symm.trans h
        exact hX7 _  _ h (lv_sub hl [0, 4] rfl)
      · replace h := (if_neg c_9).symm.trans h
        refine lv_iload_n hx hb dX0_saysOf_12 rfl (lv_at hl 1 rfl) ?_
        refine lv_iload hx hb dX0_saysOf_13 (lv_at hl 5 rfl) ?_
        refine lv_ishr hx hb dX0_saysOf_15 ?_
        refine lv_iconst (v := 1) hx hb dX0_saysOf_16 (by decide) ?_
        refine lv_iand hx hb dX0_saysOf_17 ?_
        refine lv_iload_n hx hb dX0_saysOf_18 rfl (lv_at hl 2 rfl) ?_
        refine lv_iload hx hb dX0_saysOf_19 (lv_at hl 5 rfl) ?_
        refine lv_ishr hx hb dX0_saysOf_21 ?_
        refine lv_iconst (v := 1) hx hb dX0_saysOf_22 (by decide) ?_
        refine lv_iand hx hb dX0_saysOf_23 ?_
        refine lv_iconst (v := 1) hx hb dX0_saysOf_24 (by decide) ?_
        refine lv_ishl hx hb dX0_saysOf_25 ?_
        refine lv_ior hx hb dX0_saysOf_26 ?_
        refine lv_iload_n hx hb dX0_saysOf_27 rfl (lv_at hl 3 rfl) ?_
        refine lv_iload hx hb dX0_saysOf_28 (lv_at hl 5 rfl) ?_
        refine lv_ishr hx hb dX0_saysOf_30 ?_
        refine lv_iconst (v := 1) hx hb dX0_saysOf_31 (by decide) ?_
        refine lv_iand hx hb dX0_saysOf_32 ?_
        refine lv_iconst (v := 2) hx hb dX0_saysOf_33 (by decide) ?_
        refine lv_ishl hx hb dX0_saysOf_34 ?_
        refine lv_ior hx hb dX0_saysOf_35 ?_
        refine lv_istore (lv' := [(6, .int ((((v1 >>> (v5_7 &&& (31 : Int32))) &&& (1 : Int32)) ||| (((v2 >>> (v5_7 &&& (31 : Int32))) &&& (1 : Int32)) <<< ((1 : Int32) &&& (31 : Int32)))) ||| (((v3 >>> (v5_7 &&& (31 : Int32))) &&& (1 : Int32)) <<< ((2 : Int32) &&& (31 : Int32))))), (0, .ref c_h), (1, .int v1), (2, .int v2), (3, .int v3), (4, .int v4_7), (5, .int v5_7)]) hx hb dX0_saysOf_36 hl (by decide) rfl (fun ls hl => ?_)
        refine lv_aload_n hx hb dX0_saysOf_38 rfl (lv_at hl 1 rfl) ?_
        refine lv_iload hx hb dX0_saysOf_39 (lv_at hl 5 rfl) ?_
        refine lv_iload hx hb dX0_saysOf_41 (lv_at hl 0 rfl) ?_
        obtain ⟨r_43, hc_43, h⟩ := ob1_e h
        refine k_si (va_runV (As := [.int v4_7, .int ((((v1 >>> (v5_7 &&& (31 : Int32))) &&& (1 : Int32)) ||| (((v2 >>> (v5_7 &&& (31 : Int32))) &&& (1 : Int32)) <<< ((1 : Int32) &&& (31 : Int32)))) ||| (((v3 >>> (v5_7 &&& (31 : Int32))) &&& (1 : Int32)) <<< ((2 : Int32) &&& (31 : Int32))))]) (rest := []) ⟨hx, hb, hml, hown, hts⟩ (c_X0_after l G c_h c_q c_next c_says c_size  v4_7 ((((v1 >>> (v5_7 &&& (31 : Int32))) &&& (1 : Int32)) ||| (((v2 >>> (v5_7 &&& (31 : Int32))) &&& (1 : Int32)) <<< ((1 : Int32) &&& (31 : Int32)))) ||| (((v3 >>> (v5_7 &&& (31 : Int32))) &&& (1 : Int32)) <<< ((2 : Int32) &&& (31 : Int32)))) r_43 hc_43) (cwV 2 hts gX0_saysOf_X0_after rfl rfl rfl ⟨rfl, eX0_after⟩ ⟨Nat.le_of_ble_eq_true rfl, Nat.le_of_ble_eq_true rfl⟩) (preSV (ci := 0) (q0 := 0) hK hP rfl rfl) rfl rfl hl.1 rfl (lv_room (Nat.le_of_ble_eq_true rfl)) dX0_saysOf_43 ⟨Nat.le_of_ble_eq_true rfl, Nat.le_of_ble_eq_true rfl⟩) ?_
        refine lv_istore (lv' := [(4, .int r_43), (6, .int ((((v1 >>> (v5_7 &&& (31 : Int32))) &&& (1 : Int32)) ||| (((v2 >>> (v5_7 &&& (31 : Int32))) &&& (1 : Int32)) <<< ((1 : Int32) &&& (31 : Int32)))) ||| (((v3 >>> (v5_7 &&& (31 : Int32))) &&& (1 : Int32)) <<< ((2 : Int32) &&& (31 : Int32))))), (0, .ref c_h), (1, .int v1), (2, .int v2), (3, .int v3), (5, .int v5_7)]) hx hb dX0_saysOf_46 hl (by decide) rfl (fun ls hl => ?_)
        refine lv_iinc (v := (v5_7 + (-1 : Int32))) (lv' := [(5, .int (v5_7 + (-1 : Int32))), (4, .int r_43), (6, .int ((((v1 >>> (v5_7 &&& (31 : Int32))) &&& (1 : Int32)) ||| (((v2 >>> (v5_7 &&& (31 : Int32))) &&& (1 : Int32)) <<< ((1 : Int32) &&& (31 : Int32)))) ||| (((v3 >>> (v5_7 &&& (31 : Int32))) &&& (1 : Int32)) <<< ((2 : Int32) &&& (31 : Int32))))), (0, .ref c_h), (1, .int v1), (2, .int v2), (3, .int v3)]) hx hb dX0_saysOf_48 hl (k := 6) rfl rfl (by decide) rfl (fun ls hl => ?_)
        refine lv_goto (tgt := 7) hx hb dX0_saysOf_51 (by decide) ?_
        exact ih _ _  _ h (lv_sub hl [3, 4, 5, 6, 1, 0] rfl)
  exact hL7 n _ _  _ hT7 (lv_sub hl [2, 3, 4, 5, 1, 0] rfl)
abbrev rX0_heeds : Room := { frames := 2, cells := 0, slots := 0, locals := 43 }
set_option maxHeartbeats 4000000 in
set_option maxRecDepth 100000 in
theorem c_X0_heeds (l : Launch) (G : GG) (n : Nat) (c_h : Nat) (c_q : Nat → Nat) (c_next : AI) (c_says : AI) (c_size : Int32)  (v1 : Int32) (r : Int32) (h : p_X0_heeds n c_next c_size v1 = some r) : SI l yX0_heeds wsX0_heeds rX0_heeds G [.ref c_h, .int v1] (WC G c_h c_q c_next c_says c_size) r := by
  refine enterSI (cc := cX0_heeds) (maxL := 4) (by decide) rfl (Nat.le_of_ble_eq_true rfl) ?_
  intro p e s m args below meth c Q hx hb hml hown hts hK hP hret ls hl
  have hown : s.vm.findClass RX0 = some m.cls := hown
  have hf19 := hts (.fieldLink RX0 19 "DigitClaims$Claim" "size" "I") (by decide +kernel)
  have hinX0 : ∀ w ∈ wsX00, w ∈ wsX0_heeds := by decide +kernel
  have hl : lv_has ls 4 [(0, .ref c_h), (1, .int v1)] := hl
  unfold p_X0_heeds at h
  refine lv_iconst (v := 0) hx hb dX0_heeds_0 (by decide) ?_
  refine lv_istore_n (lv' := [(2, .int (0 : Int32)), (0, .ref c_h), (1, .int v1)]) hx hb dX0_heeds_1 rfl hl (by decide) rfl (fun ls hl => ?_)
  obtain ⟨o_2, hT2, hd2⟩ := obS0_e h
  have hX2 : ∀   (ls : Array Slot), some (Sum.inr ()) = some o_2 → lv_has ls 4 [] → W p l e rX0_heeds s m args below meth c s.heap [] 0 0 Q (F0 m 51 ls []) := by
    intro  ls hq hl
    rcases hd2 with ⟨x, hx1, h⟩ | ⟨hx1, h⟩
    · rw [hx1] at hq; cases hq
    rw [hx1] at hq
    refine lv_iconst (v := 0) hx hb dX0_heeds_51 (by decide) ?_
    obtain ⟨gbv, h⟩ := gb_e h
    obtain rfl := oi1 h
    exact hret _ _ _ dX0_heeds_52 rfl (nb gbv)
  have hL2 : ∀ (f : Nat) (v2_2 : Int32)  (ls : Array Slot), p_X0_heeds_L2 n c_size c_next v1 f v2_2 = some o_2 → lv_has ls 4 [(0, .ref c_h), (1, .int v1), (2, .int v2_2)] → W p l e rX0_heeds s m args below meth c s.heap [] 0 0 Q (F0 m 2 ls []) := by
    intro f
    induction f with
    | zero => intro v2_2 ls h hl; cases (show none = some _ from h)
    | succ f ih =>
      intro v2_2 ls h hl
      rw [p_X0_heeds_L2] at h
      refine lv_iload_n hx hb dX0_heeds_2 rfl (lv_at hl 2 rfl) ?_
      refine lv_aload_n hx hb dX0_heeds_3 rfl (lv_at hl 0 rfl) ?_
      refine va_get (D := G.1) (ci := 0) (v := .int c_size) (C := RX0) (T := TX0) (N := 3) hx hb hts hinX0 hown hK.1 hP 0 rfl rfl 2 (by decide) hf19 (fun _ h9 => h9) rfl dX0_heeds_4 ?_
      refine lv_icmp_ge (tgt := 51) hx hb dX0_heeds_7 (by decide) (fun c_7 => ?_) (fun c_7 => ?_)
      · replace h := (if_pos c_7).symm.trans h
        exact hX2   _ h (lv_sub hl [] rfl)
      · replace h := (if_neg c_7).symm.trans h
        refine lv_iconst (v := 0) hx hb dX0_heeds_10 (by decide) ?_
        refine lv_istore_n (lv' := [(3, .int (0 : Int32)), (0, .ref c_h), (1, .int v1), (2, .int v2_2)]) hx hb dX0_heeds_11 rfl hl (by decide) rfl (fun ls hl => ?_)
        obtain ⟨o_12, hT12, hd12⟩ := obS0_e h
        have hX12 : ∀   (ls : Array Slot), some (Sum.inr ()) = some o_12 → lv_has ls 4 [(0, .ref c_h), (1, .int v1), (2, .int v2_2)] → W p l e rX0_heeds s m args below meth c s.heap [] 0 0 Q (F0 m 45 ls []) := by
          intro  ls hq hl
          rcases hd12 with ⟨x, hx1, h⟩ | ⟨hx1, h⟩
          · rw [hx1] at hq; cases hq
          rw [hx1] at hq
          refine lv_iinc (v := (v2_2 + (1 : Int32))) (lv' := [(2, .int (v2_2 + (1 : Int32))), (0, .ref c_h), (1, .int v1)]) hx hb dX0_heeds_45 hl (k := 2) rfl rfl (by decide) rfl (fun ls hl => ?_)
          refine lv_goto (tgt := 2) hx hb dX0_heeds_48 (by decide) ?_
          exact ih _  _ h (lv_sub hl [1, 2, 0] rfl)
        have hL12 : ∀ (f : Nat) (v3_12 : Int32)  (ls : Array Slot), p_X0_heeds_L12 c_next c_size v2_2 v1 f v3_12 = some o_12 → lv_has ls 4 [(0, .ref c_h), (1, .int v1), (2, .int v2_2), (3, .int v3_12)] → W p l e rX0_heeds s m args below meth c s.heap [] 0 0 Q (F0 m 12 ls []) := by
          intro f
          induction f with
          | zero => intro v3_12 ls h hl; cases (show none = some _ from h)
          | succ f ih =>
            intro v3_12 ls h hl
            rw [p_X0_heeds_L12] at h
            refine lv_iload_n hx hb dX0_heeds_12 rfl (lv_at hl 3 rfl) ?_
            refine lv_bipush (v := 8) hx hb dX0_heeds_13 (by decide) ?_
            refine lv_icmp_ge (tgt := 45) hx hb dX0_heeds_15 (by decide) (fun c_15 => ?_) (fun c_15 => ?_)
            · replace h := (if_pos c_15).symm.trans h
              exact hX12   _ h (lv_sub hl [0, 1, 2] rfl)
            · replace h := (if_neg c_15).symm.trans h
              refine lv_aload_n hx hb dX0_heeds_18 rfl (lv_at hl 0 rfl) ?_
              refine lv_iload_n hx hb dX0_heeds_19 rfl (lv_at hl 2 rfl) ?_
              refine lv_iload_n hx hb dX0_heeds_20 rfl (lv_at hl 3 rfl) ?_
              obtain ⟨r_21, hc_21, h⟩ := ob1_e h
              refine k_si (va_runV (As := [.int v2_2, .int v3_12]) (rest := []) ⟨hx, hb, hml, hown, hts⟩ (c_X0_after l G c_h c_q c_next c_says c_size  v2_2 v3_12 r_21 hc_21) (cwV 2 hts gX0_heeds_X0_after rfl rfl rfl ⟨rfl, eX0_after⟩ ⟨Nat.le_of_ble_eq_true rfl, Nat.le_of_ble_eq_true rfl⟩) (preSV (ci := 0) (q0 := 0) hK hP rfl rfl) rfl rfl hl.1 rfl (lv_room (Nat.le_of_ble_eq_true rfl)) dX0_heeds_21 ⟨Nat.le_of_ble_eq_true rfl, Nat.le_of_ble_eq_true rfl⟩) ?_
              refine lv_aload_n hx hb dX0_heeds_24 rfl (lv_at hl 0 rfl) ?_
              refine lv_iload_n hx hb dX0_heeds_25 rfl (lv_at hl 2 rfl) ?_
              refine lv_iload_n hx hb dX0_heeds_26 rfl (lv_at hl 3 rfl) ?_
              refine lv_iconst (v := 1) hx hb dX0_heeds_27 (by decide) ?_
              refine lv_iload_n hx hb dX0_heeds_28 rfl (lv_at hl 1 rfl) ?_
              refine lv_ishl hx hb dX0_heeds_29 ?_
              refine lv_ixor hx hb dX0_heeds_30 ?_
              obtain ⟨r_31, hc_31, h⟩ := ob1_e h
              refine k_si (va_runV (As := [.int v2_2, .int (v3_12 ^^^ ((1 : Int32) <<< (v1 &&& (31 : Int32))))]) (rest := [.int r_21]) ⟨hx, hb, hml, hown, hts⟩ (c_X0_after l G c_h c_q c_next c_says c_size  v2_2 (v3_12 ^^^ ((1 : Int32) <<< (v1 &&& (31 : Int32)))) r_31 hc_31) (cwV 2 hts gX0_heeds_X0_after rfl rfl rfl ⟨rfl, eX0_after⟩ ⟨Nat.le_of_ble_eq_true rfl, Nat.le_of_ble_eq_true rfl⟩) (preSV (ci := 0) (q0 := 0) hK hP rfl rfl) rfl rfl hl.1 rfl (lv_room (Nat.le_of_ble_eq_true rfl)) dX0_heeds_31 ⟨Nat.le_of_ble_eq_true rfl, Nat.le_of_ble_eq_true rfl⟩) ?_
              refine lv_icmp_eq (tgt := 39) hx hb dX0_heeds_34 (by decide) (fun c_34 => ?_) (fun c_34 => ?_)
              · replace h := (if_pos c_34).symm.trans h
                refine lv_iinc (v := (v3_12 + (1 : Int32))) (lv' := [(3, .int (v3_12 + (1 : Int32))), (0, .ref c_h), (1, .int v1), (2, .int v2_2)]) hx hb dX0_heeds_39 hl (k := 3) rfl rfl (by decide) rfl (fun ls hl => ?_)
                refine lv_goto (tgt := 12) hx hb dX0_heeds_42 (by decide) ?_
                exact ih _  _ h (lv_sub hl [1, 2, 3, 0] rfl)
              · replace h := (if_neg c_34).symm.trans h
                refine lv_iconst (v := 1) hx hb dX0_heeds_37 (by decide) ?_
                obtain ⟨gbv, h⟩ := gb_e h
                rcases hd12 with ⟨x, hx1, h2⟩ | ⟨hx1, _⟩
                · rw [hx1] at h
                  have hx2 := oiL h
                  rw [hx2] at h2
                  replace h := h2
                  rcases hd2 with ⟨x, hx1, h2⟩ | ⟨hx1, _⟩
                  · rw [hx1] at h
                    have hx2 := oiL h
                    rw [hx2] at h2
                    replace h := h2
                    obtain rfl := oi1 h
                    exact hret _ _ _ dX0_heeds_38 rfl (nb gbv)
                  · rw [hx1] at h; cases h
                · rw [hx1] at h; cases h
        exact hL12 n _  _ hT12 (lv_sub hl [1, 2, 3, 0] rfl)
  exact hL2 n _  _ hT2 (lv_sub hl [1, 2, 0] rfl)
abbrev rX0_becomeNot : Room := { frames := 1, cells := 0, slots := 0, locals := 60 }
set_option maxHeartbeats 4000000 in
set_option maxRecDepth 100000 in
theorem c_X0_becomeNot (l : Launch) (G : GG) (n : Nat) (f_h : Nat → Nat) (f_q : Nat → Nat → Nat) (f_next : AF) (f_says : AF) (f_size : AI) (k0 : Nat) (hk0 : k0 < 7) (k1 : Nat) (hk1 : k1 < 7)  (sz : Nat) (f_next_z : AF) (f_says_z : AF) (f_size_z : AI) (h : p_X0_becomeNot n f_next f_says f_size k0 k1 = some (f_next_z, f_says_z, f_size_z)) : CV l yX0_becomeNot wsX0_becomeNot rX0_becomeNot G [.ref (f_h k0), .ref (f_h k1)] (WF G f_h f_q f_next f_says f_size) sz (fun u => WF G f_h f_q f_next_z f_says_z f_size_z) := by
  refine enterCV (cc := cX0_becomeNot) (maxL := 3) (by decide) rfl (Nat.le_of_ble_eq_true rfl) ?_
  intro p e s m args below meth c A Q hx hb hml hown hts hK hP hD hS hA hnm hret ls hl
  have hown : s.vm.findClass RX0 = some m.cls := hown
  have hf9 := hts (.fieldLink RX0 9 "DigitClaims$Claim" "next" "[I") (by decide +kernel)
  have hf15 := hts (.fieldLink RX0 15 "DigitClaims$Claim" "says" "[Z") (by decide +kernel)
  have hf19 := hts (.fieldLink RX0 19 "DigitClaims$Claim" "size" "I") (by decide +kernel)
  have hinX0 : ∀ w ∈ wsX00, w ∈ wsX0_becomeNot := by decide +kernel
  have hl : lv_has ls 3 [(0, .ref (f_h k0)), (1, .ref (f_h k1))] := hl
  unfold p_X0_becomeNot at h
  refine lv_aload_n hx hb dX0_becomeNot_0 rfl (lv_at hl 0 rfl) ?_
  refine lv_aload_n hx hb dX0_becomeNot_1 rfl (lv_at hl 1 rfl) ?_
  refine va_get (D := G.1) (ci := 0) (v := .int (f_size k1)) (C := RX0) (T := TX0) (N := 3) hx hb hts hinX0 hown hK.1 hP (3 * k1) (famO hk1) rfl 2 (by decide) hf19 (fun _ h9 => h9) rfl dX0_becomeNot_2 ?_
  refine va_put (D := G.1) (ci := 0) (v := .int (f_size k1)) (ty := .int) (C := RX0) (T := TX0) (N := 3) hx hb hts hinX0 tyX0 tyX0_ok nmX0 hown hK.1 hP hD hS (3 * k0) (famO hk0) rfl 2 (by decide) hf19 (fun _ h9 => h9) rfl (by decide +kernel) rfl rfl (Nat.le_of_ble_eq_true rfl) dX0_becomeNot_5 (fun H locs hP hD hS => ?_)
  have hP : va_P G.1 vwCl ((WF G f_h f_q f_next f_says f_size).set (3 * k0) (f_h k0, .inr (0, [.ref (f_q k0 0), .ref (f_q k0 1), .int (f_size k1)]))) H := hP
  have hD : va_D A ((WF G f_h f_q f_next f_says f_size).set (3 * k0) (f_h k0, .inr (0, [.ref (f_q k0 0), .ref (f_q k0 1), .int (f_size k1)]))) := hD
  rw [famOs hk0] at hP hD
  have hP : va_P G.1 vwCl (WF G f_h f_q f_next f_says (va_up f_size k0 (f_size k1))) H := hP
  have hD : va_D A (WF G f_h f_q f_next f_says (va_up f_size k0 (f_size k1))) := hD
  refine lv_aload_n hx hb dX0_becomeNot_8 rfl (lv_at hl 1 rfl) ?_
  refine va_get (D := G.1) (ci := 0) (v := .ref (f_q k1 0)) (C := RX0) (T := TX0) (N := 3) hx hb hts hinX0 hown hK.1 hP (3 * k1) (famO hk1) rfl 0 (by decide) hf9 (fun _ h9 => h9) rfl dX0_becomeNot_9 ?_
  refine lv_iconst (v := 0) hx hb dX0_becomeNot_12 (by decide) ?_
  refine lv_aload_n hx hb dX0_becomeNot_13 rfl (lv_at hl 0 rfl) ?_
  refine va_get (D := G.1) (ci := 0) (v := .ref (f_q k0 0)) (C := RX0) (T := TX0) (N := 3) hx hb hts hinX0 hown hK.1 hP (3 * k0) (famO hk0) rfl 0 (by decide) hf9 (fun _ h9 => h9) rfl dX0_becomeNot_14 ?_
  refine lv_iconst (v := 0) hx hb dX0_becomeNot_17 (by decide) ?_
  refine lv_aload_n hx hb dX0_becomeNot_18 rfl (lv_at hl 0 rfl) ?_
  refine va_get (D := G.1) (ci := 0) (v := .int ((va_up f_size k0 (f_size k1)) k0)) (C := RX0) (T := TX0) (N := 3) hx hb hts hinX0 hown hK.1 hP (3 * k0) (famO hk0) rfl 2 (by decide) hf19 (fun _ h9 => h9) rfl dX0_becomeNot_19 ?_
  refine lv_bipush (v := 8) hx hb dX0_becomeNot_22 (by decide) ?_
  refine lv_imul hx hb dX0_becomeNot_24 ?_
  obtain ⟨⟨gA_25, gB_25, gC_25, gD_25, gE_25⟩, h⟩ := gcp_e h
  refine va_copyi hx hb (hml.trans hl.1.symm) hown (hts (.methodLink RX0 39 arraycopyName) (by decide +kernel)) (hts (.native arraycopyName) (by decide +kernel)) (hts (.static arraycopyName) (by decide +kernel)) (hts (.initialized "java/lang/System") (by decide +kernel)) hK.1 hP hD hS (3 * k1 + 1) (3 * k0 + 1) 0 0 (famN hk1) (famN hk0) rfl rfl rfl gA_25 gB_25 gC_25 gD_25 gE_25 (fun _ _ => rfl) (Nat.le_of_ble_eq_true rfl) (Nat.le_of_ble_eq_true rfl) dX0_becomeNot_25 (fun H locs hP hD hS => ?_)
  have hP : va_P G.1 vwCl ((WF G f_h f_q f_next f_says (va_up f_size k0 (f_size k1))).set (3 * k0 + 1) (f_q k0 0, .inl (G.2 0, 480, .inl (va_cpy (f_next k1) (f_next k0) (0 : Int32).toNatClampNeg (0 : Int32).toNatClampNeg (((va_up f_size k0 (f_size k1)) k0) * (8 : Int32)).toNatClampNeg)))) H := hP
  have hD : va_D A ((WF G f_h f_q f_next f_says (va_up f_size k0 (f_size k1))).set (3 * k0 + 1) (f_q k0 0, .inl (G.2 0, 480, .inl (va_cpy (f_next k1) (f_next k0) (0 : Int32).toNatClampNeg (0 : Int32).toNatClampNeg (((va_up f_size k0 (f_size k1)) k0) * (8 : Int32)).toNatClampNeg)))) := hD
  rw [famNs hk0] at hP hD
  have hP : va_P G.1 vwCl (WF G f_h f_q (va_up f_next k0 (va_cpy (f_next k1) (f_next k0) (0 : Int32).toNatClampNeg (0 : Int32).toNatClampNeg (((va_up f_size k0 (f_size k1)) k0) * (8 : Int32)).toNatClampNeg)) f_says (va_up f_size k0 (f_size k1))) H := hP
  have hD : va_D A (WF G f_h f_q (va_up f_next k0 (va_cpy (f_next k1) (f_next k0) (0 : Int32).toNatClampNeg (0 : Int32).toNatClampNeg (((va_up f_size k0 (f_size k1)) k0) * (8 : Int32)).toNatClampNeg)) f_says (va_up f_size k0 (f_size k1))) := hD
  refine lv_iconst (v := 0) hx hb dX0_becomeNot_28 (by decide) ?_
  refine lv_istore_n (lv' := [(2, .int (0 : Int32)), (0, .ref (f_h k0)), (1, .ref (f_h k1))]) hx hb dX0_becomeNot_29 rfl hl (by decide) rfl (fun ls hl => ?_)
  obtain ⟨f_says_o30, hT30, h⟩ := ob1_e h
  have hX30 : ∀ (f_says_o30x : AF)  (H : Heap) (locs : List Loc) (ls : Array Slot), some f_says_o30x = some f_says_o30 → va_P G.1 vwCl (WF G f_h f_q (va_up f_next k0 (va_cpy (f_next k1) (f_next k0) (0 : Int32).toNatClampNeg (0 : Int32).toNatClampNeg (((va_up f_size k0 (f_size k1)) k0) * (8 : Int32)).toNatClampNeg)) f_says_o30x (va_up f_size k0 (f_size k1))) H → va_D A (WF G f_h f_q (va_up f_next k0 (va_cpy (f_next k1) (f_next k0) (0 : Int32).toNatClampNeg (0 : Int32).toNatClampNeg (((va_up f_size k0 (f_size k1)) k0) * (8 : Int32)).toNatClampNeg)) f_says_o30x (va_up f_size k0 (f_size k1))) → va_S A s.heap H locs → lv_has ls 3 [] → W p l e rX0_becomeNot s m args below meth c H locs 0 0 Q (F0 m 64 ls []) := by
    intro f_says_o30x H locs ls hq hP hD hS hl
    obtain rfl := oi1 hq
    obtain ⟨rfl, rfl, rfl⟩ := oi3 h
    exact hret (fun _ => 0) _ _ _ _ _ _ dX0_becomeNot_64 hP hD hS (Nat.le_of_ble_eq_true rfl) (Nat.le_of_ble_eq_true rfl)
  have hL30 : ∀ (f : Nat) (v2_30 : Int32) (f_says_30 : AF)  (H : Heap) (locs : List Loc) (ls : Array Slot), p_X0_becomeNot_L30 f_size k0 k1 f v2_30 f_says_30 = some f_says_o30 → va_P G.1 vwCl (WF G f_h f_q (va_up f_next k0 (va_cpy (f_next k1) (f_next k0) (0 : Int32).toNatClampNeg (0 : Int32).toNatClampNeg (((va_up f_size k0 (f_size k1)) k0) * (8 : Int32)).toNatClampNeg)) f_says_30 (va_up f_size k0 (f_size k1))) H → va_D A (WF G f_h f_q (va_up f_next k0 (va_cpy (f_next k1) (f_next k0) (0 : Int32).toNatClampNeg (0 : Int32).toNatClampNeg (((va_up f_size k0 (f_size k1)) k0) * (8 : Int32)).toNatClampNeg)) f_says_30 (va_up f_size k0 (f_size k1))) → va_S A s.heap H locs → lv_has ls 3 [(0, .ref (f_h k0)), (1, .ref (f_h k1)), (2, .int v2_30)] → W p l e rX0_becomeNot s m args below meth c H locs 0 0 Q (F0 m 30 ls []) := by
    intro f
    induction f with
    | zero => intro v2_30 f_says_30 H locs ls h hP hD hS hl; cases (show none = some _ from h)
    | succ f ih =>
      intro v2_30 f_says_30 H locs ls h hP hD hS hl
      rw [p_X0_becomeNot_L30] at h
      refine lv_iload_n hx hb dX0_becomeNot_30 rfl (lv_at hl 2 rfl) ?_
      refine lv_aload_n hx hb dX0_becomeNot_31 rfl (lv_at hl 0 rfl) ?_
      refine va_get (D := G.1) (ci := 0) (v := .int ((va_up f_size k0 (f_size k1)) k0)) (C := RX0) (T := TX0) (N := 3) hx hb hts hinX0 hown hK.1 hP (3 * k0) (famO hk0) rfl 2 (by decide) hf19 (fun _ h9 => h9) rfl dX0_becomeNot_32 ?_
      refine lv_icmp_ge (tgt := 64) hx hb dX0_becomeNot_35 (by decide) (fun c_35 => ?_) (fun c_35 => ?_)
      · replace h := (if_pos c_35).symm.trans h
        exact hX30 _  _ _ _ h hP hD hS (lv_sub hl [] rfl)
      · replace h := (if_neg c_35).symm.trans h
        refine lv_aload_n hx hb dX0_becomeNot_38 rfl (lv_at hl 0 rfl) ?_
        refine va_get (D := G.1) (ci := 0) (v := .ref (f_q k0 1)) (C := RX0) (T := TX0) (N := 3) hx hb hts hinX0 hown hK.1 hP (3 * k0) (famO hk0) rfl 1 (by decide) hf15 (fun _ h9 => h9) rfl dX0_becomeNot_39 ?_
        refine lv_iload_n hx hb dX0_becomeNot_42 rfl (lv_at hl 2 rfl) ?_
        refine lv_aload_n hx hb dX0_becomeNot_43 rfl (lv_at hl 1 rfl) ?_
        refine va_get (D := G.1) (ci := 0) (v := .ref (f_q k1 1)) (C := RX0) (T := TX0) (N := 3) hx hb hts hinX0 hown hK.1 hP (3 * k1) (famO hk1) rfl 1 (by decide) hf15 (fun _ h9 => h9) rfl dX0_becomeNot_44 ?_
        refine lv_iload_n hx hb dX0_becomeNot_47 rfl (lv_at hl 2 rfl) ?_
        obtain ⟨g_48, h⟩ := gi_e h
        refine va_zald hx hb hK.1 hP (3 * k1 + 2) 1 (famS hk1) rfl g_48 dX0_becomeNot_48 ?_
        obtain ⟨j0_49, hT49, h⟩ := ob1_e h
        have hJ49 : ∀ (j0_49x : Int32)  (H : Heap) (locs : List Loc) (ls : Array Slot), some j0_49x = some j0_49 → va_P G.1 vwCl (WF G f_h f_q (va_up f_next k0 (va_cpy (f_next k1) (f_next k0) (0 : Int32).toNatClampNeg (0 : Int32).toNatClampNeg (((va_up f_size k0 (f_size k1)) k0) * (8 : Int32)).toNatClampNeg)) f_says_30 (va_up f_size k0 (f_size k1))) H → va_D A (WF G f_h f_q (va_up f_next k0 (va_cpy (f_next k1) (f_next k0) (0 : Int32).toNatClampNeg (0 : Int32).toNatClampNeg (((va_up f_size k0 (f_size k1)) k0) * (8 : Int32)).toNatClampNeg)) f_says_30 (va_up f_size k0 (f_size k1))) → va_S A s.heap H locs → lv_has ls 3 [(0, .ref (f_h k0)), (1, .ref (f_h k1)), (2, .int v2_30)] → W p l e rX0_becomeNot s m args below meth c H locs 0 0 Q (F0 m 57 ls [.int j0_49x, .int v2_30, .ref (f_q k0 1)]) := by
          intro j0_49x H locs ls hq hP hD hS hl
          obtain rfl := oi1 hq
          obtain ⟨g_57, h⟩ := gi_e h
          refine va_zast hx hb hK.1 hP hD hS (3 * k0 + 2) 1 (famS hk0) rfl g_57 dX0_becomeNot_57 (fun H locs hP hD hS => ?_)
          have hP : va_P G.1 vwCl ((WF G f_h f_q (va_up f_next k0 (va_cpy (f_next k1) (f_next k0) (0 : Int32).toNatClampNeg (0 : Int32).toNatClampNeg (((va_up f_size k0 (f_size k1)) k0) * (8 : Int32)).toNatClampNeg)) f_says_30 (va_up f_size k0 (f_size k1))).set (3 * k0 + 2) (f_q k0 1, .inl (G.2 1, 60, .inl (upd (f_says_30 k0) v2_30.toNatClampNeg (j0_49 &&& (1 : Int32)))))) H := hP
          have hD : va_D A ((WF G f_h f_q (va_up f_next k0 (va_cpy (f_next k1) (f_next k0) (0 : Int32).toNatClampNeg (0 : Int32).toNatClampNeg (((va_up f_size k0 (f_size k1)) k0) * (8 : Int32)).toNatClampNeg)) f_says_30 (va_up f_size k0 (f_size k1))).set (3 * k0 + 2) (f_q k0 1, .inl (G.2 1, 60, .inl (upd (f_says_30 k0) v2_30.toNatClampNeg (j0_49 &&& (1 : Int32)))))) := hD
          rw [famSs hk0] at hP hD
          have hP : va_P G.1 vwCl (WF G f_h f_q (va_up f_next k0 (va_cpy (f_next k1) (f_next k0) (0 : Int32).toNatClampNeg (0 : Int32).toNatClampNeg (((va_up f_size k0 (f_size k1)) k0) * (8 : Int32)).toNatClampNeg)) (va_up f_says_30 k0 (upd (f_says_30 k0) v2_30.toNatClampNeg (j0_49 &&& (1 : Int32)))) (va_up f_size k0 (f_size k1))) H := hP
          have hD : va_D A (WF G f_h f_q (va_up f_next k0 (va_cpy (f_next k1) (f_next k0) (0 : Int32).toNatClampNeg (0 : Int32).toNatClampNeg (((va_up f_size k0 (f_size k1)) k0) * (8 : Int32)).toNatClampNeg)) (va_up f_says_30 k0 (upd (f_says_30 k0) v2_30.toNatClampNeg (j0_49 &&& (1 : Int32)))) (va_up f_size k0 (f_size k1))) := hD
          refine lv_iinc (v := (v2_30 + (1 : Int32))) (lv' := [(2, .int (v2_30 + (1 : Int32))), (0, .ref (f_h k0)), (1, .ref (f_h k1))]) hx hb dX0_becomeNot_58 hl (k := 2) rfl rfl (by decide) rfl (fun ls hl => ?_)
          refine lv_goto (tgt := 30) hx hb dX0_becomeNot_61 (by decide) ?_
          exact ih _ _  _ _ _ h hP hD hS (lv_sub hl [1, 2, 0] rfl)
        replace h := hT49
        refine lv_if_ne (tgt := 56) hx hb dX0_becomeNot_49 (by decide) (fun c_49 => ?_) (fun c_49 => ?_)
        · replace h := (if_neg c_49).symm.trans h
          refine lv_iconst (v := 0) hx hb dX0_becomeNot_56 (by decide) ?_
          exact hJ49 _  _ _ _ h hP hD hS (lv_sub hl [0, 1, 2] rfl)
        · replace h := (if_pos c_49).symm.trans h
          refine lv_iconst (v := 1) hx hb dX0_becomeNot_52 (by decide) ?_
          refine lv_goto (tgt := 57) hx hb dX0_becomeNot_53 (by decide) ?_
          exact hJ49 _  _ _ _ h hP hD hS (lv_sub hl [0, 1, 2] rfl)
  exact hL30 n _ _  _ _ _ hT30 hP hD hS (lv_sub hl [1, 2, 0] rfl)
abbrev rX0_isAsOther : Room := { frames := 0, cells := 0, slots := 0, locals := 0 }
set_option maxHeartbeats 4000000 in
set_option maxRecDepth 100000 in
theorem c_X0_isAsOther (l : Launch) (G : GG) (n : Nat) (f_h : Nat → Nat) (f_q : Nat → Nat → Nat) (f_next : AF) (f_says : AF) (f_size : AI) (k0 : Nat) (hk0 : k0 < 7) (k1 : Nat) (hk1 : k1 < 7)  (r : Int32) (h : p_X0_isAsOther n f_next f_says f_size k0 k1 = some r) : SI l yX0_isAsOther wsX0_isAsOther rX0_isAsOther G [.ref (f_h k0), .ref (f_h k1)] (WF G f_h f_q f_next f_says f_size) r := by
  refine enterSI (cc := cX0_isAsOther) (maxL := 3) (by decide) rfl (Nat.le_of_ble_eq_true rfl) ?_
  intro p e s m args below meth c Q hx hb hml hown hts hK hP hret ls hl
  have hown : s.vm.findClass RX0 = some m.cls := hown
  have hf9 := hts (.fieldLink RX0 9 "DigitClaims$Claim" "next" "[I") (by decide +kernel)
  have hf15 := hts (.fieldLink RX0 15 "DigitClaims$Claim" "says" "[Z") (by decide +kernel)
  have hf19 := hts (.fieldLink RX0 19 "DigitClaims$Claim" "size" "I") (by decide +kernel)
  have hinX0 : ∀ w ∈ wsX00, w ∈ wsX0_isAsOther := by decide +kernel
  have hl : lv_has ls 3 [(0, .ref (f_h k0)), (1, .ref (f_h k1))] := hl
  unfold p_X0_isAsOther at h
  refine lv_aload_n hx hb dX0_isAsOther_0 rfl (lv_at hl 0 rfl) ?_
  refine va_get (D := G.1) (ci := 0) (v := .int (f_size k0)) (C := RX0) (T := TX0) (N := 3) hx hb hts hinX0 hown hK.1 hP (3 * k0) (famO hk0) rfl 2 (by decide) hf19 (fun _ h9 => h9) rfl dX0_isAsOther_1 ?_
  refine lv_aload_n hx hb dX0_isAsOther_4 rfl (lv_at hl 1 rfl) ?_
  refine va_get (D := G.1) (ci := 0) (v := .int (f_size k1)) (C := RX0) (T := TX0) (N := 3) hx hb hts hinX0 hown hK.1 hP (3 * k1) (famO hk1) rfl 2 (by decide) hf19 (fun _ h9 => h9) rfl dX0_isAsOther_5 ?_
  refine lv_icmp_eq (tgt := 13) hx hb dX0_isAsOther_8 (by decide) (fun c_8 => ?_) (fun c_8 => ?_)
  · replace h := (if_pos c_8).symm.trans h
    refine lv_iconst (v := 0) hx hb dX0_isAsOther_13 (by decide) ?_
    refine lv_istore_n (lv' := [(2, .int (0 : Int32)), (0, .ref (f_h k0)), (1, .ref (f_h k1))]) hx hb dX0_isAsOther_14 rfl hl (by decide) rfl (fun ls hl => ?_)
    obtain ⟨o_15, hT15, hd15⟩ := obS0_e h
    have hX15 : ∀   (ls : Array Slot), some (Sum.inr ()) = some o_15 → lv_has ls 3 [(0, .ref (f_h k0)), (1, .ref (f_h k1))] → W p l e rX0_isAsOther s m args below meth c s.heap [] 0 0 Q (F0 m 46 ls []) := by
      intro  ls hq hl
      rcases hd15 with ⟨x, hx1, h⟩ | ⟨hx1, h⟩
      · rw [hx1] at hq; cases hq
      rw [hx1] at hq
      refine lv_iconst (v := 0) hx hb dX0_isAsOther_46 (by decide) ?_
      refine lv_istore_n (lv' := [(2, .int (0 : Int32)), (0, .ref (f_h k0)), (1, .ref (f_h k1))]) hx hb dX0_isAsOther_47 rfl hl (by decide) rfl (fun ls hl => ?_)
      obtain ⟨o_48, hT48, hd48⟩ := obS0_e h
      have hX48 : ∀   (ls : Array Slot), some (Sum.inr ()) = some o_48 → lv_has ls 3 [] → W p l e rX0_isAsOther s m args below meth c s.heap [] 0 0 Q (F0 m 82 ls []) := by
        intro  ls hq hl
        rcases hd48 with ⟨x, hx1, h⟩ | ⟨hx1, h⟩
        · rw [hx1] at hq; cases hq
        rw [hx1] at hq
        refine lv_iconst (v := 1) hx hb dX0_isAsOther_82 (by decide) ?_
        obtain ⟨gbv, h⟩ := gb_e h
        obtain rfl := oi1 h
        exact hret _ _ _ dX0_isAsOther_83 rfl (nb gbv)
      have hL48 : ∀ (f : Nat) (v2_48 : Int32)  (ls : Array Slot), p_X0_isAsOther_L48 f_size k0 f_next k1 f v2_48 = some o_48 → lv_has ls 3 [(0, .ref (f_h k0)), (1, .ref (f_h k1)), (2, .int v2_48)] → W p l e rX0_isAsOther s m args below meth c s.heap [] 0 0 Q (F0 m 48 ls []) := by
        intro f
        induction f with
        | zero => intro v2_48 ls h hl; cases (show none = some _ from h)
        | succ f ih =>
          intro v2_48 ls h hl
          rw [p_X0_isAsOther_L48] at h
          refine lv_iload_n hx hb dX0_isAsOther_48 rfl (lv_at hl 2 rfl) ?_
          refine lv_aload_n hx hb dX0_isAsOther_49 rfl (lv_at hl 0 rfl) ?_
          refine va_get (D := G.1) (ci := 0) (v := .int (f_size k0)) (C := RX0) (T := TX0) (N := 3) hx hb hts hinX0 hown hK.1 hP (3 * k0) (famO hk0) rfl 2 (by decide) hf19 (fun _ h9 => h9) rfl dX0_isAsOther_50 ?_
          refine lv_bipush (v := 8) hx hb dX0_isAsOther_53 (by decide) ?_
          refine lv_imul hx hb dX0_isAsOther_55 ?_
          refine lv_icmp_ge (tgt := 82) hx hb dX0_isAsOther_56 (by decide) (fun c_56 => ?_) (fun c_56 => ?_)
          · replace h := (if_pos c_56).symm.trans h
            exact hX48   _ h (lv_sub hl [] rfl)
          · replace h := (if_neg c_56).symm.trans h
            refine lv_aload_n hx hb dX0_isAsOther_59 rfl (lv_at hl 0 rfl) ?_
            refine va_get (D := G.1) (ci := 0) (v := .ref (f_q k0 0)) (C := RX0) (T := TX0) (N := 3) hx hb hts hinX0 hown hK.1 hP (3 * k0) (famO hk0) rfl 0 (by decide) hf9 (fun _ h9 => h9) rfl dX0_isAsOther_60 ?_
            refine lv_iload_n hx hb dX0_isAsOther_63 rfl (lv_at hl 2 rfl) ?_
            obtain ⟨g_64, h⟩ := gi_e h
            refine va_iald hx hb hK.1 hP (3 * k0 + 1) 0 (famN hk0) rfl g_64 dX0_isAsOther_64 ?_
            refine lv_aload_n hx hb dX0_isAsOther_65 rfl (lv_at hl 1 rfl) ?_
            refine va_get (D := G.1) (ci := 0) (v := .ref (f_q k1 0)) (C := RX0) (T := TX0) (N := 3) hx hb hts hinX0 hown hK.1 hP (3 * k1) (famO hk1) rfl 0 (by decide) hf9 (fun _ h9 => h9) rfl dX0_isAsOther_66 ?_
            refine lv_iload_n hx hb dX0_isAsOther_69 rfl (lv_at hl 2 rfl) ?_
            obtain ⟨g_70, h⟩ := gi_e h
            refine va_iald hx hb hK.1 hP (3 * k1 + 1) 0 (famN hk1) rfl g_70 dX0_isAsOther_70 ?_
            refine lv_icmp_eq (tgt := 76) hx hb dX0_isAsOther_71 (by decide) (fun c_71 => ?_) (fun c_71 => ?_)
            · replace h := (if_pos c_71).symm.trans h
              refine lv_iinc (v := (v2_48 + (1 : Int32))) (lv' := [(2, .int (v2_48 + (1 : Int32))), (0, .ref (f_h k0)), (1, .ref (f_h k1))]) hx hb dX0_isAsOther_76 hl (k := 2) rfl rfl (by decide) rfl (fun ls hl => ?_)
              refine lv_goto (tgt := 48) hx hb dX0_isAsOther_79 (by decide) ?_
              exact ih _  _ h (lv_sub hl [1, 2, 0] rfl)
            · replace h := (if_neg c_71).symm.trans h
              refine lv_iconst (v := 0) hx hb dX0_isAsOther_74 (by decide) ?_
              obtain ⟨gbv, h⟩ := gb_e h
              rcases hd48 with ⟨x, hx1, h2⟩ | ⟨hx1, _⟩
              · rw [hx1] at h
                have hx2 := oiL h
                rw [hx2] at h2
                replace h := h2
                obtain rfl := oi1 h
                exact hret _ _ _ dX0_isAsOther_75 rfl (nb gbv)
              · rw [hx1] at h; cases h
      exact hL48 n _  _ hT48 (lv_sub hl [1, 2, 0] rfl)
    have hL15 : ∀ (f : Nat) (v2_15 : Int32)  (ls : Array Slot), p_X0_isAsOther_L15 f_size k0 f_says k1 f v2_15 = some o_15 → lv_has ls 3 [(0, .ref (f_h k0)), (1, .ref (f_h k1)), (2, .int v2_15)] → W p l e rX0_isAsOther s m args below meth c s.heap [] 0 0 Q (F0 m 15 ls []) := by
      intro f
      induction f with
      | zero => intro v2_15 ls h hl; cases (show none = some _ from h)
      | succ f ih =>
        intro v2_15 ls h hl
        rw [p_X0_isAsOther_L15] at h
        refine lv_iload_n hx hb dX0_isAsOther_15 rfl (lv_at hl 2 rfl) ?_
        refine lv_aload_n hx hb dX0_isAsOther_16 rfl (lv_at hl 0 rfl) ?_
        refine va_get (D := G.1) (ci := 0) (v := .int (f_size k0)) (C := RX0) (T := TX0) (N := 3) hx hb hts hinX0 hown hK.1 hP (3 * k0) (famO hk0) rfl 2 (by decide) hf19 (fun _ h9 => h9) rfl dX0_isAsOther_17 ?_
        refine lv_icmp_ge (tgt := 46) hx hb dX0_isAsOther_20 (by decide) (fun c_20 => ?_) (fun c_20 => ?_)
        · replace h := (if_pos c_20).symm.trans h
          exact hX15   _ h (lv_sub hl [0, 1] rfl)
        · replace h := (if_neg c_20).symm.trans h
          refine lv_aload_n hx hb dX0_isAsOther_23 rfl (lv_at hl 0 rfl) ?_
          refine va_get (D := G.1) (ci := 0) (v := .ref (f_q k0 1)) (C := RX0) (T := TX0) (N := 3) hx hb hts hinX0 hown hK.1 hP (3 * k0) (famO hk0) rfl 1 (by decide) hf15 (fun _ h9 => h9) rfl dX0_isAsOther_24 ?_
          refine lv_iload_n hx hb dX0_isAsOther_27 rfl (lv_at hl 2 rfl) ?_
          obtain ⟨g_28, h⟩ := gi_e h
          refine va_zald hx hb hK.1 hP (3 * k0 + 2) 1 (famS hk0) rfl g_28 dX0_isAsOther_28 ?_
          refine lv_aload_n hx hb dX0_isAsOther_29 rfl (lv_at hl 1 rfl) ?_
          refine va_get (D := G.1) (ci := 0) (v := .ref (f_q k1 1)) (C := RX0) (T := TX0) (N := 3) hx hb hts hinX0 hown hK.1 hP (3 * k1) (famO hk1) rfl 1 (by decide) hf15 (fun _ h9 => h9) rfl dX0_isAsOther_30 ?_
          refine lv_iload_n hx hb dX0_isAsOther_33 rfl (lv_at hl 2 rfl) ?_
          obtain ⟨g_34, h⟩ := gi_e h
          refine va_zald hx hb hK.1 hP (3 * k1 + 2) 1 (famS hk1) rfl g_34 dX0_isAsOther_34 ?_
          refine lv_icmp_eq (tgt := 40) hx hb dX0_isAsOther_35 (by decide) (fun c_35 => ?_) (fun c_35 => ?_)
          · replace h := (if_pos c_35).symm.trans h
            refine lv_iinc (v := (v2_15 + (1 : Int32))) (lv' := [(2, .int (v2_15 + (1 : Int32))), (0, .ref (f_h k0)), (1, .ref (f_h k1))]) hx hb dX0_isAsOther_40 hl (k := 2) rfl rfl (by decide) rfl (fun ls hl => ?_)
            refine lv_goto (tgt := 15) hx hb dX0_isAsOther_43 (by decide) ?_
            exact ih _  _ h (lv_sub hl [1, 2, 0] rfl)
          · replace h := (if_neg c_35).symm.trans h
            refine lv_iconst (v := 0) hx hb dX0_isAsOther_38 (by decide) ?_
            obtain ⟨gbv, h⟩ := gb_e h
            rcases hd15 with ⟨x, hx1, h2⟩ | ⟨hx1, _⟩
            · rw [hx1] at h
              have hx2 := oiL h
              rw [hx2] at h2
              replace h := h2
              obtain rfl := oi1 h
              exact hret _ _ _ dX0_isAsOther_39 rfl (nb gbv)
            · rw [hx1] at h; cases h
    exact hL15 n _  _ hT15 (lv_sub hl [1, 2, 0] rfl)
  · replace h := (if_neg c_8).symm.trans h
    refine lv_iconst (v := 0) hx hb dX0_isAsOther_11 (by decide) ?_
    obtain ⟨gbv, h⟩ := gb_e h
    obtain rfl := oi1 h
    exact hret _ _ _ dX0_isAsOther_12 rfl (nb gbv)
abbrev rX3_count : Room := { frames := 0, cells := 0, slots := 0, locals := 0 }
set_option maxHeartbeats 4000000 in
set_option maxRecDepth 100000 in
theorem c_X3_count (l : Launch) (G : GG) (p_h : Nat) (p_q : Nat → Nat) (p_table : AI) (p_turn : Int32) (p_count : Int32)   (r : Int32) (h : p_X3_count p_count = some r) : SI l yX3_count wsX3_count rX3_count G [.ref p_h] (WP G p_h p_q p_table p_turn p_count) r := by
  refine enterSI (cc := cX3_count) (maxL := 1) (by decide) rfl (Nat.le_of_ble_eq_true rfl) ?_
  intro p e s m args below meth c Q hx hb hml hown hts hK hP hret ls hl
  have hown : s.vm.findClass RX3 = some m.cls := hown
  have hf17 := hts (.fieldLink RX3 17 "DigitClaims$PairNumbers" "count" "I") (by decide +kernel)
  have hinX3 : ∀ w ∈ wsX30, w ∈ wsX3_count := by decide +kernel
  have hl : lv_has ls 1 [(0, .ref p_h)] := hl
  unfold p_X3_count at h
  refine lv_aload_n hx hb dX3_count_0 rfl (lv_at hl 0 rfl) ?_
  refine va_get (D := G.1) (ci := 3) (v := .int p_count) (C := RX3) (T := TX3) (N := 3) hx hb hts hinX3 hown hK.1 hP 0 rfl rfl 2 (by decide) hf17 (fun _ h9 => h9) rfl dX3_count_1 ?_
  obtain rfl := oi1 h
  exact hret _ _ _ dX3_count_4 rfl rfl
abbrev rX3_forget : Room := { frames := 1, cells := 0, slots := 0, locals := 23 }
set_option maxHeartbeats 4000000 in
set_option maxRecDepth 100000 in
theorem c_X3_forget (l : Launch) (G : GG) (n : Nat) (p_h : Nat) (p_q : Nat → Nat) (p_table : AI) (p_turn : Int32) (p_count : Int32)   (sz : Nat) (p_table_z : AI) (p_turn_z : Int32) (p_count_z : Int32) (h : p_X3_forget n p_table p_turn = some (p_table_z, p_turn_z, p_count_z)) : CV l yX3_forget wsX3_forget rX3_forget G [.ref p_h] (WP G p_h p_q p_table p_turn p_count) sz (fun u => WP G p_h p_q p_table_z p_turn_z p_count_z) := by
  refine enterCV (cc := cX3_forget) (maxL := 1) (by decide) rfl (Nat.le_of_ble_eq_true rfl) ?_
  intro p e s m args below meth c A Q hx hb hml hown hts hK hP hD hS hA hnm hret ls hl
  have hown : s.vm.findClass RX3 = some m.cls := hown
  have hf9 := hts (.fieldLink RX3 9 "DigitClaims$PairNumbers" "table" "[I") (by decide +kernel)
  have hf13 := hts (.fieldLink RX3 13 "DigitClaims$PairNumbers" "turn" "I") (by decide +kernel)
  have hf17 := hts (.fieldLink RX3 17 "DigitClaims$PairNumbers" "count" "I") (by decide +kernel)
  have hinX3 : ∀ w ∈ wsX30, w ∈ wsX3_forget := by decide +kernel
  have hl : lv_has ls 1 [(0, .ref p_h)] := hl
  unfold p_X3_forget at h
  refine lv_aload_n hx hb dX3_forget_0 rfl (lv_at hl 0 rfl) ?_
  refine va_get (D := G.1) (ci := 3) (v := .int p_turn) (C := RX3) (T := TX3) (N := 3) hx hb hts hinX3 hown hK.1 hP 0 rfl rfl 1 (by decide) hf13 (fun _ h9 => h9) rfl dX3_forget_1 ?_
  refine lv_ldc (v := 524287) hx hb hown (hts (.constant RX3 20 (524287)) (by decide +kernel)) dX3_forget_4 ?_
  obtain ⟨p_table_j6, p_turn_j6, hT6, h⟩ := ob2_e h
  have hJ6 : ∀ (p_table_j6x : AI) (p_turn_j6x : Int32)  (H : Heap) (locs : List Loc) (ls : Array Slot), some (p_table_j6x, p_turn_j6x) = some (p_table_j6, p_turn_j6) → va_P G.1 vwCl (WP G p_h p_q p_table_j6x p_turn_j6x p_count) H → va_D A (WP G p_h p_q p_table_j6x p_turn_j6x p_count) → va_S A s.heap H locs → lv_has ls 1 [(0, .ref p_h)] → W p l e rX3_forget s m args below meth c H locs 0 0 Q (F0 m 22 ls []) := by
    intro p_table_j6x p_turn_j6x H locs ls hq hP hD hS hl
    obtain ⟨rfl, rfl⟩ := oi2 hq
    refine lv_aload_n hx hb dX3_forget_22 rfl (lv_at hl 0 rfl) ?_
    refine lv_dup hx hb dX3_forget_23 rfl ?_
    refine va_get (D := G.1) (ci := 3) (v := .int p_turn_j6) (C := RX3) (T := TX3) (N := 3) hx hb hts hinX3 hown hK.1 hP 0 rfl rfl 1 (by decide) hf13 (fun _ h9 => h9) rfl dX3_forget_24 ?_
    refine lv_iconst (v := 1) hx hb dX3_forget_27 (by decide) ?_
    refine lv_iadd hx hb dX3_forget_28 ?_
    refine va_put (D := G.1) (ci := 3) (v := .int (p_turn_j6 + (1 : Int32))) (ty := .int) (C := RX3) (T := TX3) (N := 3) hx hb hts hinX3 tyX3 tyX3_ok nmX3 hown hK.1 hP hD hS 0 rfl rfl 1 (by decide) hf13 (fun _ h9 => h9) rfl (by decide +kernel) rfl rfl (Nat.le_of_ble_eq_true rfl) dX3_forget_29 (fun H locs hP hD hS => ?_)
    have hP : va_P G.1 vwCl (WP G p_h p_q p_table_j6 (p_turn_j6 + (1 : Int32)) p_count) H := hP
    have hD : va_D A (WP G p_h p_q p_table_j6 (p_turn_j6 + (1 : Int32)) p_count) := hD
    refine lv_aload_n hx hb dX3_forget_32 rfl (lv_at hl 0 rfl) ?_
    refine lv_iconst (v := 0) hx hb dX3_forget_33 (by decide) ?_
    refine va_put (D := G.1) (ci := 3) (v := .int (0 : Int32)) (ty := .int) (C := RX3) (T := TX3) (N := 3) hx hb hts hinX3 tyX3 tyX3_ok nmX3 hown hK.1 hP hD hS 0 rfl rfl 2 (by decide) hf17 (fun _ h9 => h9) rfl (by decide +kernel) rfl rfl (Nat.le_of_ble_eq_true rfl) dX3_forget_34 (fun H locs hP hD hS => ?_)
    have hP : va_P G.1 vwCl (WP G p_h p_q p_table_j6 (p_turn_j6 + (1 : Int32)) (0 : Int32)) H := hP
    have hD : va_D A (WP G p_h p_q p_table_j6 (p_turn_j6 + (1 : Int32)) (0 : Int32)) := hD
    obtain ⟨rfl, rfl, rfl⟩ := oi3 h
    exact hret (fun _ => 0) _ _ _ _ _ _ dX3_forget_37 hP hD hS (Nat.le_of_ble_eq_true rfl) (Nat.le_of_ble_eq_true rfl)
  replace h := hT6
  refine lv_icmp_lt (tgt := 22) hx hb dX3_forget_6 (by decide) (fun c_6 => ?_) (fun c_6 => ?_)
  · replace h := (if_pos c_6).symm.trans h
    exact hJ6 _ _  _ _ _ h hP hD hS (lv_sub hl [0] rfl)
  · replace h := (if_neg c_6).symm.trans h
    refine lv_aload_n hx hb dX3_forget_9 rfl (lv_at hl 0 rfl) ?_
    refine va_get (D := G.1) (ci := 3) (v := .ref (p_q 0)) (C := RX3) (T := TX3) (N := 3) hx hb hts hinX3 hown hK.1 hP 0 rfl rfl 0 (by decide) hf9 (fun _ h9 => h9) rfl dX3_forget_10 ?_
    refine lv_iconst (v := 0) hx hb dX3_forget_13 (by decide) ?_
    obtain ⟨z_arr_14, hc_14, h⟩ := ob1_e h
    refine k_cv (wr := [(p_h, .inr (3, [.ref (p_q 0), .int p_turn, .int p_count]))]) (va_runS (As := [.ref (p_q 0), .int (0 : Int32)]) (rest := []) ⟨hx, hb, hml, hown, hts⟩ (c_J7_fill_53178 l G n (p_q 0) 4096 p_table  (0 : Int32) _ z_arr_14 hc_14) (va_cwS 2 hts gX3_forget_J7_fill_53178 rfl rfl rfl eJ7_fill_53178 ⟨Nat.le_of_ble_eq_true rfl, Nat.le_of_ble_eq_true rfl⟩) (preWS hK (hP.sub (ws' := WA G (p_q 0) 4096 p_table) [1] rfl) (hD.sub (ws' := WA G (p_q 0) 4096 p_table) [1] (by decide) rfl)) rfl rfl hl.1 rfl (lv_room (Nat.le_of_ble_eq_true rfl)) dX3_forget_14 ⟨Nat.le_of_ble_eq_true rfl, Nat.le_of_ble_eq_true rfl⟩) hP hD hS hA [1] [0] rfl rfl (by decide) (by decide) (fun u_14 H locs hP hD hS => ?_)
    have hP := hP.sub (ws' := WP G p_h p_q z_arr_14 p_turn p_count) [0, 1] rfl
    have hD := hD.sub (ws' := WP G p_h p_q z_arr_14 p_turn p_count) [0, 1] (by decide) rfl
    refine lv_aload_n hx hb dX3_forget_17 rfl (lv_at hl 0 rfl) ?_
    refine lv_iconst (v := 0) hx hb dX3_forget_18 (by decide) ?_
    refine va_put (D := G.1) (ci := 3) (v := .int (0 : Int32)) (ty := .int) (C := RX3) (T := TX3) (N := 3) hx hb hts hinX3 tyX3 tyX3_ok nmX3 hown hK.1 hP hD hS 0 rfl rfl 1 (by decide) hf13 (fun _ h9 => h9) rfl (by decide +kernel) rfl rfl (Nat.le_of_ble_eq_true rfl) dX3_forget_19 (fun H locs hP hD hS => ?_)
    have hP : va_P G.1 vwCl (WP G p_h p_q z_arr_14 (0 : Int32) p_count) H := hP
    have hD : va_D A (WP G p_h p_q z_arr_14 (0 : Int32) p_count) := hD
    exact hJ6 _ _  _ _ _ h hP hD hS (lv_sub hl [0] rfl)
abbrev rX3_numberOf : Room := { frames := 0, cells := 0, slots := 0, locals := 0 }
set_option maxHeartbeats 4000000 in
set_option maxRecDepth 100000 in
theorem c_X3_numberOf (l : Launch) (G : GG) (p_h : Nat) (p_q : Nat → Nat) (p_table : AI) (p_turn : Int32) (p_count : Int32)  (v1 : Int32) (v2 : Int32) (sz : Nat) (r : Int32) (p_table_z : AI) (p_count_z : Int32) (h : p_X3_numberOf p_table p_turn p_count v1 v2 = some (r, p_table_z, p_count_z)) : CI l yX3_numberOf wsX3_numberOf rX3_numberOf G [.ref p_h, .int v1, .int v2] (WP G p_h p_q p_table p_turn p_count) sz r (fun u => WP G p_h p_q p_table_z p_turn p_count_z) := by
  refine enterCI (cc := cX3_numberOf) (maxL := 4) (by decide) rfl (Nat.le_of_ble_eq_true rfl) ?_
  intro p e s m args below meth c A Q hx hb hml hown hts hK hP hD hS hA hret ls hl
  have hown : s.vm.findClass RX3 = some m.cls := hown
  have hf9 := hts (.fieldLink RX3 9 "DigitClaims$PairNumbers" "table" "[I") (by decide +kernel)
  have hf13 := hts (.fieldLink RX3 13 "DigitClaims$PairNumbers" "turn" "I") (by decide +kernel)
  have hf17 := hts (.fieldLink RX3 17 "DigitClaims$PairNumbers" "count" "I") (by decide +kernel)
  have hinX3 : ∀ w ∈ wsX30, w ∈ wsX3_numberOf := by decide +kernel
  have hl : lv_has ls 4 [(0, .ref p_h), (1, .int v1), (2, .int v2)] := hl
  unfold p_X3_numberOf at h
  refine lv_iload_n hx hb dX3_numberOf_0 rfl (lv_at hl 1 rfl) ?_
  refine lv_if_lt (tgt := 20) hx hb dX3_numberOf_1 (by decide) (fun c_1 => ?_) (fun c_1 => ?_)
  · replace h := (if_pos c_1).symm.trans h
    refine lv_iconst (v := 0) hx hb dX3_numberOf_20 (by decide) ?_
    obtain ⟨rfl, rfl, rfl⟩ := oi3 h
    exact hret (fun _ => 0) _ _ _ _ _ _ _ dX3_numberOf_21 rfl rfl hP hD hS (Nat.le_of_ble_eq_true rfl) (Nat.le_of_ble_eq_true rfl)
  · replace h := (if_neg c_1).symm.trans h
    refine lv_iload_n hx hb dX3_numberOf_4 rfl (lv_at hl 1 rfl) ?_
    refine lv_bipush (v := 64) hx hb dX3_numberOf_5 (by decide) ?_
    refine lv_icmp_ge (tgt := 20) hx hb dX3_numberOf_7 (by decide) (fun c_7 => ?_) (fun c_7 => ?_)
    · replace h := (if_pos c_7).symm.trans h
      refine lv_iconst (v := 0) hx hb dX3_numberOf_20 (by decide) ?_
      obtain ⟨rfl, rfl, rfl⟩ := oi3 h
      exact hret (fun _ => 0) _ _ _ _ _ _ _ dX3_numberOf_21 rfl rfl hP hD hS (Nat.le_of_ble_eq_true rfl) (Nat.le_of_ble_eq_true rfl)
    · replace h := (if_neg c_7).symm.trans h
      refine lv_iload_n hx hb dX3_numberOf_10 rfl (lv_at hl 2 rfl) ?_
      refine lv_if_lt (tgt := 20) hx hb dX3_numberOf_11 (by decide) (fun c_11 => ?_) (fun c_11 => ?_)
      · replace h := (if_pos c_11).symm.trans h
        refine lv_iconst (v := 0) hx hb dX3_numberOf_20 (by decide) ?_
        obtain ⟨rfl, rfl, rfl⟩ := oi3 h
        exact hret (fun _ => 0) _ _ _ _ _ _ _ dX3_numberOf_21 rfl rfl hP hD hS (Nat.le_of_ble_eq_true rfl) (Nat.le_of_ble_eq_true rfl)
      · replace h := (if_neg c_11).symm.trans h
        refine lv_iload_n hx hb dX3_numberOf_14 rfl (lv_at hl 2 rfl) ?_
        refine lv_bipush (v := 64) hx hb dX3_numberOf_15 (by decide) ?_
        refine lv_icmp_lt (tgt := 22) hx hb dX3_numberOf_17 (by decide) (fun c_17 => ?_) (fun c_17 => ?_)
        · replace h := (if_pos c_17).symm.trans h
          refine lv_iload_n hx hb dX3_numberOf_22 rfl (lv_at hl 1 rfl) ?_
          refine lv_bipush (v := 64) hx hb dX3_numberOf_23 (by decide) ?_
          refine lv_imul hx hb dX3_numberOf_25 ?_
          refine lv_iload_n hx hb dX3_numberOf_26 rfl (lv_at hl 2 rfl) ?_
          refine lv_iadd hx hb dX3_numberOf_27 ?_
          refine lv_istore_n (lv' := [(3, .int ((v1 * (64 : Int32)) + v2)), (0, .ref p_h), (1, .int v1), (2, .int v2)]) hx hb dX3_numberOf_28 rfl hl (by decide) rfl (fun ls hl => ?_)
          refine lv_aload_n hx hb dX3_numberOf_29 rfl (lv_at hl 1 rfl) ?_
          refine va_get (D := G.1) (ci := 3) (v := .ref (p_q 0)) (C := RX3) (T := TX3) (N := 3) hx hb hts hinX3 hown hK.1 hP 0 rfl rfl 0 (by decide) hf9 (fun _ h9 => h9) rfl dX3_numberOf_30 ?_
          refine lv_iload_n hx hb dX3_numberOf_33 rfl (lv_at hl 0 rfl) ?_
          obtain ⟨g_34, h⟩ := gi_e h
          refine va_iald hx hb hK.1 hP 1 0 rfl rfl g_34 dX3_numberOf_34 ?_
          refine lv_bipush (v := 12) hx hb dX3_numberOf_35 (by decide) ?_
          refine lv_ishr hx hb dX3_numberOf_37 ?_
          refine lv_aload_n hx hb dX3_numberOf_38 rfl (lv_at hl 1 rfl) ?_
          refine va_get (D := G.1) (ci := 3) (v := .int p_turn) (C := RX3) (T := TX3) (N := 3) hx hb hts hinX3 hown hK.1 hP 0 rfl rfl 1 (by decide) hf13 (fun _ h9 => h9) rfl dX3_numberOf_39 ?_
          obtain ⟨p_table_j42, p_count_j42, hT42, h⟩ := ob2_e h
          have hJ42 : ∀ (p_table_j42x : AI) (p_count_j42x : Int32)  (H : Heap) (locs : List Loc) (ls : Array Slot), some (p_table_j42x, p_count_j42x) = some (p_table_j42, p_count_j42) → va_P G.1 vwCl (WP G p_h p_q p_table_j42x p_turn p_count_j42x) H → va_D A (WP G p_h p_q p_table_j42x p_turn p_count_j42x) → va_S A s.heap H locs → lv_has ls 4 [(0, .ref p_h), (3, .int ((v1 * (64 : Int32)) + v2))] → W p l e rX3_numberOf s m args below meth c H locs 0 0 Q (F0 m 73 ls []) := by
            intro p_table_j42x p_count_j42x H locs ls hq hP hD hS hl
            obtain ⟨rfl, rfl⟩ := oi2 hq
            refine lv_aload_n hx hb dX3_numberOf_73 rfl (lv_at hl 0 rfl) ?_
            refine va_get (D := G.1) (ci := 3) (v := .ref (p_q 0)) (C := RX3) (T := TX3) (N := 3) hx hb hts hinX3 hown hK.1 hP 0 rfl rfl 0 (by decide) hf9 (fun _ h9 => h9) rfl dX3_numberOf_74 ?_
            refine lv_iload_n hx hb dX3_numberOf_77 rfl (lv_at hl 1 rfl) ?_
            obtain ⟨g_78, h⟩ := gi_e h
            refine va_iald hx hb hK.1 hP 1 0 rfl rfl g_78 dX3_numberOf_78 ?_
            refine lv_sipush (v := 4095) hx hb dX3_numberOf_79 (by decide) ?_
            refine lv_iand hx hb dX3_numberOf_82 ?_
            obtain ⟨rfl, rfl, rfl⟩ := oi3 h
            exact hret (fun _ => 0) _ _ _ _ _ _ _ dX3_numberOf_83 rfl rfl hP hD hS (Nat.le_of_ble_eq_true rfl) (Nat.le_of_ble_eq_true rfl)
          replace h := hT42
          refine lv_icmp_eq (tgt := 73) hx hb dX3_numberOf_42 (by decide) (fun c_42 => ?_) (fun c_42 => ?_)
          · replace h := (if_pos c_42).symm.trans h
            exact hJ42 _ _  _ _ _ h hP hD hS (lv_sub hl [1, 0] rfl)
          · replace h := (if_neg c_42).symm.trans h
            refine lv_aload_n hx hb dX3_numberOf_45 rfl (lv_at hl 1 rfl) ?_
            refine va_get (D := G.1) (ci := 3) (v := .ref (p_q 0)) (C := RX3) (T := TX3) (N := 3) hx hb hts hinX3 hown hK.1 hP 0 rfl rfl 0 (by decide) hf9 (fun _ h9 => h9) rfl dX3_numberOf_46 ?_
            refine lv_iload_n hx hb dX3_numberOf_49 rfl (lv_at hl 0 rfl) ?_
            refine lv_aload_n hx hb dX3_numberOf_50 rfl (lv_at hl 1 rfl) ?_
            refine va_get (D := G.1) (ci := 3) (v := .int p_turn) (C := RX3) (T := TX3) (N := 3) hx hb hts hinX3 hown hK.1 hP 0 rfl rfl 1 (by decide) hf13 (fun _ h9 => h9) rfl dX3_numberOf_51 ?_
            refine lv_bipush (v := 12) hx hb dX3_numberOf_54 (by decide) ?_
            refine lv_ishl hx hb dX3_numberOf_56 ?_
            refine lv_aload_n hx hb dX3_numberOf_57 rfl (lv_at hl 1 rfl) ?_
            refine va_get (D := G.1) (ci := 3) (v := .int p_count) (C := RX3) (T := TX3) (N := 3) hx hb hts hinX3 hown hK.1 hP 0 rfl rfl 2 (by decide) hf17 (fun _ h9 => h9) rfl dX3_numberOf_58 ?_
            refine lv_ior hx hb dX3_numberOf_61 ?_
            obtain ⟨g_62, h⟩ := gi_e h
            refine va_iast hx hb hK.1 hP hD hS 1 0 rfl rfl g_62 dX3_numberOf_62 (fun H locs hP hD hS => ?_)
            have hP : va_P G.1 vwCl (WP G p_h p_q (upd p_table ((v1 * (64 : Int32)) + v2).toNatClampNeg ((p_turn <<< ((12 : Int32) &&& (31 : Int32))) ||| p_count)) p_turn p_count) H := hP
            have hD : va_D A (WP G p_h p_q (upd p_table ((v1 * (64 : Int32)) + v2).toNatClampNeg ((p_turn <<< ((12 : Int32) &&& (31 : Int32))) ||| p_count)) p_turn p_count) := hD
            refine lv_aload_n hx hb dX3_numberOf_63 rfl (lv_at hl 1 rfl) ?_
            refine lv_dup hx hb dX3_numberOf_64 rfl ?_
            refine va_get (D := G.1) (ci := 3) (v := .int p_count) (C := RX3) (T := TX3) (N := 3) hx hb hts hinX3 hown hK.1 hP 0 rfl rfl 2 (by decide) hf17 (fun _ h9 => h9) rfl dX3_numberOf_65 ?_
            refine lv_iconst (v := 1) hx hb dX3_numberOf_68 (by decide) ?_
            refine lv_iadd hx hb dX3_numberOf_69 ?_
            refine va_put (D := G.1) (ci := 3) (v := .int (p_count + (1 : Int32))) (ty := .int) (C := RX3) (T := TX3) (N := 3) hx hb hts hinX3 tyX3 tyX3_ok nmX3 hown hK.1 hP hD hS 0 rfl rfl 2 (by decide) hf17 (fun _ h9 => h9) rfl (by decide +kernel) rfl rfl (Nat.le_of_ble_eq_true rfl) dX3_numberOf_70 (fun H locs hP hD hS => ?_)
            have hP : va_P G.1 vwCl (WP G p_h p_q (upd p_table ((v1 * (64 : Int32)) + v2).toNatClampNeg ((p_turn <<< ((12 : Int32) &&& (31 : Int32))) ||| p_count)) p_turn (p_count + (1 : Int32))) H := hP
            have hD : va_D A (WP G p_h p_q (upd p_table ((v1 * (64 : Int32)) + v2).toNatClampNeg ((p_turn <<< ((12 : Int32) &&& (31 : Int32))) ||| p_count)) p_turn (p_count + (1 : Int32))) := hD
            exact hJ42 _ _  _ _ _ h hP hD hS (lv_sub hl [1, 0] rfl)
        · replace h := (if_neg c_17).symm.trans h
          refine lv_iconst (v := 0) hx hb dX3_numberOf_20 (by decide) ?_
          obtain ⟨rfl, rfl, rfl⟩ := oi3 h
          exact hret (fun _ => 0) _ _ _ _ _ _ _ dX3_numberOf_21 rfl rfl hP hD hS (Nat.le_of_ble_eq_true rfl) (Nat.le_of_ble_eq_true rfl)
abbrev rX7_setOf : Room := { frames := 0, cells := 0, slots := 0, locals := 0 }
set_option maxHeartbeats 4000000 in
set_option maxRecDepth 100000 in
theorem c_X7_setOf (l : Launch) (G : GG) (s_h : Nat) (s_q : Nat → Nat) (s_sets : AL) (s_slots : AI) (s_count : Int32)  (v1 : Int32) (r : Int64) (h : p_X7_setOf s_sets s_count v1 = some r) : SL l yX7_setOf wsX7_setOf rX7_setOf G [.ref s_h, .int v1] (WS G s_h s_q s_sets s_slots s_count) r := by
  refine enterSL (cc := cX7_setOf) (maxL := 2) (by decide) rfl (Nat.le_of_ble_eq_true rfl) ?_
  intro p e s m args below meth c Q hx hb hml hown hts hK hP hret ls hl
  have hown : s.vm.findClass RX7 = some m.cls := hown
  have hf11 := hts (.fieldLink RX7 11 "DigitClaims$SetNumbers" "sets" "[J") (by decide +kernel)
  have hf19 := hts (.fieldLink RX7 19 "DigitClaims$SetNumbers" "count" "I") (by decide +kernel)
  have hinX7 : ∀ w ∈ wsX70, w ∈ wsX7_setOf := by decide +kernel
  have hl : lv_has ls 2 [(0, .ref s_h), (1, .int v1)] := hl
  unfold p_X7_setOf at h
  refine lv_iload_n hx hb dX7_setOf_0 rfl (lv_at hl 1 rfl) ?_
  refine lv_if_lt (tgt := 21) hx hb dX7_setOf_1 (by decide) (fun c_1 => ?_) (fun c_1 => ?_)
  · replace h := (if_pos c_1).symm.trans h
    refine lv_lconst (v := 0) hx hb dX7_setOf_21 (by decide) ?_
    obtain rfl := oi1 h
    exact hret _ _ _ dX7_setOf_22 rfl
  · replace h := (if_neg c_1).symm.trans h
    refine lv_iload_n hx hb dX7_setOf_4 rfl (lv_at hl 1 rfl) ?_
    refine lv_aload_n hx hb dX7_setOf_5 rfl (lv_at hl 0 rfl) ?_
    refine va_get (D := G.1) (ci := 7) (v := .int s_count) (C := RX7) (T := TX7) (N := 3) hx hb hts hinX7 hown hK.1 hP 0 rfl rfl 2 (by decide) hf19 (fun _ h9 => h9) rfl dX7_setOf_6 ?_
    refine lv_icmp_ge (tgt := 21) hx hb dX7_setOf_9 (by decide) (fun c_9 => ?_) (fun c_9 => ?_)
    · replace h := (if_pos c_9).symm.trans h
      refine lv_lconst (v := 0) hx hb dX7_setOf_21 (by decide) ?_
      obtain rfl := oi1 h
      exact hret _ _ _ dX7_setOf_22 rfl
    · replace h := (if_neg c_9).symm.trans h
      refine lv_aload_n hx hb dX7_setOf_12 rfl (lv_at hl 0 rfl) ?_
      refine va_get (D := G.1) (ci := 7) (v := .ref (s_q 0)) (C := RX7) (T := TX7) (N := 3) hx hb hts hinX7 hown hK.1 hP 0 rfl rfl 0 (by decide) hf11 (fun _ h9 => h9) rfl dX7_setOf_13 ?_
      refine lv_iload_n hx hb dX7_setOf_16 rfl (lv_at hl 1 rfl) ?_
      obtain ⟨g_17, h⟩ := gi_e h
      refine va_lald hx hb hK.1 hP 1 2 rfl rfl g_17 dX7_setOf_17 ?_
      refine lv_goto (tgt := 22) hx hb dX7_setOf_18 (by decide) ?_
      obtain rfl := oi1 h
      exact hret _ _ _ dX7_setOf_22 rfl
abbrev rX7_forget : Room := { frames := 1, cells := 0, slots := 0, locals := 23 }
set_option maxHeartbeats 4000000 in
set_option maxRecDepth 100000 in
theorem c_X7_forget (l : Launch) (G : GG) (n : Nat) (s_h : Nat) (s_q : Nat → Nat) (s_sets : AL) (s_slots : AI) (s_count : Int32)   (sz : Nat) (s_slots_z : AI) (s_count_z : Int32) (h : p_X7_forget n s_slots = some (s_slots_z, s_count_z)) : CV l yX7_forget wsX7_forget rX7_forget G [.ref s_h] (WS G s_h s_q s_sets s_slots s_count) sz (fun u => WS G s_h s_q s_sets s_slots_z s_count_z) := by
  refine enterCV (cc := cX7_forget) (maxL := 1) (by decide) rfl (Nat.le_of_ble_eq_true rfl) ?_
  intro p e s m args below meth c A Q hx hb hml hown hts hK hP hD hS hA hnm hret ls hl
  have hown : s.vm.findClass RX7 = some m.cls := hown
  have hf15 := hts (.fieldLink RX7 15 "DigitClaims$SetNumbers" "slots" "[I") (by decide +kernel)
  have hf19 := hts (.fieldLink RX7 19 "DigitClaims$SetNumbers" "count" "I") (by decide +kernel)
  have hinX7 : ∀ w ∈ wsX70, w ∈ wsX7_forget := by decide +kernel
  have hl : lv_has ls 1 [(0, .ref s_h)] := hl
  unfold p_X7_forget at h
  refine lv_aload_n hx hb dX7_forget_0 rfl (lv_at hl 0 rfl) ?_
  refine va_get (D := G.1) (ci := 7) (v := .ref (s_q 1)) (C := RX7) (T := TX7) (N := 3) hx hb hts hinX7 hown hK.1 hP 0 rfl rfl 1 (by decide) hf15 (fun _ h9 => h9) rfl dX7_forget_1 ?_
  refine lv_iconst (v := 0) hx hb dX7_forget_4 (by decide) ?_
  obtain ⟨z_arr_5, hc_5, h⟩ := ob1_e h
  refine k_cv (wr := [(s_h, .inr (7, [.ref (s_q 0), .ref (s_q 1), .int s_count])), (s_q 0, .inl (G.2 2, 300, .inr (.inl s_sets)))]) (va_runS (As := [.ref (s_q 1), .int (0 : Int32)]) (rest := []) ⟨hx, hb, hml, hown, hts⟩ (c_J7_fill_53178 l G n (s_q 1) 1024 s_slots  (0 : Int32) _ z_arr_5 hc_5) (va_cwS 2 hts gX7_forget_J7_fill_53178 rfl rfl rfl eJ7_fill_53178 ⟨Nat.le_of_ble_eq_true rfl, Nat.le_of_ble_eq_true rfl⟩) (preWS hK (hP.sub (ws' := WA G (s_q 1) 1024 s_slots) [2] rfl) (hD.sub (ws' := WA G (s_q 1) 1024 s_slots) [2] (by decide) rfl)) rfl rfl hl.1 rfl (lv_room (Nat.le_of_ble_eq_true rfl)) dX7_forget_5 ⟨Nat.le_of_ble_eq_true rfl, Nat.le_of_ble_eq_true rfl⟩) hP hD hS hA [2] [0, 1] rfl rfl (by decide) (by decide) (fun u_5 H locs hP hD hS => ?_)
  have hP := hP.sub (ws' := WS G s_h s_q s_sets z_arr_5 s_count) [0, 1, 2] rfl
  have hD := hD.sub (ws' := WS G s_h s_q s_sets z_arr_5 s_count) [0, 1, 2] (by decide) rfl
  refine lv_aload_n hx hb dX7_forget_8 rfl (lv_at hl 0 rfl) ?_
  refine lv_iconst (v := 0) hx hb dX7_forget_9 (by decide) ?_
  refine va_put (D := G.1) (ci := 7) (v := .int (0 : Int32)) (ty := .int) (C := RX7) (T := TX7) (N := 3) hx hb hts hinX7 tyX7 tyX7_ok nmX7 hown hK.1 hP hD hS 0 rfl rfl 2 (by decide) hf19 (fun _ h9 => h9) rfl (by decide +kernel) rfl rfl (Nat.le_of_ble_eq_true rfl) dX7_forget_10 (fun H locs hP hD hS => ?_)
  have hP : va_P G.1 vwCl (WS G s_h s_q s_sets z_arr_5 (0 : Int32)) H := hP
  have hD : va_D A (WS G s_h s_q s_sets z_arr_5 (0 : Int32)) := hD
  obtain ⟨rfl, rfl⟩ := oi2 h
  exact hret (fun _ => 0) _ _ _ _ _ _ dX7_forget_13 hP hD hS (Nat.le_of_ble_eq_true rfl) (Nat.le_of_ble_eq_true rfl)
abbrev rX7_add : Room := { frames := 0, cells := 0, slots := 0, locals := 0 }
set_option maxHeartbeats 4000000 in
set_option maxRecDepth 100000 in
theorem c_X7_add (l : Launch) (G : GG) (s_h : Nat) (s_q : Nat → Nat) (s_sets : AL) (s_slots : AI) (s_count : Int32)  (v1 : Int64) (v3 : Int32) (sz : Nat) (r : Int32) (s_sets_z : AL) (s_slots_z : AI) (s_count_z : Int32) (h : p_X7_add s_sets s_slots s_count v1 v3 = some (r, s_sets_z, s_slots_z, s_count_z)) : CI l yX7_add wsX7_add rX7_add G [.ref s_h, .long v1, .int v3] (WS G s_h s_q s_sets s_slots s_count) sz r (fun u => WS G s_h s_q s_sets_z s_slots_z s_count_z) := by
  refine enterCI (cc := cX7_add) (maxL := 4) (by decide) rfl (Nat.le_of_ble_eq_true rfl) ?_
  intro p e s m args below meth c A Q hx hb hml hown hts hK hP hD hS hA hret ls hl
  have hown : s.vm.findClass RX7 = some m.cls := hown
  have hf11 := hts (.fieldLink RX7 11 "DigitClaims$SetNumbers" "sets" "[J") (by decide +kernel)
  have hf15 := hts (.fieldLink RX7 15 "DigitClaims$SetNumbers" "slots" "[I") (by decide +kernel)
  have hf19 := hts (.fieldLink RX7 19 "DigitClaims$SetNumbers" "count" "I") (by decide +kernel)
  have hinX7 : ∀ w ∈ wsX70, w ∈ wsX7_add := by decide +kernel
  have hl : lv_has ls 4 [(0, .ref s_h), (1, .long v1), (3, .int v3)] := hl
  unfold p_X7_add at h
  refine lv_aload_n hx hb dX7_add_0 rfl (lv_at hl 0 rfl) ?_
  refine va_get (D := G.1) (ci := 7) (v := .int s_count) (C := RX7) (T := TX7) (N := 3) hx hb hts hinX7 hown hK.1 hP 0 rfl rfl 2 (by decide) hf19 (fun _ h9 => h9) rfl dX7_add_1 ?_
  refine lv_sipush (v := 300) hx hb dX7_add_4 (by decide) ?_
  refine lv_icmp_ge (tgt := 21) hx hb dX7_add_7 (by decide) (fun c_7 => ?_) (fun c_7 => ?_)
  · replace h := (if_pos c_7).symm.trans h
    refine lv_bipush (v := -6) hx hb dX7_add_21 (by decide) ?_
    obtain ⟨rfl, rfl, rfl, rfl⟩ := oi4 h
    exact hret (fun _ => 0) _ _ _ _ _ _ _ dX7_add_23 rfl rfl hP hD hS (Nat.le_of_ble_eq_true rfl) (Nat.le_of_ble_eq_true rfl)
  · replace h := (if_neg c_7).symm.trans h
    refine lv_iload_n hx hb dX7_add_10 rfl (lv_at hl 2 rfl) ?_
    refine lv_if_lt (tgt := 21) hx hb dX7_add_11 (by decide) (fun c_11 => ?_) (fun c_11 => ?_)
    · replace h := (if_pos c_11).symm.trans h
      refine lv_bipush (v := -6) hx hb dX7_add_21 (by decide) ?_
      obtain ⟨rfl, rfl, rfl, rfl⟩ := oi4 h
      exact hret (fun _ => 0) _ _ _ _ _ _ _ dX7_add_23 rfl rfl hP hD hS (Nat.le_of_ble_eq_true rfl) (Nat.le_of_ble_eq_true rfl)
    · replace h := (if_neg c_11).symm.trans h
      refine lv_iload_n hx hb dX7_add_14 rfl (lv_at hl 2 rfl) ?_
      refine lv_sipush (v := 1024) hx hb dX7_add_15 (by decide) ?_
      refine lv_icmp_lt (tgt := 24) hx hb dX7_add_18 (by decide) (fun c_18 => ?_) (fun c_18 => ?_)
      · replace h := (if_pos c_18).symm.trans h
        refine lv_aload_n hx hb dX7_add_24 rfl (lv_at hl 0 rfl) ?_
        refine va_get (D := G.1) (ci := 7) (v := .ref (s_q 0)) (C := RX7) (T := TX7) (N := 3) hx hb hts hinX7 hown hK.1 hP 0 rfl rfl 0 (by decide) hf11 (fun _ h9 => h9) rfl dX7_add_25 ?_
        refine lv_aload_n hx hb dX7_add_28 rfl (lv_at hl 0 rfl) ?_
        refine va_get (D := G.1) (ci := 7) (v := .int s_count) (C := RX7) (T := TX7) (N := 3) hx hb hts hinX7 hown hK.1 hP 0 rfl rfl 2 (by decide) hf19 (fun _ h9 => h9) rfl dX7_add_29 ?_
        refine lv_lload_n hx hb dX7_add_32 rfl (lv_at hl 1 rfl) ?_
        obtain ⟨g_33, h⟩ := gi_e h
        refine va_last hx hb hK.1 hP hD hS 1 2 rfl rfl g_33 dX7_add_33 (fun H locs hP hD hS => ?_)
        have hP : va_P G.1 vwCl (WS G s_h s_q (vp_updL s_sets s_count.toNatClampNeg v1) s_slots s_count) H := hP
        have hD : va_D A (WS G s_h s_q (vp_updL s_sets s_count.toNatClampNeg v1) s_slots s_count) := hD
        refine lv_aload_n hx hb dX7_add_34 rfl (lv_at hl 0 rfl) ?_
        refine lv_dup hx hb dX7_add_35 rfl ?_
        refine va_get (D := G.1) (ci := 7) (v := .int s_count) (C := RX7) (T := TX7) (N := 3) hx hb hts hinX7 hown hK.1 hP 0 rfl rfl 2 (by decide) hf19 (fun _ h9 => h9) rfl dX7_add_36 ?_
        refine lv_iconst (v := 1) hx hb dX7_add_39 (by decide) ?_
        refine lv_iadd hx hb dX7_add_40 ?_
        refine va_put (D := G.1) (ci := 7) (v := .int (s_count + (1 : Int32))) (ty := .int) (C := RX7) (T := TX7) (N := 3) hx hb hts hinX7 tyX7 tyX7_ok nmX7 hown hK.1 hP hD hS 0 rfl rfl 2 (by decide) hf19 (fun _ h9 => h9) rfl (by decide +kernel) rfl rfl (Nat.le_of_ble_eq_true rfl) dX7_add_41 (fun H locs hP hD hS => ?_)
        have hP : va_P G.1 vwCl (WS G s_h s_q (vp_updL s_sets s_count.toNatClampNeg v1) s_slots (s_count + (1 : Int32))) H := hP
        have hD : va_D A (WS G s_h s_q (vp_updL s_sets s_count.toNatClampNeg v1) s_slots (s_count + (1 : Int32))) := hD
        refine lv_aload_n hx hb dX7_add_44 rfl (lv_at hl 0 rfl) ?_
        refine va_get (D := G.1) (ci := 7) (v := .ref (s_q 1)) (C := RX7) (T := TX7) (N := 3) hx hb hts hinX7 hown hK.1 hP 0 rfl rfl 1 (by decide) hf15 (fun _ h9 => h9) rfl dX7_add_45 ?_
        refine lv_iload_n hx hb dX7_add_48 rfl (lv_at hl 2 rfl) ?_
        refine lv_aload_n hx hb dX7_add_49 rfl (lv_at hl 0 rfl) ?_
        refine va_get (D := G.1) (ci := 7) (v := .int (s_count + (1 : Int32))) (C := RX7) (T := TX7) (N := 3) hx hb hts hinX7 hown hK.1 hP 0 rfl rfl 2 (by decide) hf19 (fun _ h9 => h9) rfl dX7_add_50 ?_
        obtain ⟨g_53, h⟩ := gi_e h
        refine va_iast hx hb hK.1 hP hD hS 2 0 rfl rfl g_53 dX7_add_53 (fun H locs hP hD hS => ?_)
        have hP : va_P G.1 vwCl (WS G s_h s_q (vp_updL s_sets s_count.toNatClampNeg v1) (upd s_slots v3.toNatClampNeg (s_count + (1 : Int32))) (s_count + (1 : Int32))) H := hP
        have hD : va_D A (WS G s_h s_q (vp_updL s_sets s_count.toNatClampNeg v1) (upd s_slots v3.toNatClampNeg (s_count + (1 : Int32))) (s_count + (1 : Int32))) := hD
        refine lv_aload_n hx hb dX7_add_54 rfl (lv_at hl 0 rfl) ?_
        refine va_get (D := G.1) (ci := 7) (v := .int (s_count + (1 : Int32))) (C := RX7) (T := TX7) (N := 3) hx hb hts hinX7 hown hK.1 hP 0 rfl rfl 2 (by decide) hf19 (fun _ h9 => h9) rfl dX7_add_55 ?_
        refine lv_iconst (v := 1) hx hb dX7_add_58 (by decide) ?_
        refine lv_isub hx hb dX7_add_59 ?_
        obtain ⟨rfl, rfl, rfl, rfl⟩ := oi4 h
        exact hret (fun _ => 0) _ _ _ _ _ _ _ dX7_add_60 rfl rfl hP hD hS (Nat.le_of_ble_eq_true rfl) (Nat.le_of_ble_eq_true rfl)
      · replace h := (if_neg c_18).symm.trans h
        refine lv_bipush (v := -6) hx hb dX7_add_21 (by decide) ?_
        obtain ⟨rfl, rfl, rfl, rfl⟩ := oi4 h
        exact hret (fun _ => 0) _ _ _ _ _ _ _ dX7_add_23 rfl rfl hP hD hS (Nat.le_of_ble_eq_true rfl) (Nat.le_of_ble_eq_true rfl)
abbrev rX7_numberOf : Room := { frames := 1, cells := 0, slots := 0, locals := 23 }
set_option maxHeartbeats 4000000 in
set_option maxRecDepth 100000 in
theorem c_X7_numberOf (l : Launch) (G : GG) (n : Nat) (s_h : Nat) (s_q : Nat → Nat) (s_sets : AL) (s_slots : AI) (s_count : Int32)  (v1 : Int64) (sz : Nat) (r : Int32) (s_sets_z : AL) (s_slots_z : AI) (s_count_z : Int32) (h : p_X7_numberOf n s_sets s_slots s_count v1 = some (r, s_sets_z, s_slots_z, s_count_z)) : CI l yX7_numberOf wsX7_numberOf rX7_numberOf G [.ref s_h, .long v1] (WS G s_h s_q s_sets s_slots s_count) sz r (fun u => WS G s_h s_q s_sets_z s_slots_z s_count_z) := by
  refine enterCI (cc := cX7_numberOf) (maxL := 5) (by decide) rfl (Nat.le_of_ble_eq_true rfl) ?_
  intro p e s m args below meth c A Q hx hb hml hown hts hK hP hD hS hA hret ls hl
  have hown : s.vm.findClass RX7 = some m.cls := hown
  have hf15 := hts (.fieldLink RX7 15 "DigitClaims$SetNumbers" "slots" "[I") (by decide +kernel)
  have hinX7 : ∀ w ∈ wsX70, w ∈ wsX7_numberOf := by decide +kernel
  have hl : lv_has ls 5 [(0, .ref s_h), (1, .long v1)] := hl
  unfold p_X7_numberOf at h
  refine lv_lload_n hx hb dX7_numberOf_0 rfl (lv_at hl 1 rfl) ?_
  refine lv_ldc2 (v := -7046029254386353131) hx hb hown (hts (.constantLong RX7 29 (-7046029254386353131)) (by decide +kernel)) dX7_numberOf_1 ?_
  refine lv_lmul hx hb dX7_numberOf_4 ?_
  refine lv_bipush (v := 54) hx hb dX7_numberOf_5 (by decide) ?_
  refine lv_lushr (v := ((v1 * (-7046029254386353131 : Int64)).toUInt64 >>> ((54 : Int32).toInt64.toUInt64 &&& Int64.toUInt64 63)).toInt64) hx hb dX7_numberOf_7 rfl ?_
  refine lv_l2i (v := (((v1 * (-7046029254386353131 : Int64)).toUInt64 >>> ((54 : Int32).toInt64.toUInt64 &&& Int64.toUInt64 63)).toInt64).toInt32) hx hb dX7_numberOf_8 rfl ?_
  refine lv_istore_n (lv' := [(3, .int ((((v1 * (-7046029254386353131 : Int64)).toUInt64 >>> ((54 : Int32).toInt64.toUInt64 &&& Int64.toUInt64 63)).toInt64).toInt32)), (0, .ref s_h), (1, .long v1)]) hx hb dX7_numberOf_9 rfl hl (by decide) rfl (fun ls hl => ?_)
  refine lv_iconst (v := 0) hx hb dX7_numberOf_10 (by decide) ?_
  refine lv_istore (lv' := [(4, .int (0 : Int32)), (3, .int ((((v1 * (-7046029254386353131 : Int64)).toUInt64 >>> ((54 : Int32).toInt64.toUInt64 &&& Int64.toUInt64 63)).toInt64).toInt32)), (0, .ref s_h), (1, .long v1)]) hx hb dX7_numberOf_11 hl (by decide) rfl (fun ls hl => ?_)
  obtain ⟨o_13, hT13, hd13⟩ := obS0_e h
  have hX13 : ∀   (H : Heap) (locs : List Loc) (ls : Array Slot), some (Sum.inr ()) = some o_13 → va_P G.1 vwCl (WS G s_h s_q s_sets s_slots s_count) H → va_D A (WS G s_h s_q s_sets s_slots s_count) → va_S A s.heap H locs → lv_has ls 5 [] → W p l e rX7_numberOf s m args below meth c H locs 0 0 Q (F0 m 77 ls []) := by
    intro  H locs ls hq hP hD hS hl
    rcases hd13 with ⟨x, hx1, h⟩ | ⟨hx1, h⟩
    · rw [hx1] at hq; cases hq
    rw [hx1] at hq
    refine lv_bipush (v := -6) hx hb dX7_numberOf_77 (by decide) ?_
    obtain ⟨rfl, rfl, rfl, rfl⟩ := oi4 h
    exact hret (fun _ => 0) _ _ _ _ _ _ _ dX7_numberOf_79 rfl rfl hP hD hS (Nat.le_of_ble_eq_true rfl) (Nat.le_of_ble_eq_true rfl)
  have hL13 : ∀ (f : Nat) (v3_13 : Int32) (v4_13 : Int32)  (H : Heap) (locs : List Loc) (ls : Array Slot), p_X7_numberOf_L13 s_slots s_sets s_count v1 f v3_13 v4_13 = some o_13 → va_P G.1 vwCl (WS G s_h s_q s_sets s_slots s_count) H → va_D A (WS G s_h s_q s_sets s_slots s_count) → va_S A s.heap H locs → lv_has ls 5 [(0, .ref s_h), (1, .long v1), (3, .int v3_13), (4, .int v4_13)] → W p l e rX7_numberOf s m args below meth c H locs 0 0 Q (F0 m 13 ls []) := by
    intro f
    induction f with
    | zero => intro v3_13 v4_13 H locs ls h hP hD hS hl; cases (show none = some _ from h)
    | succ f ih =>
      intro v3_13 v4_13 H locs ls h hP hD hS hl
      rw [p_X7_numberOf_L13] at h
      refine lv_iload hx hb dX7_numberOf_13 (lv_at hl 3 rfl) ?_
      refine lv_sipush (v := 1024) hx hb dX7_numberOf_15 (by decide) ?_
      refine lv_icmp_ge (tgt := 77) hx hb dX7_numberOf_18 (by decide) (fun c_18 => ?_) (fun c_18 => ?_)
      · replace h := (if_pos c_18).symm.trans h
        exact hX13   _ _ _ h hP hD hS (lv_sub hl [] rfl)
      · replace h := (if_neg c_18).symm.trans h
        refine lv_aload_n hx hb dX7_numberOf_21 rfl (lv_at hl 0 rfl) ?_
        refine va_get (D := G.1) (ci := 7) (v := .ref (s_q 1)) (C := RX7) (T := TX7) (N := 3) hx hb hts hinX7 hown hK.1 hP 0 rfl rfl 1 (by decide) hf15 (fun _ h9 => h9) rfl dX7_numberOf_22 ?_
        refine lv_iload_n hx hb dX7_numberOf_25 rfl (lv_at hl 2 rfl) ?_
        obtain ⟨g_26, h⟩ := gi_e h
        refine va_iald hx hb hK.1 hP 2 0 rfl rfl g_26 dX7_numberOf_26 ?_
        refine lv_if_ne (tgt := 37) hx hb dX7_numberOf_27 (by decide) (fun c_27 => ?_) (fun c_27 => ?_)
        · replace h := (if_neg c_27).symm.trans h
          refine lv_aload_n hx hb dX7_numberOf_37 rfl (lv_at hl 0 rfl) ?_
          refine lv_aload_n hx hb dX7_numberOf_38 rfl (lv_at hl 0 rfl) ?_
          refine va_get (D := G.1) (ci := 7) (v := .ref (s_q 1)) (C := RX7) (T := TX7) (N := 3) hx hb hts hinX7 hown hK.1 hP 0 rfl rfl 1 (by decide) hf15 (fun _ h9 => h9) rfl dX7_numberOf_39 ?_
          refine lv_iload_n hx hb dX7_numberOf_42 rfl (lv_at hl 2 rfl) ?_
          obtain ⟨g_43, h⟩ := gi_e h
          refine va_iald hx hb hK.1 hP 2 0 rfl rfl g_43 dX7_numberOf_43 ?_
          refine lv_iconst (v := 1) hx hb dX7_numberOf_44 (by decide) ?_
          refine lv_isub hx hb dX7_numberOf_45 ?_
          obtain ⟨r_46, hc_46, h⟩ := ob1_e h
          refine k_sl (va_runV (As := [.int ((s_slots v3_13.toNatClampNeg) - (1 : Int32))]) (rest := []) ⟨hx, hb, hml, hown, hts⟩ (c_X7_setOf l G s_h s_q s_sets s_slots s_count  ((s_slots v3_13.toNatClampNeg) - (1 : Int32)) r_46 hc_46) (cwV 1 hts gX7_numberOf_X7_setOf rfl rfl rfl ⟨rfl, eX7_setOf⟩ ⟨Nat.le_of_ble_eq_true rfl, Nat.le_of_ble_eq_true rfl⟩) (preSV (ci := 7) (q0 := 0) hK hP rfl rfl) rfl rfl hl.1 rfl (lv_room (Nat.le_of_ble_eq_true rfl)) dX7_numberOf_46 ⟨Nat.le_of_ble_eq_true rfl, Nat.le_of_ble_eq_true rfl⟩) ?_
          refine lv_lload_n hx hb dX7_numberOf_49 rfl (lv_at hl 1 rfl) ?_
          refine W.lcmp hx hb dX7_numberOf_50 ?_
          refine lv_if_ne (tgt := 63) hx hb dX7_numberOf_51 (by decide) (fun c_51 => ?_) (fun c_51 => ?_)
          · replace h := (if_neg c_51).symm.trans h
            refine lv_iload_n hx hb dX7_numberOf_63 rfl (lv_at hl 2 rfl) ?_
            refine lv_iconst (v := 1) hx hb dX7_numberOf_64 (by decide) ?_
            refine lv_iadd hx hb dX7_numberOf_65 ?_
            refine lv_sipush (v := 1023) hx hb dX7_numberOf_66 (by decide) ?_
            refine lv_iand hx hb dX7_numberOf_69 ?_
            refine lv_istore_n (lv' := [(3, .int ((v3_13 + (1 : Int32)) &&& (1023 : Int32))), (0, .ref s_h), (1, .long v1), (4, .int v4_13)]) hx hb dX7_numberOf_70 rfl hl (by decide) rfl (fun ls hl => ?_)
            refine lv_iinc (v := (v4_13 + (1 : Int32))) (lv' := [(4, .int (v4_13 + (1 : Int32))), (3, .int ((v3_13 + (1 : Int32)) &&& (1023 : Int32))), (0, .ref s_h), (1, .long v1)]) hx hb dX7_numberOf_71 hl (k := 3) rfl rfl (by decide) rfl (fun ls hl => ?_)
            refine lv_goto (tgt := 13) hx hb dX7_numberOf_74 (by decide) ?_
            exact ih _ _  _ _ _ h hP hD hS (lv_sub hl [2, 3, 1, 0] rfl)
          · replace h := (if_pos c_51).symm.trans h
            refine lv_aload_n hx hb dX7_numberOf_54 rfl (lv_at hl 0 rfl) ?_
            refine va_get (D := G.1) (ci := 7) (v := .ref (s_q 1)) (C := RX7) (T := TX7) (N := 3) hx hb hts hinX7 hown hK.1 hP 0 rfl rfl 1 (by decide) hf15 (fun _ h9 => h9) rfl dX7_numberOf_55 ?_
            refine lv_iload_n hx hb dX7_numberOf_58 rfl (lv_at hl 2 rfl) ?_
            obtain ⟨g_59, h⟩ := gi_e h
            refine va_iald hx hb hK.1 hP 2 0 rfl rfl g_59 dX7_numberOf_59 ?_
            refine lv_iconst (v := 1) hx hb dX7_numberOf_60 (by decide) ?_
            refine lv_isub hx hb dX7_numberOf_61 ?_
            rcases hd13 with ⟨x, hx1, h2⟩ | ⟨hx1, _⟩
            · rw [hx1] at h
              have hx2 := oiL h
              rw [hx2] at h2
              replace h := h2
              obtain ⟨rfl, rfl, rfl, rfl⟩ := oi4 h
              exact hret (fun _ => 0) _ _ _ _ _ _ _ dX7_numberOf_62 rfl rfl hP hD hS (Nat.le_of_ble_eq_true rfl) (Nat.le_of_ble_eq_true rfl)
            · rw [hx1] at h; cases h
        · replace h := (if_pos c_27).symm.trans h
          refine lv_aload_n hx hb dX7_numberOf_30 rfl (lv_at hl 0 rfl) ?_
          refine lv_lload_n hx hb dX7_numberOf_31 rfl (lv_at hl 1 rfl) ?_
          refine lv_iload_n hx hb dX7_numberOf_32 rfl (lv_at hl 2 rfl) ?_
          obtain ⟨r_33, s_sets_33, s_slots_33, s_count_33, hc_33, h⟩ := ob4_e h
          refine k_ciA (va_runV (As := [.long v1, .int v3_13]) (rest := []) ⟨hx, hb, hml, hown, hts⟩ (c_X7_add l G s_h s_q s_sets s_slots s_count  v1 v3_13 _ r_33 s_sets_33 s_slots_33 s_count_33 hc_33) (cwV 2 hts gX7_numberOf_X7_add rfl rfl rfl ⟨rfl, eX7_add⟩ ⟨Nat.le_of_ble_eq_true rfl, Nat.le_of_ble_eq_true rfl⟩) (preWV (ci := 7) (q0 := 0) hK hP hD rfl rfl) rfl rfl hl.1 rfl (lv_room (Nat.le_of_ble_eq_true rfl)) dX7_numberOf_33 ⟨Nat.le_of_ble_eq_true rfl, Nat.le_of_ble_eq_true rfl⟩) hD hS hA (fun u_33 H locs hP hD hS => ?_)
          have hP : va_P G.1 vwCl (WS G s_h s_q s_sets_33 s_slots_33 s_count_33) H := hP
          have hD : va_D A (WS G s_h s_q s_sets_33 s_slots_33 s_count_33) := hD
          rcases hd13 with ⟨x, hx1, h2⟩ | ⟨hx1, _⟩
          · rw [hx1] at h
            have hx2 := oiL h
            rw [hx2] at h2
            replace h := h2
            obtain ⟨rfl, rfl, rfl, rfl⟩ := oi4 h
            exact hret (fun _ => 0) _ _ _ _ _ _ _ dX7_numberOf_36 rfl rfl hP hD hS (Nat.le_of_ble_eq_true rfl) (Nat.le_of_ble_eq_true rfl)
          · rw [hx1] at h; cases h
  exact hL13 n _ _  _ _ _ hT13 hP hD hS (lv_sub hl [2, 3, 1, 0] rfl)
abbrev rX8_leastNumberTo : Room := { frames := 0, cells := 0, slots := 0, locals := 0 }
set_option maxHeartbeats 4000000 in
set_option maxRecDepth 100000 in
theorem c_X8_leastNumberTo (l : Launch) (G : GG) (t_h : Nat) (t_q : Nat → Nat) (t_ways : AL) (t_freshWays : AL) (t_leastTo : AL) (t_waiting : AI)  (v1 : Int32) (r : Int64) (h : p_X8_leastNumberTo t_leastTo v1 = some r) : SL l yX8_leastNumberTo wsX8_leastNumberTo rX8_leastNumberTo G [.ref t_h, .int v1] (WT G t_h t_q t_ways t_freshWays t_leastTo t_waiting) r := by
  refine enterSL (cc := cX8_leastNumberTo) (maxL := 2) (by decide) rfl (Nat.le_of_ble_eq_true rfl) ?_
  intro p e s m args below meth c Q hx hb hml hown hts hK hP hret ls hl
  have hown : s.vm.findClass RX8 = some m.cls := hown
  have hf18 := hts (.fieldLink RX8 18 "DigitClaims$Teller" "leastTo" "[J") (by decide +kernel)
  have hinX8 : ∀ w ∈ wsX80, w ∈ wsX8_leastNumberTo := by decide +kernel
  have hl : lv_has ls 2 [(0, .ref t_h), (1, .int v1)] := hl
  unfold p_X8_leastNumberTo at h
  refine lv_iload_n hx hb dX8_leastNumberTo_0 rfl (lv_at hl 1 rfl) ?_
  refine lv_if_lt (tgt := 19) hx hb dX8_leastNumberTo_1 (by decide) (fun c_1 => ?_) (fun c_1 => ?_)
  · replace h := (if_pos c_1).symm.trans h
    refine lv_lconst (v := 0) hx hb dX8_leastNumberTo_19 (by decide) ?_
    obtain rfl := oi1 h
    exact hret _ _ _ dX8_leastNumberTo_20 rfl
  · replace h := (if_neg c_1).symm.trans h
    refine lv_iload_n hx hb dX8_leastNumberTo_4 rfl (lv_at hl 1 rfl) ?_
    refine lv_bipush (v := 60) hx hb dX8_leastNumberTo_5 (by decide) ?_
    refine lv_icmp_ge (tgt := 19) hx hb dX8_leastNumberTo_7 (by decide) (fun c_7 => ?_) (fun c_7 => ?_)
    · replace h := (if_pos c_7).symm.trans h
      refine lv_lconst (v := 0) hx hb dX8_leastNumberTo_19 (by decide) ?_
      obtain rfl := oi1 h
      exact hret _ _ _ dX8_leastNumberTo_20 rfl
    · replace h := (if_neg c_7).symm.trans h
      refine lv_aload_n hx hb dX8_leastNumberTo_10 rfl (lv_at hl 0 rfl) ?_
      refine va_get (D := G.1) (ci := 8) (v := .ref (t_q 2)) (C := RX8) (T := TX8) (N := 4) hx hb hts hinX8 hown hK.1 hP 0 rfl rfl 2 (by decide) hf18 (fun _ h9 => h9) rfl dX8_leastNumberTo_11 ?_
      refine lv_iload_n hx hb dX8_leastNumberTo_14 rfl (lv_at hl 1 rfl) ?_
      obtain ⟨g_15, h⟩ := gi_e h
      refine va_lald hx hb hK.1 hP 3 2 rfl rfl g_15 dX8_leastNumberTo_15 ?_
      refine lv_goto (tgt := 20) hx hb dX8_leastNumberTo_16 (by decide) ?_
      obtain rfl := oi1 h
      exact hret _ _ _ dX8_leastNumberTo_20 rfl
abbrev rX8_comeTo : Room := { frames := 0, cells := 0, slots := 0, locals := 0 }
set_option maxHeartbeats 4000000 in
set_option maxRecDepth 100000 in
theorem c_X8_comeTo (l : Launch) (G : GG) (t_h : Nat) (t_q : Nat → Nat) (t_ways : AL) (t_freshWays : AL) (t_leastTo : AL) (t_waiting : AI)  (v1 : Int32) (v2 : Int64) (v4 : Int32) (sz : Nat) (r : Int32) (t_leastTo_z : AL) (t_waiting_z : AI) (h : p_X8_comeTo t_leastTo t_waiting v1 v2 v4 = some (r, t_leastTo_z, t_waiting_z)) : CI l yX8_comeTo wsX8_comeTo rX8_comeTo G [.ref t_h, .int v1, .long v2, .int v4] (WT G t_h t_q t_ways t_freshWays t_leastTo t_waiting) sz r (fun u => WT G t_h t_q t_ways t_freshWays t_leastTo_z t_waiting_z) := by
  refine enterCI (cc := cX8_comeTo) (maxL := 5) (by decide) rfl (Nat.le_of_ble_eq_true rfl) ?_
  intro p e s m args below meth c A Q hx hb hml hown hts hK hP hD hS hA hret ls hl
  have hown : s.vm.findClass RX8 = some m.cls := hown
  have hf18 := hts (.fieldLink RX8 18 "DigitClaims$Teller" "leastTo" "[J") (by decide +kernel)
  have hf21 := hts (.fieldLink RX8 21 "DigitClaims$Teller" "waiting" "[I") (by decide +kernel)
  have hinX8 : ∀ w ∈ wsX80, w ∈ wsX8_comeTo := by decide +kernel
  have hl : lv_has ls 5 [(0, .ref t_h), (1, .int v1), (2, .long v2), (4, .int v4)] := hl
  unfold p_X8_comeTo at h
  refine lv_iload_n hx hb dX8_comeTo_0 rfl (lv_at hl 1 rfl) ?_
  refine lv_if_lt (tgt := 33) hx hb dX8_comeTo_1 (by decide) (fun c_1 => ?_) (fun c_1 => ?_)
  · replace h := (if_pos c_1).symm.trans h
    refine lv_iload hx hb dX8_comeTo_33 (lv_at hl 3 rfl) ?_
    obtain ⟨rfl, rfl, rfl⟩ := oi3 h
    exact hret (fun _ => 0) _ _ _ _ _ _ _ dX8_comeTo_35 rfl rfl hP hD hS (Nat.le_of_ble_eq_true rfl) (Nat.le_of_ble_eq_true rfl)
  · replace h := (if_neg c_1).symm.trans h
    refine lv_iload_n hx hb dX8_comeTo_4 rfl (lv_at hl 1 rfl) ?_
    refine lv_bipush (v := 60) hx hb dX8_comeTo_5 (by decide) ?_
    refine lv_icmp_ge (tgt := 33) hx hb dX8_comeTo_7 (by decide) (fun c_7 => ?_) (fun c_7 => ?_)
    · replace h := (if_pos c_7).symm.trans h
      refine lv_iload hx hb dX8_comeTo_33 (lv_at hl 3 rfl) ?_
      obtain ⟨rfl, rfl, rfl⟩ := oi3 h
      exact hret (fun _ => 0) _ _ _ _ _ _ _ dX8_comeTo_35 rfl rfl hP hD hS (Nat.le_of_ble_eq_true rfl) (Nat.le_of_ble_eq_true rfl)
    · replace h := (if_neg c_7).symm.trans h
      refine lv_iload hx hb dX8_comeTo_10 (lv_at hl 3 rfl) ?_
      refine lv_if_lt (tgt := 33) hx hb dX8_comeTo_12 (by decide) (fun c_12 => ?_) (fun c_12 => ?_)
      · replace h := (if_pos c_12).symm.trans h
        refine lv_iload hx hb dX8_comeTo_33 (lv_at hl 3 rfl) ?_
        obtain ⟨rfl, rfl, rfl⟩ := oi3 h
        exact hret (fun _ => 0) _ _ _ _ _ _ _ dX8_comeTo_35 rfl rfl hP hD hS (Nat.le_of_ble_eq_true rfl) (Nat.le_of_ble_eq_true rfl)
      · replace h := (if_neg c_12).symm.trans h
        refine lv_iload hx hb dX8_comeTo_15 (lv_at hl 3 rfl) ?_
        refine lv_bipush (v := 60) hx hb dX8_comeTo_17 (by decide) ?_
        refine lv_icmp_ge (tgt := 33) hx hb dX8_comeTo_19 (by decide) (fun c_19 => ?_) (fun c_19 => ?_)
        · replace h := (if_pos c_19).symm.trans h
          refine lv_iload hx hb dX8_comeTo_33 (lv_at hl 3 rfl) ?_
          obtain ⟨rfl, rfl, rfl⟩ := oi3 h
          exact hret (fun _ => 0) _ _ _ _ _ _ _ dX8_comeTo_35 rfl rfl hP hD hS (Nat.le_of_ble_eq_true rfl) (Nat.le_of_ble_eq_true rfl)
        · replace h := (if_neg c_19).symm.trans h
          refine lv_aload_n hx hb dX8_comeTo_22 rfl (lv_at hl 0 rfl) ?_
          refine va_get (D := G.1) (ci := 8) (v := .ref (t_q 2)) (C := RX8) (T := TX8) (N := 4) hx hb hts hinX8 hown hK.1 hP 0 rfl rfl 2 (by decide) hf18 (fun _ h9 => h9) rfl dX8_comeTo_23 ?_
          refine lv_iload_n hx hb dX8_comeTo_26 rfl (lv_at hl 1 rfl) ?_
          obtain ⟨g_27, h⟩ := gi_e h
          refine va_lald hx hb hK.1 hP 3 2 rfl rfl g_27 dX8_comeTo_27 ?_
          refine lv_lconst (v := 0) hx hb dX8_comeTo_28 (by decide) ?_
          refine W.lcmp hx hb dX8_comeTo_29 ?_
          refine lv_if_lt (tgt := 36) hx hb dX8_comeTo_30 (by decide) (fun c_30 => ?_) (fun c_30 => ?_)
          · replace h := (if_pos c_30).symm.trans h
            refine lv_aload_n hx hb dX8_comeTo_36 rfl (lv_at hl 0 rfl) ?_
            refine va_get (D := G.1) (ci := 8) (v := .ref (t_q 2)) (C := RX8) (T := TX8) (N := 4) hx hb hts hinX8 hown hK.1 hP 0 rfl rfl 2 (by decide) hf18 (fun _ h9 => h9) rfl dX8_comeTo_37 ?_
            refine lv_iload_n hx hb dX8_comeTo_40 rfl (lv_at hl 1 rfl) ?_
            refine lv_lload_n hx hb dX8_comeTo_41 rfl (lv_at hl 2 rfl) ?_
            obtain ⟨g_42, h⟩ := gi_e h
            refine va_last hx hb hK.1 hP hD hS 3 2 rfl rfl g_42 dX8_comeTo_42 (fun H locs hP hD hS => ?_)
            have hP : va_P G.1 vwCl (WT G t_h t_q t_ways t_freshWays (vp_updL t_leastTo v1.toNatClampNeg v2) t_waiting) H := hP
            have hD : va_D A (WT G t_h t_q t_ways t_freshWays (vp_updL t_leastTo v1.toNatClampNeg v2) t_waiting) := hD
            refine lv_aload_n hx hb dX8_comeTo_43 rfl (lv_at hl 0 rfl) ?_
            refine va_get (D := G.1) (ci := 8) (v := .ref (t_q 3)) (C := RX8) (T := TX8) (N := 4) hx hb hts hinX8 hown hK.1 hP 0 rfl rfl 3 (by decide) hf21 (fun _ h9 => h9) rfl dX8_comeTo_44 ?_
            refine lv_iload hx hb dX8_comeTo_47 (lv_at hl 3 rfl) ?_
            refine lv_iload_n hx hb dX8_comeTo_49 rfl (lv_at hl 1 rfl) ?_
            obtain ⟨g_50, h⟩ := gi_e h
            refine va_iast hx hb hK.1 hP hD hS 4 0 rfl rfl g_50 dX8_comeTo_50 (fun H locs hP hD hS => ?_)
            have hP : va_P G.1 vwCl (WT G t_h t_q t_ways t_freshWays (vp_updL t_leastTo v1.toNatClampNeg v2) (upd t_waiting v4.toNatClampNeg v1)) H := hP
            have hD : va_D A (WT G t_h t_q t_ways t_freshWays (vp_updL t_leastTo v1.toNatClampNeg v2) (upd t_waiting v4.toNatClampNeg v1)) := hD
            refine lv_iload hx hb dX8_comeTo_51 (lv_at hl 3 rfl) ?_
            refine lv_iconst (v := 1) hx hb dX8_comeTo_53 (by decide) ?_
            refine lv_iadd hx hb dX8_comeTo_54 ?_
            obtain ⟨rfl, rfl, rfl⟩ := oi3 h
            exact hret (fun _ => 0) _ _ _ _ _ _ _ dX8_comeTo_55 rfl rfl hP hD hS (Nat.le_of_ble_eq_true rfl) (Nat.le_of_ble_eq_true rfl)
          · replace h := (if_neg c_30).symm.trans h
            refine lv_iload hx hb dX8_comeTo_33 (lv_at hl 3 rfl) ?_
            obtain ⟨rfl, rfl, rfl⟩ := oi3 h
            exact hret (fun _ => 0) _ _ _ _ _ _ _ dX8_comeTo_35 rfl rfl hP hD hS (Nat.le_of_ble_eq_true rfl) (Nat.le_of_ble_eq_true rfl)
abbrev rX8_waysOn : Room := { frames := 2, cells := 0, slots := 0, locals := 43 }
set_option maxHeartbeats 4000000 in
set_option maxRecDepth 100000 in
theorem c_X8_waysOn (l : Launch) (G : GG) (n : Nat) (t_h : Nat) (t_q : Nat → Nat) (f_h : Nat → Nat) (f_q : Nat → Nat → Nat) (t_ways : AL) (t_freshWays : AL) (t_leastTo : AL) (t_waiting : AI) (f_next : AF) (f_says : AF) (f_size : AI) (k0 : Nat) (hk0 : k0 < 7) (v2 : Int32) (r : Int64) (h : p_X8_waysOn n t_ways f_next f_size k0 v2 = some r) : SL l yX8_waysOn wsX8_waysOn rX8_waysOn G [.ref t_h, .ref (f_h k0), .int v2] ((WT G t_h t_q t_ways t_freshWays t_leastTo t_waiting) ++ (WF G f_h f_q f_next f_says f_size)) r := by
  refine enterSL (cc := cX8_waysOn) (maxL := 7) (by decide) rfl (Nat.le_of_ble_eq_true rfl) ?_
  intro p e s m args below meth c Q hx hb hml hown hts hK hP hret ls hl
  have hown : s.vm.findClass RX8 = some m.cls := hown
  have hf9 := hts (.fieldLink RX8 9 "DigitClaims$Teller" "ways" "[J") (by decide +kernel)
  have hinX8 : ∀ w ∈ wsX80, w ∈ wsX8_waysOn := by decide +kernel
  have hl : lv_has ls 7 [(0, .ref t_h), (1, .ref (f_h k0)), (2, .int v2)] := hl
  unfold p_X8_waysOn at h
  refine lv_lconst (v := 0) hx hb dX8_waysOn_0 (by decide) ?_
  refine lv_lstore_n (lv' := [(3, .long (0 : Int64)), (0, .ref t_h), (1, .ref (f_h k0)), (2, .int v2)]) hx hb dX8_waysOn_1 rfl hl (by decide) rfl (fun ls hl => ?_)
  refine lv_iconst (v := 0) hx hb dX8_waysOn_2 (by decide) ?_
  refine lv_istore (lv' := [(5, .int (0 : Int32)), (3, .long (0 : Int64)), (0, .ref t_h), (1, .ref (f_h k0)), (2, .int v2)]) hx hb dX8_waysOn_3 hl (by decide) rfl (fun ls hl => ?_)
  obtain ⟨o3_5, hT5, h⟩ := ob1_e h
  have hX5 : ∀ (x3_5 : Int64)  (ls : Array Slot), some x3_5 = some o3_5 → lv_has ls 7 [(3, .long x3_5)] → W p l e rX8_waysOn s m args below meth c s.heap [] 0 0 Q (F0 m 49 ls []) := by
    intro x3_5 ls hq hl
    obtain rfl := oi1 hq
    refine lv_lload_n hx hb dX8_waysOn_49 rfl (lv_at hl 0 rfl) ?_
    obtain rfl := oi1 h
    exact hret _ _ _ dX8_waysOn_50 rfl
  have hL5 : ∀ (f : Nat) (v3_5 : Int64) (v5_5 : Int32)  (ls : Array Slot), p_X8_waysOn_L5 f_next k0 f_size v2 t_ways f v3_5 v5_5 = some o3_5 → lv_has ls 7 [(0, .ref t_h), (1, .ref (f_h k0)), (2, .int v2), (3, .long v3_5), (5, .int v5_5)] → W p l e rX8_waysOn s m args below meth c s.heap [] 0 0 Q (F0 m 5 ls []) := by
    intro f
    induction f with
    | zero => intro v3_5 v5_5 ls h hl; cases (show none = some _ from h)
    | succ f ih =>
      intro v3_5 v5_5 ls h hl
      rw [p_X8_waysOn_L5] at h
      refine lv_iload hx hb dX8_waysOn_5 (lv_at hl 4 rfl) ?_
      refine lv_bipush (v := 8) hx hb dX8_waysOn_7 (by decide) ?_
      refine lv_icmp_ge (tgt := 49) hx hb dX8_waysOn_9 (by decide) (fun c_9 => ?_) (fun c_9 => ?_)
      · replace h := (if_pos c_9).symm.trans h
        exact hX5 _  _ h (lv_sub hl [3] rfl)
      · replace h := (if_neg c_9).symm.trans h
        refine lv_aload_n hx hb dX8_waysOn_12 rfl (lv_at hl 1 rfl) ?_
        refine lv_iload_n hx hb dX8_waysOn_13 rfl (lv_at hl 2 rfl) ?_
        refine lv_iload hx hb dX8_waysOn_14 (lv_at hl 4 rfl) ?_
        obtain ⟨r_16, hc_16, h⟩ := ob1_e h
        refine k_si (va_runV (As := [.int v2, .int v5_5]) (rest := []) ⟨hx, hb, hml, hown, hts⟩ (c_X0_after l G (f_h k0) (f_q k0) (f_next k0) (f_says k0) (f_size k0)  v2 v5_5 r_16 hc_16) (cwV 2 hts gX8_waysOn_X0_after rfl rfl rfl ⟨rfl, eX0_after⟩ ⟨Nat.le_of_ble_eq_true rfl, Nat.le_of_ble_eq_true rfl⟩) (preSV (ci := 0) (q0 := 0) hK (famC (hP.sub (ws' := WF G f_h f_q f_next f_says f_size) [5, 6, 7, 8, 9, 10, 11, 12, 13, 14, 15, 16, 17, 18, 19, 20, 21, 22, 23, 24, 25] rfl) k0 hk0) rfl rfl) rfl rfl hl.1 rfl (lv_room (Nat.le_of_ble_eq_true rfl)) dX8_waysOn_16 ⟨Nat.le_of_ble_eq_true rfl, Nat.le_of_ble_eq_true rfl⟩) ?_
        refine lv_istore (lv' := [(6, .int r_16), (0, .ref t_h), (1, .ref (f_h k0)), (2, .int v2), (3, .long v3_5), (5, .int v5_5)]) hx hb dX8_waysOn_19 hl (by decide) rfl (fun ls hl => ?_)
        refine lv_iload hx hb dX8_waysOn_21 (lv_at hl 0 rfl) ?_
        obtain ⟨v3_j23, hT23, h⟩ := ob1_e h
        have hJ23 : ∀ (v3_j23x : Int64)  (ls : Array Slot), some v3_j23x = some v3_j23 → lv_has ls 7 [(0, .ref t_h), (1, .ref (f_h k0)), (2, .int v2), (3, .long v3_j23x), (5, .int v5_5)] → W p l e rX8_waysOn s m args below meth c s.heap [] 0 0 Q (F0 m 43 ls []) := by
          intro v3_j23x ls hq hl
          obtain rfl := oi1 hq
          refine lv_iinc (v := (v5_5 + (1 : Int32))) (lv' := [(5, .int (v5_5 + (1 : Int32))), (0, .ref t_h), (1, .ref (f_h k0)), (2, .int v2), (3, .long v3_j23)]) hx hb dX8_waysOn_43 hl (k := 4) rfl rfl (by decide) rfl (fun ls hl => ?_)
          refine lv_goto (tgt := 5) hx hb dX8_waysOn_46 (by decide) ?_
          exact ih _ _  _ h (lv_sub hl [1, 2, 3, 4, 0] rfl)
        replace h := hT23
        refine lv_if_lt (tgt := 43) hx hb dX8_waysOn_23 (by decide) (fun c_23 => ?_) (fun c_23 => ?_)
        · replace h := (if_pos c_23).symm.trans h
          exact hJ23 _  _ h (lv_sub hl [1, 2, 3, 4, 5] rfl)
        · replace h := (if_neg c_23).symm.trans h
          refine lv_iload hx hb dX8_waysOn_26 (lv_at hl 0 rfl) ?_
          refine lv_bipush (v := 60) hx hb dX8_waysOn_28 (by decide) ?_
          refine lv_icmp_ge (tgt := 43) hx hb dX8_waysOn_30 (by decide) (fun c_30 => ?_) (fun c_30 => ?_)
          · replace h := (if_pos c_30).symm.trans h
            exact hJ23 _  _ h (lv_sub hl [1, 2, 3, 4, 5] rfl)
          · replace h := (if_neg c_30).symm.trans h
            refine lv_lload_n hx hb dX8_waysOn_33 rfl (lv_at hl 4 rfl) ?_
            refine lv_aload_n hx hb dX8_waysOn_34 rfl (lv_at hl 1 rfl) ?_
            refine va_get (D := G.1) (ci := 8) (v := .ref (t_q 0)) (C := RX8) (T := TX8) (N := 4) hx hb hts hinX8 hown hK.1 hP 0 rfl rfl 0 (by decide) hf9 (fun _ h9 => h9) rfl dX8_waysOn_35 ?_
            refine lv_iload hx hb dX8_waysOn_38 (lv_at hl 0 rfl) ?_
            obtain ⟨g_40, h⟩ := gi_e h
            refine va_lald hx hb hK.1 hP 1 2 rfl rfl g_40 dX8_waysOn_40 ?_
            refine lv_ladd hx hb dX8_waysOn_41 ?_
            refine lv_lstore_n (lv' := [(3, .long (v3_5 + (t_ways r_16.toNatClampNeg))), (6, .int r_16), (0, .ref t_h), (1, .ref (f_h k0)), (2, .int v2), (5, .int v5_5)]) hx hb dX8_waysOn_42 rfl hl (by decide) rfl (fun ls hl => ?_)
            exact hJ23 _  _ h (lv_sub hl [2, 3, 4, 0, 5] rfl)
  exact hL5 n _ _  _ hT5 (lv_sub hl [2, 3, 4, 1, 0] rfl)
abbrev rX8_countBelow : Room := { frames := 3, cells := 0, slots := 0, locals := 69 }
set_option maxHeartbeats 4000000 in
set_option maxRecDepth 100000 in
theorem c_X8_countBelow (l : Launch) (G : GG) (n : Nat) (t_h : Nat) (t_q : Nat → Nat) (f_h : Nat → Nat) (f_q : Nat → Nat → Nat) (t_ways : AL) (t_freshWays : AL) (t_leastTo : AL) (t_waiting : AI) (f_next : AF) (f_says : AF) (f_size : AI) (k0 : Nat) (hk0 : k0 < 7) (v2 : Int32) (sz : Nat) (r : Int64) (t_ways_z : AL) (t_freshWays_z : AL) (h : p_X8_countBelow n t_ways t_freshWays f_next f_says f_size k0 v2 = some (r, t_ways_z, t_freshWays_z)) : CL l yX8_countBelow wsX8_countBelow rX8_countBelow G [.ref t_h, .ref (f_h k0), .int v2] ((WT G t_h t_q t_ways t_freshWays t_leastTo t_waiting) ++ (WF G f_h f_q f_next f_says f_size)) sz r (fun u => (WT G t_h t_q t_ways_z t_freshWays_z t_leastTo t_waiting) ++ (WF G f_h f_q f_next f_says f_size)) := by
  refine enterCL (cc := cX8_countBelow) (maxL := 6) (by decide) rfl (Nat.le_of_ble_eq_true rfl) ?_
  intro p e s m args below meth c A Q hx hb hml hown hts hK hP hD hS hA hret ls hl
  have hown : s.vm.findClass RX8 = some m.cls := hown
  have hf9 := hts (.fieldLink RX8 9 "DigitClaims$Teller" "ways" "[J") (by decide +kernel)
  have hf15 := hts (.fieldLink RX8 15 "DigitClaims$Teller" "freshWays" "[J") (by decide +kernel)
  have hinX8 : ∀ w ∈ wsX80, w ∈ wsX8_countBelow := by decide +kernel
  have hl : lv_has ls 6 [(0, .ref t_h), (1, .ref (f_h k0)), (2, .int v2)] := hl
  unfold p_X8_countBelow at h
  refine lv_aload_n hx hb dX8_countBelow_0 rfl (lv_at hl 1 rfl) ?_
  obtain ⟨r_1, hc_1, h⟩ := ob1_e h
  refine k_si (va_runV (As := []) (rest := []) ⟨hx, hb, hml, hown, hts⟩ (c_X0_size l G (f_h k0) (f_q k0) (f_next k0) (f_says k0) (f_size k0)   r_1 hc_1) (cwV 0 hts gX8_countBelow_X0_size rfl rfl rfl ⟨rfl, eX0_size⟩ ⟨Nat.le_of_ble_eq_true rfl, Nat.le_of_ble_eq_true rfl⟩) (preSV (ci := 0) (q0 := 0) hK (famC (hP.sub (ws' := WF G f_h f_q f_next f_says f_size) [5, 6, 7, 8, 9, 10, 11, 12, 13, 14, 15, 16, 17, 18, 19, 20, 21, 22, 23, 24, 25] rfl) k0 hk0) rfl rfl) rfl rfl hl.1 rfl (lv_room (Nat.le_of_ble_eq_true rfl)) dX8_countBelow_1 ⟨Nat.le_of_ble_eq_true rfl, Nat.le_of_ble_eq_true rfl⟩) ?_
  refine lv_bipush (v := 60) hx hb dX8_countBelow_4 (by decide) ?_
  refine va_mmin hx hb (hml.trans hl.1.symm) hown (hts (.methodLink RX8 31 Lib.Math.min.name) (by decide +kernel)) (hts (.static Lib.Math.min.name) (by decide +kernel)) (hts (.initialized "java/lang/Math") (by decide +kernel)) (hts (.code Lib.Math.min.name Lib.Math.min.code 2 (some .int)) (by decide +kernel)) (Nat.le_of_ble_eq_true rfl) (Nat.le_of_ble_eq_true rfl) (Nat.le_of_ble_eq_true rfl) (Nat.le_of_ble_eq_true rfl) dX8_countBelow_6 ?_
  refine lv_istore_n (lv' := [(3, .int (if (60 : Int32) < r_1 then (60 : Int32) else r_1)), (0, .ref t_h), (1, .ref (f_h k0)), (2, .int v2)]) hx hb dX8_countBelow_9 rfl hl (by decide) rfl (fun ls hl => ?_)
  refine lv_iconst (v := 0) hx hb dX8_countBelow_10 (by decide) ?_
  refine lv_istore (lv' := [(4, .int (0 : Int32)), (3, .int (if (60 : Int32) < r_1 then (60 : Int32) else r_1)), (0, .ref t_h), (1, .ref (f_h k0)), (2, .int v2)]) hx hb dX8_countBelow_11 hl (by decide) rfl (fun ls hl => ?_)
  obtain ⟨t_ways_o13, hT13, h⟩ := ob1_e h
  have hX13 : ∀ (t_ways_o13x : AL)  (H : Heap) (locs : List Loc) (ls : Array Slot), some t_ways_o13x = some t_ways_o13 → va_P G.1 vwCl ((WT G t_h t_q t_ways_o13x t_freshWays t_leastTo t_waiting) ++ (WF G f_h f_q f_next f_says f_size)) H → va_D A ((WT G t_h t_q t_ways_o13x t_freshWays t_leastTo t_waiting) ++ (WF G f_h f_q f_next f_says f_size)) → va_S A s.heap H locs → lv_has ls 6 [(0, .ref t_h), (1, .ref (f_h k0)), (2, .int v2), (3, .int (if (60 : Int32) < r_1 then (60 : Int32) else r_1))] → W p l e rX8_countBelow s m args below meth c H locs 0 0 Q (F0 m 46 ls []) := by
    intro t_ways_o13x H locs ls hq hP hD hS hl
    obtain rfl := oi1 hq
    refine lv_iconst (v := 0) hx hb dX8_countBelow_46 (by decide) ?_
    refine lv_istore (lv' := [(4, .int (0 : Int32)), (0, .ref t_h), (1, .ref (f_h k0)), (2, .int v2), (3, .int (if (60 : Int32) < r_1 then (60 : Int32) else r_1))]) hx hb dX8_countBelow_47 hl (by decide) rfl (fun ls hl => ?_)
    obtain ⟨t_ways_o49, t_freshWays_o49, hT49, h⟩ := ob2_e h
    have hX49 : ∀ (t_ways_o49x : AL) (t_freshWays_o49x : AL)  (H : Heap) (locs : List Loc) (ls : Array Slot), some (t_ways_o49x, t_freshWays_o49x) = some (t_ways_o49, t_freshWays_o49) → va_P G.1 vwCl ((WT G t_h t_q t_ways_o49x t_freshWays_o49x t_leastTo t_waiting) ++ (WF G f_h f_q f_next f_says f_size)) H → va_D A ((WT G t_h t_q t_ways_o49x t_freshWays_o49x t_leastTo t_waiting) ++ (WF G f_h f_q f_next f_says f_size)) → va_S A s.heap H locs → lv_has ls 6 [(0, .ref t_h)] → W p l e rX8_countBelow s m args below meth c H locs 0 0 Q (F0 m 104 ls []) := by
      intro t_ways_o49x t_freshWays_o49x H locs ls hq hP hD hS hl
      obtain ⟨rfl, rfl⟩ := oi2 hq
      refine lv_aload_n hx hb dX8_countBelow_104 rfl (lv_at hl 0 rfl) ?_
      refine va_get (D := G.1) (ci := 8) (v := .ref (t_q 0)) (C := RX8) (T := TX8) (N := 4) hx hb hts hinX8 hown hK.1 hP 0 rfl rfl 0 (by decide) hf9 (fun _ h9 => h9) rfl dX8_countBelow_105 ?_
      refine lv_iconst (v := 0) hx hb dX8_countBelow_108 (by decide) ?_
      obtain ⟨g_109, h⟩ := gi_e h
      refine va_lald hx hb hK.1 hP 1 2 rfl rfl g_109 dX8_countBelow_109 ?_
      obtain ⟨rfl, rfl, rfl⟩ := oi3 h
      exact hret (fun _ => 0) _ _ _ _ _ _ _ dX8_countBelow_110 rfl hP hD hS (Nat.le_of_ble_eq_true rfl) (Nat.le_of_ble_eq_true rfl)
    have hL49 : ∀ (f : Nat) (v4_49 : Int32) (t_ways_49 : AL) (t_freshWays_49 : AL)  (H : Heap) (locs : List Loc) (ls : Array Slot), p_X8_countBelow_L49 n v2 r_1 f_next f_size k0 f v4_49 t_ways_49 t_freshWays_49 = some (t_ways_o49, t_freshWays_o49) → va_P G.1 vwCl ((WT G t_h t_q t_ways_49 t_freshWays_49 t_leastTo t_waiting) ++ (WF G f_h f_q f_next f_says f_size)) H → va_D A ((WT G t_h t_q t_ways_49 t_freshWays_49 t_leastTo t_waiting) ++ (WF G f_h f_q f_next f_says f_size)) → va_S A s.heap H locs → lv_has ls 6 [(0, .ref t_h), (1, .ref (f_h k0)), (2, .int v2), (3, .int (if (60 : Int32) < r_1 then (60 : Int32) else r_1)), (4, .int v4_49)] → W p l e rX8_countBelow s m args below meth c H locs 0 0 Q (F0 m 49 ls []) := by
      intro f
      induction f with
      | zero => intro v4_49 t_ways_49 t_freshWays_49 H locs ls h hP hD hS hl; cases (show none = some _ from h)
      | succ f ih =>
        intro v4_49 t_ways_49 t_freshWays_49 H locs ls h hP hD hS hl
        rw [p_X8_countBelow_L49] at h
        refine lv_iload hx hb dX8_countBelow_49 (lv_at hl 4 rfl) ?_
        refine lv_iload_n hx hb dX8_countBelow_51 rfl (lv_at hl 2 rfl) ?_
        refine lv_icmp_ge (tgt := 104) hx hb dX8_countBelow_52 (by decide) (fun c_52 => ?_) (fun c_52 => ?_)
        · replace h := (if_pos c_52).symm.trans h
          exact hX49 _ _  _ _ _ h hP hD hS (lv_sub hl [0] rfl)
        · replace h := (if_neg c_52).symm.trans h
          refine lv_iconst (v := 0) hx hb dX8_countBelow_55 (by decide) ?_
          refine lv_istore (lv' := [(5, .int (0 : Int32)), (0, .ref t_h), (1, .ref (f_h k0)), (2, .int v2), (3, .int (if (60 : Int32) < r_1 then (60 : Int32) else r_1)), (4, .int v4_49)]) hx hb dX8_countBelow_56 hl (by decide) rfl (fun ls hl => ?_)
          obtain ⟨t_freshWays_o58, hT58, h⟩ := ob1_e h
          have hX58 : ∀ (t_freshWays_o58x : AL)  (H : Heap) (locs : List Loc) (ls : Array Slot), some t_freshWays_o58x = some t_freshWays_o58 → va_P G.1 vwCl ((WT G t_h t_q t_ways_49 t_freshWays_o58x t_leastTo t_waiting) ++ (WF G f_h f_q f_next f_says f_size)) H → va_D A ((WT G t_h t_q t_ways_49 t_freshWays_o58x t_leastTo t_waiting) ++ (WF G f_h f_q f_next f_says f_size)) → va_S A s.heap H locs → lv_has ls 6 [(0, .ref t_h), (1, .ref (f_h k0)), (2, .int v2), (3, .int (if (60 : Int32) < r_1 then (60 : Int32) else r_1)), (4, .int v4_49)] → W p l e rX8_countBelow s m args below meth c H locs 0 0 Q (F0 m 84 ls []) := by
            intro t_freshWays_o58x H locs ls hq hP hD hS hl
            obtain rfl := oi1 hq
            refine lv_aload_n hx hb dX8_countBelow_84 rfl (lv_at hl 0 rfl) ?_
            refine va_get (D := G.1) (ci := 8) (v := .ref (t_q 1)) (C := RX8) (T := TX8) (N := 4) hx hb hts hinX8 hown hK.1 hP 0 rfl rfl 1 (by decide) hf15 (fun _ h9 => h9) rfl dX8_countBelow_85 ?_
            refine lv_iconst (v := 0) hx hb dX8_countBelow_88 (by decide) ?_
            refine lv_aload_n hx hb dX8_countBelow_89 rfl (lv_at hl 0 rfl) ?_
            refine va_get (D := G.1) (ci := 8) (v := .ref (t_q 0)) (C := RX8) (T := TX8) (N := 4) hx hb hts hinX8 hown hK.1 hP 0 rfl rfl 0 (by decide) hf9 (fun _ h9 => h9) rfl dX8_countBelow_90 ?_
            refine lv_iconst (v := 0) hx hb dX8_countBelow_93 (by decide) ?_
            refine lv_iload_n hx hb dX8_countBelow_94 rfl (lv_at hl 3 rfl) ?_
            obtain ⟨⟨gA_95, gB_95, gC_95, gD_95, gE_95⟩, h⟩ := gcp_e h
            refine va_copyl hx hb (hml.trans hl.1.symm) hown (hts (.methodLink RX8 45 arraycopyName) (by decide +kernel)) (hts (.native arraycopyName) (by decide +kernel)) (hts (.static arraycopyName) (by decide +kernel)) (hts (.initialized "java/lang/System") (by decide +kernel)) hK.1 hP hD hS 2 1 2 2 rfl rfl rfl rfl rfl gA_95 gB_95 gC_95 gD_95 gE_95 (fun _ _ => rfl) (Nat.le_of_ble_eq_true rfl) (Nat.le_of_ble_eq_true rfl) dX8_countBelow_95 (fun H locs hP hD hS => ?_)
            have hP : va_P G.1 vwCl ((WT G t_h t_q (va_cpy t_freshWays_o58 t_ways_49 (0 : Int32).toNatClampNeg (0 : Int32).toNatClampNeg (if (60 : Int32) < r_1 then (60 : Int32) else r_1).toNatClampNeg) t_freshWays_o58 t_leastTo t_waiting) ++ (WF G f_h f_q f_next f_says f_size)) H := hP
            have hD : va_D A ((WT G t_h t_q (va_cpy t_freshWays_o58 t_ways_49 (0 : Int32).toNatClampNeg (0 : Int32).toNatClampNeg (if (60 : Int32) < r_1 then (60 : Int32) else r_1).toNatClampNeg) t_freshWays_o58 t_leastTo t_waiting) ++ (WF G f_h f_q f_next f_says f_size)) := hD
            refine lv_iinc (v := (v4_49 + (1 : Int32))) (lv' := [(4, .int (v4_49 + (1 : Int32))), (0, .ref t_h), (1, .ref (f_h k0)), (2, .int v2), (3, .int (if (60 : Int32) < r_1 then (60 : Int32) else r_1))]) hx hb dX8_countBelow_98 hl (k := 4) rfl rfl (by decide) rfl (fun ls hl => ?_)
            refine lv_goto (tgt := 49) hx hb dX8_countBelow_101 (by decide) ?_
            exact ih _ _ _  _ _ _ h hP hD hS (lv_sub hl [1, 2, 3, 4, 0] rfl)
          have hL58 : ∀ (f : Nat) (v5_58 : Int32) (t_freshWays_58 : AL)  (H : Heap) (locs : List Loc) (ls : Array Slot), p_X8_countBelow_L58 n r_1 t_ways_49 f_next f_size k0 f v5_58 t_freshWays_58 = some t_freshWays_o58 → va_P G.1 vwCl ((WT G t_h t_q t_ways_49 t_freshWays_58 t_leastTo t_waiting) ++ (WF G f_h f_q f_next f_says f_size)) H → va_D A ((WT G t_h t_q t_ways_49 t_freshWays_58 t_leastTo t_waiting) ++ (WF G f_h f_q f_next f_says f_size)) → va_S A s.heap H locs → lv_has ls 6 [(0, .ref t_h), (1, .ref (f_h k0)), (2, .int v2), (3, .int (if (60 : Int32) < r_1 then (60 : Int32) else r_1)), (4, .int v4_49), (5, .int v5_58)] → W p l e rX8_countBelow s m args below meth c H locs 0 0 Q (F0 m 58 ls []) := by
            intro f
            induction f with
            | zero => intro v5_58 t_freshWays_58 H locs ls h hP hD hS hl; cases (show none = some _ from h)
            | succ f ih =>
              intro v5_58 t_freshWays_58 H locs ls h hP hD hS hl
              rw [p_X8_countBelow_L58] at h
              refine lv_iload hx hb dX8_countBelow_58 (lv_at hl 5 rfl) ?_
              refine lv_iload_n hx hb dX8_countBelow_60 rfl (lv_at hl 3 rfl) ?_
              refine lv_icmp_ge (tgt := 84) hx hb dX8_countBelow_61 (by decide) (fun c_61 => ?_) (fun c_61 => ?_)
              · replace h := (if_pos c_61).symm.trans h
                exact hX58 _  _ _ _ h hP hD hS (lv_sub hl [0, 1, 2, 3, 4] rfl)
              · replace h := (if_neg c_61).symm.trans h
                refine lv_aload_n hx hb dX8_countBelow_64 rfl (lv_at hl 0 rfl) ?_
                refine va_get (D := G.1) (ci := 8) (v := .ref (t_q 1)) (C := RX8) (T := TX8) (N := 4) hx hb hts hinX8 hown hK.1 hP 0 rfl rfl 1 (by decide) hf15 (fun _ h9 => h9) rfl dX8_countBelow_65 ?_
                refine lv_iload hx hb dX8_countBelow_68 (lv_at hl 5 rfl) ?_
                refine lv_aload_n hx hb dX8_countBelow_70 rfl (lv_at hl 0 rfl) ?_
                refine lv_aload_n hx hb dX8_countBelow_71 rfl (lv_at hl 1 rfl) ?_
                refine lv_iload hx hb dX8_countBelow_72 (lv_at hl 5 rfl) ?_
                obtain ⟨r_74, hc_74, h⟩ := ob1_e h
                refine k_sl (va_runV (As := [.ref (f_h k0), .int v5_58]) (rest := [.int v5_58, .ref (t_q 1)]) ⟨hx, hb, hml, hown, hts⟩ (c_X8_waysOn l G n t_h t_q f_h f_q t_ways_49 t_freshWays_58 t_leastTo t_waiting f_next f_says f_size k0 hk0 v5_58 r_74 hc_74) (cwV 2 hts gX8_countBelow_X8_waysOn rfl rfl rfl ⟨rfl, eX8_waysOn⟩ ⟨Nat.le_of_ble_eq_true rfl, Nat.le_of_ble_eq_true rfl⟩) (preSV (ci := 8) (q0 := 0) hK hP rfl rfl) rfl rfl hl.1 rfl (lv_room (Nat.le_of_ble_eq_true rfl)) dX8_countBelow_74 ⟨Nat.le_of_ble_eq_true rfl, Nat.le_of_ble_eq_true rfl⟩) ?_
                obtain ⟨g_77, h⟩ := gi_e h
                refine va_last hx hb hK.1 hP hD hS 2 2 rfl rfl g_77 dX8_countBelow_77 (fun H locs hP hD hS => ?_)
                have hP : va_P G.1 vwCl ((WT G t_h t_q t_ways_49 (vp_updL t_freshWays_58 v5_58.toNatClampNeg r_74) t_leastTo t_waiting) ++ (WF G f_h f_q f_next f_says f_size)) H := hP
                have hD : va_D A ((WT G t_h t_q t_ways_49 (vp_updL t_freshWays_58 v5_58.toNatClampNeg r_74) t_leastTo t_waiting) ++ (WF G f_h f_q f_next f_says f_size)) := hD
                refine lv_iinc (v := (v5_58 + (1 : Int32))) (lv' := [(5, .int (v5_58 + (1 : Int32))), (0, .ref t_h), (1, .ref (f_h k0)), (2, .int v2), (3, .int (if (60 : Int32) < r_1 then (60 : Int32) else r_1)), (4, .int v4_49)]) hx hb dX8_countBelow_78 hl (k := 5) rfl rfl (by decide) rfl (fun ls hl => ?_)
                refine lv_goto (tgt := 58) hx hb dX8_countBelow_81 (by decide) ?_
                exact ih _ _  _ _ _ h hP hD hS (lv_sub hl [1, 2, 3, 4, 5, 0] rfl)
          exact hL58 n _ _  _ _ _ hT58 hP hD hS (lv_sub hl [1, 2, 3, 4, 5, 0] rfl)
    exact hL49 n _ _ _  _ _ _ hT49 hP hD hS (lv_sub hl [1, 2, 3, 4, 0] rfl)
  have hL13 : ∀ (f : Nat) (v4_13 : Int32) (t_ways_13 : AL)  (H : Heap) (locs : List Loc) (ls : Array Slot), p_X8_countBelow_L13 r_1 f_says k0 f_size f v4_13 t_ways_13 = some t_ways_o13 → va_P G.1 vwCl ((WT G t_h t_q t_ways_13 t_freshWays t_leastTo t_waiting) ++ (WF G f_h f_q f_next f_says f_size)) H → va_D A ((WT G t_h t_q t_ways_13 t_freshWays t_leastTo t_waiting) ++ (WF G f_h f_q f_next f_says f_size)) → va_S A s.heap H locs → lv_has ls 6 [(0, .ref t_h), (1, .ref (f_h k0)), (2, .int v2), (3, .int (if (60 : Int32) < r_1 then (60 : Int32) else r_1)), (4, .int v4_13)] → W p l e rX8_countBelow s m args below meth c H locs 0 0 Q (F0 m 13 ls []) := by
    intro f
    induction f with
    | zero => intro v4_13 t_ways_13 H locs ls h hP hD hS hl; cases (show none = some _ from h)
    | succ f ih =>
      intro v4_13 t_ways_13 H locs ls h hP hD hS hl
      rw [p_X8_countBelow_L13] at h
      refine lv_iload hx hb dX8_countBelow_13 (lv_at hl 4 rfl) ?_
      refine lv_iload_n hx hb dX8_countBelow_15 rfl (lv_at hl 3 rfl) ?_
      refine lv_icmp_ge (tgt := 46) hx hb dX8_countBelow_16 (by decide) (fun c_16 => ?_) (fun c_16 => ?_)
      · replace h := (if_pos c_16).symm.trans h
        exact hX13 _  _ _ _ h hP hD hS (lv_sub hl [0, 1, 2, 3] rfl)
      · replace h := (if_neg c_16).symm.trans h
        refine lv_aload_n hx hb dX8_countBelow_19 rfl (lv_at hl 0 rfl) ?_
        refine va_get (D := G.1) (ci := 8) (v := .ref (t_q 0)) (C := RX8) (T := TX8) (N := 4) hx hb hts hinX8 hown hK.1 hP 0 rfl rfl 0 (by decide) hf9 (fun _ h9 => h9) rfl dX8_countBelow_20 ?_
        refine lv_iload hx hb dX8_countBelow_23 (lv_at hl 4 rfl) ?_
        refine lv_aload_n hx hb dX8_countBelow_25 rfl (lv_at hl 1 rfl) ?_
        refine lv_iload hx hb dX8_countBelow_26 (lv_at hl 4 rfl) ?_
        obtain ⟨r_28, hc_28, h⟩ := ob1_e h
        refine k_si (va_runV (As := [.int v4_13]) (rest := [.int v4_13, .ref (t_q 0)]) ⟨hx, hb, hml, hown, hts⟩ (c_X0_saysAt l G (f_h k0) (f_q k0) (f_next k0) (f_says k0) (f_size k0)  v4_13 r_28 hc_28) (cwV 1 hts gX8_countBelow_X0_saysAt rfl rfl rfl ⟨rfl, eX0_saysAt⟩ ⟨Nat.le_of_ble_eq_true rfl, Nat.le_of_ble_eq_true rfl⟩) (preSV (ci := 0) (q0 := 0) hK (famC (hP.sub (ws' := WF G f_h f_q f_next f_says f_size) [5, 6, 7, 8, 9, 10, 11, 12, 13, 14, 15, 16, 17, 18, 19, 20, 21, 22, 23, 24, 25] rfl) k0 hk0) rfl rfl) rfl rfl hl.1 rfl (lv_room (Nat.le_of_ble_eq_true rfl)) dX8_countBelow_28 ⟨Nat.le_of_ble_eq_true rfl, Nat.le_of_ble_eq_true rfl⟩) ?_
        obtain ⟨j0_31, hT31, h⟩ := ob1_e h
        have hJ31 : ∀ (j0_31x : Int64)  (H : Heap) (locs : List Loc) (ls : Array Slot), some j0_31x = some j0_31 → va_P G.1 vwCl ((WT G t_h t_q t_ways_13 t_freshWays t_leastTo t_waiting) ++ (WF G f_h f_q f_next f_says f_size)) H → va_D A ((WT G t_h t_q t_ways_13 t_freshWays t_leastTo t_waiting) ++ (WF G f_h f_q f_next f_says f_size)) → va_S A s.heap H locs → lv_has ls 6 [(0, .ref t_h), (1, .ref (f_h k0)), (2, .int v2), (3, .int (if (60 : Int32) < r_1 then (60 : Int32) else r_1)), (4, .int v4_13)] → W p l e rX8_countBelow s m args below meth c H locs 0 0 Q (F0 m 39 ls [.long j0_31x, .int v4_13, .ref (t_q 0)]) := by
          intro j0_31x H locs ls hq hP hD hS hl
          obtain rfl := oi1 hq
          obtain ⟨g_39, h⟩ := gi_e h
          refine va_last hx hb hK.1 hP hD hS 1 2 rfl rfl g_39 dX8_countBelow_39 (fun H locs hP hD hS => ?_)
          have hP : va_P G.1 vwCl ((WT G t_h t_q (vp_updL t_ways_13 v4_13.toNatClampNeg j0_31) t_freshWays t_leastTo t_waiting) ++ (WF G f_h f_q f_next f_says f_size)) H := hP
          have hD : va_D A ((WT G t_h t_q (vp_updL t_ways_13 v4_13.toNatClampNeg j0_31) t_freshWays t_leastTo t_waiting) ++ (WF G f_h f_q f_next f_says f_size)) := hD
          refine lv_iinc (v := (v4_13 + (1 : Int32))) (lv' := [(4, .int (v4_13 + (1 : Int32))), (0, .ref t_h), (1, .ref (f_h k0)), (2, .int v2), (3, .int (if (60 : Int32) < r_1 then (60 : Int32) else r_1))]) hx hb dX8_countBelow_40 hl (k := 4) rfl rfl (by decide) rfl (fun ls hl => ?_)
          refine lv_goto (tgt := 13) hx hb dX8_countBelow_43 (by decide) ?_
          exact ih _ _  _ _ _ h hP hD hS (lv_sub hl [1, 2, 3, 4, 0] rfl)
        replace h := hT31
        refine lv_if_eq (tgt := 38) hx hb dX8_countBelow_31 (by decide) (fun c_31 => ?_) (fun c_31 => ?_)
        · replace h := (if_pos c_31).symm.trans h
          refine lv_lconst (v := 0) hx hb dX8_countBelow_38 (by decide) ?_
          exact hJ31 _  _ _ _ h hP hD hS (lv_sub hl [0, 1, 2, 3, 4] rfl)
        · replace h := (if_neg c_31).symm.trans h
          refine lv_lconst (v := 1) hx hb dX8_countBelow_34 (by decide) ?_
          refine lv_goto (tgt := 39) hx hb dX8_countBelow_35 (by decide) ?_
          exact hJ31 _  _ _ _ h hP hD hS (lv_sub hl [0, 1, 2, 3, 4] rfl)
  exact hL13 n _ _  _ _ _ hT13 hP hD hS (lv_sub hl [2, 3, 4, 1, 0] rfl)
abbrev rX8_leastOf : Room := { frames := 2, cells := 0, slots := 0, locals := 43 }
set_option maxHeartbeats 4000000 in
set_option maxRecDepth 100000 in
theorem c_X8_leastOf (l : Launch) (G : GG) (n : Nat) (t_h : Nat) (t_q : Nat → Nat) (f_h : Nat → Nat) (f_q : Nat → Nat → Nat) (t_ways : AL) (t_freshWays : AL) (t_leastTo : AL) (t_waiting : AI) (f_next : AF) (f_says : AF) (f_size : AI) (k0 : Nat) (hk0 : k0 < 7) (v2 : Int32) (sz : Nat) (r : Int64) (t_leastTo_z : AL) (t_waiting_z : AI) (h : p_X8_leastOf n t_leastTo t_waiting f_next f_says f_size k0 v2 = some (r, t_leastTo_z, t_waiting_z)) : CL l yX8_leastOf wsX8_leastOf rX8_leastOf G [.ref t_h, .ref (f_h k0), .int v2] ((WT G t_h t_q t_ways t_freshWays t_leastTo t_waiting) ++ (WF G f_h f_q f_next f_says f_size)) sz r (fun u => (WT G t_h t_q t_ways t_freshWays t_leastTo_z t_waiting_z) ++ (WF G f_h f_q f_next f_says f_size)) := by
  refine enterCL (cc := cX8_leastOf) (maxL := 8) (by decide) rfl (Nat.le_of_ble_eq_true rfl) ?_
  intro p e s m args below meth c A Q hx hb hml hown hts hK hP hD hS hA hret ls hl
  have hown : s.vm.findClass RX8 = some m.cls := hown
  have hf18 := hts (.fieldLink RX8 18 "DigitClaims$Teller" "leastTo" "[J") (by decide +kernel)
  have hf21 := hts (.fieldLink RX8 21 "DigitClaims$Teller" "waiting" "[I") (by decide +kernel)
  have hinX8 : ∀ w ∈ wsX80, w ∈ wsX8_leastOf := by decide +kernel
  have hl : lv_has ls 8 [(0, .ref t_h), (1, .ref (f_h k0)), (2, .int v2)] := hl
  unfold p_X8_leastOf at h
  refine lv_aload_n hx hb dX8_leastOf_0 rfl (lv_at hl 0 rfl) ?_
  refine va_get (D := G.1) (ci := 8) (v := .ref (t_q 2)) (C := RX8) (T := TX8) (N := 4) hx hb hts hinX8 hown hK.1 hP 0 rfl rfl 2 (by decide) hf18 (fun _ h9 => h9) rfl dX8_leastOf_1 ?_
  refine lv_ldc2 (v := -1) hx hb hown (hts (.constantLong RX8 54 (-1)) (by decide +kernel)) dX8_leastOf_4 ?_
  obtain ⟨z_arr_7, hc_7, h⟩ := ob1_e h
  refine k_cv (wr := [(t_h, .inr (8, [.ref (t_q 0), .ref (t_q 1), .ref (t_q 2), .ref (t_q 3)])), (t_q 0, .inl (G.2 2, 60, .inr (.inl t_ways))), (t_q 1, .inl (G.2 2, 60, .inr (.inl t_freshWays))), (t_q 3, .inl (G.2 0, 60, .inl t_waiting)), (f_h 0, .inr (0, [.ref (f_q 0 0), .ref (f_q 0 1), .int (f_size 0)])), (f_q 0 0, .inl (G.2 0, 480, .inl (f_next 0))), (f_q 0 1, .inl (G.2 1, 60, .inl (f_says 0))), (f_h 1, .inr (0, [.ref (f_q 1 0), .ref (f_q 1 1), .int (f_size 1)])), (f_q 1 0, .inl (G.2 0, 480, .inl (f_next 1))), (f_q 1 1, .inl (G.2 1, 60, .inl (f_says 1))), (f_h 2, .inr (0, [.ref (f_q 2 0), .ref (f_q 2 1), .int (f_size 2)])), (f_q 2 0, .inl (G.2 0, 480, .inl (f_next 2))), (f_q 2 1, .inl (G.2 1, 60, .inl (f_says 2))), (f_h 3, .inr (0, [.ref (f_q 3 0), .ref (f_q 3 1), .int (f_size 3)])), (f_q 3 0, .inl (G.2 0, 480, .inl (f_next 3))), (f_q 3 1, .inl (G.2 1, 60, .inl (f_says 3))), (f_h 4, .inr (0, [.ref (f_q 4 0), .ref (f_q 4 1), .int (f_size 4)])), (f_q 4 0, .inl (G.2 0, 480, .inl (f_next 4))), (f_q 4 1, .inl (G.2 1, 60, .inl (f_says 4))), (f_h 5, .inr (0, [.ref (f_q 5 0), .ref (f_q 5 1), .int (f_size 5)])), (f_q 5 0, .inl (G.2 0, 480, .inl (f_next 5))), (f_q 5 1, .inl (G.2 1, 60, .inl (f_says 5))), (f_h 6, .inr (0, [.ref (f_q 6 0), .ref (f_q 6 1), .int (f_size 6)])), (f_q 6 0, .inl (G.2 0, 480, .inl (f_next 6))), (f_q 6 1, .inl (G.2 1, 60, .inl (f_says 6)))]) (va_runS (As := [.ref (t_q 2), .long (-1 : Int64)]) (rest := []) ⟨hx, hb, hml, hown, hts⟩ (c_J7_fill_d0a16 l G n (t_q 2) 60 t_leastTo  (-1 : Int64) _ z_arr_7 hc_7) (va_cwS 2 hts gX8_leastOf_J7_fill_d0a16 rfl rfl rfl eJ7_fill_d0a16 ⟨Nat.le_of_ble_eq_true rfl, Nat.le_of_ble_eq_true rfl⟩) (preWS hK (hP.sub (ws' := WB G (t_q 2) 60 t_leastTo) [3] rfl) (hD.sub (ws' := WB G (t_q 2) 60 t_leastTo) [3] (by decide) rfl)) rfl rfl hl.1 rfl (lv_room (Nat.le_of_ble_eq_true rfl)) dX8_leastOf_7 ⟨Nat.le_of_ble_eq_true rfl, Nat.le_of_ble_eq_true rfl⟩) hP hD hS hA [3] [0, 1, 2, 4, 5, 6, 7, 8, 9, 10, 11, 12, 13, 14, 15, 16, 17, 18, 19, 20, 21, 22, 23, 24, 25] rfl rfl (by decide) (by decide) (fun u_7 H locs hP hD hS => ?_)
  have hP := hP.sub (ws' := (WT G t_h t_q t_ways t_freshWays z_arr_7 t_waiting) ++ (WF G f_h f_q f_next f_says f_size)) [0, 1, 2, 25, 3, 4, 5, 6, 7, 8, 9, 10, 11, 12, 13, 14, 15, 16, 17, 18, 19, 20, 21, 22, 23, 24] rfl
  have hD := hD.sub (ws' := (WT G t_h t_q t_ways t_freshWays z_arr_7 t_waiting) ++ (WF G f_h f_q f_next f_says f_size)) [0, 1, 2, 25, 3, 4, 5, 6, 7, 8, 9, 10, 11, 12, 13, 14, 15, 16, 17, 18, 19, 20, 21, 22, 23, 24] (by decide) rfl
  refine lv_aload_n hx hb dX8_leastOf_10 rfl (lv_at hl 0 rfl) ?_
  refine lv_iconst (v := 0) hx hb dX8_leastOf_11 (by decide) ?_
  refine lv_lconst (v := 0) hx hb dX8_leastOf_12 (by decide) ?_
  refine lv_iconst (v := 0) hx hb dX8_leastOf_13 (by decide) ?_
  obtain ⟨r_14, t_leastTo_14, t_waiting_14, hc_14, h⟩ := ob3_e h
  refine k_ci (wr := WF G f_h f_q f_next f_says f_size) (va_runV (As := [.int (0 : Int32), .long (0 : Int64), .int (0 : Int32)]) (rest := []) ⟨hx, hb, hml, hown, hts⟩ (c_X8_comeTo l G t_h t_q t_ways t_freshWays z_arr_7 t_waiting  (0 : Int32) (0 : Int64) (0 : Int32) _ r_14 t_leastTo_14 t_waiting_14 hc_14) (cwV 3 hts gX8_leastOf_X8_comeTo rfl rfl rfl ⟨rfl, eX8_comeTo⟩ ⟨Nat.le_of_ble_eq_true rfl, Nat.le_of_ble_eq_true rfl⟩) (preWV (ci := 8) (q0 := 0) hK (hP.sub (ws' := WT G t_h t_q t_ways t_freshWays z_arr_7 t_waiting) [0, 1, 2, 3, 4] rfl) (hD.sub (ws' := WT G t_h t_q t_ways t_freshWays z_arr_7 t_waiting) [0, 1, 2, 3, 4] (by decide) rfl) rfl rfl) rfl rfl hl.1 rfl (lv_room (Nat.le_of_ble_eq_true rfl)) dX8_leastOf_14 ⟨Nat.le_of_ble_eq_true rfl, Nat.le_of_ble_eq_true rfl⟩) hP hD hS hA [0, 1, 2, 3, 4] [5, 6, 7, 8, 9, 10, 11, 12, 13, 14, 15, 16, 17, 18, 19, 20, 21, 22, 23, 24, 25] rfl rfl (by decide) (by decide) (fun u_14 H locs hP hD hS => ?_)
  have hP := hP.sub (ws' := (WT G t_h t_q t_ways t_freshWays t_leastTo_14 t_waiting_14) ++ (WF G f_h f_q f_next f_says f_size)) [21, 22, 23, 24, 25, 0, 1, 2, 3, 4, 5, 6, 7, 8, 9, 10, 11, 12, 13, 14, 15, 16, 17, 18, 19, 20] rfl
  have hD := hD.sub (ws' := (WT G t_h t_q t_ways t_freshWays t_leastTo_14 t_waiting_14) ++ (WF G f_h f_q f_next f_says f_size)) [21, 22, 23, 24, 25, 0, 1, 2, 3, 4, 5, 6, 7, 8, 9, 10, 11, 12, 13, 14, 15, 16, 17, 18, 19, 20] (by decide) rfl
  refine lv_istore_n (lv' := [(3, .int r_14), (0, .ref t_h), (1, .ref (f_h k0)), (2, .int v2)]) hx hb dX8_leastOf_17 rfl hl (by decide) rfl (fun ls hl => ?_)
  refine lv_iconst (v := 0) hx hb dX8_leastOf_18 (by decide) ?_
  refine lv_istore (lv' := [(4, .int (0 : Int32)), (3, .int r_14), (0, .ref t_h), (1, .ref (f_h k0)), (2, .int v2)]) hx hb dX8_leastOf_19 hl (by decide) rfl (fun ls hl => ?_)
  obtain ⟨o_21, hT21, hd21⟩ := obS2_e h
  have hX21 : ∀ (t_leastTo_o21x : AL) (t_waiting_o21x : AI)  (H : Heap) (locs : List Loc) (ls : Array Slot), some (Sum.inr (t_leastTo_o21x, t_waiting_o21x)) = some o_21 → va_P G.1 vwCl ((WT G t_h t_q t_ways t_freshWays t_leastTo_o21x t_waiting_o21x) ++ (WF G f_h f_q f_next f_says f_size)) H → va_D A ((WT G t_h t_q t_ways t_freshWays t_leastTo_o21x t_waiting_o21x) ++ (WF G f_h f_q f_next f_says f_size)) → va_S A s.heap H locs → lv_has ls 8 [] → W p l e rX8_leastOf s m args below meth c H locs 0 0 Q (F0 m 111 ls []) := by
    intro t_leastTo_o21x t_waiting_o21x H locs ls hq hP hD hS hl
    rcases hd21 with ⟨x, hx1, h⟩ | ⟨t_leastTo_o21, t_waiting_o21, hx1, h⟩
    · rw [hx1] at hq; cases hq
    rw [hx1] at hq
    obtain ⟨rfl, rfl⟩ := oiS2 hq
    refine lv_ldc2 (v := -9) hx hb hown (hts (.constantLong RX8 72 (-9)) (by decide +kernel)) dX8_leastOf_111 ?_
    obtain ⟨rfl, rfl, rfl⟩ := oi3 h
    exact hret (fun _ => 0) _ _ _ _ _ _ _ dX8_leastOf_114 rfl hP hD hS (Nat.le_of_ble_eq_true rfl) (Nat.le_of_ble_eq_true rfl)
  have hL21 : ∀ (f : Nat) (v3_21 : Int32) (v4_21 : Int32) (t_leastTo_21 : AL) (t_waiting_21 : AI)  (H : Heap) (locs : List Loc) (ls : Array Slot), p_X8_leastOf_L21 f_says k0 f_size f_next v2 f v3_21 v4_21 t_leastTo_21 t_waiting_21 = some o_21 → va_P G.1 vwCl ((WT G t_h t_q t_ways t_freshWays t_leastTo_21 t_waiting_21) ++ (WF G f_h f_q f_next f_says f_size)) H → va_D A ((WT G t_h t_q t_ways t_freshWays t_leastTo_21 t_waiting_21) ++ (WF G f_h f_q f_next f_says f_size)) → va_S A s.heap H locs → lv_has ls 8 [(0, .ref t_h), (1, .ref (f_h k0)), (2, .int v2), (3, .int v3_21), (4, .int v4_21)] → W p l e rX8_leastOf s m args below meth c H locs 0 0 Q (F0 m 21 ls []) := by
    intro f
    induction f with
    | zero => intro v3_21 v4_21 t_leastTo_21 t_waiting_21 H locs ls h hP hD hS hl; cases (show none = some _ from h)
    | succ f ih =>
      intro v3_21 v4_21 t_leastTo_21 t_waiting_21 H locs ls h hP hD hS hl
      rw [p_X8_leastOf_L21] at h
      refine lv_iload hx hb dX8_leastOf_21 (lv_at hl 4 rfl) ?_
      refine lv_iload_n hx hb dX8_leastOf_23 rfl (lv_at hl 3 rfl) ?_
      refine lv_icmp_ge (tgt := 111) hx hb dX8_leastOf_24 (by decide) (fun c_24 => ?_) (fun c_24 => ?_)
      · replace h := (if_pos c_24).symm.trans h
        exact hX21 _ _  _ _ _ h hP hD hS (lv_sub hl [] rfl)
      · replace h := (if_neg c_24).symm.trans h
        refine lv_iload hx hb dX8_leastOf_27 (lv_at hl 4 rfl) ?_
        refine lv_bipush (v := 60) hx hb dX8_leastOf_29 (by decide) ?_
        refine lv_icmp_ge (tgt := 111) hx hb dX8_leastOf_31 (by decide) (fun c_31 => ?_) (fun c_31 => ?_)
        · replace h := (if_pos c_31).symm.trans h
          exact hX21 _ _  _ _ _ h hP hD hS (lv_sub hl [] rfl)
        · replace h := (if_neg c_31).symm.trans h
          refine lv_aload_n hx hb dX8_leastOf_34 rfl (lv_at hl 0 rfl) ?_
          refine va_get (D := G.1) (ci := 8) (v := .ref (t_q 3)) (C := RX8) (T := TX8) (N := 4) hx hb hts hinX8 hown hK.1 hP 0 rfl rfl 3 (by decide) hf21 (fun _ h9 => h9) rfl dX8_leastOf_35 ?_
          refine lv_iload hx hb dX8_leastOf_38 (lv_at hl 4 rfl) ?_
          obtain ⟨g_40, h⟩ := gi_e h
          refine va_iald hx hb hK.1 hP 4 0 rfl rfl g_40 dX8_leastOf_40 ?_
          refine lv_istore (lv' := [(5, .int (t_waiting_21 v4_21.toNatClampNeg)), (0, .ref t_h), (1, .ref (f_h k0)), (2, .int v2), (3, .int v3_21), (4, .int v4_21)]) hx hb dX8_leastOf_41 hl (by decide) rfl (fun ls hl => ?_)
          refine lv_aload_n hx hb dX8_leastOf_43 rfl (lv_at hl 1 rfl) ?_
          refine lv_iload hx hb dX8_leastOf_44 (lv_at hl 0 rfl) ?_
          obtain ⟨r_46, hc_46, h⟩ := ob1_e h
          refine k_sl (va_runV (As := [.int (t_waiting_21 v4_21.toNatClampNeg)]) (rest := []) ⟨hx, hb, hml, hown, hts⟩ (c_X8_leastNumberTo l G t_h t_q t_ways t_freshWays t_leastTo_21 t_waiting_21  (t_waiting_21 v4_21.toNatClampNeg) r_46 hc_46) (cwV 1 hts gX8_leastOf_X8_leastNumberTo rfl rfl rfl ⟨rfl, eX8_leastNumberTo⟩ ⟨Nat.le_of_ble_eq_true rfl, Nat.le_of_ble_eq_true rfl⟩) (preSV (ci := 8) (q0 := 0) hK (hP.sub (ws' := WT G t_h t_q t_ways t_freshWays t_leastTo_21 t_waiting_21) [0, 1, 2, 3, 4] rfl) rfl rfl) rfl rfl hl.1 rfl (lv_room (Nat.le_of_ble_eq_true rfl)) dX8_leastOf_46 ⟨Nat.le_of_ble_eq_true rfl, Nat.le_of_ble_eq_true rfl⟩) ?_
          refine lv_lstore (lv' := [(6, .long r_46), (5, .int (t_waiting_21 v4_21.toNatClampNeg)), (0, .ref t_h), (1, .ref (f_h k0)), (2, .int v2), (3, .int v3_21), (4, .int v4_21)]) hx hb dX8_leastOf_49 hl (by decide) rfl (fun ls hl => ?_)
          refine lv_aload_n hx hb dX8_leastOf_51 rfl (lv_at hl 3 rfl) ?_
          refine lv_iload hx hb dX8_leastOf_52 (lv_at hl 1 rfl) ?_
          obtain ⟨r_54, hc_54, h⟩ := ob1_e h
          refine k_si (va_runV (As := [.int (t_waiting_21 v4_21.toNatClampNeg)]) (rest := []) ⟨hx, hb, hml, hown, hts⟩ (c_X0_saysAt l G (f_h k0) (f_q k0) (f_next k0) (f_says k0) (f_size k0)  (t_waiting_21 v4_21.toNatClampNeg) r_54 hc_54) (cwV 1 hts gX8_leastOf_X0_saysAt rfl rfl rfl ⟨rfl, eX0_saysAt⟩ ⟨Nat.le_of_ble_eq_true rfl, Nat.le_of_ble_eq_true rfl⟩) (preSV (ci := 0) (q0 := 0) hK (famC (hP.sub (ws' := WF G f_h f_q f_next f_says f_size) [5, 6, 7, 8, 9, 10, 11, 12, 13, 14, 15, 16, 17, 18, 19, 20, 21, 22, 23, 24, 25] rfl) k0 hk0) rfl rfl) rfl rfl hl.1 rfl (lv_room (Nat.le_of_ble_eq_true rfl)) dX8_leastOf_54 ⟨Nat.le_of_ble_eq_true rfl, Nat.le_of_ble_eq_true rfl⟩) ?_
          refine lv_if_eq (tgt := 63) hx hb dX8_leastOf_57 (by decide) (fun c_57 => ?_) (fun c_57 => ?_)
          · replace h := (if_pos c_57).symm.trans h
            refine lv_aload_n hx hb dX8_leastOf_63 rfl (lv_at hl 2 rfl) ?_
            refine lv_aload_n hx hb dX8_leastOf_64 rfl (lv_at hl 3 rfl) ?_
            refine lv_iload hx hb dX8_leastOf_65 (lv_at hl 1 rfl) ?_
            refine lv_iconst (v := 0) hx hb dX8_leastOf_67 (by decide) ?_
            obtain ⟨r_68, hc_68, h⟩ := ob1_e h
            refine k_si (va_runV (As := [.int (t_waiting_21 v4_21.toNatClampNeg), .int (0 : Int32)]) (rest := [.ref t_h]) ⟨hx, hb, hml, hown, hts⟩ (c_X0_after l G (f_h k0) (f_q k0) (f_next k0) (f_says k0) (f_size k0)  (t_waiting_21 v4_21.toNatClampNeg) (0 : Int32) r_68 hc_68) (cwV 2 hts gX8_leastOf_X0_after rfl rfl rfl ⟨rfl, eX0_after⟩ ⟨Nat.le_of_ble_eq_true rfl, Nat.le_of_ble_eq_true rfl⟩) (preSV (ci := 0) (q0 := 0) hK (famC (hP.sub (ws' := WF G f_h f_q f_next f_says f_size) [5, 6, 7, 8, 9, 10, 11, 12, 13, 14, 15, 16, 17, 18, 19, 20, 21, 22, 23, 24, 25] rfl) k0 hk0) rfl rfl) rfl rfl hl.1 rfl (lv_room (Nat.le_of_ble_eq_true rfl)) dX8_leastOf_68 ⟨Nat.le_of_ble_eq_true rfl, Nat.le_of_ble_eq_true rfl⟩) ?_
            refine lv_ldc2 (v := 2) hx hb hown (hts (.constantLong RX8 70 (2)) (by decide +kernel)) dX8_leastOf_71 ?_
            refine lv_lload hx hb dX8_leastOf_74 (lv_at hl 0 rfl) ?_
            refine lv_lmul hx hb dX8_leastOf_76 ?_
            refine lv_iload_n hx hb dX8_leastOf_77 rfl (lv_at hl 5 rfl) ?_
            obtain ⟨r_78, t_leastTo_78, t_waiting_78, hc_78, h⟩ := ob3_e h
            refine k_ci (wr := WF G f_h f_q f_next f_says f_size) (va_runV (As := [.int r_68, .long ((2 : Int64) * r_46), .int v3_21]) (rest := []) ⟨hx, hb, hml, hown, hts⟩ (c_X8_comeTo l G t_h t_q t_ways t_freshWays t_leastTo_21 t_waiting_21  r_68 ((2 : Int64) * r_46) v3_21 _ r_78 t_leastTo_78 t_waiting_78 hc_78) (cwV 3 hts gX8_leastOf_X8_comeTo rfl rfl rfl ⟨rfl, eX8_comeTo⟩ ⟨Nat.le_of_ble_eq_true rfl, Nat.le_of_ble_eq_true rfl⟩) (preWV (ci := 8) (q0 := 0) hK (hP.sub (ws' := WT G t_h t_q t_ways t_freshWays t_leastTo_21 t_waiting_21) [0, 1, 2, 3, 4] rfl) (hD.sub (ws' := WT G t_h t_q t_ways t_freshWays t_leastTo_21 t_waiting_21) [0, 1, 2, 3, 4] (by decide) rfl) rfl rfl) rfl rfl hl.1 rfl (lv_room (Nat.le_of_ble_eq_true rfl)) dX8_leastOf_78 ⟨Nat.le_of_ble_eq_true rfl, Nat.le_of_ble_eq_true rfl⟩) hP hD hS hA [0, 1, 2, 3, 4] [5, 6, 7, 8, 9, 10, 11, 12, 13, 14, 15, 16, 17, 18, 19, 20, 21, 22, 23, 24, 25] rfl rfl (by decide) (by decide) (fun u_78 H locs hP hD hS => ?_)
            have hP := hP.sub (ws' := (WT G t_h t_q t_ways t_freshWays t_leastTo_78 t_waiting_78) ++ (WF G f_h f_q f_next f_says f_size)) [21, 22, 23, 24, 25, 0, 1, 2, 3, 4, 5, 6, 7, 8, 9, 10, 11, 12, 13, 14, 15, 16, 17, 18, 19, 20] rfl
            have hD := hD.sub (ws' := (WT G t_h t_q t_ways t_freshWays t_leastTo_78 t_waiting_78) ++ (WF G f_h f_q f_next f_says f_size)) [21, 22, 23, 24, 25, 0, 1, 2, 3, 4, 5, 6, 7, 8, 9, 10, 11, 12, 13, 14, 15, 16, 17, 18, 19, 20] (by decide) rfl
            refine lv_istore_n (lv' := [(3, .int r_78), (6, .long r_46), (5, .int (t_waiting_21 v4_21.toNatClampNeg)), (0, .ref t_h), (1, .ref (f_h k0)), (2, .int v2), (4, .int v4_21)]) hx hb dX8_leastOf_81 rfl hl (by decide) rfl (fun ls hl => ?_)
            refine lv_aload_n hx hb dX8_leastOf_82 rfl (lv_at hl 3 rfl) ?_
            refine lv_aload_n hx hb dX8_leastOf_83 rfl (lv_at hl 4 rfl) ?_
            refine lv_iload hx hb dX8_leastOf_84 (lv_at hl 2 rfl) ?_
            refine lv_iconst (v := 1) hx hb dX8_leastOf_86 (by decide) ?_
            refine lv_iload_n hx hb dX8_leastOf_87 rfl (lv_at hl 5 rfl) ?_
            refine lv_ishl hx hb dX8_leastOf_88 ?_
            obtain ⟨r_89, hc_89, h⟩ := ob1_e h
            refine k_si (va_runV (As := [.int (t_waiting_21 v4_21.toNatClampNeg), .int ((1 : Int32) <<< (v2 &&& (31 : Int32)))]) (rest := [.ref t_h]) ⟨hx, hb, hml, hown, hts⟩ (c_X0_after l G (f_h k0) (f_q k0) (f_next k0) (f_says k0) (f_size k0)  (t_waiting_21 v4_21.toNatClampNeg) ((1 : Int32) <<< (v2 &&& (31 : Int32))) r_89 hc_89) (cwV 2 hts gX8_leastOf_X0_after rfl rfl rfl ⟨rfl, eX0_after⟩ ⟨Nat.le_of_ble_eq_true rfl, Nat.le_of_ble_eq_true rfl⟩) (preSV (ci := 0) (q0 := 0) hK (famC (hP.sub (ws' := WF G f_h f_q f_next f_says f_size) [5, 6, 7, 8, 9, 10, 11, 12, 13, 14, 15, 16, 17, 18, 19, 20, 21, 22, 23, 24, 25] rfl) k0 hk0) rfl rfl) rfl rfl hl.1 rfl (lv_room (Nat.le_of_ble_eq_true rfl)) dX8_leastOf_89 ⟨Nat.le_of_ble_eq_true rfl, Nat.le_of_ble_eq_true rfl⟩) ?_
            refine lv_ldc2 (v := 2) hx hb hown (hts (.constantLong RX8 70 (2)) (by decide +kernel)) dX8_leastOf_92 ?_
            refine lv_lload hx hb dX8_leastOf_95 (lv_at hl 1 rfl) ?_
            refine lv_lmul hx hb dX8_leastOf_97 ?_
            refine lv_lconst (v := 1) hx hb dX8_leastOf_98 (by decide) ?_
            refine lv_ladd hx hb dX8_leastOf_99 ?_
            refine lv_iload_n hx hb dX8_leastOf_100 rfl (lv_at hl 0 rfl) ?_
            obtain ⟨r_101, t_leastTo_101, t_waiting_101, hc_101, h⟩ := ob3_e h
            refine k_ci (wr := WF G f_h f_q f_next f_says f_size) (va_runV (As := [.int r_89, .long (((2 : Int64) * r_46) + (1 : Int64)), .int r_78]) (rest := []) ⟨hx, hb, hml, hown, hts⟩ (c_X8_comeTo l G t_h t_q t_ways t_freshWays t_leastTo_78 t_waiting_78  r_89 (((2 : Int64) * r_46) + (1 : Int64)) r_78 _ r_101 t_leastTo_101 t_waiting_101 hc_101) (cwV 3 hts gX8_leastOf_X8_comeTo rfl rfl rfl ⟨rfl, eX8_comeTo⟩ ⟨Nat.le_of_ble_eq_true rfl, Nat.le_of_ble_eq_true rfl⟩) (preWV (ci := 8) (q0 := 0) hK (hP.sub (ws' := WT G t_h t_q t_ways t_freshWays t_leastTo_78 t_waiting_78) [0, 1, 2, 3, 4] rfl) (hD.sub (ws' := WT G t_h t_q t_ways t_freshWays t_leastTo_78 t_waiting_78) [0, 1, 2, 3, 4] (by decide) rfl) rfl rfl) rfl rfl hl.1 rfl (lv_room (Nat.le_of_ble_eq_true rfl)) dX8_leastOf_101 ⟨Nat.le_of_ble_eq_true rfl, Nat.le_of_ble_eq_true rfl⟩) hP hD hS hA [0, 1, 2, 3, 4] [5, 6, 7, 8, 9, 10, 11, 12, 13, 14, 15, 16, 17, 18, 19, 20, 21, 22, 23, 24, 25] rfl rfl (by decide) (by decide) (fun u_101 H locs hP hD hS => ?_)
            have hP := hP.sub (ws' := (WT G t_h t_q t_ways t_freshWays t_leastTo_101 t_waiting_101) ++ (WF G f_h f_q f_next f_says f_size)) [21, 22, 23, 24, 25, 0, 1, 2, 3, 4, 5, 6, 7, 8, 9, 10, 11, 12, 13, 14, 15, 16, 17, 18, 19, 20] rfl
            have hD := hD.sub (ws' := (WT G t_h t_q t_ways t_freshWays t_leastTo_101 t_waiting_101) ++ (WF G f_h f_q f_next f_says f_size)) [21, 22, 23, 24, 25, 0, 1, 2, 3, 4, 5, 6, 7, 8, 9, 10, 11, 12, 13, 14, 15, 16, 17, 18, 19, 20] (by decide) rfl
            refine lv_istore_n (lv' := [(3, .int r_101), (6, .long r_46), (5, .int (t_waiting_21 v4_21.toNatClampNeg)), (0, .ref t_h), (1, .ref (f_h k0)), (2, .int v2), (4, .int v4_21)]) hx hb dX8_leastOf_104 rfl hl (by decide) rfl (fun ls hl => ?_)
            refine lv_iinc (v := (v4_21 + (1 : Int32))) (lv' := [(4, .int (v4_21 + (1 : Int32))), (3, .int r_101), (6, .long r_46), (5, .int (t_waiting_21 v4_21.toNatClampNeg)), (0, .ref t_h), (1, .ref (f_h k0)), (2, .int v2)]) hx hb dX8_leastOf_105 hl (k := 6) rfl rfl (by decide) rfl (fun ls hl => ?_)
            refine lv_goto (tgt := 21) hx hb dX8_leastOf_108 (by decide) ?_
            exact ih _ _ _ _  _ _ _ h hP hD hS (lv_sub hl [4, 5, 6, 1, 0] rfl)
          · replace h := (if_neg c_57).symm.trans h
            refine lv_lload hx hb dX8_leastOf_60 (lv_at hl 0 rfl) ?_
            rcases hd21 with ⟨x, hx1, h2⟩ | ⟨_, _, hx1, _⟩
            · rw [hx1] at h
              have hx2 := oiL h
              rw [hx2] at h2
              replace h := h2
              obtain ⟨rfl, rfl, rfl⟩ := oi3 h
              exact hret (fun _ => 0) _ _ _ _ _ _ _ dX8_leastOf_62 rfl hP hD hS (Nat.le_of_ble_eq_true rfl) (Nat.le_of_ble_eq_true rfl)
            · rw [hx1] at h; cases h
  exact hL21 n _ _ _ _  _ _ _ hT21 hP hD hS (lv_sub hl [2, 3, 4, 1, 0] rfl)
