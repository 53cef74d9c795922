abbrev rX10_within : Room := { frames := 0, cells := 0, slots := 0, locals := 0 }
set_option maxHeartbeats 4000000 in
set_option maxRecDepth 100000 in
theorem c_X10_within (l : Launch) (G : GG)   (v0 : Int32) (v1 : Int32) (v2 : Int32) (r : Int32) (h : p_X10_within v0 v1 v2 = some r) : SI l yX10_within wsX10_within rX10_within G [.int v0, .int v1, .int v2] (([] : va_W)) r := by
  refine enterSI (cc := cX10_within) (maxL := 3) (by decide) rfl (Nat.le_of_ble_eq_true rfl) ?_
  intro p e s m args below meth c Q hx hb hml hown hts hK hP hret ls hl
  have hown : s.vm.findClass RX10 = some m.cls := hown
  have hl : lv_has ls 3 [(0, .int v0), (1, .int v1), (2, .int v2)] := hl
  unfold p_X10_within at h
  refine lv_iload_n hx hb dX10_within_0 rfl (lv_at hl 0 rfl) ?_
  refine lv_iload_n hx hb dX10_within_1 rfl (lv_at hl 1 rfl) ?_
  refine lv_icmp_lt (tgt := 14) hx hb dX10_within_2 (by decide) (fun c_2 => ?_) (fun c_2 => ?_)
  · replace h := (if_pos c_2).symm.trans h
    refine lv_iconst (v := 0) hx hb dX10_within_14 (by decide) ?_
    obtain ⟨gbv, h⟩ := gb_e h
    obtain rfl := oi1 h
    exact hret _ _ _ dX10_within_15 rfl (nb gbv)
  · replace h := (if_neg c_2).symm.trans h
    refine lv_iload_n hx hb dX10_within_5 rfl (lv_at hl 0 rfl) ?_
    refine lv_iload_n hx hb dX10_within_6 rfl (lv_at hl 2 rfl) ?_
    refine lv_icmp_gt (tgt := 14) hx hb dX10_within_7 (by decide) (fun c_7 => ?_) (fun c_7 => ?_)
    · replace h := (if_pos c_7).symm.trans h
      refine lv_iconst (v := 0) hx hb dX10_within_14 (by decide) ?_
      obtain ⟨gbv, h⟩ := gb_e h
      obtain rfl := oi1 h
      exact hret _ _ _ dX10_within_15 rfl (nb gbv)
    · replace h := (if_neg c_7).symm.trans h
      refine lv_iconst (v := 1) hx hb dX10_within_10 (by decide) ?_
      refine lv_goto (tgt := 15) hx hb dX10_within_11 (by decide) ?_
      obtain ⟨gbv, h⟩ := gb_e h
      obtain rfl := oi1 h
      exact hret _ _ _ dX10_within_15 rfl (nb gbv)
abbrev rX10_isClaim : Room := { frames := 1, cells := 0, slots := 0, locals := 22 }
set_option maxHeartbeats 4000000 in
set_option maxRecDepth 100000 in
theorem c_X10_isClaim (l : Launch) (G : GG)   (v0 : Int32) (r : Int32) (h : p_X10_isClaim v0 = some r) : SI l yX10_isClaim wsX10_isClaim rX10_isClaim G [.int v0] (([] : va_W)) r := by
  refine enterSI (cc := cX10_isClaim) (maxL := 1) (by decide) rfl (Nat.le_of_ble_eq_true rfl) ?_
  intro p e s m args below meth c Q hx hb hml hown hts hK hP hret ls hl
  have hown : s.vm.findClass RX10 = some m.cls := hown
  have hl : lv_has ls 1 [(0, .int v0)] := hl
  unfold p_X10_isClaim at h
  refine lv_iload_n hx hb dX10_isClaim_0 rfl (lv_at hl 0 rfl) ?_
  refine lv_iconst (v := 0) hx hb dX10_isClaim_1 (by decide) ?_
  refine lv_iconst (v := 5) hx hb dX10_isClaim_2 (by decide) ?_
  obtain ⟨r_3, hc_3, h⟩ := ob1_e h
  refine k_si (va_runS (As := [.int v0, .int (0 : Int32), .int (5 : Int32)]) (rest := []) ⟨hx, hb, hml, hown, hts⟩ (c_X10_within l G   v0 (0 : Int32) (5 : Int32) r_3 hc_3) (va_cwS 3 hts gX10_isClaim_X10_within rfl rfl rfl eX10_within ⟨Nat.le_of_ble_eq_true rfl, Nat.le_of_ble_eq_true rfl⟩) (preSS hK (fun k q h => by cases h)) rfl rfl hl.1 rfl (lv_room (Nat.le_of_ble_eq_true rfl)) dX10_isClaim_3 ⟨Nat.le_of_ble_eq_true rfl, Nat.le_of_ble_eq_true rfl⟩) ?_
  obtain ⟨gbv, h⟩ := gb_e h
  obtain rfl := oi1 h
  exact hret _ _ _ dX10_isClaim_6 rfl (nb gbv)
abbrev rX10_isNumber : Room := { frames := 1, cells := 0, slots := 0, locals := 22 }
set_option maxHeartbeats 4000000 in
set_option maxRecDepth 100000 in
theorem c_X10_isNumber (l : Launch) (G : GG)   (v0 : Int32) (r : Int32) (h : p_X10_isNumber v0 = some r) : SI l yX10_isNumber wsX10_isNumber rX10_isNumber G [.int v0] (([] : va_W)) r := by
  refine enterSI (cc := cX10_isNumber) (maxL := 1) (by decide) rfl (Nat.le_of_ble_eq_true rfl) ?_
  intro p e s m args below meth c Q hx hb hml hown hts hK hP hret ls hl
  have hown : s.vm.findClass RX10 = some m.cls := hown
  have hl : lv_has ls 1 [(0, .int v0)] := hl
  unfold p_X10_isNumber at h
  refine lv_iload_n hx hb dX10_isNumber_0 rfl (lv_at hl 0 rfl) ?_
  refine lv_iconst (v := 0) hx hb dX10_isNumber_1 (by decide) ?_
  refine lv_iconst (v := 2) hx hb dX10_isNumber_2 (by decide) ?_
  obtain ⟨r_3, hc_3, h⟩ := ob1_e h
  refine k_si (va_runS (As := [.int v0, .int (0 : Int32), .int (2 : Int32)]) (rest := []) ⟨hx, hb, hml, hown, hts⟩ (c_X10_within l G   v0 (0 : Int32) (2 : Int32) r_3 hc_3) (va_cwS 3 hts gX10_isNumber_X10_within rfl rfl rfl eX10_within ⟨Nat.le_of_ble_eq_true rfl, Nat.le_of_ble_eq_true rfl⟩) (preSS hK (fun k q h => by cases h)) rfl rfl hl.1 rfl (lv_room (Nat.le_of_ble_eq_true rfl)) dX10_isNumber_3 ⟨Nat.le_of_ble_eq_true rfl, Nat.le_of_ble_eq_true rfl⟩) ?_
  obtain ⟨gbv, h⟩ := gb_e h
  obtain rfl := oi1 h
  exact hret _ _ _ dX10_isNumber_6 rfl (nb gbv)
abbrev rX10_areTwo : Room := { frames := 2, cells := 0, slots := 0, locals := 42 }
set_option maxHeartbeats 4000000 in
set_option maxRecDepth 100000 in
theorem c_X10_areTwo (l : Launch) (G : GG)   (v0 : Int32) (v1 : Int32) (r : Int32) (h : p_X10_areTwo v0 v1 = some r) : SI l yX10_areTwo wsX10_areTwo rX10_areTwo G [.int v0, .int v1] (([] : va_W)) r := by
  refine enterSI (cc := cX10_areTwo) (maxL := 2) (by decide) rfl (Nat.le_of_ble_eq_true rfl) ?_
  intro p e s m args below meth c Q hx hb hml hown hts hK hP hret ls hl
  have hown : s.vm.findClass RX10 = some m.cls := hown
  have hl : lv_has ls 2 [(0, .int v0), (1, .int v1)] := hl
  unfold p_X10_areTwo at h
  refine lv_iload_n hx hb dX10_areTwo_0 rfl (lv_at hl 0 rfl) ?_
  obtain ⟨r_1, hc_1, h⟩ := ob1_e h
  refine k_si (va_runS (As := [.int v0]) (rest := []) ⟨hx, hb, hml, hown, hts⟩ (c_X10_isNumber l G   v0 r_1 hc_1) (va_cwS 1 hts gX10_areTwo_X10_isNumber rfl rfl rfl eX10_isNumber ⟨Nat.le_of_ble_eq_true rfl, Nat.le_of_ble_eq_true rfl⟩) (preSS hK (fun k q h => by cases h)) rfl rfl hl.1 rfl (lv_room (Nat.le_of_ble_eq_true rfl)) dX10_areTwo_1 ⟨Nat.le_of_ble_eq_true rfl, Nat.le_of_ble_eq_true rfl⟩) ?_
  refine lv_if_eq (tgt := 23) hx hb dX10_areTwo_4 (by decide) (fun c_4 => ?_) (fun c_4 => ?_)
  · replace h := (if_pos c_4).symm.trans h
    refine lv_iconst (v := 0) hx hb dX10_areTwo_23 (by decide) ?_
    obtain ⟨gbv, h⟩ := gb_e h
    obtain rfl := oi1 h
    exact hret _ _ _ dX10_areTwo_24 rfl (nb gbv)
  · replace h := (if_neg c_4).symm.trans h
    refine lv_iload_n hx hb dX10_areTwo_7 rfl (lv_at hl 1 rfl) ?_
    obtain ⟨r_8, hc_8, h⟩ := ob1_e h
    refine k_si (va_runS (As := [.int v1]) (rest := []) ⟨hx, hb, hml, hown, hts⟩ (c_X10_isNumber l G   v1 r_8 hc_8) (va_cwS 1 hts gX10_areTwo_X10_isNumber rfl rfl rfl eX10_isNumber ⟨Nat.le_of_ble_eq_true rfl, Nat.le_of_ble_eq_true rfl⟩) (preSS hK (fun k q h => by cases h)) rfl rfl hl.1 rfl (lv_room (Nat.le_of_ble_eq_true rfl)) dX10_areTwo_8 ⟨Nat.le_of_ble_eq_true rfl, Nat.le_of_ble_eq_true rfl⟩) ?_
    refine lv_if_eq (tgt := 23) hx hb dX10_areTwo_11 (by decide) (fun c_11 => ?_) (fun c_11 => ?_)
    · replace h := (if_pos c_11).symm.trans h
      refine lv_iconst (v := 0) hx hb dX10_areTwo_23 (by decide) ?_
      obtain ⟨gbv, h⟩ := gb_e h
      obtain rfl := oi1 h
      exact hret _ _ _ dX10_areTwo_24 rfl (nb gbv)
    · replace h := (if_neg c_11).symm.trans h
      refine lv_iload_n hx hb dX10_areTwo_14 rfl (lv_at hl 0 rfl) ?_
      refine lv_iload_n hx hb dX10_areTwo_15 rfl (lv_at hl 1 rfl) ?_
      refine lv_icmp_eq (tgt := 23) hx hb dX10_areTwo_16 (by decide) (fun c_16 => ?_) (fun c_16 => ?_)
      · replace h := (if_pos c_16).symm.trans h
        refine lv_iconst (v := 0) hx hb dX10_areTwo_23 (by decide) ?_
        obtain ⟨gbv, h⟩ := gb_e h
        obtain rfl := oi1 h
        exact hret _ _ _ dX10_areTwo_24 rfl (nb gbv)
      · replace h := (if_neg c_16).symm.trans h
        refine lv_iconst (v := 1) hx hb dX10_areTwo_19 (by decide) ?_
        refine lv_goto (tgt := 24) hx hb dX10_areTwo_20 (by decide) ?_
        obtain ⟨gbv, h⟩ := gb_e h
        obtain rfl := oi1 h
        exact hret _ _ _ dX10_areTwo_24 rfl (nb gbv)
abbrev rX10_isPlace : Room := { frames := 1, cells := 0, slots := 0, locals := 22 }
set_option maxHeartbeats 4000000 in
set_option maxRecDepth 100000 in
theorem c_X10_isPlace (l : Launch) (G : GG)   (v0 : Int32) (r : Int32) (h : p_X10_isPlace v0 = some r) : SI l yX10_isPlace wsX10_isPlace rX10_isPlace G [.int v0] (([] : va_W)) r := by
  refine enterSI (cc := cX10_isPlace) (maxL := 1) (by decide) rfl (Nat.le_of_ble_eq_true rfl) ?_
  intro p e s m args below meth c Q hx hb hml hown hts hK hP hret ls hl
  have hown : s.vm.findClass RX10 = some m.cls := hown
  have hl : lv_has ls 1 [(0, .int v0)] := hl
  unfold p_X10_isPlace at h
  refine lv_iload_n hx hb dX10_isPlace_0 rfl (lv_at hl 0 rfl) ?_
  refine lv_iconst (v := 0) hx hb dX10_isPlace_1 (by decide) ?_
  refine lv_iconst (v := 4) hx hb dX10_isPlace_2 (by decide) ?_
  obtain ⟨r_3, hc_3, h⟩ := ob1_e h
  refine k_si (va_runS (As := [.int v0, .int (0 : Int32), .int (4 : Int32)]) (rest := []) ⟨hx, hb, hml, hown, hts⟩ (c_X10_within l G   v0 (0 : Int32) (4 : Int32) r_3 hc_3) (va_cwS 3 hts gX10_isPlace_X10_within rfl rfl rfl eX10_within ⟨Nat.le_of_ble_eq_true rfl, Nat.le_of_ble_eq_true rfl⟩) (preSS hK (fun k q h => by cases h)) rfl rfl hl.1 rfl (lv_room (Nat.le_of_ble_eq_true rfl)) dX10_isPlace_3 ⟨Nat.le_of_ble_eq_true rfl, Nat.le_of_ble_eq_true rfl⟩) ?_
  obtain ⟨gbv, h⟩ := gb_e h
  obtain rfl := oi1 h
  exact hret _ _ _ dX10_isPlace_6 rfl (nb gbv)
abbrev rX10_place : Room := { frames := 2, cells := 0, slots := 0, locals := 42 }
set_option maxHeartbeats 4000000 in
set_option maxRecDepth 100000 in
theorem c_X10_place (l : Launch) (G : GG) (m_h : Nat) (m_q : Nat → Nat) (m_onBy : AI) (m_toldBy : AI) (m_kindsOf : AI) (m_nextOf : AI) (m_holdsAt : AI) (m_made : Int32) (m_standsFor : AI) (m_madeNext : AI) (m_madeHolds : AI) (m_stateFor : AI) (m_joined : AI) (m_joinedNow : AI) (m_firstIn : AI) (m_orderOf : AI) (m_classAt : AI) (m_sets : AL) (m_waysTo : AL) (m_waysThen : AL) (m_queue : AI) (m_leastTo : AL) (v1 : Int32) (v2 : Int32) (v3 : Int32) (v4 : Int32) (sz : Nat) (r : Int32) (m_onBy_z : AI) (m_toldBy_z : AI) (h : p_X10_place m_onBy m_toldBy v1 v2 v3 v4 = some (r, m_onBy_z, m_toldBy_z)) : CI l yX10_place wsX10_place rX10_place G [.ref m_h, .int v1, .int v2, .int v3, .int v4] (WM G m_h m_q m_onBy m_toldBy m_kindsOf m_nextOf m_holdsAt m_made m_standsFor m_madeNext m_madeHolds m_stateFor m_joined m_joinedNow m_firstIn m_orderOf m_classAt m_sets m_waysTo m_waysThen m_queue m_leastTo) sz r (fun u => WM G m_h m_q m_onBy_z m_toldBy_z m_kindsOf m_nextOf m_holdsAt m_made m_standsFor m_madeNext m_madeHolds m_stateFor m_joined m_joinedNow m_firstIn m_orderOf m_classAt m_sets m_waysTo m_waysThen m_queue m_leastTo) := by
  refine enterCI (cc := cX10_place) (maxL := 5) (by decide) rfl (Nat.le_of_ble_eq_true rfl) ?_
  intro p e s m args below meth c A Q hx hb hml hown hts hK hP hD hS hA hret ls hl
  have hown : s.vm.findClass RX10 = some m.cls := hown
  have hf7 := hts (.fieldLink RX10 7 "DigitClaimsModel" "onBy" "[I") (by decide +kernel)
  have hf13 := hts (.fieldLink RX10 13 "DigitClaimsModel" "toldBy" "[I") (by decide +kernel)
  have hinX10 : ∀ w ∈ wsX100, w ∈ wsX10_place := by decide +kernel
  have hl : lv_has ls 5 [(0, .ref m_h), (1, .int v1), (2, .int v2), (3, .int v3), (4, .int v4)] := hl
  unfold p_X10_place at h
  refine lv_iload_n hx hb dX10_place_0 rfl (lv_at hl 1 rfl) ?_
  obtain ⟨r_1, hc_1, h⟩ := ob1_e h
  refine k_si (va_runS (As := [.int v1]) (rest := []) ⟨hx, hb, hml, hown, hts⟩ (c_X10_isPlace l G   v1 r_1 hc_1) (va_cwS 1 hts gX10_place_X10_isPlace rfl rfl rfl eX10_isPlace ⟨Nat.le_of_ble_eq_true rfl, Nat.le_of_ble_eq_true rfl⟩) (preSS hK (fun k q h => by cases h)) rfl rfl hl.1 rfl (lv_room (Nat.le_of_ble_eq_true rfl)) dX10_place_1 ⟨Nat.le_of_ble_eq_true rfl, Nat.le_of_ble_eq_true rfl⟩) ?_
  refine lv_if_eq (tgt := 21) hx hb dX10_place_4 (by decide) (fun c_4 => ?_) (fun c_4 => ?_)
  · replace h := (if_pos c_4).symm.trans h
    refine lv_iconst (v := -1) hx hb dX10_place_21 (by decide) ?_
    obtain ⟨rfl, rfl, rfl⟩ := oi3 h
    exact hret (fun _ => 0) _ _ _ _ _ _ _ dX10_place_22 rfl rfl hP hD hS (Nat.le_of_ble_eq_true rfl) (Nat.le_of_ble_eq_true rfl)
  · replace h := (if_neg c_4).symm.trans h
    refine lv_iload_n hx hb dX10_place_7 rfl (lv_at hl 2 rfl) ?_
    obtain ⟨r_8, hc_8, h⟩ := ob1_e h
    refine k_si (va_runS (As := [.int v2]) (rest := []) ⟨hx, hb, hml, hown, hts⟩ (c_X10_isPlace l G   v2 r_8 hc_8) (va_cwS 1 hts gX10_place_X10_isPlace rfl rfl rfl eX10_isPlace ⟨Nat.le_of_ble_eq_true rfl, Nat.le_of_ble_eq_true rfl⟩) (preSS hK (fun k q h => by cases h)) rfl rfl hl.1 rfl (lv_room (Nat.le_of_ble_eq_true rfl)) dX10_place_8 ⟨Nat.le_of_ble_eq_true rfl, Nat.le_of_ble_eq_true rfl⟩) ?_
    refine lv_if_eq (tgt := 21) hx hb dX10_place_11 (by decide) (fun c_11 => ?_) (fun c_11 => ?_)
    · replace h := (if_pos c_11).symm.trans h
      refine lv_iconst (v := -1) hx hb dX10_place_21 (by decide) ?_
      obtain ⟨rfl, rfl, rfl⟩ := oi3 h
      exact hret (fun _ => 0) _ _ _ _ _ _ _ dX10_place_22 rfl rfl hP hD hS (Nat.le_of_ble_eq_true rfl) (Nat.le_of_ble_eq_true rfl)
    · replace h := (if_neg c_11).symm.trans h
      refine lv_iload_n hx hb dX10_place_14 rfl (lv_at hl 3 rfl) ?_
      obtain ⟨r_15, hc_15, h⟩ := ob1_e h
      refine k_si (va_runS (As := [.int v3]) (rest := []) ⟨hx, hb, hml, hown, hts⟩ (c_X10_isPlace l G   v3 r_15 hc_15) (va_cwS 1 hts gX10_place_X10_isPlace rfl rfl rfl eX10_isPlace ⟨Nat.le_of_ble_eq_true rfl, Nat.le_of_ble_eq_true rfl⟩) (preSS hK (fun k q h => by cases h)) rfl rfl hl.1 rfl (lv_room (Nat.le_of_ble_eq_true rfl)) dX10_place_15 ⟨Nat.le_of_ble_eq_true rfl, Nat.le_of_ble_eq_true rfl⟩) ?_
      refine lv_if_ne (tgt := 23) hx hb dX10_place_18 (by decide) (fun c_18 => ?_) (fun c_18 => ?_)
      · replace h := (if_neg c_18).symm.trans h
        refine lv_iload hx hb dX10_place_23 (lv_at hl 4 rfl) ?_
        refine lv_iconst (v := 0) hx hb dX10_place_25 (by decide) ?_
        refine lv_iconst (v := 2) hx hb dX10_place_26 (by decide) ?_
        obtain ⟨r_27, hc_27, h⟩ := ob1_e h
        refine k_si (va_runS (As := [.int v4, .int (0 : Int32), .int (2 : Int32)]) (rest := []) ⟨hx, hb, hml, hown, hts⟩ (c_X10_within l G   v4 (0 : Int32) (2 : Int32) r_27 hc_27) (va_cwS 3 hts gX10_place_X10_within rfl rfl rfl eX10_within ⟨Nat.le_of_ble_eq_true rfl, Nat.le_of_ble_eq_true rfl⟩) (preSS hK (fun k q h => by cases h)) rfl rfl hl.1 rfl (lv_room (Nat.le_of_ble_eq_true rfl)) dX10_place_27 ⟨Nat.le_of_ble_eq_true rfl, Nat.le_of_ble_eq_true rfl⟩) ?_
        refine lv_if_ne (tgt := 36) hx hb dX10_place_30 (by decide) (fun c_30 => ?_) (fun c_30 => ?_)
        · replace h := (if_neg c_30).symm.trans h
          refine lv_iload_n hx hb dX10_place_36 rfl (lv_at hl 1 rfl) ?_
          refine lv_if_ne (tgt := 47) hx hb dX10_place_37 (by decide) (fun c_37 => ?_) (fun c_37 => ?_)
          · replace h := (if_neg c_37).symm.trans h
            refine lv_aload_n hx hb dX10_place_47 rfl (lv_at hl 0 rfl) ?_
            refine va_get (D := G.1) (ci := 10) (v := .ref (m_q 0)) (C := RX10) (T := TX10) (N := 20) hx hb hts hinX10 hown hK.1 hP 0 rfl rfl 0 (by decide) hf7 (fun _ h9 => h9) rfl dX10_place_48 ?_
            refine lv_iconst (v := 2) hx hb dX10_place_51 (by decide) ?_
            refine lv_iload_n hx hb dX10_place_52 rfl (lv_at hl 1 rfl) ?_
            refine lv_imul hx hb dX10_place_53 ?_
            refine lv_iload_n hx hb dX10_place_54 rfl (lv_at hl 2 rfl) ?_
            obtain ⟨g_55, h⟩ := gi_e h
            refine va_iast hx hb hK.1 hP hD hS 1 0 rfl rfl g_55 dX10_place_55 (fun H locs hP hD hS => ?_)
            have hP : va_P G.1 vwCl (WM G m_h m_q (upd m_onBy ((2 : Int32) * v1).toNatClampNeg v2) m_toldBy m_kindsOf m_nextOf m_holdsAt m_made m_standsFor m_madeNext m_madeHolds m_stateFor m_joined m_joinedNow m_firstIn m_orderOf m_classAt m_sets m_waysTo m_waysThen m_queue m_leastTo) H := hP
            have hD : va_D A (WM G m_h m_q (upd m_onBy ((2 : Int32) * v1).toNatClampNeg v2) m_toldBy m_kindsOf m_nextOf m_holdsAt m_made m_standsFor m_madeNext m_madeHolds m_stateFor m_joined m_joinedNow m_firstIn m_orderOf m_classAt m_sets m_waysTo m_waysThen m_queue m_leastTo) := hD
            refine lv_aload_n hx hb dX10_place_56 rfl (lv_at hl 0 rfl) ?_
            refine va_get (D := G.1) (ci := 10) (v := .ref (m_q 0)) (C := RX10) (T := TX10) (N := 20) hx hb hts hinX10 hown hK.1 hP 0 rfl rfl 0 (by decide) hf7 (fun _ h9 => h9) rfl dX10_place_57 ?_
            refine lv_iconst (v := 2) hx hb dX10_place_60 (by decide) ?_
            refine lv_iload_n hx hb dX10_place_61 rfl (lv_at hl 1 rfl) ?_
            refine lv_imul hx hb dX10_place_62 ?_
            refine lv_iconst (v := 1) hx hb dX10_place_63 (by decide) ?_
            refine lv_iadd hx hb dX10_place_64 ?_
            refine lv_iload_n hx hb dX10_place_65 rfl (lv_at hl 3 rfl) ?_
            obtain ⟨g_66, h⟩ := gi_e h
            refine va_iast hx hb hK.1 hP hD hS 1 0 rfl rfl g_66 dX10_place_66 (fun H locs hP hD hS => ?_)
            have hP : va_P G.1 vwCl (WM G m_h m_q (upd (upd m_onBy ((2 : Int32) * v1).toNatClampNeg v2) (((2 : Int32) * v1) + (1 : Int32)).toNatClampNeg v3) m_toldBy m_kindsOf m_nextOf m_holdsAt m_made m_standsFor m_madeNext m_madeHolds m_stateFor m_joined m_joinedNow m_firstIn m_orderOf m_classAt m_sets m_waysTo m_waysThen m_queue m_leastTo) H := hP
            have hD : va_D A (WM G m_h m_q (upd (upd m_onBy ((2 : Int32) * v1).toNatClampNeg v2) (((2 : Int32) * v1) + (1 : Int32)).toNatClampNeg v3) m_toldBy m_kindsOf m_nextOf m_holdsAt m_made m_standsFor m_madeNext m_madeHolds m_stateFor m_joined m_joinedNow m_firstIn m_orderOf m_classAt m_sets m_waysTo m_waysThen m_queue m_leastTo) := hD
            refine lv_aload_n hx hb dX10_place_67 rfl (lv_at hl 0 rfl) ?_
            refine va_get (D := G.1) (ci := 10) (v := .ref (m_q 1)) (C := RX10) (T := TX10) (N := 20) hx hb hts hinX10 hown hK.1 hP 0 rfl rfl 1 (by decide) hf13 (fun _ h9 => h9) rfl dX10_place_68 ?_
            refine lv_iload_n hx hb dX10_place_71 rfl (lv_at hl 1 rfl) ?_
            refine lv_iload hx hb dX10_place_72 (lv_at hl 4 rfl) ?_
            obtain ⟨g_74, h⟩ := gi_e h
            refine va_iast hx hb hK.1 hP hD hS 2 0 rfl rfl g_74 dX10_place_74 (fun H locs hP hD hS => ?_)
            have hP : va_P G.1 vwCl (WM G m_h m_q (upd (upd m_onBy ((2 : Int32) * v1).toNatClampNeg v2) (((2 : Int32) * v1) + (1 : Int32)).toNatClampNeg v3) (upd m_toldBy v1.toNatClampNeg v4) m_kindsOf m_nextOf m_holdsAt m_made m_standsFor m_madeNext m_madeHolds m_stateFor m_joined m_joinedNow m_firstIn m_orderOf m_classAt m_sets m_waysTo m_waysThen m_queue m_leastTo) H := hP
            have hD : va_D A (WM G m_h m_q (upd (upd m_onBy ((2 : Int32) * v1).toNatClampNeg v2) (((2 : Int32) * v1) + (1 : Int32)).toNatClampNeg v3) (upd m_toldBy v1.toNatClampNeg v4) m_kindsOf m_nextOf m_holdsAt m_made m_standsFor m_madeNext m_madeHolds m_stateFor m_joined m_joinedNow m_firstIn m_orderOf m_classAt m_sets m_waysTo m_waysThen m_queue m_leastTo) := hD
            refine lv_iconst (v := 1) hx hb dX10_place_75 (by decide) ?_
            obtain ⟨rfl, rfl, rfl⟩ := oi3 h
            exact hret (fun _ => 0) _ _ _ _ _ _ _ dX10_place_76 rfl rfl hP hD hS (Nat.le_of_ble_eq_true rfl) (Nat.le_of_ble_eq_true rfl)
          · replace h := (if_pos c_37).symm.trans h
            refine lv_iload_n hx hb dX10_place_40 rfl (lv_at hl 2 rfl) ?_
            refine lv_if_eq (tgt := 47) hx hb dX10_place_41 (by decide) (fun c_41 => ?_) (fun c_41 => ?_)
            · replace h := (if_pos c_41).symm.trans h
              refine lv_aload_n hx hb dX10_place_47 rfl (lv_at hl 0 rfl) ?_
              refine va_get (D := G.1) (ci := 10) (v := .ref (m_q 0)) (C := RX10) (T := TX10) (N := 20) hx hb hts hinX10 hown hK.1 hP 0 rfl rfl 0 (by decide) hf7 (fun _ h9 => h9) rfl dX10_place_48 ?_
              refine lv_iconst (v := 2) hx hb dX10_place_51 (by decide) ?_
              refine lv_iload_n hx hb dX10_place_52 rfl (lv_at hl 1 rfl) ?_
              refine lv_imul hx hb dX10_place_53 ?_
              refine lv_iload_n hx hb dX10_place_54 rfl (lv_at hl 2 rfl) ?_
              obtain ⟨g_55, h⟩ := gi_e h
              refine va_iast hx hb hK.1 hP hD hS 1 0 rfl rfl g_55 dX10_place_55 (fun H locs hP hD hS => ?_)
              have hP : va_P G.1 vwCl (WM G m_h m_q (upd m_onBy ((2 : Int32) * v1).toNatClampNeg v2) m_toldBy m_kindsOf m_nextOf m_holdsAt m_made m_standsFor m_madeNext m_madeHolds m_stateFor m_joined m_joinedNow m_firstIn m_orderOf m_classAt m_sets m_waysTo m_waysThen m_queue m_leastTo) H := hP
              have hD : va_D A (WM G m_h m_q (upd m_onBy ((2 : Int32) * v1).toNatClampNeg v2) m_toldBy m_kindsOf m_nextOf m_holdsAt m_made m_standsFor m_madeNext m_madeHolds m_stateFor m_joined m_joinedNow m_firstIn m_orderOf m_classAt m_sets m_waysTo m_waysThen m_queue m_leastTo) := hD
              refine lv_aload_n hx hb dX10_place_56 rfl (lv_at hl 0 rfl) ?_
              refine va_get (D := G.1) (ci := 10) (v := .ref (m_q 0)) (C := RX10) (T := TX10) (N := 20) hx hb hts hinX10 hown hK.1 hP 0 rfl rfl 0 (by decide) hf7 (fun _ h9 => h9) rfl dX10_place_57 ?_
              refine lv_iconst (v := 2) hx hb dX10_place_60 (by decide) ?_
              refine lv_iload_n hx hb dX10_place_61 rfl (lv_at hl 1 rfl) ?_
              refine lv_imul hx hb dX10_place_62 ?_
              refine lv_iconst (v := 1) hx hb dX10_place_63 (by decide) ?_
              refine lv_iadd hx hb dX10_place_64 ?_
              refine lv_iload_n hx hb dX10_place_65 rfl (lv_at hl 3 rfl) ?_
              obtain ⟨g_66, h⟩ := gi_e h
              refine va_iast hx hb hK.1 hP hD hS 1 0 rfl rfl g_66 dX10_place_66 (fun H locs hP hD hS => ?_)
              have hP : va_P G.1 vwCl (WM G m_h m_q (upd (upd m_onBy ((2 : Int32) * v1).toNatClampNeg v2) (((2 : Int32) * v1) + (1 : Int32)).toNatClampNeg v3) m_toldBy m_kindsOf m_nextOf m_holdsAt m_made m_standsFor m_madeNext m_madeHolds m_stateFor m_joined m_joinedNow m_firstIn m_orderOf m_classAt m_sets m_waysTo m_waysThen m_queue m_leastTo) H := hP
              have hD : va_D A (WM G m_h m_q (upd (upd m_onBy ((2 : Int32) * v1).toNatClampNeg v2) (((2 : Int32) * v1) + (1 : Int32)).toNatClampNeg v3) m_toldBy m_kindsOf m_nextOf m_holdsAt m_made m_standsFor m_madeNext m_madeHolds m_stateFor m_joined m_joinedNow m_firstIn m_orderOf m_classAt m_sets m_waysTo m_waysThen m_queue m_leastTo) := hD
              refine lv_aload_n hx hb dX10_place_67 rfl (lv_at hl 0 rfl) ?_
              refine va_get (D := G.1) (ci := 10) (v := .ref (m_q 1)) (C := RX10) (T := TX10) (N := 20) hx hb hts hinX10 hown hK.1 hP 0 rfl rfl 1 (by decide) hf13 (fun _ h9 => h9) rfl dX10_place_68 ?_
              refine lv_iload_n hx hb dX10_place_71 rfl (lv_at hl 1 rfl) ?_
              refine lv_iload hx hb dX10_place_72 (lv_at hl 4 rfl) ?_
              obtain ⟨g_74, h⟩ := gi_e h
              refine va_iast hx hb hK.1 hP hD hS 2 0 rfl rfl g_74 dX10_place_74 (fun H locs hP hD hS => ?_)
              have hP : va_P G.1 vwCl (WM G m_h m_q (upd (upd m_onBy ((2 : Int32) * v1).toNatClampNeg v2) (((2 : Int32) * v1) + (1 : Int32)).toNatClampNeg v3) (upd m_toldBy v1.toNatClampNeg v4) m_kindsOf m_nextOf m_holdsAt m_made m_standsFor m_madeNext m_madeHolds m_stateFor m_joined m_joinedNow m_firstIn m_orderOf m_classAt m_sets m_waysTo m_waysThen m_queue m_leastTo) H := hP
              have hD : va_D A (WM G m_h m_q (upd (upd m_onBy ((2 : Int32) * v1).toNatClampNeg v2) (((2 : Int32) * v1) + (1 : Int32)).toNatClampNeg v3) (upd m_toldBy v1.toNatClampNeg v4) m_kindsOf m_nextOf m_holdsAt m_made m_standsFor m_madeNext m_madeHolds m_stateFor m_joined m_joinedNow m_firstIn m_orderOf m_classAt m_sets m_waysTo m_waysThen m_queue m_leastTo) := hD
              refine lv_iconst (v := 1) hx hb dX10_place_75 (by decide) ?_
              obtain ⟨rfl, rfl, rfl⟩ := oi3 h
              exact hret (fun _ => 0) _ _ _ _ _ _ _ dX10_place_76 rfl rfl hP hD hS (Nat.le_of_ble_eq_true rfl) (Nat.le_of_ble_eq_true rfl)
            · replace h := (if_neg c_41).symm.trans h
              refine lv_bipush (v := -3) hx hb dX10_place_44 (by decide) ?_
              obtain ⟨rfl, rfl, rfl⟩ := oi3 h
              exact hret (fun _ => 0) _ _ _ _ _ _ _ dX10_place_46 rfl rfl hP hD hS (Nat.le_of_ble_eq_true rfl) (Nat.le_of_ble_eq_true rfl)
        · replace h := (if_pos c_30).symm.trans h
          refine lv_bipush (v := -2) hx hb dX10_place_33 (by decide) ?_
          obtain ⟨rfl, rfl, rfl⟩ := oi3 h
          exact hret (fun _ => 0) _ _ _ _ _ _ _ dX10_place_35 rfl rfl hP hD hS (Nat.le_of_ble_eq_true rfl) (Nat.le_of_ble_eq_true rfl)
      · replace h := (if_pos c_18).symm.trans h
        refine lv_iconst (v := -1) hx hb dX10_place_21 (by decide) ?_
        obtain ⟨rfl, rfl, rfl⟩ := oi3 h
        exact hret (fun _ => 0) _ _ _ _ _ _ _ dX10_place_22 rfl rfl hP hD hS (Nat.le_of_ble_eq_true rfl) (Nat.le_of_ble_eq_true rfl)
abbrev rX10_ofPlace : Room := { frames := 2, cells := 0, slots := 0, locals := 42 }
set_option maxHeartbeats 4000000 in
set_option maxRecDepth 100000 in
theorem c_X10_ofPlace (l : Launch) (G : GG) (m_h : Nat) (m_q : Nat → Nat) (m_onBy : AI) (m_toldBy : AI) (m_kindsOf : AI) (m_nextOf : AI) (m_holdsAt : AI) (m_made : Int32) (m_standsFor : AI) (m_madeNext : AI) (m_madeHolds : AI) (m_stateFor : AI) (m_joined : AI) (m_joinedNow : AI) (m_firstIn : AI) (m_orderOf : AI) (m_classAt : AI) (m_sets : AL) (m_waysTo : AL) (m_waysThen : AL) (m_queue : AI) (m_leastTo : AL) (v1 : Int32) (v2 : Int32) (r : Int32) (h : p_X10_ofPlace m_onBy m_toldBy v1 v2 = some r) : SI l yX10_ofPlace wsX10_ofPlace rX10_ofPlace G [.ref m_h, .int v1, .int v2] (WM G m_h m_q m_onBy m_toldBy m_kindsOf m_nextOf m_holdsAt m_made m_standsFor m_madeNext m_madeHolds m_stateFor m_joined m_joinedNow m_firstIn m_orderOf m_classAt m_sets m_waysTo m_waysThen m_queue m_leastTo) r := by
  refine enterSI (cc := cX10_ofPlace) (maxL := 3) (by decide) rfl (Nat.le_of_ble_eq_true rfl) ?_
  intro p e s m args below meth c Q hx hb hml hown hts hK hP hret ls hl
  have hown : s.vm.findClass RX10 = some m.cls := hown
  have hf7 := hts (.fieldLink RX10 7 "DigitClaimsModel" "onBy" "[I") (by decide +kernel)
  have hf13 := hts (.fieldLink RX10 13 "DigitClaimsModel" "toldBy" "[I") (by decide +kernel)
  have hinX10 : ∀ w ∈ wsX100, w ∈ wsX10_ofPlace := by decide +kernel
  have hl : lv_has ls 3 [(0, .ref m_h), (1, .int v1), (2, .int v2)] := hl
  unfold p_X10_ofPlace at h
  refine lv_iload_n hx hb dX10_ofPlace_0 rfl (lv_at hl 1 rfl) ?_
  obtain ⟨r_1, hc_1, h⟩ := ob1_e h
  refine k_si (va_runS (As := [.int v1]) (rest := []) ⟨hx, hb, hml, hown, hts⟩ (c_X10_isPlace l G   v1 r_1 hc_1) (va_cwS 1 hts gX10_ofPlace_X10_isPlace rfl rfl rfl eX10_isPlace ⟨Nat.le_of_ble_eq_true rfl, Nat.le_of_ble_eq_true rfl⟩) (preSS hK (fun k q h => by cases h)) rfl rfl hl.1 rfl (lv_room (Nat.le_of_ble_eq_true rfl)) dX10_ofPlace_1 ⟨Nat.le_of_ble_eq_true rfl, Nat.le_of_ble_eq_true rfl⟩) ?_
  refine lv_if_ne (tgt := 9) hx hb dX10_ofPlace_4 (by decide) (fun c_4 => ?_) (fun c_4 => ?_)
  · replace h := (if_neg c_4).symm.trans h
    refine lv_iload_n hx hb dX10_ofPlace_9 rfl (lv_at hl 2 rfl) ?_
    refine lv_iconst (v := 0) hx hb dX10_ofPlace_10 (by decide) ?_
    refine lv_iconst (v := 2) hx hb dX10_ofPlace_11 (by decide) ?_
    obtain ⟨r_12, hc_12, h⟩ := ob1_e h
    refine k_si (va_runS (As := [.int v2, .int (0 : Int32), .int (2 : Int32)]) (rest := []) ⟨hx, hb, hml, hown, hts⟩ (c_X10_within l G   v2 (0 : Int32) (2 : Int32) r_12 hc_12) (va_cwS 3 hts gX10_ofPlace_X10_within rfl rfl rfl eX10_within ⟨Nat.le_of_ble_eq_true rfl, Nat.le_of_ble_eq_true rfl⟩) (preSS hK (fun k q h => by cases h)) rfl rfl hl.1 rfl (lv_room (Nat.le_of_ble_eq_true rfl)) dX10_ofPlace_12 ⟨Nat.le_of_ble_eq_true rfl, Nat.le_of_ble_eq_true rfl⟩) ?_
    refine lv_if_ne (tgt := 21) hx hb dX10_ofPlace_15 (by decide) (fun c_15 => ?_) (fun c_15 => ?_)
    · replace h := (if_neg c_15).symm.trans h
      refine lv_iload_n hx hb dX10_ofPlace_21 rfl (lv_at hl 2 rfl) ?_
      refine lv_iconst (v := 2) hx hb dX10_ofPlace_22 (by decide) ?_
      refine lv_icmp_ne (tgt := 35) hx hb dX10_ofPlace_23 (by decide) (fun c_23 => ?_) (fun c_23 => ?_)
      · replace h := (if_neg c_23).symm.trans h
        refine lv_aload_n hx hb dX10_ofPlace_35 rfl (lv_at hl 0 rfl) ?_
        refine va_get (D := G.1) (ci := 10) (v := .ref (m_q 0)) (C := RX10) (T := TX10) (N := 20) hx hb hts hinX10 hown hK.1 hP 0 rfl rfl 0 (by decide) hf7 (fun _ h9 => h9) rfl dX10_ofPlace_36 ?_
        refine lv_iconst (v := 2) hx hb dX10_ofPlace_39 (by decide) ?_
        refine lv_iload_n hx hb dX10_ofPlace_40 rfl (lv_at hl 1 rfl) ?_
        refine lv_imul hx hb dX10_ofPlace_41 ?_
        refine lv_iload_n hx hb dX10_ofPlace_42 rfl (lv_at hl 2 rfl) ?_
        refine lv_iadd hx hb dX10_ofPlace_43 ?_
        obtain ⟨g_44, h⟩ := gi_e h
        refine va_iald hx hb hK.1 hP 1 0 rfl rfl g_44 dX10_ofPlace_44 ?_
        obtain rfl := oi1 h
        exact hret _ _ _ dX10_ofPlace_45 rfl rfl
      · replace h := (if_pos c_23).symm.trans h
        refine lv_aload_n hx hb dX10_ofPlace_26 rfl (lv_at hl 0 rfl) ?_
        refine va_get (D := G.1) (ci := 10) (v := .ref (m_q 1)) (C := RX10) (T := TX10) (N := 20) hx hb hts hinX10 hown hK.1 hP 0 rfl rfl 1 (by decide) hf13 (fun _ h9 => h9) rfl dX10_ofPlace_27 ?_
        refine lv_iload_n hx hb dX10_ofPlace_30 rfl (lv_at hl 1 rfl) ?_
        obtain ⟨g_31, h⟩ := gi_e h
        refine va_iald hx hb hK.1 hP 2 0 rfl rfl g_31 dX10_ofPlace_31 ?_
        refine lv_goto (tgt := 45) hx hb dX10_ofPlace_32 (by decide) ?_
        obtain rfl := oi1 h
        exact hret _ _ _ dX10_ofPlace_45 rfl rfl
    · replace h := (if_pos c_15).symm.trans h
      refine lv_bipush (v := -2) hx hb dX10_ofPlace_18 (by decide) ?_
      obtain rfl := oi1 h
      exact hret _ _ _ dX10_ofPlace_20 rfl rfl
  · replace h := (if_pos c_4).symm.trans h
    refine lv_iconst (v := -1) hx hb dX10_ofPlace_7 (by decide) ?_
    obtain rfl := oi1 h
    exact hret _ _ _ dX10_ofPlace_8 rfl rfl
abbrev rX10_row : Room := { frames := 1, cells := 0, slots := 0, locals := 22 }
set_option maxHeartbeats 4000000 in
set_option maxRecDepth 100000 in
theorem c_X10_row (l : Launch) (G : GG) (n : Nat) (m_h : Nat) (m_q : Nat → Nat) (m_onBy : AI) (m_toldBy : AI) (m_kindsOf : AI) (m_nextOf : AI) (m_holdsAt : AI) (m_made : Int32) (m_standsFor : AI) (m_madeNext : AI) (m_madeHolds : AI) (m_stateFor : AI) (m_joined : AI) (m_joinedNow : AI) (m_firstIn : AI) (m_orderOf : AI) (m_classAt : AI) (m_sets : AL) (m_waysTo : AL) (m_waysThen : AL) (m_queue : AI) (m_leastTo : AL) (v1 : Int32) (r : Int32) (h : p_X10_row n m_onBy m_toldBy v1 = some r) : SI l yX10_row wsX10_row rX10_row G [.ref m_h, .int v1] (WM G m_h m_q m_onBy m_toldBy m_kindsOf m_nextOf m_holdsAt m_made m_standsFor m_madeNext m_madeHolds m_stateFor m_joined m_joinedNow m_firstIn m_orderOf m_classAt m_sets m_waysTo m_waysThen m_queue m_leastTo) r := by
  refine enterSI (cc := cX10_row) (maxL := 4) (by decide) rfl (Nat.le_of_ble_eq_true rfl) ?_
  intro p e s m args below meth c Q hx hb hml hown hts hK hP hret ls hl
  have hown : s.vm.findClass RX10 = some m.cls := hown
  have hf7 := hts (.fieldLink RX10 7 "DigitClaimsModel" "onBy" "[I") (by decide +kernel)
  have hf13 := hts (.fieldLink RX10 13 "DigitClaimsModel" "toldBy" "[I") (by decide +kernel)
  have hinX10 : ∀ w ∈ wsX100, w ∈ wsX10_row := by decide +kernel
  have hl : lv_has ls 4 [(0, .ref m_h), (1, .int v1)] := hl
  unfold p_X10_row at h
  refine lv_iload_n hx hb dX10_row_0 rfl (lv_at hl 1 rfl) ?_
  refine lv_iconst (v := 0) hx hb dX10_row_1 (by decide) ?_
  refine lv_ldc (v := 1000000000) hx hb hown (hts (.constant RX10 80 (1000000000)) (by decide +kernel)) dX10_row_2 ?_
  obtain ⟨r_4, hc_4, h⟩ := ob1_e h
  refine k_si (va_runS (As := [.int v1, .int (0 : Int32), .int (1000000000 : Int32)]) (rest := []) ⟨hx, hb, hml, hown, hts⟩ (c_X10_within l G   v1 (0 : Int32) (1000000000 : Int32) r_4 hc_4) (va_cwS 3 hts gX10_row_X10_within rfl rfl rfl eX10_within ⟨Nat.le_of_ble_eq_true rfl, Nat.le_of_ble_eq_true rfl⟩) (preSS hK (fun k q h => by cases h)) rfl rfl hl.1 rfl (lv_room (Nat.le_of_ble_eq_true rfl)) dX10_row_4 ⟨Nat.le_of_ble_eq_true rfl, Nat.le_of_ble_eq_true rfl⟩) ?_
  refine lv_if_ne (tgt := 13) hx hb dX10_row_7 (by decide) (fun c_7 => ?_) (fun c_7 => ?_)
  · replace h := (if_neg c_7).symm.trans h
    refine lv_iconst (v := 0) hx hb dX10_row_13 (by decide) ?_
    refine lv_istore_n (lv' := [(2, .int (0 : Int32)), (0, .ref m_h), (1, .int v1)]) hx hb dX10_row_14 rfl hl (by decide) rfl (fun ls hl => ?_)
    refine lv_bipush (v := 29) hx hb dX10_row_15 (by decide) ?_
    refine lv_istore_n (lv' := [(3, .int (29 : Int32)), (2, .int (0 : Int32)), (0, .ref m_h), (1, .int v1)]) hx hb dX10_row_17 rfl hl (by decide) rfl (fun ls hl => ?_)
    obtain ⟨o2_18, hT18, h⟩ := ob1_e h
    have hX18 : ∀ (x2_18 : Int32)  (ls : Array Slot), some x2_18 = some o2_18 → lv_has ls 4 [(0, .ref m_h), (2, .int x2_18)] → W p l e rX10_row s m args below meth c s.heap [] 0 0 Q (F0 m 43 ls []) := by
      intro x2_18 ls hq hl
      obtain rfl := oi1 hq
      refine lv_aload_n hx hb dX10_row_43 rfl (lv_at hl 0 rfl) ?_
      refine va_get (D := G.1) (ci := 10) (v := .ref (m_q 1)) (C := RX10) (T := TX10) (N := 20) hx hb hts hinX10 hown hK.1 hP 0 rfl rfl 1 (by decide) hf13 (fun _ h9 => h9) rfl dX10_row_44 ?_
      refine lv_iload_n hx hb dX10_row_47 rfl (lv_at hl 1 rfl) ?_
      obtain ⟨g_48, h⟩ := gi_e h
      refine va_iald hx hb hK.1 hP 2 0 rfl rfl g_48 dX10_row_48 ?_
      obtain rfl := oi1 h
      exact hret _ _ _ dX10_row_49 rfl rfl
    have hL18 : ∀ (f : Nat) (v2_18 : Int32) (v3_18 : Int32)  (ls : Array Slot), p_X10_row_L18 v1 m_onBy f v2_18 v3_18 = some o2_18 → lv_has ls 4 [(0, .ref m_h), (1, .int v1), (2, .int v2_18), (3, .int v3_18)] → W p l e rX10_row s m args below meth c s.heap [] 0 0 Q (F0 m 18 ls []) := by
      intro f
      induction f with
      | zero => intro v2_18 v3_18 ls h hl; cases (show none = some _ from h)
      | succ f ih =>
        intro v2_18 v3_18 ls h hl
        rw [p_X10_row_L18] at h
        refine lv_iload_n hx hb dX10_row_18 rfl (lv_at hl 3 rfl) ?_
        refine lv_if_lt (tgt := 43) hx hb dX10_row_19 (by decide) (fun c_19 => ?_) (fun c_19 => ?_)
        · replace h := (if_pos c_19).symm.trans h
          exact hX18 _  _ h (lv_sub hl [0, 2] rfl)
        · replace h := (if_neg c_19).symm.trans h
          refine lv_aload_n hx hb dX10_row_22 rfl (lv_at hl 0 rfl) ?_
          refine va_get (D := G.1) (ci := 10) (v := .ref (m_q 0)) (C := RX10) (T := TX10) (N := 20) hx hb hts hinX10 hown hK.1 hP 0 rfl rfl 0 (by decide) hf7 (fun _ h9 => h9) rfl dX10_row_23 ?_
          refine lv_iconst (v := 2) hx hb dX10_row_26 (by decide) ?_
          refine lv_iload_n hx hb dX10_row_27 rfl (lv_at hl 2 rfl) ?_
          refine lv_imul hx hb dX10_row_28 ?_
          refine lv_iload_n hx hb dX10_row_29 rfl (lv_at hl 1 rfl) ?_
          refine lv_iload_n hx hb dX10_row_30 rfl (lv_at hl 3 rfl) ?_
          refine lv_ishr hx hb dX10_row_31 ?_
          refine lv_iconst (v := 1) hx hb dX10_row_32 (by decide) ?_
          refine lv_iand hx hb dX10_row_33 ?_
          refine lv_iadd hx hb dX10_row_34 ?_
          obtain ⟨g_35, h⟩ := gi_e h
          refine va_iald hx hb hK.1 hP 1 0 rfl rfl g_35 dX10_row_35 ?_
          refine lv_istore_n (lv' := [(2, .int (m_onBy (((2 : Int32) * v2_18) + ((v1 >>> (v3_18 &&& (31 : Int32))) &&& (1 : Int32))).toNatClampNeg)), (0, .ref m_h), (1, .int v1), (3, .int v3_18)]) hx hb dX10_row_36 rfl hl (by decide) rfl (fun ls hl => ?_)
          refine lv_iinc (v := (v3_18 + (-1 : Int32))) (lv' := [(3, .int (v3_18 + (-1 : Int32))), (2, .int (m_onBy (((2 : Int32) * v2_18) + ((v1 >>> (v3_18 &&& (31 : Int32))) &&& (1 : Int32))).toNatClampNeg)), (0, .ref m_h), (1, .int v1)]) hx hb dX10_row_37 hl (k := 3) rfl rfl (by decide) rfl (fun ls hl => ?_)
          refine lv_goto (tgt := 18) hx hb dX10_row_40 (by decide) ?_
          exact ih _ _  _ h (lv_sub hl [2, 3, 1, 0] rfl)
    exact hL18 n _ _  _ hT18 (lv_sub hl [2, 3, 1, 0] rfl)
  · replace h := (if_pos c_7).symm.trans h
    refine lv_bipush (v := -2) hx hb dX10_row_10 (by decide) ?_
    obtain rfl := oi1 h
    exact hret _ _ _ dX10_row_12 rfl rfl
abbrev rX10_next : Room := { frames := 0, cells := 0, slots := 0, locals := 0 }
set_option maxHeartbeats 4000000 in
set_option maxRecDepth 100000 in
theorem c_X10_next (l : Launch) (G : GG) (m_h : Nat) (m_q : Nat → Nat) (m_onBy : AI) (m_toldBy : AI) (m_kindsOf : AI) (m_nextOf : AI) (m_holdsAt : AI) (m_made : Int32) (m_standsFor : AI) (m_madeNext : AI) (m_madeHolds : AI) (m_stateFor : AI) (m_joined : AI) (m_joinedNow : AI) (m_firstIn : AI) (m_orderOf : AI) (m_classAt : AI) (m_sets : AL) (m_waysTo : AL) (m_waysThen : AL) (m_queue : AI) (m_leastTo : AL) (v1 : Int32) (v2 : Int32) (v3 : Int32) (r : Int32) (h : p_X10_next m_nextOf v1 v2 v3 = some r) : SI l yX10_next wsX10_next rX10_next G [.ref m_h, .int v1, .int v2, .int v3] (WM G m_h m_q m_onBy m_toldBy m_kindsOf m_nextOf m_holdsAt m_made m_standsFor m_madeNext m_madeHolds m_stateFor m_joined m_joinedNow m_firstIn m_orderOf m_classAt m_sets m_waysTo m_waysThen m_queue m_leastTo) r := by
  refine enterSI (cc := cX10_next) (maxL := 4) (by decide) rfl (Nat.le_of_ble_eq_true rfl) ?_
  intro p e s m args below meth c Q hx hb hml hown hts hK hP hret ls hl
  have hown : s.vm.findClass RX10 = some m.cls := hown
  have hf19 := hts (.fieldLink RX10 19 "DigitClaimsModel" "nextOf" "[I") (by decide +kernel)
  have hinX10 : ∀ w ∈ wsX100, w ∈ wsX10_next := by decide +kernel
  have hl : lv_has ls 4 [(0, .ref m_h), (1, .int v1), (2, .int v2), (3, .int v3)] := hl
  unfold p_X10_next at h
  refine lv_aload_n hx hb dX10_next_0 rfl (lv_at hl 0 rfl) ?_
  refine va_get (D := G.1) (ci := 10) (v := .ref (m_q 3)) (C := RX10) (T := TX10) (N := 20) hx hb hts hinX10 hown hK.1 hP 0 rfl rfl 3 (by decide) hf19 (fun _ h9 => h9) rfl dX10_next_1 ?_
  refine lv_bipush (v := 8) hx hb dX10_next_4 (by decide) ?_
  refine lv_bipush (v := 60) hx hb dX10_next_6 (by decide) ?_
  refine lv_iload_n hx hb dX10_next_8 rfl (lv_at hl 1 rfl) ?_
  refine lv_imul hx hb dX10_next_9 ?_
  refine lv_iload_n hx hb dX10_next_10 rfl (lv_at hl 2 rfl) ?_
  refine lv_iadd hx hb dX10_next_11 ?_
  refine lv_imul hx hb dX10_next_12 ?_
  refine lv_iload_n hx hb dX10_next_13 rfl (lv_at hl 3 rfl) ?_
  refine lv_iadd hx hb dX10_next_14 ?_
  obtain ⟨g_15, h⟩ := gi_e h
  refine va_iald hx hb hK.1 hP 4 0 rfl rfl g_15 dX10_next_15 ?_
  obtain rfl := oi1 h
  exact hret _ _ _ dX10_next_16 rfl rfl
abbrev rX10_holdsIn : Room := { frames := 0, cells := 0, slots := 0, locals := 0 }
set_option maxHeartbeats 4000000 in
set_option maxRecDepth 100000 in
theorem c_X10_holdsIn (l : Launch) (G : GG) (m_h : Nat) (m_q : Nat → Nat) (m_onBy : AI) (m_toldBy : AI) (m_kindsOf : AI) (m_nextOf : AI) (m_holdsAt : AI) (m_made : Int32) (m_standsFor : AI) (m_madeNext : AI) (m_madeHolds : AI) (m_stateFor : AI) (m_joined : AI) (m_joinedNow : AI) (m_firstIn : AI) (m_orderOf : AI) (m_classAt : AI) (m_sets : AL) (m_waysTo : AL) (m_waysThen : AL) (m_queue : AI) (m_leastTo : AL) (v1 : Int32) (v2 : Int32) (r : Int32) (h : p_X10_holdsIn m_holdsAt v1 v2 = some r) : SI l yX10_holdsIn wsX10_holdsIn rX10_holdsIn G [.ref m_h, .int v1, .int v2] (WM G m_h m_q m_onBy m_toldBy m_kindsOf m_nextOf m_holdsAt m_made m_standsFor m_madeNext m_madeHolds m_stateFor m_joined m_joinedNow m_firstIn m_orderOf m_classAt m_sets m_waysTo m_waysThen m_queue m_leastTo) r := by
  refine enterSI (cc := cX10_holdsIn) (maxL := 3) (by decide) rfl (Nat.le_of_ble_eq_true rfl) ?_
  intro p e s m args below meth c Q hx hb hml hown hts hK hP hret ls hl
  have hown : s.vm.findClass RX10 = some m.cls := hown
  have hf22 := hts (.fieldLink RX10 22 "DigitClaimsModel" "holdsAt" "[Z") (by decide +kernel)
  have hinX10 : ∀ w ∈ wsX100, w ∈ wsX10_holdsIn := by decide +kernel
  have hl : lv_has ls 3 [(0, .ref m_h), (1, .int v1), (2, .int v2)] := hl
  unfold p_X10_holdsIn at h
  refine lv_aload_n hx hb dX10_holdsIn_0 rfl (lv_at hl 0 rfl) ?_
  refine va_get (D := G.1) (ci := 10) (v := .ref (m_q 4)) (C := RX10) (T := TX10) (N := 20) hx hb hts hinX10 hown hK.1 hP 0 rfl rfl 4 (by decide) hf22 (fun _ h9 => h9) rfl dX10_holdsIn_1 ?_
  refine lv_bipush (v := 60) hx hb dX10_holdsIn_4 (by decide) ?_
  refine lv_iload_n hx hb dX10_holdsIn_6 rfl (lv_at hl 1 rfl) ?_
  refine lv_imul hx hb dX10_holdsIn_7 ?_
  refine lv_iload_n hx hb dX10_holdsIn_8 rfl (lv_at hl 2 rfl) ?_
  refine lv_iadd hx hb dX10_holdsIn_9 ?_
  obtain ⟨g_10, h⟩ := gi_e h
  refine va_zald hx hb hK.1 hP 5 1 rfl rfl g_10 dX10_holdsIn_10 ?_
  obtain ⟨gbv, h⟩ := gb_e h
  obtain rfl := oi1 h
  exact hret _ _ _ dX10_holdsIn_11 rfl (nb gbv)
abbrev rX10_begins : Room := { frames := 0, cells := 0, slots := 0, locals := 0 }
set_option maxHeartbeats 4000000 in
set_option maxRecDepth 100000 in
theorem c_X10_begins (l : Launch) (G : GG) (n : Nat) (m_h : Nat) (m_q : Nat → Nat) (m_onBy : AI) (m_toldBy : AI) (m_kindsOf : AI) (m_nextOf : AI) (m_holdsAt : AI) (m_made : Int32) (m_standsFor : AI) (m_madeNext : AI) (m_madeHolds : AI) (m_stateFor : AI) (m_joined : AI) (m_joinedNow : AI) (m_firstIn : AI) (m_orderOf : AI) (m_classAt : AI) (m_sets : AL) (m_waysTo : AL) (m_waysThen : AL) (m_queue : AI) (m_leastTo : AL)  (sz : Nat) (m_made_z : Int32) (m_stateFor_z : AI) (h : p_X10_begins n m_stateFor = some (m_made_z, m_stateFor_z)) : CV l yX10_begins wsX10_begins rX10_begins G [.ref m_h] (WM G m_h m_q m_onBy m_toldBy m_kindsOf m_nextOf m_holdsAt m_made m_standsFor m_madeNext m_madeHolds m_stateFor m_joined m_joinedNow m_firstIn m_orderOf m_classAt m_sets m_waysTo m_waysThen m_queue m_leastTo) sz (fun u => WM G m_h m_q m_onBy m_toldBy m_kindsOf m_nextOf m_holdsAt m_made_z m_standsFor m_madeNext m_madeHolds m_stateFor_z m_joined m_joinedNow m_firstIn m_orderOf m_classAt m_sets m_waysTo m_waysThen m_queue m_leastTo) := by
  refine enterCV (cc := cX10_begins) (maxL := 2) (by decide) rfl (Nat.le_of_ble_eq_true rfl) ?_
  intro p e s m args below meth c A Q hx hb hml hown hts hK hP hD hS hA hnm hret ls hl
  have hown : s.vm.findClass RX10 = some m.cls := hown
  have hf35 := hts (.fieldLink RX10 35 "DigitClaimsModel" "stateFor" "[I") (by decide +kernel)
  have hf81 := hts (.fieldLink RX10 81 "DigitClaimsModel" "made" "I") (by decide +kernel)
  have hinX10 : ∀ w ∈ wsX100, w ∈ wsX10_begins := by decide +kernel
  have hl : lv_has ls 2 [(0, .ref m_h)] := hl
  unfold p_X10_begins at h
  refine lv_aload_n hx hb dX10_begins_0 rfl (lv_at hl 0 rfl) ?_
  refine lv_iconst (v := 0) hx hb dX10_begins_1 (by decide) ?_
  refine va_put (D := G.1) (ci := 10) (v := .int (0 : Int32)) (ty := .int) (C := RX10) (T := TX10) (N := 20) hx hb hts hinX10 tyX10 tyX10_ok nmX10 hown hK.1 hP hD hS 0 rfl rfl 5 (by decide) hf81 (fun _ h9 => h9) rfl (by decide +kernel) rfl rfl (Nat.le_of_ble_eq_true rfl) dX10_begins_2 (fun H locs hP hD hS => ?_)
  have hP : va_P G.1 vwCl (WM G m_h m_q m_onBy m_toldBy m_kindsOf m_nextOf m_holdsAt (0 : Int32) m_standsFor m_madeNext m_madeHolds m_stateFor m_joined m_joinedNow m_firstIn m_orderOf m_classAt m_sets m_waysTo m_waysThen m_queue m_leastTo) H := hP
  have hD : va_D A (WM G m_h m_q m_onBy m_toldBy m_kindsOf m_nextOf m_holdsAt (0 : Int32) m_standsFor m_madeNext m_madeHolds m_stateFor m_joined m_joinedNow m_firstIn m_orderOf m_classAt m_sets m_waysTo m_waysThen m_queue m_leastTo) := hD
  refine lv_iconst (v := 0) hx hb dX10_begins_5 (by decide) ?_
  refine lv_istore_n (lv' := [(1, .int (0 : Int32)), (0, .ref m_h)]) hx hb dX10_begins_6 rfl hl (by decide) rfl (fun ls hl => ?_)
  obtain ⟨m_stateFor_o7, hT7, h⟩ := ob1_e h
  have hX7 : ∀ (m_stateFor_o7x : AI)  (H : Heap) (locs : List Loc) (ls : Array Slot), some m_stateFor_o7x = some m_stateFor_o7 → va_P G.1 vwCl (WM G m_h m_q m_onBy m_toldBy m_kindsOf m_nextOf m_holdsAt (0 : Int32) m_standsFor m_madeNext m_madeHolds m_stateFor_o7x m_joined m_joinedNow m_firstIn m_orderOf m_classAt m_sets m_waysTo m_waysThen m_queue m_leastTo) H → va_D A (WM G m_h m_q m_onBy m_toldBy m_kindsOf m_nextOf m_holdsAt (0 : Int32) m_standsFor m_madeNext m_madeHolds m_stateFor_o7x m_joined m_joinedNow m_firstIn m_orderOf m_classAt m_sets m_waysTo m_waysThen m_queue m_leastTo) → va_S A s.heap H locs → lv_has ls 2 [] → W p l e rX10_begins s m args below meth c H locs 0 0 Q (F0 m 28 ls []) := by
    intro m_stateFor_o7x H locs ls hq hP hD hS hl
    obtain rfl := oi1 hq
    obtain ⟨rfl, rfl⟩ := oi2 h
    exact hret (fun _ => 0) _ _ _ _ _ _ dX10_begins_28 hP hD hS (Nat.le_of_ble_eq_true rfl) (Nat.le_of_ble_eq_true rfl)
  have hL7 : ∀ (f : Nat) (v1_7 : Int32) (m_stateFor_7 : AI)  (H : Heap) (locs : List Loc) (ls : Array Slot), p_X10_begins_L7 f v1_7 m_stateFor_7 = some m_stateFor_o7 → va_P G.1 vwCl (WM G m_h m_q m_onBy m_toldBy m_kindsOf m_nextOf m_holdsAt (0 : Int32) m_standsFor m_madeNext m_madeHolds m_stateFor_7 m_joined m_joinedNow m_firstIn m_orderOf m_classAt m_sets m_waysTo m_waysThen m_queue m_leastTo) H → va_D A (WM G m_h m_q m_onBy m_toldBy m_kindsOf m_nextOf m_holdsAt (0 : Int32) m_standsFor m_madeNext m_madeHolds m_stateFor_7 m_joined m_joinedNow m_firstIn m_orderOf m_classAt m_sets m_waysTo m_waysThen m_queue m_leastTo) → va_S A s.heap H locs → lv_has ls 2 [(0, .ref m_h), (1, .int v1_7)] → W p l e rX10_begins s m args below meth c H locs 0 0 Q (F0 m 7 ls []) := by
    intro f
    induction f with
    | zero => intro v1_7 m_stateFor_7 H locs ls h hP hD hS hl; cases (show none = some _ from h)
    | succ f ih =>
      intro v1_7 m_stateFor_7 H locs ls h hP hD hS hl
      rw [p_X10_begins_L7] at h
      refine lv_iload_n hx hb dX10_begins_7 rfl (lv_at hl 1 rfl) ?_
      refine lv_sipush (v := 3600) hx hb dX10_begins_8 (by decide) ?_
      refine lv_icmp_ge (tgt := 28) hx hb dX10_begins_11 (by decide) (fun c_11 => ?_) (fun c_11 => ?_)
      · replace h := (if_pos c_11).symm.trans h
        exact hX7 _  _ _ _ h hP hD hS (lv_sub hl [] rfl)
      · replace h := (if_neg c_11).symm.trans h
        refine lv_aload_n hx hb dX10_begins_14 rfl (lv_at hl 0 rfl) ?_
        refine va_get (D := G.1) (ci := 10) (v := .ref (m_q 8)) (C := RX10) (T := TX10) (N := 20) hx hb hts hinX10 hown hK.1 hP 0 rfl rfl 9 (by decide) hf35 (fun _ h9 => h9) rfl dX10_begins_15 ?_
        refine lv_iload_n hx hb dX10_begins_18 rfl (lv_at hl 1 rfl) ?_
        refine lv_bipush (v := -9) hx hb dX10_begins_19 (by decide) ?_
        obtain ⟨g_21, h⟩ := gi_e h
        refine va_iast hx hb hK.1 hP hD hS 9 0 rfl rfl g_21 dX10_begins_21 (fun H locs hP hD hS => ?_)
        have hP : va_P G.1 vwCl (WM G m_h m_q m_onBy m_toldBy m_kindsOf m_nextOf m_holdsAt (0 : Int32) m_standsFor m_madeNext m_madeHolds (upd m_stateFor_7 v1_7.toNatClampNeg (-9 : Int32)) m_joined m_joinedNow m_firstIn m_orderOf m_classAt m_sets m_waysTo m_waysThen m_queue m_leastTo) H := hP
        have hD : va_D A (WM G m_h m_q m_onBy m_toldBy m_kindsOf m_nextOf m_holdsAt (0 : Int32) m_standsFor m_madeNext m_madeHolds (upd m_stateFor_7 v1_7.toNatClampNeg (-9 : Int32)) m_joined m_joinedNow m_firstIn m_orderOf m_classAt m_sets m_waysTo m_waysThen m_queue m_leastTo) := hD
        refine lv_iinc (v := (v1_7 + (1 : Int32))) (lv' := [(1, .int (v1_7 + (1 : Int32))), (0, .ref m_h)]) hx hb dX10_begins_22 hl (k := 1) rfl rfl (by decide) rfl (fun ls hl => ?_)
        refine lv_goto (tgt := 7) hx hb dX10_begins_25 (by decide) ?_
        exact ih _ _  _ _ _ h hP hD hS (lv_sub hl [1, 0] rfl)
  exact hL7 n _ _  _ _ _ hT7 hP hD hS (lv_sub hl [1, 0] rfl)
abbrev rX10_stateOf : Room := { frames := 0, cells := 0, slots := 0, locals := 0 }
set_option maxHeartbeats 4000000 in
set_option maxRecDepth 100000 in
theorem c_X10_stateOf (l : Launch) (G : GG) (m_h : Nat) (m_q : Nat → Nat) (m_onBy : AI) (m_toldBy : AI) (m_kindsOf : AI) (m_nextOf : AI) (m_holdsAt : AI) (m_made : Int32) (m_standsFor : AI) (m_madeNext : AI) (m_madeHolds : AI) (m_stateFor : AI) (m_joined : AI) (m_joinedNow : AI) (m_firstIn : AI) (m_orderOf : AI) (m_classAt : AI) (m_sets : AL) (m_waysTo : AL) (m_waysThen : AL) (m_queue : AI) (m_leastTo : AL) (v1 : Int32) (sz : Nat) (r : Int32) (m_made_z : Int32) (m_standsFor_z : AI) (m_stateFor_z : AI) (h : p_X10_stateOf m_made m_standsFor m_stateFor v1 = some (r, m_made_z, m_standsFor_z, m_stateFor_z)) : CI l yX10_stateOf wsX10_stateOf rX10_stateOf G [.ref m_h, .int v1] (WM G m_h m_q m_onBy m_toldBy m_kindsOf m_nextOf m_holdsAt m_made m_standsFor m_madeNext m_madeHolds m_stateFor m_joined m_joinedNow m_firstIn m_orderOf m_classAt m_sets m_waysTo m_waysThen m_queue m_leastTo) sz r (fun u => WM G m_h m_q m_onBy m_toldBy m_kindsOf m_nextOf m_holdsAt m_made_z m_standsFor_z m_madeNext m_madeHolds m_stateFor_z m_joined m_joinedNow m_firstIn m_orderOf m_classAt m_sets m_waysTo m_waysThen m_queue m_leastTo) := by
  refine enterCI (cc := cX10_stateOf) (maxL := 2) (by decide) rfl (Nat.le_of_ble_eq_true rfl) ?_
  intro p e s m args below meth c A Q hx hb hml hown hts hK hP hD hS hA hret ls hl
  have hown : s.vm.findClass RX10 = some m.cls := hown
  have hf26 := hts (.fieldLink RX10 26 "DigitClaimsModel" "standsFor" "[I") (by decide +kernel)
  have hf35 := hts (.fieldLink RX10 35 "DigitClaimsModel" "stateFor" "[I") (by decide +kernel)
  have hf81 := hts (.fieldLink RX10 81 "DigitClaimsModel" "made" "I") (by decide +kernel)
  have hinX10 : ∀ w ∈ wsX100, w ∈ wsX10_stateOf := by decide +kernel
  have hl : lv_has ls 2 [(0, .ref m_h), (1, .int v1)] := hl
  unfold p_X10_stateOf at h
  refine lv_aload_n hx hb dX10_stateOf_0 rfl (lv_at hl 0 rfl) ?_
  refine va_get (D := G.1) (ci := 10) (v := .ref (m_q 8)) (C := RX10) (T := TX10) (N := 20) hx hb hts hinX10 hown hK.1 hP 0 rfl rfl 9 (by decide) hf35 (fun _ h9 => h9) rfl dX10_stateOf_1 ?_
  refine lv_iload_n hx hb dX10_stateOf_4 rfl (lv_at hl 1 rfl) ?_
  obtain ⟨g_5, h⟩ := gi_e h
  refine va_iald hx hb hK.1 hP 9 0 rfl rfl g_5 dX10_stateOf_5 ?_
  refine lv_bipush (v := -9) hx hb dX10_stateOf_6 (by decide) ?_
  obtain ⟨m_made_j8, m_standsFor_j8, m_stateFor_j8, hT8, h⟩ := ob3_e h
  have hJ8 : ∀ (m_made_j8x : Int32) (m_standsFor_j8x : AI) (m_stateFor_j8x : AI)  (H : Heap) (locs : List Loc) (ls : Array Slot), some (m_made_j8x, m_standsFor_j8x, m_stateFor_j8x) = some (m_made_j8, m_standsFor_j8, m_stateFor_j8) → va_P G.1 vwCl (WM G m_h m_q m_onBy m_toldBy m_kindsOf m_nextOf m_holdsAt m_made_j8x m_standsFor_j8x m_madeNext m_madeHolds m_stateFor_j8x m_joined m_joinedNow m_firstIn m_orderOf m_classAt m_sets m_waysTo m_waysThen m_queue m_leastTo) H → va_D A (WM G m_h m_q m_onBy m_toldBy m_kindsOf m_nextOf m_holdsAt m_made_j8x m_standsFor_j8x m_madeNext m_madeHolds m_stateFor_j8x m_joined m_joinedNow m_firstIn m_orderOf m_classAt m_sets m_waysTo m_waysThen m_queue m_leastTo) → va_S A s.heap H locs → lv_has ls 2 [(0, .ref m_h), (1, .int v1)] → W p l e rX10_stateOf s m args below meth c H locs 0 0 Q (F0 m 41 ls []) := by
    intro m_made_j8x m_standsFor_j8x m_stateFor_j8x H locs ls hq hP hD hS hl
    obtain ⟨rfl, rfl, rfl⟩ := oi3 hq
    refine lv_aload_n hx hb dX10_stateOf_41 rfl (lv_at hl 0 rfl) ?_
    refine va_get (D := G.1) (ci := 10) (v := .ref (m_q 8)) (C := RX10) (T := TX10) (N := 20) hx hb hts hinX10 hown hK.1 hP 0 rfl rfl 9 (by decide) hf35 (fun _ h9 => h9) rfl dX10_stateOf_42 ?_
    refine lv_iload_n hx hb dX10_stateOf_45 rfl (lv_at hl 1 rfl) ?_
    obtain ⟨g_46, h⟩ := gi_e h
    refine va_iald hx hb hK.1 hP 9 0 rfl rfl g_46 dX10_stateOf_46 ?_
    obtain ⟨rfl, rfl, rfl, rfl⟩ := oi4 h
    exact hret (fun _ => 0) _ _ _ _ _ _ _ dX10_stateOf_47 rfl rfl hP hD hS (Nat.le_of_ble_eq_true rfl) (Nat.le_of_ble_eq_true rfl)
  replace h := hT8
  refine lv_icmp_ne (tgt := 41) hx hb dX10_stateOf_8 (by decide) (fun c_8 => ?_) (fun c_8 => ?_)
  · replace h := (if_neg c_8).symm.trans h
    exact hJ8 _ _ _  _ _ _ h hP hD hS (lv_sub hl [0, 1] rfl)
  · replace h := (if_pos c_8).symm.trans h
    refine lv_aload_n hx hb dX10_stateOf_11 rfl (lv_at hl 0 rfl) ?_
    refine va_get (D := G.1) (ci := 10) (v := .ref (m_q 8)) (C := RX10) (T := TX10) (N := 20) hx hb hts hinX10 hown hK.1 hP 0 rfl rfl 9 (by decide) hf35 (fun _ h9 => h9) rfl dX10_stateOf_12 ?_
    refine lv_iload_n hx hb dX10_stateOf_15 rfl (lv_at hl 1 rfl) ?_
    refine lv_aload_n hx hb dX10_stateOf_16 rfl (lv_at hl 0 rfl) ?_
    refine va_get (D := G.1) (ci := 10) (v := .int m_made) (C := RX10) (T := TX10) (N := 20) hx hb hts hinX10 hown hK.1 hP 0 rfl rfl 5 (by decide) hf81 (fun _ h9 => h9) rfl dX10_stateOf_17 ?_
    obtain ⟨g_20, h⟩ := gi_e h
    refine va_iast hx hb hK.1 hP hD hS 9 0 rfl rfl g_20 dX10_stateOf_20 (fun H locs hP hD hS => ?_)
    have hP : va_P G.1 vwCl (WM G m_h m_q m_onBy m_toldBy m_kindsOf m_nextOf m_holdsAt m_made m_standsFor m_madeNext m_madeHolds (upd m_stateFor v1.toNatClampNeg m_made) m_joined m_joinedNow m_firstIn m_orderOf m_classAt m_sets m_waysTo m_waysThen m_queue m_leastTo) H := hP
    have hD : va_D A (WM G m_h m_q m_onBy m_toldBy m_kindsOf m_nextOf m_holdsAt m_made m_standsFor m_madeNext m_madeHolds (upd m_stateFor v1.toNatClampNeg m_made) m_joined m_joinedNow m_firstIn m_orderOf m_classAt m_sets m_waysTo m_waysThen m_queue m_leastTo) := hD
    refine lv_aload_n hx hb dX10_stateOf_21 rfl (lv_at hl 0 rfl) ?_
    refine va_get (D := G.1) (ci := 10) (v := .ref (m_q 5)) (C := RX10) (T := TX10) (N := 20) hx hb hts hinX10 hown hK.1 hP 0 rfl rfl 6 (by decide) hf26 (fun _ h9 => h9) rfl dX10_stateOf_22 ?_
    refine lv_aload_n hx hb dX10_stateOf_25 rfl (lv_at hl 0 rfl) ?_
    refine va_get (D := G.1) (ci := 10) (v := .int m_made) (C := RX10) (T := TX10) (N := 20) hx hb hts hinX10 hown hK.1 hP 0 rfl rfl 5 (by decide) hf81 (fun _ h9 => h9) rfl dX10_stateOf_26 ?_
    refine lv_iload_n hx hb dX10_stateOf_29 rfl (lv_at hl 1 rfl) ?_
    obtain ⟨g_30, h⟩ := gi_e h
    refine va_iast hx hb hK.1 hP hD hS 6 0 rfl rfl g_30 dX10_stateOf_30 (fun H locs hP hD hS => ?_)
    have hP : va_P G.1 vwCl (WM G m_h m_q m_onBy m_toldBy m_kindsOf m_nextOf m_holdsAt m_made (upd m_standsFor m_made.toNatClampNeg v1) m_madeNext m_madeHolds (upd m_stateFor v1.toNatClampNeg m_made) m_joined m_joinedNow m_firstIn m_orderOf m_classAt m_sets m_waysTo m_waysThen m_queue m_leastTo) H := hP
    have hD : va_D A (WM G m_h m_q m_onBy m_toldBy m_kindsOf m_nextOf m_holdsAt m_made (upd m_standsFor m_made.toNatClampNeg v1) m_madeNext m_madeHolds (upd m_stateFor v1.toNatClampNeg m_made) m_joined m_joinedNow m_firstIn m_orderOf m_classAt m_sets m_waysTo m_waysThen m_queue m_leastTo) := hD
    refine lv_aload_n hx hb dX10_stateOf_31 rfl (lv_at hl 0 rfl) ?_
    refine lv_dup hx hb dX10_stateOf_32 rfl ?_
    refine va_get (D := G.1) (ci := 10) (v := .int m_made) (C := RX10) (T := TX10) (N := 20) hx hb hts hinX10 hown hK.1 hP 0 rfl rfl 5 (by decide) hf81 (fun _ h9 => h9) rfl dX10_stateOf_33 ?_
    refine lv_iconst (v := 1) hx hb dX10_stateOf_36 (by decide) ?_
    refine lv_iadd hx hb dX10_stateOf_37 ?_
    refine va_put (D := G.1) (ci := 10) (v := .int (m_made + (1 : Int32))) (ty := .int) (C := RX10) (T := TX10) (N := 20) hx hb hts hinX10 tyX10 tyX10_ok nmX10 hown hK.1 hP hD hS 0 rfl rfl 5 (by decide) hf81 (fun _ h9 => h9) rfl (by decide +kernel) rfl rfl (Nat.le_of_ble_eq_true rfl) dX10_stateOf_38 (fun H locs hP hD hS => ?_)
    have hP : va_P G.1 vwCl (WM G m_h m_q m_onBy m_toldBy m_kindsOf m_nextOf m_holdsAt (m_made + (1 : Int32)) (upd m_standsFor m_made.toNatClampNeg v1) m_madeNext m_madeHolds (upd m_stateFor v1.toNatClampNeg m_made) m_joined m_joinedNow m_firstIn m_orderOf m_classAt m_sets m_waysTo m_waysThen m_queue m_leastTo) H := hP
    have hD : va_D A (WM G m_h m_q m_onBy m_toldBy m_kindsOf m_nextOf m_holdsAt (m_made + (1 : Int32)) (upd m_standsFor m_made.toNatClampNeg v1) m_madeNext m_madeHolds (upd m_stateFor v1.toNatClampNeg m_made) m_joined m_joinedNow m_firstIn m_orderOf m_classAt m_sets m_waysTo m_waysThen m_queue m_leastTo) := hD
    exact hJ8 _ _ _  _ _ _ h hP hD hS (lv_sub hl [0, 1] rfl)
abbrev rX10_areAlike : Room := { frames := 0, cells := 0, slots := 0, locals := 0 }
set_option maxHeartbeats 4000000 in
set_option maxRecDepth 100000 in
theorem c_X10_areAlike (l : Launch) (G : GG) (n : Nat) (m_h : Nat) (m_q : Nat → Nat) (m_onBy : AI) (m_toldBy : AI) (m_kindsOf : AI) (m_nextOf : AI) (m_holdsAt : AI) (m_made : Int32) (m_standsFor : AI) (m_madeNext : AI) (m_madeHolds : AI) (m_stateFor : AI) (m_joined : AI) (m_joinedNow : AI) (m_firstIn : AI) (m_orderOf : AI) (m_classAt : AI) (m_sets : AL) (m_waysTo : AL) (m_waysThen : AL) (m_queue : AI) (m_leastTo : AL) (v1 : Int32) (v2 : Int32) (r : Int32) (h : p_X10_areAlike n m_madeNext m_joined v1 v2 = some r) : SI l yX10_areAlike wsX10_areAlike rX10_areAlike G [.ref m_h, .int v1, .int v2] (WM G m_h m_q m_onBy m_toldBy m_kindsOf m_nextOf m_holdsAt m_made m_standsFor m_madeNext m_madeHolds m_stateFor m_joined m_joinedNow m_firstIn m_orderOf m_classAt m_sets m_waysTo m_waysThen m_queue m_leastTo) r := by
  refine enterSI (cc := cX10_areAlike) (maxL := 5) (by decide) rfl (Nat.le_of_ble_eq_true rfl) ?_
  intro p e s m args below meth c Q hx hb hml hown hts hK hP hret ls hl
  have hown : s.vm.findClass RX10 = some m.cls := hown
  have hf29 := hts (.fieldLink RX10 29 "DigitClaimsModel" "madeNext" "[I") (by decide +kernel)
  have hf38 := hts (.fieldLink RX10 38 "DigitClaimsModel" "joined" "[I") (by decide +kernel)
  have hinX10 : ∀ w ∈ wsX100, w ∈ wsX10_areAlike := by decide +kernel
  have hl : lv_has ls 5 [(0, .ref m_h), (1, .int v1), (2, .int v2)] := hl
  unfold p_X10_areAlike at h
  refine lv_aload_n hx hb dX10_areAlike_0 rfl (lv_at hl 0 rfl) ?_
  refine va_get (D := G.1) (ci := 10) (v := .ref (m_q 9)) (C := RX10) (T := TX10) (N := 20) hx hb hts hinX10 hown hK.1 hP 0 rfl rfl 10 (by decide) hf38 (fun _ h9 => h9) rfl dX10_areAlike_1 ?_
  refine lv_iload_n hx hb dX10_areAlike_4 rfl (lv_at hl 1 rfl) ?_
  obtain ⟨g_5, h⟩ := gi_e h
  refine va_iald hx hb hK.1 hP 10 0 rfl rfl g_5 dX10_areAlike_5 ?_
  refine lv_aload_n hx hb dX10_areAlike_6 rfl (lv_at hl 0 rfl) ?_
  refine va_get (D := G.1) (ci := 10) (v := .ref (m_q 9)) (C := RX10) (T := TX10) (N := 20) hx hb hts hinX10 hown hK.1 hP 0 rfl rfl 10 (by decide) hf38 (fun _ h9 => h9) rfl dX10_areAlike_7 ?_
  refine lv_iload_n hx hb dX10_areAlike_10 rfl (lv_at hl 2 rfl) ?_
  obtain ⟨g_11, h⟩ := gi_e h
  refine va_iald hx hb hK.1 hP 10 0 rfl rfl g_11 dX10_areAlike_11 ?_
  obtain ⟨j0_12, hT12, h⟩ := ob1_e h
  have hJ12 : ∀ (j0_12x : Int32)  (ls : Array Slot), some j0_12x = some j0_12 → lv_has ls 5 [(0, .ref m_h), (1, .int v1), (2, .int v2)] → W p l e rX10_areAlike s m args below meth c s.heap [] 0 0 Q (F0 m 20 ls [.int j0_12x]) := by
    intro j0_12x ls hq hl
    obtain rfl := oi1 hq
    refine lv_istore_n (lv' := [(3, .int j0_12), (0, .ref m_h), (1, .int v1), (2, .int v2)]) hx hb dX10_areAlike_20 rfl hl (by decide) rfl (fun ls hl => ?_)
    refine lv_iconst (v := 0) hx hb dX10_areAlike_21 (by decide) ?_
    refine lv_istore (lv' := [(4, .int (0 : Int32)), (3, .int j0_12), (0, .ref m_h), (1, .int v1), (2, .int v2)]) hx hb dX10_areAlike_22 hl (by decide) rfl (fun ls hl => ?_)
    obtain ⟨o3_24, hT24, h⟩ := ob1_e h
    have hX24 : ∀ (x3_24 : Int32)  (ls : Array Slot), some x3_24 = some o3_24 → lv_has ls 5 [(3, .int x3_24)] → W p l e rX10_areAlike s m args below meth c s.heap [] 0 0 Q (F0 m 84 ls []) := by
      intro x3_24 ls hq hl
      obtain rfl := oi1 hq
      refine lv_iload_n hx hb dX10_areAlike_84 rfl (lv_at hl 0 rfl) ?_
      obtain ⟨gbv, h⟩ := gb_e h
      obtain rfl := oi1 h
      exact hret _ _ _ dX10_areAlike_85 rfl (nb gbv)
    have hL24 : ∀ (f : Nat) (v3_24 : Int32) (v4_24 : Int32)  (ls : Array Slot), p_X10_areAlike_L24 v1 m_madeNext v2 m_joined f v3_24 v4_24 = some o3_24 → lv_has ls 5 [(0, .ref m_h), (1, .int v1), (2, .int v2), (3, .int v3_24), (4, .int v4_24)] → W p l e rX10_areAlike s m args below meth c s.heap [] 0 0 Q (F0 m 24 ls []) := by
      intro f
      induction f with
      | zero => intro v3_24 v4_24 ls h hl; cases (show none = some _ from h)
      | succ f ih =>
        intro v3_24 v4_24 ls h hl
        rw [p_X10_areAlike_L24] at h
        refine lv_iload hx hb dX10_areAlike_24 (lv_at hl 4 rfl) ?_
        refine lv_bipush (v := 8) hx hb dX10_areAlike_26 (by decide) ?_
        refine lv_icmp_ge (tgt := 84) hx hb dX10_areAlike_28 (by decide) (fun c_28 => ?_) (fun c_28 => ?_)
        · replace h := (if_pos c_28).symm.trans h
          exact hX24 _  _ h (lv_sub hl [3] rfl)
        · replace h := (if_neg c_28).symm.trans h
          refine lv_iload_n hx hb dX10_areAlike_31 rfl (lv_at hl 3 rfl) ?_
          refine lv_if_eq (tgt := 84) hx hb dX10_areAlike_32 (by decide) (fun c_32 => ?_) (fun c_32 => ?_)
          · replace h := (if_pos c_32).symm.trans h
            exact hX24 _  _ h (lv_sub hl [3] rfl)
          · replace h := (if_neg c_32).symm.trans h
            refine lv_aload_n hx hb dX10_areAlike_35 rfl (lv_at hl 0 rfl) ?_
            refine va_get (D := G.1) (ci := 10) (v := .ref (m_q 9)) (C := RX10) (T := TX10) (N := 20) hx hb hts hinX10 hown hK.1 hP 0 rfl rfl 10 (by decide) hf38 (fun _ h9 => h9) rfl dX10_areAlike_36 ?_
            refine lv_aload_n hx hb dX10_areAlike_39 rfl (lv_at hl 0 rfl) ?_
            refine va_get (D := G.1) (ci := 10) (v := .ref (m_q 6)) (C := RX10) (T := TX10) (N := 20) hx hb hts hinX10 hown hK.1 hP 0 rfl rfl 7 (by decide) hf29 (fun _ h9 => h9) rfl dX10_areAlike_40 ?_
            refine lv_bipush (v := 8) hx hb dX10_areAlike_43 (by decide) ?_
            refine lv_iload_n hx hb dX10_areAlike_45 rfl (lv_at hl 1 rfl) ?_
            refine lv_imul hx hb dX10_areAlike_46 ?_
            refine lv_iload hx hb dX10_areAlike_47 (lv_at hl 4 rfl) ?_
            refine lv_iadd hx hb dX10_areAlike_49 ?_
            obtain ⟨g_50, h⟩ := gi_e h
            refine va_iald hx hb hK.1 hP 7 0 rfl rfl g_50 dX10_areAlike_50 ?_
            obtain ⟨g_51, h⟩ := gi_e h
            refine va_iald hx hb hK.1 hP 10 0 rfl rfl g_51 dX10_areAlike_51 ?_
            refine lv_aload_n hx hb dX10_areAlike_52 rfl (lv_at hl 0 rfl) ?_
            refine va_get (D := G.1) (ci := 10) (v := .ref (m_q 9)) (C := RX10) (T := TX10) (N := 20) hx hb hts hinX10 hown hK.1 hP 0 rfl rfl 10 (by decide) hf38 (fun _ h9 => h9) rfl dX10_areAlike_53 ?_
            refine lv_aload_n hx hb dX10_areAlike_56 rfl (lv_at hl 0 rfl) ?_
            refine va_get (D := G.1) (ci := 10) (v := .ref (m_q 6)) (C := RX10) (T := TX10) (N := 20) hx hb hts hinX10 hown hK.1 hP 0 rfl rfl 7 (by decide) hf29 (fun _ h9 => h9) rfl dX10_areAlike_57 ?_
            refine lv_bipush (v := 8) hx hb dX10_areAlike_60 (by decide) ?_
            refine lv_iload_n hx hb dX10_areAlike_62 rfl (lv_at hl 2 rfl) ?_
            refine lv_imul hx hb dX10_areAlike_63 ?_
            refine lv_iload hx hb dX10_areAlike_64 (lv_at hl 4 rfl) ?_
            refine lv_iadd hx hb dX10_areAlike_66 ?_
            obtain ⟨g_67, h⟩ := gi_e h
            refine va_iald hx hb hK.1 hP 7 0 rfl rfl g_67 dX10_areAlike_67 ?_
            obtain ⟨g_68, h⟩ := gi_e h
            refine va_iald hx hb hK.1 hP 10 0 rfl rfl g_68 dX10_areAlike_68 ?_
            obtain ⟨j0_69, hT69, h⟩ := ob1_e h
            have hJ69 : ∀ (j0_69x : Int32)  (ls : Array Slot), some j0_69x = some j0_69 → lv_has ls 5 [(0, .ref m_h), (1, .int v1), (2, .int v2), (4, .int v4_24)] → W p l e rX10_areAlike s m args below meth c s.heap [] 0 0 Q (F0 m 77 ls [.int j0_69x]) := by
              intro j0_69x ls hq hl
              obtain rfl := oi1 hq
              refine lv_istore_n (lv' := [(3, .int j0_69), (0, .ref m_h), (1, .int v1), (2, .int v2), (4, .int v4_24)]) hx hb dX10_areAlike_77 rfl hl (by decide) rfl (fun ls hl => ?_)
              refine lv_iinc (v := (v4_24 + (1 : Int32))) (lv' := [(4, .int (v4_24 + (1 : Int32))), (3, .int j0_69), (0, .ref m_h), (1, .int v1), (2, .int v2)]) hx hb dX10_areAlike_78 hl (k := 4) rfl rfl (by decide) rfl (fun ls hl => ?_)
              refine lv_goto (tgt := 24) hx hb dX10_areAlike_81 (by decide) ?_
              exact ih _ _  _ h (lv_sub hl [2, 3, 4, 1, 0] rfl)
            replace h := hT69
            refine lv_icmp_ne (tgt := 76) hx hb dX10_areAlike_69 (by decide) (fun c_69 => ?_) (fun c_69 => ?_)
            · replace h := (if_neg c_69).symm.trans h
              refine lv_iconst (v := 0) hx hb dX10_areAlike_76 (by decide) ?_
              exact hJ69 _  _ h (lv_sub hl [0, 1, 2, 4] rfl)
            · replace h := (if_pos c_69).symm.trans h
              refine lv_iconst (v := 1) hx hb dX10_areAlike_72 (by decide) ?_
              refine lv_goto (tgt := 77) hx hb dX10_areAlike_73 (by decide) ?_
              exact hJ69 _  _ h (lv_sub hl [0, 1, 2, 4] rfl)
    exact hL24 n _ _  _ hT24 (lv_sub hl [2, 3, 4, 1, 0] rfl)
  replace h := hT12
  refine lv_icmp_ne (tgt := 19) hx hb dX10_areAlike_12 (by decide) (fun c_12 => ?_) (fun c_12 => ?_)
  · replace h := (if_neg c_12).symm.trans h
    refine lv_iconst (v := 0) hx hb dX10_areAlike_19 (by decide) ?_
    exact hJ12 _  _ h (lv_sub hl [0, 1, 2] rfl)
  · replace h := (if_pos c_12).symm.trans h
    refine lv_iconst (v := 1) hx hb dX10_areAlike_15 (by decide) ?_
    refine lv_goto (tgt := 20) hx hb dX10_areAlike_16 (by decide) ?_
    exact hJ12 _  _ h (lv_sub hl [0, 1, 2] rfl)
abbrev rX10_joins : Room := { frames := 1, cells := 0, slots := 0, locals := 24 }
set_option maxHeartbeats 4000000 in
set_option maxRecDepth 100000 in
theorem c_X10_joins (l : Launch) (G : GG) (n : Nat) (m_h : Nat) (m_q : Nat → Nat) (m_onBy : AI) (m_toldBy : AI) (m_kindsOf : AI) (m_nextOf : AI) (m_holdsAt : AI) (m_made : Int32) (m_standsFor : AI) (m_madeNext : AI) (m_madeHolds : AI) (m_stateFor : AI) (m_joined : AI) (m_joinedNow : AI) (m_firstIn : AI) (m_orderOf : AI) (m_classAt : AI) (m_sets : AL) (m_waysTo : AL) (m_waysThen : AL) (m_queue : AI) (m_leastTo : AL)  (sz : Nat) (r : Int32) (m_joined_z : AI) (m_joinedNow_z : AI) (m_firstIn_z : AI) (h : p_X10_joins n m_made m_madeNext m_joined m_joinedNow m_firstIn = some (r, m_joined_z, m_joinedNow_z, m_firstIn_z)) : CI l yX10_joins wsX10_joins rX10_joins G [.ref m_h] (WM G m_h m_q m_onBy m_toldBy m_kindsOf m_nextOf m_holdsAt m_made m_standsFor m_madeNext m_madeHolds m_stateFor m_joined m_joinedNow m_firstIn m_orderOf m_classAt m_sets m_waysTo m_waysThen m_queue m_leastTo) sz r (fun u => WM G m_h m_q m_onBy m_toldBy m_kindsOf m_nextOf m_holdsAt m_made m_standsFor m_madeNext m_madeHolds m_stateFor m_joined_z m_joinedNow_z m_firstIn_z m_orderOf m_classAt m_sets m_waysTo m_waysThen m_queue m_leastTo) := by
  refine enterCI (cc := cX10_joins) (maxL := 4) (by decide) rfl (Nat.le_of_ble_eq_true rfl) ?_
  intro p e s m args below meth c A Q hx hb hml hown hts hK hP hD hS hA hret ls hl
  have hown : s.vm.findClass RX10 = some m.cls := hown
  have hf38 := hts (.fieldLink RX10 38 "DigitClaimsModel" "joined" "[I") (by decide +kernel)
  have hf41 := hts (.fieldLink RX10 41 "DigitClaimsModel" "joinedNow" "[I") (by decide +kernel)
  have hf44 := hts (.fieldLink RX10 44 "DigitClaimsModel" "firstIn" "[I") (by decide +kernel)
  have hf81 := hts (.fieldLink RX10 81 "DigitClaimsModel" "made" "I") (by decide +kernel)
  have hinX10 : ∀ w ∈ wsX100, w ∈ wsX10_joins := by decide +kernel
  have hl : lv_has ls 4 [(0, .ref m_h)] := hl
  unfold p_X10_joins at h
  refine lv_iconst (v := 0) hx hb dX10_joins_0 (by decide) ?_
  refine lv_istore_n (lv' := [(1, .int (0 : Int32)), (0, .ref m_h)]) hx hb dX10_joins_1 rfl hl (by decide) rfl (fun ls hl => ?_)
  refine lv_iconst (v := 0) hx hb dX10_joins_2 (by decide) ?_
  refine lv_istore_n (lv' := [(2, .int (0 : Int32)), (1, .int (0 : Int32)), (0, .ref m_h)]) hx hb dX10_joins_3 rfl hl (by decide) rfl (fun ls hl => ?_)
  obtain ⟨o_4, hT4, hd4⟩ := obS3_e h
  have hX4 : ∀ (x1_4 : Int32) (m_joinedNow_o4x : AI) (m_firstIn_o4x : AI)  (H : Heap) (locs : List Loc) (ls : Array Slot), some (Sum.inr (x1_4, m_joinedNow_o4x, m_firstIn_o4x)) = some o_4 → va_P G.1 vwCl (WM G m_h m_q m_onBy m_toldBy m_kindsOf m_nextOf m_holdsAt m_made m_standsFor m_madeNext m_madeHolds m_stateFor m_joined m_joinedNow_o4x m_firstIn_o4x m_orderOf m_classAt m_sets m_waysTo m_waysThen m_queue m_leastTo) H → va_D A (WM G m_h m_q m_onBy m_toldBy m_kindsOf m_nextOf m_holdsAt m_made m_standsFor m_madeNext m_madeHolds m_stateFor m_joined m_joinedNow_o4x m_firstIn_o4x m_orderOf m_classAt m_sets m_waysTo m_waysThen m_queue m_leastTo) → va_S A s.heap H locs → lv_has ls 4 [(0, .ref m_h), (1, .int x1_4)] → W p l e rX10_joins s m args below meth c H locs 0 0 Q (F0 m 76 ls []) := by
    intro x1_4 m_joinedNow_o4x m_firstIn_o4x H locs ls hq hP hD hS hl
    rcases hd4 with ⟨x, hx1, h⟩ | ⟨o1_4, m_joinedNow_o4, m_firstIn_o4, hx1, h⟩
    · rw [hx1] at hq; cases hq
    rw [hx1] at hq
    obtain ⟨rfl, rfl, rfl⟩ := oiS3 hq
    refine lv_iconst (v := 0) hx hb dX10_joins_76 (by decide) ?_
    refine lv_istore_n (lv' := [(2, .int (0 : Int32)), (0, .ref m_h), (1, .int o1_4)]) hx hb dX10_joins_77 rfl hl (by decide) rfl (fun ls hl => ?_)
    obtain ⟨m_joined_o78, hT78, h⟩ := ob1_e h
    have hX78 : ∀ (m_joined_o78x : AI)  (H : Heap) (locs : List Loc) (ls : Array Slot), some m_joined_o78x = some m_joined_o78 → va_P G.1 vwCl (WM G m_h m_q m_onBy m_toldBy m_kindsOf m_nextOf m_holdsAt m_made m_standsFor m_madeNext m_madeHolds m_stateFor m_joined_o78x m_joinedNow_o4 m_firstIn_o4 m_orderOf m_classAt m_sets m_waysTo m_waysThen m_queue m_leastTo) H → va_D A (WM G m_h m_q m_onBy m_toldBy m_kindsOf m_nextOf m_holdsAt m_made m_standsFor m_madeNext m_madeHolds m_stateFor m_joined_o78x m_joinedNow_o4 m_firstIn_o4 m_orderOf m_classAt m_sets m_waysTo m_waysThen m_queue m_leastTo) → va_S A s.heap H locs → lv_has ls 4 [(1, .int o1_4)] → W p l e rX10_joins s m args below meth c H locs 0 0 Q (F0 m 104 ls []) := by
      intro m_joined_o78x H locs ls hq hP hD hS hl
      obtain rfl := oi1 hq
      refine lv_iload_n hx hb dX10_joins_104 rfl (lv_at hl 0 rfl) ?_
      obtain ⟨rfl, rfl, rfl, rfl⟩ := oi4 h
      exact hret (fun _ => 0) _ _ _ _ _ _ _ dX10_joins_105 rfl rfl hP hD hS (Nat.le_of_ble_eq_true rfl) (Nat.le_of_ble_eq_true rfl)
    have hL78 : ∀ (f : Nat) (v2_78 : Int32) (m_joined_78 : AI)  (H : Heap) (locs : List Loc) (ls : Array Slot), p_X10_joins_L78 m_made m_joinedNow_o4 f v2_78 m_joined_78 = some m_joined_o78 → va_P G.1 vwCl (WM G m_h m_q m_onBy m_toldBy m_kindsOf m_nextOf m_holdsAt m_made m_standsFor m_madeNext m_madeHolds m_stateFor m_joined_78 m_joinedNow_o4 m_firstIn_o4 m_orderOf m_classAt m_sets m_waysTo m_waysThen m_queue m_leastTo) H → va_D A (WM G m_h m_q m_onBy m_toldBy m_kindsOf m_nextOf m_holdsAt m_made m_standsFor m_madeNext m_madeHolds m_stateFor m_joined_78 m_joinedNow_o4 m_firstIn_o4 m_orderOf m_classAt m_sets m_waysTo m_waysThen m_queue m_leastTo) → va_S A s.heap H locs → lv_has ls 4 [(0, .ref m_h), (1, .int o1_4), (2, .int v2_78)] → W p l e rX10_joins s m args below meth c H locs 0 0 Q (F0 m 78 ls []) := by
      intro f
      induction f with
      | zero => intro v2_78 m_joined_78 H locs ls h hP hD hS hl; cases (show none = some _ from h)
      | succ f ih =>
        intro v2_78 m_joined_78 H locs ls h hP hD hS hl
        rw [p_X10_joins_L78] at h
        refine lv_iload_n hx hb dX10_joins_78 rfl (lv_at hl 2 rfl) ?_
        refine lv_aload_n hx hb dX10_joins_79 rfl (lv_at hl 0 rfl) ?_
        refine va_get (D := G.1) (ci := 10) (v := .int m_made) (C := RX10) (T := TX10) (N := 20) hx hb hts hinX10 hown hK.1 hP 0 rfl rfl 5 (by decide) hf81 (fun _ h9 => h9) rfl dX10_joins_80 ?_
        refine lv_icmp_ge (tgt := 104) hx hb dX10_joins_83 (by decide) (fun c_83 => ?_) (fun c_83 => ?_)
        · replace h := (if_pos c_83).symm.trans h
          exact hX78 _  _ _ _ h hP hD hS (lv_sub hl [1] rfl)
        · replace h := (if_neg c_83).symm.trans h
          refine lv_aload_n hx hb dX10_joins_86 rfl (lv_at hl 0 rfl) ?_
          refine va_get (D := G.1) (ci := 10) (v := .ref (m_q 9)) (C := RX10) (T := TX10) (N := 20) hx hb hts hinX10 hown hK.1 hP 0 rfl rfl 10 (by decide) hf38 (fun _ h9 => h9) rfl dX10_joins_87 ?_
          refine lv_iload_n hx hb dX10_joins_90 rfl (lv_at hl 2 rfl) ?_
          refine lv_aload_n hx hb dX10_joins_91 rfl (lv_at hl 0 rfl) ?_
          refine va_get (D := G.1) (ci := 10) (v := .ref (m_q 10)) (C := RX10) (T := TX10) (N := 20) hx hb hts hinX10 hown hK.1 hP 0 rfl rfl 11 (by decide) hf41 (fun _ h9 => h9) rfl dX10_joins_92 ?_
          refine lv_iload_n hx hb dX10_joins_95 rfl (lv_at hl 2 rfl) ?_
          obtain ⟨g_96, h⟩ := gi_e h
          refine va_iald hx hb hK.1 hP 11 0 rfl rfl g_96 dX10_joins_96 ?_
          obtain ⟨g_97, h⟩ := gi_e h
          refine va_iast hx hb hK.1 hP hD hS 10 0 rfl rfl g_97 dX10_joins_97 (fun H locs hP hD hS => ?_)
          have hP : va_P G.1 vwCl (WM G m_h m_q m_onBy m_toldBy m_kindsOf m_nextOf m_holdsAt m_made m_standsFor m_madeNext m_madeHolds m_stateFor (upd m_joined_78 v2_78.toNatClampNeg (m_joinedNow_o4 v2_78.toNatClampNeg)) m_joinedNow_o4 m_firstIn_o4 m_orderOf m_classAt m_sets m_waysTo m_waysThen m_queue m_leastTo) H := hP
          have hD : va_D A (WM G m_h m_q m_onBy m_toldBy m_kindsOf m_nextOf m_holdsAt m_made m_standsFor m_madeNext m_madeHolds m_stateFor (upd m_joined_78 v2_78.toNatClampNeg (m_joinedNow_o4 v2_78.toNatClampNeg)) m_joinedNow_o4 m_firstIn_o4 m_orderOf m_classAt m_sets m_waysTo m_waysThen m_queue m_leastTo) := hD
          refine lv_iinc (v := (v2_78 + (1 : Int32))) (lv' := [(2, .int (v2_78 + (1 : Int32))), (0, .ref m_h), (1, .int o1_4)]) hx hb dX10_joins_98 hl (k := 2) rfl rfl (by decide) rfl (fun ls hl => ?_)
          refine lv_goto (tgt := 78) hx hb dX10_joins_101 (by decide) ?_
          exact ih _ _  _ _ _ h hP hD hS (lv_sub hl [1, 2, 0] rfl)
    exact hL78 n _ _  _ _ _ hT78 hP hD hS (lv_sub hl [1, 2, 0] rfl)
  have hL4 : ∀ (f : Nat) (v1_4 : Int32) (v2_4 : Int32) (m_joinedNow_4 : AI) (m_firstIn_4 : AI)  (H : Heap) (locs : List Loc) (ls : Array Slot), p_X10_joins_L4 n m_made m_madeNext m_joined f v1_4 v2_4 m_joinedNow_4 m_firstIn_4 = some o_4 → va_P G.1 vwCl (WM G m_h m_q m_onBy m_toldBy m_kindsOf m_nextOf m_holdsAt m_made m_standsFor m_madeNext m_madeHolds m_stateFor m_joined m_joinedNow_4 m_firstIn_4 m_orderOf m_classAt m_sets m_waysTo m_waysThen m_queue m_leastTo) H → va_D A (WM G m_h m_q m_onBy m_toldBy m_kindsOf m_nextOf m_holdsAt m_made m_standsFor m_madeNext m_madeHolds m_stateFor m_joined m_joinedNow_4 m_firstIn_4 m_orderOf m_classAt m_sets m_waysTo m_waysThen m_queue m_leastTo) → va_S A s.heap H locs → lv_has ls 4 [(0, .ref m_h), (1, .int v1_4), (2, .int v2_4)] → W p l e rX10_joins s m args below meth c H locs 0 0 Q (F0 m 4 ls []) := by
    intro f
    induction f with
    | zero => intro v1_4 v2_4 m_joinedNow_4 m_firstIn_4 H locs ls h hP hD hS hl; cases (show none = some _ from h)
    | succ f ih =>
      intro v1_4 v2_4 m_joinedNow_4 m_firstIn_4 H locs ls h hP hD hS hl
      rw [p_X10_joins_L4] at h
      refine lv_iload_n hx hb dX10_joins_4 rfl (lv_at hl 2 rfl) ?_
      refine lv_aload_n hx hb dX10_joins_5 rfl (lv_at hl 0 rfl) ?_
      refine va_get (D := G.1) (ci := 10) (v := .int m_made) (C := RX10) (T := TX10) (N := 20) hx hb hts hinX10 hown hK.1 hP 0 rfl rfl 5 (by decide) hf81 (fun _ h9 => h9) rfl dX10_joins_6 ?_
      refine lv_icmp_ge (tgt := 76) hx hb dX10_joins_9 (by decide) (fun c_9 => ?_) (fun c_9 => ?_)
      · replace h := (if_pos c_9).symm.trans h
        exact hX4 _ _ _  _ _ _ h hP hD hS (lv_sub hl [0, 1] rfl)
      · replace h := (if_neg c_9).symm.trans h
        refine lv_iconst (v := 0) hx hb dX10_joins_12 (by decide) ?_
        refine lv_istore_n (lv' := [(3, .int (0 : Int32)), (0, .ref m_h), (1, .int v1_4), (2, .int v2_4)]) hx hb dX10_joins_13 rfl hl (by decide) rfl (fun ls hl => ?_)
        obtain ⟨o3_14, hT14, h⟩ := ob1_e h
        have hX14 : ∀ (x3_14 : Int32)  (H : Heap) (locs : List Loc) (ls : Array Slot), some x3_14 = some o3_14 → va_P G.1 vwCl (WM G m_h m_q m_onBy m_toldBy m_kindsOf m_nextOf m_holdsAt m_made m_standsFor m_madeNext m_madeHolds m_stateFor m_joined m_joinedNow_4 m_firstIn_4 m_orderOf m_classAt m_sets m_waysTo m_waysThen m_queue m_leastTo) H → va_D A (WM G m_h m_q m_onBy m_toldBy m_kindsOf m_nextOf m_holdsAt m_made m_standsFor m_madeNext m_madeHolds m_stateFor m_joined m_joinedNow_4 m_firstIn_4 m_orderOf m_classAt m_sets m_waysTo m_waysThen m_queue m_leastTo) → va_S A s.heap H locs → lv_has ls 4 [(0, .ref m_h), (1, .int v1_4), (2, .int v2_4), (3, .int x3_14)] → W p l e rX10_joins s m args below meth c H locs 0 0 Q (F0 m 39 ls []) := by
          intro x3_14 H locs ls hq hP hD hS hl
          obtain rfl := oi1 hq
          refine lv_iload_n hx hb dX10_joins_39 rfl (lv_at hl 3 rfl) ?_
          refine lv_iload_n hx hb dX10_joins_40 rfl (lv_at hl 1 rfl) ?_
          refine lv_icmp_ne (tgt := 63) hx hb dX10_joins_41 (by decide) (fun c_41 => ?_) (fun c_41 => ?_)
          · replace h := (if_neg c_41).symm.trans h
            refine lv_aload_n hx hb dX10_joins_63 rfl (lv_at hl 0 rfl) ?_
            refine va_get (D := G.1) (ci := 10) (v := .ref (m_q 10)) (C := RX10) (T := TX10) (N := 20) hx hb hts hinX10 hown hK.1 hP 0 rfl rfl 11 (by decide) hf41 (fun _ h9 => h9) rfl dX10_joins_64 ?_
            refine lv_iload_n hx hb dX10_joins_67 rfl (lv_at hl 2 rfl) ?_
            refine lv_iload_n hx hb dX10_joins_68 rfl (lv_at hl 3 rfl) ?_
            obtain ⟨g_69, h⟩ := gi_e h
            refine va_iast hx hb hK.1 hP hD hS 11 0 rfl rfl g_69 dX10_joins_69 (fun H locs hP hD hS => ?_)
            have hP : va_P G.1 vwCl (WM G m_h m_q m_onBy m_toldBy m_kindsOf m_nextOf m_holdsAt m_made m_standsFor m_madeNext m_madeHolds m_stateFor m_joined (upd m_joinedNow_4 v2_4.toNatClampNeg o3_14) m_firstIn_4 m_orderOf m_classAt m_sets m_waysTo m_waysThen m_queue m_leastTo) H := hP
            have hD : va_D A (WM G m_h m_q m_onBy m_toldBy m_kindsOf m_nextOf m_holdsAt m_made m_standsFor m_madeNext m_madeHolds m_stateFor m_joined (upd m_joinedNow_4 v2_4.toNatClampNeg o3_14) m_firstIn_4 m_orderOf m_classAt m_sets m_waysTo m_waysThen m_queue m_leastTo) := hD
            refine lv_iinc (v := (v2_4 + (1 : Int32))) (lv' := [(2, .int (v2_4 + (1 : Int32))), (0, .ref m_h), (1, .int v1_4), (3, .int o3_14)]) hx hb dX10_joins_70 hl (k := 2) rfl rfl (by decide) rfl (fun ls hl => ?_)
            refine lv_goto (tgt := 4) hx hb dX10_joins_73 (by decide) ?_
            exact ih _ _ _ _  _ _ _ h hP hD hS (lv_sub hl [1, 2, 0] rfl)
          · replace h := (if_pos c_41).symm.trans h
            refine lv_iload_n hx hb dX10_joins_44 rfl (lv_at hl 1 rfl) ?_
            refine lv_bipush (v := 60) hx hb dX10_joins_45 (by decide) ?_
            refine lv_icmp_ne (tgt := 53) hx hb dX10_joins_47 (by decide) (fun c_47 => ?_) (fun c_47 => ?_)
            · replace h := (if_neg c_47).symm.trans h
              refine lv_aload_n hx hb dX10_joins_53 rfl (lv_at hl 0 rfl) ?_
              refine va_get (D := G.1) (ci := 10) (v := .ref (m_q 11)) (C := RX10) (T := TX10) (N := 20) hx hb hts hinX10 hown hK.1 hP 0 rfl rfl 12 (by decide) hf44 (fun _ h9 => h9) rfl dX10_joins_54 ?_
              refine lv_iload_n hx hb dX10_joins_57 rfl (lv_at hl 1 rfl) ?_
              refine lv_iload_n hx hb dX10_joins_58 rfl (lv_at hl 2 rfl) ?_
              obtain ⟨g_59, h⟩ := gi_e h
              refine va_iast hx hb hK.1 hP hD hS 12 0 rfl rfl g_59 dX10_joins_59 (fun H locs hP hD hS => ?_)
              have hP : va_P G.1 vwCl (WM G m_h m_q m_onBy m_toldBy m_kindsOf m_nextOf m_holdsAt m_made m_standsFor m_madeNext m_madeHolds m_stateFor m_joined m_joinedNow_4 (upd m_firstIn_4 v1_4.toNatClampNeg v2_4) m_orderOf m_classAt m_sets m_waysTo m_waysThen m_queue m_leastTo) H := hP
              have hD : va_D A (WM G m_h m_q m_onBy m_toldBy m_kindsOf m_nextOf m_holdsAt m_made m_standsFor m_madeNext m_madeHolds m_stateFor m_joined m_joinedNow_4 (upd m_firstIn_4 v1_4.toNatClampNeg v2_4) m_orderOf m_classAt m_sets m_waysTo m_waysThen m_queue m_leastTo) := hD
              refine lv_iinc (v := (v1_4 + (1 : Int32))) (lv' := [(1, .int (v1_4 + (1 : Int32))), (0, .ref m_h), (2, .int v2_4), (3, .int o3_14)]) hx hb dX10_joins_60 hl (k := 1) rfl rfl (by decide) rfl (fun ls hl => ?_)
              refine lv_aload_n hx hb dX10_joins_63 rfl (lv_at hl 1 rfl) ?_
              refine va_get (D := G.1) (ci := 10) (v := .ref (m_q 10)) (C := RX10) (T := TX10) (N := 20) hx hb hts hinX10 hown hK.1 hP 0 rfl rfl 11 (by decide) hf41 (fun _ h9 => h9) rfl dX10_joins_64 ?_
              refine lv_iload_n hx hb dX10_joins_67 rfl (lv_at hl 2 rfl) ?_
              refine lv_iload_n hx hb dX10_joins_68 rfl (lv_at hl 3 rfl) ?_
              obtain ⟨g_69, h⟩ := gi_e h
              refine va_iast hx hb hK.1 hP hD hS 11 0 rfl rfl g_69 dX10_joins_69 (fun H locs hP hD hS => ?_)
              have hP : va_P G.1 vwCl (WM G m_h m_q m_onBy m_toldBy m_kindsOf m_nextOf m_holdsAt m_made m_standsFor m_madeNext m_madeHolds m_stateFor m_joined (upd m_joinedNow_4 v2_4.toNatClampNeg o3_14) (upd m_firstIn_4 v1_4.toNatClampNeg v2_4) m_orderOf m_classAt m_sets m_waysTo m_waysThen m_queue m_leastTo) H := hP
              have hD : va_D A (WM G m_h m_q m_onBy m_toldBy m_kindsOf m_nextOf m_holdsAt m_made m_standsFor m_madeNext m_madeHolds m_stateFor m_joined (upd m_joinedNow_4 v2_4.toNatClampNeg o3_14) (upd m_firstIn_4 v1_4.toNatClampNeg v2_4) m_orderOf m_classAt m_sets m_waysTo m_waysThen m_queue m_leastTo) := hD
              refine lv_iinc (v := (v2_4 + (1 : Int32))) (lv' := [(2, .int (v2_4 + (1 : Int32))), (1, .int (v1_4 + (1 : Int32))), (0, .ref m_h), (3, .int o3_14)]) hx hb dX10_joins_70 hl (k := 2) rfl rfl (by decide) rfl (fun ls hl => ?_)
              refine lv_goto (tgt := 4) hx hb dX10_joins_73 (by decide) ?_
              exact ih _ _ _ _  _ _ _ h hP hD hS (lv_sub hl [2, 1, 0] rfl)
            · replace h := (if_pos c_47).symm.trans h
              refine lv_bipush (v := 61) hx hb dX10_joins_50 (by decide) ?_
              rcases hd4 with ⟨x, hx1, h2⟩ | ⟨_, _, _, hx1, _⟩
              · rw [hx1] at h
                have hx2 := oiL h
                rw [hx2] at h2
                replace h := h2
                obtain ⟨rfl, rfl, rfl, rfl⟩ := oi4 h
                exact hret (fun _ => 0) _ _ _ _ _ _ _ dX10_joins_52 rfl rfl hP hD hS (Nat.le_of_ble_eq_true rfl) (Nat.le_of_ble_eq_true rfl)
              · rw [hx1] at h; cases h
        have hL14 : ∀ (f : Nat) (v3_14 : Int32)  (H : Heap) (locs : List Loc) (ls : Array Slot), p_X10_joins_L14 n v1_4 m_madeNext m_joined m_firstIn_4 v2_4 f v3_14 = some o3_14 → va_P G.1 vwCl (WM G m_h m_q m_onBy m_toldBy m_kindsOf m_nextOf m_holdsAt m_made m_standsFor m_madeNext m_madeHolds m_stateFor m_joined m_joinedNow_4 m_firstIn_4 m_orderOf m_classAt m_sets m_waysTo m_waysThen m_queue m_leastTo) H → va_D A (WM G m_h m_q m_onBy m_toldBy m_kindsOf m_nextOf m_holdsAt m_made m_standsFor m_madeNext m_madeHolds m_stateFor m_joined m_joinedNow_4 m_firstIn_4 m_orderOf m_classAt m_sets m_waysTo m_waysThen m_queue m_leastTo) → va_S A s.heap H locs → lv_has ls 4 [(0, .ref m_h), (1, .int v1_4), (2, .int v2_4), (3, .int v3_14)] → W p l e rX10_joins s m args below meth c H locs 0 0 Q (F0 m 14 ls []) := by
          intro f
          induction f with
          | zero => intro v3_14 H locs ls h hP hD hS hl; cases (show none = some _ from h)
          | succ f ih =>
            intro v3_14 H locs ls h hP hD hS hl
            rw [p_X10_joins_L14] at h
            refine lv_iload_n hx hb dX10_joins_14 rfl (lv_at hl 3 rfl) ?_
            refine lv_iload_n hx hb dX10_joins_15 rfl (lv_at hl 1 rfl) ?_
            refine lv_icmp_ge (tgt := 39) hx hb dX10_joins_16 (by decide) (fun c_16 => ?_) (fun c_16 => ?_)
            · replace h := (if_pos c_16).symm.trans h
              exact hX14 _  _ _ _ h hP hD hS (lv_sub hl [0, 1, 2, 3] rfl)
            · replace h := (if_neg c_16).symm.trans h
              refine lv_aload_n hx hb dX10_joins_19 rfl (lv_at hl 0 rfl) ?_
              refine lv_aload_n hx hb dX10_joins_20 rfl (lv_at hl 0 rfl) ?_
              refine va_get (D := G.1) (ci := 10) (v := .ref (m_q 11)) (C := RX10) (T := TX10) (N := 20) hx hb hts hinX10 hown hK.1 hP 0 rfl rfl 12 (by decide) hf44 (fun _ h9 => h9) rfl dX10_joins_21 ?_
              refine lv_iload_n hx hb dX10_joins_24 rfl (lv_at hl 3 rfl) ?_
              obtain ⟨g_25, h⟩ := gi_e h
              refine va_iald hx hb hK.1 hP 12 0 rfl rfl g_25 dX10_joins_25 ?_
              refine lv_iload_n hx hb dX10_joins_26 rfl (lv_at hl 2 rfl) ?_
              obtain ⟨r_27, hc_27, h⟩ := ob1_e h
              refine k_si (va_runV (As := [.int (m_firstIn_4 v3_14.toNatClampNeg), .int v2_4]) (rest := []) ⟨hx, hb, hml, hown, hts⟩ (c_X10_areAlike l G n m_h m_q m_onBy m_toldBy m_kindsOf m_nextOf m_holdsAt m_made m_standsFor m_madeNext m_madeHolds m_stateFor m_joined m_joinedNow_4 m_firstIn_4 m_orderOf m_classAt m_sets m_waysTo m_waysThen m_queue m_leastTo (m_firstIn_4 v3_14.toNatClampNeg) v2_4 r_27 hc_27) (cwV 2 hts gX10_joins_X10_areAlike rfl rfl rfl ⟨rfl, eX10_areAlike⟩ ⟨Nat.le_of_ble_eq_true rfl, Nat.le_of_ble_eq_true rfl⟩) (preSV (ci := 10) (q0 := 0) hK hP rfl rfl) rfl rfl hl.1 rfl (lv_room (Nat.le_of_ble_eq_true rfl)) dX10_joins_27 ⟨Nat.le_of_ble_eq_true rfl, Nat.le_of_ble_eq_true rfl⟩) ?_
              refine lv_if_ne (tgt := 39) hx hb dX10_joins_30 (by decide) (fun c_30 => ?_) (fun c_30 => ?_)
              · replace h := (if_neg c_30).symm.trans h
                exact hX14 _  _ _ _ h hP hD hS (lv_sub hl [0, 1, 2, 3] rfl)
              · replace h := (if_pos c_30).symm.trans h
                refine lv_iinc (v := (v3_14 + (1 : Int32))) (lv' := [(3, .int (v3_14 + (1 : Int32))), (0, .ref m_h), (1, .int v1_4), (2, .int v2_4)]) hx hb dX10_joins_33 hl (k := 3) rfl rfl (by decide) rfl (fun ls hl => ?_)
                refine lv_goto (tgt := 14) hx hb dX10_joins_36 (by decide) ?_
                exact ih _  _ _ _ h hP hD hS (lv_sub hl [1, 2, 3, 0] rfl)
        exact hL14 n _  _ _ _ hT14 hP hD hS (lv_sub hl [1, 2, 3, 0] rfl)
  exact hL4 n _ _ _ _  _ _ _ hT4 hP hD hS (lv_sub hl [2, 1, 0] rfl)
abbrev rX10_becomes : Room := { frames := 2, cells := 0, slots := 0, locals := 47 }
set_option maxHeartbeats 4000000 in
set_option maxRecDepth 100000 in
theorem c_X10_becomes (l : Launch) (G : GG) (n : Nat) (m_h : Nat) (m_q : Nat → Nat) (m_onBy : AI) (m_toldBy : AI) (m_kindsOf : AI) (m_nextOf : AI) (m_holdsAt : AI) (m_made : Int32) (m_standsFor : AI) (m_madeNext : AI) (m_madeHolds : AI) (m_stateFor : AI) (m_joined : AI) (m_joinedNow : AI) (m_firstIn : AI) (m_orderOf : AI) (m_classAt : AI) (m_sets : AL) (m_waysTo : AL) (m_waysThen : AL) (m_queue : AI) (m_leastTo : AL) (v1 : Int32) (sz : Nat) (r : Int32) (m_kindsOf_z : AI) (m_nextOf_z : AI) (m_holdsAt_z : AI) (m_joined_z : AI) (m_joinedNow_z : AI) (m_firstIn_z : AI) (m_orderOf_z : AI) (m_classAt_z : AI) (h : p_X10_becomes n m_kindsOf m_nextOf m_holdsAt m_made m_madeNext m_madeHolds m_joined m_joinedNow m_firstIn m_orderOf m_classAt v1 = some (r, m_kindsOf_z, m_nextOf_z, m_holdsAt_z, m_joined_z, m_joinedNow_z, m_firstIn_z, m_orderOf_z, m_classAt_z)) : CI l yX10_becomes wsX10_becomes rX10_becomes G [.ref m_h, .int v1] (WM G m_h m_q m_onBy m_toldBy m_kindsOf m_nextOf m_holdsAt m_made m_standsFor m_madeNext m_madeHolds m_stateFor m_joined m_joinedNow m_firstIn m_orderOf m_classAt m_sets m_waysTo m_waysThen m_queue m_leastTo) sz r (fun u => WM G m_h m_q m_onBy m_toldBy m_kindsOf_z m_nextOf_z m_holdsAt_z m_made m_standsFor m_madeNext m_madeHolds m_stateFor m_joined_z m_joinedNow_z m_firstIn_z m_orderOf_z m_classAt_z m_sets m_waysTo m_waysThen m_queue m_leastTo) := by
  refine enterCI (cc := cX10_becomes) (maxL := 9) (by decide) rfl (Nat.le_of_ble_eq_true rfl) ?_
  intro p e s m args below meth c A Q hx hb hml hown hts hK hP hD hS hA hret ls hl
  have hown : s.vm.findClass RX10 = some m.cls := hown
  have hf16 := hts (.fieldLink RX10 16 "DigitClaimsModel" "kindsOf" "[I") (by decide +kernel)
  have hf19 := hts (.fieldLink RX10 19 "DigitClaimsModel" "nextOf" "[I") (by decide +kernel)
  have hf22 := hts (.fieldLink RX10 22 "DigitClaimsModel" "holdsAt" "[Z") (by decide +kernel)
  have hf29 := hts (.fieldLink RX10 29 "DigitClaimsModel" "madeNext" "[I") (by decide +kernel)
  have hf32 := hts (.fieldLink RX10 32 "DigitClaimsModel" "madeHolds" "[Z") (by decide +kernel)
  have hf38 := hts (.fieldLink RX10 38 "DigitClaimsModel" "joined" "[I") (by decide +kernel)
  have hf44 := hts (.fieldLink RX10 44 "DigitClaimsModel" "firstIn" "[I") (by decide +kernel)
  have hf47 := hts (.fieldLink RX10 47 "DigitClaimsModel" "orderOf" "[I") (by decide +kernel)
  have hf50 := hts (.fieldLink RX10 50 "DigitClaimsModel" "classAt" "[I") (by decide +kernel)
  have hf81 := hts (.fieldLink RX10 81 "DigitClaimsModel" "made" "I") (by decide +kernel)
  have hinX10 : ∀ w ∈ wsX100, w ∈ wsX10_becomes := by decide +kernel
  have hl : lv_has ls 9 [(0, .ref m_h), (1, .int v1)] := hl
  unfold p_X10_becomes at h
  refine lv_iconst (v := 0) hx hb dX10_becomes_0 (by decide) ?_
  refine lv_istore_n (lv' := [(2, .int (0 : Int32)), (0, .ref m_h), (1, .int v1)]) hx hb dX10_becomes_1 rfl hl (by decide) rfl (fun ls hl => ?_)
  refine lv_iconst (v := -1) hx hb dX10_becomes_2 (by decide) ?_
  refine lv_istore_n (lv' := [(3, .int (-1 : Int32)), (2, .int (0 : Int32)), (0, .ref m_h), (1, .int v1)]) hx hb dX10_becomes_3 rfl hl (by decide) rfl (fun ls hl => ?_)
  refine lv_iconst (v := 0) hx hb dX10_becomes_4 (by decide) ?_
  refine lv_istore (lv' := [(4, .int (0 : Int32)), (3, .int (-1 : Int32)), (2, .int (0 : Int32)), (0, .ref m_h), (1, .int v1)]) hx hb dX10_becomes_5 hl (by decide) rfl (fun ls hl => ?_)
  obtain ⟨m_joined_o7, hT7, h⟩ := ob1_e h
  have hX7 : ∀ (m_joined_o7x : AI)  (H : Heap) (locs : List Loc) (ls : Array Slot), some m_joined_o7x = some m_joined_o7 → va_P G.1 vwCl (WM G m_h m_q m_onBy m_toldBy m_kindsOf m_nextOf m_holdsAt m_made m_standsFor m_madeNext m_madeHolds m_stateFor m_joined_o7x m_joinedNow m_firstIn m_orderOf m_classAt m_sets m_waysTo m_waysThen m_queue m_leastTo) H → va_D A (WM G m_h m_q m_onBy m_toldBy m_kindsOf m_nextOf m_holdsAt m_made m_standsFor m_madeNext m_madeHolds m_stateFor m_joined_o7x m_joinedNow m_firstIn m_orderOf m_classAt m_sets m_waysTo m_waysThen m_queue m_leastTo) → va_S A s.heap H locs → lv_has ls 9 [(0, .ref m_h), (1, .int v1), (2, .int (0 : Int32)), (3, .int (-1 : Int32))] → W p l e rX10_becomes s m args below meth c H locs 0 0 Q (F0 m 44 ls []) := by
    intro m_joined_o7x H locs ls hq hP hD hS hl
    obtain rfl := oi1 hq
    obtain ⟨o_44, hT44, hd44⟩ := obS4_e h
    have hX44 : ∀ (x2_44 : Int32) (m_joined_o44x : AI) (m_joinedNow_o44x : AI) (m_firstIn_o44x : AI)  (H : Heap) (locs : List Loc) (ls : Array Slot), some (Sum.inr (x2_44, m_joined_o44x, m_joinedNow_o44x, m_firstIn_o44x)) = some o_44 → va_P G.1 vwCl (WM G m_h m_q m_onBy m_toldBy m_kindsOf m_nextOf m_holdsAt m_made m_standsFor m_madeNext m_madeHolds m_stateFor m_joined_o44x m_joinedNow_o44x m_firstIn_o44x m_orderOf m_classAt m_sets m_waysTo m_waysThen m_queue m_leastTo) H → va_D A (WM G m_h m_q m_onBy m_toldBy m_kindsOf m_nextOf m_holdsAt m_made m_standsFor m_madeNext m_madeHolds m_stateFor m_joined_o44x m_joinedNow_o44x m_firstIn_o44x m_orderOf m_classAt m_sets m_waysTo m_waysThen m_queue m_leastTo) → va_S A s.heap H locs → lv_has ls 9 [(0, .ref m_h), (1, .int v1), (2, .int x2_44)] → W p l e rX10_becomes s m args below meth c H locs 0 0 Q (F0 m 64 ls []) := by
      intro x2_44 m_joined_o44x m_joinedNow_o44x m_firstIn_o44x H locs ls hq hP hD hS hl
      rcases hd44 with ⟨x, hx1, h⟩ | ⟨o2_44, m_joined_o44, m_joinedNow_o44, m_firstIn_o44, hx1, h⟩
      · rw [hx1] at hq; cases hq
      rw [hx1] at hq
      obtain ⟨rfl, rfl, rfl, rfl⟩ := oiS4 hq
      refine lv_iconst (v := 0) hx hb dX10_becomes_64 (by decide) ?_
      refine lv_istore (lv' := [(4, .int (0 : Int32)), (0, .ref m_h), (1, .int v1), (2, .int o2_44)]) hx hb dX10_becomes_65 hl (by decide) rfl (fun ls hl => ?_)
      obtain ⟨m_orderOf_o67, hT67, h⟩ := ob1_e h
      have hX67 : ∀ (m_orderOf_o67x : AI)  (H : Heap) (locs : List Loc) (ls : Array Slot), some m_orderOf_o67x = some m_orderOf_o67 → va_P G.1 vwCl (WM G m_h m_q m_onBy m_toldBy m_kindsOf m_nextOf m_holdsAt m_made m_standsFor m_madeNext m_madeHolds m_stateFor m_joined_o44 m_joinedNow_o44 m_firstIn_o44 m_orderOf_o67x m_classAt m_sets m_waysTo m_waysThen m_queue m_leastTo) H → va_D A (WM G m_h m_q m_onBy m_toldBy m_kindsOf m_nextOf m_holdsAt m_made m_standsFor m_madeNext m_madeHolds m_stateFor m_joined_o44 m_joinedNow_o44 m_firstIn_o44 m_orderOf_o67x m_classAt m_sets m_waysTo m_waysThen m_queue m_leastTo) → va_S A s.heap H locs → lv_has ls 9 [(0, .ref m_h), (1, .int v1)] → W p l e rX10_becomes s m args below meth c H locs 0 0 Q (F0 m 88 ls []) := by
        intro m_orderOf_o67x H locs ls hq hP hD hS hl
        obtain rfl := oi1 hq
        refine lv_aload_n hx hb dX10_becomes_88 rfl (lv_at hl 0 rfl) ?_
        refine va_get (D := G.1) (ci := 10) (v := .ref (m_q 12)) (C := RX10) (T := TX10) (N := 20) hx hb hts hinX10 hown hK.1 hP 0 rfl rfl 13 (by decide) hf47 (fun _ h9 => h9) rfl dX10_becomes_89 ?_
        refine lv_aload_n hx hb dX10_becomes_92 rfl (lv_at hl 0 rfl) ?_
        refine va_get (D := G.1) (ci := 10) (v := .ref (m_q 9)) (C := RX10) (T := TX10) (N := 20) hx hb hts hinX10 hown hK.1 hP 0 rfl rfl 10 (by decide) hf38 (fun _ h9 => h9) rfl dX10_becomes_93 ?_
        refine lv_iconst (v := 0) hx hb dX10_becomes_96 (by decide) ?_
        obtain ⟨g_97, h⟩ := gi_e h
        refine va_iald hx hb hK.1 hP 10 0 rfl rfl g_97 dX10_becomes_97 ?_
        refine lv_iconst (v := 0) hx hb dX10_becomes_98 (by decide) ?_
        obtain ⟨g_99, h⟩ := gi_e h
        refine va_iast hx hb hK.1 hP hD hS 13 0 rfl rfl g_99 dX10_becomes_99 (fun H locs hP hD hS => ?_)
        have hP : va_P G.1 vwCl (WM G m_h m_q m_onBy m_toldBy m_kindsOf m_nextOf m_holdsAt m_made m_standsFor m_madeNext m_madeHolds m_stateFor m_joined_o44 m_joinedNow_o44 m_firstIn_o44 (upd m_orderOf_o67 (m_joined_o44 (0 : Int32).toNatClampNeg).toNatClampNeg (0 : Int32)) m_classAt m_sets m_waysTo m_waysThen m_queue m_leastTo) H := hP
        have hD : va_D A (WM G m_h m_q m_onBy m_toldBy m_kindsOf m_nextOf m_holdsAt m_made m_standsFor m_madeNext m_madeHolds m_stateFor m_joined_o44 m_joinedNow_o44 m_firstIn_o44 (upd m_orderOf_o67 (m_joined_o44 (0 : Int32).toNatClampNeg).toNatClampNeg (0 : Int32)) m_classAt m_sets m_waysTo m_waysThen m_queue m_leastTo) := hD
        refine lv_aload_n hx hb dX10_becomes_100 rfl (lv_at hl 0 rfl) ?_
        refine va_get (D := G.1) (ci := 10) (v := .ref (m_q 13)) (C := RX10) (T := TX10) (N := 20) hx hb hts hinX10 hown hK.1 hP 0 rfl rfl 14 (by decide) hf50 (fun _ h9 => h9) rfl dX10_becomes_101 ?_
        refine lv_iconst (v := 0) hx hb dX10_becomes_104 (by decide) ?_
        refine lv_aload_n hx hb dX10_becomes_105 rfl (lv_at hl 0 rfl) ?_
        refine va_get (D := G.1) (ci := 10) (v := .ref (m_q 9)) (C := RX10) (T := TX10) (N := 20) hx hb hts hinX10 hown hK.1 hP 0 rfl rfl 10 (by decide) hf38 (fun _ h9 => h9) rfl dX10_becomes_106 ?_
        refine lv_iconst (v := 0) hx hb dX10_becomes_109 (by decide) ?_
        obtain ⟨g_110, h⟩ := gi_e h
        refine va_iald hx hb hK.1 hP 10 0 rfl rfl g_110 dX10_becomes_110 ?_
        obtain ⟨g_111, h⟩ := gi_e h
        refine va_iast hx hb hK.1 hP hD hS 14 0 rfl rfl g_111 dX10_becomes_111 (fun H locs hP hD hS => ?_)
        have hP : va_P G.1 vwCl (WM G m_h m_q m_onBy m_toldBy m_kindsOf m_nextOf m_holdsAt m_made m_standsFor m_madeNext m_madeHolds m_stateFor m_joined_o44 m_joinedNow_o44 m_firstIn_o44 (upd m_orderOf_o67 (m_joined_o44 (0 : Int32).toNatClampNeg).toNatClampNeg (0 : Int32)) (upd m_classAt (0 : Int32).toNatClampNeg (m_joined_o44 (0 : Int32).toNatClampNeg)) m_sets m_waysTo m_waysThen m_queue m_leastTo) H := hP
        have hD : va_D A (WM G m_h m_q m_onBy m_toldBy m_kindsOf m_nextOf m_holdsAt m_made m_standsFor m_madeNext m_madeHolds m_stateFor m_joined_o44 m_joinedNow_o44 m_firstIn_o44 (upd m_orderOf_o67 (m_joined_o44 (0 : Int32).toNatClampNeg).toNatClampNeg (0 : Int32)) (upd m_classAt (0 : Int32).toNatClampNeg (m_joined_o44 (0 : Int32).toNatClampNeg)) m_sets m_waysTo m_waysThen m_queue m_leastTo) := hD
        refine lv_iconst (v := 1) hx hb dX10_becomes_112 (by decide) ?_
        refine lv_istore (lv' := [(4, .int (1 : Int32)), (0, .ref m_h), (1, .int v1)]) hx hb dX10_becomes_113 hl (by decide) rfl (fun ls hl => ?_)
        refine lv_iconst (v := 0) hx hb dX10_becomes_115 (by decide) ?_
        refine lv_istore (lv' := [(5, .int (0 : Int32)), (4, .int (1 : Int32)), (0, .ref m_h), (1, .int v1)]) hx hb dX10_becomes_116 hl (by decide) rfl (fun ls hl => ?_)
        obtain ⟨o4_118, m_nextOf_o118, m_holdsAt_o118, m_orderOf_o118, m_classAt_o118, hT118, h⟩ := ob5_e h
        have hX118 : ∀ (x4_118 : Int32) (m_nextOf_o118x : AI) (m_holdsAt_o118x : AI) (m_orderOf_o118x : AI) (m_classAt_o118x : AI)  (H : Heap) (locs : List Loc) (ls : Array Slot), some (x4_118, m_nextOf_o118x, m_holdsAt_o118x, m_orderOf_o118x, m_classAt_o118x) = some (o4_118, m_nextOf_o118, m_holdsAt_o118, m_orderOf_o118, m_classAt_o118) → va_P G.1 vwCl (WM G m_h m_q m_onBy m_toldBy m_kindsOf m_nextOf_o118x m_holdsAt_o118x m_made m_standsFor m_madeNext m_madeHolds m_stateFor m_joined_o44 m_joinedNow_o44 m_firstIn_o44 m_orderOf_o118x m_classAt_o118x m_sets m_waysTo m_waysThen m_queue m_leastTo) H → va_D A (WM G m_h m_q m_onBy m_toldBy m_kindsOf m_nextOf_o118x m_holdsAt_o118x m_made m_standsFor m_madeNext m_madeHolds m_stateFor m_joined_o44 m_joinedNow_o44 m_firstIn_o44 m_orderOf_o118x m_classAt_o118x m_sets m_waysTo m_waysThen m_queue m_leastTo) → va_S A s.heap H locs → lv_has ls 9 [(0, .ref m_h), (1, .int v1), (4, .int x4_118)] → W p l e rX10_becomes s m args below meth c H locs 0 0 Q (F0 m 258 ls []) := by
          intro x4_118 m_nextOf_o118x m_holdsAt_o118x m_orderOf_o118x m_classAt_o118x H locs ls hq hP hD hS hl
          obtain ⟨rfl, rfl, rfl, rfl, rfl⟩ := oi5 hq
          refine lv_aload_n hx hb dX10_becomes_258 rfl (lv_at hl 0 rfl) ?_
          refine va_get (D := G.1) (ci := 10) (v := .ref (m_q 2)) (C := RX10) (T := TX10) (N := 20) hx hb hts hinX10 hown hK.1 hP 0 rfl rfl 2 (by decide) hf16 (fun _ h9 => h9) rfl dX10_becomes_259 ?_
          refine lv_iload_n hx hb dX10_becomes_262 rfl (lv_at hl 1 rfl) ?_
          refine lv_iload hx hb dX10_becomes_263 (lv_at hl 2 rfl) ?_
          obtain ⟨g_265, h⟩ := gi_e h
          refine va_iast hx hb hK.1 hP hD hS 3 0 rfl rfl g_265 dX10_becomes_265 (fun H locs hP hD hS => ?_)
          have hP : va_P G.1 vwCl (WM G m_h m_q m_onBy m_toldBy (upd m_kindsOf v1.toNatClampNeg o4_118) m_nextOf_o118 m_holdsAt_o118 m_made m_standsFor m_madeNext m_madeHolds m_stateFor m_joined_o44 m_joinedNow_o44 m_firstIn_o44 m_orderOf_o118 m_classAt_o118 m_sets m_waysTo m_waysThen m_queue m_leastTo) H := hP
          have hD : va_D A (WM G m_h m_q m_onBy m_toldBy (upd m_kindsOf v1.toNatClampNeg o4_118) m_nextOf_o118 m_holdsAt_o118 m_made m_standsFor m_madeNext m_madeHolds m_stateFor m_joined_o44 m_joinedNow_o44 m_firstIn_o44 m_orderOf_o118 m_classAt_o118 m_sets m_waysTo m_waysThen m_queue m_leastTo) := hD
          refine lv_iconst (v := 1) hx hb dX10_becomes_266 (by decide) ?_
          obtain ⟨gbv, h⟩ := gb_e h
          obtain ⟨rfl, rfl, rfl, rfl, rfl, rfl, rfl, rfl, rfl⟩ := oi9 h
          exact hret (fun _ => 0) _ _ _ _ _ _ _ dX10_becomes_267 rfl (nb gbv) hP hD hS (Nat.le_of_ble_eq_true rfl) (Nat.le_of_ble_eq_true rfl)
        have hL118 : ∀ (f : Nat) (v4_118 : Int32) (v5_118 : Int32) (m_nextOf_118 : AI) (m_holdsAt_118 : AI) (m_orderOf_118 : AI) (m_classAt_118 : AI)  (H : Heap) (locs : List Loc) (ls : Array Slot), p_X10_becomes_L118 n m_firstIn_o44 m_madeNext m_joined_o44 v1 m_madeHolds f v4_118 v5_118 m_nextOf_118 m_holdsAt_118 m_orderOf_118 m_classAt_118 = some (o4_118, m_nextOf_o118, m_holdsAt_o118, m_orderOf_o118, m_classAt_o118) → va_P G.1 vwCl (WM G m_h m_q m_onBy m_toldBy m_kindsOf m_nextOf_118 m_holdsAt_118 m_made m_standsFor m_madeNext m_madeHolds m_stateFor m_joined_o44 m_joinedNow_o44 m_firstIn_o44 m_orderOf_118 m_classAt_118 m_sets m_waysTo m_waysThen m_queue m_leastTo) H → va_D A (WM G m_h m_q m_onBy m_toldBy m_kindsOf m_nextOf_118 m_holdsAt_118 m_made m_standsFor m_madeNext m_madeHolds m_stateFor m_joined_o44 m_joinedNow_o44 m_firstIn_o44 m_orderOf_118 m_classAt_118 m_sets m_waysTo m_waysThen m_queue m_leastTo) → va_S A s.heap H locs → lv_has ls 9 [(0, .ref m_h), (1, .int v1), (4, .int v4_118), (5, .int v5_118)] → W p l e rX10_becomes s m args below meth c H locs 0 0 Q (F0 m 118 ls []) := by
          intro f
          induction f with
          | zero => intro v4_118 v5_118 m_nextOf_118 m_holdsAt_118 m_orderOf_118 m_classAt_118 H locs ls h hP hD hS hl; cases (show none = some _ from h)
          | succ f ih =>
            intro v4_118 v5_118 m_nextOf_118 m_holdsAt_118 m_orderOf_118 m_classAt_118 H locs ls h hP hD hS hl
            rw [p_X10_becomes_L118] at h
            refine lv_iload hx hb dX10_becomes_118 (lv_at hl 3 rfl) ?_
            refine lv_iload hx hb dX10_becomes_120 (lv_at hl 2 rfl) ?_
            refine lv_icmp_ge (tgt := 258) hx hb dX10_becomes_122 (by decide) (fun c_122 => ?_) (fun c_122 => ?_)
            · replace h := (if_pos c_122).symm.trans h
              exact hX118 _ _ _ _ _  _ _ _ h hP hD hS (lv_sub hl [0, 1, 2] rfl)
            · replace h := (if_neg c_122).symm.trans h
              refine lv_aload_n hx hb dX10_becomes_125 rfl (lv_at hl 0 rfl) ?_
              refine va_get (D := G.1) (ci := 10) (v := .ref (m_q 11)) (C := RX10) (T := TX10) (N := 20) hx hb hts hinX10 hown hK.1 hP 0 rfl rfl 12 (by decide) hf44 (fun _ h9 => h9) rfl dX10_becomes_126 ?_
              refine lv_aload_n hx hb dX10_becomes_129 rfl (lv_at hl 0 rfl) ?_
              refine va_get (D := G.1) (ci := 10) (v := .ref (m_q 13)) (C := RX10) (T := TX10) (N := 20) hx hb hts hinX10 hown hK.1 hP 0 rfl rfl 14 (by decide) hf50 (fun _ h9 => h9) rfl dX10_becomes_130 ?_
              refine lv_iload hx hb dX10_becomes_133 (lv_at hl 3 rfl) ?_
              obtain ⟨g_135, h⟩ := gi_e h
              refine va_iald hx hb hK.1 hP 14 0 rfl rfl g_135 dX10_becomes_135 ?_
              obtain ⟨g_136, h⟩ := gi_e h
              refine va_iald hx hb hK.1 hP 12 0 rfl rfl g_136 dX10_becomes_136 ?_
              refine lv_istore (lv' := [(6, .int (m_firstIn_o44 (m_classAt_118 v5_118.toNatClampNeg).toNatClampNeg)), (0, .ref m_h), (1, .int v1), (4, .int v4_118), (5, .int v5_118)]) hx hb dX10_becomes_137 hl (by decide) rfl (fun ls hl => ?_)
              refine lv_iconst (v := 0) hx hb dX10_becomes_139 (by decide) ?_
              refine lv_istore (lv' := [(7, .int (0 : Int32)), (6, .int (m_firstIn_o44 (m_classAt_118 v5_118.toNatClampNeg).toNatClampNeg)), (0, .ref m_h), (1, .int v1), (4, .int v4_118), (5, .int v5_118)]) hx hb dX10_becomes_140 hl (by decide) rfl (fun ls hl => ?_)
              obtain ⟨o4_142, m_nextOf_o142, m_orderOf_o142, m_classAt_o142, hT142, h⟩ := ob4_e h
              have hX142 : ∀ (x4_142 : Int32) (m_nextOf_o142x : AI) (m_orderOf_o142x : AI) (m_classAt_o142x : AI)  (H : Heap) (locs : List Loc) (ls : Array Slot), some (x4_142, m_nextOf_o142x, m_orderOf_o142x, m_classAt_o142x) = some (o4_142, m_nextOf_o142, m_orderOf_o142, m_classAt_o142) → va_P G.1 vwCl (WM G m_h m_q m_onBy m_toldBy m_kindsOf m_nextOf_o142x m_holdsAt_118 m_made m_standsFor m_madeNext m_madeHolds m_stateFor m_joined_o44 m_joinedNow_o44 m_firstIn_o44 m_orderOf_o142x m_classAt_o142x m_sets m_waysTo m_waysThen m_queue m_leastTo) H → va_D A (WM G m_h m_q m_onBy m_toldBy m_kindsOf m_nextOf_o142x m_holdsAt_118 m_made m_standsFor m_madeNext m_madeHolds m_stateFor m_joined_o44 m_joinedNow_o44 m_firstIn_o44 m_orderOf_o142x m_classAt_o142x m_sets m_waysTo m_waysThen m_queue m_leastTo) → va_S A s.heap H locs → lv_has ls 9 [(0, .ref m_h), (1, .int v1), (4, .int x4_142), (5, .int v5_118), (6, .int (m_firstIn_o44 (m_classAt_118 v5_118.toNatClampNeg).toNatClampNeg))] → W p l e rX10_becomes s m args below meth c H locs 0 0 Q (F0 m 233 ls []) := by
                intro x4_142 m_nextOf_o142x m_orderOf_o142x m_classAt_o142x H locs ls hq hP hD hS hl
                obtain ⟨rfl, rfl, rfl, rfl⟩ := oi4 hq
                refine lv_aload_n hx hb dX10_becomes_233 rfl (lv_at hl 0 rfl) ?_
                refine va_get (D := G.1) (ci := 10) (v := .ref (m_q 4)) (C := RX10) (T := TX10) (N := 20) hx hb hts hinX10 hown hK.1 hP 0 rfl rfl 4 (by decide) hf22 (fun _ h9 => h9) rfl dX10_becomes_234 ?_
                refine lv_bipush (v := 60) hx hb dX10_becomes_237 (by decide) ?_
                refine lv_iload_n hx hb dX10_becomes_239 rfl (lv_at hl 1 rfl) ?_
                refine lv_imul hx hb dX10_becomes_240 ?_
                refine lv_iload hx hb dX10_becomes_241 (lv_at hl 3 rfl) ?_
                refine lv_iadd hx hb dX10_becomes_243 ?_
                refine lv_aload_n hx hb dX10_becomes_244 rfl (lv_at hl 0 rfl) ?_
                refine va_get (D := G.1) (ci := 10) (v := .ref (m_q 7)) (C := RX10) (T := TX10) (N := 20) hx hb hts hinX10 hown hK.1 hP 0 rfl rfl 8 (by decide) hf32 (fun _ h9 => h9) rfl dX10_becomes_245 ?_
                refine lv_iload hx hb dX10_becomes_248 (lv_at hl 4 rfl) ?_
                obtain ⟨g_250, h⟩ := gi_e h
                refine va_zald hx hb hK.1 hP 8 1 rfl rfl g_250 dX10_becomes_250 ?_
                obtain ⟨g_251, h⟩ := gi_e h
                refine va_zast hx hb hK.1 hP hD hS 5 1 rfl rfl g_251 dX10_becomes_251 (fun H locs hP hD hS => ?_)
                have hP : va_P G.1 vwCl (WM G m_h m_q m_onBy m_toldBy m_kindsOf m_nextOf_o142 (upd m_holdsAt_118 (((60 : Int32) * v1) + v5_118).toNatClampNeg ((m_madeHolds (m_firstIn_o44 (m_classAt_118 v5_118.toNatClampNeg).toNatClampNeg).toNatClampNeg) &&& (1 : Int32))) m_made m_standsFor m_madeNext m_madeHolds m_stateFor m_joined_o44 m_joinedNow_o44 m_firstIn_o44 m_orderOf_o142 m_classAt_o142 m_sets m_waysTo m_waysThen m_queue m_leastTo) H := hP
                have hD : va_D A (WM G m_h m_q m_onBy m_toldBy m_kindsOf m_nextOf_o142 (upd m_holdsAt_118 (((60 : Int32) * v1) + v5_118).toNatClampNeg ((m_madeHolds (m_firstIn_o44 (m_classAt_118 v5_118.toNatClampNeg).toNatClampNeg).toNatClampNeg) &&& (1 : Int32))) m_made m_standsFor m_madeNext m_madeHolds m_stateFor m_joined_o44 m_joinedNow_o44 m_firstIn_o44 m_orderOf_o142 m_classAt_o142 m_sets m_waysTo m_waysThen m_queue m_leastTo) := hD
                refine lv_iinc (v := (v5_118 + (1 : Int32))) (lv' := [(5, .int (v5_118 + (1 : Int32))), (0, .ref m_h), (1, .int v1), (4, .int o4_142), (6, .int (m_firstIn_o44 (m_classAt_118 v5_118.toNatClampNeg).toNatClampNeg))]) hx hb dX10_becomes_252 hl (k := 3) rfl rfl (by decide) rfl (fun ls hl => ?_)
                refine lv_goto (tgt := 118) hx hb dX10_becomes_255 (by decide) ?_
                exact ih _ _ _ _ _ _  _ _ _ h hP hD hS (lv_sub hl [1, 2, 3, 0] rfl)
              have hL142 : ∀ (f : Nat) (v4_142 : Int32) (v7_142 : Int32) (m_nextOf_142 : AI) (m_orderOf_142 : AI) (m_classAt_142 : AI)  (H : Heap) (locs : List Loc) (ls : Array Slot), p_X10_becomes_L142 m_firstIn_o44 m_classAt_118 v5_118 m_madeNext m_joined_o44 v1 f v4_142 v7_142 m_nextOf_142 m_orderOf_142 m_classAt_142 = some (o4_142, m_nextOf_o142, m_orderOf_o142, m_classAt_o142) → va_P G.1 vwCl (WM G m_h m_q m_onBy m_toldBy m_kindsOf m_nextOf_142 m_holdsAt_118 m_made m_standsFor m_madeNext m_madeHolds m_stateFor m_joined_o44 m_joinedNow_o44 m_firstIn_o44 m_orderOf_142 m_classAt_142 m_sets m_waysTo m_waysThen m_queue m_leastTo) H → va_D A (WM G m_h m_q m_onBy m_toldBy m_kindsOf m_nextOf_142 m_holdsAt_118 m_made m_standsFor m_madeNext m_madeHolds m_stateFor m_joined_o44 m_joinedNow_o44 m_firstIn_o44 m_orderOf_142 m_classAt_142 m_sets m_waysTo m_waysThen m_queue m_leastTo) → va_S A s.heap H locs → lv_has ls 9 [(0, .ref m_h), (1, .int v1), (4, .int v4_142), (5, .int v5_118), (6, .int (m_firstIn_o44 (m_classAt_118 v5_118.toNatClampNeg).toNatClampNeg)), (7, .int v7_142)] → W p l e rX10_becomes s m args below meth c H locs 0 0 Q (F0 m 142 ls []) := by
                intro f
                induction f with
                | zero => intro v4_142 v7_142 m_nextOf_142 m_orderOf_142 m_classAt_142 H locs ls h hP hD hS hl; cases (show none = some _ from h)
                | succ f ih =>
                  intro v4_142 v7_142 m_nextOf_142 m_orderOf_142 m_classAt_142 H locs ls h hP hD hS hl
                  rw [p_X10_becomes_L142] at h
                  refine lv_iload hx hb dX10_becomes_142 (lv_at hl 5 rfl) ?_
                  refine lv_bipush (v := 8) hx hb dX10_becomes_144 (by decide) ?_
                  refine lv_icmp_ge (tgt := 233) hx hb dX10_becomes_146 (by decide) (fun c_146 => ?_) (fun c_146 => ?_)
                  · replace h := (if_pos c_146).symm.trans h
                    exact hX142 _ _ _ _  _ _ _ h hP hD hS (lv_sub hl [0, 1, 2, 3, 4] rfl)
                  · replace h := (if_neg c_146).symm.trans h
                    refine lv_aload_n hx hb dX10_becomes_149 rfl (lv_at hl 0 rfl) ?_
                    refine va_get (D := G.1) (ci := 10) (v := .ref (m_q 9)) (C := RX10) (T := TX10) (N := 20) hx hb hts hinX10 hown hK.1 hP 0 rfl rfl 10 (by decide) hf38 (fun _ h9 => h9) rfl dX10_becomes_150 ?_
                    refine lv_aload_n hx hb dX10_becomes_153 rfl (lv_at hl 0 rfl) ?_
                    refine va_get (D := G.1) (ci := 10) (v := .ref (m_q 6)) (C := RX10) (T := TX10) (N := 20) hx hb hts hinX10 hown hK.1 hP 0 rfl rfl 7 (by decide) hf29 (fun _ h9 => h9) rfl dX10_becomes_154 ?_
                    refine lv_bipush (v := 8) hx hb dX10_becomes_157 (by decide) ?_
                    refine lv_iload hx hb dX10_becomes_159 (lv_at hl 4 rfl) ?_
                    refine lv_imul hx hb dX10_becomes_161 ?_
                    refine lv_iload hx hb dX10_becomes_162 (lv_at hl 5 rfl) ?_
                    refine lv_iadd hx hb dX10_becomes_164 ?_
                    obtain ⟨g_165, h⟩ := gi_e h
                    refine va_iald hx hb hK.1 hP 7 0 rfl rfl g_165 dX10_becomes_165 ?_
                    obtain ⟨g_166, h⟩ := gi_e h
                    refine va_iald hx hb hK.1 hP 10 0 rfl rfl g_166 dX10_becomes_166 ?_
                    refine lv_istore (lv' := [(8, .int (m_joined_o44 (m_madeNext (((8 : Int32) * (m_firstIn_o44 (m_classAt_118 v5_118.toNatClampNeg).toNatClampNeg)) + v7_142).toNatClampNeg).toNatClampNeg)), (0, .ref m_h), (1, .int v1), (4, .int v4_142), (5, .int v5_118), (6, .int (m_firstIn_o44 (m_classAt_118 v5_118.toNatClampNeg).toNatClampNeg)), (7, .int v7_142)]) hx hb dX10_becomes_167 hl (by decide) rfl (fun ls hl => ?_)
                    refine lv_aload_n hx hb dX10_becomes_169 rfl (lv_at hl 1 rfl) ?_
                    refine va_get (D := G.1) (ci := 10) (v := .ref (m_q 12)) (C := RX10) (T := TX10) (N := 20) hx hb hts hinX10 hown hK.1 hP 0 rfl rfl 13 (by decide) hf47 (fun _ h9 => h9) rfl dX10_becomes_170 ?_
                    refine lv_iload hx hb dX10_becomes_173 (lv_at hl 0 rfl) ?_
                    obtain ⟨g_175, h⟩ := gi_e h
                    refine va_iald hx hb hK.1 hP 13 0 rfl rfl g_175 dX10_becomes_175 ?_
                    refine lv_bipush (v := -9) hx hb dX10_becomes_176 (by decide) ?_
                    obtain ⟨v4_j178, m_orderOf_j178, m_classAt_j178, hT178, h⟩ := ob3_e h
                    have hJ178 : ∀ (v4_j178x : Int32) (m_orderOf_j178x : AI) (m_classAt_j178x : AI)  (H : Heap) (locs : List Loc) (ls : Array Slot), some (v4_j178x, m_orderOf_j178x, m_classAt_j178x) = some (v4_j178, m_orderOf_j178, m_classAt_j178) → va_P G.1 vwCl (WM G m_h m_q m_onBy m_toldBy m_kindsOf m_nextOf_142 m_holdsAt_118 m_made m_standsFor m_madeNext m_madeHolds m_stateFor m_joined_o44 m_joinedNow_o44 m_firstIn_o44 m_orderOf_j178x m_classAt_j178x m_sets m_waysTo m_waysThen m_queue m_leastTo) H → va_D A (WM G m_h m_q m_onBy m_toldBy m_kindsOf m_nextOf_142 m_holdsAt_118 m_made m_standsFor m_madeNext m_madeHolds m_stateFor m_joined_o44 m_joinedNow_o44 m_firstIn_o44 m_orderOf_j178x m_classAt_j178x m_sets m_waysTo m_waysThen m_queue m_leastTo) → va_S A s.heap H locs → lv_has ls 9 [(0, .ref m_h), (1, .int v1), (4, .int v4_j178x), (5, .int v5_118), (6, .int (m_firstIn_o44 (m_classAt_118 v5_118.toNatClampNeg).toNatClampNeg)), (7, .int v7_142), (8, .int (m_joined_o44 (m_madeNext (((8 : Int32) * (m_firstIn_o44 (m_classAt_118 v5_118.toNatClampNeg).toNatClampNeg)) + v7_142).toNatClampNeg).toNatClampNeg))] → W p l e rX10_becomes s m args below meth c H locs 0 0 Q (F0 m 202 ls []) := by
                      intro v4_j178x m_orderOf_j178x m_classAt_j178x H locs ls hq hP hD hS hl
                      obtain ⟨rfl, rfl, rfl⟩ := oi3 hq
                      refine lv_aload_n hx hb dX10_becomes_202 rfl (lv_at hl 0 rfl) ?_
                      refine va_get (D := G.1) (ci := 10) (v := .ref (m_q 3)) (C := RX10) (T := TX10) (N := 20) hx hb hts hinX10 hown hK.1 hP 0 rfl rfl 3 (by decide) hf19 (fun _ h9 => h9) rfl dX10_becomes_203 ?_
                      refine lv_bipush (v := 8) hx hb dX10_becomes_206 (by decide) ?_
                      refine lv_bipush (v := 60) hx hb dX10_becomes_208 (by decide) ?_
                      refine lv_iload_n hx hb dX10_becomes_210 rfl (lv_at hl 1 rfl) ?_
                      refine lv_imul hx hb dX10_becomes_211 ?_
                      refine lv_iload hx hb dX10_becomes_212 (lv_at hl 3 rfl) ?_
                      refine lv_iadd hx hb dX10_becomes_214 ?_
                      refine lv_imul hx hb dX10_becomes_215 ?_
                      refine lv_iload hx hb dX10_becomes_216 (lv_at hl 5 rfl) ?_
                      refine lv_iadd hx hb dX10_becomes_218 ?_
                      refine lv_aload_n hx hb dX10_becomes_219 rfl (lv_at hl 0 rfl) ?_
                      refine va_get (D := G.1) (ci := 10) (v := .ref (m_q 12)) (C := RX10) (T := TX10) (N := 20) hx hb hts hinX10 hown hK.1 hP 0 rfl rfl 13 (by decide) hf47 (fun _ h9 => h9) rfl dX10_becomes_220 ?_
                      refine lv_iload hx hb dX10_becomes_223 (lv_at hl 6 rfl) ?_
                      obtain ⟨g_225, h⟩ := gi_e h
                      refine va_iald hx hb hK.1 hP 13 0 rfl rfl g_225 dX10_becomes_225 ?_
                      obtain ⟨g_226, h⟩ := gi_e h
                      refine va_iast hx hb hK.1 hP hD hS 4 0 rfl rfl g_226 dX10_becomes_226 (fun H locs hP hD hS => ?_)
                      have hP : va_P G.1 vwCl (WM G m_h m_q m_onBy m_toldBy m_kindsOf (upd m_nextOf_142 (((8 : Int32) * (((60 : Int32) * v1) + v5_118)) + v7_142).toNatClampNeg (m_orderOf_j178 (m_joined_o44 (m_madeNext (((8 : Int32) * (m_firstIn_o44 (m_classAt_118 v5_118.toNatClampNeg).toNatClampNeg)) + v7_142).toNatClampNeg).toNatClampNeg).toNatClampNeg)) m_holdsAt_118 m_made m_standsFor m_madeNext m_madeHolds m_stateFor m_joined_o44 m_joinedNow_o44 m_firstIn_o44 m_orderOf_j178 m_classAt_j178 m_sets m_waysTo m_waysThen m_queue m_leastTo) H := hP
                      have hD : va_D A (WM G m_h m_q m_onBy m_toldBy m_kindsOf (upd m_nextOf_142 (((8 : Int32) * (((60 : Int32) * v1) + v5_118)) + v7_142).toNatClampNeg (m_orderOf_j178 (m_joined_o44 (m_madeNext (((8 : Int32) * (m_firstIn_o44 (m_classAt_118 v5_118.toNatClampNeg).toNatClampNeg)) + v7_142).toNatClampNeg).toNatClampNeg).toNatClampNeg)) m_holdsAt_118 m_made m_standsFor m_madeNext m_madeHolds m_stateFor m_joined_o44 m_joinedNow_o44 m_firstIn_o44 m_orderOf_j178 m_classAt_j178 m_sets m_waysTo m_waysThen m_queue m_leastTo) := hD
                      refine lv_iinc (v := (v7_142 + (1 : Int32))) (lv' := [(7, .int (v7_142 + (1 : Int32))), (0, .ref m_h), (1, .int v1), (4, .int v4_j178), (5, .int v5_118), (6, .int (m_firstIn_o44 (m_classAt_118 v5_118.toNatClampNeg).toNatClampNeg)), (8, .int (m_joined_o44 (m_madeNext (((8 : Int32) * (m_firstIn_o44 (m_classAt_118 v5_118.toNatClampNeg).toNatClampNeg)) + v7_142).toNatClampNeg).toNatClampNeg))]) hx hb dX10_becomes_227 hl (k := 5) rfl rfl (by decide) rfl (fun ls hl => ?_)
                      refine lv_goto (tgt := 142) hx hb dX10_becomes_230 (by decide) ?_
                      exact ih _ _ _ _ _  _ _ _ h hP hD hS (lv_sub hl [1, 2, 3, 4, 5, 0] rfl)
                    replace h := hT178
                    refine lv_icmp_ne (tgt := 202) hx hb dX10_becomes_178 (by decide) (fun c_178 => ?_) (fun c_178 => ?_)
                    · replace h := (if_neg c_178).symm.trans h
                      exact hJ178 _ _ _  _ _ _ h hP hD hS (lv_sub hl [1, 2, 3, 4, 5, 6, 0] rfl)
                    · replace h := (if_pos c_178).symm.trans h
                      refine lv_aload_n hx hb dX10_becomes_181 rfl (lv_at hl 1 rfl) ?_
                      refine va_get (D := G.1) (ci := 10) (v := .ref (m_q 12)) (C := RX10) (T := TX10) (N := 20) hx hb hts hinX10 hown hK.1 hP 0 rfl rfl 13 (by decide) hf47 (fun _ h9 => h9) rfl dX10_becomes_182 ?_
                      refine lv_iload hx hb dX10_becomes_185 (lv_at hl 0 rfl) ?_
                      refine lv_iload hx hb dX10_becomes_187 (lv_at hl 3 rfl) ?_
                      obtain ⟨g_189, h⟩ := gi_e h
                      refine va_iast hx hb hK.1 hP hD hS 13 0 rfl rfl g_189 dX10_becomes_189 (fun H locs hP hD hS => ?_)
                      have hP : va_P G.1 vwCl (WM G m_h m_q m_onBy m_toldBy m_kindsOf m_nextOf_142 m_holdsAt_118 m_made m_standsFor m_madeNext m_madeHolds m_stateFor m_joined_o44 m_joinedNow_o44 m_firstIn_o44 (upd m_orderOf_142 (m_joined_o44 (m_madeNext (((8 : Int32) * (m_firstIn_o44 (m_classAt_118 v5_118.toNatClampNeg).toNatClampNeg)) + v7_142).toNatClampNeg).toNatClampNeg).toNatClampNeg v4_142) m_classAt_142 m_sets m_waysTo m_waysThen m_queue m_leastTo) H := hP
                      have hD : va_D A (WM G m_h m_q m_onBy m_toldBy m_kindsOf m_nextOf_142 m_holdsAt_118 m_made m_standsFor m_madeNext m_madeHolds m_stateFor m_joined_o44 m_joinedNow_o44 m_firstIn_o44 (upd m_orderOf_142 (m_joined_o44 (m_madeNext (((8 : Int32) * (m_firstIn_o44 (m_classAt_118 v5_118.toNatClampNeg).toNatClampNeg)) + v7_142).toNatClampNeg).toNatClampNeg).toNatClampNeg v4_142) m_classAt_142 m_sets m_waysTo m_waysThen m_queue m_leastTo) := hD
                      refine lv_aload_n hx hb dX10_becomes_190 rfl (lv_at hl 1 rfl) ?_
                      refine va_get (D := G.1) (ci := 10) (v := .ref (m_q 13)) (C := RX10) (T := TX10) (N := 20) hx hb hts hinX10 hown hK.1 hP 0 rfl rfl 14 (by decide) hf50 (fun _ h9 => h9) rfl dX10_becomes_191 ?_
                      refine lv_iload hx hb dX10_becomes_194 (lv_at hl 3 rfl) ?_
                      refine lv_iload hx hb dX10_becomes_196 (lv_at hl 0 rfl) ?_
                      obtain ⟨g_198, h⟩ := gi_e h
                      refine va_iast hx hb hK.1 hP hD hS 14 0 rfl rfl g_198 dX10_becomes_198 (fun H locs hP hD hS => ?_)
                      have hP : va_P G.1 vwCl (WM G m_h m_q m_onBy m_toldBy m_kindsOf m_nextOf_142 m_holdsAt_118 m_made m_standsFor m_madeNext m_madeHolds m_stateFor m_joined_o44 m_joinedNow_o44 m_firstIn_o44 (upd m_orderOf_142 (m_joined_o44 (m_madeNext (((8 : Int32) * (m_firstIn_o44 (m_classAt_118 v5_118.toNatClampNeg).toNatClampNeg)) + v7_142).toNatClampNeg).toNatClampNeg).toNatClampNeg v4_142) (upd m_classAt_142 v4_142.toNatClampNeg (m_joined_o44 (m_madeNext (((8 : Int32) * (m_firstIn_o44 (m_classAt_118 v5_118.toNatClampNeg).toNatClampNeg)) + v7_142).toNatClampNeg).toNatClampNeg)) m_sets m_waysTo m_waysThen m_queue m_leastTo) H := hP
                      have hD : va_D A (WM G m_h m_q m_onBy m_toldBy m_kindsOf m_nextOf_142 m_holdsAt_118 m_made m_standsFor m_madeNext m_madeHolds m_stateFor m_joined_o44 m_joinedNow_o44 m_firstIn_o44 (upd m_orderOf_142 (m_joined_o44 (m_madeNext (((8 : Int32) * (m_firstIn_o44 (m_classAt_118 v5_118.toNatClampNeg).toNatClampNeg)) + v7_142).toNatClampNeg).toNatClampNeg).toNatClampNeg v4_142) (upd m_classAt_142 v4_142.toNatClampNeg (m_joined_o44 (m_madeNext (((8 : Int32) * (m_firstIn_o44 (m_classAt_118 v5_118.toNatClampNeg).toNatClampNeg)) + v7_142).toNatClampNeg).toNatClampNeg)) m_sets m_waysTo m_waysThen m_queue m_leastTo) := hD
                      refine lv_iinc (v := (v4_142 + (1 : Int32))) (lv' := [(4, .int (v4_142 + (1 : Int32))), (8, .int (m_joined_o44 (m_madeNext (((8 : Int32) * (m_firstIn_o44 (m_classAt_118 v5_118.toNatClampNeg).toNatClampNeg)) + v7_142).toNatClampNeg).toNatClampNeg)), (0, .ref m_h), (1, .int v1), (5, .int v5_118), (6, .int (m_firstIn_o44 (m_classAt_118 v5_118.toNatClampNeg).toNatClampNeg)), (7, .int v7_142)]) hx hb dX10_becomes_199 hl (k := 3) rfl rfl (by decide) rfl (fun ls hl => ?_)
                      exact hJ178 _ _ _  _ _ _ h hP hD hS (lv_sub hl [2, 3, 0, 4, 5, 6, 1] rfl)
              exact hL142 n _ _ _ _ _  _ _ _ hT142 hP hD hS (lv_sub hl [2, 3, 4, 5, 1, 0] rfl)
        exact hL118 n _ _ _ _ _ _  _ _ _ hT118 hP hD hS (lv_sub hl [2, 3, 1, 0] rfl)
      have hL67 : ∀ (f : Nat) (v4_67 : Int32) (m_orderOf_67 : AI)  (H : Heap) (locs : List Loc) (ls : Array Slot), p_X10_becomes_L67 o2_44 f v4_67 m_orderOf_67 = some m_orderOf_o67 → va_P G.1 vwCl (WM G m_h m_q m_onBy m_toldBy m_kindsOf m_nextOf m_holdsAt m_made m_standsFor m_madeNext m_madeHolds m_stateFor m_joined_o44 m_joinedNow_o44 m_firstIn_o44 m_orderOf_67 m_classAt m_sets m_waysTo m_waysThen m_queue m_leastTo) H → va_D A (WM G m_h m_q m_onBy m_toldBy m_kindsOf m_nextOf m_holdsAt m_made m_standsFor m_madeNext m_madeHolds m_stateFor m_joined_o44 m_joinedNow_o44 m_firstIn_o44 m_orderOf_67 m_classAt m_sets m_waysTo m_waysThen m_queue m_leastTo) → va_S A s.heap H locs → lv_has ls 9 [(0, .ref m_h), (1, .int v1), (2, .int o2_44), (4, .int v4_67)] → W p l e rX10_becomes s m args below meth c H locs 0 0 Q (F0 m 67 ls []) := by
        intro f
        induction f with
        | zero => intro v4_67 m_orderOf_67 H locs ls h hP hD hS hl; cases (show none = some _ from h)
        | succ f ih =>
          intro v4_67 m_orderOf_67 H locs ls h hP hD hS hl
          rw [p_X10_becomes_L67] at h
          refine lv_iload hx hb dX10_becomes_67 (lv_at hl 3 rfl) ?_
          refine lv_iload_n hx hb dX10_becomes_69 rfl (lv_at hl 2 rfl) ?_
          refine lv_icmp_ge (tgt := 88) hx hb dX10_becomes_70 (by decide) (fun c_70 => ?_) (fun c_70 => ?_)
          · replace h := (if_pos c_70).symm.trans h
            exact hX67 _  _ _ _ h hP hD hS (lv_sub hl [0, 1] rfl)
          · replace h := (if_neg c_70).symm.trans h
            refine lv_aload_n hx hb dX10_becomes_73 rfl (lv_at hl 0 rfl) ?_
            refine va_get (D := G.1) (ci := 10) (v := .ref (m_q 12)) (C := RX10) (T := TX10) (N := 20) hx hb hts hinX10 hown hK.1 hP 0 rfl rfl 13 (by decide) hf47 (fun _ h9 => h9) rfl dX10_becomes_74 ?_
            refine lv_iload hx hb dX10_becomes_77 (lv_at hl 3 rfl) ?_
            refine lv_bipush (v := -9) hx hb dX10_becomes_79 (by decide) ?_
            obtain ⟨g_81, h⟩ := gi_e h
            refine va_iast hx hb hK.1 hP hD hS 13 0 rfl rfl g_81 dX10_becomes_81 (fun H locs hP hD hS => ?_)
            have hP : va_P G.1 vwCl (WM G m_h m_q m_onBy m_toldBy m_kindsOf m_nextOf m_holdsAt m_made m_standsFor m_madeNext m_madeHolds m_stateFor m_joined_o44 m_joinedNow_o44 m_firstIn_o44 (upd m_orderOf_67 v4_67.toNatClampNeg (-9 : Int32)) m_classAt m_sets m_waysTo m_waysThen m_queue m_leastTo) H := hP
            have hD : va_D A (WM G m_h m_q m_onBy m_toldBy m_kindsOf m_nextOf m_holdsAt m_made m_standsFor m_madeNext m_madeHolds m_stateFor m_joined_o44 m_joinedNow_o44 m_firstIn_o44 (upd m_orderOf_67 v4_67.toNatClampNeg (-9 : Int32)) m_classAt m_sets m_waysTo m_waysThen m_queue m_leastTo) := hD
            refine lv_iinc (v := (v4_67 + (1 : Int32))) (lv' := [(4, .int (v4_67 + (1 : Int32))), (0, .ref m_h), (1, .int v1), (2, .int o2_44)]) hx hb dX10_becomes_82 hl (k := 3) rfl rfl (by decide) rfl (fun ls hl => ?_)
            refine lv_goto (tgt := 67) hx hb dX10_becomes_85 (by decide) ?_
            exact ih _ _  _ _ _ h hP hD hS (lv_sub hl [1, 2, 3, 0] rfl)
      exact hL67 n _ _  _ _ _ hT67 hP hD hS (lv_sub hl [1, 2, 3, 0] rfl)
    have hL44 : ∀ (f : Nat) (v2_44 : Int32) (v3_44 : Int32) (m_joined_44 : AI) (m_joinedNow_44 : AI) (m_firstIn_44 : AI)  (H : Heap) (locs : List Loc) (ls : Array Slot), p_X10_becomes_L44 n m_made m_madeNext m_kindsOf m_nextOf m_holdsAt m_orderOf m_classAt f v2_44 v3_44 m_joined_44 m_joinedNow_44 m_firstIn_44 = some o_44 → va_P G.1 vwCl (WM G m_h m_q m_onBy m_toldBy m_kindsOf m_nextOf m_holdsAt m_made m_standsFor m_madeNext m_madeHolds m_stateFor m_joined_44 m_joinedNow_44 m_firstIn_44 m_orderOf m_classAt m_sets m_waysTo m_waysThen m_queue m_leastTo) H → va_D A (WM G m_h m_q m_onBy m_toldBy m_kindsOf m_nextOf m_holdsAt m_made m_standsFor m_madeNext m_madeHolds m_stateFor m_joined_44 m_joinedNow_44 m_firstIn_44 m_orderOf m_classAt m_sets m_waysTo m_waysThen m_queue m_leastTo) → va_S A s.heap H locs → lv_has ls 9 [(0, .ref m_h), (1, .int v1), (2, .int v2_44), (3, .int v3_44)] → W p l e rX10_becomes s m args below meth c H locs 0 0 Q (F0 m 44 ls []) := by
      intro f
      induction f with
      | zero => intro v2_44 v3_44 m_joined_44 m_joinedNow_44 m_firstIn_44 H locs ls h hP hD hS hl; cases (show none = some _ from h)
      | succ f ih =>
        intro v2_44 v3_44 m_joined_44 m_joinedNow_44 m_firstIn_44 H locs ls h hP hD hS hl
        rw [p_X10_becomes_L44] at h
        refine lv_iload_n hx hb dX10_becomes_44 rfl (lv_at hl 3 rfl) ?_
        refine lv_iload_n hx hb dX10_becomes_45 rfl (lv_at hl 2 rfl) ?_
        refine lv_icmp_eq (tgt := 64) hx hb dX10_becomes_46 (by decide) (fun c_46 => ?_) (fun c_46 => ?_)
        · replace h := (if_pos c_46).symm.trans h
          exact hX44 _ _ _ _  _ _ _ h hP hD hS (lv_sub hl [0, 1, 2] rfl)
        · replace h := (if_neg c_46).symm.trans h
          refine lv_iload_n hx hb dX10_becomes_49 rfl (lv_at hl 2 rfl) ?_
          refine lv_istore_n (lv' := [(3, .int v2_44), (0, .ref m_h), (1, .int v1), (2, .int v2_44)]) hx hb dX10_becomes_50 rfl hl (by decide) rfl (fun ls hl => ?_)
          refine lv_aload_n hx hb dX10_becomes_51 rfl (lv_at hl 1 rfl) ?_
          obtain ⟨r_52, m_joined_52, m_joinedNow_52, m_firstIn_52, hc_52, h⟩ := ob4_e h
          refine k_ciA (va_runV (As := []) (rest := []) ⟨hx, hb, hml, hown, hts⟩ (c_X10_joins l G n m_h m_q m_onBy m_toldBy m_kindsOf m_nextOf m_holdsAt m_made m_standsFor m_madeNext m_madeHolds m_stateFor m_joined_44 m_joinedNow_44 m_firstIn_44 m_orderOf m_classAt m_sets m_waysTo m_waysThen m_queue m_leastTo  _ r_52 m_joined_52 m_joinedNow_52 m_firstIn_52 hc_52) (cwV 0 hts gX10_becomes_X10_joins rfl rfl rfl ⟨rfl, eX10_joins⟩ ⟨Nat.le_of_ble_eq_true rfl, Nat.le_of_ble_eq_true rfl⟩) (preWV (ci := 10) (q0 := 0) hK hP hD rfl rfl) rfl rfl hl.1 rfl (lv_room (Nat.le_of_ble_eq_true rfl)) dX10_becomes_52 ⟨Nat.le_of_ble_eq_true rfl, Nat.le_of_ble_eq_true rfl⟩) hD hS hA (fun u_52 H locs hP hD hS => ?_)
          have hP : va_P G.1 vwCl (WM G m_h m_q m_onBy m_toldBy m_kindsOf m_nextOf m_holdsAt m_made m_standsFor m_madeNext m_madeHolds m_stateFor m_joined_52 m_joinedNow_52 m_firstIn_52 m_orderOf m_classAt m_sets m_waysTo m_waysThen m_queue m_leastTo) H := hP
          have hD : va_D A (WM G m_h m_q m_onBy m_toldBy m_kindsOf m_nextOf m_holdsAt m_made m_standsFor m_madeNext m_madeHolds m_stateFor m_joined_52 m_joinedNow_52 m_firstIn_52 m_orderOf m_classAt m_sets m_waysTo m_waysThen m_queue m_leastTo) := hD
          refine lv_istore_n (lv' := [(2, .int r_52), (3, .int v2_44), (0, .ref m_h), (1, .int v1)]) hx hb dX10_becomes_55 rfl hl (by decide) rfl (fun ls hl => ?_)
          refine lv_iload_n hx hb dX10_becomes_56 rfl (lv_at hl 0 rfl) ?_
          refine lv_bipush (v := 60) hx hb dX10_becomes_57 (by decide) ?_
          refine lv_icmp_le (tgt := 44) hx hb dX10_becomes_59 (by decide) (fun c_59 => ?_) (fun c_59 => ?_)
          · replace h := (if_pos c_59).symm.trans h
            exact ih _ _ _ _ _  _ _ _ h hP hD hS (lv_sub hl [2, 3, 0, 1] rfl)
          · replace h := (if_neg c_59).symm.trans h
            refine lv_iconst (v := 0) hx hb dX10_becomes_62 (by decide) ?_
            obtain ⟨gbv, h⟩ := gb_e h
            rcases hd44 with ⟨x, hx1, h2⟩ | ⟨_, _, _, _, hx1, _⟩
            · rw [hx1] at h
              have hx2 := oiL h
              rw [hx2] at h2
              replace h := h2
              obtain ⟨rfl, rfl, rfl, rfl, rfl, rfl, rfl, rfl, rfl⟩ := oi9 h
              exact hret (fun _ => 0) _ _ _ _ _ _ _ dX10_becomes_63 rfl (nb gbv) hP hD hS (Nat.le_of_ble_eq_true rfl) (Nat.le_of_ble_eq_true rfl)
            · rw [hx1] at h; cases h
    exact hL44 n _ _ _ _ _  _ _ _ hT44 hP hD hS (lv_sub hl [0, 1, 2, 3] rfl)
  have hL7 : ∀ (f : Nat) (v4_7 : Int32) (m_joined_7 : AI)  (H : Heap) (locs : List Loc) (ls : Array Slot), p_X10_becomes_L7 m_made m_madeHolds f v4_7 m_joined_7 = some m_joined_o7 → va_P G.1 vwCl (WM G m_h m_q m_onBy m_toldBy m_kindsOf m_nextOf m_holdsAt m_made m_standsFor m_madeNext m_madeHolds m_stateFor m_joined_7 m_joinedNow m_firstIn m_orderOf m_classAt m_sets m_waysTo m_waysThen m_queue m_leastTo) H → va_D A (WM G m_h m_q m_onBy m_toldBy m_kindsOf m_nextOf m_holdsAt m_made m_standsFor m_madeNext m_madeHolds m_stateFor m_joined_7 m_joinedNow m_firstIn m_orderOf m_classAt m_sets m_waysTo m_waysThen m_queue m_leastTo) → va_S A s.heap H locs → lv_has ls 9 [(0, .ref m_h), (1, .int v1), (2, .int (0 : Int32)), (3, .int (-1 : Int32)), (4, .int v4_7)] → W p l e rX10_becomes s m args below meth c H locs 0 0 Q (F0 m 7 ls []) := by
    intro f
    induction f with
    | zero => intro v4_7 m_joined_7 H locs ls h hP hD hS hl; cases (show none = some _ from h)
    | succ f ih =>
      intro v4_7 m_joined_7 H locs ls h hP hD hS hl
      rw [p_X10_becomes_L7] at h
      refine lv_iload hx hb dX10_becomes_7 (lv_at hl 4 rfl) ?_
      refine lv_aload_n hx hb dX10_becomes_9 rfl (lv_at hl 0 rfl) ?_
      refine va_get (D := G.1) (ci := 10) (v := .int m_made) (C := RX10) (T := TX10) (N := 20) hx hb hts hinX10 hown hK.1 hP 0 rfl rfl 5 (by decide) hf81 (fun _ h9 => h9) rfl dX10_becomes_10 ?_
      refine lv_icmp_ge (tgt := 44) hx hb dX10_becomes_13 (by decide) (fun c_13 => ?_) (fun c_13 => ?_)
      · replace h := (if_pos c_13).symm.trans h
        exact hX7 _  _ _ _ h hP hD hS (lv_sub hl [0, 1, 2, 3] rfl)
      · replace h := (if_neg c_13).symm.trans h
        refine lv_aload_n hx hb dX10_becomes_16 rfl (lv_at hl 0 rfl) ?_
        refine va_get (D := G.1) (ci := 10) (v := .ref (m_q 9)) (C := RX10) (T := TX10) (N := 20) hx hb hts hinX10 hown hK.1 hP 0 rfl rfl 10 (by decide) hf38 (fun _ h9 => h9) rfl dX10_becomes_17 ?_
        refine lv_iload hx hb dX10_becomes_20 (lv_at hl 4 rfl) ?_
        refine lv_aload_n hx hb dX10_becomes_22 rfl (lv_at hl 0 rfl) ?_
        refine va_get (D := G.1) (ci := 10) (v := .ref (m_q 7)) (C := RX10) (T := TX10) (N := 20) hx hb hts hinX10 hown hK.1 hP 0 rfl rfl 8 (by decide) hf32 (fun _ h9 => h9) rfl dX10_becomes_23 ?_
        refine lv_iload hx hb dX10_becomes_26 (lv_at hl 4 rfl) ?_
        obtain ⟨g_28, h⟩ := gi_e h
        refine va_zald hx hb hK.1 hP 8 1 rfl rfl g_28 dX10_becomes_28 ?_
        obtain ⟨j0_29, hT29, h⟩ := ob1_e h
        have hJ29 : ∀ (j0_29x : Int32)  (H : Heap) (locs : List Loc) (ls : Array Slot), some j0_29x = some j0_29 → va_P G.1 vwCl (WM G m_h m_q m_onBy m_toldBy m_kindsOf m_nextOf m_holdsAt m_made m_standsFor m_madeNext m_madeHolds m_stateFor m_joined_7 m_joinedNow m_firstIn m_orderOf m_classAt m_sets m_waysTo m_waysThen m_queue m_leastTo) H → va_D A (WM G m_h m_q m_onBy m_toldBy m_kindsOf m_nextOf m_holdsAt m_made m_standsFor m_madeNext m_madeHolds m_stateFor m_joined_7 m_joinedNow m_firstIn m_orderOf m_classAt m_sets m_waysTo m_waysThen m_queue m_leastTo) → va_S A s.heap H locs → lv_has ls 9 [(0, .ref m_h), (1, .int v1), (2, .int (0 : Int32)), (3, .int (-1 : Int32)), (4, .int v4_7)] → W p l e rX10_becomes s m args below meth c H locs 0 0 Q (F0 m 37 ls [.int j0_29x, .int v4_7, .ref (m_q 9)]) := by
          intro j0_29x H locs ls hq hP hD hS hl
          obtain rfl := oi1 hq
          obtain ⟨g_37, h⟩ := gi_e h
          refine va_iast hx hb hK.1 hP hD hS 10 0 rfl rfl g_37 dX10_becomes_37 (fun H locs hP hD hS => ?_)
          have hP : va_P G.1 vwCl (WM G m_h m_q m_onBy m_toldBy m_kindsOf m_nextOf m_holdsAt m_made m_standsFor m_madeNext m_madeHolds m_stateFor (upd m_joined_7 v4_7.toNatClampNeg j0_29) m_joinedNow m_firstIn m_orderOf m_classAt m_sets m_waysTo m_waysThen m_queue m_leastTo) H := hP
          have hD : va_D A (WM G m_h m_q m_onBy m_toldBy m_kindsOf m_nextOf m_holdsAt m_made m_standsFor m_madeNext m_madeHolds m_stateFor (upd m_joined_7 v4_7.toNatClampNeg j0_29) m_joinedNow m_firstIn m_orderOf m_classAt m_sets m_waysTo m_waysThen m_queue m_leastTo) := hD
          refine lv_iinc (v := (v4_7 + (1 : Int32))) (lv' := [(4, .int (v4_7 + (1 : Int32))), (0, .ref m_h), (1, .int v1), (2, .int (0 : Int32)), (3, .int (-1 : Int32))]) hx hb dX10_becomes_38 hl (k := 4) rfl rfl (by decide) rfl (fun ls hl => ?_)
          refine lv_goto (tgt := 7) hx hb dX10_becomes_41 (by decide) ?_
          exact ih _ _  _ _ _ h hP hD hS (lv_sub hl [1, 2, 3, 4, 0] rfl)
        replace h := hT29
        refine lv_if_eq (tgt := 36) hx hb dX10_becomes_29 (by decide) (fun c_29 => ?_) (fun c_29 => ?_)
        · replace h := (if_pos c_29).symm.trans h
          refine lv_iconst (v := 0) hx hb dX10_becomes_36 (by decide) ?_
          exact hJ29 _  _ _ _ h hP hD hS (lv_sub hl [0, 1, 2, 3, 4] rfl)
        · replace h := (if_neg c_29).symm.trans h
          refine lv_iconst (v := 1) hx hb dX10_becomes_32 (by decide) ?_
          refine lv_goto (tgt := 37) hx hb dX10_becomes_33 (by decide) ?_
          exact hJ29 _  _ _ _ h hP hD hS (lv_sub hl [0, 1, 2, 3, 4] rfl)
  exact hL7 n _ _  _ _ _ hT7 hP hD hS (lv_sub hl [3, 4, 2, 1, 0] rfl)
abbrev rX10_comes : Room := { frames := 3, cells := 0, slots := 0, locals := 75 }
set_option maxHeartbeats 4000000 in
set_option maxRecDepth 100000 in
theorem c_X10_comes (l : Launch) (G : GG) (n : Nat) (m_h : Nat) (m_q : Nat → Nat) (m_onBy : AI) (m_toldBy : AI) (m_kindsOf : AI) (m_nextOf : AI) (m_holdsAt : AI) (m_made : Int32) (m_standsFor : AI) (m_madeNext : AI) (m_madeHolds : AI) (m_stateFor : AI) (m_joined : AI) (m_joinedNow : AI) (m_firstIn : AI) (m_orderOf : AI) (m_classAt : AI) (m_sets : AL) (m_waysTo : AL) (m_waysThen : AL) (m_queue : AI) (m_leastTo : AL) (v1 : Int32) (sz : Nat) (r : Int32) (m_kindsOf_z : AI) (m_nextOf_z : AI) (m_holdsAt_z : AI) (m_joined_z : AI) (m_joinedNow_z : AI) (m_firstIn_z : AI) (m_orderOf_z : AI) (m_classAt_z : AI) (h : p_X10_comes n m_kindsOf m_nextOf m_holdsAt m_made m_madeNext m_madeHolds m_joined m_joinedNow m_firstIn m_orderOf m_classAt v1 = some (r, m_kindsOf_z, m_nextOf_z, m_holdsAt_z, m_joined_z, m_joinedNow_z, m_firstIn_z, m_orderOf_z, m_classAt_z)) : CI l yX10_comes wsX10_comes rX10_comes G [.ref m_h, .int v1] (WM G m_h m_q m_onBy m_toldBy m_kindsOf m_nextOf m_holdsAt m_made m_standsFor m_madeNext m_madeHolds m_stateFor m_joined m_joinedNow m_firstIn m_orderOf m_classAt m_sets m_waysTo m_waysThen m_queue m_leastTo) sz r (fun u => WM G m_h m_q m_onBy m_toldBy m_kindsOf_z m_nextOf_z m_holdsAt_z m_made m_standsFor m_madeNext m_madeHolds m_stateFor m_joined_z m_joinedNow_z m_firstIn_z m_orderOf_z m_classAt_z m_sets m_waysTo m_waysThen m_queue m_leastTo) := by
  refine enterCI (cc := cX10_comes) (maxL := 2) (by decide) rfl (Nat.le_of_ble_eq_true rfl) ?_
  intro p e s m args below meth c A Q hx hb hml hown hts hK hP hD hS hA hret ls hl
  have hown : s.vm.findClass RX10 = some m.cls := hown
  have hf16 := hts (.fieldLink RX10 16 "DigitClaimsModel" "kindsOf" "[I") (by decide +kernel)
  have hinX10 : ∀ w ∈ wsX100, w ∈ wsX10_comes := by decide +kernel
  have hl : lv_has ls 2 [(0, .ref m_h), (1, .int v1)] := hl
  unfold p_X10_comes at h
  refine lv_aload_n hx hb dX10_comes_0 rfl (lv_at hl 0 rfl) ?_
  refine lv_iload_n hx hb dX10_comes_1 rfl (lv_at hl 1 rfl) ?_
  obtain ⟨r_2, m_kindsOf_2, m_nextOf_2, m_holdsAt_2, m_joined_2, m_joinedNow_2, m_firstIn_2, m_orderOf_2, m_classAt_2, hc_2, h⟩ := ob9_e h
  refine k_ciA (va_runV (As := [.int v1]) (rest := []) ⟨hx, hb, hml, hown, hts⟩ (c_X10_becomes l G n m_h m_q m_onBy m_toldBy m_kindsOf m_nextOf m_holdsAt m_made m_standsFor m_madeNext m_madeHolds m_stateFor m_joined m_joinedNow m_firstIn m_orderOf m_classAt m_sets m_waysTo m_waysThen m_queue m_leastTo v1 _ r_2 m_kindsOf_2 m_nextOf_2 m_holdsAt_2 m_joined_2 m_joinedNow_2 m_firstIn_2 m_orderOf_2 m_classAt_2 hc_2) (cwV 1 hts gX10_comes_X10_becomes rfl rfl rfl ⟨rfl, eX10_becomes⟩ ⟨Nat.le_of_ble_eq_true rfl, Nat.le_of_ble_eq_true rfl⟩) (preWV (ci := 10) (q0 := 0) hK hP hD rfl rfl) rfl rfl hl.1 rfl (lv_room (Nat.le_of_ble_eq_true rfl)) dX10_comes_2 ⟨Nat.le_of_ble_eq_true rfl, Nat.le_of_ble_eq_true rfl⟩) hD hS hA (fun u_2 H locs hP hD hS => ?_)
  have hP : va_P G.1 vwCl (WM G m_h m_q m_onBy m_toldBy m_kindsOf_2 m_nextOf_2 m_holdsAt_2 m_made m_standsFor m_madeNext m_madeHolds m_stateFor m_joined_2 m_joinedNow_2 m_firstIn_2 m_orderOf_2 m_classAt_2 m_sets m_waysTo m_waysThen m_queue m_leastTo) H := hP
  have hD : va_D A (WM G m_h m_q m_onBy m_toldBy m_kindsOf_2 m_nextOf_2 m_holdsAt_2 m_made m_standsFor m_madeNext m_madeHolds m_stateFor m_joined_2 m_joinedNow_2 m_firstIn_2 m_orderOf_2 m_classAt_2 m_sets m_waysTo m_waysThen m_queue m_leastTo) := hD
  refine lv_if_eq (tgt := 17) hx hb dX10_comes_5 (by decide) (fun c_5 => ?_) (fun c_5 => ?_)
  · replace h := (if_pos c_5).symm.trans h
    refine lv_bipush (v := -6) hx hb dX10_comes_17 (by decide) ?_
    obtain ⟨rfl, rfl, rfl, rfl, rfl, rfl, rfl, rfl, rfl⟩ := oi9 h
    exact hret (fun _ => 0) _ _ _ _ _ _ _ dX10_comes_19 rfl rfl hP hD hS (Nat.le_of_ble_eq_true rfl) (Nat.le_of_ble_eq_true rfl)
  · replace h := (if_neg c_5).symm.trans h
    refine lv_aload_n hx hb dX10_comes_8 rfl (lv_at hl 0 rfl) ?_
    refine va_get (D := G.1) (ci := 10) (v := .ref (m_q 2)) (C := RX10) (T := TX10) (N := 20) hx hb hts hinX10 hown hK.1 hP 0 rfl rfl 2 (by decide) hf16 (fun _ h9 => h9) rfl dX10_comes_9 ?_
    refine lv_iload_n hx hb dX10_comes_12 rfl (lv_at hl 1 rfl) ?_
    obtain ⟨g_13, h⟩ := gi_e h
    refine va_iald hx hb hK.1 hP 3 0 rfl rfl g_13 dX10_comes_13 ?_
    refine lv_goto (tgt := 19) hx hb dX10_comes_14 (by decide) ?_
    obtain ⟨rfl, rfl, rfl, rfl, rfl, rfl, rfl, rfl, rfl⟩ := oi9 h
    exact hret (fun _ => 0) _ _ _ _ _ _ _ dX10_comes_19 rfl rfl hP hD hS (Nat.le_of_ble_eq_true rfl) (Nat.le_of_ble_eq_true rfl)
abbrev rX10_digit : Room := { frames := 0, cells := 0, slots := 0, locals := 0 }
set_option maxHeartbeats 4000000 in
set_option maxRecDepth 100000 in
theorem c_X10_digit (l : Launch) (G : GG)   (v0 : Int32) (v1 : Int32) (r : Int32) (h : p_X10_digit v0 v1 = some r) : SI l yX10_digit wsX10_digit rX10_digit G [.int v0, .int v1] (([] : va_W)) r := by
  refine enterSI (cc := cX10_digit) (maxL := 2) (by decide) rfl (Nat.le_of_ble_eq_true rfl) ?_
  intro p e s m args below meth c Q hx hb hml hown hts hK hP hret ls hl
  have hown : s.vm.findClass RX10 = some m.cls := hown
  have hl : lv_has ls 2 [(0, .int v0), (1, .int v1)] := hl
  unfold p_X10_digit at h
  refine lv_iload_n hx hb dX10_digit_0 rfl (lv_at hl 0 rfl) ?_
  refine lv_iload_n hx hb dX10_digit_1 rfl (lv_at hl 1 rfl) ?_
  refine lv_ishr hx hb dX10_digit_2 ?_
  refine lv_iconst (v := 1) hx hb dX10_digit_3 (by decide) ?_
  refine lv_iand hx hb dX10_digit_4 ?_
  obtain rfl := oi1 h
  exact hret _ _ _ dX10_digit_5 rfl rfl
abbrev rX10_leads : Room := { frames := 0, cells := 0, slots := 0, locals := 0 }
set_option maxHeartbeats 4000000 in
set_option maxRecDepth 100000 in
theorem c_X10_leads (l : Launch) (G : GG) (m_h : Nat) (m_q : Nat → Nat) (m_onBy : AI) (m_toldBy : AI) (m_kindsOf : AI) (m_nextOf : AI) (m_holdsAt : AI) (m_made : Int32) (m_standsFor : AI) (m_madeNext : AI) (m_madeHolds : AI) (m_stateFor : AI) (m_joined : AI) (m_joinedNow : AI) (m_firstIn : AI) (m_orderOf : AI) (m_classAt : AI) (m_sets : AL) (m_waysTo : AL) (m_waysThen : AL) (m_queue : AI) (m_leastTo : AL) (v1 : Int32) (v2 : Int32) (v3 : Int32) (sz : Nat) (m_madeNext_z : AI) (h : p_X10_leads m_madeNext v1 v2 v3 = some m_madeNext_z) : CV l yX10_leads wsX10_leads rX10_leads G [.ref m_h, .int v1, .int v2, .int v3] (WM G m_h m_q m_onBy m_toldBy m_kindsOf m_nextOf m_holdsAt m_made m_standsFor m_madeNext m_madeHolds m_stateFor m_joined m_joinedNow m_firstIn m_orderOf m_classAt m_sets m_waysTo m_waysThen m_queue m_leastTo) sz (fun u => WM G m_h m_q m_onBy m_toldBy m_kindsOf m_nextOf m_holdsAt m_made m_standsFor m_madeNext_z m_madeHolds m_stateFor m_joined m_joinedNow m_firstIn m_orderOf m_classAt m_sets m_waysTo m_waysThen m_queue m_leastTo) := by
  refine enterCV (cc := cX10_leads) (maxL := 4) (by decide) rfl (Nat.le_of_ble_eq_true rfl) ?_
  intro p e s m args below meth c A Q hx hb hml hown hts hK hP hD hS hA hnm hret ls hl
  have hown : s.vm.findClass RX10 = some m.cls := hown
  have hf29 := hts (.fieldLink RX10 29 "DigitClaimsModel" "madeNext" "[I") (by decide +kernel)
  have hinX10 : ∀ w ∈ wsX100, w ∈ wsX10_leads := by decide +kernel
  have hl : lv_has ls 4 [(0, .ref m_h), (1, .int v1), (2, .int v2), (3, .int v3)] := hl
  unfold p_X10_leads at h
  refine lv_aload_n hx hb dX10_leads_0 rfl (lv_at hl 0 rfl) ?_
  refine va_get (D := G.1) (ci := 10) (v := .ref (m_q 6)) (C := RX10) (T := TX10) (N := 20) hx hb hts hinX10 hown hK.1 hP 0 rfl rfl 7 (by decide) hf29 (fun _ h9 => h9) rfl dX10_leads_1 ?_
  refine lv_bipush (v := 8) hx hb dX10_leads_4 (by decide) ?_
  refine lv_iload_n hx hb dX10_leads_6 rfl (lv_at hl 1 rfl) ?_
  refine lv_imul hx hb dX10_leads_7 ?_
  refine lv_iload_n hx hb dX10_leads_8 rfl (lv_at hl 2 rfl) ?_
  refine lv_iadd hx hb dX10_leads_9 ?_
  refine lv_iload_n hx hb dX10_leads_10 rfl (lv_at hl 3 rfl) ?_
  obtain ⟨g_11, h⟩ := gi_e h
  refine va_iast hx hb hK.1 hP hD hS 7 0 rfl rfl g_11 dX10_leads_11 (fun H locs hP hD hS => ?_)
  have hP : va_P G.1 vwCl (WM G m_h m_q m_onBy m_toldBy m_kindsOf m_nextOf m_holdsAt m_made m_standsFor (upd m_madeNext (((8 : Int32) * v1) + v2).toNatClampNeg v3) m_madeHolds m_stateFor m_joined m_joinedNow m_firstIn m_orderOf m_classAt m_sets m_waysTo m_waysThen m_queue m_leastTo) H := hP
  have hD : va_D A (WM G m_h m_q m_onBy m_toldBy m_kindsOf m_nextOf m_holdsAt m_made m_standsFor (upd m_madeNext (((8 : Int32) * v1) + v2).toNatClampNeg v3) m_madeHolds m_stateFor m_joined m_joinedNow m_firstIn m_orderOf m_classAt m_sets m_waysTo m_waysThen m_queue m_leastTo) := hD
  obtain rfl := oi1 h
  exact hret (fun _ => 0) _ _ _ _ _ _ dX10_leads_12 hP hD hS (Nat.le_of_ble_eq_true rfl) (Nat.le_of_ble_eq_true rfl)
abbrev rX10_compares : Room := { frames := 4, cells := 0, slots := 0, locals := 96 }
set_option maxHeartbeats 4000000 in
set_option maxRecDepth 100000 in
theorem c_X10_compares (l : Launch) (G : GG) (n : Nat) (m_h : Nat) (m_q : Nat → Nat) (m_onBy : AI) (m_toldBy : AI) (m_kindsOf : AI) (m_nextOf : AI) (m_holdsAt : AI) (m_made : Int32) (m_standsFor : AI) (m_madeNext : AI) (m_madeHolds : AI) (m_stateFor : AI) (m_joined : AI) (m_joinedNow : AI) (m_firstIn : AI) (m_orderOf : AI) (m_classAt : AI) (m_sets : AL) (m_waysTo : AL) (m_waysThen : AL) (m_queue : AI) (m_leastTo : AL) (v1 : Int32) (v2 : Int32) (v3 : Int32) (v4 : Int32) (sz : Nat) (r : Int32) (m_kindsOf_z : AI) (m_nextOf_z : AI) (m_holdsAt_z : AI) (m_made_z : Int32) (m_madeNext_z : AI) (m_madeHolds_z : AI) (m_joined_z : AI) (m_joinedNow_z : AI) (m_firstIn_z : AI) (m_orderOf_z : AI) (m_classAt_z : AI) (h : p_X10_compares n m_kindsOf m_nextOf m_holdsAt m_madeNext m_madeHolds m_joined m_joinedNow m_firstIn m_orderOf m_classAt v1 v2 v3 v4 = some (r, m_kindsOf_z, m_nextOf_z, m_holdsAt_z, m_made_z, m_madeNext_z, m_madeHolds_z, m_joined_z, m_joinedNow_z, m_firstIn_z, m_orderOf_z, m_classAt_z)) : CI l yX10_compares wsX10_compares rX10_compares G [.ref m_h, .int v1, .int v2, .int v3, .int v4] (WM G m_h m_q m_onBy m_toldBy m_kindsOf m_nextOf m_holdsAt m_made m_standsFor m_madeNext m_madeHolds m_stateFor m_joined m_joinedNow m_firstIn m_orderOf m_classAt m_sets m_waysTo m_waysThen m_queue m_leastTo) sz r (fun u => WM G m_h m_q m_onBy m_toldBy m_kindsOf_z m_nextOf_z m_holdsAt_z m_made_z m_standsFor m_madeNext_z m_madeHolds_z m_stateFor m_joined_z m_joinedNow_z m_firstIn_z m_orderOf_z m_classAt_z m_sets m_waysTo m_waysThen m_queue m_leastTo) := by
  refine enterCI (cc := cX10_compares) (maxL := 7) (by decide) rfl (Nat.le_of_ble_eq_true rfl) ?_
  intro p e s m args below meth c A Q hx hb hml hown hts hK hP hD hS hA hret ls hl
  have hown : s.vm.findClass RX10 = some m.cls := hown
  have hf32 := hts (.fieldLink RX10 32 "DigitClaimsModel" "madeHolds" "[Z") (by decide +kernel)
  have hf81 := hts (.fieldLink RX10 81 "DigitClaimsModel" "made" "I") (by decide +kernel)
  have hinX10 : ∀ w ∈ wsX100, w ∈ wsX10_compares := by decide +kernel
  have hl : lv_has ls 7 [(0, .ref m_h), (1, .int v1), (2, .int v2), (3, .int v3), (4, .int v4)] := hl
  unfold p_X10_compares at h
  refine lv_aload_n hx hb dX10_compares_0 rfl (lv_at hl 0 rfl) ?_
  refine lv_iconst (v := 3) hx hb dX10_compares_1 (by decide) ?_
  refine va_put (D := G.1) (ci := 10) (v := .int (3 : Int32)) (ty := .int) (C := RX10) (T := TX10) (N := 20) hx hb hts hinX10 tyX10 tyX10_ok nmX10 hown hK.1 hP hD hS 0 rfl rfl 5 (by decide) hf81 (fun _ h9 => h9) rfl (by decide +kernel) rfl rfl (Nat.le_of_ble_eq_true rfl) dX10_compares_2 (fun H locs hP hD hS => ?_)
  have hP : va_P G.1 vwCl (WM G m_h m_q m_onBy m_toldBy m_kindsOf m_nextOf m_holdsAt (3 : Int32) m_standsFor m_madeNext m_madeHolds m_stateFor m_joined m_joinedNow m_firstIn m_orderOf m_classAt m_sets m_waysTo m_waysThen m_queue m_leastTo) H := hP
  have hD : va_D A (WM G m_h m_q m_onBy m_toldBy m_kindsOf m_nextOf m_holdsAt (3 : Int32) m_standsFor m_madeNext m_madeHolds m_stateFor m_joined m_joinedNow m_firstIn m_orderOf m_classAt m_sets m_waysTo m_waysThen m_queue m_leastTo) := hD
  refine lv_iconst (v := 0) hx hb dX10_compares_5 (by decide) ?_
  refine lv_istore (lv' := [(5, .int (0 : Int32)), (0, .ref m_h), (1, .int v1), (2, .int v2), (3, .int v3), (4, .int v4)]) hx hb dX10_compares_6 hl (by decide) rfl (fun ls hl => ?_)
  obtain ⟨m_madeNext_o8, hT8, h⟩ := ob1_e h
  have hX8 : ∀ (m_madeNext_o8x : AI)  (H : Heap) (locs : List Loc) (ls : Array Slot), some m_madeNext_o8x = some m_madeNext_o8 → va_P G.1 vwCl (WM G m_h m_q m_onBy m_toldBy m_kindsOf m_nextOf m_holdsAt (3 : Int32) m_standsFor m_madeNext_o8x m_madeHolds m_stateFor m_joined m_joinedNow m_firstIn m_orderOf m_classAt m_sets m_waysTo m_waysThen m_queue m_leastTo) H → va_D A (WM G m_h m_q m_onBy m_toldBy m_kindsOf m_nextOf m_holdsAt (3 : Int32) m_standsFor m_madeNext_o8x m_madeHolds m_stateFor m_joined m_joinedNow m_firstIn m_orderOf m_classAt m_sets m_waysTo m_waysThen m_queue m_leastTo) → va_S A s.heap H locs → lv_has ls 7 [(0, .ref m_h), (1, .int v1), (4, .int v4)] → W p l e rX10_compares s m args below meth c H locs 0 0 Q (F0 m 78 ls []) := by
    intro m_madeNext_o8x H locs ls hq hP hD hS hl
    obtain rfl := oi1 hq
    refine lv_iconst (v := 0) hx hb dX10_compares_78 (by decide) ?_
    refine lv_istore (lv' := [(5, .int (0 : Int32)), (0, .ref m_h), (1, .int v1), (4, .int v4)]) hx hb dX10_compares_79 hl (by decide) rfl (fun ls hl => ?_)
    obtain ⟨m_madeHolds_o81, hT81, h⟩ := ob1_e h
    have hX81 : ∀ (m_madeHolds_o81x : AI)  (H : Heap) (locs : List Loc) (ls : Array Slot), some m_madeHolds_o81x = some m_madeHolds_o81 → va_P G.1 vwCl (WM G m_h m_q m_onBy m_toldBy m_kindsOf m_nextOf m_holdsAt (3 : Int32) m_standsFor m_madeNext_o8 m_madeHolds_o81x m_stateFor m_joined m_joinedNow m_firstIn m_orderOf m_classAt m_sets m_waysTo m_waysThen m_queue m_leastTo) H → va_D A (WM G m_h m_q m_onBy m_toldBy m_kindsOf m_nextOf m_holdsAt (3 : Int32) m_standsFor m_madeNext_o8 m_madeHolds_o81x m_stateFor m_joined m_joinedNow m_firstIn m_orderOf m_classAt m_sets m_waysTo m_waysThen m_queue m_leastTo) → va_S A s.heap H locs → lv_has ls 7 [(0, .ref m_h), (1, .int v1)] → W p l e rX10_compares s m args below meth c H locs 0 0 Q (F0 m 112 ls []) := by
      intro m_madeHolds_o81x H locs ls hq hP hD hS hl
      obtain rfl := oi1 hq
      refine lv_aload_n hx hb dX10_compares_112 rfl (lv_at hl 0 rfl) ?_
      refine lv_iload_n hx hb dX10_compares_113 rfl (lv_at hl 1 rfl) ?_
      obtain ⟨r_114, m_kindsOf_114, m_nextOf_114, m_holdsAt_114, m_joined_114, m_joinedNow_114, m_firstIn_114, m_orderOf_114, m_classAt_114, hc_114, h⟩ := ob9_e h
      refine k_ciA (va_runV (As := [.int v1]) (rest := []) ⟨hx, hb, hml, hown, hts⟩ (c_X10_comes l G n m_h m_q m_onBy m_toldBy m_kindsOf m_nextOf m_holdsAt (3 : Int32) m_standsFor m_madeNext_o8 m_madeHolds_o81 m_stateFor m_joined m_joinedNow m_firstIn m_orderOf m_classAt m_sets m_waysTo m_waysThen m_queue m_leastTo v1 _ r_114 m_kindsOf_114 m_nextOf_114 m_holdsAt_114 m_joined_114 m_joinedNow_114 m_firstIn_114 m_orderOf_114 m_classAt_114 hc_114) (cwV 1 hts gX10_compares_X10_comes rfl rfl rfl ⟨rfl, eX10_comes⟩ ⟨Nat.le_of_ble_eq_true rfl, Nat.le_of_ble_eq_true rfl⟩) (preWV (ci := 10) (q0 := 0) hK hP hD rfl rfl) rfl rfl hl.1 rfl (lv_room (Nat.le_of_ble_eq_true rfl)) dX10_compares_114 ⟨Nat.le_of_ble_eq_true rfl, Nat.le_of_ble_eq_true rfl⟩) hD hS hA (fun u_114 H locs hP hD hS => ?_)
      have hP : va_P G.1 vwCl (WM G m_h m_q m_onBy m_toldBy m_kindsOf_114 m_nextOf_114 m_holdsAt_114 (3 : Int32) m_standsFor m_madeNext_o8 m_madeHolds_o81 m_stateFor m_joined_114 m_joinedNow_114 m_firstIn_114 m_orderOf_114 m_classAt_114 m_sets m_waysTo m_waysThen m_queue m_leastTo) H := hP
      have hD : va_D A (WM G m_h m_q m_onBy m_toldBy m_kindsOf_114 m_nextOf_114 m_holdsAt_114 (3 : Int32) m_standsFor m_madeNext_o8 m_madeHolds_o81 m_stateFor m_joined_114 m_joinedNow_114 m_firstIn_114 m_orderOf_114 m_classAt_114 m_sets m_waysTo m_waysThen m_queue m_leastTo) := hD
      obtain ⟨rfl, rfl, rfl, rfl, rfl, rfl, rfl, rfl, rfl, rfl, rfl, rfl⟩ := oi12 h
      exact hret (fun _ => 0) _ _ _ _ _ _ _ dX10_compares_117 rfl rfl hP hD hS (Nat.le_of_ble_eq_true rfl) (Nat.le_of_ble_eq_true rfl)
    have hL81 : ∀ (f : Nat) (v5_81 : Int32) (m_madeHolds_81 : AI)  (H : Heap) (locs : List Loc) (ls : Array Slot), p_X10_compares_L81 v4 f v5_81 m_madeHolds_81 = some m_madeHolds_o81 → va_P G.1 vwCl (WM G m_h m_q m_onBy m_toldBy m_kindsOf m_nextOf m_holdsAt (3 : Int32) m_standsFor m_madeNext_o8 m_madeHolds_81 m_stateFor m_joined m_joinedNow m_firstIn m_orderOf m_classAt m_sets m_waysTo m_waysThen m_queue m_leastTo) H → va_D A (WM G m_h m_q m_onBy m_toldBy m_kindsOf m_nextOf m_holdsAt (3 : Int32) m_standsFor m_madeNext_o8 m_madeHolds_81 m_stateFor m_joined m_joinedNow m_firstIn m_orderOf m_classAt m_sets m_waysTo m_waysThen m_queue m_leastTo) → va_S A s.heap H locs → lv_has ls 7 [(0, .ref m_h), (1, .int v1), (4, .int v4), (5, .int v5_81)] → W p l e rX10_compares s m args below meth c H locs 0 0 Q (F0 m 81 ls []) := by
      intro f
      induction f with
      | zero => intro v5_81 m_madeHolds_81 H locs ls h hP hD hS hl; cases (show none = some _ from h)
      | succ f ih =>
        intro v5_81 m_madeHolds_81 H locs ls h hP hD hS hl
        rw [p_X10_compares_L81] at h
        refine lv_iload hx hb dX10_compares_81 (lv_at hl 3 rfl) ?_
        refine lv_iconst (v := 3) hx hb dX10_compares_83 (by decide) ?_
        refine lv_icmp_ge (tgt := 112) hx hb dX10_compares_84 (by decide) (fun c_84 => ?_) (fun c_84 => ?_)
        · replace h := (if_pos c_84).symm.trans h
          exact hX81 _  _ _ _ h hP hD hS (lv_sub hl [0, 1] rfl)
        · replace h := (if_neg c_84).symm.trans h
          refine lv_aload_n hx hb dX10_compares_87 rfl (lv_at hl 0 rfl) ?_
          refine va_get (D := G.1) (ci := 10) (v := .ref (m_q 7)) (C := RX10) (T := TX10) (N := 20) hx hb hts hinX10 hown hK.1 hP 0 rfl rfl 8 (by decide) hf32 (fun _ h9 => h9) rfl dX10_compares_88 ?_
          refine lv_iload hx hb dX10_compares_91 (lv_at hl 3 rfl) ?_
          refine lv_iload hx hb dX10_compares_93 (lv_at hl 3 rfl) ?_
          refine lv_iload hx hb dX10_compares_95 (lv_at hl 2 rfl) ?_
          obtain ⟨j0_97, hT97, h⟩ := ob1_e h
          have hJ97 : ∀ (j0_97x : Int32)  (H : Heap) (locs : List Loc) (ls : Array Slot), some j0_97x = some j0_97 → va_P G.1 vwCl (WM G m_h m_q m_onBy m_toldBy m_kindsOf m_nextOf m_holdsAt (3 : Int32) m_standsFor m_madeNext_o8 m_madeHolds_81 m_stateFor m_joined m_joinedNow m_firstIn m_orderOf m_classAt m_sets m_waysTo m_waysThen m_queue m_leastTo) H → va_D A (WM G m_h m_q m_onBy m_toldBy m_kindsOf m_nextOf m_holdsAt (3 : Int32) m_standsFor m_madeNext_o8 m_madeHolds_81 m_stateFor m_joined m_joinedNow m_firstIn m_orderOf m_classAt m_sets m_waysTo m_waysThen m_queue m_leastTo) → va_S A s.heap H locs → lv_has ls 7 [(0, .ref m_h), (1, .int v1), (4, .int v4), (5, .int v5_81)] → W p l e rX10_compares s m args below meth c H locs 0 0 Q (F0 m 105 ls [.int j0_97x, .int v5_81, .ref (m_q 7)]) := by
            intro j0_97x H locs ls hq hP hD hS hl
            obtain rfl := oi1 hq
            obtain ⟨g_105, h⟩ := gi_e h
            refine va_zast hx hb hK.1 hP hD hS 8 1 rfl rfl g_105 dX10_compares_105 (fun H locs hP hD hS => ?_)
            have hP : va_P G.1 vwCl (WM G m_h m_q m_onBy m_toldBy m_kindsOf m_nextOf m_holdsAt (3 : Int32) m_standsFor m_madeNext_o8 (upd m_madeHolds_81 v5_81.toNatClampNeg (j0_97 &&& (1 : Int32))) m_stateFor m_joined m_joinedNow m_firstIn m_orderOf m_classAt m_sets m_waysTo m_waysThen m_queue m_leastTo) H := hP
            have hD : va_D A (WM G m_h m_q m_onBy m_toldBy m_kindsOf m_nextOf m_holdsAt (3 : Int32) m_standsFor m_madeNext_o8 (upd m_madeHolds_81 v5_81.toNatClampNeg (j0_97 &&& (1 : Int32))) m_stateFor m_joined m_joinedNow m_firstIn m_orderOf m_classAt m_sets m_waysTo m_waysThen m_queue m_leastTo) := hD
            refine lv_iinc (v := (v5_81 + (1 : Int32))) (lv' := [(5, .int (v5_81 + (1 : Int32))), (0, .ref m_h), (1, .int v1), (4, .int v4)]) hx hb dX10_compares_106 hl (k := 3) rfl rfl (by decide) rfl (fun ls hl => ?_)
            refine lv_goto (tgt := 81) hx hb dX10_compares_109 (by decide) ?_
            exact ih _ _  _ _ _ h hP hD hS (lv_sub hl [1, 2, 3, 0] rfl)
          replace h := hT97
          refine lv_icmp_ne (tgt := 104) hx hb dX10_compares_97 (by decide) (fun c_97 => ?_) (fun c_97 => ?_)
          · replace h := (if_neg c_97).symm.trans h
            refine lv_iconst (v := 0) hx hb dX10_compares_104 (by decide) ?_
            exact hJ97 _  _ _ _ h hP hD hS (lv_sub hl [0, 1, 2, 3] rfl)
          · replace h := (if_pos c_97).symm.trans h
            refine lv_iconst (v := 1) hx hb dX10_compares_100 (by decide) ?_
            refine lv_goto (tgt := 105) hx hb dX10_compares_101 (by decide) ?_
            exact hJ97 _  _ _ _ h hP hD hS (lv_sub hl [0, 1, 2, 3] rfl)
    exact hL81 n _ _  _ _ _ hT81 hP hD hS (lv_sub hl [1, 2, 3, 0] rfl)
  have hL8 : ∀ (f : Nat) (v5_8 : Int32) (m_madeNext_8 : AI)  (H : Heap) (locs : List Loc) (ls : Array Slot), p_X10_compares_L8 v2 v3 f v5_8 m_madeNext_8 = some m_madeNext_o8 → va_P G.1 vwCl (WM G m_h m_q m_onBy m_toldBy m_kindsOf m_nextOf m_holdsAt (3 : Int32) m_standsFor m_madeNext_8 m_madeHolds m_stateFor m_joined m_joinedNow m_firstIn m_orderOf m_classAt m_sets m_waysTo m_waysThen m_queue m_leastTo) H → va_D A (WM G m_h m_q m_onBy m_toldBy m_kindsOf m_nextOf m_holdsAt (3 : Int32) m_standsFor m_madeNext_8 m_madeHolds m_stateFor m_joined m_joinedNow m_firstIn m_orderOf m_classAt m_sets m_waysTo m_waysThen m_queue m_leastTo) → va_S A s.heap H locs → lv_has ls 7 [(0, .ref m_h), (1, .int v1), (2, .int v2), (3, .int v3), (4, .int v4), (5, .int v5_8)] → W p l e rX10_compares s m args below meth c H locs 0 0 Q (F0 m 8 ls []) := by
    intro f
    induction f with
    | zero => intro v5_8 m_madeNext_8 H locs ls h hP hD hS hl; cases (show none = some _ from h)
    | succ f ih =>
      intro v5_8 m_madeNext_8 H locs ls h hP hD hS hl
      rw [p_X10_compares_L8] at h
      refine lv_iload hx hb dX10_compares_8 (lv_at hl 5 rfl) ?_
      refine lv_bipush (v := 8) hx hb dX10_compares_10 (by decide) ?_
      refine lv_icmp_ge (tgt := 78) hx hb dX10_compares_12 (by decide) (fun c_12 => ?_) (fun c_12 => ?_)
      · replace h := (if_pos c_12).symm.trans h
        exact hX8 _  _ _ _ h hP hD hS (lv_sub hl [0, 1, 4] rfl)
      · replace h := (if_neg c_12).symm.trans h
        refine lv_iload hx hb dX10_compares_15 (lv_at hl 5 rfl) ?_
        refine lv_iload_n hx hb dX10_compares_17 rfl (lv_at hl 2 rfl) ?_
        obtain ⟨r_18, hc_18, h⟩ := ob1_e h
        refine k_si (va_runS (As := [.int v5_8, .int v2]) (rest := []) ⟨hx, hb, hml, hown, hts⟩ (c_X10_digit l G   v5_8 v2 r_18 hc_18) (va_cwS 2 hts gX10_compares_X10_digit rfl rfl rfl eX10_digit ⟨Nat.le_of_ble_eq_true rfl, Nat.le_of_ble_eq_true rfl⟩) (preSS hK (fun k q h => by cases h)) rfl rfl hl.1 rfl (lv_room (Nat.le_of_ble_eq_true rfl)) dX10_compares_18 ⟨Nat.le_of_ble_eq_true rfl, Nat.le_of_ble_eq_true rfl⟩) ?_
        refine lv_iload hx hb dX10_compares_21 (lv_at hl 5 rfl) ?_
        refine lv_iload_n hx hb dX10_compares_23 rfl (lv_at hl 3 rfl) ?_
        obtain ⟨r_24, hc_24, h⟩ := ob1_e h
        refine k_si (va_runS (As := [.int v5_8, .int v3]) (rest := [.int r_18]) ⟨hx, hb, hml, hown, hts⟩ (c_X10_digit l G   v5_8 v3 r_24 hc_24) (va_cwS 2 hts gX10_compares_X10_digit rfl rfl rfl eX10_digit ⟨Nat.le_of_ble_eq_true rfl, Nat.le_of_ble_eq_true rfl⟩) (preSS hK (fun k q h => by cases h)) rfl rfl hl.1 rfl (lv_room (Nat.le_of_ble_eq_true rfl)) dX10_compares_24 ⟨Nat.le_of_ble_eq_true rfl, Nat.le_of_ble_eq_true rfl⟩) ?_
        refine lv_isub hx hb dX10_compares_27 ?_
        refine lv_istore (lv' := [(6, .int (r_18 - r_24)), (0, .ref m_h), (1, .int v1), (2, .int v2), (3, .int v3), (4, .int v4), (5, .int v5_8)]) hx hb dX10_compares_28 hl (by decide) rfl (fun ls hl => ?_)
        refine lv_aload_n hx hb dX10_compares_30 rfl (lv_at hl 1 rfl) ?_
        refine lv_iconst (v := 0) hx hb dX10_compares_31 (by decide) ?_
        refine lv_iload hx hb dX10_compares_32 (lv_at hl 6 rfl) ?_
        refine lv_iload hx hb dX10_compares_34 (lv_at hl 0 rfl) ?_
        obtain ⟨j0_36, hT36, h⟩ := ob1_e h
        have hJ36 : ∀ (j0_36x : Int32)  (H : Heap) (locs : List Loc) (ls : Array Slot), some j0_36x = some j0_36 → va_P G.1 vwCl (WM G m_h m_q m_onBy m_toldBy m_kindsOf m_nextOf m_holdsAt (3 : Int32) m_standsFor m_madeNext_8 m_madeHolds m_stateFor m_joined m_joinedNow m_firstIn m_orderOf m_classAt m_sets m_waysTo m_waysThen m_queue m_leastTo) H → va_D A (WM G m_h m_q m_onBy m_toldBy m_kindsOf m_nextOf m_holdsAt (3 : Int32) m_standsFor m_madeNext_8 m_madeHolds m_stateFor m_joined m_joinedNow m_firstIn m_orderOf m_classAt m_sets m_waysTo m_waysThen m_queue m_leastTo) → va_S A s.heap H locs → lv_has ls 7 [(0, .ref m_h), (1, .int v1), (2, .int v2), (3, .int v3), (4, .int v4), (5, .int v5_8)] → W p l e rX10_compares s m args below meth c H locs 0 0 Q (F0 m 53 ls [.int j0_36x, .int v5_8, .int (0 : Int32), .ref m_h]) := by
          intro j0_36x H locs ls hq hP hD hS hl
          obtain rfl := oi1 hq
          obtain ⟨m_madeNext_53, hc_53, h⟩ := ob1_e h
          refine k_cvA (va_runV (As := [.int (0 : Int32), .int v5_8, .int j0_36]) (rest := []) ⟨hx, hb, hml, hown, hts⟩ (c_X10_leads l G m_h m_q m_onBy m_toldBy m_kindsOf m_nextOf m_holdsAt (3 : Int32) m_standsFor m_madeNext_8 m_madeHolds m_stateFor m_joined m_joinedNow m_firstIn m_orderOf m_classAt m_sets m_waysTo m_waysThen m_queue m_leastTo (0 : Int32) v5_8 j0_36 _ m_madeNext_53 hc_53) (cwV 3 hts gX10_compares_X10_leads rfl rfl rfl ⟨rfl, eX10_leads⟩ ⟨Nat.le_of_ble_eq_true rfl, Nat.le_of_ble_eq_true rfl⟩) (preWV (ci := 10) (q0 := 0) hK hP hD rfl rfl) rfl rfl hl.1 rfl (lv_room (Nat.le_of_ble_eq_true rfl)) dX10_compares_53 ⟨Nat.le_of_ble_eq_true rfl, Nat.le_of_ble_eq_true rfl⟩) hD hS hA (fun u_53 H locs hP hD hS => ?_)
          have hP : va_P G.1 vwCl (WM G m_h m_q m_onBy m_toldBy m_kindsOf m_nextOf m_holdsAt (3 : Int32) m_standsFor m_madeNext_53 m_madeHolds m_stateFor m_joined m_joinedNow m_firstIn m_orderOf m_classAt m_sets m_waysTo m_waysThen m_queue m_leastTo) H := hP
          have hD : va_D A (WM G m_h m_q m_onBy m_toldBy m_kindsOf m_nextOf m_holdsAt (3 : Int32) m_standsFor m_madeNext_53 m_madeHolds m_stateFor m_joined m_joinedNow m_firstIn m_orderOf m_classAt m_sets m_waysTo m_waysThen m_queue m_leastTo) := hD
          refine lv_aload_n hx hb dX10_compares_56 rfl (lv_at hl 0 rfl) ?_
          refine lv_iconst (v := 1) hx hb dX10_compares_57 (by decide) ?_
          refine lv_iload hx hb dX10_compares_58 (lv_at hl 5 rfl) ?_
          refine lv_iconst (v := 1) hx hb dX10_compares_60 (by decide) ?_
          obtain ⟨m_madeNext_61, hc_61, h⟩ := ob1_e h
          refine k_cvA (va_runV (As := [.int (1 : Int32), .int v5_8, .int (1 : Int32)]) (rest := []) ⟨hx, hb, hml, hown, hts⟩ (c_X10_leads l G m_h m_q m_onBy m_toldBy m_kindsOf m_nextOf m_holdsAt (3 : Int32) m_standsFor m_madeNext_53 m_madeHolds m_stateFor m_joined m_joinedNow m_firstIn m_orderOf m_classAt m_sets m_waysTo m_waysThen m_queue m_leastTo (1 : Int32) v5_8 (1 : Int32) _ m_madeNext_61 hc_61) (cwV 3 hts gX10_compares_X10_leads rfl rfl rfl ⟨rfl, eX10_leads⟩ ⟨Nat.le_of_ble_eq_true rfl, Nat.le_of_ble_eq_true rfl⟩) (preWV (ci := 10) (q0 := 0) hK hP hD rfl rfl) rfl rfl hl.1 rfl (lv_room (Nat.le_of_ble_eq_true rfl)) dX10_compares_61 ⟨Nat.le_of_ble_eq_true rfl, Nat.le_of_ble_eq_true rfl⟩) hD hS hA (fun u_61 H locs hP hD hS => ?_)
          have hP : va_P G.1 vwCl (WM G m_h m_q m_onBy m_toldBy m_kindsOf m_nextOf m_holdsAt (3 : Int32) m_standsFor m_madeNext_61 m_madeHolds m_stateFor m_joined m_joinedNow m_firstIn m_orderOf m_classAt m_sets m_waysTo m_waysThen m_queue m_leastTo) H := hP
          have hD : va_D A (WM G m_h m_q m_onBy m_toldBy m_kindsOf m_nextOf m_holdsAt (3 : Int32) m_standsFor m_madeNext_61 m_madeHolds m_stateFor m_joined m_joinedNow m_firstIn m_orderOf m_classAt m_sets m_waysTo m_waysThen m_queue m_leastTo) := hD
          refine lv_aload_n hx hb dX10_compares_64 rfl (lv_at hl 0 rfl) ?_
          refine lv_iconst (v := 2) hx hb dX10_compares_65 (by decide) ?_
          refine lv_iload hx hb dX10_compares_66 (lv_at hl 5 rfl) ?_
          refine lv_iconst (v := 2) hx hb dX10_compares_68 (by decide) ?_
          obtain ⟨m_madeNext_69, hc_69, h⟩ := ob1_e h
          refine k_cvA (va_runV (As := [.int (2 : Int32), .int v5_8, .int (2 : Int32)]) (rest := []) ⟨hx, hb, hml, hown, hts⟩ (c_X10_leads l G m_h m_q m_onBy m_toldBy m_kindsOf m_nextOf m_holdsAt (3 : Int32) m_standsFor m_madeNext_61 m_madeHolds m_stateFor m_joined m_joinedNow m_firstIn m_orderOf m_classAt m_sets m_waysTo m_waysThen m_queue m_leastTo (2 : Int32) v5_8 (2 : Int32) _ m_madeNext_69 hc_69) (cwV 3 hts gX10_compares_X10_leads rfl rfl rfl ⟨rfl, eX10_leads⟩ ⟨Nat.le_of_ble_eq_true rfl, Nat.le_of_ble_eq_true rfl⟩) (preWV (ci := 10) (q0 := 0) hK hP hD rfl rfl) rfl rfl hl.1 rfl (lv_room (Nat.le_of_ble_eq_true rfl)) dX10_compares_69 ⟨Nat.le_of_ble_eq_true rfl, Nat.le_of_ble_eq_true rfl⟩) hD hS hA (fun u_69 H locs hP hD hS => ?_)
          have hP : va_P G.1 vwCl (WM G m_h m_q m_onBy m_toldBy m_kindsOf m_nextOf m_holdsAt (3 : Int32) m_standsFor m_madeNext_69 m_madeHolds m_stateFor m_joined m_joinedNow m_firstIn m_orderOf m_classAt m_sets m_waysTo m_waysThen m_queue m_leastTo) H := hP
          have hD : va_D A (WM G m_h m_q m_onBy m_toldBy m_kindsOf m_nextOf m_holdsAt (3 : Int32) m_standsFor m_madeNext_69 m_madeHolds m_stateFor m_joined m_joinedNow m_firstIn m_orderOf m_classAt m_sets m_waysTo m_waysThen m_queue m_leastTo) := hD
          refine lv_iinc (v := (v5_8 + (1 : Int32))) (lv' := [(5, .int (v5_8 + (1 : Int32))), (0, .ref m_h), (1, .int v1), (2, .int v2), (3, .int v3), (4, .int v4)]) hx hb dX10_compares_72 hl (k := 5) rfl rfl (by decide) rfl (fun ls hl => ?_)
          refine lv_goto (tgt := 8) hx hb dX10_compares_75 (by decide) ?_
          exact ih _ _  _ _ _ h hP hD hS (lv_sub hl [1, 2, 3, 4, 5, 0] rfl)
        replace h := hT36
        refine lv_if_ne (tgt := 43) hx hb dX10_compares_36 (by decide) (fun c_36 => ?_) (fun c_36 => ?_)
        · replace h := (if_neg c_36).symm.trans h
          refine lv_iload hx hb dX10_compares_43 (lv_at hl 0 rfl) ?_
          refine lv_if_ge (tgt := 52) hx hb dX10_compares_45 (by decide) (fun c_45 => ?_) (fun c_45 => ?_)
          · replace h := (if_pos c_45).symm.trans h
            refine lv_iconst (v := 2) hx hb dX10_compares_52 (by decide) ?_
            exact hJ36 _  _ _ _ h hP hD hS (lv_sub hl [1, 2, 3, 4, 5, 6] rfl)
          · replace h := (if_neg c_45).symm.trans h
            refine lv_iconst (v := 1) hx hb dX10_compares_48 (by decide) ?_
            refine lv_goto (tgt := 53) hx hb dX10_compares_49 (by decide) ?_
            exact hJ36 _  _ _ _ h hP hD hS (lv_sub hl [1, 2, 3, 4, 5, 6] rfl)
        · replace h := (if_pos c_36).symm.trans h
          refine lv_iconst (v := 0) hx hb dX10_compares_39 (by decide) ?_
          refine lv_goto (tgt := 53) hx hb dX10_compares_40 (by decide) ?_
          exact hJ36 _  _ _ _ h hP hD hS (lv_sub hl [1, 2, 3, 4, 5, 6] rfl)
  exact hL8 n _ _  _ _ _ hT8 hP hD hS (lv_sub hl [1, 2, 3, 4, 5, 0] rfl)
abbrev rX10_equal : Room := { frames := 5, cells := 0, slots := 0, locals := 122 }
set_option maxHeartbeats 4000000 in
set_option maxRecDepth 100000 in
theorem c_X10_equal (l : Launch) (G : GG) (n : Nat) (m_h : Nat) (m_q : Nat → Nat) (m_onBy : AI) (m_toldBy : AI) (m_kindsOf : AI) (m_nextOf : AI) (m_holdsAt : AI) (m_made : Int32) (m_standsFor : AI) (m_madeNext : AI) (m_madeHolds : AI) (m_stateFor : AI) (m_joined : AI) (m_joinedNow : AI) (m_firstIn : AI) (m_orderOf : AI) (m_classAt : AI) (m_sets : AL) (m_waysTo : AL) (m_waysThen : AL) (m_queue : AI) (m_leastTo : AL) (v1 : Int32) (v2 : Int32) (v3 : Int32) (sz : Nat) (r : Int32) (m_kindsOf_z : AI) (m_nextOf_z : AI) (m_holdsAt_z : AI) (m_made_z : Int32) (m_madeNext_z : AI) (m_madeHolds_z : AI) (m_joined_z : AI) (m_joinedNow_z : AI) (m_firstIn_z : AI) (m_orderOf_z : AI) (m_classAt_z : AI) (h : p_X10_equal n m_kindsOf m_nextOf m_holdsAt m_made m_madeNext m_madeHolds m_joined m_joinedNow m_firstIn m_orderOf m_classAt v1 v2 v3 = some (r, m_kindsOf_z, m_nextOf_z, m_holdsAt_z, m_made_z, m_madeNext_z, m_madeHolds_z, m_joined_z, m_joinedNow_z, m_firstIn_z, m_orderOf_z, m_classAt_z)) : CI l yX10_equal wsX10_equal rX10_equal G [.ref m_h, .int v1, .int v2, .int v3] (WM G m_h m_q m_onBy m_toldBy m_kindsOf m_nextOf m_holdsAt m_made m_standsFor m_madeNext m_madeHolds m_stateFor m_joined m_joinedNow m_firstIn m_orderOf m_classAt m_sets m_waysTo m_waysThen m_queue m_leastTo) sz r (fun u => WM G m_h m_q m_onBy m_toldBy m_kindsOf_z m_nextOf_z m_holdsAt_z m_made_z m_standsFor m_madeNext_z m_madeHolds_z m_stateFor m_joined_z m_joinedNow_z m_firstIn_z m_orderOf_z m_classAt_z m_sets m_waysTo m_waysThen m_queue m_leastTo) := by
  refine enterCI (cc := cX10_equal) (maxL := 4) (by decide) rfl (Nat.le_of_ble_eq_true rfl) ?_
  intro p e s m args below meth c A Q hx hb hml hown hts hK hP hD hS hA hret ls hl
  have hown : s.vm.findClass RX10 = some m.cls := hown
  have hl : lv_has ls 4 [(0, .ref m_h), (1, .int v1), (2, .int v2), (3, .int v3)] := hl
  unfold p_X10_equal at h
  refine lv_iload_n hx hb dX10_equal_0 rfl (lv_at hl 1 rfl) ?_
  obtain ⟨r_1, hc_1, h⟩ := ob1_e h
  refine k_si (va_runS (As := [.int v1]) (rest := []) ⟨hx, hb, hml, hown, hts⟩ (c_X10_isClaim l G   v1 r_1 hc_1) (va_cwS 1 hts gX10_equal_X10_isClaim rfl rfl rfl eX10_isClaim ⟨Nat.le_of_ble_eq_true rfl, Nat.le_of_ble_eq_true rfl⟩) (preSS hK (fun k q h => by cases h)) rfl rfl hl.1 rfl (lv_room (Nat.le_of_ble_eq_true rfl)) dX10_equal_1 ⟨Nat.le_of_ble_eq_true rfl, Nat.le_of_ble_eq_true rfl⟩) ?_
  refine lv_if_eq (tgt := 26) hx hb dX10_equal_4 (by decide) (fun c_4 => ?_) (fun c_4 => ?_)
  · replace h := (if_pos c_4).symm.trans h
    refine lv_iconst (v := -1) hx hb dX10_equal_26 (by decide) ?_
    obtain ⟨rfl, rfl, rfl, rfl, rfl, rfl, rfl, rfl, rfl, rfl, rfl, rfl⟩ := oi12 h
    exact hret (fun _ => 0) _ _ _ _ _ _ _ dX10_equal_27 rfl rfl hP hD hS (Nat.le_of_ble_eq_true rfl) (Nat.le_of_ble_eq_true rfl)
  · replace h := (if_neg c_4).symm.trans h
    refine lv_iload_n hx hb dX10_equal_7 rfl (lv_at hl 2 rfl) ?_
    refine lv_iload_n hx hb dX10_equal_8 rfl (lv_at hl 3 rfl) ?_
    obtain ⟨r_9, hc_9, h⟩ := ob1_e h
    refine k_si (va_runS (As := [.int v2, .int v3]) (rest := []) ⟨hx, hb, hml, hown, hts⟩ (c_X10_areTwo l G   v2 v3 r_9 hc_9) (va_cwS 2 hts gX10_equal_X10_areTwo rfl rfl rfl eX10_areTwo ⟨Nat.le_of_ble_eq_true rfl, Nat.le_of_ble_eq_true rfl⟩) (preSS hK (fun k q h => by cases h)) rfl rfl hl.1 rfl (lv_room (Nat.le_of_ble_eq_true rfl)) dX10_equal_9 ⟨Nat.le_of_ble_eq_true rfl, Nat.le_of_ble_eq_true rfl⟩) ?_
    refine lv_if_eq (tgt := 26) hx hb dX10_equal_12 (by decide) (fun c_12 => ?_) (fun c_12 => ?_)
    · replace h := (if_pos c_12).symm.trans h
      refine lv_iconst (v := -1) hx hb dX10_equal_26 (by decide) ?_
      obtain ⟨rfl, rfl, rfl, rfl, rfl, rfl, rfl, rfl, rfl, rfl, rfl, rfl⟩ := oi12 h
      exact hret (fun _ => 0) _ _ _ _ _ _ _ dX10_equal_27 rfl rfl hP hD hS (Nat.le_of_ble_eq_true rfl) (Nat.le_of_ble_eq_true rfl)
    · replace h := (if_neg c_12).symm.trans h
      refine lv_aload_n hx hb dX10_equal_15 rfl (lv_at hl 0 rfl) ?_
      refine lv_iload_n hx hb dX10_equal_16 rfl (lv_at hl 1 rfl) ?_
      refine lv_iload_n hx hb dX10_equal_17 rfl (lv_at hl 2 rfl) ?_
      refine lv_iload_n hx hb dX10_equal_18 rfl (lv_at hl 3 rfl) ?_
      refine lv_iconst (v := 0) hx hb dX10_equal_19 (by decide) ?_
      obtain ⟨r_20, m_kindsOf_20, m_nextOf_20, m_holdsAt_20, m_made_20, m_madeNext_20, m_madeHolds_20, m_joined_20, m_joinedNow_20, m_firstIn_20, m_orderOf_20, m_classAt_20, hc_20, h⟩ := ob12_e h
      refine k_ciA (va_runV (As := [.int v1, .int v2, .int v3, .int (0 : Int32)]) (rest := []) ⟨hx, hb, hml, hown, hts⟩ (c_X10_compares l G n m_h m_q m_onBy m_toldBy m_kindsOf m_nextOf m_holdsAt m_made m_standsFor m_madeNext m_madeHolds m_stateFor m_joined m_joinedNow m_firstIn m_orderOf m_classAt m_sets m_waysTo m_waysThen m_queue m_leastTo v1 v2 v3 (0 : Int32) _ r_20 m_kindsOf_20 m_nextOf_20 m_holdsAt_20 m_made_20 m_madeNext_20 m_madeHolds_20 m_joined_20 m_joinedNow_20 m_firstIn_20 m_orderOf_20 m_classAt_20 hc_20) (cwV 4 hts gX10_equal_X10_compares rfl rfl rfl ⟨rfl, eX10_compares⟩ ⟨Nat.le_of_ble_eq_true rfl, Nat.le_of_ble_eq_true rfl⟩) (preWV (ci := 10) (q0 := 0) hK hP hD rfl rfl) rfl rfl hl.1 rfl (lv_room (Nat.le_of_ble_eq_true rfl)) dX10_equal_20 ⟨Nat.le_of_ble_eq_true rfl, Nat.le_of_ble_eq_true rfl⟩) hD hS hA (fun u_20 H locs hP hD hS => ?_)
      have hP : va_P G.1 vwCl (WM G m_h m_q m_onBy m_toldBy m_kindsOf_20 m_nextOf_20 m_holdsAt_20 m_made_20 m_standsFor m_madeNext_20 m_madeHolds_20 m_stateFor m_joined_20 m_joinedNow_20 m_firstIn_20 m_orderOf_20 m_classAt_20 m_sets m_waysTo m_waysThen m_queue m_leastTo) H := hP
      have hD : va_D A (WM G m_h m_q m_onBy m_toldBy m_kindsOf_20 m_nextOf_20 m_holdsAt_20 m_made_20 m_standsFor m_madeNext_20 m_madeHolds_20 m_stateFor m_joined_20 m_joinedNow_20 m_firstIn_20 m_orderOf_20 m_classAt_20 m_sets m_waysTo m_waysThen m_queue m_leastTo) := hD
      refine lv_goto (tgt := 27) hx hb dX10_equal_23 (by decide) ?_
      obtain ⟨rfl, rfl, rfl, rfl, rfl, rfl, rfl, rfl, rfl, rfl, rfl, rfl⟩ := oi12 h
      exact hret (fun _ => 0) _ _ _ _ _ _ _ dX10_equal_27 rfl rfl hP hD hS (Nat.le_of_ble_eq_true rfl) (Nat.le_of_ble_eq_true rfl)
abbrev rX10_less : Room := { frames := 5, cells := 0, slots := 0, locals := 122 }
set_option maxHeartbeats 4000000 in
set_option maxRecDepth 100000 in
theorem c_X10_less (l : Launch) (G : GG) (n : Nat) (m_h : Nat) (m_q : Nat → Nat) (m_onBy : AI) (m_toldBy : AI) (m_kindsOf : AI) (m_nextOf : AI) (m_holdsAt : AI) (m_made : Int32) (m_standsFor : AI) (m_madeNext : AI) (m_madeHolds : AI) (m_stateFor : AI) (m_joined : AI) (m_joinedNow : AI) (m_firstIn : AI) (m_orderOf : AI) (m_classAt : AI) (m_sets : AL) (m_waysTo : AL) (m_waysThen : AL) (m_queue : AI) (m_leastTo : AL) (v1 : Int32) (v2 : Int32) (v3 : Int32) (sz : Nat) (r : Int32) (m_kindsOf_z : AI) (m_nextOf_z : AI) (m_holdsAt_z : AI) (m_made_z : Int32) (m_madeNext_z : AI) (m_madeHolds_z : AI) (m_joined_z : AI) (m_joinedNow_z : AI) (m_firstIn_z : AI) (m_orderOf_z : AI) (m_classAt_z : AI) (h : p_X10_less n m_kindsOf m_nextOf m_holdsAt m_made m_madeNext m_madeHolds m_joined m_joinedNow m_firstIn m_orderOf m_classAt v1 v2 v3 = some (r, m_kindsOf_z, m_nextOf_z, m_holdsAt_z, m_made_z, m_madeNext_z, m_madeHolds_z, m_joined_z, m_joinedNow_z, m_firstIn_z, m_orderOf_z, m_classAt_z)) : CI l yX10_less wsX10_less rX10_less G [.ref m_h, .int v1, .int v2, .int v3] (WM G m_h m_q m_onBy m_toldBy m_kindsOf m_nextOf m_holdsAt m_made m_standsFor m_madeNext m_madeHolds m_stateFor m_joined m_joinedNow m_firstIn m_orderOf m_classAt m_sets m_waysTo m_waysThen m_queue m_leastTo) sz r (fun u => WM G m_h m_q m_onBy m_toldBy m_kindsOf_z m_nextOf_z m_holdsAt_z m_made_z m_standsFor m_madeNext_z m_madeHolds_z m_stateFor m_joined_z m_joinedNow_z m_firstIn_z m_orderOf_z m_classAt_z m_sets m_waysTo m_waysThen m_queue m_leastTo) := by
  refine enterCI (cc := cX10_less) (maxL := 4) (by decide) rfl (Nat.le_of_ble_eq_true rfl) ?_
  intro p e s m args below meth c A Q hx hb hml hown hts hK hP hD hS hA hret ls hl
  have hown : s.vm.findClass RX10 = some m.cls := hown
  have hl : lv_has ls 4 [(0, .ref m_h), (1, .int v1), (2, .int v2), (3, .int v3)] := hl
  unfold p_X10_less at h
  refine lv_iload_n hx hb dX10_less_0 rfl (lv_at hl 1 rfl) ?_
  obtain ⟨r_1, hc_1, h⟩ := ob1_e h
  refine k_si (va_runS (As := [.int v1]) (rest := []) ⟨hx, hb, hml, hown, hts⟩ (c_X10_isClaim l G   v1 r_1 hc_1) (va_cwS 1 hts gX10_less_X10_isClaim rfl rfl rfl eX10_isClaim ⟨Nat.le_of_ble_eq_true rfl, Nat.le_of_ble_eq_true rfl⟩) (preSS hK (fun k q h => by cases h)) rfl rfl hl.1 rfl (lv_room (Nat.le_of_ble_eq_true rfl)) dX10_less_1 ⟨Nat.le_of_ble_eq_true rfl, Nat.le_of_ble_eq_true rfl⟩) ?_
  refine lv_if_eq (tgt := 26) hx hb dX10_less_4 (by decide) (fun c_4 => ?_) (fun c_4 => ?_)
  · replace h := (if_pos c_4).symm.trans h
    refine lv_iconst (v := -1) hx hb dX10_less_26 (by decide) ?_
    obtain ⟨rfl, rfl, rfl, rfl, rfl, rfl, rfl, rfl, rfl, rfl, rfl, rfl⟩ := oi12 h
    exact hret (fun _ => 0) _ _ _ _ _ _ _ dX10_less_27 rfl rfl hP hD hS (Nat.le_of_ble_eq_true rfl) (Nat.le_of_ble_eq_true rfl)
  · replace h := (if_neg c_4).symm.trans h
    refine lv_iload_n hx hb dX10_less_7 rfl (lv_at hl 2 rfl) ?_
    refine lv_iload_n hx hb dX10_less_8 rfl (lv_at hl 3 rfl) ?_
    obtain ⟨r_9, hc_9, h⟩ := ob1_e h
    refine k_si (va_runS (As := [.int v2, .int v3]) (rest := []) ⟨hx, hb, hml, hown, hts⟩ (c_X10_areTwo l G   v2 v3 r_9 hc_9) (va_cwS 2 hts gX10_less_X10_areTwo rfl rfl rfl eX10_areTwo ⟨Nat.le_of_ble_eq_true rfl, Nat.le_of_ble_eq_true rfl⟩) (preSS hK (fun k q h => by cases h)) rfl rfl hl.1 rfl (lv_room (Nat.le_of_ble_eq_true rfl)) dX10_less_9 ⟨Nat.le_of_ble_eq_true rfl, Nat.le_of_ble_eq_true rfl⟩) ?_
    refine lv_if_eq (tgt := 26) hx hb dX10_less_12 (by decide) (fun c_12 => ?_) (fun c_12 => ?_)
    · replace h := (if_pos c_12).symm.trans h
      refine lv_iconst (v := -1) hx hb dX10_less_26 (by decide) ?_
      obtain ⟨rfl, rfl, rfl, rfl, rfl, rfl, rfl, rfl, rfl, rfl, rfl, rfl⟩ := oi12 h
      exact hret (fun _ => 0) _ _ _ _ _ _ _ dX10_less_27 rfl rfl hP hD hS (Nat.le_of_ble_eq_true rfl) (Nat.le_of_ble_eq_true rfl)
    · replace h := (if_neg c_12).symm.trans h
      refine lv_aload_n hx hb dX10_less_15 rfl (lv_at hl 0 rfl) ?_
      refine lv_iload_n hx hb dX10_less_16 rfl (lv_at hl 1 rfl) ?_
      refine lv_iload_n hx hb dX10_less_17 rfl (lv_at hl 2 rfl) ?_
      refine lv_iload_n hx hb dX10_less_18 rfl (lv_at hl 3 rfl) ?_
      refine lv_iconst (v := 1) hx hb dX10_less_19 (by decide) ?_
      obtain ⟨r_20, m_kindsOf_20, m_nextOf_20, m_holdsAt_20, m_made_20, m_madeNext_20, m_madeHolds_20, m_joined_20, m_joinedNow_20, m_firstIn_20, m_orderOf_20, m_classAt_20, hc_20, h⟩ := ob12_e h
      refine k_ciA (va_runV (As := [.int v1, .int v2, .int v3, .int (1 : Int32)]) (rest := []) ⟨hx, hb, hml, hown, hts⟩ (c_X10_compares l G n m_h m_q m_onBy m_toldBy m_kindsOf m_nextOf m_holdsAt m_made m_standsFor m_madeNext m_madeHolds m_stateFor m_joined m_joinedNow m_firstIn m_orderOf m_classAt m_sets m_waysTo m_waysThen m_queue m_leastTo v1 v2 v3 (1 : Int32) _ r_20 m_kindsOf_20 m_nextOf_20 m_holdsAt_20 m_made_20 m_madeNext_20 m_madeHolds_20 m_joined_20 m_joinedNow_20 m_firstIn_20 m_orderOf_20 m_classAt_20 hc_20) (cwV 4 hts gX10_less_X10_compares rfl rfl rfl ⟨rfl, eX10_compares⟩ ⟨Nat.le_of_ble_eq_true rfl, Nat.le_of_ble_eq_true rfl⟩) (preWV (ci := 10) (q0 := 0) hK hP hD rfl rfl) rfl rfl hl.1 rfl (lv_room (Nat.le_of_ble_eq_true rfl)) dX10_less_20 ⟨Nat.le_of_ble_eq_true rfl, Nat.le_of_ble_eq_true rfl⟩) hD hS hA (fun u_20 H locs hP hD hS => ?_)
      have hP : va_P G.1 vwCl (WM G m_h m_q m_onBy m_toldBy m_kindsOf_20 m_nextOf_20 m_holdsAt_20 m_made_20 m_standsFor m_madeNext_20 m_madeHolds_20 m_stateFor m_joined_20 m_joinedNow_20 m_firstIn_20 m_orderOf_20 m_classAt_20 m_sets m_waysTo m_waysThen m_queue m_leastTo) H := hP
      have hD : va_D A (WM G m_h m_q m_onBy m_toldBy m_kindsOf_20 m_nextOf_20 m_holdsAt_20 m_made_20 m_standsFor m_madeNext_20 m_madeHolds_20 m_stateFor m_joined_20 m_joinedNow_20 m_firstIn_20 m_orderOf_20 m_classAt_20 m_sets m_waysTo m_waysThen m_queue m_leastTo) := hD
      refine lv_goto (tgt := 27) hx hb dX10_less_23 (by decide) ?_
      obtain ⟨rfl, rfl, rfl, rfl, rfl, rfl, rfl, rfl, rfl, rfl, rfl, rfl⟩ := oi12 h
      exact hret (fun _ => 0) _ _ _ _ _ _ _ dX10_less_27 rfl rfl hP hD hS (Nat.le_of_ble_eq_true rfl) (Nat.le_of_ble_eq_true rfl)
abbrev rX10_sum : Room := { frames := 4, cells := 0, slots := 0, locals := 96 }
set_option maxHeartbeats 4000000 in
set_option maxRecDepth 100000 in
theorem c_X10_sum (l : Launch) (G : GG) (n : Nat) (m_h : Nat) (m_q : Nat → Nat) (m_onBy : AI) (m_toldBy : AI) (m_kindsOf : AI) (m_nextOf : AI) (m_holdsAt : AI) (m_made : Int32) (m_standsFor : AI) (m_madeNext : AI) (m_madeHolds : AI) (m_stateFor : AI) (m_joined : AI) (m_joinedNow : AI) (m_firstIn : AI) (m_orderOf : AI) (m_classAt : AI) (m_sets : AL) (m_waysTo : AL) (m_waysThen : AL) (m_queue : AI) (m_leastTo : AL) (v1 : Int32) (v2 : Int32) (v3 : Int32) (sz : Nat) (r : Int32) (m_kindsOf_z : AI) (m_nextOf_z : AI) (m_holdsAt_z : AI) (m_made_z : Int32) (m_madeNext_z : AI) (m_madeHolds_z : AI) (m_joined_z : AI) (m_joinedNow_z : AI) (m_firstIn_z : AI) (m_orderOf_z : AI) (m_classAt_z : AI) (h : p_X10_sum n m_kindsOf m_nextOf m_holdsAt m_made m_madeNext m_madeHolds m_joined m_joinedNow m_firstIn m_orderOf m_classAt v1 v2 v3 = some (r, m_kindsOf_z, m_nextOf_z, m_holdsAt_z, m_made_z, m_madeNext_z, m_madeHolds_z, m_joined_z, m_joinedNow_z, m_firstIn_z, m_orderOf_z, m_classAt_z)) : CI l yX10_sum wsX10_sum rX10_sum G [.ref m_h, .int v1, .int v2, .int v3] (WM G m_h m_q m_onBy m_toldBy m_kindsOf m_nextOf m_holdsAt m_made m_standsFor m_madeNext m_madeHolds m_stateFor m_joined m_joinedNow m_firstIn m_orderOf m_classAt m_sets m_waysTo m_waysThen m_queue m_leastTo) sz r (fun u => WM G m_h m_q m_onBy m_toldBy m_kindsOf_z m_nextOf_z m_holdsAt_z m_made_z m_standsFor m_madeNext_z m_madeHolds_z m_stateFor m_joined_z m_joinedNow_z m_firstIn_z m_orderOf_z m_classAt_z m_sets m_waysTo m_waysThen m_queue m_leastTo) := by
  refine enterCI (cc := cX10_sum) (maxL := 7) (by decide) rfl (Nat.le_of_ble_eq_true rfl) ?_
  intro p e s m args below meth c A Q hx hb hml hown hts hK hP hD hS hA hret ls hl
  have hown : s.vm.findClass RX10 = some m.cls := hown
  have hf32 := hts (.fieldLink RX10 32 "DigitClaimsModel" "madeHolds" "[Z") (by decide +kernel)
  have hf81 := hts (.fieldLink RX10 81 "DigitClaimsModel" "made" "I") (by decide +kernel)
  have hinX10 : ∀ w ∈ wsX100, w ∈ wsX10_sum := by decide +kernel
  have hl : lv_has ls 7 [(0, .ref m_h), (1, .int v1), (2, .int v2), (3, .int v3)] := hl
  unfold p_X10_sum at h
  refine lv_iload_n hx hb dX10_sum_0 rfl (lv_at hl 1 rfl) ?_
  obtain ⟨r_1, hc_1, h⟩ := ob1_e h
  refine k_si (va_runS (As := [.int v1]) (rest := []) ⟨hx, hb, hml, hown, hts⟩ (c_X10_isClaim l G   v1 r_1 hc_1) (va_cwS 1 hts gX10_sum_X10_isClaim rfl rfl rfl eX10_isClaim ⟨Nat.le_of_ble_eq_true rfl, Nat.le_of_ble_eq_true rfl⟩) (preSS hK (fun k q h => by cases h)) rfl rfl hl.1 rfl (lv_room (Nat.le_of_ble_eq_true rfl)) dX10_sum_1 ⟨Nat.le_of_ble_eq_true rfl, Nat.le_of_ble_eq_true rfl⟩) ?_
  refine lv_if_eq (tgt := 15) hx hb dX10_sum_4 (by decide) (fun c_4 => ?_) (fun c_4 => ?_)
  · replace h := (if_pos c_4).symm.trans h
    refine lv_iconst (v := -1) hx hb dX10_sum_15 (by decide) ?_
    obtain ⟨rfl, rfl, rfl, rfl, rfl, rfl, rfl, rfl, rfl, rfl, rfl, rfl⟩ := oi12 h
    exact hret (fun _ => 0) _ _ _ _ _ _ _ dX10_sum_16 rfl rfl hP hD hS (Nat.le_of_ble_eq_true rfl) (Nat.le_of_ble_eq_true rfl)
  · replace h := (if_neg c_4).symm.trans h
    refine lv_iload_n hx hb dX10_sum_7 rfl (lv_at hl 2 rfl) ?_
    refine lv_iload_n hx hb dX10_sum_8 rfl (lv_at hl 3 rfl) ?_
    obtain ⟨r_9, hc_9, h⟩ := ob1_e h
    refine k_si (va_runS (As := [.int v2, .int v3]) (rest := []) ⟨hx, hb, hml, hown, hts⟩ (c_X10_areTwo l G   v2 v3 r_9 hc_9) (va_cwS 2 hts gX10_sum_X10_areTwo rfl rfl rfl eX10_areTwo ⟨Nat.le_of_ble_eq_true rfl, Nat.le_of_ble_eq_true rfl⟩) (preSS hK (fun k q h => by cases h)) rfl rfl hl.1 rfl (lv_room (Nat.le_of_ble_eq_true rfl)) dX10_sum_9 ⟨Nat.le_of_ble_eq_true rfl, Nat.le_of_ble_eq_true rfl⟩) ?_
    refine lv_if_ne (tgt := 17) hx hb dX10_sum_12 (by decide) (fun c_12 => ?_) (fun c_12 => ?_)
    · replace h := (if_neg c_12).symm.trans h
      refine lv_aload_n hx hb dX10_sum_17 rfl (lv_at hl 0 rfl) ?_
      refine lv_iconst (v := 3) hx hb dX10_sum_18 (by decide) ?_
      refine va_put (D := G.1) (ci := 10) (v := .int (3 : Int32)) (ty := .int) (C := RX10) (T := TX10) (N := 20) hx hb hts hinX10 tyX10 tyX10_ok nmX10 hown hK.1 hP hD hS 0 rfl rfl 5 (by decide) hf81 (fun _ h9 => h9) rfl (by decide +kernel) rfl rfl (Nat.le_of_ble_eq_true rfl) dX10_sum_19 (fun H locs hP hD hS => ?_)
      have hP : va_P G.1 vwCl (WM G m_h m_q m_onBy m_toldBy m_kindsOf m_nextOf m_holdsAt (3 : Int32) m_standsFor m_madeNext m_madeHolds m_stateFor m_joined m_joinedNow m_firstIn m_orderOf m_classAt m_sets m_waysTo m_waysThen m_queue m_leastTo) H := hP
      have hD : va_D A (WM G m_h m_q m_onBy m_toldBy m_kindsOf m_nextOf m_holdsAt (3 : Int32) m_standsFor m_madeNext m_madeHolds m_stateFor m_joined m_joinedNow m_firstIn m_orderOf m_classAt m_sets m_waysTo m_waysThen m_queue m_leastTo) := hD
      refine lv_iconst (v := 0) hx hb dX10_sum_22 (by decide) ?_
      refine lv_istore (lv' := [(4, .int (0 : Int32)), (0, .ref m_h), (1, .int v1), (2, .int v2), (3, .int v3)]) hx hb dX10_sum_23 hl (by decide) rfl (fun ls hl => ?_)
      obtain ⟨m_madeNext_o25, m_madeHolds_o25, hT25, h⟩ := ob2_e h
      have hX25 : ∀ (m_madeNext_o25x : AI) (m_madeHolds_o25x : AI)  (H : Heap) (locs : List Loc) (ls : Array Slot), some (m_madeNext_o25x, m_madeHolds_o25x) = some (m_madeNext_o25, m_madeHolds_o25) → va_P G.1 vwCl (WM G m_h m_q m_onBy m_toldBy m_kindsOf m_nextOf m_holdsAt (3 : Int32) m_standsFor m_madeNext_o25x m_madeHolds_o25x m_stateFor m_joined m_joinedNow m_firstIn m_orderOf m_classAt m_sets m_waysTo m_waysThen m_queue m_leastTo) H → va_D A (WM G m_h m_q m_onBy m_toldBy m_kindsOf m_nextOf m_holdsAt (3 : Int32) m_standsFor m_madeNext_o25x m_madeHolds_o25x m_stateFor m_joined m_joinedNow m_firstIn m_orderOf m_classAt m_sets m_waysTo m_waysThen m_queue m_leastTo) → va_S A s.heap H locs → lv_has ls 7 [(0, .ref m_h), (1, .int v1)] → W p l e rX10_sum s m args below meth c H locs 0 0 Q (F0 m 131 ls []) := by
        intro m_madeNext_o25x m_madeHolds_o25x H locs ls hq hP hD hS hl
        obtain ⟨rfl, rfl⟩ := oi2 hq
        refine lv_aload_n hx hb dX10_sum_131 rfl (lv_at hl 0 rfl) ?_
        refine lv_iload_n hx hb dX10_sum_132 rfl (lv_at hl 1 rfl) ?_
        obtain ⟨r_133, m_kindsOf_133, m_nextOf_133, m_holdsAt_133, m_joined_133, m_joinedNow_133, m_firstIn_133, m_orderOf_133, m_classAt_133, hc_133, h⟩ := ob9_e h
        refine k_ciA (va_runV (As := [.int v1]) (rest := []) ⟨hx, hb, hml, hown, hts⟩ (c_X10_comes l G n m_h m_q m_onBy m_toldBy m_kindsOf m_nextOf m_holdsAt (3 : Int32) m_standsFor m_madeNext_o25 m_madeHolds_o25 m_stateFor m_joined m_joinedNow m_firstIn m_orderOf m_classAt m_sets m_waysTo m_waysThen m_queue m_leastTo v1 _ r_133 m_kindsOf_133 m_nextOf_133 m_holdsAt_133 m_joined_133 m_joinedNow_133 m_firstIn_133 m_orderOf_133 m_classAt_133 hc_133) (cwV 1 hts gX10_sum_X10_comes rfl rfl rfl ⟨rfl, eX10_comes⟩ ⟨Nat.le_of_ble_eq_true rfl, Nat.le_of_ble_eq_true rfl⟩) (preWV (ci := 10) (q0 := 0) hK hP hD rfl rfl) rfl rfl hl.1 rfl (lv_room (Nat.le_of_ble_eq_true rfl)) dX10_sum_133 ⟨Nat.le_of_ble_eq_true rfl, Nat.le_of_ble_eq_true rfl⟩) hD hS hA (fun u_133 H locs hP hD hS => ?_)
        have hP : va_P G.1 vwCl (WM G m_h m_q m_onBy m_toldBy m_kindsOf_133 m_nextOf_133 m_holdsAt_133 (3 : Int32) m_standsFor m_madeNext_o25 m_madeHolds_o25 m_stateFor m_joined_133 m_joinedNow_133 m_firstIn_133 m_orderOf_133 m_classAt_133 m_sets m_waysTo m_waysThen m_queue m_leastTo) H := hP
        have hD : va_D A (WM G m_h m_q m_onBy m_toldBy m_kindsOf_133 m_nextOf_133 m_holdsAt_133 (3 : Int32) m_standsFor m_madeNext_o25 m_madeHolds_o25 m_stateFor m_joined_133 m_joinedNow_133 m_firstIn_133 m_orderOf_133 m_classAt_133 m_sets m_waysTo m_waysThen m_queue m_leastTo) := hD
        obtain ⟨rfl, rfl, rfl, rfl, rfl, rfl, rfl, rfl, rfl, rfl, rfl, rfl⟩ := oi12 h
        exact hret (fun _ => 0) _ _ _ _ _ _ _ dX10_sum_136 rfl rfl hP hD hS (Nat.le_of_ble_eq_true rfl) (Nat.le_of_ble_eq_true rfl)
      have hL25 : ∀ (f : Nat) (v4_25 : Int32) (m_madeNext_25 : AI) (m_madeHolds_25 : AI)  (H : Heap) (locs : List Loc) (ls : Array Slot), p_X10_sum_L25 n v2 v3 f v4_25 m_madeNext_25 m_madeHolds_25 = some (m_madeNext_o25, m_madeHolds_o25) → va_P G.1 vwCl (WM G m_h m_q m_onBy m_toldBy m_kindsOf m_nextOf m_holdsAt (3 : Int32) m_standsFor m_madeNext_25 m_madeHolds_25 m_stateFor m_joined m_joinedNow m_firstIn m_orderOf m_classAt m_sets m_waysTo m_waysThen m_queue m_leastTo) H → va_D A (WM G m_h m_q m_onBy m_toldBy m_kindsOf m_nextOf m_holdsAt (3 : Int32) m_standsFor m_madeNext_25 m_madeHolds_25 m_stateFor m_joined m_joinedNow m_firstIn m_orderOf m_classAt m_sets m_waysTo m_waysThen m_queue m_leastTo) → va_S A s.heap H locs → lv_has ls 7 [(0, .ref m_h), (1, .int v1), (2, .int v2), (3, .int v3), (4, .int v4_25)] → W p l e rX10_sum s m args below meth c H locs 0 0 Q (F0 m 25 ls []) := by
        intro f
        induction f with
        | zero => intro v4_25 m_madeNext_25 m_madeHolds_25 H locs ls h hP hD hS hl; cases (show none = some _ from h)
        | succ f ih =>
          intro v4_25 m_madeNext_25 m_madeHolds_25 H locs ls h hP hD hS hl
          rw [p_X10_sum_L25] at h
          refine lv_iload hx hb dX10_sum_25 (lv_at hl 4 rfl) ?_
          refine lv_iconst (v := 3) hx hb dX10_sum_27 (by decide) ?_
          refine lv_icmp_ge (tgt := 131) hx hb dX10_sum_28 (by decide) (fun c_28 => ?_) (fun c_28 => ?_)
          · replace h := (if_pos c_28).symm.trans h
            exact hX25 _ _  _ _ _ h hP hD hS (lv_sub hl [0, 1] rfl)
          · replace h := (if_neg c_28).symm.trans h
            refine lv_iconst (v := 0) hx hb dX10_sum_31 (by decide) ?_
            refine lv_istore (lv' := [(5, .int (0 : Int32)), (0, .ref m_h), (1, .int v1), (2, .int v2), (3, .int v3), (4, .int v4_25)]) hx hb dX10_sum_32 hl (by decide) rfl (fun ls hl => ?_)
            obtain ⟨m_madeNext_o34, hT34, h⟩ := ob1_e h
            have hX34 : ∀ (m_madeNext_o34x : AI)  (H : Heap) (locs : List Loc) (ls : Array Slot), some m_madeNext_o34x = some m_madeNext_o34 → va_P G.1 vwCl (WM G m_h m_q m_onBy m_toldBy m_kindsOf m_nextOf m_holdsAt (3 : Int32) m_standsFor m_madeNext_o34x m_madeHolds_25 m_stateFor m_joined m_joinedNow m_firstIn m_orderOf m_classAt m_sets m_waysTo m_waysThen m_queue m_leastTo) H → va_D A (WM G m_h m_q m_onBy m_toldBy m_kindsOf m_nextOf m_holdsAt (3 : Int32) m_standsFor m_madeNext_o34x m_madeHolds_25 m_stateFor m_joined m_joinedNow m_firstIn m_orderOf m_classAt m_sets m_waysTo m_waysThen m_queue m_leastTo) → va_S A s.heap H locs → lv_has ls 7 [(0, .ref m_h), (1, .int v1), (2, .int v2), (3, .int v3), (4, .int v4_25)] → W p l e rX10_sum s m args below meth c H locs 0 0 Q (F0 m 108 ls []) := by
              intro m_madeNext_o34x H locs ls hq hP hD hS hl
              obtain rfl := oi1 hq
              refine lv_aload_n hx hb dX10_sum_108 rfl (lv_at hl 0 rfl) ?_
              refine va_get (D := G.1) (ci := 10) (v := .ref (m_q 7)) (C := RX10) (T := TX10) (N := 20) hx hb hts hinX10 hown hK.1 hP 0 rfl rfl 8 (by decide) hf32 (fun _ h9 => h9) rfl dX10_sum_109 ?_
              refine lv_iload hx hb dX10_sum_112 (lv_at hl 4 rfl) ?_
              refine lv_iload hx hb dX10_sum_114 (lv_at hl 4 rfl) ?_
              obtain ⟨j0_116, hT116, h⟩ := ob1_e h
              have hJ116 : ∀ (j0_116x : Int32)  (H : Heap) (locs : List Loc) (ls : Array Slot), some j0_116x = some j0_116 → va_P G.1 vwCl (WM G m_h m_q m_onBy m_toldBy m_kindsOf m_nextOf m_holdsAt (3 : Int32) m_standsFor m_madeNext_o34 m_madeHolds_25 m_stateFor m_joined m_joinedNow m_firstIn m_orderOf m_classAt m_sets m_waysTo m_waysThen m_queue m_leastTo) H → va_D A (WM G m_h m_q m_onBy m_toldBy m_kindsOf m_nextOf m_holdsAt (3 : Int32) m_standsFor m_madeNext_o34 m_madeHolds_25 m_stateFor m_joined m_joinedNow m_firstIn m_orderOf m_classAt m_sets m_waysTo m_waysThen m_queue m_leastTo) → va_S A s.heap H locs → lv_has ls 7 [(0, .ref m_h), (1, .int v1), (2, .int v2), (3, .int v3), (4, .int v4_25)] → W p l e rX10_sum s m args below meth c H locs 0 0 Q (F0 m 124 ls [.int j0_116x, .int v4_25, .ref (m_q 7)]) := by
                intro j0_116x H locs ls hq hP hD hS hl
                obtain rfl := oi1 hq
                obtain ⟨g_124, h⟩ := gi_e h
                refine va_zast hx hb hK.1 hP hD hS 8 1 rfl rfl g_124 dX10_sum_124 (fun H locs hP hD hS => ?_)
                have hP : va_P G.1 vwCl (WM G m_h m_q m_onBy m_toldBy m_kindsOf m_nextOf m_holdsAt (3 : Int32) m_standsFor m_madeNext_o34 (upd m_madeHolds_25 v4_25.toNatClampNeg (j0_116 &&& (1 : Int32))) m_stateFor m_joined m_joinedNow m_firstIn m_orderOf m_classAt m_sets m_waysTo m_waysThen m_queue m_leastTo) H := hP
                have hD : va_D A (WM G m_h m_q m_onBy m_toldBy m_kindsOf m_nextOf m_holdsAt (3 : Int32) m_standsFor m_madeNext_o34 (upd m_madeHolds_25 v4_25.toNatClampNeg (j0_116 &&& (1 : Int32))) m_stateFor m_joined m_joinedNow m_firstIn m_orderOf m_classAt m_sets m_waysTo m_waysThen m_queue m_leastTo) := hD
                refine lv_iinc (v := (v4_25 + (1 : Int32))) (lv' := [(4, .int (v4_25 + (1 : Int32))), (0, .ref m_h), (1, .int v1), (2, .int v2), (3, .int v3)]) hx hb dX10_sum_125 hl (k := 4) rfl rfl (by decide) rfl (fun ls hl => ?_)
                refine lv_goto (tgt := 25) hx hb dX10_sum_128 (by decide) ?_
                exact ih _ _ _  _ _ _ h hP hD hS (lv_sub hl [1, 2, 3, 4, 0] rfl)
              replace h := hT116
              refine lv_if_ne (tgt := 123) hx hb dX10_sum_116 (by decide) (fun c_116 => ?_) (fun c_116 => ?_)
              · replace h := (if_neg c_116).symm.trans h
                refine lv_iconst (v := 0) hx hb dX10_sum_123 (by decide) ?_
                exact hJ116 _  _ _ _ h hP hD hS (lv_sub hl [0, 1, 2, 3, 4] rfl)
              · replace h := (if_pos c_116).symm.trans h
                refine lv_iconst (v := 1) hx hb dX10_sum_119 (by decide) ?_
                refine lv_goto (tgt := 124) hx hb dX10_sum_120 (by decide) ?_
                exact hJ116 _  _ _ _ h hP hD hS (lv_sub hl [0, 1, 2, 3, 4] rfl)
            have hL34 : ∀ (f : Nat) (v5_34 : Int32) (m_madeNext_34 : AI)  (H : Heap) (locs : List Loc) (ls : Array Slot), p_X10_sum_L34 v2 v3 v4_25 f v5_34 m_madeNext_34 = some m_madeNext_o34 → va_P G.1 vwCl (WM G m_h m_q m_onBy m_toldBy m_kindsOf m_nextOf m_holdsAt (3 : Int32) m_standsFor m_madeNext_34 m_madeHolds_25 m_stateFor m_joined m_joinedNow m_firstIn m_orderOf m_classAt m_sets m_waysTo m_waysThen m_queue m_leastTo) H → va_D A (WM G m_h m_q m_onBy m_toldBy m_kindsOf m_nextOf m_holdsAt (3 : Int32) m_standsFor m_madeNext_34 m_madeHolds_25 m_stateFor m_joined m_joinedNow m_firstIn m_orderOf m_classAt m_sets m_waysTo m_waysThen m_queue m_leastTo) → va_S A s.heap H locs → lv_has ls 7 [(0, .ref m_h), (1, .int v1), (2, .int v2), (3, .int v3), (4, .int v4_25), (5, .int v5_34)] → W p l e rX10_sum s m args below meth c H locs 0 0 Q (F0 m 34 ls []) := by
              intro f
              induction f with
              | zero => intro v5_34 m_madeNext_34 H locs ls h hP hD hS hl; cases (show none = some _ from h)
              | succ f ih =>
                intro v5_34 m_madeNext_34 H locs ls h hP hD hS hl
                rw [p_X10_sum_L34] at h
                refine lv_iload hx hb dX10_sum_34 (lv_at hl 5 rfl) ?_
                refine lv_bipush (v := 8) hx hb dX10_sum_36 (by decide) ?_
                refine lv_icmp_ge (tgt := 108) hx hb dX10_sum_38 (by decide) (fun c_38 => ?_) (fun c_38 => ?_)
                · replace h := (if_pos c_38).symm.trans h
                  exact hX34 _  _ _ _ h hP hD hS (lv_sub hl [0, 1, 2, 3, 4] rfl)
                · replace h := (if_neg c_38).symm.trans h
                  refine lv_iconst (v := 2) hx hb dX10_sum_41 (by decide) ?_
                  refine lv_iload hx hb dX10_sum_42 (lv_at hl 4 rfl) ?_
                  refine lv_imul hx hb dX10_sum_44 ?_
                  refine lv_iload hx hb dX10_sum_45 (lv_at hl 5 rfl) ?_
                  refine lv_iconst (v := 3) hx hb dX10_sum_47 (by decide) ?_
                  refine lv_iload_n hx hb dX10_sum_48 rfl (lv_at hl 2 rfl) ?_
                  refine lv_isub hx hb dX10_sum_49 ?_
                  refine lv_iload_n hx hb dX10_sum_50 rfl (lv_at hl 3 rfl) ?_
                  refine lv_isub hx hb dX10_sum_51 ?_
                  obtain ⟨r_52, hc_52, h⟩ := ob1_e h
                  refine k_si (va_runS (As := [.int v5_34, .int (((3 : Int32) - v2) - v3)]) (rest := [.int ((2 : Int32) * v4_25)]) ⟨hx, hb, hml, hown, hts⟩ (c_X10_digit l G   v5_34 (((3 : Int32) - v2) - v3) r_52 hc_52) (va_cwS 2 hts gX10_sum_X10_digit rfl rfl rfl eX10_digit ⟨Nat.le_of_ble_eq_true rfl, Nat.le_of_ble_eq_true rfl⟩) (preSS hK (fun k q h => by cases h)) rfl rfl hl.1 rfl (lv_room (Nat.le_of_ble_eq_true rfl)) dX10_sum_52 ⟨Nat.le_of_ble_eq_true rfl, Nat.le_of_ble_eq_true rfl⟩) ?_
                  refine lv_iadd hx hb dX10_sum_55 ?_
                  refine lv_iload hx hb dX10_sum_56 (lv_at hl 5 rfl) ?_
                  refine lv_iload_n hx hb dX10_sum_58 rfl (lv_at hl 2 rfl) ?_
                  obtain ⟨r_59, hc_59, h⟩ := ob1_e h
                  refine k_si (va_runS (As := [.int v5_34, .int v2]) (rest := [.int (((2 : Int32) * v4_25) + r_52)]) ⟨hx, hb, hml, hown, hts⟩ (c_X10_digit l G   v5_34 v2 r_59 hc_59) (va_cwS 2 hts gX10_sum_X10_digit rfl rfl rfl eX10_digit ⟨Nat.le_of_ble_eq_true rfl, Nat.le_of_ble_eq_true rfl⟩) (preSS hK (fun k q h => by cases h)) rfl rfl hl.1 rfl (lv_room (Nat.le_of_ble_eq_true rfl)) dX10_sum_59 ⟨Nat.le_of_ble_eq_true rfl, Nat.le_of_ble_eq_true rfl⟩) ?_
                  refine lv_isub hx hb dX10_sum_62 ?_
                  refine lv_iload hx hb dX10_sum_63 (lv_at hl 5 rfl) ?_
                  refine lv_iload_n hx hb dX10_sum_65 rfl (lv_at hl 3 rfl) ?_
                  obtain ⟨r_66, hc_66, h⟩ := ob1_e h
                  refine k_si (va_runS (As := [.int v5_34, .int v3]) (rest := [.int ((((2 : Int32) * v4_25) + r_52) - r_59)]) ⟨hx, hb, hml, hown, hts⟩ (c_X10_digit l G   v5_34 v3 r_66 hc_66) (va_cwS 2 hts gX10_sum_X10_digit rfl rfl rfl eX10_digit ⟨Nat.le_of_ble_eq_true rfl, Nat.le_of_ble_eq_true rfl⟩) (preSS hK (fun k q h => by cases h)) rfl rfl hl.1 rfl (lv_room (Nat.le_of_ble_eq_true rfl)) dX10_sum_66 ⟨Nat.le_of_ble_eq_true rfl, Nat.le_of_ble_eq_true rfl⟩) ?_
                  refine lv_isub hx hb dX10_sum_69 ?_
                  refine lv_istore (lv' := [(6, .int (((((2 : Int32) * v4_25) + r_52) - r_59) - r_66)), (0, .ref m_h), (1, .int v1), (2, .int v2), (3, .int v3), (4, .int v4_25), (5, .int v5_34)]) hx hb dX10_sum_70 hl (by decide) rfl (fun ls hl => ?_)
                  refine lv_aload_n hx hb dX10_sum_72 rfl (lv_at hl 1 rfl) ?_
                  refine lv_iload hx hb dX10_sum_73 (lv_at hl 5 rfl) ?_
                  refine lv_iload hx hb dX10_sum_75 (lv_at hl 6 rfl) ?_
                  refine lv_iload hx hb dX10_sum_77 (lv_at hl 5 rfl) ?_
                  refine lv_iconst (v := 2) hx hb dX10_sum_79 (by decide) ?_
                  obtain ⟨j0_80, hT80, h⟩ := ob1_e h
                  have hJ80 : ∀ (j0_80x : Int32)  (H : Heap) (locs : List Loc) (ls : Array Slot), some j0_80x = some j0_80 → va_P G.1 vwCl (WM G m_h m_q m_onBy m_toldBy m_kindsOf m_nextOf m_holdsAt (3 : Int32) m_standsFor m_madeNext_34 m_madeHolds_25 m_stateFor m_joined m_joinedNow m_firstIn m_orderOf m_classAt m_sets m_waysTo m_waysThen m_queue m_leastTo) H → va_D A (WM G m_h m_q m_onBy m_toldBy m_kindsOf m_nextOf m_holdsAt (3 : Int32) m_standsFor m_madeNext_34 m_madeHolds_25 m_stateFor m_joined m_joinedNow m_firstIn m_orderOf m_classAt m_sets m_waysTo m_waysThen m_queue m_leastTo) → va_S A s.heap H locs → lv_has ls 7 [(0, .ref m_h), (1, .int v1), (2, .int v2), (3, .int v3), (4, .int v4_25), (5, .int v5_34)] → W p l e rX10_sum s m args below meth c H locs 0 0 Q (F0 m 99 ls [.int j0_80x, .int v5_34, .int v4_25, .ref m_h]) := by
                    intro j0_80x H locs ls hq hP hD hS hl
                    obtain rfl := oi1 hq
                    obtain ⟨m_madeNext_99, hc_99, h⟩ := ob1_e h
                    refine k_cvA (va_runV (As := [.int v4_25, .int v5_34, .int j0_80]) (rest := []) ⟨hx, hb, hml, hown, hts⟩ (c_X10_leads l G m_h m_q m_onBy m_toldBy m_kindsOf m_nextOf m_holdsAt (3 : Int32) m_standsFor m_madeNext_34 m_madeHolds_25 m_stateFor m_joined m_joinedNow m_firstIn m_orderOf m_classAt m_sets m_waysTo m_waysThen m_queue m_leastTo v4_25 v5_34 j0_80 _ m_madeNext_99 hc_99) (cwV 3 hts gX10_sum_X10_leads rfl rfl rfl ⟨rfl, eX10_leads⟩ ⟨Nat.le_of_ble_eq_true rfl, Nat.le_of_ble_eq_true rfl⟩) (preWV (ci := 10) (q0 := 0) hK hP hD rfl rfl) rfl rfl hl.1 rfl (lv_room (Nat.le_of_ble_eq_true rfl)) dX10_sum_99 ⟨Nat.le_of_ble_eq_true rfl, Nat.le_of_ble_eq_true rfl⟩) hD hS hA (fun u_99 H locs hP hD hS => ?_)
                    have hP : va_P G.1 vwCl (WM G m_h m_q m_onBy m_toldBy m_kindsOf m_nextOf m_holdsAt (3 : Int32) m_standsFor m_madeNext_99 m_madeHolds_25 m_stateFor m_joined m_joinedNow m_firstIn m_orderOf m_classAt m_sets m_waysTo m_waysThen m_queue m_leastTo) H := hP
                    have hD : va_D A (WM G m_h m_q m_onBy m_toldBy m_kindsOf m_nextOf m_holdsAt (3 : Int32) m_standsFor m_madeNext_99 m_madeHolds_25 m_stateFor m_joined m_joinedNow m_firstIn m_orderOf m_classAt m_sets m_waysTo m_waysThen m_queue m_leastTo) := hD
                    refine lv_iinc (v := (v5_34 + (1 : Int32))) (lv' := [(5, .int (v5_34 + (1 : Int32))), (0, .ref m_h), (1, .int v1), (2, .int v2), (3, .int v3), (4, .int v4_25)]) hx hb dX10_sum_102 hl (k := 5) rfl rfl (by decide) rfl (fun ls hl => ?_)
                    refine lv_goto (tgt := 34) hx hb dX10_sum_105 (by decide) ?_
                    exact ih _ _  _ _ _ h hP hD hS (lv_sub hl [1, 2, 3, 4, 5, 0] rfl)
                  replace h := hT80
                  refine lv_icmp_eq (tgt := 93) hx hb dX10_sum_80 (by decide) (fun c_80 => ?_) (fun c_80 => ?_)
                  · replace h := (if_pos c_80).symm.trans h
                    refine lv_iconst (v := 2) hx hb dX10_sum_93 (by decide) ?_
                    refine lv_goto (tgt := 99) hx hb dX10_sum_94 (by decide) ?_
                    exact hJ80 _  _ _ _ h hP hD hS (lv_sub hl [1, 2, 3, 4, 5, 6] rfl)
                  · replace h := (if_neg c_80).symm.trans h
                    refine lv_iload hx hb dX10_sum_83 (lv_at hl 0 rfl) ?_
                    refine lv_iconst (v := 0) hx hb dX10_sum_85 (by decide) ?_
                    refine lv_iconst (v := 1) hx hb dX10_sum_86 (by decide) ?_
                    obtain ⟨r_87, hc_87, h⟩ := ob1_e h
                    refine k_si (va_runS (As := [.int (((((2 : Int32) * v4_25) + r_52) - r_59) - r_66), .int (0 : Int32), .int (1 : Int32)]) (rest := [.int v5_34, .int v4_25, .ref m_h]) ⟨hx, hb, hml, hown, hts⟩ (c_X10_within l G   (((((2 : Int32) * v4_25) + r_52) - r_59) - r_66) (0 : Int32) (1 : Int32) r_87 hc_87) (va_cwS 3 hts gX10_sum_X10_within rfl rfl rfl eX10_within ⟨Nat.le_of_ble_eq_true rfl, Nat.le_of_ble_eq_true rfl⟩) (preSS hK (fun k q h => by cases h)) rfl rfl hl.1 rfl (lv_room (Nat.le_of_ble_eq_true rfl)) dX10_sum_87 ⟨Nat.le_of_ble_eq_true rfl, Nat.le_of_ble_eq_true rfl⟩) ?_
                    refine lv_if_ne (tgt := 97) hx hb dX10_sum_90 (by decide) (fun c_90 => ?_) (fun c_90 => ?_)
                    · replace h := (if_neg c_90).symm.trans h
                      refine lv_iload hx hb dX10_sum_97 (lv_at hl 0 rfl) ?_
                      exact hJ80 _  _ _ _ h hP hD hS (lv_sub hl [1, 2, 3, 4, 5, 6] rfl)
                    · replace h := (if_pos c_90).symm.trans h
                      refine lv_iconst (v := 2) hx hb dX10_sum_93 (by decide) ?_
                      refine lv_goto (tgt := 99) hx hb dX10_sum_94 (by decide) ?_
                      exact hJ80 _  _ _ _ h hP hD hS (lv_sub hl [1, 2, 3, 4, 5, 6] rfl)
            exact hL34 n _ _  _ _ _ hT34 hP hD hS (lv_sub hl [1, 2, 3, 4, 5, 0] rfl)
      exact hL25 n _ _ _  _ _ _ hT25 hP hD hS (lv_sub hl [1, 2, 3, 4, 0] rfl)
    · replace h := (if_pos c_12).symm.trans h
      refine lv_iconst (v := -1) hx hb dX10_sum_15 (by decide) ?_
      obtain ⟨rfl, rfl, rfl, rfl, rfl, rfl, rfl, rfl, rfl, rfl, rfl, rfl⟩ := oi12 h
      exact hret (fun _ => 0) _ _ _ _ _ _ _ dX10_sum_16 rfl rfl hP hD hS (Nat.le_of_ble_eq_true rfl) (Nat.le_of_ble_eq_true rfl)
abbrev rX10_is : Room := { frames := 4, cells := 0, slots := 0, locals := 96 }
set_option maxHeartbeats 4000000 in
set_option maxRecDepth 100000 in
theorem c_X10_is (l : Launch) (G : GG) (n : Nat) (m_h : Nat) (m_q : Nat → Nat) (m_onBy : AI) (m_toldBy : AI) (m_kindsOf : AI) (m_nextOf : AI) (m_holdsAt : AI) (m_made : Int32) (m_standsFor : AI) (m_madeNext : AI) (m_madeHolds : AI) (m_stateFor : AI) (m_joined : AI) (m_joinedNow : AI) (m_firstIn : AI) (m_orderOf : AI) (m_classAt : AI) (m_sets : AL) (m_waysTo : AL) (m_waysThen : AL) (m_queue : AI) (m_leastTo : AL) (v1 : Int32) (v2 : Int32) (v3 : Int32) (sz : Nat) (r : Int32) (m_kindsOf_z : AI) (m_nextOf_z : AI) (m_holdsAt_z : AI) (m_made_z : Int32) (m_madeNext_z : AI) (m_madeHolds_z : AI) (m_joined_z : AI) (m_joinedNow_z : AI) (m_firstIn_z : AI) (m_orderOf_z : AI) (m_classAt_z : AI) (h : p_X10_is n m_kindsOf m_nextOf m_holdsAt m_made m_madeNext m_madeHolds m_joined m_joinedNow m_firstIn m_orderOf m_classAt v1 v2 v3 = some (r, m_kindsOf_z, m_nextOf_z, m_holdsAt_z, m_made_z, m_madeNext_z, m_madeHolds_z, m_joined_z, m_joinedNow_z, m_firstIn_z, m_orderOf_z, m_classAt_z)) : CI l yX10_is wsX10_is rX10_is G [.ref m_h, .int v1, .int v2, .int v3] (WM G m_h m_q m_onBy m_toldBy m_kindsOf m_nextOf m_holdsAt m_made m_standsFor m_madeNext m_madeHolds m_stateFor m_joined m_joinedNow m_firstIn m_orderOf m_classAt m_sets m_waysTo m_waysThen m_queue m_leastTo) sz r (fun u => WM G m_h m_q m_onBy m_toldBy m_kindsOf_z m_nextOf_z m_holdsAt_z m_made_z m_standsFor m_madeNext_z m_madeHolds_z m_stateFor m_joined_z m_joinedNow_z m_firstIn_z m_orderOf_z m_classAt_z m_sets m_waysTo m_waysThen m_queue m_leastTo) := by
  refine enterCI (cc := cX10_is) (maxL := 10) (by decide) rfl (Nat.le_of_ble_eq_true rfl) ?_
  intro p e s m args below meth c A Q hx hb hml hown hts hK hP hD hS hA hret ls hl
  have hown : s.vm.findClass RX10 = some m.cls := hown
  have hf32 := hts (.fieldLink RX10 32 "DigitClaimsModel" "madeHolds" "[Z") (by decide +kernel)
  have hf81 := hts (.fieldLink RX10 81 "DigitClaimsModel" "made" "I") (by decide +kernel)
  have hinX10 : ∀ w ∈ wsX100, w ∈ wsX10_is := by decide +kernel
  have hl : lv_has ls 10 [(0, .ref m_h), (1, .int v1), (2, .int v2), (3, .int v3)] := hl
  unfold p_X10_is at h
  refine lv_iload_n hx hb dX10_is_0 rfl (lv_at hl 1 rfl) ?_
  obtain ⟨r_1, hc_1, h⟩ := ob1_e h
  refine k_si (va_runS (As := [.int v1]) (rest := []) ⟨hx, hb, hml, hown, hts⟩ (c_X10_isClaim l G   v1 r_1 hc_1) (va_cwS 1 hts gX10_is_X10_isClaim rfl rfl rfl eX10_isClaim ⟨Nat.le_of_ble_eq_true rfl, Nat.le_of_ble_eq_true rfl⟩) (preSS hK (fun k q h => by cases h)) rfl rfl hl.1 rfl (lv_room (Nat.le_of_ble_eq_true rfl)) dX10_is_1 ⟨Nat.le_of_ble_eq_true rfl, Nat.le_of_ble_eq_true rfl⟩) ?_
  refine lv_if_eq (tgt := 14) hx hb dX10_is_4 (by decide) (fun c_4 => ?_) (fun c_4 => ?_)
  · replace h := (if_pos c_4).symm.trans h
    refine lv_iconst (v := -1) hx hb dX10_is_14 (by decide) ?_
    obtain ⟨rfl, rfl, rfl, rfl, rfl, rfl, rfl, rfl, rfl, rfl, rfl, rfl⟩ := oi12 h
    exact hret (fun _ => 0) _ _ _ _ _ _ _ dX10_is_15 rfl rfl hP hD hS (Nat.le_of_ble_eq_true rfl) (Nat.le_of_ble_eq_true rfl)
  · replace h := (if_neg c_4).symm.trans h
    refine lv_iload_n hx hb dX10_is_7 rfl (lv_at hl 2 rfl) ?_
    obtain ⟨r_8, hc_8, h⟩ := ob1_e h
    refine k_si (va_runS (As := [.int v2]) (rest := []) ⟨hx, hb, hml, hown, hts⟩ (c_X10_isNumber l G   v2 r_8 hc_8) (va_cwS 1 hts gX10_is_X10_isNumber rfl rfl rfl eX10_isNumber ⟨Nat.le_of_ble_eq_true rfl, Nat.le_of_ble_eq_true rfl⟩) (preSS hK (fun k q h => by cases h)) rfl rfl hl.1 rfl (lv_room (Nat.le_of_ble_eq_true rfl)) dX10_is_8 ⟨Nat.le_of_ble_eq_true rfl, Nat.le_of_ble_eq_true rfl⟩) ?_
    refine lv_if_ne (tgt := 16) hx hb dX10_is_11 (by decide) (fun c_11 => ?_) (fun c_11 => ?_)
    · replace h := (if_neg c_11).symm.trans h
      refine lv_iload_n hx hb dX10_is_16 rfl (lv_at hl 3 rfl) ?_
      refine lv_iconst (v := 0) hx hb dX10_is_17 (by decide) ?_
      refine lv_ldc (v := 1000000) hx hb hown (hts (.constant RX10 118 (1000000)) (by decide +kernel)) dX10_is_18 ?_
      obtain ⟨r_20, hc_20, h⟩ := ob1_e h
      refine k_si (va_runS (As := [.int v3, .int (0 : Int32), .int (1000000 : Int32)]) (rest := []) ⟨hx, hb, hml, hown, hts⟩ (c_X10_within l G   v3 (0 : Int32) (1000000 : Int32) r_20 hc_20) (va_cwS 3 hts gX10_is_X10_within rfl rfl rfl eX10_within ⟨Nat.le_of_ble_eq_true rfl, Nat.le_of_ble_eq_true rfl⟩) (preSS hK (fun k q h => by cases h)) rfl rfl hl.1 rfl (lv_room (Nat.le_of_ble_eq_true rfl)) dX10_is_20 ⟨Nat.le_of_ble_eq_true rfl, Nat.le_of_ble_eq_true rfl⟩) ?_
      refine lv_if_ne (tgt := 29) hx hb dX10_is_23 (by decide) (fun c_23 => ?_) (fun c_23 => ?_)
      · replace h := (if_neg c_23).symm.trans h
        refine lv_iconst (v := 0) hx hb dX10_is_29 (by decide) ?_
        refine lv_istore (lv' := [(4, .int (0 : Int32)), (0, .ref m_h), (1, .int v1), (2, .int v2), (3, .int v3)]) hx hb dX10_is_30 hl (by decide) rfl (fun ls hl => ?_)
        refine lv_iload_n hx hb dX10_is_32 rfl (lv_at hl 4 rfl) ?_
        refine lv_istore (lv' := [(5, .int v3), (4, .int (0 : Int32)), (0, .ref m_h), (1, .int v1), (2, .int v2), (3, .int v3)]) hx hb dX10_is_33 hl (by decide) rfl (fun ls hl => ?_)
        obtain ⟨o4_35, hT35, h⟩ := ob1_e h
        have hX35 : ∀ (x4_35 : Int32)  (H : Heap) (locs : List Loc) (ls : Array Slot), some x4_35 = some o4_35 → va_P G.1 vwCl (WM G m_h m_q m_onBy m_toldBy m_kindsOf m_nextOf m_holdsAt m_made m_standsFor m_madeNext m_madeHolds m_stateFor m_joined m_joinedNow m_firstIn m_orderOf m_classAt m_sets m_waysTo m_waysThen m_queue m_leastTo) H → va_D A (WM G m_h m_q m_onBy m_toldBy m_kindsOf m_nextOf m_holdsAt m_made m_standsFor m_madeNext m_madeHolds m_stateFor m_joined m_joinedNow m_firstIn m_orderOf m_classAt m_sets m_waysTo m_waysThen m_queue m_leastTo) → va_S A s.heap H locs → lv_has ls 10 [(0, .ref m_h), (1, .int v1), (2, .int v2), (3, .int v3), (4, .int x4_35)] → W p l e rX10_is s m args below meth c H locs 0 0 Q (F0 m 52 ls []) := by
          intro x4_35 H locs ls hq hP hD hS hl
          obtain rfl := oi1 hq
          refine lv_aload_n hx hb dX10_is_52 rfl (lv_at hl 0 rfl) ?_
          refine lv_iload hx hb dX10_is_53 (lv_at hl 4 rfl) ?_
          refine lv_iconst (v := 2) hx hb dX10_is_55 (by decide) ?_
          refine lv_iadd hx hb dX10_is_56 ?_
          refine va_put (D := G.1) (ci := 10) (v := .int (o4_35 + (2 : Int32))) (ty := .int) (C := RX10) (T := TX10) (N := 20) hx hb hts hinX10 tyX10 tyX10_ok nmX10 hown hK.1 hP hD hS 0 rfl rfl 5 (by decide) hf81 (fun _ h9 => h9) rfl (by decide +kernel) rfl rfl (Nat.le_of_ble_eq_true rfl) dX10_is_57 (fun H locs hP hD hS => ?_)
          have hP : va_P G.1 vwCl (WM G m_h m_q m_onBy m_toldBy m_kindsOf m_nextOf m_holdsAt (o4_35 + (2 : Int32)) m_standsFor m_madeNext m_madeHolds m_stateFor m_joined m_joinedNow m_firstIn m_orderOf m_classAt m_sets m_waysTo m_waysThen m_queue m_leastTo) H := hP
          have hD : va_D A (WM G m_h m_q m_onBy m_toldBy m_kindsOf m_nextOf m_holdsAt (o4_35 + (2 : Int32)) m_standsFor m_madeNext m_madeHolds m_stateFor m_joined m_joinedNow m_firstIn m_orderOf m_classAt m_sets m_waysTo m_waysThen m_queue m_leastTo) := hD
          refine lv_iconst (v := 0) hx hb dX10_is_60 (by decide) ?_
          refine lv_istore (lv' := [(5, .int (0 : Int32)), (0, .ref m_h), (1, .int v1), (2, .int v2), (3, .int v3), (4, .int o4_35)]) hx hb dX10_is_61 hl (by decide) rfl (fun ls hl => ?_)
          obtain ⟨m_madeNext_o63, m_madeHolds_o63, hT63, h⟩ := ob2_e h
          have hX63 : ∀ (m_madeNext_o63x : AI) (m_madeHolds_o63x : AI)  (H : Heap) (locs : List Loc) (ls : Array Slot), some (m_madeNext_o63x, m_madeHolds_o63x) = some (m_madeNext_o63, m_madeHolds_o63) → va_P G.1 vwCl (WM G m_h m_q m_onBy m_toldBy m_kindsOf m_nextOf m_holdsAt (o4_35 + (2 : Int32)) m_standsFor m_madeNext_o63x m_madeHolds_o63x m_stateFor m_joined m_joinedNow m_firstIn m_orderOf m_classAt m_sets m_waysTo m_waysThen m_queue m_leastTo) H → va_D A (WM G m_h m_q m_onBy m_toldBy m_kindsOf m_nextOf m_holdsAt (o4_35 + (2 : Int32)) m_standsFor m_madeNext_o63x m_madeHolds_o63x m_stateFor m_joined m_joinedNow m_firstIn m_orderOf m_classAt m_sets m_waysTo m_waysThen m_queue m_leastTo) → va_S A s.heap H locs → lv_has ls 10 [(0, .ref m_h), (1, .int v1)] → W p l e rX10_is s m args below meth c H locs 0 0 Q (F0 m 201 ls []) := by
            intro m_madeNext_o63x m_madeHolds_o63x H locs ls hq hP hD hS hl
            obtain ⟨rfl, rfl⟩ := oi2 hq
            refine lv_aload_n hx hb dX10_is_201 rfl (lv_at hl 0 rfl) ?_
            refine lv_iload_n hx hb dX10_is_202 rfl (lv_at hl 1 rfl) ?_
            obtain ⟨r_203, m_kindsOf_203, m_nextOf_203, m_holdsAt_203, m_joined_203, m_joinedNow_203, m_firstIn_203, m_orderOf_203, m_classAt_203, hc_203, h⟩ := ob9_e h
            refine k_ciA (va_runV (As := [.int v1]) (rest := []) ⟨hx, hb, hml, hown, hts⟩ (c_X10_comes l G n m_h m_q m_onBy m_toldBy m_kindsOf m_nextOf m_holdsAt (o4_35 + (2 : Int32)) m_standsFor m_madeNext_o63 m_madeHolds_o63 m_stateFor m_joined m_joinedNow m_firstIn m_orderOf m_classAt m_sets m_waysTo m_waysThen m_queue m_leastTo v1 _ r_203 m_kindsOf_203 m_nextOf_203 m_holdsAt_203 m_joined_203 m_joinedNow_203 m_firstIn_203 m_orderOf_203 m_classAt_203 hc_203) (cwV 1 hts gX10_is_X10_comes rfl rfl rfl ⟨rfl, eX10_comes⟩ ⟨Nat.le_of_ble_eq_true rfl, Nat.le_of_ble_eq_true rfl⟩) (preWV (ci := 10) (q0 := 0) hK hP hD rfl rfl) rfl rfl hl.1 rfl (lv_room (Nat.le_of_ble_eq_true rfl)) dX10_is_203 ⟨Nat.le_of_ble_eq_true rfl, Nat.le_of_ble_eq_true rfl⟩) hD hS hA (fun u_203 H locs hP hD hS => ?_)
            have hP : va_P G.1 vwCl (WM G m_h m_q m_onBy m_toldBy m_kindsOf_203 m_nextOf_203 m_holdsAt_203 (o4_35 + (2 : Int32)) m_standsFor m_madeNext_o63 m_madeHolds_o63 m_stateFor m_joined_203 m_joinedNow_203 m_firstIn_203 m_orderOf_203 m_classAt_203 m_sets m_waysTo m_waysThen m_queue m_leastTo) H := hP
            have hD : va_D A (WM G m_h m_q m_onBy m_toldBy m_kindsOf_203 m_nextOf_203 m_holdsAt_203 (o4_35 + (2 : Int32)) m_standsFor m_madeNext_o63 m_madeHolds_o63 m_stateFor m_joined_203 m_joinedNow_203 m_firstIn_203 m_orderOf_203 m_classAt_203 m_sets m_waysTo m_waysThen m_queue m_leastTo) := hD
            obtain ⟨rfl, rfl, rfl, rfl, rfl, rfl, rfl, rfl, rfl, rfl, rfl, rfl⟩ := oi12 h
            exact hret (fun _ => 0) _ _ _ _ _ _ _ dX10_is_206 rfl rfl hP hD hS (Nat.le_of_ble_eq_true rfl) (Nat.le_of_ble_eq_true rfl)
          have hL63 : ∀ (f : Nat) (v5_63 : Int32) (m_madeNext_63 : AI) (m_madeHolds_63 : AI)  (H : Heap) (locs : List Loc) (ls : Array Slot), p_X10_is_L63 n o4_35 v2 v3 f v5_63 m_madeNext_63 m_madeHolds_63 = some (m_madeNext_o63, m_madeHolds_o63) → va_P G.1 vwCl (WM G m_h m_q m_onBy m_toldBy m_kindsOf m_nextOf m_holdsAt (o4_35 + (2 : Int32)) m_standsFor m_madeNext_63 m_madeHolds_63 m_stateFor m_joined m_joinedNow m_firstIn m_orderOf m_classAt m_sets m_waysTo m_waysThen m_queue m_leastTo) H → va_D A (WM G m_h m_q m_onBy m_toldBy m_kindsOf m_nextOf m_holdsAt (o4_35 + (2 : Int32)) m_standsFor m_madeNext_63 m_madeHolds_63 m_stateFor m_joined m_joinedNow m_firstIn m_orderOf m_classAt m_sets m_waysTo m_waysThen m_queue m_leastTo) → va_S A s.heap H locs → lv_has ls 10 [(0, .ref m_h), (1, .int v1), (2, .int v2), (3, .int v3), (4, .int o4_35), (5, .int v5_63)] → W p l e rX10_is s m args below meth c H locs 0 0 Q (F0 m 63 ls []) := by
            intro f
            induction f with
            | zero => intro v5_63 m_madeNext_63 m_madeHolds_63 H locs ls h hP hD hS hl; cases (show none = some _ from h)
            | succ f ih =>
              intro v5_63 m_madeNext_63 m_madeHolds_63 H locs ls h hP hD hS hl
              rw [p_X10_is_L63] at h
              refine lv_iload hx hb dX10_is_63 (lv_at hl 5 rfl) ?_
              refine lv_aload_n hx hb dX10_is_65 rfl (lv_at hl 0 rfl) ?_
              refine va_get (D := G.1) (ci := 10) (v := .int (o4_35 + (2 : Int32))) (C := RX10) (T := TX10) (N := 20) hx hb hts hinX10 hown hK.1 hP 0 rfl rfl 5 (by decide) hf81 (fun _ h9 => h9) rfl dX10_is_66 ?_
              refine lv_icmp_ge (tgt := 201) hx hb dX10_is_69 (by decide) (fun c_69 => ?_) (fun c_69 => ?_)
              · replace h := (if_pos c_69).symm.trans h
                exact hX63 _ _  _ _ _ h hP hD hS (lv_sub hl [0, 1] rfl)
              · replace h := (if_neg c_69).symm.trans h
                refine lv_iconst (v := 0) hx hb dX10_is_72 (by decide) ?_
                refine lv_istore (lv' := [(6, .int (0 : Int32)), (0, .ref m_h), (1, .int v1), (2, .int v2), (3, .int v3), (4, .int o4_35), (5, .int v5_63)]) hx hb dX10_is_73 hl (by decide) rfl (fun ls hl => ?_)
                obtain ⟨m_madeNext_o75, hT75, h⟩ := ob1_e h
                have hX75 : ∀ (m_madeNext_o75x : AI)  (H : Heap) (locs : List Loc) (ls : Array Slot), some m_madeNext_o75x = some m_madeNext_o75 → va_P G.1 vwCl (WM G m_h m_q m_onBy m_toldBy m_kindsOf m_nextOf m_holdsAt (o4_35 + (2 : Int32)) m_standsFor m_madeNext_o75x m_madeHolds_63 m_stateFor m_joined m_joinedNow m_firstIn m_orderOf m_classAt m_sets m_waysTo m_waysThen m_queue m_leastTo) H → va_D A (WM G m_h m_q m_onBy m_toldBy m_kindsOf m_nextOf m_holdsAt (o4_35 + (2 : Int32)) m_standsFor m_madeNext_o75x m_madeHolds_63 m_stateFor m_joined m_joinedNow m_firstIn m_orderOf m_classAt m_sets m_waysTo m_waysThen m_queue m_leastTo) → va_S A s.heap H locs → lv_has ls 10 [(0, .ref m_h), (1, .int v1), (2, .int v2), (3, .int v3), (4, .int o4_35), (5, .int v5_63)] → W p l e rX10_is s m args below meth c H locs 0 0 Q (F0 m 176 ls []) := by
                  intro m_madeNext_o75x H locs ls hq hP hD hS hl
                  obtain rfl := oi1 hq
                  refine lv_aload_n hx hb dX10_is_176 rfl (lv_at hl 0 rfl) ?_
                  refine va_get (D := G.1) (ci := 10) (v := .ref (m_q 7)) (C := RX10) (T := TX10) (N := 20) hx hb hts hinX10 hown hK.1 hP 0 rfl rfl 8 (by decide) hf32 (fun _ h9 => h9) rfl dX10_is_177 ?_
                  refine lv_iload hx hb dX10_is_180 (lv_at hl 5 rfl) ?_
                  refine lv_iload hx hb dX10_is_182 (lv_at hl 5 rfl) ?_
                  refine lv_iload hx hb dX10_is_184 (lv_at hl 4 rfl) ?_
                  obtain ⟨j0_186, hT186, h⟩ := ob1_e h
                  have hJ186 : ∀ (j0_186x : Int32)  (H : Heap) (locs : List Loc) (ls : Array Slot), some j0_186x = some j0_186 → va_P G.1 vwCl (WM G m_h m_q m_onBy m_toldBy m_kindsOf m_nextOf m_holdsAt (o4_35 + (2 : Int32)) m_standsFor m_madeNext_o75 m_madeHolds_63 m_stateFor m_joined m_joinedNow m_firstIn m_orderOf m_classAt m_sets m_waysTo m_waysThen m_queue m_leastTo) H → va_D A (WM G m_h m_q m_onBy m_toldBy m_kindsOf m_nextOf m_holdsAt (o4_35 + (2 : Int32)) m_standsFor m_madeNext_o75 m_madeHolds_63 m_stateFor m_joined m_joinedNow m_firstIn m_orderOf m_classAt m_sets m_waysTo m_waysThen m_queue m_leastTo) → va_S A s.heap H locs → lv_has ls 10 [(0, .ref m_h), (1, .int v1), (2, .int v2), (3, .int v3), (4, .int o4_35), (5, .int v5_63)] → W p l e rX10_is s m args below meth c H locs 0 0 Q (F0 m 194 ls [.int j0_186x, .int v5_63, .ref (m_q 7)]) := by
                    intro j0_186x H locs ls hq hP hD hS hl
                    obtain rfl := oi1 hq
                    obtain ⟨g_194, h⟩ := gi_e h
                    refine va_zast hx hb hK.1 hP hD hS 8 1 rfl rfl g_194 dX10_is_194 (fun H locs hP hD hS => ?_)
                    have hP : va_P G.1 vwCl (WM G m_h m_q m_onBy m_toldBy m_kindsOf m_nextOf m_holdsAt (o4_35 + (2 : Int32)) m_standsFor m_madeNext_o75 (upd m_madeHolds_63 v5_63.toNatClampNeg (j0_186 &&& (1 : Int32))) m_stateFor m_joined m_joinedNow m_firstIn m_orderOf m_classAt m_sets m_waysTo m_waysThen m_queue m_leastTo) H := hP
                    have hD : va_D A (WM G m_h m_q m_onBy m_toldBy m_kindsOf m_nextOf m_holdsAt (o4_35 + (2 : Int32)) m_standsFor m_madeNext_o75 (upd m_madeHolds_63 v5_63.toNatClampNeg (j0_186 &&& (1 : Int32))) m_stateFor m_joined m_joinedNow m_firstIn m_orderOf m_classAt m_sets m_waysTo m_waysThen m_queue m_leastTo) := hD
                    refine lv_iinc (v := (v5_63 + (1 : Int32))) (lv' := [(5, .int (v5_63 + (1 : Int32))), (0, .ref m_h), (1, .int v1), (2, .int v2), (3, .int v3), (4, .int o4_35)]) hx hb dX10_is_195 hl (k := 5) rfl rfl (by decide) rfl (fun ls hl => ?_)
                    refine lv_goto (tgt := 63) hx hb dX10_is_198 (by decide) ?_
                    exact ih _ _ _  _ _ _ h hP hD hS (lv_sub hl [1, 2, 3, 4, 5, 0] rfl)
                  replace h := hT186
                  refine lv_icmp_ne (tgt := 193) hx hb dX10_is_186 (by decide) (fun c_186 => ?_) (fun c_186 => ?_)
                  · replace h := (if_neg c_186).symm.trans h
                    refine lv_iconst (v := 0) hx hb dX10_is_193 (by decide) ?_
                    exact hJ186 _  _ _ _ h hP hD hS (lv_sub hl [0, 1, 2, 3, 4, 5] rfl)
                  · replace h := (if_pos c_186).symm.trans h
                    refine lv_iconst (v := 1) hx hb dX10_is_189 (by decide) ?_
                    refine lv_goto (tgt := 194) hx hb dX10_is_190 (by decide) ?_
                    exact hJ186 _  _ _ _ h hP hD hS (lv_sub hl [0, 1, 2, 3, 4, 5] rfl)
                have hL75 : ∀ (f : Nat) (v6_75 : Int32) (m_madeNext_75 : AI)  (H : Heap) (locs : List Loc) (ls : Array Slot), p_X10_is_L75 v2 o4_35 v5_63 v3 f v6_75 m_madeNext_75 = some m_madeNext_o75 → va_P G.1 vwCl (WM G m_h m_q m_onBy m_toldBy m_kindsOf m_nextOf m_holdsAt (o4_35 + (2 : Int32)) m_standsFor m_madeNext_75 m_madeHolds_63 m_stateFor m_joined m_joinedNow m_firstIn m_orderOf m_classAt m_sets m_waysTo m_waysThen m_queue m_leastTo) H → va_D A (WM G m_h m_q m_onBy m_toldBy m_kindsOf m_nextOf m_holdsAt (o4_35 + (2 : Int32)) m_standsFor m_madeNext_75 m_madeHolds_63 m_stateFor m_joined m_joinedNow m_firstIn m_orderOf m_classAt m_sets m_waysTo m_waysThen m_queue m_leastTo) → va_S A s.heap H locs → lv_has ls 10 [(0, .ref m_h), (1, .int v1), (2, .int v2), (3, .int v3), (4, .int o4_35), (5, .int v5_63), (6, .int v6_75)] → W p l e rX10_is s m args below meth c H locs 0 0 Q (F0 m 75 ls []) := by
                  intro f
                  induction f with
                  | zero => intro v6_75 m_madeNext_75 H locs ls h hP hD hS hl; cases (show none = some _ from h)
                  | succ f ih =>
                    intro v6_75 m_madeNext_75 H locs ls h hP hD hS hl
                    rw [p_X10_is_L75] at h
                    refine lv_iload hx hb dX10_is_75 (lv_at hl 6 rfl) ?_
                    refine lv_bipush (v := 8) hx hb dX10_is_77 (by decide) ?_
                    refine lv_icmp_ge (tgt := 176) hx hb dX10_is_79 (by decide) (fun c_79 => ?_) (fun c_79 => ?_)
                    · replace h := (if_pos c_79).symm.trans h
                      exact hX75 _  _ _ _ h hP hD hS (lv_sub hl [0, 1, 2, 3, 4, 5] rfl)
                    · replace h := (if_neg c_79).symm.trans h
                      refine lv_iload hx hb dX10_is_82 (lv_at hl 6 rfl) ?_
                      refine lv_iload_n hx hb dX10_is_84 rfl (lv_at hl 2 rfl) ?_
                      obtain ⟨r_85, hc_85, h⟩ := ob1_e h
                      refine k_si (va_runS (As := [.int v6_75, .int v2]) (rest := []) ⟨hx, hb, hml, hown, hts⟩ (c_X10_digit l G   v6_75 v2 r_85 hc_85) (va_cwS 2 hts gX10_is_X10_digit rfl rfl rfl eX10_digit ⟨Nat.le_of_ble_eq_true rfl, Nat.le_of_ble_eq_true rfl⟩) (preSS hK (fun k q h => by cases h)) rfl rfl hl.1 rfl (lv_room (Nat.le_of_ble_eq_true rfl)) dX10_is_85 ⟨Nat.le_of_ble_eq_true rfl, Nat.le_of_ble_eq_true rfl⟩) ?_
                      refine lv_istore (lv' := [(7, .int r_85), (0, .ref m_h), (1, .int v1), (2, .int v2), (3, .int v3), (4, .int o4_35), (5, .int v5_63), (6, .int v6_75)]) hx hb dX10_is_88 hl (by decide) rfl (fun ls hl => ?_)
                      refine lv_iload hx hb dX10_is_90 (lv_at hl 6 rfl) ?_
                      refine lv_iload hx hb dX10_is_92 (lv_at hl 5 rfl) ?_
                      obtain ⟨j0_94, hT94, h⟩ := ob1_e h
                      have hJ94 : ∀ (j0_94x : Int32)  (H : Heap) (locs : List Loc) (ls : Array Slot), some j0_94x = some j0_94 → va_P G.1 vwCl (WM G m_h m_q m_onBy m_toldBy m_kindsOf m_nextOf m_holdsAt (o4_35 + (2 : Int32)) m_standsFor m_madeNext_75 m_madeHolds_63 m_stateFor m_joined m_joinedNow m_firstIn m_orderOf m_classAt m_sets m_waysTo m_waysThen m_queue m_leastTo) H → va_D A (WM G m_h m_q m_onBy m_toldBy m_kindsOf m_nextOf m_holdsAt (o4_35 + (2 : Int32)) m_standsFor m_madeNext_75 m_madeHolds_63 m_stateFor m_joined m_joinedNow m_firstIn m_orderOf m_classAt m_sets m_waysTo m_waysThen m_queue m_leastTo) → va_S A s.heap H locs → lv_has ls 10 [(0, .ref m_h), (1, .int v1), (2, .int v2), (3, .int v3), (4, .int o4_35), (5, .int v5_63), (6, .int v6_75), (7, .int r_85)] → W p l e rX10_is s m args below meth c H locs 0 0 Q (F0 m 118 ls [.int j0_94x]) := by
                        intro j0_94x H locs ls hq hP hD hS hl
                        obtain rfl := oi1 hq
                        refine lv_istore (lv' := [(8, .int j0_94), (0, .ref m_h), (1, .int v1), (2, .int v2), (3, .int v3), (4, .int o4_35), (5, .int v5_63), (6, .int v6_75), (7, .int r_85)]) hx hb dX10_is_118 hl (by decide) rfl (fun ls hl => ?_)
                        refine lv_iload hx hb dX10_is_120 (lv_at hl 6 rfl) ?_
                        obtain ⟨j0_122, hT122, h⟩ := ob1_e h
                        have hJ122 : ∀ (j0_122x : Int32)  (H : Heap) (locs : List Loc) (ls : Array Slot), some j0_122x = some j0_122 → va_P G.1 vwCl (WM G m_h m_q m_onBy m_toldBy m_kindsOf m_nextOf m_holdsAt (o4_35 + (2 : Int32)) m_standsFor m_madeNext_75 m_madeHolds_63 m_stateFor m_joined m_joinedNow m_firstIn m_orderOf m_classAt m_sets m_waysTo m_waysThen m_queue m_leastTo) H → va_D A (WM G m_h m_q m_onBy m_toldBy m_kindsOf m_nextOf m_holdsAt (o4_35 + (2 : Int32)) m_standsFor m_madeNext_75 m_madeHolds_63 m_stateFor m_joined m_joinedNow m_firstIn m_orderOf m_classAt m_sets m_waysTo m_waysThen m_queue m_leastTo) → va_S A s.heap H locs → lv_has ls 10 [(0, .ref m_h), (1, .int v1), (2, .int v2), (3, .int v3), (4, .int o4_35), (5, .int v5_63), (6, .int v6_75), (8, .int j0_94)] → W p l e rX10_is s m args below meth c H locs 0 0 Q (F0 m 135 ls [.int j0_122x]) := by
                          intro j0_122x H locs ls hq hP hD hS hl
                          obtain rfl := oi1 hq
                          refine lv_istore (lv' := [(9, .int j0_122), (0, .ref m_h), (1, .int v1), (2, .int v2), (3, .int v3), (4, .int o4_35), (5, .int v5_63), (6, .int v6_75), (8, .int j0_94)]) hx hb dX10_is_135 hl (by decide) rfl (fun ls hl => ?_)
                          refine lv_aload_n hx hb dX10_is_137 rfl (lv_at hl 1 rfl) ?_
                          refine lv_iload hx hb dX10_is_138 (lv_at hl 6 rfl) ?_
                          refine lv_iload hx hb dX10_is_140 (lv_at hl 7 rfl) ?_
                          refine lv_iload hx hb dX10_is_142 (lv_at hl 8 rfl) ?_
                          obtain ⟨j0_144, hT144, h⟩ := ob1_e h
                          have hJ144 : ∀ (j0_144x : Int32)  (H : Heap) (locs : List Loc) (ls : Array Slot), some j0_144x = some j0_144 → va_P G.1 vwCl (WM G m_h m_q m_onBy m_toldBy m_kindsOf m_nextOf m_holdsAt (o4_35 + (2 : Int32)) m_standsFor m_madeNext_75 m_madeHolds_63 m_stateFor m_joined m_joinedNow m_firstIn m_orderOf m_classAt m_sets m_waysTo m_waysThen m_queue m_leastTo) H → va_D A (WM G m_h m_q m_onBy m_toldBy m_kindsOf m_nextOf m_holdsAt (o4_35 + (2 : Int32)) m_standsFor m_madeNext_75 m_madeHolds_63 m_stateFor m_joined m_joinedNow m_firstIn m_orderOf m_classAt m_sets m_waysTo m_waysThen m_queue m_leastTo) → va_S A s.heap H locs → lv_has ls 10 [(0, .ref m_h), (1, .int v1), (2, .int v2), (3, .int v3), (4, .int o4_35), (5, .int v5_63), (6, .int v6_75)] → W p l e rX10_is s m args below meth c H locs 0 0 Q (F0 m 167 ls [.int j0_144x, .int v6_75, .int v5_63, .ref m_h]) := by
                            intro j0_144x H locs ls hq hP hD hS hl
                            obtain rfl := oi1 hq
                            obtain ⟨m_madeNext_167, hc_167, h⟩ := ob1_e h
                            refine k_cvA (va_runV (As := [.int v5_63, .int v6_75, .int j0_144]) (rest := []) ⟨hx, hb, hml, hown, hts⟩ (c_X10_leads l G m_h m_q m_onBy m_toldBy m_kindsOf m_nextOf m_holdsAt (o4_35 + (2 : Int32)) m_standsFor m_madeNext_75 m_madeHolds_63 m_stateFor m_joined m_joinedNow m_firstIn m_orderOf m_classAt m_sets m_waysTo m_waysThen m_queue m_leastTo v5_63 v6_75 j0_144 _ m_madeNext_167 hc_167) (cwV 3 hts gX10_is_X10_leads rfl rfl rfl ⟨rfl, eX10_leads⟩ ⟨Nat.le_of_ble_eq_true rfl, Nat.le_of_ble_eq_true rfl⟩) (preWV (ci := 10) (q0 := 0) hK hP hD rfl rfl) rfl rfl hl.1 rfl (lv_room (Nat.le_of_ble_eq_true rfl)) dX10_is_167 ⟨Nat.le_of_ble_eq_true rfl, Nat.le_of_ble_eq_true rfl⟩) hD hS hA (fun u_167 H locs hP hD hS => ?_)
                            have hP : va_P G.1 vwCl (WM G m_h m_q m_onBy m_toldBy m_kindsOf m_nextOf m_holdsAt (o4_35 + (2 : Int32)) m_standsFor m_madeNext_167 m_madeHolds_63 m_stateFor m_joined m_joinedNow m_firstIn m_orderOf m_classAt m_sets m_waysTo m_waysThen m_queue m_leastTo) H := hP
                            have hD : va_D A (WM G m_h m_q m_onBy m_toldBy m_kindsOf m_nextOf m_holdsAt (o4_35 + (2 : Int32)) m_standsFor m_madeNext_167 m_madeHolds_63 m_stateFor m_joined m_joinedNow m_firstIn m_orderOf m_classAt m_sets m_waysTo m_waysThen m_queue m_leastTo) := hD
                            refine lv_iinc (v := (v6_75 + (1 : Int32))) (lv' := [(6, .int (v6_75 + (1 : Int32))), (0, .ref m_h), (1, .int v1), (2, .int v2), (3, .int v3), (4, .int o4_35), (5, .int v5_63)]) hx hb dX10_is_170 hl (k := 6) rfl rfl (by decide) rfl (fun ls hl => ?_)
                            refine lv_goto (tgt := 75) hx hb dX10_is_173 (by decide) ?_
                            exact ih _ _  _ _ _ h hP hD hS (lv_sub hl [1, 2, 3, 4, 5, 6, 0] rfl)
                          replace h := hT144
                          refine lv_if_eq (tgt := 154) hx hb dX10_is_144 (by decide) (fun c_144 => ?_) (fun c_144 => ?_)
                          · replace h := (if_pos c_144).symm.trans h
                            refine lv_iload hx hb dX10_is_154 (lv_at hl 0 rfl) ?_
                            refine lv_if_eq (tgt := 163) hx hb dX10_is_156 (by decide) (fun c_156 => ?_) (fun c_156 => ?_)
                            · replace h := (if_pos c_156).symm.trans h
                              refine lv_iload hx hb dX10_is_163 (lv_at hl 5 rfl) ?_
                              refine lv_iconst (v := 1) hx hb dX10_is_165 (by decide) ?_
                              refine lv_iadd hx hb dX10_is_166 ?_
                              exact hJ144 _  _ _ _ h hP hD hS (lv_sub hl [1, 2, 3, 4, 5, 6, 7] rfl)
                            · replace h := (if_neg c_156).symm.trans h
                              refine lv_iconst (v := 0) hx hb dX10_is_159 (by decide) ?_
                              refine lv_goto (tgt := 167) hx hb dX10_is_160 (by decide) ?_
                              exact hJ144 _  _ _ _ h hP hD hS (lv_sub hl [1, 2, 3, 4, 5, 6, 7] rfl)
                          · replace h := (if_neg c_144).symm.trans h
                            refine lv_iload hx hb dX10_is_147 (lv_at hl 6 rfl) ?_
                            refine lv_iconst (v := 1) hx hb dX10_is_149 (by decide) ?_
                            refine lv_iadd hx hb dX10_is_150 ?_
                            refine lv_goto (tgt := 167) hx hb dX10_is_151 (by decide) ?_
                            exact hJ144 _  _ _ _ h hP hD hS (lv_sub hl [1, 2, 3, 4, 5, 6, 7] rfl)
                        replace h := hT122
                        refine lv_if_ne (tgt := 134) hx hb dX10_is_122 (by decide) (fun c_122 => ?_) (fun c_122 => ?_)
                        · replace h := (if_neg c_122).symm.trans h
                          refine lv_iconst (v := 0) hx hb dX10_is_134 (by decide) ?_
                          exact hJ122 _  _ _ _ h hP hD hS (lv_sub hl [1, 2, 3, 4, 5, 6, 7, 0] rfl)
                        · replace h := (if_pos c_122).symm.trans h
                          refine lv_iload hx hb dX10_is_125 (lv_at hl 8 rfl) ?_
                          refine lv_if_ne (tgt := 134) hx hb dX10_is_127 (by decide) (fun c_127 => ?_) (fun c_127 => ?_)
                          · replace h := (if_neg c_127).symm.trans h
                            refine lv_iconst (v := 0) hx hb dX10_is_134 (by decide) ?_
                            exact hJ122 _  _ _ _ h hP hD hS (lv_sub hl [1, 2, 3, 4, 5, 6, 7, 0] rfl)
                          · replace h := (if_pos c_127).symm.trans h
                            refine lv_iconst (v := 1) hx hb dX10_is_130 (by decide) ?_
                            refine lv_goto (tgt := 135) hx hb dX10_is_131 (by decide) ?_
                            exact hJ122 _  _ _ _ h hP hD hS (lv_sub hl [1, 2, 3, 4, 5, 6, 7, 0] rfl)
                      replace h := hT94
                      refine lv_icmp_ge (tgt := 117) hx hb dX10_is_94 (by decide) (fun c_94 => ?_) (fun c_94 => ?_)
                      · replace h := (if_pos c_94).symm.trans h
                        refine lv_iconst (v := 0) hx hb dX10_is_117 (by decide) ?_
                        exact hJ94 _  _ _ _ h hP hD hS (lv_sub hl [1, 2, 3, 4, 5, 6, 7, 0] rfl)
                      · replace h := (if_neg c_94).symm.trans h
                        refine lv_iload hx hb dX10_is_97 (lv_at hl 0 rfl) ?_
                        refine lv_iload_n hx hb dX10_is_99 rfl (lv_at hl 4 rfl) ?_
                        refine lv_iload hx hb dX10_is_100 (lv_at hl 5 rfl) ?_
                        refine lv_iconst (v := 1) hx hb dX10_is_102 (by decide) ?_
                        refine lv_isub hx hb dX10_is_103 ?_
                        refine lv_iload hx hb dX10_is_104 (lv_at hl 6 rfl) ?_
                        refine lv_isub hx hb dX10_is_106 ?_
                        refine lv_ishr hx hb dX10_is_107 ?_
                        refine lv_iconst (v := 1) hx hb dX10_is_108 (by decide) ?_
                        refine lv_iand hx hb dX10_is_109 ?_
                        refine lv_icmp_ne (tgt := 117) hx hb dX10_is_110 (by decide) (fun c_110 => ?_) (fun c_110 => ?_)
                        · replace h := (if_neg c_110).symm.trans h
                          refine lv_iconst (v := 0) hx hb dX10_is_117 (by decide) ?_
                          exact hJ94 _  _ _ _ h hP hD hS (lv_sub hl [1, 2, 3, 4, 5, 6, 7, 0] rfl)
                        · replace h := (if_pos c_110).symm.trans h
                          refine lv_iconst (v := 1) hx hb dX10_is_113 (by decide) ?_
                          refine lv_goto (tgt := 118) hx hb dX10_is_114 (by decide) ?_
                          exact hJ94 _  _ _ _ h hP hD hS (lv_sub hl [1, 2, 3, 4, 5, 6, 7, 0] rfl)
                exact hL75 n _ _  _ _ _ hT75 hP hD hS (lv_sub hl [1, 2, 3, 4, 5, 6, 0] rfl)
          exact hL63 n _ _ _  _ _ _ hT63 hP hD hS (lv_sub hl [1, 2, 3, 4, 5, 0] rfl)
        have hL35 : ∀ (f : Nat) (v4_35 : Int32) (v5_35 : Int32)  (H : Heap) (locs : List Loc) (ls : Array Slot), p_X10_is_L35 f v4_35 v5_35 = some o4_35 → va_P G.1 vwCl (WM G m_h m_q m_onBy m_toldBy m_kindsOf m_nextOf m_holdsAt m_made m_standsFor m_madeNext m_madeHolds m_stateFor m_joined m_joinedNow m_firstIn m_orderOf m_classAt m_sets m_waysTo m_waysThen m_queue m_leastTo) H → va_D A (WM G m_h m_q m_onBy m_toldBy m_kindsOf m_nextOf m_holdsAt m_made m_standsFor m_madeNext m_madeHolds m_stateFor m_joined m_joinedNow m_firstIn m_orderOf m_classAt m_sets m_waysTo m_waysThen m_queue m_leastTo) → va_S A s.heap H locs → lv_has ls 10 [(0, .ref m_h), (1, .int v1), (2, .int v2), (3, .int v3), (4, .int v4_35), (5, .int v5_35)] → W p l e rX10_is s m args below meth c H locs 0 0 Q (F0 m 35 ls []) := by
          intro f
          induction f with
          | zero => intro v4_35 v5_35 H locs ls h hP hD hS hl; cases (show none = some _ from h)
          | succ f ih =>
            intro v4_35 v5_35 H locs ls h hP hD hS hl
            rw [p_X10_is_L35] at h
            refine lv_iload hx hb dX10_is_35 (lv_at hl 5 rfl) ?_
            refine lv_if_le (tgt := 52) hx hb dX10_is_37 (by decide) (fun c_37 => ?_) (fun c_37 => ?_)
            · replace h := (if_pos c_37).symm.trans h
              exact hX35 _  _ _ _ h hP hD hS (lv_sub hl [0, 1, 2, 3, 4] rfl)
            · replace h := (if_neg c_37).symm.trans h
              refine lv_iinc (v := (v4_35 + (1 : Int32))) (lv' := [(4, .int (v4_35 + (1 : Int32))), (0, .ref m_h), (1, .int v1), (2, .int v2), (3, .int v3), (5, .int v5_35)]) hx hb dX10_is_40 hl (k := 4) rfl rfl (by decide) rfl (fun ls hl => ?_)
              refine lv_iload hx hb dX10_is_43 (lv_at hl 5 rfl) ?_
              refine lv_iconst (v := 2) hx hb dX10_is_45 (by decide) ?_
              refine lv_idiv hx hb dX10_is_46 (by decide) ?_
              refine lv_istore (lv' := [(5, .int (v5_35 / (2 : Int32))), (4, .int (v4_35 + (1 : Int32))), (0, .ref m_h), (1, .int v1), (2, .int v2), (3, .int v3)]) hx hb dX10_is_47 hl (by decide) rfl (fun ls hl => ?_)
              refine lv_goto (tgt := 35) hx hb dX10_is_49 (by decide) ?_
              exact ih _ _  _ _ _ h hP hD hS (lv_sub hl [2, 3, 4, 5, 1, 0] rfl)
        exact hL35 n _ _  _ _ _ hT35 hP hD hS (lv_sub hl [2, 3, 4, 5, 1, 0] rfl)
      · replace h := (if_pos c_23).symm.trans h
        refine lv_bipush (v := -2) hx hb dX10_is_26 (by decide) ?_
        obtain ⟨rfl, rfl, rfl, rfl, rfl, rfl, rfl, rfl, rfl, rfl, rfl, rfl⟩ := oi12 h
        exact hret (fun _ => 0) _ _ _ _ _ _ _ dX10_is_28 rfl rfl hP hD hS (Nat.le_of_ble_eq_true rfl) (Nat.le_of_ble_eq_true rfl)
    · replace h := (if_pos c_11).symm.trans h
      refine lv_iconst (v := -1) hx hb dX10_is_14 (by decide) ?_
      obtain ⟨rfl, rfl, rfl, rfl, rfl, rfl, rfl, rfl, rfl, rfl, rfl, rfl⟩ := oi12 h
      exact hret (fun _ => 0) _ _ _ _ _ _ _ dX10_is_15 rfl rfl hP hD hS (Nat.le_of_ble_eq_true rfl) (Nat.le_of_ble_eq_true rfl)
abbrev rX10_tells : Room := { frames := 4, cells := 0, slots := 0, locals := 96 }
set_option maxHeartbeats 4000000 in
set_option maxRecDepth 100000 in
theorem c_X10_tells (l : Launch) (G : GG) (n : Nat) (m_h : Nat) (m_q : Nat → Nat) (m_onBy : AI) (m_toldBy : AI) (m_kindsOf : AI) (m_nextOf : AI) (m_holdsAt : AI) (m_made : Int32) (m_standsFor : AI) (m_madeNext : AI) (m_madeHolds : AI) (m_stateFor : AI) (m_joined : AI) (m_joinedNow : AI) (m_firstIn : AI) (m_orderOf : AI) (m_classAt : AI) (m_sets : AL) (m_waysTo : AL) (m_waysThen : AL) (m_queue : AI) (m_leastTo : AL) (v1 : Int32) (v2 : Int32) (v3 : Int32) (sz : Nat) (r : Int32) (m_kindsOf_z : AI) (m_nextOf_z : AI) (m_holdsAt_z : AI) (m_made_z : Int32) (m_standsFor_z : AI) (m_madeNext_z : AI) (m_madeHolds_z : AI) (m_stateFor_z : AI) (m_joined_z : AI) (m_joinedNow_z : AI) (m_firstIn_z : AI) (m_orderOf_z : AI) (m_classAt_z : AI) (h : p_X10_tells n m_onBy m_toldBy m_kindsOf m_nextOf m_holdsAt m_made m_standsFor m_madeNext m_madeHolds m_stateFor m_joined m_joinedNow m_firstIn m_orderOf m_classAt v1 v2 v3 = some (r, m_kindsOf_z, m_nextOf_z, m_holdsAt_z, m_made_z, m_standsFor_z, m_madeNext_z, m_madeHolds_z, m_stateFor_z, m_joined_z, m_joinedNow_z, m_firstIn_z, m_orderOf_z, m_classAt_z)) : CI l yX10_tells wsX10_tells rX10_tells G [.ref m_h, .int v1, .int v2, .int v3] (WM G m_h m_q m_onBy m_toldBy m_kindsOf m_nextOf m_holdsAt m_made m_standsFor m_madeNext m_madeHolds m_stateFor m_joined m_joinedNow m_firstIn m_orderOf m_classAt m_sets m_waysTo m_waysThen m_queue m_leastTo) sz r (fun u => WM G m_h m_q m_onBy m_toldBy m_kindsOf_z m_nextOf_z m_holdsAt_z m_made_z m_standsFor_z m_madeNext_z m_madeHolds_z m_stateFor_z m_joined_z m_joinedNow_z m_firstIn_z m_orderOf_z m_classAt_z m_sets m_waysTo m_waysThen m_queue m_leastTo) := by
  refine enterCI (cc := cX10_tells) (maxL := 6) (by decide) rfl (Nat.le_of_ble_eq_true rfl) ?_
  intro p e s m args below meth c A Q hx hb hml hown hts hK hP hD hS hA hret ls hl
  have hown : s.vm.findClass RX10 = some m.cls := hown
  have hf7 := hts (.fieldLink RX10 7 "DigitClaimsModel" "onBy" "[I") (by decide +kernel)
  have hf13 := hts (.fieldLink RX10 13 "DigitClaimsModel" "toldBy" "[I") (by decide +kernel)
  have hf26 := hts (.fieldLink RX10 26 "DigitClaimsModel" "standsFor" "[I") (by decide +kernel)
  have hf32 := hts (.fieldLink RX10 32 "DigitClaimsModel" "madeHolds" "[Z") (by decide +kernel)
  have hf81 := hts (.fieldLink RX10 81 "DigitClaimsModel" "made" "I") (by decide +kernel)
  have hinX10 : ∀ w ∈ wsX100, w ∈ wsX10_tells := by decide +kernel
  have hl : lv_has ls 6 [(0, .ref m_h), (1, .int v1), (2, .int v2), (3, .int v3)] := hl
  unfold p_X10_tells at h
  refine lv_iload_n hx hb dX10_tells_0 rfl (lv_at hl 1 rfl) ?_
  obtain ⟨r_1, hc_1, h⟩ := ob1_e h
  refine k_si (va_runS (As := [.int v1]) (rest := []) ⟨hx, hb, hml, hown, hts⟩ (c_X10_isClaim l G   v1 r_1 hc_1) (va_cwS 1 hts gX10_tells_X10_isClaim rfl rfl rfl eX10_isClaim ⟨Nat.le_of_ble_eq_true rfl, Nat.le_of_ble_eq_true rfl⟩) (preSS hK (fun k q h => by cases h)) rfl rfl hl.1 rfl (lv_room (Nat.le_of_ble_eq_true rfl)) dX10_tells_1 ⟨Nat.le_of_ble_eq_true rfl, Nat.le_of_ble_eq_true rfl⟩) ?_
  refine lv_if_eq (tgt := 14) hx hb dX10_tells_4 (by decide) (fun c_4 => ?_) (fun c_4 => ?_)
  · replace h := (if_pos c_4).symm.trans h
    refine lv_iconst (v := -1) hx hb dX10_tells_14 (by decide) ?_
    obtain ⟨rfl, rfl, rfl, rfl, rfl, rfl, rfl, rfl, rfl, rfl, rfl, rfl, rfl, rfl⟩ := oi14 h
    exact hret (fun _ => 0) _ _ _ _ _ _ _ dX10_tells_15 rfl rfl hP hD hS (Nat.le_of_ble_eq_true rfl) (Nat.le_of_ble_eq_true rfl)
  · replace h := (if_neg c_4).symm.trans h
    refine lv_iload_n hx hb dX10_tells_7 rfl (lv_at hl 2 rfl) ?_
    obtain ⟨r_8, hc_8, h⟩ := ob1_e h
    refine k_si (va_runS (As := [.int v2]) (rest := []) ⟨hx, hb, hml, hown, hts⟩ (c_X10_isNumber l G   v2 r_8 hc_8) (va_cwS 1 hts gX10_tells_X10_isNumber rfl rfl rfl eX10_isNumber ⟨Nat.le_of_ble_eq_true rfl, Nat.le_of_ble_eq_true rfl⟩) (preSS hK (fun k q h => by cases h)) rfl rfl hl.1 rfl (lv_room (Nat.le_of_ble_eq_true rfl)) dX10_tells_8 ⟨Nat.le_of_ble_eq_true rfl, Nat.le_of_ble_eq_true rfl⟩) ?_
    refine lv_if_ne (tgt := 16) hx hb dX10_tells_11 (by decide) (fun c_11 => ?_) (fun c_11 => ?_)
    · replace h := (if_neg c_11).symm.trans h
      refine lv_iload_n hx hb dX10_tells_16 rfl (lv_at hl 3 rfl) ?_
      refine lv_iconst (v := 0) hx hb dX10_tells_17 (by decide) ?_
      refine lv_iconst (v := 2) hx hb dX10_tells_18 (by decide) ?_
      obtain ⟨r_19, hc_19, h⟩ := ob1_e h
      refine k_si (va_runS (As := [.int v3, .int (0 : Int32), .int (2 : Int32)]) (rest := []) ⟨hx, hb, hml, hown, hts⟩ (c_X10_within l G   v3 (0 : Int32) (2 : Int32) r_19 hc_19) (va_cwS 3 hts gX10_tells_X10_within rfl rfl rfl eX10_within ⟨Nat.le_of_ble_eq_true rfl, Nat.le_of_ble_eq_true rfl⟩) (preSS hK (fun k q h => by cases h)) rfl rfl hl.1 rfl (lv_room (Nat.le_of_ble_eq_true rfl)) dX10_tells_19 ⟨Nat.le_of_ble_eq_true rfl, Nat.le_of_ble_eq_true rfl⟩) ?_
      refine lv_if_ne (tgt := 28) hx hb dX10_tells_22 (by decide) (fun c_22 => ?_) (fun c_22 => ?_)
      · replace h := (if_neg c_22).symm.trans h
        refine lv_aload_n hx hb dX10_tells_28 rfl (lv_at hl 0 rfl) ?_
        obtain ⟨m_made_29, m_stateFor_29, hc_29, h⟩ := ob2_e h
        refine k_cvA (va_runV (As := []) (rest := []) ⟨hx, hb, hml, hown, hts⟩ (c_X10_begins l G n m_h m_q m_onBy m_toldBy m_kindsOf m_nextOf m_holdsAt m_made m_standsFor m_madeNext m_madeHolds m_stateFor m_joined m_joinedNow m_firstIn m_orderOf m_classAt m_sets m_waysTo m_waysThen m_queue m_leastTo  _ m_made_29 m_stateFor_29 hc_29) (cwV 0 hts gX10_tells_X10_begins rfl rfl rfl ⟨rfl, eX10_begins⟩ ⟨Nat.le_of_ble_eq_true rfl, Nat.le_of_ble_eq_true rfl⟩) (preWV (ci := 10) (q0 := 0) hK hP hD rfl rfl) rfl rfl hl.1 rfl (lv_room (Nat.le_of_ble_eq_true rfl)) dX10_tells_29 ⟨Nat.le_of_ble_eq_true rfl, Nat.le_of_ble_eq_true rfl⟩) hD hS hA (fun u_29 H locs hP hD hS => ?_)
        have hP : va_P G.1 vwCl (WM G m_h m_q m_onBy m_toldBy m_kindsOf m_nextOf m_holdsAt m_made_29 m_standsFor m_madeNext m_madeHolds m_stateFor_29 m_joined m_joinedNow m_firstIn m_orderOf m_classAt m_sets m_waysTo m_waysThen m_queue m_leastTo) H := hP
        have hD : va_D A (WM G m_h m_q m_onBy m_toldBy m_kindsOf m_nextOf m_holdsAt m_made_29 m_standsFor m_madeNext m_madeHolds m_stateFor_29 m_joined m_joinedNow m_firstIn m_orderOf m_classAt m_sets m_waysTo m_waysThen m_queue m_leastTo) := hD
        refine lv_aload_n hx hb dX10_tells_32 rfl (lv_at hl 0 rfl) ?_
        refine lv_iconst (v := 0) hx hb dX10_tells_33 (by decide) ?_
        obtain ⟨r_34, m_made_34, m_standsFor_34, m_stateFor_34, hc_34, h⟩ := ob4_e h
        refine k_ciA (va_runV (As := [.int (0 : Int32)]) (rest := []) ⟨hx, hb, hml, hown, hts⟩ (c_X10_stateOf l G m_h m_q m_onBy m_toldBy m_kindsOf m_nextOf m_holdsAt m_made_29 m_standsFor m_madeNext m_madeHolds m_stateFor_29 m_joined m_joinedNow m_firstIn m_orderOf m_classAt m_sets m_waysTo m_waysThen m_queue m_leastTo (0 : Int32) _ r_34 m_made_34 m_standsFor_34 m_stateFor_34 hc_34) (cwV 1 hts gX10_tells_X10_stateOf rfl rfl rfl ⟨rfl, eX10_stateOf⟩ ⟨Nat.le_of_ble_eq_true rfl, Nat.le_of_ble_eq_true rfl⟩) (preWV (ci := 10) (q0 := 0) hK hP hD rfl rfl) rfl rfl hl.1 rfl (lv_room (Nat.le_of_ble_eq_true rfl)) dX10_tells_34 ⟨Nat.le_of_ble_eq_true rfl, Nat.le_of_ble_eq_true rfl⟩) hD hS hA (fun u_34 H locs hP hD hS => ?_)
        have hP : va_P G.1 vwCl (WM G m_h m_q m_onBy m_toldBy m_kindsOf m_nextOf m_holdsAt m_made_34 m_standsFor_34 m_madeNext m_madeHolds m_stateFor_34 m_joined m_joinedNow m_firstIn m_orderOf m_classAt m_sets m_waysTo m_waysThen m_queue m_leastTo) H := hP
        have hD : va_D A (WM G m_h m_q m_onBy m_toldBy m_kindsOf m_nextOf m_holdsAt m_made_34 m_standsFor_34 m_madeNext m_madeHolds m_stateFor_34 m_joined m_joinedNow m_firstIn m_orderOf m_classAt m_sets m_waysTo m_waysThen m_queue m_leastTo) := hD
        refine lv_pop hx hb dX10_tells_37 rfl ?_
        refine lv_iconst (v := 0) hx hb dX10_tells_38 (by decide) ?_
        refine lv_istore (lv' := [(4, .int (0 : Int32)), (0, .ref m_h), (1, .int v1), (2, .int v2), (3, .int v3)]) hx hb dX10_tells_39 hl (by decide) rfl (fun ls hl => ?_)
        obtain ⟨m_made_o41, m_standsFor_o41, m_madeNext_o41, m_madeHolds_o41, m_stateFor_o41, hT41, h⟩ := ob5_e h
        have hX41 : ∀ (m_made_o41x : Int32) (m_standsFor_o41x : AI) (m_madeNext_o41x : AI) (m_madeHolds_o41x : AI) (m_stateFor_o41x : AI)  (H : Heap) (locs : List Loc) (ls : Array Slot), some (m_made_o41x, m_standsFor_o41x, m_madeNext_o41x, m_madeHolds_o41x, m_stateFor_o41x) = some (m_made_o41, m_standsFor_o41, m_madeNext_o41, m_madeHolds_o41, m_stateFor_o41) → va_P G.1 vwCl (WM G m_h m_q m_onBy m_toldBy m_kindsOf m_nextOf m_holdsAt m_made_o41x m_standsFor_o41x m_madeNext_o41x m_madeHolds_o41x m_stateFor_o41x m_joined m_joinedNow m_firstIn m_orderOf m_classAt m_sets m_waysTo m_waysThen m_queue m_leastTo) H → va_D A (WM G m_h m_q m_onBy m_toldBy m_kindsOf m_nextOf m_holdsAt m_made_o41x m_standsFor_o41x m_madeNext_o41x m_madeHolds_o41x m_stateFor_o41x m_joined m_joinedNow m_firstIn m_orderOf m_classAt m_sets m_waysTo m_waysThen m_queue m_leastTo) → va_S A s.heap H locs → lv_has ls 6 [(0, .ref m_h), (1, .int v1)] → W p l e rX10_tells s m args below meth c H locs 0 0 Q (F0 m 133 ls []) := by
          intro m_made_o41x m_standsFor_o41x m_madeNext_o41x m_madeHolds_o41x m_stateFor_o41x H locs ls hq hP hD hS hl
          obtain ⟨rfl, rfl, rfl, rfl, rfl⟩ := oi5 hq
          refine lv_aload_n hx hb dX10_tells_133 rfl (lv_at hl 0 rfl) ?_
          refine lv_iload_n hx hb dX10_tells_134 rfl (lv_at hl 1 rfl) ?_
          obtain ⟨r_135, m_kindsOf_135, m_nextOf_135, m_holdsAt_135, m_joined_135, m_joinedNow_135, m_firstIn_135, m_orderOf_135, m_classAt_135, hc_135, h⟩ := ob9_e h
          refine k_ciA (va_runV (As := [.int v1]) (rest := []) ⟨hx, hb, hml, hown, hts⟩ (c_X10_comes l G n m_h m_q m_onBy m_toldBy m_kindsOf m_nextOf m_holdsAt m_made_o41 m_standsFor_o41 m_madeNext_o41 m_madeHolds_o41 m_stateFor_o41 m_joined m_joinedNow m_firstIn m_orderOf m_classAt m_sets m_waysTo m_waysThen m_queue m_leastTo v1 _ r_135 m_kindsOf_135 m_nextOf_135 m_holdsAt_135 m_joined_135 m_joinedNow_135 m_firstIn_135 m_orderOf_135 m_classAt_135 hc_135) (cwV 1 hts gX10_tells_X10_comes rfl rfl rfl ⟨rfl, eX10_comes⟩ ⟨Nat.le_of_ble_eq_true rfl, Nat.le_of_ble_eq_true rfl⟩) (preWV (ci := 10) (q0 := 0) hK hP hD rfl rfl) rfl rfl hl.1 rfl (lv_room (Nat.le_of_ble_eq_true rfl)) dX10_tells_135 ⟨Nat.le_of_ble_eq_true rfl, Nat.le_of_ble_eq_true rfl⟩) hD hS hA (fun u_135 H locs hP hD hS => ?_)
          have hP : va_P G.1 vwCl (WM G m_h m_q m_onBy m_toldBy m_kindsOf_135 m_nextOf_135 m_holdsAt_135 m_made_o41 m_standsFor_o41 m_madeNext_o41 m_madeHolds_o41 m_stateFor_o41 m_joined_135 m_joinedNow_135 m_firstIn_135 m_orderOf_135 m_classAt_135 m_sets m_waysTo m_waysThen m_queue m_leastTo) H := hP
          have hD : va_D A (WM G m_h m_q m_onBy m_toldBy m_kindsOf_135 m_nextOf_135 m_holdsAt_135 m_made_o41 m_standsFor_o41 m_madeNext_o41 m_madeHolds_o41 m_stateFor_o41 m_joined_135 m_joinedNow_135 m_firstIn_135 m_orderOf_135 m_classAt_135 m_sets m_waysTo m_waysThen m_queue m_leastTo) := hD
          obtain ⟨rfl, rfl, rfl, rfl, rfl, rfl, rfl, rfl, rfl, rfl, rfl, rfl, rfl, rfl⟩ := oi14 h
          exact hret (fun _ => 0) _ _ _ _ _ _ _ dX10_tells_138 rfl rfl hP hD hS (Nat.le_of_ble_eq_true rfl) (Nat.le_of_ble_eq_true rfl)
        have hL41 : ∀ (f : Nat) (v4_41 : Int32) (m_made_41 : Int32) (m_standsFor_41 : AI) (m_madeNext_41 : AI) (m_madeHolds_41 : AI) (m_stateFor_41 : AI)  (H : Heap) (locs : List Loc) (ls : Array Slot), p_X10_tells_L41 n v2 m_onBy m_toldBy v3 f v4_41 m_made_41 m_standsFor_41 m_madeNext_41 m_madeHolds_41 m_stateFor_41 = some (m_made_o41, m_standsFor_o41, m_madeNext_o41, m_madeHolds_o41, m_stateFor_o41) → va_P G.1 vwCl (WM G m_h m_q m_onBy m_toldBy m_kindsOf m_nextOf m_holdsAt m_made_41 m_standsFor_41 m_madeNext_41 m_madeHolds_41 m_stateFor_41 m_joined m_joinedNow m_firstIn m_orderOf m_classAt m_sets m_waysTo m_waysThen m_queue m_leastTo) H → va_D A (WM G m_h m_q m_onBy m_toldBy m_kindsOf m_nextOf m_holdsAt m_made_41 m_standsFor_41 m_madeNext_41 m_madeHolds_41 m_stateFor_41 m_joined m_joinedNow m_firstIn m_orderOf m_classAt m_sets m_waysTo m_waysThen m_queue m_leastTo) → va_S A s.heap H locs → lv_has ls 6 [(0, .ref m_h), (1, .int v1), (2, .int v2), (3, .int v3), (4, .int v4_41)] → W p l e rX10_tells s m args below meth c H locs 0 0 Q (F0 m 41 ls []) := by
          intro f
          induction f with
          | zero => intro v4_41 m_made_41 m_standsFor_41 m_madeNext_41 m_madeHolds_41 m_stateFor_41 H locs ls h hP hD hS hl; cases (show none = some _ from h)
          | succ f ih =>
            intro v4_41 m_made_41 m_standsFor_41 m_madeNext_41 m_madeHolds_41 m_stateFor_41 H locs ls h hP hD hS hl
            rw [p_X10_tells_L41] at h
            refine lv_iload hx hb dX10_tells_41 (lv_at hl 4 rfl) ?_
            refine lv_aload_n hx hb dX10_tells_43 rfl (lv_at hl 0 rfl) ?_
            refine va_get (D := G.1) (ci := 10) (v := .int m_made_41) (C := RX10) (T := TX10) (N := 20) hx hb hts hinX10 hown hK.1 hP 0 rfl rfl 5 (by decide) hf81 (fun _ h9 => h9) rfl dX10_tells_44 ?_
            refine lv_icmp_ge (tgt := 133) hx hb dX10_tells_47 (by decide) (fun c_47 => ?_) (fun c_47 => ?_)
            · replace h := (if_pos c_47).symm.trans h
              exact hX41 _ _ _ _ _  _ _ _ h hP hD hS (lv_sub hl [0, 1] rfl)
            · replace h := (if_neg c_47).symm.trans h
              refine lv_iconst (v := 0) hx hb dX10_tells_50 (by decide) ?_
              refine lv_istore (lv' := [(5, .int (0 : Int32)), (0, .ref m_h), (1, .int v1), (2, .int v2), (3, .int v3), (4, .int v4_41)]) hx hb dX10_tells_51 hl (by decide) rfl (fun ls hl => ?_)
              obtain ⟨m_made_o53, m_standsFor_o53, m_madeNext_o53, m_stateFor_o53, hT53, h⟩ := ob4_e h
              have hX53 : ∀ (m_made_o53x : Int32) (m_standsFor_o53x : AI) (m_madeNext_o53x : AI) (m_stateFor_o53x : AI)  (H : Heap) (locs : List Loc) (ls : Array Slot), some (m_made_o53x, m_standsFor_o53x, m_madeNext_o53x, m_stateFor_o53x) = some (m_made_o53, m_standsFor_o53, m_madeNext_o53, m_stateFor_o53) → va_P G.1 vwCl (WM G m_h m_q m_onBy m_toldBy m_kindsOf m_nextOf m_holdsAt m_made_o53x m_standsFor_o53x m_madeNext_o53x m_madeHolds_41 m_stateFor_o53x m_joined m_joinedNow m_firstIn m_orderOf m_classAt m_sets m_waysTo m_waysThen m_queue m_leastTo) H → va_D A (WM G m_h m_q m_onBy m_toldBy m_kindsOf m_nextOf m_holdsAt m_made_o53x m_standsFor_o53x m_madeNext_o53x m_madeHolds_41 m_stateFor_o53x m_joined m_joinedNow m_firstIn m_orderOf m_classAt m_sets m_waysTo m_waysThen m_queue m_leastTo) → va_S A s.heap H locs → lv_has ls 6 [(0, .ref m_h), (1, .int v1), (2, .int v2), (3, .int v3), (4, .int v4_41)] → W p l e rX10_tells s m args below meth c H locs 0 0 Q (F0 m 99 ls []) := by
                intro m_made_o53x m_standsFor_o53x m_madeNext_o53x m_stateFor_o53x H locs ls hq hP hD hS hl
                obtain ⟨rfl, rfl, rfl, rfl⟩ := oi4 hq
                refine lv_aload_n hx hb dX10_tells_99 rfl (lv_at hl 0 rfl) ?_
                refine va_get (D := G.1) (ci := 10) (v := .ref (m_q 7)) (C := RX10) (T := TX10) (N := 20) hx hb hts hinX10 hown hK.1 hP 0 rfl rfl 8 (by decide) hf32 (fun _ h9 => h9) rfl dX10_tells_100 ?_
                refine lv_iload hx hb dX10_tells_103 (lv_at hl 4 rfl) ?_
                refine lv_aload_n hx hb dX10_tells_105 rfl (lv_at hl 0 rfl) ?_
                refine va_get (D := G.1) (ci := 10) (v := .ref (m_q 1)) (C := RX10) (T := TX10) (N := 20) hx hb hts hinX10 hown hK.1 hP 0 rfl rfl 1 (by decide) hf13 (fun _ h9 => h9) rfl dX10_tells_106 ?_
                refine lv_aload_n hx hb dX10_tells_109 rfl (lv_at hl 0 rfl) ?_
                refine va_get (D := G.1) (ci := 10) (v := .ref (m_q 5)) (C := RX10) (T := TX10) (N := 20) hx hb hts hinX10 hown hK.1 hP 0 rfl rfl 6 (by decide) hf26 (fun _ h9 => h9) rfl dX10_tells_110 ?_
                refine lv_iload hx hb dX10_tells_113 (lv_at hl 4 rfl) ?_
                obtain ⟨g_115, h⟩ := gi_e h
                refine va_iald hx hb hK.1 hP 6 0 rfl rfl g_115 dX10_tells_115 ?_
                obtain ⟨g_116, h⟩ := gi_e h
                refine va_iald hx hb hK.1 hP 2 0 rfl rfl g_116 dX10_tells_116 ?_
                refine lv_iload_n hx hb dX10_tells_117 rfl (lv_at hl 3 rfl) ?_
                obtain ⟨j0_118, hT118, h⟩ := ob1_e h
                have hJ118 : ∀ (j0_118x : Int32)  (H : Heap) (locs : List Loc) (ls : Array Slot), some j0_118x = some j0_118 → va_P G.1 vwCl (WM G m_h m_q m_onBy m_toldBy m_kindsOf m_nextOf m_holdsAt m_made_o53 m_standsFor_o53 m_madeNext_o53 m_madeHolds_41 m_stateFor_o53 m_joined m_joinedNow m_firstIn m_orderOf m_classAt m_sets m_waysTo m_waysThen m_queue m_leastTo) H → va_D A (WM G m_h m_q m_onBy m_toldBy m_kindsOf m_nextOf m_holdsAt m_made_o53 m_standsFor_o53 m_madeNext_o53 m_madeHolds_41 m_stateFor_o53 m_joined m_joinedNow m_firstIn m_orderOf m_classAt m_sets m_waysTo m_waysThen m_queue m_leastTo) → va_S A s.heap H locs → lv_has ls 6 [(0, .ref m_h), (1, .int v1), (2, .int v2), (3, .int v3), (4, .int v4_41)] → W p l e rX10_tells s m args below meth c H locs 0 0 Q (F0 m 126 ls [.int j0_118x, .int v4_41, .ref (m_q 7)]) := by
                  intro j0_118x H locs ls hq hP hD hS hl
                  obtain rfl := oi1 hq
                  obtain ⟨g_126, h⟩ := gi_e h
                  refine va_zast hx hb hK.1 hP hD hS 8 1 rfl rfl g_126 dX10_tells_126 (fun H locs hP hD hS => ?_)
                  have hP : va_P G.1 vwCl (WM G m_h m_q m_onBy m_toldBy m_kindsOf m_nextOf m_holdsAt m_made_o53 m_standsFor_o53 m_madeNext_o53 (upd m_madeHolds_41 v4_41.toNatClampNeg (j0_118 &&& (1 : Int32))) m_stateFor_o53 m_joined m_joinedNow m_firstIn m_orderOf m_classAt m_sets m_waysTo m_waysThen m_queue m_leastTo) H := hP
                  have hD : va_D A (WM G m_h m_q m_onBy m_toldBy m_kindsOf m_nextOf m_holdsAt m_made_o53 m_standsFor_o53 m_madeNext_o53 (upd m_madeHolds_41 v4_41.toNatClampNeg (j0_118 &&& (1 : Int32))) m_stateFor_o53 m_joined m_joinedNow m_firstIn m_orderOf m_classAt m_sets m_waysTo m_waysThen m_queue m_leastTo) := hD
                  refine lv_iinc (v := (v4_41 + (1 : Int32))) (lv' := [(4, .int (v4_41 + (1 : Int32))), (0, .ref m_h), (1, .int v1), (2, .int v2), (3, .int v3)]) hx hb dX10_tells_127 hl (k := 4) rfl rfl (by decide) rfl (fun ls hl => ?_)
                  refine lv_goto (tgt := 41) hx hb dX10_tells_130 (by decide) ?_
                  exact ih _ _ _ _ _ _  _ _ _ h hP hD hS (lv_sub hl [1, 2, 3, 4, 0] rfl)
                replace h := hT118
                refine lv_icmp_ne (tgt := 125) hx hb dX10_tells_118 (by decide) (fun c_118 => ?_) (fun c_118 => ?_)
                · replace h := (if_neg c_118).symm.trans h
                  refine lv_iconst (v := 0) hx hb dX10_tells_125 (by decide) ?_
                  exact hJ118 _  _ _ _ h hP hD hS (lv_sub hl [0, 1, 2, 3, 4] rfl)
                · replace h := (if_pos c_118).symm.trans h
                  refine lv_iconst (v := 1) hx hb dX10_tells_121 (by decide) ?_
                  refine lv_goto (tgt := 126) hx hb dX10_tells_122 (by decide) ?_
                  exact hJ118 _  _ _ _ h hP hD hS (lv_sub hl [0, 1, 2, 3, 4] rfl)
              have hL53 : ∀ (f : Nat) (v5_53 : Int32) (m_made_53 : Int32) (m_standsFor_53 : AI) (m_madeNext_53 : AI) (m_stateFor_53 : AI)  (H : Heap) (locs : List Loc) (ls : Array Slot), p_X10_tells_L53 v4_41 v2 m_onBy f v5_53 m_made_53 m_standsFor_53 m_madeNext_53 m_stateFor_53 = some (m_made_o53, m_standsFor_o53, m_madeNext_o53, m_stateFor_o53) → va_P G.1 vwCl (WM G m_h m_q m_onBy m_toldBy m_kindsOf m_nextOf m_holdsAt m_made_53 m_standsFor_53 m_madeNext_53 m_madeHolds_41 m_stateFor_53 m_joined m_joinedNow m_firstIn m_orderOf m_classAt m_sets m_waysTo m_waysThen m_queue m_leastTo) H → va_D A (WM G m_h m_q m_onBy m_toldBy m_kindsOf m_nextOf m_holdsAt m_made_53 m_standsFor_53 m_madeNext_53 m_madeHolds_41 m_stateFor_53 m_joined m_joinedNow m_firstIn m_orderOf m_classAt m_sets m_waysTo m_waysThen m_queue m_leastTo) → va_S A s.heap H locs → lv_has ls 6 [(0, .ref m_h), (1, .int v1), (2, .int v2), (3, .int v3), (4, .int v4_41), (5, .int v5_53)] → W p l e rX10_tells s m args below meth c H locs 0 0 Q (F0 m 53 ls []) := by
                intro f
                induction f with
                | zero => intro v5_53 m_made_53 m_standsFor_53 m_madeNext_53 m_stateFor_53 H locs ls h hP hD hS hl; cases (show none = some _ from h)
                | succ f ih =>
                  intro v5_53 m_made_53 m_standsFor_53 m_madeNext_53 m_stateFor_53 H locs ls h hP hD hS hl
                  rw [p_X10_tells_L53] at h
                  refine lv_iload hx hb dX10_tells_53 (lv_at hl 5 rfl) ?_
                  refine lv_bipush (v := 8) hx hb dX10_tells_55 (by decide) ?_
                  refine lv_icmp_ge (tgt := 99) hx hb dX10_tells_57 (by decide) (fun c_57 => ?_) (fun c_57 => ?_)
                  · replace h := (if_pos c_57).symm.trans h
                    exact hX53 _ _ _ _  _ _ _ h hP hD hS (lv_sub hl [0, 1, 2, 3, 4] rfl)
                  · replace h := (if_neg c_57).symm.trans h
                    refine lv_aload_n hx hb dX10_tells_60 rfl (lv_at hl 0 rfl) ?_
                    refine lv_iload hx hb dX10_tells_61 (lv_at hl 4 rfl) ?_
                    refine lv_iload hx hb dX10_tells_63 (lv_at hl 5 rfl) ?_
                    refine lv_aload_n hx hb dX10_tells_65 rfl (lv_at hl 0 rfl) ?_
                    refine lv_aload_n hx hb dX10_tells_66 rfl (lv_at hl 0 rfl) ?_
                    refine va_get (D := G.1) (ci := 10) (v := .ref (m_q 0)) (C := RX10) (T := TX10) (N := 20) hx hb hts hinX10 hown hK.1 hP 0 rfl rfl 0 (by decide) hf7 (fun _ h9 => h9) rfl dX10_tells_67 ?_
                    refine lv_iconst (v := 2) hx hb dX10_tells_70 (by decide) ?_
                    refine lv_aload_n hx hb dX10_tells_71 rfl (lv_at hl 0 rfl) ?_
                    refine va_get (D := G.1) (ci := 10) (v := .ref (m_q 5)) (C := RX10) (T := TX10) (N := 20) hx hb hts hinX10 hown hK.1 hP 0 rfl rfl 6 (by decide) hf26 (fun _ h9 => h9) rfl dX10_tells_72 ?_
                    refine lv_iload hx hb dX10_tells_75 (lv_at hl 4 rfl) ?_
                    obtain ⟨g_77, h⟩ := gi_e h
                    refine va_iald hx hb hK.1 hP 6 0 rfl rfl g_77 dX10_tells_77 ?_
                    refine lv_imul hx hb dX10_tells_78 ?_
                    refine lv_iload hx hb dX10_tells_79 (lv_at hl 5 rfl) ?_
                    refine lv_iload_n hx hb dX10_tells_81 rfl (lv_at hl 2 rfl) ?_
                    obtain ⟨r_82, hc_82, h⟩ := ob1_e h
                    refine k_si (va_runS (As := [.int v5_53, .int v2]) (rest := [.int ((2 : Int32) * (m_standsFor_53 v4_41.toNatClampNeg)), .ref (m_q 0), .ref m_h, .int v5_53, .int v4_41, .ref m_h]) ⟨hx, hb, hml, hown, hts⟩ (c_X10_digit l G   v5_53 v2 r_82 hc_82) (va_cwS 2 hts gX10_tells_X10_digit rfl rfl rfl eX10_digit ⟨Nat.le_of_ble_eq_true rfl, Nat.le_of_ble_eq_true rfl⟩) (preSS hK (fun k q h => by cases h)) rfl rfl hl.1 rfl (lv_room (Nat.le_of_ble_eq_true rfl)) dX10_tells_82 ⟨Nat.le_of_ble_eq_true rfl, Nat.le_of_ble_eq_true rfl⟩) ?_
                    refine lv_iadd hx hb dX10_tells_85 ?_
                    obtain ⟨g_86, h⟩ := gi_e h
                    refine va_iald hx hb hK.1 hP 1 0 rfl rfl g_86 dX10_tells_86 ?_
                    obtain ⟨r_87, m_made_87, m_standsFor_87, m_stateFor_87, hc_87, h⟩ := ob4_e h
                    refine k_ciA (va_runV (As := [.int (m_onBy (((2 : Int32) * (m_standsFor_53 v4_41.toNatClampNeg)) + r_82).toNatClampNeg)]) (rest := [.int v5_53, .int v4_41, .ref m_h]) ⟨hx, hb, hml, hown, hts⟩ (c_X10_stateOf l G m_h m_q m_onBy m_toldBy m_kindsOf m_nextOf m_holdsAt m_made_53 m_standsFor_53 m_madeNext_53 m_madeHolds_41 m_stateFor_53 m_joined m_joinedNow m_firstIn m_orderOf m_classAt m_sets m_waysTo m_waysThen m_queue m_leastTo (m_onBy (((2 : Int32) * (m_standsFor_53 v4_41.toNatClampNeg)) + r_82).toNatClampNeg) _ r_87 m_made_87 m_standsFor_87 m_stateFor_87 hc_87) (cwV 1 hts gX10_tells_X10_stateOf rfl rfl rfl ⟨rfl, eX10_stateOf⟩ ⟨Nat.le_of_ble_eq_true rfl, Nat.le_of_ble_eq_true rfl⟩) (preWV (ci := 10) (q0 := 0) hK hP hD rfl rfl) rfl rfl hl.1 rfl (lv_room (Nat.le_of_ble_eq_true rfl)) dX10_tells_87 ⟨Nat.le_of_ble_eq_true rfl, Nat.le_of_ble_eq_true rfl⟩) hD hS hA (fun u_87 H locs hP hD hS => ?_)
                    have hP : va_P G.1 vwCl (WM G m_h m_q m_onBy m_toldBy m_kindsOf m_nextOf m_holdsAt m_made_87 m_standsFor_87 m_madeNext_53 m_madeHolds_41 m_stateFor_87 m_joined m_joinedNow m_firstIn m_orderOf m_classAt m_sets m_waysTo m_waysThen m_queue m_leastTo) H := hP
                    have hD : va_D A (WM G m_h m_q m_onBy m_toldBy m_kindsOf m_nextOf m_holdsAt m_made_87 m_standsFor_87 m_madeNext_53 m_madeHolds_41 m_stateFor_87 m_joined m_joinedNow m_firstIn m_orderOf m_classAt m_sets m_waysTo m_waysThen m_queue m_leastTo) := hD
                    obtain ⟨m_madeNext_90, hc_90, h⟩ := ob1_e h
                    refine k_cvA (va_runV (As := [.int v4_41, .int v5_53, .int r_87]) (rest := []) ⟨hx, hb, hml, hown, hts⟩ (c_X10_leads l G m_h m_q m_onBy m_toldBy m_kindsOf m_nextOf m_holdsAt m_made_87 m_standsFor_87 m_madeNext_53 m_madeHolds_41 m_stateFor_87 m_joined m_joinedNow m_firstIn m_orderOf m_classAt m_sets m_waysTo m_waysThen m_queue m_leastTo v4_41 v5_53 r_87 _ m_madeNext_90 hc_90) (cwV 3 hts gX10_tells_X10_leads rfl rfl rfl ⟨rfl, eX10_leads⟩ ⟨Nat.le_of_ble_eq_true rfl, Nat.le_of_ble_eq_true rfl⟩) (preWV (ci := 10) (q0 := 0) hK hP hD rfl rfl) rfl rfl hl.1 rfl (lv_room (Nat.le_of_ble_eq_true rfl)) dX10_tells_90 ⟨Nat.le_of_ble_eq_true rfl, Nat.le_of_ble_eq_true rfl⟩) hD hS hA (fun u_90 H locs hP hD hS => ?_)
                    have hP : va_P G.1 vwCl (WM G m_h m_q m_onBy m_toldBy m_kindsOf m_nextOf m_holdsAt m_made_87 m_standsFor_87 m_madeNext_90 m_madeHolds_41 m_stateFor_87 m_joined m_joinedNow m_firstIn m_orderOf m_classAt m_sets m_waysTo m_waysThen m_queue m_leastTo) H := hP
                    have hD : va_D A (WM G m_h m_q m_onBy m_toldBy m_kindsOf m_nextOf m_holdsAt m_made_87 m_standsFor_87 m_madeNext_90 m_madeHolds_41 m_stateFor_87 m_joined m_joinedNow m_firstIn m_orderOf m_classAt m_sets m_waysTo m_waysThen m_queue m_leastTo) := hD
                    refine lv_iinc (v := (v5_53 + (1 : Int32))) (lv' := [(5, .int (v5_53 + (1 : Int32))), (0, .ref m_h), (1, .int v1), (2, .int v2), (3, .int v3), (4, .int v4_41)]) hx hb dX10_tells_93 hl (k := 5) rfl rfl (by decide) rfl (fun ls hl => ?_)
                    refine lv_goto (tgt := 53) hx hb dX10_tells_96 (by decide) ?_
                    exact ih _ _ _ _ _  _ _ _ h hP hD hS (lv_sub hl [1, 2, 3, 4, 5, 0] rfl)
              exact hL53 n _ _ _ _ _  _ _ _ hT53 hP hD hS (lv_sub hl [1, 2, 3, 4, 5, 0] rfl)
        exact hL41 n _ _ _ _ _ _  _ _ _ hT41 hP hD hS (lv_sub hl [1, 2, 3, 4, 0] rfl)
      · replace h := (if_pos c_22).symm.trans h
        refine lv_bipush (v := -2) hx hb dX10_tells_25 (by decide) ?_
        obtain ⟨rfl, rfl, rfl, rfl, rfl, rfl, rfl, rfl, rfl, rfl, rfl, rfl, rfl, rfl⟩ := oi14 h
        exact hret (fun _ => 0) _ _ _ _ _ _ _ dX10_tells_27 rfl rfl hP hD hS (Nat.le_of_ble_eq_true rfl) (Nat.le_of_ble_eq_true rfl)
    · replace h := (if_pos c_11).symm.trans h
      refine lv_iconst (v := -1) hx hb dX10_tells_14 (by decide) ?_
      obtain ⟨rfl, rfl, rfl, rfl, rfl, rfl, rfl, rfl, rfl, rfl, rfl, rfl, rfl, rfl⟩ := oi14 h
      exact hret (fun _ => 0) _ _ _ _ _ _ _ dX10_tells_15 rfl rfl hP hD hS (Nat.le_of_ble_eq_true rfl) (Nat.le_of_ble_eq_true rfl)
abbrev rX10_alike : Room := { frames := 4, cells := 0, slots := 0, locals := 96 }
set_option maxHeartbeats 4000000 in
set_option maxRecDepth 100000 in
theorem c_X10_alike (l : Launch) (G : GG) (n : Nat) (m_h : Nat) (m_q : Nat → Nat) (m_onBy : AI) (m_toldBy : AI) (m_kindsOf : AI) (m_nextOf : AI) (m_holdsAt : AI) (m_made : Int32) (m_standsFor : AI) (m_madeNext : AI) (m_madeHolds : AI) (m_stateFor : AI) (m_joined : AI) (m_joinedNow : AI) (m_firstIn : AI) (m_orderOf : AI) (m_classAt : AI) (m_sets : AL) (m_waysTo : AL) (m_waysThen : AL) (m_queue : AI) (m_leastTo : AL) (v1 : Int32) (v2 : Int32) (v3 : Int32) (sz : Nat) (r : Int32) (m_kindsOf_z : AI) (m_nextOf_z : AI) (m_holdsAt_z : AI) (m_made_z : Int32) (m_standsFor_z : AI) (m_madeNext_z : AI) (m_madeHolds_z : AI) (m_stateFor_z : AI) (m_joined_z : AI) (m_joinedNow_z : AI) (m_firstIn_z : AI) (m_orderOf_z : AI) (m_classAt_z : AI) (h : p_X10_alike n m_onBy m_toldBy m_kindsOf m_nextOf m_holdsAt m_made m_standsFor m_madeNext m_madeHolds m_stateFor m_joined m_joinedNow m_firstIn m_orderOf m_classAt v1 v2 v3 = some (r, m_kindsOf_z, m_nextOf_z, m_holdsAt_z, m_made_z, m_standsFor_z, m_madeNext_z, m_madeHolds_z, m_stateFor_z, m_joined_z, m_joinedNow_z, m_firstIn_z, m_orderOf_z, m_classAt_z)) : CI l yX10_alike wsX10_alike rX10_alike G [.ref m_h, .int v1, .int v2, .int v3] (WM G m_h m_q m_onBy m_toldBy m_kindsOf m_nextOf m_holdsAt m_made m_standsFor m_madeNext m_madeHolds m_stateFor m_joined m_joinedNow m_firstIn m_orderOf m_classAt m_sets m_waysTo m_waysThen m_queue m_leastTo) sz r (fun u => WM G m_h m_q m_onBy m_toldBy m_kindsOf_z m_nextOf_z m_holdsAt_z m_made_z m_standsFor_z m_madeNext_z m_madeHolds_z m_stateFor_z m_joined_z m_joinedNow_z m_firstIn_z m_orderOf_z m_classAt_z m_sets m_waysTo m_waysThen m_queue m_leastTo) := by
  refine enterCI (cc := cX10_alike) (maxL := 8) (by decide) rfl (Nat.le_of_ble_eq_true rfl) ?_
  intro p e s m args below meth c A Q hx hb hml hown hts hK hP hD hS hA hret ls hl
  have hown : s.vm.findClass RX10 = some m.cls := hown
  have hf7 := hts (.fieldLink RX10 7 "DigitClaimsModel" "onBy" "[I") (by decide +kernel)
  have hf13 := hts (.fieldLink RX10 13 "DigitClaimsModel" "toldBy" "[I") (by decide +kernel)
  have hf26 := hts (.fieldLink RX10 26 "DigitClaimsModel" "standsFor" "[I") (by decide +kernel)
  have hf32 := hts (.fieldLink RX10 32 "DigitClaimsModel" "madeHolds" "[Z") (by decide +kernel)
  have hf81 := hts (.fieldLink RX10 81 "DigitClaimsModel" "made" "I") (by decide +kernel)
  have hinX10 : ∀ w ∈ wsX100, w ∈ wsX10_alike := by decide +kernel
  have hl : lv_has ls 8 [(0, .ref m_h), (1, .int v1), (2, .int v2), (3, .int v3)] := hl
  unfold p_X10_alike at h
  refine lv_iload_n hx hb dX10_alike_0 rfl (lv_at hl 1 rfl) ?_
  obtain ⟨r_1, hc_1, h⟩ := ob1_e h
  refine k_si (va_runS (As := [.int v1]) (rest := []) ⟨hx, hb, hml, hown, hts⟩ (c_X10_isClaim l G   v1 r_1 hc_1) (va_cwS 1 hts gX10_alike_X10_isClaim rfl rfl rfl eX10_isClaim ⟨Nat.le_of_ble_eq_true rfl, Nat.le_of_ble_eq_true rfl⟩) (preSS hK (fun k q h => by cases h)) rfl rfl hl.1 rfl (lv_room (Nat.le_of_ble_eq_true rfl)) dX10_alike_1 ⟨Nat.le_of_ble_eq_true rfl, Nat.le_of_ble_eq_true rfl⟩) ?_
  refine lv_if_eq (tgt := 15) hx hb dX10_alike_4 (by decide) (fun c_4 => ?_) (fun c_4 => ?_)
  · replace h := (if_pos c_4).symm.trans h
    refine lv_iconst (v := -1) hx hb dX10_alike_15 (by decide) ?_
    obtain ⟨rfl, rfl, rfl, rfl, rfl, rfl, rfl, rfl, rfl, rfl, rfl, rfl, rfl, rfl⟩ := oi14 h
    exact hret (fun _ => 0) _ _ _ _ _ _ _ dX10_alike_16 rfl rfl hP hD hS (Nat.le_of_ble_eq_true rfl) (Nat.le_of_ble_eq_true rfl)
  · replace h := (if_neg c_4).symm.trans h
    refine lv_iload_n hx hb dX10_alike_7 rfl (lv_at hl 2 rfl) ?_
    refine lv_iload_n hx hb dX10_alike_8 rfl (lv_at hl 3 rfl) ?_
    obtain ⟨r_9, hc_9, h⟩ := ob1_e h
    refine k_si (va_runS (As := [.int v2, .int v3]) (rest := []) ⟨hx, hb, hml, hown, hts⟩ (c_X10_areTwo l G   v2 v3 r_9 hc_9) (va_cwS 2 hts gX10_alike_X10_areTwo rfl rfl rfl eX10_areTwo ⟨Nat.le_of_ble_eq_true rfl, Nat.le_of_ble_eq_true rfl⟩) (preSS hK (fun k q h => by cases h)) rfl rfl hl.1 rfl (lv_room (Nat.le_of_ble_eq_true rfl)) dX10_alike_9 ⟨Nat.le_of_ble_eq_true rfl, Nat.le_of_ble_eq_true rfl⟩) ?_
    refine lv_if_ne (tgt := 17) hx hb dX10_alike_12 (by decide) (fun c_12 => ?_) (fun c_12 => ?_)
    · replace h := (if_neg c_12).symm.trans h
      refine lv_aload_n hx hb dX10_alike_17 rfl (lv_at hl 0 rfl) ?_
      obtain ⟨m_made_18, m_stateFor_18, hc_18, h⟩ := ob2_e h
      refine k_cvA (va_runV (As := []) (rest := []) ⟨hx, hb, hml, hown, hts⟩ (c_X10_begins l G n m_h m_q m_onBy m_toldBy m_kindsOf m_nextOf m_holdsAt m_made m_standsFor m_madeNext m_madeHolds m_stateFor m_joined m_joinedNow m_firstIn m_orderOf m_classAt m_sets m_waysTo m_waysThen m_queue m_leastTo  _ m_made_18 m_stateFor_18 hc_18) (cwV 0 hts gX10_alike_X10_begins rfl rfl rfl ⟨rfl, eX10_begins⟩ ⟨Nat.le_of_ble_eq_true rfl, Nat.le_of_ble_eq_true rfl⟩) (preWV (ci := 10) (q0 := 0) hK hP hD rfl rfl) rfl rfl hl.1 rfl (lv_room (Nat.le_of_ble_eq_true rfl)) dX10_alike_18 ⟨Nat.le_of_ble_eq_true rfl, Nat.le_of_ble_eq_true rfl⟩) hD hS hA (fun u_18 H locs hP hD hS => ?_)
      have hP : va_P G.1 vwCl (WM G m_h m_q m_onBy m_toldBy m_kindsOf m_nextOf m_holdsAt m_made_18 m_standsFor m_madeNext m_madeHolds m_stateFor_18 m_joined m_joinedNow m_firstIn m_orderOf m_classAt m_sets m_waysTo m_waysThen m_queue m_leastTo) H := hP
      have hD : va_D A (WM G m_h m_q m_onBy m_toldBy m_kindsOf m_nextOf m_holdsAt m_made_18 m_standsFor m_madeNext m_madeHolds m_stateFor_18 m_joined m_joinedNow m_firstIn m_orderOf m_classAt m_sets m_waysTo m_waysThen m_queue m_leastTo) := hD
      refine lv_aload_n hx hb dX10_alike_21 rfl (lv_at hl 0 rfl) ?_
      refine lv_iconst (v := 0) hx hb dX10_alike_22 (by decide) ?_
      obtain ⟨r_23, m_made_23, m_standsFor_23, m_stateFor_23, hc_23, h⟩ := ob4_e h
      refine k_ciA (va_runV (As := [.int (0 : Int32)]) (rest := []) ⟨hx, hb, hml, hown, hts⟩ (c_X10_stateOf l G m_h m_q m_onBy m_toldBy m_kindsOf m_nextOf m_holdsAt m_made_18 m_standsFor m_madeNext m_madeHolds m_stateFor_18 m_joined m_joinedNow m_firstIn m_orderOf m_classAt m_sets m_waysTo m_waysThen m_queue m_leastTo (0 : Int32) _ r_23 m_made_23 m_standsFor_23 m_stateFor_23 hc_23) (cwV 1 hts gX10_alike_X10_stateOf rfl rfl rfl ⟨rfl, eX10_stateOf⟩ ⟨Nat.le_of_ble_eq_true rfl, Nat.le_of_ble_eq_true rfl⟩) (preWV (ci := 10) (q0 := 0) hK hP hD rfl rfl) rfl rfl hl.1 rfl (lv_room (Nat.le_of_ble_eq_true rfl)) dX10_alike_23 ⟨Nat.le_of_ble_eq_true rfl, Nat.le_of_ble_eq_true rfl⟩) hD hS hA (fun u_23 H locs hP hD hS => ?_)
      have hP : va_P G.1 vwCl (WM G m_h m_q m_onBy m_toldBy m_kindsOf m_nextOf m_holdsAt m_made_23 m_standsFor_23 m_madeNext m_madeHolds m_stateFor_23 m_joined m_joinedNow m_firstIn m_orderOf m_classAt m_sets m_waysTo m_waysThen m_queue m_leastTo) H := hP
      have hD : va_D A (WM G m_h m_q m_onBy m_toldBy m_kindsOf m_nextOf m_holdsAt m_made_23 m_standsFor_23 m_madeNext m_madeHolds m_stateFor_23 m_joined m_joinedNow m_firstIn m_orderOf m_classAt m_sets m_waysTo m_waysThen m_queue m_leastTo) := hD
      refine lv_pop hx hb dX10_alike_26 rfl ?_
      refine lv_iconst (v := 0) hx hb dX10_alike_27 (by decide) ?_
      refine lv_istore (lv' := [(4, .int (0 : Int32)), (0, .ref m_h), (1, .int v1), (2, .int v2), (3, .int v3)]) hx hb dX10_alike_28 hl (by decide) rfl (fun ls hl => ?_)
      obtain ⟨m_made_o30, m_standsFor_o30, m_madeNext_o30, m_madeHolds_o30, m_stateFor_o30, hT30, h⟩ := ob5_e h
      have hX30 : ∀ (m_made_o30x : Int32) (m_standsFor_o30x : AI) (m_madeNext_o30x : AI) (m_madeHolds_o30x : AI) (m_stateFor_o30x : AI)  (H : Heap) (locs : List Loc) (ls : Array Slot), some (m_made_o30x, m_standsFor_o30x, m_madeNext_o30x, m_madeHolds_o30x, m_stateFor_o30x) = some (m_made_o30, m_standsFor_o30, m_madeNext_o30, m_madeHolds_o30, m_stateFor_o30) → va_P G.1 vwCl (WM G m_h m_q m_onBy m_toldBy m_kindsOf m_nextOf m_holdsAt m_made_o30x m_standsFor_o30x m_madeNext_o30x m_madeHolds_o30x m_stateFor_o30x m_joined m_joinedNow m_firstIn m_orderOf m_classAt m_sets m_waysTo m_waysThen m_queue m_leastTo) H → va_D A (WM G m_h m_q m_onBy m_toldBy m_kindsOf m_nextOf m_holdsAt m_made_o30x m_standsFor_o30x m_madeNext_o30x m_madeHolds_o30x m_stateFor_o30x m_joined m_joinedNow m_firstIn m_orderOf m_classAt m_sets m_waysTo m_waysThen m_queue m_leastTo) → va_S A s.heap H locs → lv_has ls 8 [(0, .ref m_h), (1, .int v1)] → W p l e rX10_alike s m args below meth c H locs 0 0 Q (F0 m 159 ls []) := by
        intro m_made_o30x m_standsFor_o30x m_madeNext_o30x m_madeHolds_o30x m_stateFor_o30x H locs ls hq hP hD hS hl
        obtain ⟨rfl, rfl, rfl, rfl, rfl⟩ := oi5 hq
        refine lv_aload_n hx hb dX10_alike_159 rfl (lv_at hl 0 rfl) ?_
        refine lv_iload_n hx hb dX10_alike_160 rfl (lv_at hl 1 rfl) ?_
        obtain ⟨r_161, m_kindsOf_161, m_nextOf_161, m_holdsAt_161, m_joined_161, m_joinedNow_161, m_firstIn_161, m_orderOf_161, m_classAt_161, hc_161, h⟩ := ob9_e h
        refine k_ciA (va_runV (As := [.int v1]) (rest := []) ⟨hx, hb, hml, hown, hts⟩ (c_X10_comes l G n m_h m_q m_onBy m_toldBy m_kindsOf m_nextOf m_holdsAt m_made_o30 m_standsFor_o30 m_madeNext_o30 m_madeHolds_o30 m_stateFor_o30 m_joined m_joinedNow m_firstIn m_orderOf m_classAt m_sets m_waysTo m_waysThen m_queue m_leastTo v1 _ r_161 m_kindsOf_161 m_nextOf_161 m_holdsAt_161 m_joined_161 m_joinedNow_161 m_firstIn_161 m_orderOf_161 m_classAt_161 hc_161) (cwV 1 hts gX10_alike_X10_comes rfl rfl rfl ⟨rfl, eX10_comes⟩ ⟨Nat.le_of_ble_eq_true rfl, Nat.le_of_ble_eq_true rfl⟩) (preWV (ci := 10) (q0 := 0) hK hP hD rfl rfl) rfl rfl hl.1 rfl (lv_room (Nat.le_of_ble_eq_true rfl)) dX10_alike_161 ⟨Nat.le_of_ble_eq_true rfl, Nat.le_of_ble_eq_true rfl⟩) hD hS hA (fun u_161 H locs hP hD hS => ?_)
        have hP : va_P G.1 vwCl (WM G m_h m_q m_onBy m_toldBy m_kindsOf_161 m_nextOf_161 m_holdsAt_161 m_made_o30 m_standsFor_o30 m_madeNext_o30 m_madeHolds_o30 m_stateFor_o30 m_joined_161 m_joinedNow_161 m_firstIn_161 m_orderOf_161 m_classAt_161 m_sets m_waysTo m_waysThen m_queue m_leastTo) H := hP
        have hD : va_D A (WM G m_h m_q m_onBy m_toldBy m_kindsOf_161 m_nextOf_161 m_holdsAt_161 m_made_o30 m_standsFor_o30 m_madeNext_o30 m_madeHolds_o30 m_stateFor_o30 m_joined_161 m_joinedNow_161 m_firstIn_161 m_orderOf_161 m_classAt_161 m_sets m_waysTo m_waysThen m_queue m_leastTo) := hD
        obtain ⟨rfl, rfl, rfl, rfl, rfl, rfl, rfl, rfl, rfl, rfl, rfl, rfl, rfl, rfl⟩ := oi14 h
        exact hret (fun _ => 0) _ _ _ _ _ _ _ dX10_alike_164 rfl rfl hP hD hS (Nat.le_of_ble_eq_true rfl) (Nat.le_of_ble_eq_true rfl)
      have hL30 : ∀ (f : Nat) (v4_30 : Int32) (m_made_30 : Int32) (m_standsFor_30 : AI) (m_madeNext_30 : AI) (m_madeHolds_30 : AI) (m_stateFor_30 : AI)  (H : Heap) (locs : List Loc) (ls : Array Slot), p_X10_alike_L30 n v2 v3 m_onBy m_toldBy f v4_30 m_made_30 m_standsFor_30 m_madeNext_30 m_madeHolds_30 m_stateFor_30 = some (m_made_o30, m_standsFor_o30, m_madeNext_o30, m_madeHolds_o30, m_stateFor_o30) → va_P G.1 vwCl (WM G m_h m_q m_onBy m_toldBy m_kindsOf m_nextOf m_holdsAt m_made_30 m_standsFor_30 m_madeNext_30 m_madeHolds_30 m_stateFor_30 m_joined m_joinedNow m_firstIn m_orderOf m_classAt m_sets m_waysTo m_waysThen m_queue m_leastTo) H → va_D A (WM G m_h m_q m_onBy m_toldBy m_kindsOf m_nextOf m_holdsAt m_made_30 m_standsFor_30 m_madeNext_30 m_madeHolds_30 m_stateFor_30 m_joined m_joinedNow m_firstIn m_orderOf m_classAt m_sets m_waysTo m_waysThen m_queue m_leastTo) → va_S A s.heap H locs → lv_has ls 8 [(0, .ref m_h), (1, .int v1), (2, .int v2), (3, .int v3), (4, .int v4_30)] → W p l e rX10_alike s m args below meth c H locs 0 0 Q (F0 m 30 ls []) := by
        intro f
        induction f with
        | zero => intro v4_30 m_made_30 m_standsFor_30 m_madeNext_30 m_madeHolds_30 m_stateFor_30 H locs ls h hP hD hS hl; cases (show none = some _ from h)
        | succ f ih =>
          intro v4_30 m_made_30 m_standsFor_30 m_madeNext_30 m_madeHolds_30 m_stateFor_30 H locs ls h hP hD hS hl
          rw [p_X10_alike_L30] at h
          refine lv_iload hx hb dX10_alike_30 (lv_at hl 4 rfl) ?_
          refine lv_aload_n hx hb dX10_alike_32 rfl (lv_at hl 0 rfl) ?_
          refine va_get (D := G.1) (ci := 10) (v := .int m_made_30) (C := RX10) (T := TX10) (N := 20) hx hb hts hinX10 hown hK.1 hP 0 rfl rfl 5 (by decide) hf81 (fun _ h9 => h9) rfl dX10_alike_33 ?_
          refine lv_icmp_ge (tgt := 159) hx hb dX10_alike_36 (by decide) (fun c_36 => ?_) (fun c_36 => ?_)
          · replace h := (if_pos c_36).symm.trans h
            exact hX30 _ _ _ _ _  _ _ _ h hP hD hS (lv_sub hl [0, 1] rfl)
          · replace h := (if_neg c_36).symm.trans h
            refine lv_aload_n hx hb dX10_alike_39 rfl (lv_at hl 0 rfl) ?_
            refine va_get (D := G.1) (ci := 10) (v := .ref (m_q 5)) (C := RX10) (T := TX10) (N := 20) hx hb hts hinX10 hown hK.1 hP 0 rfl rfl 6 (by decide) hf26 (fun _ h9 => h9) rfl dX10_alike_40 ?_
            refine lv_iload hx hb dX10_alike_43 (lv_at hl 4 rfl) ?_
            obtain ⟨g_45, h⟩ := gi_e h
            refine va_iald hx hb hK.1 hP 6 0 rfl rfl g_45 dX10_alike_45 ?_
            refine lv_iconst (v := 5) hx hb dX10_alike_46 (by decide) ?_
            refine lv_idiv hx hb dX10_alike_47 (by decide) ?_
            refine lv_istore (lv' := [(5, .int ((m_standsFor_30 v4_30.toNatClampNeg) / (5 : Int32))), (0, .ref m_h), (1, .int v1), (2, .int v2), (3, .int v3), (4, .int v4_30)]) hx hb dX10_alike_48 hl (by decide) rfl (fun ls hl => ?_)
            refine lv_aload_n hx hb dX10_alike_50 rfl (lv_at hl 1 rfl) ?_
            refine va_get (D := G.1) (ci := 10) (v := .ref (m_q 5)) (C := RX10) (T := TX10) (N := 20) hx hb hts hinX10 hown hK.1 hP 0 rfl rfl 6 (by decide) hf26 (fun _ h9 => h9) rfl dX10_alike_51 ?_
            refine lv_iload hx hb dX10_alike_54 (lv_at hl 5 rfl) ?_
            obtain ⟨g_56, h⟩ := gi_e h
            refine va_iald hx hb hK.1 hP 6 0 rfl rfl g_56 dX10_alike_56 ?_
            refine lv_iconst (v := 5) hx hb dX10_alike_57 (by decide) ?_
            refine lv_irem hx hb dX10_alike_58 (by decide) ?_
            refine lv_istore (lv' := [(6, .int ((m_standsFor_30 v4_30.toNatClampNeg) - (m_standsFor_30 v4_30.toNatClampNeg) / (5 : Int32) * (5 : Int32))), (5, .int ((m_standsFor_30 v4_30.toNatClampNeg) / (5 : Int32))), (0, .ref m_h), (1, .int v1), (2, .int v2), (3, .int v3), (4, .int v4_30)]) hx hb dX10_alike_59 hl (by decide) rfl (fun ls hl => ?_)
            refine lv_iconst (v := 0) hx hb dX10_alike_61 (by decide) ?_
            refine lv_istore (lv' := [(7, .int (0 : Int32)), (6, .int ((m_standsFor_30 v4_30.toNatClampNeg) - (m_standsFor_30 v4_30.toNatClampNeg) / (5 : Int32) * (5 : Int32))), (5, .int ((m_standsFor_30 v4_30.toNatClampNeg) / (5 : Int32))), (0, .ref m_h), (1, .int v1), (2, .int v2), (3, .int v3), (4, .int v4_30)]) hx hb dX10_alike_62 hl (by decide) rfl (fun ls hl => ?_)
            obtain ⟨m_made_o64, m_standsFor_o64, m_madeNext_o64, m_stateFor_o64, hT64, h⟩ := ob4_e h
            have hX64 : ∀ (m_made_o64x : Int32) (m_standsFor_o64x : AI) (m_madeNext_o64x : AI) (m_stateFor_o64x : AI)  (H : Heap) (locs : List Loc) (ls : Array Slot), some (m_made_o64x, m_standsFor_o64x, m_madeNext_o64x, m_stateFor_o64x) = some (m_made_o64, m_standsFor_o64, m_madeNext_o64, m_stateFor_o64) → va_P G.1 vwCl (WM G m_h m_q m_onBy m_toldBy m_kindsOf m_nextOf m_holdsAt m_made_o64x m_standsFor_o64x m_madeNext_o64x m_madeHolds_30 m_stateFor_o64x m_joined m_joinedNow m_firstIn m_orderOf m_classAt m_sets m_waysTo m_waysThen m_queue m_leastTo) H → va_D A (WM G m_h m_q m_onBy m_toldBy m_kindsOf m_nextOf m_holdsAt m_made_o64x m_standsFor_o64x m_madeNext_o64x m_madeHolds_30 m_stateFor_o64x m_joined m_joinedNow m_firstIn m_orderOf m_classAt m_sets m_waysTo m_waysThen m_queue m_leastTo) → va_S A s.heap H locs → lv_has ls 8 [(0, .ref m_h), (1, .int v1), (2, .int v2), (3, .int v3), (4, .int v4_30), (5, .int ((m_standsFor_30 v4_30.toNatClampNeg) / (5 : Int32))), (6, .int ((m_standsFor_30 v4_30.toNatClampNeg) - (m_standsFor_30 v4_30.toNatClampNeg) / (5 : Int32) * (5 : Int32)))] → W p l e rX10_alike s m args below meth c H locs 0 0 Q (F0 m 124 ls []) := by
              intro m_made_o64x m_standsFor_o64x m_madeNext_o64x m_stateFor_o64x H locs ls hq hP hD hS hl
              obtain ⟨rfl, rfl, rfl, rfl⟩ := oi4 hq
              refine lv_aload_n hx hb dX10_alike_124 rfl (lv_at hl 0 rfl) ?_
              refine va_get (D := G.1) (ci := 10) (v := .ref (m_q 7)) (C := RX10) (T := TX10) (N := 20) hx hb hts hinX10 hown hK.1 hP 0 rfl rfl 8 (by decide) hf32 (fun _ h9 => h9) rfl dX10_alike_125 ?_
              refine lv_iload hx hb dX10_alike_128 (lv_at hl 4 rfl) ?_
              refine lv_aload_n hx hb dX10_alike_130 rfl (lv_at hl 0 rfl) ?_
              refine va_get (D := G.1) (ci := 10) (v := .ref (m_q 1)) (C := RX10) (T := TX10) (N := 20) hx hb hts hinX10 hown hK.1 hP 0 rfl rfl 1 (by decide) hf13 (fun _ h9 => h9) rfl dX10_alike_131 ?_
              refine lv_iload hx hb dX10_alike_134 (lv_at hl 5 rfl) ?_
              obtain ⟨g_136, h⟩ := gi_e h
              refine va_iald hx hb hK.1 hP 2 0 rfl rfl g_136 dX10_alike_136 ?_
              refine lv_aload_n hx hb dX10_alike_137 rfl (lv_at hl 0 rfl) ?_
              refine va_get (D := G.1) (ci := 10) (v := .ref (m_q 1)) (C := RX10) (T := TX10) (N := 20) hx hb hts hinX10 hown hK.1 hP 0 rfl rfl 1 (by decide) hf13 (fun _ h9 => h9) rfl dX10_alike_138 ?_
              refine lv_iload hx hb dX10_alike_141 (lv_at hl 6 rfl) ?_
              obtain ⟨g_143, h⟩ := gi_e h
              refine va_iald hx hb hK.1 hP 2 0 rfl rfl g_143 dX10_alike_143 ?_
              obtain ⟨j0_144, hT144, h⟩ := ob1_e h
              have hJ144 : ∀ (j0_144x : Int32)  (H : Heap) (locs : List Loc) (ls : Array Slot), some j0_144x = some j0_144 → va_P G.1 vwCl (WM G m_h m_q m_onBy m_toldBy m_kindsOf m_nextOf m_holdsAt m_made_o64 m_standsFor_o64 m_madeNext_o64 m_madeHolds_30 m_stateFor_o64 m_joined m_joinedNow m_firstIn m_orderOf m_classAt m_sets m_waysTo m_waysThen m_queue m_leastTo) H → va_D A (WM G m_h m_q m_onBy m_toldBy m_kindsOf m_nextOf m_holdsAt m_made_o64 m_standsFor_o64 m_madeNext_o64 m_madeHolds_30 m_stateFor_o64 m_joined m_joinedNow m_firstIn m_orderOf m_classAt m_sets m_waysTo m_waysThen m_queue m_leastTo) → va_S A s.heap H locs → lv_has ls 8 [(0, .ref m_h), (1, .int v1), (2, .int v2), (3, .int v3), (4, .int v4_30)] → W p l e rX10_alike s m args below meth c H locs 0 0 Q (F0 m 152 ls [.int j0_144x, .int v4_30, .ref (m_q 7)]) := by
                intro j0_144x H locs ls hq hP hD hS hl
                obtain rfl := oi1 hq
                obtain ⟨g_152, h⟩ := gi_e h
                refine va_zast hx hb hK.1 hP hD hS 8 1 rfl rfl g_152 dX10_alike_152 (fun H locs hP hD hS => ?_)
                have hP : va_P G.1 vwCl (WM G m_h m_q m_onBy m_toldBy m_kindsOf m_nextOf m_holdsAt m_made_o64 m_standsFor_o64 m_madeNext_o64 (upd m_madeHolds_30 v4_30.toNatClampNeg (j0_144 &&& (1 : Int32))) m_stateFor_o64 m_joined m_joinedNow m_firstIn m_orderOf m_classAt m_sets m_waysTo m_waysThen m_queue m_leastTo) H := hP
                have hD : va_D A (WM G m_h m_q m_onBy m_toldBy m_kindsOf m_nextOf m_holdsAt m_made_o64 m_standsFor_o64 m_madeNext_o64 (upd m_madeHolds_30 v4_30.toNatClampNeg (j0_144 &&& (1 : Int32))) m_stateFor_o64 m_joined m_joinedNow m_firstIn m_orderOf m_classAt m_sets m_waysTo m_waysThen m_queue m_leastTo) := hD
                refine lv_iinc (v := (v4_30 + (1 : Int32))) (lv' := [(4, .int (v4_30 + (1 : Int32))), (0, .ref m_h), (1, .int v1), (2, .int v2), (3, .int v3)]) hx hb dX10_alike_153 hl (k := 4) rfl rfl (by decide) rfl (fun ls hl => ?_)
                refine lv_goto (tgt := 30) hx hb dX10_alike_156 (by decide) ?_
                exact ih _ _ _ _ _ _  _ _ _ h hP hD hS (lv_sub hl [1, 2, 3, 4, 0] rfl)
              replace h := hT144
              refine lv_icmp_ne (tgt := 151) hx hb dX10_alike_144 (by decide) (fun c_144 => ?_) (fun c_144 => ?_)
              · replace h := (if_neg c_144).symm.trans h
                refine lv_iconst (v := 0) hx hb dX10_alike_151 (by decide) ?_
                exact hJ144 _  _ _ _ h hP hD hS (lv_sub hl [0, 1, 2, 3, 4] rfl)
              · replace h := (if_pos c_144).symm.trans h
                refine lv_iconst (v := 1) hx hb dX10_alike_147 (by decide) ?_
                refine lv_goto (tgt := 152) hx hb dX10_alike_148 (by decide) ?_
                exact hJ144 _  _ _ _ h hP hD hS (lv_sub hl [0, 1, 2, 3, 4] rfl)
            have hL64 : ∀ (f : Nat) (v7_64 : Int32) (m_made_64 : Int32) (m_standsFor_64 : AI) (m_madeNext_64 : AI) (m_stateFor_64 : AI)  (H : Heap) (locs : List Loc) (ls : Array Slot), p_X10_alike_L64 v2 m_standsFor_30 v4_30 v3 m_onBy f v7_64 m_made_64 m_standsFor_64 m_madeNext_64 m_stateFor_64 = some (m_made_o64, m_standsFor_o64, m_madeNext_o64, m_stateFor_o64) → va_P G.1 vwCl (WM G m_h m_q m_onBy m_toldBy m_kindsOf m_nextOf m_holdsAt m_made_64 m_standsFor_64 m_madeNext_64 m_madeHolds_30 m_stateFor_64 m_joined m_joinedNow m_firstIn m_orderOf m_classAt m_sets m_waysTo m_waysThen m_queue m_leastTo) H → va_D A (WM G m_h m_q m_onBy m_toldBy m_kindsOf m_nextOf m_holdsAt m_made_64 m_standsFor_64 m_madeNext_64 m_madeHolds_30 m_stateFor_64 m_joined m_joinedNow m_firstIn m_orderOf m_classAt m_sets m_waysTo m_waysThen m_queue m_leastTo) → va_S A s.heap H locs → lv_has ls 8 [(0, .ref m_h), (1, .int v1), (2, .int v2), (3, .int v3), (4, .int v4_30), (5, .int ((m_standsFor_30 v4_30.toNatClampNeg) / (5 : Int32))), (6, .int ((m_standsFor_30 v4_30.toNatClampNeg) - (m_standsFor_30 v4_30.toNatClampNeg) / (5 : Int32) * (5 : Int32))), (7, .int v7_64)] → W p l e rX10_alike s m args below meth c H locs 0 0 Q (F0 m 64 ls []) := by
              intro f
              induction f with
              | zero => intro v7_64 m_made_64 m_standsFor_64 m_madeNext_64 m_stateFor_64 H locs ls h hP hD hS hl; cases (show none = some _ from h)
              | succ f ih =>
                intro v7_64 m_made_64 m_standsFor_64 m_madeNext_64 m_stateFor_64 H locs ls h hP hD hS hl
                rw [p_X10_alike_L64] at h
                refine lv_iload hx hb dX10_alike_64 (lv_at hl 7 rfl) ?_
                refine lv_bipush (v := 8) hx hb dX10_alike_66 (by decide) ?_
                refine lv_icmp_ge (tgt := 124) hx hb dX10_alike_68 (by decide) (fun c_68 => ?_) (fun c_68 => ?_)
                · replace h := (if_pos c_68).symm.trans h
                  exact hX64 _ _ _ _  _ _ _ h hP hD hS (lv_sub hl [0, 1, 2, 3, 4, 5, 6] rfl)
                · replace h := (if_neg c_68).symm.trans h
                  refine lv_aload_n hx hb dX10_alike_71 rfl (lv_at hl 0 rfl) ?_
                  refine lv_iload hx hb dX10_alike_72 (lv_at hl 4 rfl) ?_
                  refine lv_iload hx hb dX10_alike_74 (lv_at hl 7 rfl) ?_
                  refine lv_aload_n hx hb dX10_alike_76 rfl (lv_at hl 0 rfl) ?_
                  refine lv_iconst (v := 5) hx hb dX10_alike_77 (by decide) ?_
                  refine lv_aload_n hx hb dX10_alike_78 rfl (lv_at hl 0 rfl) ?_
                  refine va_get (D := G.1) (ci := 10) (v := .ref (m_q 0)) (C := RX10) (T := TX10) (N := 20) hx hb hts hinX10 hown hK.1 hP 0 rfl rfl 0 (by decide) hf7 (fun _ h9 => h9) rfl dX10_alike_79 ?_
                  refine lv_iconst (v := 2) hx hb dX10_alike_82 (by decide) ?_
                  refine lv_iload hx hb dX10_alike_83 (lv_at hl 5 rfl) ?_
                  refine lv_imul hx hb dX10_alike_85 ?_
                  refine lv_iload hx hb dX10_alike_86 (lv_at hl 7 rfl) ?_
                  refine lv_iload_n hx hb dX10_alike_88 rfl (lv_at hl 2 rfl) ?_
                  obtain ⟨r_89, hc_89, h⟩ := ob1_e h
                  refine k_si (va_runS (As := [.int v7_64, .int v2]) (rest := [.int ((2 : Int32) * ((m_standsFor_30 v4_30.toNatClampNeg) / (5 : Int32))), .ref (m_q 0), .int (5 : Int32), .ref m_h, .int v7_64, .int v4_30, .ref m_h]) ⟨hx, hb, hml, hown, hts⟩ (c_X10_digit l G   v7_64 v2 r_89 hc_89) (va_cwS 2 hts gX10_alike_X10_digit rfl rfl rfl eX10_digit ⟨Nat.le_of_ble_eq_true rfl, Nat.le_of_ble_eq_true rfl⟩) (preSS hK (fun k q h => by cases h)) rfl rfl hl.1 rfl (lv_room (Nat.le_of_ble_eq_true rfl)) dX10_alike_89 ⟨Nat.le_of_ble_eq_true rfl, Nat.le_of_ble_eq_true rfl⟩) ?_
                  refine lv_iadd hx hb dX10_alike_92 ?_
                  obtain ⟨g_93, h⟩ := gi_e h
                  refine va_iald hx hb hK.1 hP 1 0 rfl rfl g_93 dX10_alike_93 ?_
                  refine lv_imul hx hb dX10_alike_94 ?_
                  refine lv_aload_n hx hb dX10_alike_95 rfl (lv_at hl 0 rfl) ?_
                  refine va_get (D := G.1) (ci := 10) (v := .ref (m_q 0)) (C := RX10) (T := TX10) (N := 20) hx hb hts hinX10 hown hK.1 hP 0 rfl rfl 0 (by decide) hf7 (fun _ h9 => h9) rfl dX10_alike_96 ?_
                  refine lv_iconst (v := 2) hx hb dX10_alike_99 (by decide) ?_
                  refine lv_iload hx hb dX10_alike_100 (lv_at hl 6 rfl) ?_
                  refine lv_imul hx hb dX10_alike_102 ?_
                  refine lv_iload hx hb dX10_alike_103 (lv_at hl 7 rfl) ?_
                  refine lv_iload_n hx hb dX10_alike_105 rfl (lv_at hl 3 rfl) ?_
                  obtain ⟨r_106, hc_106, h⟩ := ob1_e h
                  refine k_si (va_runS (As := [.int v7_64, .int v3]) (rest := [.int ((2 : Int32) * ((m_standsFor_30 v4_30.toNatClampNeg) - (m_standsFor_30 v4_30.toNatClampNeg) / (5 : Int32) * (5 : Int32))), .ref (m_q 0), .int ((5 : Int32) * (m_onBy (((2 : Int32) * ((m_standsFor_30 v4_30.toNatClampNeg) / (5 : Int32))) + r_89).toNatClampNeg)), .ref m_h, .int v7_64, .int v4_30, .ref m_h]) ⟨hx, hb, hml, hown, hts⟩ (c_X10_digit l G   v7_64 v3 r_106 hc_106) (va_cwS 2 hts gX10_alike_X10_digit rfl rfl rfl eX10_digit ⟨Nat.le_of_ble_eq_true rfl, Nat.le_of_ble_eq_true rfl⟩) (preSS hK (fun k q h => by cases h)) rfl rfl hl.1 rfl (lv_room (Nat.le_of_ble_eq_true rfl)) dX10_alike_106 ⟨Nat.le_of_ble_eq_true rfl, Nat.le_of_ble_eq_true rfl⟩) ?_
                  refine lv_iadd hx hb dX10_alike_109 ?_
                  obtain ⟨g_110, h⟩ := gi_e h
                  refine va_iald hx hb hK.1 hP 1 0 rfl rfl g_110 dX10_alike_110 ?_
                  refine lv_iadd hx hb dX10_alike_111 ?_
                  obtain ⟨r_112, m_made_112, m_standsFor_112, m_stateFor_112, hc_112, h⟩ := ob4_e h
                  refine k_ciA (va_runV (As := [.int (((5 : Int32) * (m_onBy (((2 : Int32) * ((m_standsFor_30 v4_30.toNatClampNeg) / (5 : Int32))) + r_89).toNatClampNeg)) + (m_onBy (((2 : Int32) * ((m_standsFor_30 v4_30.toNatClampNeg) - (m_standsFor_30 v4_30.toNatClampNeg) / (5 : Int32) * (5 : Int32))) + r_106).toNatClampNeg))]) (rest := [.int v7_64, .int v4_30, .ref m_h]) ⟨hx, hb, hml, hown, hts⟩ (c_X10_stateOf l G m_h m_q m_onBy m_toldBy m_kindsOf m_nextOf m_holdsAt m_made_64 m_standsFor_64 m_madeNext_64 m_madeHolds_30 m_stateFor_64 m_joined m_joinedNow m_firstIn m_orderOf m_classAt m_sets m_waysTo m_waysThen m_queue m_leastTo (((5 : Int32) * (m_onBy (((2 : Int32) * ((m_standsFor_30 v4_30.toNatClampNeg) / (5 : Int32))) + r_89).toNatClampNeg)) + (m_onBy (((2 : Int32) * ((m_standsFor_30 v4_30.toNatClampNeg) - (m_standsFor_30 v4_30.toNatClampNeg) / (5 : Int32) * (5 : Int32))) + r_106).toNatClampNeg)) _ r_112 m_made_112 m_standsFor_112 m_stateFor_112 hc_112) (cwV 1 hts gX10_alike_X10_stateOf rfl rfl rfl ⟨rfl, eX10_stateOf⟩ ⟨Nat.le_of_ble_eq_true rfl, Nat.le_of_ble_eq_true rfl⟩) (preWV (ci := 10) (q0 := 0) hK hP hD rfl rfl) rfl rfl hl.1 rfl (lv_room (Nat.le_of_ble_eq_true rfl)) dX10_alike_112 ⟨Nat.le_of_ble_eq_true rfl, Nat.le_of_ble_eq_true rfl⟩) hD hS hA (fun u_112 H locs hP hD hS => ?_)
                  have hP : va_P G.1 vwCl (WM G m_h m_q m_onBy m_toldBy m_kindsOf m_nextOf m_holdsAt m_made_112 m_standsFor_112 m_madeNext_64 m_madeHolds_30 m_stateFor_112 m_joined m_joinedNow m_firstIn m_orderOf m_classAt m_sets m_waysTo m_waysThen m_queue m_leastTo) H := hP
                  have hD : va_D A (WM G m_h m_q m_onBy m_toldBy m_kindsOf m_nextOf m_holdsAt m_made_112 m_standsFor_112 m_madeNext_64 m_madeHolds_30 m_stateFor_112 m_joined m_joinedNow m_firstIn m_orderOf m_classAt m_sets m_waysTo m_waysThen m_queue m_leastTo) := hD
                  obtain ⟨m_madeNext_115, hc_115, h⟩ := ob1_e h
                  refine k_cvA (va_runV (As := [.int v4_30, .int v7_64, .int r_112]) (rest := []) ⟨hx, hb, hml, hown, hts⟩ (c_X10_leads l G m_h m_q m_onBy m_toldBy m_kindsOf m_nextOf m_holdsAt m_made_112 m_standsFor_112 m_madeNext_64 m_madeHolds_30 m_stateFor_112 m_joined m_joinedNow m_firstIn m_orderOf m_classAt m_sets m_waysTo m_waysThen m_queue m_leastTo v4_30 v7_64 r_112 _ m_madeNext_115 hc_115) (cwV 3 hts gX10_alike_X10_leads rfl rfl rfl ⟨rfl, eX10_leads⟩ ⟨Nat.le_of_ble_eq_true rfl, Nat.le_of_ble_eq_true rfl⟩) (preWV (ci := 10) (q0 := 0) hK hP hD rfl rfl) rfl rfl hl.1 rfl (lv_room (Nat.le_of_ble_eq_true rfl)) dX10_alike_115 ⟨Nat.le_of_ble_eq_true rfl, Nat.le_of_ble_eq_true rfl⟩) hD hS hA (fun u_115 H locs hP hD hS => ?_)
                  have hP : va_P G.1 vwCl (WM G m_h m_q m_onBy m_toldBy m_kindsOf m_nextOf m_holdsAt m_made_112 m_standsFor_112 m_madeNext_115 m_madeHolds_30 m_stateFor_112 m_joined m_joinedNow m_firstIn m_orderOf m_classAt m_sets m_waysTo m_waysThen m_queue m_leastTo) H := hP
                  have hD : va_D A (WM G m_h m_q m_onBy m_toldBy m_kindsOf m_nextOf m_holdsAt m_made_112 m_standsFor_112 m_madeNext_115 m_madeHolds_30 m_stateFor_112 m_joined m_joinedNow m_firstIn m_orderOf m_classAt m_sets m_waysTo m_waysThen m_queue m_leastTo) := hD
                  refine lv_iinc (v := (v7_64 + (1 : Int32))) (lv' := [(7, .int (v7_64 + (1 : Int32))), (0, .ref m_h), (1, .int v1), (2, .int v2), (3, .int v3), (4, .int v4_30), (5, .int ((m_standsFor_30 v4_30.toNatClampNeg) / (5 : Int32))), (6, .int ((m_standsFor_30 v4_30.toNatClampNeg) - (m_standsFor_30 v4_30.toNatClampNeg) / (5 : Int32) * (5 : Int32)))]) hx hb dX10_alike_118 hl (k := 7) rfl rfl (by decide) rfl (fun ls hl => ?_)
                  refine lv_goto (tgt := 64) hx hb dX10_alike_121 (by decide) ?_
                  exact ih _ _ _ _ _  _ _ _ h hP hD hS (lv_sub hl [1, 2, 3, 4, 5, 6, 7, 0] rfl)
            exact hL64 n _ _ _ _ _  _ _ _ hT64 hP hD hS (lv_sub hl [3, 4, 5, 6, 7, 2, 1, 0] rfl)
      exact hL30 n _ _ _ _ _ _  _ _ _ hT30 hP hD hS (lv_sub hl [1, 2, 3, 4, 0] rfl)
    · replace h := (if_pos c_12).symm.trans h
      refine lv_iconst (v := -1) hx hb dX10_alike_15 (by decide) ?_
      obtain ⟨rfl, rfl, rfl, rfl, rfl, rfl, rfl, rfl, rfl, rfl, rfl, rfl, rfl, rfl⟩ := oi14 h
      exact hret (fun _ => 0) _ _ _ _ _ _ _ dX10_alike_16 rfl rfl hP hD hS (Nat.le_of_ble_eq_true rfl) (Nat.le_of_ble_eq_true rfl)
abbrev rX10_isThere : Room := { frames := 0, cells := 0, slots := 0, locals := 0 }
set_option maxHeartbeats 4000000 in
set_option maxRecDepth 100000 in
theorem c_X10_isThere (l : Launch) (G : GG) (m_h : Nat) (m_q : Nat → Nat) (m_onBy : AI) (m_toldBy : AI) (m_kindsOf : AI) (m_nextOf : AI) (m_holdsAt : AI) (m_made : Int32) (m_standsFor : AI) (m_madeNext : AI) (m_madeHolds : AI) (m_stateFor : AI) (m_joined : AI) (m_joinedNow : AI) (m_firstIn : AI) (m_orderOf : AI) (m_classAt : AI) (m_sets : AL) (m_waysTo : AL) (m_waysThen : AL) (m_queue : AI) (m_leastTo : AL) (v1 : Int32) (r : Int32) (h : p_X10_isThere m_kindsOf v1 = some r) : SI l yX10_isThere wsX10_isThere rX10_isThere G [.ref m_h, .int v1] (WM G m_h m_q m_onBy m_toldBy m_kindsOf m_nextOf m_holdsAt m_made m_standsFor m_madeNext m_madeHolds m_stateFor m_joined m_joinedNow m_firstIn m_orderOf m_classAt m_sets m_waysTo m_waysThen m_queue m_leastTo) r := by
  refine enterSI (cc := cX10_isThere) (maxL := 2) (by decide) rfl (Nat.le_of_ble_eq_true rfl) ?_
  intro p e s m args below meth c Q hx hb hml hown hts hK hP hret ls hl
  have hown : s.vm.findClass RX10 = some m.cls := hown
  have hf16 := hts (.fieldLink RX10 16 "DigitClaimsModel" "kindsOf" "[I") (by decide +kernel)
  have hinX10 : ∀ w ∈ wsX100, w ∈ wsX10_isThere := by decide +kernel
  have hl : lv_has ls 2 [(0, .ref m_h), (1, .int v1)] := hl
  unfold p_X10_isThere at h
  refine lv_aload_n hx hb dX10_isThere_0 rfl (lv_at hl 0 rfl) ?_
  refine va_get (D := G.1) (ci := 10) (v := .ref (m_q 2)) (C := RX10) (T := TX10) (N := 20) hx hb hts hinX10 hown hK.1 hP 0 rfl rfl 2 (by decide) hf16 (fun _ h9 => h9) rfl dX10_isThere_1 ?_
  refine lv_iload_n hx hb dX10_isThere_4 rfl (lv_at hl 1 rfl) ?_
  obtain ⟨g_5, h⟩ := gi_e h
  refine va_iald hx hb hK.1 hP 3 0 rfl rfl g_5 dX10_isThere_5 ?_
  refine lv_if_le (tgt := 13) hx hb dX10_isThere_6 (by decide) (fun c_6 => ?_) (fun c_6 => ?_)
  · replace h := (if_pos c_6).symm.trans h
    refine lv_iconst (v := 0) hx hb dX10_isThere_13 (by decide) ?_
    obtain ⟨gbv, h⟩ := gb_e h
    obtain rfl := oi1 h
    exact hret _ _ _ dX10_isThere_14 rfl (nb gbv)
  · replace h := (if_neg c_6).symm.trans h
    refine lv_iconst (v := 1) hx hb dX10_isThere_9 (by decide) ?_
    refine lv_goto (tgt := 14) hx hb dX10_isThere_10 (by decide) ?_
    obtain ⟨gbv, h⟩ := gb_e h
    obtain rfl := oi1 h
    exact hret _ _ _ dX10_isThere_14 rfl (nb gbv)
abbrev rX10_joinsTwo : Room := { frames := 4, cells := 0, slots := 0, locals := 96 }
set_option maxHeartbeats 4000000 in
set_option maxRecDepth 100000 in
theorem c_X10_joinsTwo (l : Launch) (G : GG) (n : Nat) (m_h : Nat) (m_q : Nat → Nat) (m_onBy : AI) (m_toldBy : AI) (m_kindsOf : AI) (m_nextOf : AI) (m_holdsAt : AI) (m_made : Int32) (m_standsFor : AI) (m_madeNext : AI) (m_madeHolds : AI) (m_stateFor : AI) (m_joined : AI) (m_joinedNow : AI) (m_firstIn : AI) (m_orderOf : AI) (m_classAt : AI) (m_sets : AL) (m_waysTo : AL) (m_waysThen : AL) (m_queue : AI) (m_leastTo : AL) (v1 : Int32) (v2 : Int32) (v3 : Int32) (v4 : Int32) (sz : Nat) (r : Int32) (m_kindsOf_z : AI) (m_nextOf_z : AI) (m_holdsAt_z : AI) (m_made_z : Int32) (m_standsFor_z : AI) (m_madeNext_z : AI) (m_madeHolds_z : AI) (m_stateFor_z : AI) (m_joined_z : AI) (m_joinedNow_z : AI) (m_firstIn_z : AI) (m_orderOf_z : AI) (m_classAt_z : AI) (h : p_X10_joinsTwo n m_kindsOf m_nextOf m_holdsAt m_standsFor m_madeNext m_madeHolds m_stateFor m_joined m_joinedNow m_firstIn m_orderOf m_classAt v1 v2 v3 v4 = some (r, m_kindsOf_z, m_nextOf_z, m_holdsAt_z, m_made_z, m_standsFor_z, m_madeNext_z, m_madeHolds_z, m_stateFor_z, m_joined_z, m_joinedNow_z, m_firstIn_z, m_orderOf_z, m_classAt_z)) : CI l yX10_joinsTwo wsX10_joinsTwo rX10_joinsTwo G [.ref m_h, .int v1, .int v2, .int v3, .int v4] (WM G m_h m_q m_onBy m_toldBy m_kindsOf m_nextOf m_holdsAt m_made m_standsFor m_madeNext m_madeHolds m_stateFor m_joined m_joinedNow m_firstIn m_orderOf m_classAt m_sets m_waysTo m_waysThen m_queue m_leastTo) sz r (fun u => WM G m_h m_q m_onBy m_toldBy m_kindsOf_z m_nextOf_z m_holdsAt_z m_made_z m_standsFor_z m_madeNext_z m_madeHolds_z m_stateFor_z m_joined_z m_joinedNow_z m_firstIn_z m_orderOf_z m_classAt_z m_sets m_waysTo m_waysThen m_queue m_leastTo) := by
  refine enterCI (cc := cX10_joinsTwo) (maxL := 10) (by decide) rfl (Nat.le_of_ble_eq_true rfl) ?_
  intro p e s m args below meth c A Q hx hb hml hown hts hK hP hD hS hA hret ls hl
  have hown : s.vm.findClass RX10 = some m.cls := hown
  have hf26 := hts (.fieldLink RX10 26 "DigitClaimsModel" "standsFor" "[I") (by decide +kernel)
  have hf32 := hts (.fieldLink RX10 32 "DigitClaimsModel" "madeHolds" "[Z") (by decide +kernel)
  have hf81 := hts (.fieldLink RX10 81 "DigitClaimsModel" "made" "I") (by decide +kernel)
  have hinX10 : ∀ w ∈ wsX100, w ∈ wsX10_joinsTwo := by decide +kernel
  have hl : lv_has ls 10 [(0, .ref m_h), (1, .int v1), (2, .int v2), (3, .int v3), (4, .int v4)] := hl
  unfold p_X10_joinsTwo at h
  refine lv_aload_n hx hb dX10_joinsTwo_0 rfl (lv_at hl 0 rfl) ?_
  obtain ⟨m_made_1, m_stateFor_1, hc_1, h⟩ := ob2_e h
  refine k_cvA (va_runV (As := []) (rest := []) ⟨hx, hb, hml, hown, hts⟩ (c_X10_begins l G n m_h m_q m_onBy m_toldBy m_kindsOf m_nextOf m_holdsAt m_made m_standsFor m_madeNext m_madeHolds m_stateFor m_joined m_joinedNow m_firstIn m_orderOf m_classAt m_sets m_waysTo m_waysThen m_queue m_leastTo  _ m_made_1 m_stateFor_1 hc_1) (cwV 0 hts gX10_joinsTwo_X10_begins rfl rfl rfl ⟨rfl, eX10_begins⟩ ⟨Nat.le_of_ble_eq_true rfl, Nat.le_of_ble_eq_true rfl⟩) (preWV (ci := 10) (q0 := 0) hK hP hD rfl rfl) rfl rfl hl.1 rfl (lv_room (Nat.le_of_ble_eq_true rfl)) dX10_joinsTwo_1 ⟨Nat.le_of_ble_eq_true rfl, Nat.le_of_ble_eq_true rfl⟩) hD hS hA (fun u_1 H locs hP hD hS => ?_)
  have hP : va_P G.1 vwCl (WM G m_h m_q m_onBy m_toldBy m_kindsOf m_nextOf m_holdsAt m_made_1 m_standsFor m_madeNext m_madeHolds m_stateFor_1 m_joined m_joinedNow m_firstIn m_orderOf m_classAt m_sets m_waysTo m_waysThen m_queue m_leastTo) H := hP
  have hD : va_D A (WM G m_h m_q m_onBy m_toldBy m_kindsOf m_nextOf m_holdsAt m_made_1 m_standsFor m_madeNext m_madeHolds m_stateFor_1 m_joined m_joinedNow m_firstIn m_orderOf m_classAt m_sets m_waysTo m_waysThen m_queue m_leastTo) := hD
  refine lv_aload_n hx hb dX10_joinsTwo_4 rfl (lv_at hl 0 rfl) ?_
  refine lv_iconst (v := 0) hx hb dX10_joinsTwo_5 (by decide) ?_
  obtain ⟨r_6, m_made_6, m_standsFor_6, m_stateFor_6, hc_6, h⟩ := ob4_e h
  refine k_ciA (va_runV (As := [.int (0 : Int32)]) (rest := []) ⟨hx, hb, hml, hown, hts⟩ (c_X10_stateOf l G m_h m_q m_onBy m_toldBy m_kindsOf m_nextOf m_holdsAt m_made_1 m_standsFor m_madeNext m_madeHolds m_stateFor_1 m_joined m_joinedNow m_firstIn m_orderOf m_classAt m_sets m_waysTo m_waysThen m_queue m_leastTo (0 : Int32) _ r_6 m_made_6 m_standsFor_6 m_stateFor_6 hc_6) (cwV 1 hts gX10_joinsTwo_X10_stateOf rfl rfl rfl ⟨rfl, eX10_stateOf⟩ ⟨Nat.le_of_ble_eq_true rfl, Nat.le_of_ble_eq_true rfl⟩) (preWV (ci := 10) (q0 := 0) hK hP hD rfl rfl) rfl rfl hl.1 rfl (lv_room (Nat.le_of_ble_eq_true rfl)) dX10_joinsTwo_6 ⟨Nat.le_of_ble_eq_true rfl, Nat.le_of_ble_eq_true rfl⟩) hD hS hA (fun u_6 H locs hP hD hS => ?_)
  have hP : va_P G.1 vwCl (WM G m_h m_q m_onBy m_toldBy m_kindsOf m_nextOf m_holdsAt m_made_6 m_standsFor_6 m_madeNext m_madeHolds m_stateFor_6 m_joined m_joinedNow m_firstIn m_orderOf m_classAt m_sets m_waysTo m_waysThen m_queue m_leastTo) H := hP
  have hD : va_D A (WM G m_h m_q m_onBy m_toldBy m_kindsOf m_nextOf m_holdsAt m_made_6 m_standsFor_6 m_madeNext m_madeHolds m_stateFor_6 m_joined m_joinedNow m_firstIn m_orderOf m_classAt m_sets m_waysTo m_waysThen m_queue m_leastTo) := hD
  refine lv_pop hx hb dX10_joinsTwo_9 rfl ?_
  refine lv_iconst (v := 0) hx hb dX10_joinsTwo_10 (by decide) ?_
  refine lv_istore (lv' := [(5, .int (0 : Int32)), (0, .ref m_h), (1, .int v1), (2, .int v2), (3, .int v3), (4, .int v4)]) hx hb dX10_joinsTwo_11 hl (by decide) rfl (fun ls hl => ?_)
  obtain ⟨m_made_o13, m_standsFor_o13, m_madeNext_o13, m_madeHolds_o13, m_stateFor_o13, hT13, h⟩ := ob5_e h
  have hX13 : ∀ (m_made_o13x : Int32) (m_standsFor_o13x : AI) (m_madeNext_o13x : AI) (m_madeHolds_o13x : AI) (m_stateFor_o13x : AI)  (H : Heap) (locs : List Loc) (ls : Array Slot), some (m_made_o13x, m_standsFor_o13x, m_madeNext_o13x, m_madeHolds_o13x, m_stateFor_o13x) = some (m_made_o13, m_standsFor_o13, m_madeNext_o13, m_madeHolds_o13, m_stateFor_o13) → va_P G.1 vwCl (WM G m_h m_q m_onBy m_toldBy m_kindsOf m_nextOf m_holdsAt m_made_o13x m_standsFor_o13x m_madeNext_o13x m_madeHolds_o13x m_stateFor_o13x m_joined m_joinedNow m_firstIn m_orderOf m_classAt m_sets m_waysTo m_waysThen m_queue m_leastTo) H → va_D A (WM G m_h m_q m_onBy m_toldBy m_kindsOf m_nextOf m_holdsAt m_made_o13x m_standsFor_o13x m_madeNext_o13x m_madeHolds_o13x m_stateFor_o13x m_joined m_joinedNow m_firstIn m_orderOf m_classAt m_sets m_waysTo m_waysThen m_queue m_leastTo) → va_S A s.heap H locs → lv_has ls 10 [(0, .ref m_h), (1, .int v1)] → W p l e rX10_joinsTwo s m args below meth c H locs 0 0 Q (F0 m 165 ls []) := by
    intro m_made_o13x m_standsFor_o13x m_madeNext_o13x m_madeHolds_o13x m_stateFor_o13x H locs ls hq hP hD hS hl
    obtain ⟨rfl, rfl, rfl, rfl, rfl⟩ := oi5 hq
    refine lv_aload_n hx hb dX10_joinsTwo_165 rfl (lv_at hl 0 rfl) ?_
    refine lv_iload_n hx hb dX10_joinsTwo_166 rfl (lv_at hl 1 rfl) ?_
    obtain ⟨r_167, m_kindsOf_167, m_nextOf_167, m_holdsAt_167, m_joined_167, m_joinedNow_167, m_firstIn_167, m_orderOf_167, m_classAt_167, hc_167, h⟩ := ob9_e h
    refine k_ciA (va_runV (As := [.int v1]) (rest := []) ⟨hx, hb, hml, hown, hts⟩ (c_X10_comes l G n m_h m_q m_onBy m_toldBy m_kindsOf m_nextOf m_holdsAt m_made_o13 m_standsFor_o13 m_madeNext_o13 m_madeHolds_o13 m_stateFor_o13 m_joined m_joinedNow m_firstIn m_orderOf m_classAt m_sets m_waysTo m_waysThen m_queue m_leastTo v1 _ r_167 m_kindsOf_167 m_nextOf_167 m_holdsAt_167 m_joined_167 m_joinedNow_167 m_firstIn_167 m_orderOf_167 m_classAt_167 hc_167) (cwV 1 hts gX10_joinsTwo_X10_comes rfl rfl rfl ⟨rfl, eX10_comes⟩ ⟨Nat.le_of_ble_eq_true rfl, Nat.le_of_ble_eq_true rfl⟩) (preWV (ci := 10) (q0 := 0) hK hP hD rfl rfl) rfl rfl hl.1 rfl (lv_room (Nat.le_of_ble_eq_true rfl)) dX10_joinsTwo_167 ⟨Nat.le_of_ble_eq_true rfl, Nat.le_of_ble_eq_true rfl⟩) hD hS hA (fun u_167 H locs hP hD hS => ?_)
    have hP : va_P G.1 vwCl (WM G m_h m_q m_onBy m_toldBy m_kindsOf_167 m_nextOf_167 m_holdsAt_167 m_made_o13 m_standsFor_o13 m_madeNext_o13 m_madeHolds_o13 m_stateFor_o13 m_joined_167 m_joinedNow_167 m_firstIn_167 m_orderOf_167 m_classAt_167 m_sets m_waysTo m_waysThen m_queue m_leastTo) H := hP
    have hD : va_D A (WM G m_h m_q m_onBy m_toldBy m_kindsOf_167 m_nextOf_167 m_holdsAt_167 m_made_o13 m_standsFor_o13 m_madeNext_o13 m_madeHolds_o13 m_stateFor_o13 m_joined_167 m_joinedNow_167 m_firstIn_167 m_orderOf_167 m_classAt_167 m_sets m_waysTo m_waysThen m_queue m_leastTo) := hD
    obtain ⟨rfl, rfl, rfl, rfl, rfl, rfl, rfl, rfl, rfl, rfl, rfl, rfl, rfl, rfl⟩ := oi14 h
    exact hret (fun _ => 0) _ _ _ _ _ _ _ dX10_joinsTwo_170 rfl rfl hP hD hS (Nat.le_of_ble_eq_true rfl) (Nat.le_of_ble_eq_true rfl)
  have hL13 : ∀ (f : Nat) (v5_13 : Int32) (m_made_13 : Int32) (m_standsFor_13 : AI) (m_madeNext_13 : AI) (m_madeHolds_13 : AI) (m_stateFor_13 : AI)  (H : Heap) (locs : List Loc) (ls : Array Slot), p_X10_joinsTwo_L13 n m_nextOf v2 v3 m_holdsAt v4 f v5_13 m_made_13 m_standsFor_13 m_madeNext_13 m_madeHolds_13 m_stateFor_13 = some (m_made_o13, m_standsFor_o13, m_madeNext_o13, m_madeHolds_o13, m_stateFor_o13) → va_P G.1 vwCl (WM G m_h m_q m_onBy m_toldBy m_kindsOf m_nextOf m_holdsAt m_made_13 m_standsFor_13 m_madeNext_13 m_madeHolds_13 m_stateFor_13 m_joined m_joinedNow m_firstIn m_orderOf m_classAt m_sets m_waysTo m_waysThen m_queue m_leastTo) H → va_D A (WM G m_h m_q m_onBy m_toldBy m_kindsOf m_nextOf m_holdsAt m_made_13 m_standsFor_13 m_madeNext_13 m_madeHolds_13 m_stateFor_13 m_joined m_joinedNow m_firstIn m_orderOf m_classAt m_sets m_waysTo m_waysThen m_queue m_leastTo) → va_S A s.heap H locs → lv_has ls 10 [(0, .ref m_h), (1, .int v1), (2, .int v2), (3, .int v3), (4, .int v4), (5, .int v5_13)] → W p l e rX10_joinsTwo s m args below meth c H locs 0 0 Q (F0 m 13 ls []) := by
    intro f
    induction f with
    | zero => intro v5_13 m_made_13 m_standsFor_13 m_madeNext_13 m_madeHolds_13 m_stateFor_13 H locs ls h hP hD hS hl; cases (show none = some _ from h)
    | succ f ih =>
      intro v5_13 m_made_13 m_standsFor_13 m_madeNext_13 m_madeHolds_13 m_stateFor_13 H locs ls h hP hD hS hl
      rw [p_X10_joinsTwo_L13] at h
      refine lv_iload hx hb dX10_joinsTwo_13 (lv_at hl 5 rfl) ?_
      refine lv_aload_n hx hb dX10_joinsTwo_15 rfl (lv_at hl 0 rfl) ?_
      refine va_get (D := G.1) (ci := 10) (v := .int m_made_13) (C := RX10) (T := TX10) (N := 20) hx hb hts hinX10 hown hK.1 hP 0 rfl rfl 5 (by decide) hf81 (fun _ h9 => h9) rfl dX10_joinsTwo_16 ?_
      refine lv_icmp_ge (tgt := 165) hx hb dX10_joinsTwo_19 (by decide) (fun c_19 => ?_) (fun c_19 => ?_)
      · replace h := (if_pos c_19).symm.trans h
        exact hX13 _ _ _ _ _  _ _ _ h hP hD hS (lv_sub hl [0, 1] rfl)
      · replace h := (if_neg c_19).symm.trans h
        refine lv_aload_n hx hb dX10_joinsTwo_22 rfl (lv_at hl 0 rfl) ?_
        refine va_get (D := G.1) (ci := 10) (v := .ref (m_q 5)) (C := RX10) (T := TX10) (N := 20) hx hb hts hinX10 hown hK.1 hP 0 rfl rfl 6 (by decide) hf26 (fun _ h9 => h9) rfl dX10_joinsTwo_23 ?_
        refine lv_iload hx hb dX10_joinsTwo_26 (lv_at hl 5 rfl) ?_
        obtain ⟨g_28, h⟩ := gi_e h
        refine va_iald hx hb hK.1 hP 6 0 rfl rfl g_28 dX10_joinsTwo_28 ?_
        refine lv_bipush (v := 60) hx hb dX10_joinsTwo_29 (by decide) ?_
        refine lv_idiv hx hb dX10_joinsTwo_31 (by decide) ?_
        refine lv_istore (lv' := [(6, .int ((m_standsFor_13 v5_13.toNatClampNeg) / (60 : Int32))), (0, .ref m_h), (1, .int v1), (2, .int v2), (3, .int v3), (4, .int v4), (5, .int v5_13)]) hx hb dX10_joinsTwo_32 hl (by decide) rfl (fun ls hl => ?_)
        refine lv_aload_n hx hb dX10_joinsTwo_34 rfl (lv_at hl 1 rfl) ?_
        refine va_get (D := G.1) (ci := 10) (v := .ref (m_q 5)) (C := RX10) (T := TX10) (N := 20) hx hb hts hinX10 hown hK.1 hP 0 rfl rfl 6 (by decide) hf26 (fun _ h9 => h9) rfl dX10_joinsTwo_35 ?_
        refine lv_iload hx hb dX10_joinsTwo_38 (lv_at hl 6 rfl) ?_
        obtain ⟨g_40, h⟩ := gi_e h
        refine va_iald hx hb hK.1 hP 6 0 rfl rfl g_40 dX10_joinsTwo_40 ?_
        refine lv_bipush (v := 60) hx hb dX10_joinsTwo_41 (by decide) ?_
        refine lv_irem hx hb dX10_joinsTwo_43 (by decide) ?_
        refine lv_istore (lv' := [(7, .int ((m_standsFor_13 v5_13.toNatClampNeg) - (m_standsFor_13 v5_13.toNatClampNeg) / (60 : Int32) * (60 : Int32))), (6, .int ((m_standsFor_13 v5_13.toNatClampNeg) / (60 : Int32))), (0, .ref m_h), (1, .int v1), (2, .int v2), (3, .int v3), (4, .int v4), (5, .int v5_13)]) hx hb dX10_joinsTwo_44 hl (by decide) rfl (fun ls hl => ?_)
        refine lv_iconst (v := 0) hx hb dX10_joinsTwo_46 (by decide) ?_
        refine lv_istore (lv' := [(8, .int (0 : Int32)), (7, .int ((m_standsFor_13 v5_13.toNatClampNeg) - (m_standsFor_13 v5_13.toNatClampNeg) / (60 : Int32) * (60 : Int32))), (6, .int ((m_standsFor_13 v5_13.toNatClampNeg) / (60 : Int32))), (0, .ref m_h), (1, .int v1), (2, .int v2), (3, .int v3), (4, .int v4), (5, .int v5_13)]) hx hb dX10_joinsTwo_47 hl (by decide) rfl (fun ls hl => ?_)
        obtain ⟨m_made_o49, m_standsFor_o49, m_madeNext_o49, m_stateFor_o49, hT49, h⟩ := ob4_e h
        have hX49 : ∀ (m_made_o49x : Int32) (m_standsFor_o49x : AI) (m_madeNext_o49x : AI) (m_stateFor_o49x : AI)  (H : Heap) (locs : List Loc) (ls : Array Slot), some (m_made_o49x, m_standsFor_o49x, m_madeNext_o49x, m_stateFor_o49x) = some (m_made_o49, m_standsFor_o49, m_madeNext_o49, m_stateFor_o49) → va_P G.1 vwCl (WM G m_h m_q m_onBy m_toldBy m_kindsOf m_nextOf m_holdsAt m_made_o49x m_standsFor_o49x m_madeNext_o49x m_madeHolds_13 m_stateFor_o49x m_joined m_joinedNow m_firstIn m_orderOf m_classAt m_sets m_waysTo m_waysThen m_queue m_leastTo) H → va_D A (WM G m_h m_q m_onBy m_toldBy m_kindsOf m_nextOf m_holdsAt m_made_o49x m_standsFor_o49x m_madeNext_o49x m_madeHolds_13 m_stateFor_o49x m_joined m_joinedNow m_firstIn m_orderOf m_classAt m_sets m_waysTo m_waysThen m_queue m_leastTo) → va_S A s.heap H locs → lv_has ls 10 [(0, .ref m_h), (1, .int v1), (2, .int v2), (3, .int v3), (4, .int v4), (5, .int v5_13), (6, .int ((m_standsFor_13 v5_13.toNatClampNeg) / (60 : Int32))), (7, .int ((m_standsFor_13 v5_13.toNatClampNeg) - (m_standsFor_13 v5_13.toNatClampNeg) / (60 : Int32) * (60 : Int32)))] → W p l e rX10_joinsTwo s m args below meth c H locs 0 0 Q (F0 m 96 ls []) := by
          intro m_made_o49x m_standsFor_o49x m_madeNext_o49x m_stateFor_o49x H locs ls hq hP hD hS hl
          obtain ⟨rfl, rfl, rfl, rfl⟩ := oi4 hq
          refine lv_aload_n hx hb dX10_joinsTwo_96 rfl (lv_at hl 0 rfl) ?_
          refine lv_iload_n hx hb dX10_joinsTwo_97 rfl (lv_at hl 2 rfl) ?_
          refine lv_iload hx hb dX10_joinsTwo_98 (lv_at hl 6 rfl) ?_
          obtain ⟨r_100, hc_100, h⟩ := ob1_e h
          refine k_si (va_runV (As := [.int v2, .int ((m_standsFor_13 v5_13.toNatClampNeg) / (60 : Int32))]) (rest := []) ⟨hx, hb, hml, hown, hts⟩ (c_X10_holdsIn l G m_h m_q m_onBy m_toldBy m_kindsOf m_nextOf m_holdsAt m_made_o49 m_standsFor_o49 m_madeNext_o49 m_madeHolds_13 m_stateFor_o49 m_joined m_joinedNow m_firstIn m_orderOf m_classAt m_sets m_waysTo m_waysThen m_queue m_leastTo v2 ((m_standsFor_13 v5_13.toNatClampNeg) / (60 : Int32)) r_100 hc_100) (cwV 2 hts gX10_joinsTwo_X10_holdsIn rfl rfl rfl ⟨rfl, eX10_holdsIn⟩ ⟨Nat.le_of_ble_eq_true rfl, Nat.le_of_ble_eq_true rfl⟩) (preSV (ci := 10) (q0 := 0) hK hP rfl rfl) rfl rfl hl.1 rfl (lv_room (Nat.le_of_ble_eq_true rfl)) dX10_joinsTwo_100 ⟨Nat.le_of_ble_eq_true rfl, Nat.le_of_ble_eq_true rfl⟩) ?_
          refine lv_istore (lv' := [(8, .int r_100), (0, .ref m_h), (1, .int v1), (2, .int v2), (3, .int v3), (4, .int v4), (5, .int v5_13), (6, .int ((m_standsFor_13 v5_13.toNatClampNeg) / (60 : Int32))), (7, .int ((m_standsFor_13 v5_13.toNatClampNeg) - (m_standsFor_13 v5_13.toNatClampNeg) / (60 : Int32) * (60 : Int32)))]) hx hb dX10_joinsTwo_103 hl (by decide) rfl (fun ls hl => ?_)
          refine lv_aload_n hx hb dX10_joinsTwo_105 rfl (lv_at hl 1 rfl) ?_
          refine lv_iload_n hx hb dX10_joinsTwo_106 rfl (lv_at hl 4 rfl) ?_
          refine lv_iload hx hb dX10_joinsTwo_107 (lv_at hl 8 rfl) ?_
          obtain ⟨r_109, hc_109, h⟩ := ob1_e h
          refine k_si (va_runV (As := [.int v3, .int ((m_standsFor_13 v5_13.toNatClampNeg) - (m_standsFor_13 v5_13.toNatClampNeg) / (60 : Int32) * (60 : Int32))]) (rest := []) ⟨hx, hb, hml, hown, hts⟩ (c_X10_holdsIn l G m_h m_q m_onBy m_toldBy m_kindsOf m_nextOf m_holdsAt m_made_o49 m_standsFor_o49 m_madeNext_o49 m_madeHolds_13 m_stateFor_o49 m_joined m_joinedNow m_firstIn m_orderOf m_classAt m_sets m_waysTo m_waysThen m_queue m_leastTo v3 ((m_standsFor_13 v5_13.toNatClampNeg) - (m_standsFor_13 v5_13.toNatClampNeg) / (60 : Int32) * (60 : Int32)) r_109 hc_109) (cwV 2 hts gX10_joinsTwo_X10_holdsIn rfl rfl rfl ⟨rfl, eX10_holdsIn⟩ ⟨Nat.le_of_ble_eq_true rfl, Nat.le_of_ble_eq_true rfl⟩) (preSV (ci := 10) (q0 := 0) hK hP rfl rfl) rfl rfl hl.1 rfl (lv_room (Nat.le_of_ble_eq_true rfl)) dX10_joinsTwo_109 ⟨Nat.le_of_ble_eq_true rfl, Nat.le_of_ble_eq_true rfl⟩) ?_
          refine lv_istore (lv' := [(9, .int r_109), (8, .int r_100), (0, .ref m_h), (1, .int v1), (2, .int v2), (3, .int v3), (4, .int v4), (5, .int v5_13), (6, .int ((m_standsFor_13 v5_13.toNatClampNeg) / (60 : Int32))), (7, .int ((m_standsFor_13 v5_13.toNatClampNeg) - (m_standsFor_13 v5_13.toNatClampNeg) / (60 : Int32) * (60 : Int32)))]) hx hb dX10_joinsTwo_112 hl (by decide) rfl (fun ls hl => ?_)
          refine lv_aload_n hx hb dX10_joinsTwo_114 rfl (lv_at hl 2 rfl) ?_
          refine va_get (D := G.1) (ci := 10) (v := .ref (m_q 7)) (C := RX10) (T := TX10) (N := 20) hx hb hts hinX10 hown hK.1 hP 0 rfl rfl 8 (by decide) hf32 (fun _ h9 => h9) rfl dX10_joinsTwo_115 ?_
          refine lv_iload hx hb dX10_joinsTwo_118 (lv_at hl 7 rfl) ?_
          refine lv_iload hx hb dX10_joinsTwo_120 (lv_at hl 6 rfl) ?_
          obtain ⟨j0_122, hT122, h⟩ := ob1_e h
          have hJ122 : ∀ (j0_122x : Int32)  (H : Heap) (locs : List Loc) (ls : Array Slot), some j0_122x = some j0_122 → va_P G.1 vwCl (WM G m_h m_q m_onBy m_toldBy m_kindsOf m_nextOf m_holdsAt m_made_o49 m_standsFor_o49 m_madeNext_o49 m_madeHolds_13 m_stateFor_o49 m_joined m_joinedNow m_firstIn m_orderOf m_classAt m_sets m_waysTo m_waysThen m_queue m_leastTo) H → va_D A (WM G m_h m_q m_onBy m_toldBy m_kindsOf m_nextOf m_holdsAt m_made_o49 m_standsFor_o49 m_madeNext_o49 m_madeHolds_13 m_stateFor_o49 m_joined m_joinedNow m_firstIn m_orderOf m_classAt m_sets m_waysTo m_waysThen m_queue m_leastTo) → va_S A s.heap H locs → lv_has ls 10 [(0, .ref m_h), (1, .int v1), (2, .int v2), (3, .int v3), (4, .int v4), (5, .int v5_13)] → W p l e rX10_joinsTwo s m args below meth c H locs 0 0 Q (F0 m 158 ls [.int j0_122x, .int v5_13, .ref (m_q 7)]) := by
            intro j0_122x H locs ls hq hP hD hS hl
            obtain rfl := oi1 hq
            obtain ⟨g_158, h⟩ := gi_e h
            refine va_zast hx hb hK.1 hP hD hS 8 1 rfl rfl g_158 dX10_joinsTwo_158 (fun H locs hP hD hS => ?_)
            have hP : va_P G.1 vwCl (WM G m_h m_q m_onBy m_toldBy m_kindsOf m_nextOf m_holdsAt m_made_o49 m_standsFor_o49 m_madeNext_o49 (upd m_madeHolds_13 v5_13.toNatClampNeg (j0_122 &&& (1 : Int32))) m_stateFor_o49 m_joined m_joinedNow m_firstIn m_orderOf m_classAt m_sets m_waysTo m_waysThen m_queue m_leastTo) H := hP
            have hD : va_D A (WM G m_h m_q m_onBy m_toldBy m_kindsOf m_nextOf m_holdsAt m_made_o49 m_standsFor_o49 m_madeNext_o49 (upd m_madeHolds_13 v5_13.toNatClampNeg (j0_122 &&& (1 : Int32))) m_stateFor_o49 m_joined m_joinedNow m_firstIn m_orderOf m_classAt m_sets m_waysTo m_waysThen m_queue m_leastTo) := hD
            refine lv_iinc (v := (v5_13 + (1 : Int32))) (lv' := [(5, .int (v5_13 + (1 : Int32))), (0, .ref m_h), (1, .int v1), (2, .int v2), (3, .int v3), (4, .int v4)]) hx hb dX10_joinsTwo_159 hl (k := 5) rfl rfl (by decide) rfl (fun ls hl => ?_)
            refine lv_goto (tgt := 13) hx hb dX10_joinsTwo_162 (by decide) ?_
            exact ih _ _ _ _ _ _  _ _ _ h hP hD hS (lv_sub hl [1, 2, 3, 4, 5, 0] rfl)
          replace h := hT122
          refine lv_if_eq (tgt := 143) hx hb dX10_joinsTwo_122 (by decide) (fun c_122 => ?_) (fun c_122 => ?_)
          · replace h := (if_pos c_122).symm.trans h
            refine lv_iload hx hb dX10_joinsTwo_143 (lv_at hl 1 rfl) ?_
            refine lv_if_ne (tgt := 153) hx hb dX10_joinsTwo_145 (by decide) (fun c_145 => ?_) (fun c_145 => ?_)
            · replace h := (if_neg c_145).symm.trans h
              refine lv_iconst (v := 1) hx hb dX10_joinsTwo_153 (by decide) ?_
              refine lv_goto (tgt := 158) hx hb dX10_joinsTwo_154 (by decide) ?_
              exact hJ122 _  _ _ _ h hP hD hS (lv_sub hl [2, 3, 4, 5, 6, 7] rfl)
            · replace h := (if_pos c_145).symm.trans h
              refine lv_iload hx hb dX10_joinsTwo_148 (lv_at hl 0 rfl) ?_
              refine lv_if_eq (tgt := 157) hx hb dX10_joinsTwo_150 (by decide) (fun c_150 => ?_) (fun c_150 => ?_)
              · replace h := (if_pos c_150).symm.trans h
                refine lv_iconst (v := 0) hx hb dX10_joinsTwo_157 (by decide) ?_
                exact hJ122 _  _ _ _ h hP hD hS (lv_sub hl [2, 3, 4, 5, 6, 7] rfl)
              · replace h := (if_neg c_150).symm.trans h
                refine lv_iconst (v := 1) hx hb dX10_joinsTwo_153 (by decide) ?_
                refine lv_goto (tgt := 158) hx hb dX10_joinsTwo_154 (by decide) ?_
                exact hJ122 _  _ _ _ h hP hD hS (lv_sub hl [2, 3, 4, 5, 6, 7] rfl)
          · replace h := (if_neg c_122).symm.trans h
            refine lv_iload hx hb dX10_joinsTwo_125 (lv_at hl 1 rfl) ?_
            refine lv_if_eq (tgt := 139) hx hb dX10_joinsTwo_127 (by decide) (fun c_127 => ?_) (fun c_127 => ?_)
            · replace h := (if_pos c_127).symm.trans h
              refine lv_iconst (v := 0) hx hb dX10_joinsTwo_139 (by decide) ?_
              refine lv_goto (tgt := 158) hx hb dX10_joinsTwo_140 (by decide) ?_
              exact hJ122 _  _ _ _ h hP hD hS (lv_sub hl [2, 3, 4, 5, 6, 7] rfl)
            · replace h := (if_neg c_127).symm.trans h
              refine lv_iload hx hb dX10_joinsTwo_130 (lv_at hl 0 rfl) ?_
              refine lv_if_eq (tgt := 139) hx hb dX10_joinsTwo_132 (by decide) (fun c_132 => ?_) (fun c_132 => ?_)
              · replace h := (if_pos c_132).symm.trans h
                refine lv_iconst (v := 0) hx hb dX10_joinsTwo_139 (by decide) ?_
                refine lv_goto (tgt := 158) hx hb dX10_joinsTwo_140 (by decide) ?_
                exact hJ122 _  _ _ _ h hP hD hS (lv_sub hl [2, 3, 4, 5, 6, 7] rfl)
              · replace h := (if_neg c_132).symm.trans h
                refine lv_iconst (v := 1) hx hb dX10_joinsTwo_135 (by decide) ?_
                refine lv_goto (tgt := 158) hx hb dX10_joinsTwo_136 (by decide) ?_
                exact hJ122 _  _ _ _ h hP hD hS (lv_sub hl [2, 3, 4, 5, 6, 7] rfl)
        have hL49 : ∀ (f : Nat) (v8_49 : Int32) (m_made_49 : Int32) (m_standsFor_49 : AI) (m_madeNext_49 : AI) (m_stateFor_49 : AI)  (H : Heap) (locs : List Loc) (ls : Array Slot), p_X10_joinsTwo_L49 m_nextOf v2 m_standsFor_13 v5_13 v3 f v8_49 m_made_49 m_standsFor_49 m_madeNext_49 m_stateFor_49 = some (m_made_o49, m_standsFor_o49, m_madeNext_o49, m_stateFor_o49) → va_P G.1 vwCl (WM G m_h m_q m_onBy m_toldBy m_kindsOf m_nextOf m_holdsAt m_made_49 m_standsFor_49 m_madeNext_49 m_madeHolds_13 m_stateFor_49 m_joined m_joinedNow m_firstIn m_orderOf m_classAt m_sets m_waysTo m_waysThen m_queue m_leastTo) H → va_D A (WM G m_h m_q m_onBy m_toldBy m_kindsOf m_nextOf m_holdsAt m_made_49 m_standsFor_49 m_madeNext_49 m_madeHolds_13 m_stateFor_49 m_joined m_joinedNow m_firstIn m_orderOf m_classAt m_sets m_waysTo m_waysThen m_queue m_leastTo) → va_S A s.heap H locs → lv_has ls 10 [(0, .ref m_h), (1, .int v1), (2, .int v2), (3, .int v3), (4, .int v4), (5, .int v5_13), (6, .int ((m_standsFor_13 v5_13.toNatClampNeg) / (60 : Int32))), (7, .int ((m_standsFor_13 v5_13.toNatClampNeg) - (m_standsFor_13 v5_13.toNatClampNeg) / (60 : Int32) * (60 : Int32))), (8, .int v8_49)] → W p l e rX10_joinsTwo s m args below meth c H locs 0 0 Q (F0 m 49 ls []) := by
          intro f
          induction f with
          | zero => intro v8_49 m_made_49 m_standsFor_49 m_madeNext_49 m_stateFor_49 H locs ls h hP hD hS hl; cases (show none = some _ from h)
          | succ f ih =>
            intro v8_49 m_made_49 m_standsFor_49 m_madeNext_49 m_stateFor_49 H locs ls h hP hD hS hl
            rw [p_X10_joinsTwo_L49] at h
            refine lv_iload hx hb dX10_joinsTwo_49 (lv_at hl 8 rfl) ?_
            refine lv_bipush (v := 8) hx hb dX10_joinsTwo_51 (by decide) ?_
            refine lv_icmp_ge (tgt := 96) hx hb dX10_joinsTwo_53 (by decide) (fun c_53 => ?_) (fun c_53 => ?_)
            · replace h := (if_pos c_53).symm.trans h
              exact hX49 _ _ _ _  _ _ _ h hP hD hS (lv_sub hl [0, 1, 2, 3, 4, 5, 6, 7] rfl)
            · replace h := (if_neg c_53).symm.trans h
              refine lv_aload_n hx hb dX10_joinsTwo_56 rfl (lv_at hl 0 rfl) ?_
              refine lv_iload hx hb dX10_joinsTwo_57 (lv_at hl 5 rfl) ?_
              refine lv_iload hx hb dX10_joinsTwo_59 (lv_at hl 8 rfl) ?_
              refine lv_aload_n hx hb dX10_joinsTwo_61 rfl (lv_at hl 0 rfl) ?_
              refine lv_bipush (v := 60) hx hb dX10_joinsTwo_62 (by decide) ?_
              refine lv_aload_n hx hb dX10_joinsTwo_64 rfl (lv_at hl 0 rfl) ?_
              refine lv_iload_n hx hb dX10_joinsTwo_65 rfl (lv_at hl 2 rfl) ?_
              refine lv_iload hx hb dX10_joinsTwo_66 (lv_at hl 6 rfl) ?_
              refine lv_iload hx hb dX10_joinsTwo_68 (lv_at hl 8 rfl) ?_
              obtain ⟨r_70, hc_70, h⟩ := ob1_e h
              refine k_si (va_runV (As := [.int v2, .int ((m_standsFor_13 v5_13.toNatClampNeg) / (60 : Int32)), .int v8_49]) (rest := [.int (60 : Int32), .ref m_h, .int v8_49, .int v5_13, .ref m_h]) ⟨hx, hb, hml, hown, hts⟩ (c_X10_next l G m_h m_q m_onBy m_toldBy m_kindsOf m_nextOf m_holdsAt m_made_49 m_standsFor_49 m_madeNext_49 m_madeHolds_13 m_stateFor_49 m_joined m_joinedNow m_firstIn m_orderOf m_classAt m_sets m_waysTo m_waysThen m_queue m_leastTo v2 ((m_standsFor_13 v5_13.toNatClampNeg) / (60 : Int32)) v8_49 r_70 hc_70) (cwV 3 hts gX10_joinsTwo_X10_next rfl rfl rfl ⟨rfl, eX10_next⟩ ⟨Nat.le_of_ble_eq_true rfl, Nat.le_of_ble_eq_true rfl⟩) (preSV (ci := 10) (q0 := 0) hK hP rfl rfl) rfl rfl hl.1 rfl (lv_room (Nat.le_of_ble_eq_true rfl)) dX10_joinsTwo_70 ⟨Nat.le_of_ble_eq_true rfl, Nat.le_of_ble_eq_true rfl⟩) ?_
              refine lv_imul hx hb dX10_joinsTwo_73 ?_
              refine lv_aload_n hx hb dX10_joinsTwo_74 rfl (lv_at hl 0 rfl) ?_
              refine lv_iload_n hx hb dX10_joinsTwo_75 rfl (lv_at hl 3 rfl) ?_
              refine lv_iload hx hb dX10_joinsTwo_76 (lv_at hl 7 rfl) ?_
              refine lv_iload hx hb dX10_joinsTwo_78 (lv_at hl 8 rfl) ?_
              obtain ⟨r_80, hc_80, h⟩ := ob1_e h
              refine k_si (va_runV (As := [.int v3, .int ((m_standsFor_13 v5_13.toNatClampNeg) - (m_standsFor_13 v5_13.toNatClampNeg) / (60 : Int32) * (60 : Int32)), .int v8_49]) (rest := [.int ((60 : Int32) * r_70), .ref m_h, .int v8_49, .int v5_13, .ref m_h]) ⟨hx, hb, hml, hown, hts⟩ (c_X10_next l G m_h m_q m_onBy m_toldBy m_kindsOf m_nextOf m_holdsAt m_made_49 m_standsFor_49 m_madeNext_49 m_madeHolds_13 m_stateFor_49 m_joined m_joinedNow m_firstIn m_orderOf m_classAt m_sets m_waysTo m_waysThen m_queue m_leastTo v3 ((m_standsFor_13 v5_13.toNatClampNeg) - (m_standsFor_13 v5_13.toNatClampNeg) / (60 : Int32) * (60 : Int32)) v8_49 r_80 hc_80) (cwV 3 hts gX10_joinsTwo_X10_next rfl rfl rfl ⟨rfl, eX10_next⟩ ⟨Nat.le_of_ble_eq_true rfl, Nat.le_of_ble_eq_true rfl⟩) (preSV (ci := 10) (q0 := 0) hK hP rfl rfl) rfl rfl hl.1 rfl (lv_room (Nat.le_of_ble_eq_true rfl)) dX10_joinsTwo_80 ⟨Nat.le_of_ble_eq_true rfl, Nat.le_of_ble_eq_true rfl⟩) ?_
              refine lv_iadd hx hb dX10_joinsTwo_83 ?_
              obtain ⟨r_84, m_made_84, m_standsFor_84, m_stateFor_84, hc_84, h⟩ := ob4_e h
              refine k_ciA (va_runV (As := [.int (((60 : Int32) * r_70) + r_80)]) (rest := [.int v8_49, .int v5_13, .ref m_h]) ⟨hx, hb, hml, hown, hts⟩ (c_X10_stateOf l G m_h m_q m_onBy m_toldBy m_kindsOf m_nextOf m_holdsAt m_made_49 m_standsFor_49 m_madeNext_49 m_madeHolds_13 m_stateFor_49 m_joined m_joinedNow m_firstIn m_orderOf m_classAt m_sets m_waysTo m_waysThen m_queue m_leastTo (((60 : Int32) * r_70) + r_80) _ r_84 m_made_84 m_standsFor_84 m_stateFor_84 hc_84) (cwV 1 hts gX10_joinsTwo_X10_stateOf rfl rfl rfl ⟨rfl, eX10_stateOf⟩ ⟨Nat.le_of_ble_eq_true rfl, Nat.le_of_ble_eq_true rfl⟩) (preWV (ci := 10) (q0 := 0) hK hP hD rfl rfl) rfl rfl hl.1 rfl (lv_room (Nat.le_of_ble_eq_true rfl)) dX10_joinsTwo_84 ⟨Nat.le_of_ble_eq_true rfl, Nat.le_of_ble_eq_true rfl⟩) hD hS hA (fun u_84 H locs hP hD hS => ?_)
              have hP : va_P G.1 vwCl (WM G m_h m_q m_onBy m_toldBy m_kindsOf m_nextOf m_holdsAt m_made_84 m_standsFor_84 m_madeNext_49 m_madeHolds_13 m_stateFor_84 m_joined m_joinedNow m_firstIn m_orderOf m_classAt m_sets m_waysTo m_waysThen m_queue m_leastTo) H := hP
              have hD : va_D A (WM G m_h m_q m_onBy m_toldBy m_kindsOf m_nextOf m_holdsAt m_made_84 m_standsFor_84 m_madeNext_49 m_madeHolds_13 m_stateFor_84 m_joined m_joinedNow m_firstIn m_orderOf m_classAt m_sets m_waysTo m_waysThen m_queue m_leastTo) := hD
              obtain ⟨m_madeNext_87, hc_87, h⟩ := ob1_e h
              refine k_cvA (va_runV (As := [.int v5_13, .int v8_49, .int r_84]) (rest := []) ⟨hx, hb, hml, hown, hts⟩ (c_X10_leads l G m_h m_q m_onBy m_toldBy m_kindsOf m_nextOf m_holdsAt m_made_84 m_standsFor_84 m_madeNext_49 m_madeHolds_13 m_stateFor_84 m_joined m_joinedNow m_firstIn m_orderOf m_classAt m_sets m_waysTo m_waysThen m_queue m_leastTo v5_13 v8_49 r_84 _ m_madeNext_87 hc_87) (cwV 3 hts gX10_joinsTwo_X10_leads rfl rfl rfl ⟨rfl, eX10_leads⟩ ⟨Nat.le_of_ble_eq_true rfl, Nat.le_of_ble_eq_true rfl⟩) (preWV (ci := 10) (q0 := 0) hK hP hD rfl rfl) rfl rfl hl.1 rfl (lv_room (Nat.le_of_ble_eq_true rfl)) dX10_joinsTwo_87 ⟨Nat.le_of_ble_eq_true rfl, Nat.le_of_ble_eq_true rfl⟩) hD hS hA (fun u_87 H locs hP hD hS => ?_)
              have hP : va_P G.1 vwCl (WM G m_h m_q m_onBy m_toldBy m_kindsOf m_nextOf m_holdsAt m_made_84 m_standsFor_84 m_madeNext_87 m_madeHolds_13 m_stateFor_84 m_joined m_joinedNow m_firstIn m_orderOf m_classAt m_sets m_waysTo m_waysThen m_queue m_leastTo) H := hP
              have hD : va_D A (WM G m_h m_q m_onBy m_toldBy m_kindsOf m_nextOf m_holdsAt m_made_84 m_standsFor_84 m_madeNext_87 m_madeHolds_13 m_stateFor_84 m_joined m_joinedNow m_firstIn m_orderOf m_classAt m_sets m_waysTo m_waysThen m_queue m_leastTo) := hD
              refine lv_iinc (v := (v8_49 + (1 : Int32))) (lv' := [(8, .int (v8_49 + (1 : Int32))), (0, .ref m_h), (1, .int v1), (2, .int v2), (3, .int v3), (4, .int v4), (5, .int v5_13), (6, .int ((m_standsFor_13 v5_13.toNatClampNeg) / (60 : Int32))), (7, .int ((m_standsFor_13 v5_13.toNatClampNeg) - (m_standsFor_13 v5_13.toNatClampNeg) / (60 : Int32) * (60 : Int32)))]) hx hb dX10_joinsTwo_90 hl (k := 8) rfl rfl (by decide) rfl (fun ls hl => ?_)
              refine lv_goto (tgt := 49) hx hb dX10_joinsTwo_93 (by decide) ?_
              exact ih _ _ _ _ _  _ _ _ h hP hD hS (lv_sub hl [1, 2, 3, 4, 5, 6, 7, 8, 0] rfl)
        exact hL49 n _ _ _ _ _  _ _ _ hT49 hP hD hS (lv_sub hl [3, 4, 5, 6, 7, 8, 2, 1, 0] rfl)
  exact hL13 n _ _ _ _ _ _  _ _ _ hT13 hP hD hS (lv_sub hl [1, 2, 3, 4, 5, 0] rfl)
abbrev rX10_both : Room := { frames := 5, cells := 0, slots := 0, locals := 125 }
set_option maxHeartbeats 4000000 in
set_option maxRecDepth 100000 in
theorem c_X10_both (l : Launch) (G : GG) (n : Nat) (m_h : Nat) (m_q : Nat → Nat) (m_onBy : AI) (m_toldBy : AI) (m_kindsOf : AI) (m_nextOf : AI) (m_holdsAt : AI) (m_made : Int32) (m_standsFor : AI) (m_madeNext : AI) (m_madeHolds : AI) (m_stateFor : AI) (m_joined : AI) (m_joinedNow : AI) (m_firstIn : AI) (m_orderOf : AI) (m_classAt : AI) (m_sets : AL) (m_waysTo : AL) (m_waysThen : AL) (m_queue : AI) (m_leastTo : AL) (v1 : Int32) (v2 : Int32) (v3 : Int32) (sz : Nat) (r : Int32) (m_kindsOf_z : AI) (m_nextOf_z : AI) (m_holdsAt_z : AI) (m_made_z : Int32) (m_standsFor_z : AI) (m_madeNext_z : AI) (m_madeHolds_z : AI) (m_stateFor_z : AI) (m_joined_z : AI) (m_joinedNow_z : AI) (m_firstIn_z : AI) (m_orderOf_z : AI) (m_classAt_z : AI) (h : p_X10_both n m_kindsOf m_nextOf m_holdsAt m_made m_standsFor m_madeNext m_madeHolds m_stateFor m_joined m_joinedNow m_firstIn m_orderOf m_classAt v1 v2 v3 = some (r, m_kindsOf_z, m_nextOf_z, m_holdsAt_z, m_made_z, m_standsFor_z, m_madeNext_z, m_madeHolds_z, m_stateFor_z, m_joined_z, m_joinedNow_z, m_firstIn_z, m_orderOf_z, m_classAt_z)) : CI l yX10_both wsX10_both rX10_both G [.ref m_h, .int v1, .int v2, .int v3] (WM G m_h m_q m_onBy m_toldBy m_kindsOf m_nextOf m_holdsAt m_made m_standsFor m_madeNext m_madeHolds m_stateFor m_joined m_joinedNow m_firstIn m_orderOf m_classAt m_sets m_waysTo m_waysThen m_queue m_leastTo) sz r (fun u => WM G m_h m_q m_onBy m_toldBy m_kindsOf_z m_nextOf_z m_holdsAt_z m_made_z m_standsFor_z m_madeNext_z m_madeHolds_z m_stateFor_z m_joined_z m_joinedNow_z m_firstIn_z m_orderOf_z m_classAt_z m_sets m_waysTo m_waysThen m_queue m_leastTo) := by
  refine enterCI (cc := cX10_both) (maxL := 4) (by decide) rfl (Nat.le_of_ble_eq_true rfl) ?_
  intro p e s m args below meth c A Q hx hb hml hown hts hK hP hD hS hA hret ls hl
  have hown : s.vm.findClass RX10 = some m.cls := hown
  have hl : lv_has ls 4 [(0, .ref m_h), (1, .int v1), (2, .int v2), (3, .int v3)] := hl
  unfold p_X10_both at h
  refine lv_iload_n hx hb dX10_both_0 rfl (lv_at hl 1 rfl) ?_
  obtain ⟨r_1, hc_1, h⟩ := ob1_e h
  refine k_si (va_runS (As := [.int v1]) (rest := []) ⟨hx, hb, hml, hown, hts⟩ (c_X10_isClaim l G   v1 r_1 hc_1) (va_cwS 1 hts gX10_both_X10_isClaim rfl rfl rfl eX10_isClaim ⟨Nat.le_of_ble_eq_true rfl, Nat.le_of_ble_eq_true rfl⟩) (preSS hK (fun k q h => by cases h)) rfl rfl hl.1 rfl (lv_room (Nat.le_of_ble_eq_true rfl)) dX10_both_1 ⟨Nat.le_of_ble_eq_true rfl, Nat.le_of_ble_eq_true rfl⟩) ?_
  refine lv_if_eq (tgt := 21) hx hb dX10_both_4 (by decide) (fun c_4 => ?_) (fun c_4 => ?_)
  · replace h := (if_pos c_4).symm.trans h
    refine lv_iconst (v := -1) hx hb dX10_both_21 (by decide) ?_
    obtain ⟨rfl, rfl, rfl, rfl, rfl, rfl, rfl, rfl, rfl, rfl, rfl, rfl, rfl, rfl⟩ := oi14 h
    exact hret (fun _ => 0) _ _ _ _ _ _ _ dX10_both_22 rfl rfl hP hD hS (Nat.le_of_ble_eq_true rfl) (Nat.le_of_ble_eq_true rfl)
  · replace h := (if_neg c_4).symm.trans h
    refine lv_iload_n hx hb dX10_both_7 rfl (lv_at hl 2 rfl) ?_
    obtain ⟨r_8, hc_8, h⟩ := ob1_e h
    refine k_si (va_runS (As := [.int v2]) (rest := []) ⟨hx, hb, hml, hown, hts⟩ (c_X10_isClaim l G   v2 r_8 hc_8) (va_cwS 1 hts gX10_both_X10_isClaim rfl rfl rfl eX10_isClaim ⟨Nat.le_of_ble_eq_true rfl, Nat.le_of_ble_eq_true rfl⟩) (preSS hK (fun k q h => by cases h)) rfl rfl hl.1 rfl (lv_room (Nat.le_of_ble_eq_true rfl)) dX10_both_8 ⟨Nat.le_of_ble_eq_true rfl, Nat.le_of_ble_eq_true rfl⟩) ?_
    refine lv_if_eq (tgt := 21) hx hb dX10_both_11 (by decide) (fun c_11 => ?_) (fun c_11 => ?_)
    · replace h := (if_pos c_11).symm.trans h
      refine lv_iconst (v := -1) hx hb dX10_both_21 (by decide) ?_
      obtain ⟨rfl, rfl, rfl, rfl, rfl, rfl, rfl, rfl, rfl, rfl, rfl, rfl, rfl, rfl⟩ := oi14 h
      exact hret (fun _ => 0) _ _ _ _ _ _ _ dX10_both_22 rfl rfl hP hD hS (Nat.le_of_ble_eq_true rfl) (Nat.le_of_ble_eq_true rfl)
    · replace h := (if_neg c_11).symm.trans h
      refine lv_iload_n hx hb dX10_both_14 rfl (lv_at hl 3 rfl) ?_
      obtain ⟨r_15, hc_15, h⟩ := ob1_e h
      refine k_si (va_runS (As := [.int v3]) (rest := []) ⟨hx, hb, hml, hown, hts⟩ (c_X10_isClaim l G   v3 r_15 hc_15) (va_cwS 1 hts gX10_both_X10_isClaim rfl rfl rfl eX10_isClaim ⟨Nat.le_of_ble_eq_true rfl, Nat.le_of_ble_eq_true rfl⟩) (preSS hK (fun k q h => by cases h)) rfl rfl hl.1 rfl (lv_room (Nat.le_of_ble_eq_true rfl)) dX10_both_15 ⟨Nat.le_of_ble_eq_true rfl, Nat.le_of_ble_eq_true rfl⟩) ?_
      refine lv_if_ne (tgt := 23) hx hb dX10_both_18 (by decide) (fun c_18 => ?_) (fun c_18 => ?_)
      · replace h := (if_neg c_18).symm.trans h
        refine lv_aload_n hx hb dX10_both_23 rfl (lv_at hl 0 rfl) ?_
        refine lv_iload_n hx hb dX10_both_24 rfl (lv_at hl 2 rfl) ?_
        obtain ⟨r_25, hc_25, h⟩ := ob1_e h
        refine k_si (va_runV (As := [.int v2]) (rest := []) ⟨hx, hb, hml, hown, hts⟩ (c_X10_isThere l G m_h m_q m_onBy m_toldBy m_kindsOf m_nextOf m_holdsAt m_made m_standsFor m_madeNext m_madeHolds m_stateFor m_joined m_joinedNow m_firstIn m_orderOf m_classAt m_sets m_waysTo m_waysThen m_queue m_leastTo v2 r_25 hc_25) (cwV 1 hts gX10_both_X10_isThere rfl rfl rfl ⟨rfl, eX10_isThere⟩ ⟨Nat.le_of_ble_eq_true rfl, Nat.le_of_ble_eq_true rfl⟩) (preSV (ci := 10) (q0 := 0) hK hP rfl rfl) rfl rfl hl.1 rfl (lv_room (Nat.le_of_ble_eq_true rfl)) dX10_both_25 ⟨Nat.le_of_ble_eq_true rfl, Nat.le_of_ble_eq_true rfl⟩) ?_
        refine lv_if_eq (tgt := 50) hx hb dX10_both_28 (by decide) (fun c_28 => ?_) (fun c_28 => ?_)
        · replace h := (if_pos c_28).symm.trans h
          refine lv_bipush (v := -3) hx hb dX10_both_50 (by decide) ?_
          obtain ⟨rfl, rfl, rfl, rfl, rfl, rfl, rfl, rfl, rfl, rfl, rfl, rfl, rfl, rfl⟩ := oi14 h
          exact hret (fun _ => 0) _ _ _ _ _ _ _ dX10_both_52 rfl rfl hP hD hS (Nat.le_of_ble_eq_true rfl) (Nat.le_of_ble_eq_true rfl)
        · replace h := (if_neg c_28).symm.trans h
          refine lv_aload_n hx hb dX10_both_31 rfl (lv_at hl 0 rfl) ?_
          refine lv_iload_n hx hb dX10_both_32 rfl (lv_at hl 3 rfl) ?_
          obtain ⟨r_33, hc_33, h⟩ := ob1_e h
          refine k_si (va_runV (As := [.int v3]) (rest := []) ⟨hx, hb, hml, hown, hts⟩ (c_X10_isThere l G m_h m_q m_onBy m_toldBy m_kindsOf m_nextOf m_holdsAt m_made m_standsFor m_madeNext m_madeHolds m_stateFor m_joined m_joinedNow m_firstIn m_orderOf m_classAt m_sets m_waysTo m_waysThen m_queue m_leastTo v3 r_33 hc_33) (cwV 1 hts gX10_both_X10_isThere rfl rfl rfl ⟨rfl, eX10_isThere⟩ ⟨Nat.le_of_ble_eq_true rfl, Nat.le_of_ble_eq_true rfl⟩) (preSV (ci := 10) (q0 := 0) hK hP rfl rfl) rfl rfl hl.1 rfl (lv_room (Nat.le_of_ble_eq_true rfl)) dX10_both_33 ⟨Nat.le_of_ble_eq_true rfl, Nat.le_of_ble_eq_true rfl⟩) ?_
          refine lv_if_eq (tgt := 50) hx hb dX10_both_36 (by decide) (fun c_36 => ?_) (fun c_36 => ?_)
          · replace h := (if_pos c_36).symm.trans h
            refine lv_bipush (v := -3) hx hb dX10_both_50 (by decide) ?_
            obtain ⟨rfl, rfl, rfl, rfl, rfl, rfl, rfl, rfl, rfl, rfl, rfl, rfl, rfl, rfl⟩ := oi14 h
            exact hret (fun _ => 0) _ _ _ _ _ _ _ dX10_both_52 rfl rfl hP hD hS (Nat.le_of_ble_eq_true rfl) (Nat.le_of_ble_eq_true rfl)
          · replace h := (if_neg c_36).symm.trans h
            refine lv_aload_n hx hb dX10_both_39 rfl (lv_at hl 0 rfl) ?_
            refine lv_iload_n hx hb dX10_both_40 rfl (lv_at hl 1 rfl) ?_
            refine lv_iload_n hx hb dX10_both_41 rfl (lv_at hl 2 rfl) ?_
            refine lv_iload_n hx hb dX10_both_42 rfl (lv_at hl 3 rfl) ?_
            refine lv_iconst (v := 1) hx hb dX10_both_43 (by decide) ?_
            obtain ⟨r_44, m_kindsOf_44, m_nextOf_44, m_holdsAt_44, m_made_44, m_standsFor_44, m_madeNext_44, m_madeHolds_44, m_stateFor_44, m_joined_44, m_joinedNow_44, m_firstIn_44, m_orderOf_44, m_classAt_44, hc_44, h⟩ := ob14_e h
            refine k_ciA (va_runV (As := [.int v1, .int v2, .int v3, .int (1 : Int32)]) (rest := []) ⟨hx, hb, hml, hown, hts⟩ (c_X10_joinsTwo l G n m_h m_q m_onBy m_toldBy m_kindsOf m_nextOf m_holdsAt m_made m_standsFor m_madeNext m_madeHolds m_stateFor m_joined m_joinedNow m_firstIn m_orderOf m_classAt m_sets m_waysTo m_waysThen m_queue m_leastTo v1 v2 v3 (1 : Int32) _ r_44 m_kindsOf_44 m_nextOf_44 m_holdsAt_44 m_made_44 m_standsFor_44 m_madeNext_44 m_madeHolds_44 m_stateFor_44 m_joined_44 m_joinedNow_44 m_firstIn_44 m_orderOf_44 m_classAt_44 hc_44) (cwV 4 hts gX10_both_X10_joinsTwo rfl rfl rfl ⟨rfl, eX10_joinsTwo⟩ ⟨Nat.le_of_ble_eq_true rfl, Nat.le_of_ble_eq_true rfl⟩) (preWV (ci := 10) (q0 := 0) hK hP hD rfl rfl) rfl rfl hl.1 rfl (lv_room (Nat.le_of_ble_eq_true rfl)) dX10_both_44 ⟨Nat.le_of_ble_eq_true rfl, Nat.le_of_ble_eq_true rfl⟩) hD hS hA (fun u_44 H locs hP hD hS => ?_)
            have hP : va_P G.1 vwCl (WM G m_h m_q m_onBy m_toldBy m_kindsOf_44 m_nextOf_44 m_holdsAt_44 m_made_44 m_standsFor_44 m_madeNext_44 m_madeHolds_44 m_stateFor_44 m_joined_44 m_joinedNow_44 m_firstIn_44 m_orderOf_44 m_classAt_44 m_sets m_waysTo m_waysThen m_queue m_leastTo) H := hP
            have hD : va_D A (WM G m_h m_q m_onBy m_toldBy m_kindsOf_44 m_nextOf_44 m_holdsAt_44 m_made_44 m_standsFor_44 m_madeNext_44 m_madeHolds_44 m_stateFor_44 m_joined_44 m_joinedNow_44 m_firstIn_44 m_orderOf_44 m_classAt_44 m_sets m_waysTo m_waysThen m_queue m_leastTo) := hD
            refine lv_goto (tgt := 52) hx hb dX10_both_47 (by decide) ?_
            obtain ⟨rfl, rfl, rfl, rfl, rfl, rfl, rfl, rfl, rfl, rfl, rfl, rfl, rfl, rfl⟩ := oi14 h
            exact hret (fun _ => 0) _ _ _ _ _ _ _ dX10_both_52 rfl rfl hP hD hS (Nat.le_of_ble_eq_true rfl) (Nat.le_of_ble_eq_true rfl)
      · replace h := (if_pos c_18).symm.trans h
        refine lv_iconst (v := -1) hx hb dX10_both_21 (by decide) ?_
        obtain ⟨rfl, rfl, rfl, rfl, rfl, rfl, rfl, rfl, rfl, rfl, rfl, rfl, rfl, rfl⟩ := oi14 h
        exact hret (fun _ => 0) _ _ _ _ _ _ _ dX10_both_22 rfl rfl hP hD hS (Nat.le_of_ble_eq_true rfl) (Nat.le_of_ble_eq_true rfl)
abbrev rX10_either : Room := { frames := 5, cells := 0, slots := 0, locals := 125 }
set_option maxHeartbeats 4000000 in
set_option maxRecDepth 100000 in
theorem c_X10_either (l : Launch) (G : GG) (n : Nat) (m_h : Nat) (m_q : Nat → Nat) (m_onBy : AI) (m_toldBy : AI) (m_kindsOf : AI) (m_nextOf : AI) (m_holdsAt : AI) (m_made : Int32) (m_standsFor : AI) (m_madeNext : AI) (m_madeHolds : AI) (m_stateFor : AI) (m_joined : AI) (m_joinedNow : AI) (m_firstIn : AI) (m_orderOf : AI) (m_classAt : AI) (m_sets : AL) (m_waysTo : AL) (m_waysThen : AL) (m_queue : AI) (m_leastTo : AL) (v1 : Int32) (v2 : Int32) (v3 : Int32) (sz : Nat) (r : Int32) (m_kindsOf_z : AI) (m_nextOf_z : AI) (m_holdsAt_z : AI) (m_made_z : Int32) (m_standsFor_z : AI) (m_madeNext_z : AI) (m_madeHolds_z : AI) (m_stateFor_z : AI) (m_joined_z : AI) (m_joinedNow_z : AI) (m_firstIn_z : AI) (m_orderOf_z : AI) (m_classAt_z : AI) (h : p_X10_either n m_kindsOf m_nextOf m_holdsAt m_made m_standsFor m_madeNext m_madeHolds m_stateFor m_joined m_joinedNow m_firstIn m_orderOf m_classAt v1 v2 v3 = some (r, m_kindsOf_z, m_nextOf_z, m_holdsAt_z, m_made_z, m_standsFor_z, m_madeNext_z, m_madeHolds_z, m_stateFor_z, m_joined_z, m_joinedNow_z, m_firstIn_z, m_orderOf_z, m_classAt_z)) : CI l yX10_either wsX10_either rX10_either G [.ref m_h, .int v1, .int v2, .int v3] (WM G m_h m_q m_onBy m_toldBy m_kindsOf m_nextOf m_holdsAt m_made m_standsFor m_madeNext m_madeHolds m_stateFor m_joined m_joinedNow m_firstIn m_orderOf m_classAt m_sets m_waysTo m_waysThen m_queue m_leastTo) sz r (fun u => WM G m_h m_q m_onBy m_toldBy m_kindsOf_z m_nextOf_z m_holdsAt_z m_made_z m_standsFor_z m_madeNext_z m_madeHolds_z m_stateFor_z m_joined_z m_joinedNow_z m_firstIn_z m_orderOf_z m_classAt_z m_sets m_waysTo m_waysThen m_queue m_leastTo) := by
  refine enterCI (cc := cX10_either) (maxL := 4) (by decide) rfl (Nat.le_of_ble_eq_true rfl) ?_
  intro p e s m args below meth c A Q hx hb hml hown hts hK hP hD hS hA hret ls hl
  have hown : s.vm.findClass RX10 = some m.cls := hown
  have hl : lv_has ls 4 [(0, .ref m_h), (1, .int v1), (2, .int v2), (3, .int v3)] := hl
  unfold p_X10_either at h
  refine lv_iload_n hx hb dX10_either_0 rfl (lv_at hl 1 rfl) ?_
  obtain ⟨r_1, hc_1, h⟩ := ob1_e h
  refine k_si (va_runS (As := [.int v1]) (rest := []) ⟨hx, hb, hml, hown, hts⟩ (c_X10_isClaim l G   v1 r_1 hc_1) (va_cwS 1 hts gX10_either_X10_isClaim rfl rfl rfl eX10_isClaim ⟨Nat.le_of_ble_eq_true rfl, Nat.le_of_ble_eq_true rfl⟩) (preSS hK (fun k q h => by cases h)) rfl rfl hl.1 rfl (lv_room (Nat.le_of_ble_eq_true rfl)) dX10_either_1 ⟨Nat.le_of_ble_eq_true rfl, Nat.le_of_ble_eq_true rfl⟩) ?_
  refine lv_if_eq (tgt := 21) hx hb dX10_either_4 (by decide) (fun c_4 => ?_) (fun c_4 => ?_)
  · replace h := (if_pos c_4).symm.trans h
    refine lv_iconst (v := -1) hx hb dX10_either_21 (by decide) ?_
    obtain ⟨rfl, rfl, rfl, rfl, rfl, rfl, rfl, rfl, rfl, rfl, rfl, rfl, rfl, rfl⟩ := oi14 h
    exact hret (fun _ => 0) _ _ _ _ _ _ _ dX10_either_22 rfl rfl hP hD hS (Nat.le_of_ble_eq_true rfl) (Nat.le_of_ble_eq_true rfl)
  · replace h := (if_neg c_4).symm.trans h
    refine lv_iload_n hx hb dX10_either_7 rfl (lv_at hl 2 rfl) ?_
    obtain ⟨r_8, hc_8, h⟩ := ob1_e h
    refine k_si (va_runS (As := [.int v2]) (rest := []) ⟨hx, hb, hml, hown, hts⟩ (c_X10_isClaim l G   v2 r_8 hc_8) (va_cwS 1 hts gX10_either_X10_isClaim rfl rfl rfl eX10_isClaim ⟨Nat.le_of_ble_eq_true rfl, Nat.le_of_ble_eq_true rfl⟩) (preSS hK (fun k q h => by cases h)) rfl rfl hl.1 rfl (lv_room (Nat.le_of_ble_eq_true rfl)) dX10_either_8 ⟨Nat.le_of_ble_eq_true rfl, Nat.le_of_ble_eq_true rfl⟩) ?_
    refine lv_if_eq (tgt := 21) hx hb dX10_either_11 (by decide) (fun c_11 => ?_) (fun c_11 => ?_)
    · replace h := (if_pos c_11).symm.trans h
      refine lv_iconst (v := -1) hx hb dX10_either_21 (by decide) ?_
      obtain ⟨rfl, rfl, rfl, rfl, rfl, rfl, rfl, rfl, rfl, rfl, rfl, rfl, rfl, rfl⟩ := oi14 h
      exact hret (fun _ => 0) _ _ _ _ _ _ _ dX10_either_22 rfl rfl hP hD hS (Nat.le_of_ble_eq_true rfl) (Nat.le_of_ble_eq_true rfl)
    · replace h := (if_neg c_11).symm.trans h
      refine lv_iload_n hx hb dX10_either_14 rfl (lv_at hl 3 rfl) ?_
      obtain ⟨r_15, hc_15, h⟩ := ob1_e h
      refine k_si (va_runS (As := [.int v3]) (rest := []) ⟨hx, hb, hml, hown, hts⟩ (c_X10_isClaim l G   v3 r_15 hc_15) (va_cwS 1 hts gX10_either_X10_isClaim rfl rfl rfl eX10_isClaim ⟨Nat.le_of_ble_eq_true rfl, Nat.le_of_ble_eq_true rfl⟩) (preSS hK (fun k q h => by cases h)) rfl rfl hl.1 rfl (lv_room (Nat.le_of_ble_eq_true rfl)) dX10_either_15 ⟨Nat.le_of_ble_eq_true rfl, Nat.le_of_ble_eq_true rfl⟩) ?_
      refine lv_if_ne (tgt := 23) hx hb dX10_either_18 (by decide) (fun c_18 => ?_) (fun c_18 => ?_)
      · replace h := (if_neg c_18).symm.trans h
        refine lv_aload_n hx hb dX10_either_23 rfl (lv_at hl 0 rfl) ?_
        refine lv_iload_n hx hb dX10_either_24 rfl (lv_at hl 2 rfl) ?_
        obtain ⟨r_25, hc_25, h⟩ := ob1_e h
        refine k_si (va_runV (As := [.int v2]) (rest := []) ⟨hx, hb, hml, hown, hts⟩ (c_X10_isThere l G m_h m_q m_onBy m_toldBy m_kindsOf m_nextOf m_holdsAt m_made m_standsFor m_madeNext m_madeHolds m_stateFor m_joined m_joinedNow m_firstIn m_orderOf m_classAt m_sets m_waysTo m_waysThen m_queue m_leastTo v2 r_25 hc_25) (cwV 1 hts gX10_either_X10_isThere rfl rfl rfl ⟨rfl, eX10_isThere⟩ ⟨Nat.le_of_ble_eq_true rfl, Nat.le_of_ble_eq_true rfl⟩) (preSV (ci := 10) (q0 := 0) hK hP rfl rfl) rfl rfl hl.1 rfl (lv_room (Nat.le_of_ble_eq_true rfl)) dX10_either_25 ⟨Nat.le_of_ble_eq_true rfl, Nat.le_of_ble_eq_true rfl⟩) ?_
        refine lv_if_eq (tgt := 50) hx hb dX10_either_28 (by decide) (fun c_28 => ?_) (fun c_28 => ?_)
        · replace h := (if_pos c_28).symm.trans h
          refine lv_bipush (v := -3) hx hb dX10_either_50 (by decide) ?_
          obtain ⟨rfl, rfl, rfl, rfl, rfl, rfl, rfl, rfl, rfl, rfl, rfl, rfl, rfl, rfl⟩ := oi14 h
          exact hret (fun _ => 0) _ _ _ _ _ _ _ dX10_either_52 rfl rfl hP hD hS (Nat.le_of_ble_eq_true rfl) (Nat.le_of_ble_eq_true rfl)
        · replace h := (if_neg c_28).symm.trans h
          refine lv_aload_n hx hb dX10_either_31 rfl (lv_at hl 0 rfl) ?_
          refine lv_iload_n hx hb dX10_either_32 rfl (lv_at hl 3 rfl) ?_
          obtain ⟨r_33, hc_33, h⟩ := ob1_e h
          refine k_si (va_runV (As := [.int v3]) (rest := []) ⟨hx, hb, hml, hown, hts⟩ (c_X10_isThere l G m_h m_q m_onBy m_toldBy m_kindsOf m_nextOf m_holdsAt m_made m_standsFor m_madeNext m_madeHolds m_stateFor m_joined m_joinedNow m_firstIn m_orderOf m_classAt m_sets m_waysTo m_waysThen m_queue m_leastTo v3 r_33 hc_33) (cwV 1 hts gX10_either_X10_isThere rfl rfl rfl ⟨rfl, eX10_isThere⟩ ⟨Nat.le_of_ble_eq_true rfl, Nat.le_of_ble_eq_true rfl⟩) (preSV (ci := 10) (q0 := 0) hK hP rfl rfl) rfl rfl hl.1 rfl (lv_room (Nat.le_of_ble_eq_true rfl)) dX10_either_33 ⟨Nat.le_of_ble_eq_true rfl, Nat.le_of_ble_eq_true rfl⟩) ?_
          refine lv_if_eq (tgt := 50) hx hb dX10_either_36 (by decide) (fun c_36 => ?_) (fun c_36 => ?_)
          · replace h := (if_pos c_36).symm.trans h
            refine lv_bipush (v := -3) hx hb dX10_either_50 (by decide) ?_
            obtain ⟨rfl, rfl, rfl, rfl, rfl, rfl, rfl, rfl, rfl, rfl, rfl, rfl, rfl, rfl⟩ := oi14 h
            exact hret (fun _ => 0) _ _ _ _ _ _ _ dX10_either_52 rfl rfl hP hD hS (Nat.le_of_ble_eq_true rfl) (Nat.le_of_ble_eq_true rfl)
          · replace h := (if_neg c_36).symm.trans h
            refine lv_aload_n hx hb dX10_either_39 rfl (lv_at hl 0 rfl) ?_
            refine lv_iload_n hx hb dX10_either_40 rfl (lv_at hl 1 rfl) ?_
            refine lv_iload_n hx hb dX10_either_41 rfl (lv_at hl 2 rfl) ?_
            refine lv_iload_n hx hb dX10_either_42 rfl (lv_at hl 3 rfl) ?_
            refine lv_iconst (v := 0) hx hb dX10_either_43 (by decide) ?_
            obtain ⟨r_44, m_kindsOf_44, m_nextOf_44, m_holdsAt_44, m_made_44, m_standsFor_44, m_madeNext_44, m_madeHolds_44, m_stateFor_44, m_joined_44, m_joinedNow_44, m_firstIn_44, m_orderOf_44, m_classAt_44, hc_44, h⟩ := ob14_e h
            refine k_ciA (va_runV (As := [.int v1, .int v2, .int v3, .int (0 : Int32)]) (rest := []) ⟨hx, hb, hml, hown, hts⟩ (c_X10_joinsTwo l G n m_h m_q m_onBy m_toldBy m_kindsOf m_nextOf m_holdsAt m_made m_standsFor m_madeNext m_madeHolds m_stateFor m_joined m_joinedNow m_firstIn m_orderOf m_classAt m_sets m_waysTo m_waysThen m_queue m_leastTo v1 v2 v3 (0 : Int32) _ r_44 m_kindsOf_44 m_nextOf_44 m_holdsAt_44 m_made_44 m_standsFor_44 m_madeNext_44 m_madeHolds_44 m_stateFor_44 m_joined_44 m_joinedNow_44 m_firstIn_44 m_orderOf_44 m_classAt_44 hc_44) (cwV 4 hts gX10_either_X10_joinsTwo rfl rfl rfl ⟨rfl, eX10_joinsTwo⟩ ⟨Nat.le_of_ble_eq_true rfl, Nat.le_of_ble_eq_true rfl⟩) (preWV (ci := 10) (q0 := 0) hK hP hD rfl rfl) rfl rfl hl.1 rfl (lv_room (Nat.le_of_ble_eq_true rfl)) dX10_either_44 ⟨Nat.le_of_ble_eq_true rfl, Nat.le_of_ble_eq_true rfl⟩) hD hS hA (fun u_44 H locs hP hD hS => ?_)
            have hP : va_P G.1 vwCl (WM G m_h m_q m_onBy m_toldBy m_kindsOf_44 m_nextOf_44 m_holdsAt_44 m_made_44 m_standsFor_44 m_madeNext_44 m_madeHolds_44 m_stateFor_44 m_joined_44 m_joinedNow_44 m_firstIn_44 m_orderOf_44 m_classAt_44 m_sets m_waysTo m_waysThen m_queue m_leastTo) H := hP
            have hD : va_D A (WM G m_h m_q m_onBy m_toldBy m_kindsOf_44 m_nextOf_44 m_holdsAt_44 m_made_44 m_standsFor_44 m_madeNext_44 m_madeHolds_44 m_stateFor_44 m_joined_44 m_joinedNow_44 m_firstIn_44 m_orderOf_44 m_classAt_44 m_sets m_waysTo m_waysThen m_queue m_leastTo) := hD
            refine lv_goto (tgt := 52) hx hb dX10_either_47 (by decide) ?_
            obtain ⟨rfl, rfl, rfl, rfl, rfl, rfl, rfl, rfl, rfl, rfl, rfl, rfl, rfl, rfl⟩ := oi14 h
            exact hret (fun _ => 0) _ _ _ _ _ _ _ dX10_either_52 rfl rfl hP hD hS (Nat.le_of_ble_eq_true rfl) (Nat.le_of_ble_eq_true rfl)
      · replace h := (if_pos c_18).symm.trans h
        refine lv_iconst (v := -1) hx hb dX10_either_21 (by decide) ?_
        obtain ⟨rfl, rfl, rfl, rfl, rfl, rfl, rfl, rfl, rfl, rfl, rfl, rfl, rfl, rfl⟩ := oi14 h
        exact hret (fun _ => 0) _ _ _ _ _ _ _ dX10_either_22 rfl rfl hP hD hS (Nat.le_of_ble_eq_true rfl) (Nat.le_of_ble_eq_true rfl)
abbrev rX10_copies : Room := { frames := 4, cells := 0, slots := 0, locals := 96 }
set_option maxHeartbeats 4000000 in
set_option maxRecDepth 100000 in
theorem c_X10_copies (l : Launch) (G : GG) (n : Nat) (m_h : Nat) (m_q : Nat → Nat) (m_onBy : AI) (m_toldBy : AI) (m_kindsOf : AI) (m_nextOf : AI) (m_holdsAt : AI) (m_made : Int32) (m_standsFor : AI) (m_madeNext : AI) (m_madeHolds : AI) (m_stateFor : AI) (m_joined : AI) (m_joinedNow : AI) (m_firstIn : AI) (m_orderOf : AI) (m_classAt : AI) (m_sets : AL) (m_waysTo : AL) (m_waysThen : AL) (m_queue : AI) (m_leastTo : AL) (v1 : Int32) (v2 : Int32) (v3 : Int32) (v4 : Int32) (v5 : Int32) (sz : Nat) (r : Int32) (m_kindsOf_z : AI) (m_nextOf_z : AI) (m_holdsAt_z : AI) (m_made_z : Int32) (m_madeNext_z : AI) (m_madeHolds_z : AI) (m_joined_z : AI) (m_joinedNow_z : AI) (m_firstIn_z : AI) (m_orderOf_z : AI) (m_classAt_z : AI) (h : p_X10_copies n m_kindsOf m_nextOf m_holdsAt m_madeNext m_madeHolds m_joined m_joinedNow m_firstIn m_orderOf m_classAt v1 v2 v3 v4 v5 = some (r, m_kindsOf_z, m_nextOf_z, m_holdsAt_z, m_made_z, m_madeNext_z, m_madeHolds_z, m_joined_z, m_joinedNow_z, m_firstIn_z, m_orderOf_z, m_classAt_z)) : CI l yX10_copies wsX10_copies rX10_copies G [.ref m_h, .int v1, .int v2, .int v3, .int v4, .int v5] (WM G m_h m_q m_onBy m_toldBy m_kindsOf m_nextOf m_holdsAt m_made m_standsFor m_madeNext m_madeHolds m_stateFor m_joined m_joinedNow m_firstIn m_orderOf m_classAt m_sets m_waysTo m_waysThen m_queue m_leastTo) sz r (fun u => WM G m_h m_q m_onBy m_toldBy m_kindsOf_z m_nextOf_z m_holdsAt_z m_made_z m_standsFor m_madeNext_z m_madeHolds_z m_stateFor m_joined_z m_joinedNow_z m_firstIn_z m_orderOf_z m_classAt_z m_sets m_waysTo m_waysThen m_queue m_leastTo) := by
  refine enterCI (cc := cX10_copies) (maxL := 9) (by decide) rfl (Nat.le_of_ble_eq_true rfl) ?_
  intro p e s m args below meth c A Q hx hb hml hown hts hK hP hD hS hA hret ls hl
  have hown : s.vm.findClass RX10 = some m.cls := hown
  have hf16 := hts (.fieldLink RX10 16 "DigitClaimsModel" "kindsOf" "[I") (by decide +kernel)
  have hf32 := hts (.fieldLink RX10 32 "DigitClaimsModel" "madeHolds" "[Z") (by decide +kernel)
  have hf81 := hts (.fieldLink RX10 81 "DigitClaimsModel" "made" "I") (by decide +kernel)
  have hinX10 : ∀ w ∈ wsX100, w ∈ wsX10_copies := by decide +kernel
  have hl : lv_has ls 9 [(0, .ref m_h), (1, .int v1), (2, .int v2), (3, .int v3), (4, .int v4), (5, .int v5)] := hl
  unfold p_X10_copies at h
  refine lv_aload_n hx hb dX10_copies_0 rfl (lv_at hl 0 rfl) ?_
  refine lv_aload_n hx hb dX10_copies_1 rfl (lv_at hl 0 rfl) ?_
  refine va_get (D := G.1) (ci := 10) (v := .ref (m_q 2)) (C := RX10) (T := TX10) (N := 20) hx hb hts hinX10 hown hK.1 hP 0 rfl rfl 2 (by decide) hf16 (fun _ h9 => h9) rfl dX10_copies_2 ?_
  refine lv_iload_n hx hb dX10_copies_5 rfl (lv_at hl 2 rfl) ?_
  obtain ⟨g_6, h⟩ := gi_e h
  refine va_iald hx hb hK.1 hP 3 0 rfl rfl g_6 dX10_copies_6 ?_
  refine va_put (D := G.1) (ci := 10) (v := .int (m_kindsOf v2.toNatClampNeg)) (ty := .int) (C := RX10) (T := TX10) (N := 20) hx hb hts hinX10 tyX10 tyX10_ok nmX10 hown hK.1 hP hD hS 0 rfl rfl 5 (by decide) hf81 (fun _ h9 => h9) rfl (by decide +kernel) rfl rfl (Nat.le_of_ble_eq_true rfl) dX10_copies_7 (fun H locs hP hD hS => ?_)
  have hP : va_P G.1 vwCl (WM G m_h m_q m_onBy m_toldBy m_kindsOf m_nextOf m_holdsAt (m_kindsOf v2.toNatClampNeg) m_standsFor m_madeNext m_madeHolds m_stateFor m_joined m_joinedNow m_firstIn m_orderOf m_classAt m_sets m_waysTo m_waysThen m_queue m_leastTo) H := hP
  have hD : va_D A (WM G m_h m_q m_onBy m_toldBy m_kindsOf m_nextOf m_holdsAt (m_kindsOf v2.toNatClampNeg) m_standsFor m_madeNext m_madeHolds m_stateFor m_joined m_joinedNow m_firstIn m_orderOf m_classAt m_sets m_waysTo m_waysThen m_queue m_leastTo) := hD
  refine lv_iconst (v := 0) hx hb dX10_copies_10 (by decide) ?_
  refine lv_istore (lv' := [(6, .int (0 : Int32)), (0, .ref m_h), (1, .int v1), (2, .int v2), (3, .int v3), (4, .int v4), (5, .int v5)]) hx hb dX10_copies_11 hl (by decide) rfl (fun ls hl => ?_)
  obtain ⟨m_madeNext_o13, m_madeHolds_o13, hT13, h⟩ := ob2_e h
  have hX13 : ∀ (m_madeNext_o13x : AI) (m_madeHolds_o13x : AI)  (H : Heap) (locs : List Loc) (ls : Array Slot), some (m_madeNext_o13x, m_madeHolds_o13x) = some (m_madeNext_o13, m_madeHolds_o13) → va_P G.1 vwCl (WM G m_h m_q m_onBy m_toldBy m_kindsOf m_nextOf m_holdsAt (m_kindsOf v2.toNatClampNeg) m_standsFor m_madeNext_o13x m_madeHolds_o13x m_stateFor m_joined m_joinedNow m_firstIn m_orderOf m_classAt m_sets m_waysTo m_waysThen m_queue m_leastTo) H → va_D A (WM G m_h m_q m_onBy m_toldBy m_kindsOf m_nextOf m_holdsAt (m_kindsOf v2.toNatClampNeg) m_standsFor m_madeNext_o13x m_madeHolds_o13x m_stateFor m_joined m_joinedNow m_firstIn m_orderOf m_classAt m_sets m_waysTo m_waysThen m_queue m_leastTo) → va_S A s.heap H locs → lv_has ls 9 [(0, .ref m_h), (1, .int v1)] → W p l e rX10_copies s m args below meth c H locs 0 0 Q (F0 m 122 ls []) := by
    intro m_madeNext_o13x m_madeHolds_o13x H locs ls hq hP hD hS hl
    obtain ⟨rfl, rfl⟩ := oi2 hq
    refine lv_aload_n hx hb dX10_copies_122 rfl (lv_at hl 0 rfl) ?_
    refine lv_iload_n hx hb dX10_copies_123 rfl (lv_at hl 1 rfl) ?_
    obtain ⟨r_124, m_kindsOf_124, m_nextOf_124, m_holdsAt_124, m_joined_124, m_joinedNow_124, m_firstIn_124, m_orderOf_124, m_classAt_124, hc_124, h⟩ := ob9_e h
    refine k_ciA (va_runV (As := [.int v1]) (rest := []) ⟨hx, hb, hml, hown, hts⟩ (c_X10_comes l G n m_h m_q m_onBy m_toldBy m_kindsOf m_nextOf m_holdsAt (m_kindsOf v2.toNatClampNeg) m_standsFor m_madeNext_o13 m_madeHolds_o13 m_stateFor m_joined m_joinedNow m_firstIn m_orderOf m_classAt m_sets m_waysTo m_waysThen m_queue m_leastTo v1 _ r_124 m_kindsOf_124 m_nextOf_124 m_holdsAt_124 m_joined_124 m_joinedNow_124 m_firstIn_124 m_orderOf_124 m_classAt_124 hc_124) (cwV 1 hts gX10_copies_X10_comes rfl rfl rfl ⟨rfl, eX10_comes⟩ ⟨Nat.le_of_ble_eq_true rfl, Nat.le_of_ble_eq_true rfl⟩) (preWV (ci := 10) (q0 := 0) hK hP hD rfl rfl) rfl rfl hl.1 rfl (lv_room (Nat.le_of_ble_eq_true rfl)) dX10_copies_124 ⟨Nat.le_of_ble_eq_true rfl, Nat.le_of_ble_eq_true rfl⟩) hD hS hA (fun u_124 H locs hP hD hS => ?_)
    have hP : va_P G.1 vwCl (WM G m_h m_q m_onBy m_toldBy m_kindsOf_124 m_nextOf_124 m_holdsAt_124 (m_kindsOf v2.toNatClampNeg) m_standsFor m_madeNext_o13 m_madeHolds_o13 m_stateFor m_joined_124 m_joinedNow_124 m_firstIn_124 m_orderOf_124 m_classAt_124 m_sets m_waysTo m_waysThen m_queue m_leastTo) H := hP
    have hD : va_D A (WM G m_h m_q m_onBy m_toldBy m_kindsOf_124 m_nextOf_124 m_holdsAt_124 (m_kindsOf v2.toNatClampNeg) m_standsFor m_madeNext_o13 m_madeHolds_o13 m_stateFor m_joined_124 m_joinedNow_124 m_firstIn_124 m_orderOf_124 m_classAt_124 m_sets m_waysTo m_waysThen m_queue m_leastTo) := hD
    obtain ⟨rfl, rfl, rfl, rfl, rfl, rfl, rfl, rfl, rfl, rfl, rfl, rfl⟩ := oi12 h
    exact hret (fun _ => 0) _ _ _ _ _ _ _ dX10_copies_127 rfl rfl hP hD hS (Nat.le_of_ble_eq_true rfl) (Nat.le_of_ble_eq_true rfl)
  have hL13 : ∀ (f : Nat) (v6_13 : Int32) (m_madeNext_13 : AI) (m_madeHolds_13 : AI)  (H : Heap) (locs : List Loc) (ls : Array Slot), p_X10_copies_L13 n m_kindsOf v2 v3 v4 m_nextOf m_holdsAt v5 f v6_13 m_madeNext_13 m_madeHolds_13 = some (m_madeNext_o13, m_madeHolds_o13) → va_P G.1 vwCl (WM G m_h m_q m_onBy m_toldBy m_kindsOf m_nextOf m_holdsAt (m_kindsOf v2.toNatClampNeg) m_standsFor m_madeNext_13 m_madeHolds_13 m_stateFor m_joined m_joinedNow m_firstIn m_orderOf m_classAt m_sets m_waysTo m_waysThen m_queue m_leastTo) H → va_D A (WM G m_h m_q m_onBy m_toldBy m_kindsOf m_nextOf m_holdsAt (m_kindsOf v2.toNatClampNeg) m_standsFor m_madeNext_13 m_madeHolds_13 m_stateFor m_joined m_joinedNow m_firstIn m_orderOf m_classAt m_sets m_waysTo m_waysThen m_queue m_leastTo) → va_S A s.heap H locs → lv_has ls 9 [(0, .ref m_h), (1, .int v1), (2, .int v2), (3, .int v3), (4, .int v4), (5, .int v5), (6, .int v6_13)] → W p l e rX10_copies s m args below meth c H locs 0 0 Q (F0 m 13 ls []) := by
    intro f
    induction f with
    | zero => intro v6_13 m_madeNext_13 m_madeHolds_13 H locs ls h hP hD hS hl; cases (show none = some _ from h)
    | succ f ih =>
      intro v6_13 m_madeNext_13 m_madeHolds_13 H locs ls h hP hD hS hl
      rw [p_X10_copies_L13] at h
      refine lv_iload hx hb dX10_copies_13 (lv_at hl 6 rfl) ?_
      refine lv_aload_n hx hb dX10_copies_15 rfl (lv_at hl 0 rfl) ?_
      refine va_get (D := G.1) (ci := 10) (v := .int (m_kindsOf v2.toNatClampNeg)) (C := RX10) (T := TX10) (N := 20) hx hb hts hinX10 hown hK.1 hP 0 rfl rfl 5 (by decide) hf81 (fun _ h9 => h9) rfl dX10_copies_16 ?_
      refine lv_icmp_ge (tgt := 122) hx hb dX10_copies_19 (by decide) (fun c_19 => ?_) (fun c_19 => ?_)
      · replace h := (if_pos c_19).symm.trans h
        exact hX13 _ _  _ _ _ h hP hD hS (lv_sub hl [0, 1] rfl)
      · replace h := (if_neg c_19).symm.trans h
        refine lv_iconst (v := 0) hx hb dX10_copies_22 (by decide) ?_
        refine lv_istore (lv' := [(7, .int (0 : Int32)), (0, .ref m_h), (1, .int v1), (2, .int v2), (3, .int v3), (4, .int v4), (5, .int v5), (6, .int v6_13)]) hx hb dX10_copies_23 hl (by decide) rfl (fun ls hl => ?_)
        obtain ⟨m_madeNext_o25, hT25, h⟩ := ob1_e h
        have hX25 : ∀ (m_madeNext_o25x : AI)  (H : Heap) (locs : List Loc) (ls : Array Slot), some m_madeNext_o25x = some m_madeNext_o25 → va_P G.1 vwCl (WM G m_h m_q m_onBy m_toldBy m_kindsOf m_nextOf m_holdsAt (m_kindsOf v2.toNatClampNeg) m_standsFor m_madeNext_o25x m_madeHolds_13 m_stateFor m_joined m_joinedNow m_firstIn m_orderOf m_classAt m_sets m_waysTo m_waysThen m_queue m_leastTo) H → va_D A (WM G m_h m_q m_onBy m_toldBy m_kindsOf m_nextOf m_holdsAt (m_kindsOf v2.toNatClampNeg) m_standsFor m_madeNext_o25x m_madeHolds_13 m_stateFor m_joined m_joinedNow m_firstIn m_orderOf m_classAt m_sets m_waysTo m_waysThen m_queue m_leastTo) → va_S A s.heap H locs → lv_has ls 9 [(0, .ref m_h), (1, .int v1), (2, .int v2), (3, .int v3), (4, .int v4), (5, .int v5), (6, .int v6_13)] → W p l e rX10_copies s m args below meth c H locs 0 0 Q (F0 m 92 ls []) := by
          intro m_madeNext_o25x H locs ls hq hP hD hS hl
          obtain rfl := oi1 hq
          refine lv_aload_n hx hb dX10_copies_92 rfl (lv_at hl 0 rfl) ?_
          refine va_get (D := G.1) (ci := 10) (v := .ref (m_q 7)) (C := RX10) (T := TX10) (N := 20) hx hb hts hinX10 hown hK.1 hP 0 rfl rfl 8 (by decide) hf32 (fun _ h9 => h9) rfl dX10_copies_93 ?_
          refine lv_iload hx hb dX10_copies_96 (lv_at hl 6 rfl) ?_
          refine lv_aload_n hx hb dX10_copies_98 rfl (lv_at hl 0 rfl) ?_
          refine lv_iload_n hx hb dX10_copies_99 rfl (lv_at hl 2 rfl) ?_
          refine lv_iload hx hb dX10_copies_100 (lv_at hl 6 rfl) ?_
          obtain ⟨r_102, hc_102, h⟩ := ob1_e h
          refine k_si (va_runV (As := [.int v2, .int v6_13]) (rest := [.int v6_13, .ref (m_q 7)]) ⟨hx, hb, hml, hown, hts⟩ (c_X10_holdsIn l G m_h m_q m_onBy m_toldBy m_kindsOf m_nextOf m_holdsAt (m_kindsOf v2.toNatClampNeg) m_standsFor m_madeNext_o25 m_madeHolds_13 m_stateFor m_joined m_joinedNow m_firstIn m_orderOf m_classAt m_sets m_waysTo m_waysThen m_queue m_leastTo v2 v6_13 r_102 hc_102) (cwV 2 hts gX10_copies_X10_holdsIn rfl rfl rfl ⟨rfl, eX10_holdsIn⟩ ⟨Nat.le_of_ble_eq_true rfl, Nat.le_of_ble_eq_true rfl⟩) (preSV (ci := 10) (q0 := 0) hK hP rfl rfl) rfl rfl hl.1 rfl (lv_room (Nat.le_of_ble_eq_true rfl)) dX10_copies_102 ⟨Nat.le_of_ble_eq_true rfl, Nat.le_of_ble_eq_true rfl⟩) ?_
          refine lv_iload hx hb dX10_copies_105 (lv_at hl 5 rfl) ?_
          obtain ⟨j0_107, hT107, h⟩ := ob1_e h
          have hJ107 : ∀ (j0_107x : Int32)  (H : Heap) (locs : List Loc) (ls : Array Slot), some j0_107x = some j0_107 → va_P G.1 vwCl (WM G m_h m_q m_onBy m_toldBy m_kindsOf m_nextOf m_holdsAt (m_kindsOf v2.toNatClampNeg) m_standsFor m_madeNext_o25 m_madeHolds_13 m_stateFor m_joined m_joinedNow m_firstIn m_orderOf m_classAt m_sets m_waysTo m_waysThen m_queue m_leastTo) H → va_D A (WM G m_h m_q m_onBy m_toldBy m_kindsOf m_nextOf m_holdsAt (m_kindsOf v2.toNatClampNeg) m_standsFor m_madeNext_o25 m_madeHolds_13 m_stateFor m_joined m_joinedNow m_firstIn m_orderOf m_classAt m_sets m_waysTo m_waysThen m_queue m_leastTo) → va_S A s.heap H locs → lv_has ls 9 [(0, .ref m_h), (1, .int v1), (2, .int v2), (3, .int v3), (4, .int v4), (5, .int v5), (6, .int v6_13)] → W p l e rX10_copies s m args below meth c H locs 0 0 Q (F0 m 115 ls [.int j0_107x, .int v6_13, .ref (m_q 7)]) := by
            intro j0_107x H locs ls hq hP hD hS hl
            obtain rfl := oi1 hq
            obtain ⟨g_115, h⟩ := gi_e h
            refine va_zast hx hb hK.1 hP hD hS 8 1 rfl rfl g_115 dX10_copies_115 (fun H locs hP hD hS => ?_)
            have hP : va_P G.1 vwCl (WM G m_h m_q m_onBy m_toldBy m_kindsOf m_nextOf m_holdsAt (m_kindsOf v2.toNatClampNeg) m_standsFor m_madeNext_o25 (upd m_madeHolds_13 v6_13.toNatClampNeg (j0_107 &&& (1 : Int32))) m_stateFor m_joined m_joinedNow m_firstIn m_orderOf m_classAt m_sets m_waysTo m_waysThen m_queue m_leastTo) H := hP
            have hD : va_D A (WM G m_h m_q m_onBy m_toldBy m_kindsOf m_nextOf m_holdsAt (m_kindsOf v2.toNatClampNeg) m_standsFor m_madeNext_o25 (upd m_madeHolds_13 v6_13.toNatClampNeg (j0_107 &&& (1 : Int32))) m_stateFor m_joined m_joinedNow m_firstIn m_orderOf m_classAt m_sets m_waysTo m_waysThen m_queue m_leastTo) := hD
            refine lv_iinc (v := (v6_13 + (1 : Int32))) (lv' := [(6, .int (v6_13 + (1 : Int32))), (0, .ref m_h), (1, .int v1), (2, .int v2), (3, .int v3), (4, .int v4), (5, .int v5)]) hx hb dX10_copies_116 hl (k := 6) rfl rfl (by decide) rfl (fun ls hl => ?_)
            refine lv_goto (tgt := 13) hx hb dX10_copies_119 (by decide) ?_
            exact ih _ _ _  _ _ _ h hP hD hS (lv_sub hl [1, 2, 3, 4, 5, 6, 0] rfl)
          replace h := hT107
          refine lv_icmp_eq (tgt := 114) hx hb dX10_copies_107 (by decide) (fun c_107 => ?_) (fun c_107 => ?_)
          · replace h := (if_pos c_107).symm.trans h
            refine lv_iconst (v := 0) hx hb dX10_copies_114 (by decide) ?_
            exact hJ107 _  _ _ _ h hP hD hS (lv_sub hl [0, 1, 2, 3, 4, 5, 6] rfl)
          · replace h := (if_neg c_107).symm.trans h
            refine lv_iconst (v := 1) hx hb dX10_copies_110 (by decide) ?_
            refine lv_goto (tgt := 115) hx hb dX10_copies_111 (by decide) ?_
            exact hJ107 _  _ _ _ h hP hD hS (lv_sub hl [0, 1, 2, 3, 4, 5, 6] rfl)
        have hL25 : ∀ (f : Nat) (v7_25 : Int32) (m_madeNext_25 : AI)  (H : Heap) (locs : List Loc) (ls : Array Slot), p_X10_copies_L25 v3 v4 m_nextOf v2 v6_13 f v7_25 m_madeNext_25 = some m_madeNext_o25 → va_P G.1 vwCl (WM G m_h m_q m_onBy m_toldBy m_kindsOf m_nextOf m_holdsAt (m_kindsOf v2.toNatClampNeg) m_standsFor m_madeNext_25 m_madeHolds_13 m_stateFor m_joined m_joinedNow m_firstIn m_orderOf m_classAt m_sets m_waysTo m_waysThen m_queue m_leastTo) H → va_D A (WM G m_h m_q m_onBy m_toldBy m_kindsOf m_nextOf m_holdsAt (m_kindsOf v2.toNatClampNeg) m_standsFor m_madeNext_25 m_madeHolds_13 m_stateFor m_joined m_joinedNow m_firstIn m_orderOf m_classAt m_sets m_waysTo m_waysThen m_queue m_leastTo) → va_S A s.heap H locs → lv_has ls 9 [(0, .ref m_h), (1, .int v1), (2, .int v2), (3, .int v3), (4, .int v4), (5, .int v5), (6, .int v6_13), (7, .int v7_25)] → W p l e rX10_copies s m args below meth c H locs 0 0 Q (F0 m 25 ls []) := by
          intro f
          induction f with
          | zero => intro v7_25 m_madeNext_25 H locs ls h hP hD hS hl; cases (show none = some _ from h)
          | succ f ih =>
            intro v7_25 m_madeNext_25 H locs ls h hP hD hS hl
            rw [p_X10_copies_L25] at h
            refine lv_iload hx hb dX10_copies_25 (lv_at hl 7 rfl) ?_
            refine lv_bipush (v := 8) hx hb dX10_copies_27 (by decide) ?_
            refine lv_icmp_ge (tgt := 92) hx hb dX10_copies_29 (by decide) (fun c_29 => ?_) (fun c_29 => ?_)
            · replace h := (if_pos c_29).symm.trans h
              exact hX25 _  _ _ _ h hP hD hS (lv_sub hl [0, 1, 2, 3, 4, 5, 6] rfl)
            · replace h := (if_neg c_29).symm.trans h
              refine lv_iload hx hb dX10_copies_32 (lv_at hl 7 rfl) ?_
              refine lv_iconst (v := 1) hx hb dX10_copies_34 (by decide) ?_
              refine lv_iload_n hx hb dX10_copies_35 rfl (lv_at hl 3 rfl) ?_
              refine lv_ishl hx hb dX10_copies_36 ?_
              refine lv_iconst (v := -1) hx hb dX10_copies_37 (by decide) ?_
              refine lv_ixor hx hb dX10_copies_38 ?_
              refine lv_iand hx hb dX10_copies_39 ?_
              refine lv_iconst (v := 1) hx hb dX10_copies_40 (by decide) ?_
              refine lv_iload hx hb dX10_copies_41 (lv_at hl 4 rfl) ?_
              refine lv_ishl hx hb dX10_copies_43 ?_
              refine lv_iconst (v := -1) hx hb dX10_copies_44 (by decide) ?_
              refine lv_ixor hx hb dX10_copies_45 ?_
              refine lv_iand hx hb dX10_copies_46 ?_
              refine lv_iload hx hb dX10_copies_47 (lv_at hl 7 rfl) ?_
              refine lv_iload_n hx hb dX10_copies_49 rfl (lv_at hl 3 rfl) ?_
              obtain ⟨r_50, hc_50, h⟩ := ob1_e h
              refine k_si (va_runS (As := [.int v7_25, .int v3]) (rest := [.int ((v7_25 &&& (((1 : Int32) <<< (v3 &&& (31 : Int32))) ^^^ (-1 : Int32))) &&& (((1 : Int32) <<< (v4 &&& (31 : Int32))) ^^^ (-1 : Int32)))]) ⟨hx, hb, hml, hown, hts⟩ (c_X10_digit l G   v7_25 v3 r_50 hc_50) (va_cwS 2 hts gX10_copies_X10_digit rfl rfl rfl eX10_digit ⟨Nat.le_of_ble_eq_true rfl, Nat.le_of_ble_eq_true rfl⟩) (preSS hK (fun k q h => by cases h)) rfl rfl hl.1 rfl (lv_room (Nat.le_of_ble_eq_true rfl)) dX10_copies_50 ⟨Nat.le_of_ble_eq_true rfl, Nat.le_of_ble_eq_true rfl⟩) ?_
              refine lv_iload hx hb dX10_copies_53 (lv_at hl 4 rfl) ?_
              refine lv_ishl hx hb dX10_copies_55 ?_
              refine lv_ior hx hb dX10_copies_56 ?_
              refine lv_iload hx hb dX10_copies_57 (lv_at hl 7 rfl) ?_
              refine lv_iload hx hb dX10_copies_59 (lv_at hl 4 rfl) ?_
              obtain ⟨r_61, hc_61, h⟩ := ob1_e h
              refine k_si (va_runS (As := [.int v7_25, .int v4]) (rest := [.int (((v7_25 &&& (((1 : Int32) <<< (v3 &&& (31 : Int32))) ^^^ (-1 : Int32))) &&& (((1 : Int32) <<< (v4 &&& (31 : Int32))) ^^^ (-1 : Int32))) ||| (r_50 <<< (v4 &&& (31 : Int32))))]) ⟨hx, hb, hml, hown, hts⟩ (c_X10_digit l G   v7_25 v4 r_61 hc_61) (va_cwS 2 hts gX10_copies_X10_digit rfl rfl rfl eX10_digit ⟨Nat.le_of_ble_eq_true rfl, Nat.le_of_ble_eq_true rfl⟩) (preSS hK (fun k q h => by cases h)) rfl rfl hl.1 rfl (lv_room (Nat.le_of_ble_eq_true rfl)) dX10_copies_61 ⟨Nat.le_of_ble_eq_true rfl, Nat.le_of_ble_eq_true rfl⟩) ?_
              refine lv_iload_n hx hb dX10_copies_64 rfl (lv_at hl 3 rfl) ?_
              refine lv_ishl hx hb dX10_copies_65 ?_
              refine lv_ior hx hb dX10_copies_66 ?_
              refine lv_istore (lv' := [(8, .int ((((v7_25 &&& (((1 : Int32) <<< (v3 &&& (31 : Int32))) ^^^ (-1 : Int32))) &&& (((1 : Int32) <<< (v4 &&& (31 : Int32))) ^^^ (-1 : Int32))) ||| (r_50 <<< (v4 &&& (31 : Int32)))) ||| (r_61 <<< (v3 &&& (31 : Int32))))), (0, .ref m_h), (1, .int v1), (2, .int v2), (3, .int v3), (4, .int v4), (5, .int v5), (6, .int v6_13), (7, .int v7_25)]) hx hb dX10_copies_67 hl (by decide) rfl (fun ls hl => ?_)
              refine lv_aload_n hx hb dX10_copies_69 rfl (lv_at hl 1 rfl) ?_
              refine lv_iload hx hb dX10_copies_70 (lv_at hl 7 rfl) ?_
              refine lv_iload hx hb dX10_copies_72 (lv_at hl 8 rfl) ?_
              refine lv_aload_n hx hb dX10_copies_74 rfl (lv_at hl 1 rfl) ?_
              refine lv_iload_n hx hb dX10_copies_75 rfl (lv_at hl 3 rfl) ?_
              refine lv_iload hx hb dX10_copies_76 (lv_at hl 7 rfl) ?_
              refine lv_iload hx hb dX10_copies_78 (lv_at hl 0 rfl) ?_
              obtain ⟨r_80, hc_80, h⟩ := ob1_e h
              refine k_si (va_runV (As := [.int v2, .int v6_13, .int ((((v7_25 &&& (((1 : Int32) <<< (v3 &&& (31 : Int32))) ^^^ (-1 : Int32))) &&& (((1 : Int32) <<< (v4 &&& (31 : Int32))) ^^^ (-1 : Int32))) ||| (r_50 <<< (v4 &&& (31 : Int32)))) ||| (r_61 <<< (v3 &&& (31 : Int32))))]) (rest := [.int v7_25, .int v6_13, .ref m_h]) ⟨hx, hb, hml, hown, hts⟩ (c_X10_next l G m_h m_q m_onBy m_toldBy m_kindsOf m_nextOf m_holdsAt (m_kindsOf v2.toNatClampNeg) m_standsFor m_madeNext_25 m_madeHolds_13 m_stateFor m_joined m_joinedNow m_firstIn m_orderOf m_classAt m_sets m_waysTo m_waysThen m_queue m_leastTo v2 v6_13 ((((v7_25 &&& (((1 : Int32) <<< (v3 &&& (31 : Int32))) ^^^ (-1 : Int32))) &&& (((1 : Int32) <<< (v4 &&& (31 : Int32))) ^^^ (-1 : Int32))) ||| (r_50 <<< (v4 &&& (31 : Int32)))) ||| (r_61 <<< (v3 &&& (31 : Int32)))) r_80 hc_80) (cwV 3 hts gX10_copies_X10_next rfl rfl rfl ⟨rfl, eX10_next⟩ ⟨Nat.le_of_ble_eq_true rfl, Nat.le_of_ble_eq_true rfl⟩) (preSV (ci := 10) (q0 := 0) hK hP rfl rfl) rfl rfl hl.1 rfl (lv_room (Nat.le_of_ble_eq_true rfl)) dX10_copies_80 ⟨Nat.le_of_ble_eq_true rfl, Nat.le_of_ble_eq_true rfl⟩) ?_
              obtain ⟨m_madeNext_83, hc_83, h⟩ := ob1_e h
              refine k_cvA (va_runV (As := [.int v6_13, .int v7_25, .int r_80]) (rest := []) ⟨hx, hb, hml, hown, hts⟩ (c_X10_leads l G m_h m_q m_onBy m_toldBy m_kindsOf m_nextOf m_holdsAt (m_kindsOf v2.toNatClampNeg) m_standsFor m_madeNext_25 m_madeHolds_13 m_stateFor m_joined m_joinedNow m_firstIn m_orderOf m_classAt m_sets m_waysTo m_waysThen m_queue m_leastTo v6_13 v7_25 r_80 _ m_madeNext_83 hc_83) (cwV 3 hts gX10_copies_X10_leads rfl rfl rfl ⟨rfl, eX10_leads⟩ ⟨Nat.le_of_ble_eq_true rfl, Nat.le_of_ble_eq_true rfl⟩) (preWV (ci := 10) (q0 := 0) hK hP hD rfl rfl) rfl rfl hl.1 rfl (lv_room (Nat.le_of_ble_eq_true rfl)) dX10_copies_83 ⟨Nat.le_of_ble_eq_true rfl, Nat.le_of_ble_eq_true rfl⟩) hD hS hA (fun u_83 H locs hP hD hS => ?_)
              have hP : va_P G.1 vwCl (WM G m_h m_q m_onBy m_toldBy m_kindsOf m_nextOf m_holdsAt (m_kindsOf v2.toNatClampNeg) m_standsFor m_madeNext_83 m_madeHolds_13 m_stateFor m_joined m_joinedNow m_firstIn m_orderOf m_classAt m_sets m_waysTo m_waysThen m_queue m_leastTo) H := hP
              have hD : va_D A (WM G m_h m_q m_onBy m_toldBy m_kindsOf m_nextOf m_holdsAt (m_kindsOf v2.toNatClampNeg) m_standsFor m_madeNext_83 m_madeHolds_13 m_stateFor m_joined m_joinedNow m_firstIn m_orderOf m_classAt m_sets m_waysTo m_waysThen m_queue m_leastTo) := hD
              refine lv_iinc (v := (v7_25 + (1 : Int32))) (lv' := [(7, .int (v7_25 + (1 : Int32))), (8, .int ((((v7_25 &&& (((1 : Int32) <<< (v3 &&& (31 : Int32))) ^^^ (-1 : Int32))) &&& (((1 : Int32) <<< (v4 &&& (31 : Int32))) ^^^ (-1 : Int32))) ||| (r_50 <<< (v4 &&& (31 : Int32)))) ||| (r_61 <<< (v3 &&& (31 : Int32))))), (0, .ref m_h), (1, .int v1), (2, .int v2), (3, .int v3), (4, .int v4), (5, .int v5), (6, .int v6_13)]) hx hb dX10_copies_86 hl (k := 8) rfl rfl (by decide) rfl (fun ls hl => ?_)
              refine lv_goto (tgt := 25) hx hb dX10_copies_89 (by decide) ?_
              exact ih _ _  _ _ _ h hP hD hS (lv_sub hl [2, 3, 4, 5, 6, 7, 8, 0] rfl)
        exact hL25 n _ _  _ _ _ hT25 hP hD hS (lv_sub hl [1, 2, 3, 4, 5, 6, 7, 0] rfl)
  exact hL13 n _ _ _  _ _ _ hT13 hP hD hS (lv_sub hl [1, 2, 3, 4, 5, 6, 0] rfl)
abbrev rX10_not : Room := { frames := 5, cells := 0, slots := 0, locals := 124 }
set_option maxHeartbeats 4000000 in
set_option maxRecDepth 100000 in
theorem c_X10_not (l : Launch) (G : GG) (n : Nat) (m_h : Nat) (m_q : Nat → Nat) (m_onBy : AI) (m_toldBy : AI) (m_kindsOf : AI) (m_nextOf : AI) (m_holdsAt : AI) (m_made : Int32) (m_standsFor : AI) (m_madeNext : AI) (m_madeHolds : AI) (m_stateFor : AI) (m_joined : AI) (m_joinedNow : AI) (m_firstIn : AI) (m_orderOf : AI) (m_classAt : AI) (m_sets : AL) (m_waysTo : AL) (m_waysThen : AL) (m_queue : AI) (m_leastTo : AL) (v1 : Int32) (v2 : Int32) (sz : Nat) (r : Int32) (m_kindsOf_z : AI) (m_nextOf_z : AI) (m_holdsAt_z : AI) (m_made_z : Int32) (m_madeNext_z : AI) (m_madeHolds_z : AI) (m_joined_z : AI) (m_joinedNow_z : AI) (m_firstIn_z : AI) (m_orderOf_z : AI) (m_classAt_z : AI) (h : p_X10_not n m_kindsOf m_nextOf m_holdsAt m_made m_madeNext m_madeHolds m_joined m_joinedNow m_firstIn m_orderOf m_classAt v1 v2 = some (r, m_kindsOf_z, m_nextOf_z, m_holdsAt_z, m_made_z, m_madeNext_z, m_madeHolds_z, m_joined_z, m_joinedNow_z, m_firstIn_z, m_orderOf_z, m_classAt_z)) : CI l yX10_not wsX10_not rX10_not G [.ref m_h, .int v1, .int v2] (WM G m_h m_q m_onBy m_toldBy m_kindsOf m_nextOf m_holdsAt m_made m_standsFor m_madeNext m_madeHolds m_stateFor m_joined m_joinedNow m_firstIn m_orderOf m_classAt m_sets m_waysTo m_waysThen m_queue m_leastTo) sz r (fun u => WM G m_h m_q m_onBy m_toldBy m_kindsOf_z m_nextOf_z m_holdsAt_z m_made_z m_standsFor m_madeNext_z m_madeHolds_z m_stateFor m_joined_z m_joinedNow_z m_firstIn_z m_orderOf_z m_classAt_z m_sets m_waysTo m_waysThen m_queue m_leastTo) := by
  refine enterCI (cc := cX10_not) (maxL := 3) (by decide) rfl (Nat.le_of_ble_eq_true rfl) ?_
  intro p e s m args below meth c A Q hx hb hml hown hts hK hP hD hS hA hret ls hl
  have hown : s.vm.findClass RX10 = some m.cls := hown
  have hl : lv_has ls 3 [(0, .ref m_h), (1, .int v1), (2, .int v2)] := hl
  unfold p_X10_not at h
  refine lv_iload_n hx hb dX10_not_0 rfl (lv_at hl 1 rfl) ?_
  obtain ⟨r_1, hc_1, h⟩ := ob1_e h
  refine k_si (va_runS (As := [.int v1]) (rest := []) ⟨hx, hb, hml, hown, hts⟩ (c_X10_isClaim l G   v1 r_1 hc_1) (va_cwS 1 hts gX10_not_X10_isClaim rfl rfl rfl eX10_isClaim ⟨Nat.le_of_ble_eq_true rfl, Nat.le_of_ble_eq_true rfl⟩) (preSS hK (fun k q h => by cases h)) rfl rfl hl.1 rfl (lv_room (Nat.le_of_ble_eq_true rfl)) dX10_not_1 ⟨Nat.le_of_ble_eq_true rfl, Nat.le_of_ble_eq_true rfl⟩) ?_
  refine lv_if_eq (tgt := 14) hx hb dX10_not_4 (by decide) (fun c_4 => ?_) (fun c_4 => ?_)
  · replace h := (if_pos c_4).symm.trans h
    refine lv_iconst (v := -1) hx hb dX10_not_14 (by decide) ?_
    obtain ⟨rfl, rfl, rfl, rfl, rfl, rfl, rfl, rfl, rfl, rfl, rfl, rfl⟩ := oi12 h
    exact hret (fun _ => 0) _ _ _ _ _ _ _ dX10_not_15 rfl rfl hP hD hS (Nat.le_of_ble_eq_true rfl) (Nat.le_of_ble_eq_true rfl)
  · replace h := (if_neg c_4).symm.trans h
    refine lv_iload_n hx hb dX10_not_7 rfl (lv_at hl 2 rfl) ?_
    obtain ⟨r_8, hc_8, h⟩ := ob1_e h
    refine k_si (va_runS (As := [.int v2]) (rest := []) ⟨hx, hb, hml, hown, hts⟩ (c_X10_isClaim l G   v2 r_8 hc_8) (va_cwS 1 hts gX10_not_X10_isClaim rfl rfl rfl eX10_isClaim ⟨Nat.le_of_ble_eq_true rfl, Nat.le_of_ble_eq_true rfl⟩) (preSS hK (fun k q h => by cases h)) rfl rfl hl.1 rfl (lv_room (Nat.le_of_ble_eq_true rfl)) dX10_not_8 ⟨Nat.le_of_ble_eq_true rfl, Nat.le_of_ble_eq_true rfl⟩) ?_
    refine lv_if_ne (tgt := 16) hx hb dX10_not_11 (by decide) (fun c_11 => ?_) (fun c_11 => ?_)
    · replace h := (if_neg c_11).symm.trans h
      refine lv_aload_n hx hb dX10_not_16 rfl (lv_at hl 0 rfl) ?_
      refine lv_iload_n hx hb dX10_not_17 rfl (lv_at hl 2 rfl) ?_
      obtain ⟨r_18, hc_18, h⟩ := ob1_e h
      refine k_si (va_runV (As := [.int v2]) (rest := []) ⟨hx, hb, hml, hown, hts⟩ (c_X10_isThere l G m_h m_q m_onBy m_toldBy m_kindsOf m_nextOf m_holdsAt m_made m_standsFor m_madeNext m_madeHolds m_stateFor m_joined m_joinedNow m_firstIn m_orderOf m_classAt m_sets m_waysTo m_waysThen m_queue m_leastTo v2 r_18 hc_18) (cwV 1 hts gX10_not_X10_isThere rfl rfl rfl ⟨rfl, eX10_isThere⟩ ⟨Nat.le_of_ble_eq_true rfl, Nat.le_of_ble_eq_true rfl⟩) (preSV (ci := 10) (q0 := 0) hK hP rfl rfl) rfl rfl hl.1 rfl (lv_room (Nat.le_of_ble_eq_true rfl)) dX10_not_18 ⟨Nat.le_of_ble_eq_true rfl, Nat.le_of_ble_eq_true rfl⟩) ?_
      refine lv_if_eq (tgt := 36) hx hb dX10_not_21 (by decide) (fun c_21 => ?_) (fun c_21 => ?_)
      · replace h := (if_pos c_21).symm.trans h
        refine lv_bipush (v := -3) hx hb dX10_not_36 (by decide) ?_
        obtain ⟨rfl, rfl, rfl, rfl, rfl, rfl, rfl, rfl, rfl, rfl, rfl, rfl⟩ := oi12 h
        exact hret (fun _ => 0) _ _ _ _ _ _ _ dX10_not_38 rfl rfl hP hD hS (Nat.le_of_ble_eq_true rfl) (Nat.le_of_ble_eq_true rfl)
      · replace h := (if_neg c_21).symm.trans h
        refine lv_aload_n hx hb dX10_not_24 rfl (lv_at hl 0 rfl) ?_
        refine lv_iload_n hx hb dX10_not_25 rfl (lv_at hl 1 rfl) ?_
        refine lv_iload_n hx hb dX10_not_26 rfl (lv_at hl 2 rfl) ?_
        refine lv_iconst (v := 0) hx hb dX10_not_27 (by decide) ?_
        refine lv_iconst (v := 0) hx hb dX10_not_28 (by decide) ?_
        refine lv_iconst (v := 1) hx hb dX10_not_29 (by decide) ?_
        obtain ⟨r_30, m_kindsOf_30, m_nextOf_30, m_holdsAt_30, m_made_30, m_madeNext_30, m_madeHolds_30, m_joined_30, m_joinedNow_30, m_firstIn_30, m_orderOf_30, m_classAt_30, hc_30, h⟩ := ob12_e h
        refine k_ciA (va_runV (As := [.int v1, .int v2, .int (0 : Int32), .int (0 : Int32), .int (1 : Int32)]) (rest := []) ⟨hx, hb, hml, hown, hts⟩ (c_X10_copies l G n m_h m_q m_onBy m_toldBy m_kindsOf m_nextOf m_holdsAt m_made m_standsFor m_madeNext m_madeHolds m_stateFor m_joined m_joinedNow m_firstIn m_orderOf m_classAt m_sets m_waysTo m_waysThen m_queue m_leastTo v1 v2 (0 : Int32) (0 : Int32) (1 : Int32) _ r_30 m_kindsOf_30 m_nextOf_30 m_holdsAt_30 m_made_30 m_madeNext_30 m_madeHolds_30 m_joined_30 m_joinedNow_30 m_firstIn_30 m_orderOf_30 m_classAt_30 hc_30) (cwV 5 hts gX10_not_X10_copies rfl rfl rfl ⟨rfl, eX10_copies⟩ ⟨Nat.le_of_ble_eq_true rfl, Nat.le_of_ble_eq_true rfl⟩) (preWV (ci := 10) (q0 := 0) hK hP hD rfl rfl) rfl rfl hl.1 rfl (lv_room (Nat.le_of_ble_eq_true rfl)) dX10_not_30 ⟨Nat.le_of_ble_eq_true rfl, Nat.le_of_ble_eq_true rfl⟩) hD hS hA (fun u_30 H locs hP hD hS => ?_)
        have hP : va_P G.1 vwCl (WM G m_h m_q m_onBy m_toldBy m_kindsOf_30 m_nextOf_30 m_holdsAt_30 m_made_30 m_standsFor m_madeNext_30 m_madeHolds_30 m_stateFor m_joined_30 m_joinedNow_30 m_firstIn_30 m_orderOf_30 m_classAt_30 m_sets m_waysTo m_waysThen m_queue m_leastTo) H := hP
        have hD : va_D A (WM G m_h m_q m_onBy m_toldBy m_kindsOf_30 m_nextOf_30 m_holdsAt_30 m_made_30 m_standsFor m_madeNext_30 m_madeHolds_30 m_stateFor m_joined_30 m_joinedNow_30 m_firstIn_30 m_orderOf_30 m_classAt_30 m_sets m_waysTo m_waysThen m_queue m_leastTo) := hD
        refine lv_goto (tgt := 38) hx hb dX10_not_33 (by decide) ?_
        obtain ⟨rfl, rfl, rfl, rfl, rfl, rfl, rfl, rfl, rfl, rfl, rfl, rfl⟩ := oi12 h
        exact hret (fun _ => 0) _ _ _ _ _ _ _ dX10_not_38 rfl rfl hP hD hS (Nat.le_of_ble_eq_true rfl) (Nat.le_of_ble_eq_true rfl)
    · replace h := (if_pos c_11).symm.trans h
      refine lv_iconst (v := -1) hx hb dX10_not_14 (by decide) ?_
      obtain ⟨rfl, rfl, rfl, rfl, rfl, rfl, rfl, rfl, rfl, rfl, rfl, rfl⟩ := oi12 h
      exact hret (fun _ => 0) _ _ _ _ _ _ _ dX10_not_15 rfl rfl hP hD hS (Nat.le_of_ble_eq_true rfl) (Nat.le_of_ble_eq_true rfl)
abbrev rX10_swap : Room := { frames := 5, cells := 0, slots := 0, locals := 124 }
set_option maxHeartbeats 4000000 in
set_option maxRecDepth 100000 in
theorem c_X10_swap (l : Launch) (G : GG) (n : Nat) (m_h : Nat) (m_q : Nat → Nat) (m_onBy : AI) (m_toldBy : AI) (m_kindsOf : AI) (m_nextOf : AI) (m_holdsAt : AI) (m_made : Int32) (m_standsFor : AI) (m_madeNext : AI) (m_madeHolds : AI) (m_stateFor : AI) (m_joined : AI) (m_joinedNow : AI) (m_firstIn : AI) (m_orderOf : AI) (m_classAt : AI) (m_sets : AL) (m_waysTo : AL) (m_waysThen : AL) (m_queue : AI) (m_leastTo : AL) (v1 : Int32) (v2 : Int32) (v3 : Int32) (v4 : Int32) (sz : Nat) (r : Int32) (m_kindsOf_z : AI) (m_nextOf_z : AI) (m_holdsAt_z : AI) (m_made_z : Int32) (m_madeNext_z : AI) (m_madeHolds_z : AI) (m_joined_z : AI) (m_joinedNow_z : AI) (m_firstIn_z : AI) (m_orderOf_z : AI) (m_classAt_z : AI) (h : p_X10_swap n m_kindsOf m_nextOf m_holdsAt m_made m_madeNext m_madeHolds m_joined m_joinedNow m_firstIn m_orderOf m_classAt v1 v2 v3 v4 = some (r, m_kindsOf_z, m_nextOf_z, m_holdsAt_z, m_made_z, m_madeNext_z, m_madeHolds_z, m_joined_z, m_joinedNow_z, m_firstIn_z, m_orderOf_z, m_classAt_z)) : CI l yX10_swap wsX10_swap rX10_swap G [.ref m_h, .int v1, .int v2, .int v3, .int v4] (WM G m_h m_q m_onBy m_toldBy m_kindsOf m_nextOf m_holdsAt m_made m_standsFor m_madeNext m_madeHolds m_stateFor m_joined m_joinedNow m_firstIn m_orderOf m_classAt m_sets m_waysTo m_waysThen m_queue m_leastTo) sz r (fun u => WM G m_h m_q m_onBy m_toldBy m_kindsOf_z m_nextOf_z m_holdsAt_z m_made_z m_standsFor m_madeNext_z m_madeHolds_z m_stateFor m_joined_z m_joinedNow_z m_firstIn_z m_orderOf_z m_classAt_z m_sets m_waysTo m_waysThen m_queue m_leastTo) := by
  refine enterCI (cc := cX10_swap) (maxL := 5) (by decide) rfl (Nat.le_of_ble_eq_true rfl) ?_
  intro p e s m args below meth c A Q hx hb hml hown hts hK hP hD hS hA hret ls hl
  have hown : s.vm.findClass RX10 = some m.cls := hown
  have hl : lv_has ls 5 [(0, .ref m_h), (1, .int v1), (2, .int v2), (3, .int v3), (4, .int v4)] := hl
  unfold p_X10_swap at h
  refine lv_iload_n hx hb dX10_swap_0 rfl (lv_at hl 1 rfl) ?_
  obtain ⟨r_1, hc_1, h⟩ := ob1_e h
  refine k_si (va_runS (As := [.int v1]) (rest := []) ⟨hx, hb, hml, hown, hts⟩ (c_X10_isClaim l G   v1 r_1 hc_1) (va_cwS 1 hts gX10_swap_X10_isClaim rfl rfl rfl eX10_isClaim ⟨Nat.le_of_ble_eq_true rfl, Nat.le_of_ble_eq_true rfl⟩) (preSS hK (fun k q h => by cases h)) rfl rfl hl.1 rfl (lv_room (Nat.le_of_ble_eq_true rfl)) dX10_swap_1 ⟨Nat.le_of_ble_eq_true rfl, Nat.le_of_ble_eq_true rfl⟩) ?_
  refine lv_if_eq (tgt := 23) hx hb dX10_swap_4 (by decide) (fun c_4 => ?_) (fun c_4 => ?_)
  · replace h := (if_pos c_4).symm.trans h
    refine lv_iconst (v := -1) hx hb dX10_swap_23 (by decide) ?_
    obtain ⟨rfl, rfl, rfl, rfl, rfl, rfl, rfl, rfl, rfl, rfl, rfl, rfl⟩ := oi12 h
    exact hret (fun _ => 0) _ _ _ _ _ _ _ dX10_swap_24 rfl rfl hP hD hS (Nat.le_of_ble_eq_true rfl) (Nat.le_of_ble_eq_true rfl)
  · replace h := (if_neg c_4).symm.trans h
    refine lv_iload_n hx hb dX10_swap_7 rfl (lv_at hl 2 rfl) ?_
    obtain ⟨r_8, hc_8, h⟩ := ob1_e h
    refine k_si (va_runS (As := [.int v2]) (rest := []) ⟨hx, hb, hml, hown, hts⟩ (c_X10_isClaim l G   v2 r_8 hc_8) (va_cwS 1 hts gX10_swap_X10_isClaim rfl rfl rfl eX10_isClaim ⟨Nat.le_of_ble_eq_true rfl, Nat.le_of_ble_eq_true rfl⟩) (preSS hK (fun k q h => by cases h)) rfl rfl hl.1 rfl (lv_room (Nat.le_of_ble_eq_true rfl)) dX10_swap_8 ⟨Nat.le_of_ble_eq_true rfl, Nat.le_of_ble_eq_true rfl⟩) ?_
    refine lv_if_eq (tgt := 23) hx hb dX10_swap_11 (by decide) (fun c_11 => ?_) (fun c_11 => ?_)
    · replace h := (if_pos c_11).symm.trans h
      refine lv_iconst (v := -1) hx hb dX10_swap_23 (by decide) ?_
      obtain ⟨rfl, rfl, rfl, rfl, rfl, rfl, rfl, rfl, rfl, rfl, rfl, rfl⟩ := oi12 h
      exact hret (fun _ => 0) _ _ _ _ _ _ _ dX10_swap_24 rfl rfl hP hD hS (Nat.le_of_ble_eq_true rfl) (Nat.le_of_ble_eq_true rfl)
    · replace h := (if_neg c_11).symm.trans h
      refine lv_iload_n hx hb dX10_swap_14 rfl (lv_at hl 3 rfl) ?_
      refine lv_iload hx hb dX10_swap_15 (lv_at hl 4 rfl) ?_
      obtain ⟨r_17, hc_17, h⟩ := ob1_e h
      refine k_si (va_runS (As := [.int v3, .int v4]) (rest := []) ⟨hx, hb, hml, hown, hts⟩ (c_X10_areTwo l G   v3 v4 r_17 hc_17) (va_cwS 2 hts gX10_swap_X10_areTwo rfl rfl rfl eX10_areTwo ⟨Nat.le_of_ble_eq_true rfl, Nat.le_of_ble_eq_true rfl⟩) (preSS hK (fun k q h => by cases h)) rfl rfl hl.1 rfl (lv_room (Nat.le_of_ble_eq_true rfl)) dX10_swap_17 ⟨Nat.le_of_ble_eq_true rfl, Nat.le_of_ble_eq_true rfl⟩) ?_
      refine lv_if_ne (tgt := 25) hx hb dX10_swap_20 (by decide) (fun c_20 => ?_) (fun c_20 => ?_)
      · replace h := (if_neg c_20).symm.trans h
        refine lv_aload_n hx hb dX10_swap_25 rfl (lv_at hl 0 rfl) ?_
        refine lv_iload_n hx hb dX10_swap_26 rfl (lv_at hl 2 rfl) ?_
        obtain ⟨r_27, hc_27, h⟩ := ob1_e h
        refine k_si (va_runV (As := [.int v2]) (rest := []) ⟨hx, hb, hml, hown, hts⟩ (c_X10_isThere l G m_h m_q m_onBy m_toldBy m_kindsOf m_nextOf m_holdsAt m_made m_standsFor m_madeNext m_madeHolds m_stateFor m_joined m_joinedNow m_firstIn m_orderOf m_classAt m_sets m_waysTo m_waysThen m_queue m_leastTo v2 r_27 hc_27) (cwV 1 hts gX10_swap_X10_isThere rfl rfl rfl ⟨rfl, eX10_isThere⟩ ⟨Nat.le_of_ble_eq_true rfl, Nat.le_of_ble_eq_true rfl⟩) (preSV (ci := 10) (q0 := 0) hK hP rfl rfl) rfl rfl hl.1 rfl (lv_room (Nat.le_of_ble_eq_true rfl)) dX10_swap_27 ⟨Nat.le_of_ble_eq_true rfl, Nat.le_of_ble_eq_true rfl⟩) ?_
        refine lv_if_eq (tgt := 46) hx hb dX10_swap_30 (by decide) (fun c_30 => ?_) (fun c_30 => ?_)
        · replace h := (if_pos c_30).symm.trans h
          refine lv_bipush (v := -3) hx hb dX10_swap_46 (by decide) ?_
          obtain ⟨rfl, rfl, rfl, rfl, rfl, rfl, rfl, rfl, rfl, rfl, rfl, rfl⟩ := oi12 h
          exact hret (fun _ => 0) _ _ _ _ _ _ _ dX10_swap_48 rfl rfl hP hD hS (Nat.le_of_ble_eq_true rfl) (Nat.le_of_ble_eq_true rfl)
        · replace h := (if_neg c_30).symm.trans h
          refine lv_aload_n hx hb dX10_swap_33 rfl (lv_at hl 0 rfl) ?_
          refine lv_iload_n hx hb dX10_swap_34 rfl (lv_at hl 1 rfl) ?_
          refine lv_iload_n hx hb dX10_swap_35 rfl (lv_at hl 2 rfl) ?_
          refine lv_iload_n hx hb dX10_swap_36 rfl (lv_at hl 3 rfl) ?_
          refine lv_iload hx hb dX10_swap_37 (lv_at hl 4 rfl) ?_
          refine lv_iconst (v := 0) hx hb dX10_swap_39 (by decide) ?_
          obtain ⟨r_40, m_kindsOf_40, m_nextOf_40, m_holdsAt_40, m_made_40, m_madeNext_40, m_madeHolds_40, m_joined_40, m_joinedNow_40, m_firstIn_40, m_orderOf_40, m_classAt_40, hc_40, h⟩ := ob12_e h
          refine k_ciA (va_runV (As := [.int v1, .int v2, .int v3, .int v4, .int (0 : Int32)]) (rest := []) ⟨hx, hb, hml, hown, hts⟩ (c_X10_copies l G n m_h m_q m_onBy m_toldBy m_kindsOf m_nextOf m_holdsAt m_made m_standsFor m_madeNext m_madeHolds m_stateFor m_joined m_joinedNow m_firstIn m_orderOf m_classAt m_sets m_waysTo m_waysThen m_queue m_leastTo v1 v2 v3 v4 (0 : Int32) _ r_40 m_kindsOf_40 m_nextOf_40 m_holdsAt_40 m_made_40 m_madeNext_40 m_madeHolds_40 m_joined_40 m_joinedNow_40 m_firstIn_40 m_orderOf_40 m_classAt_40 hc_40) (cwV 5 hts gX10_swap_X10_copies rfl rfl rfl ⟨rfl, eX10_copies⟩ ⟨Nat.le_of_ble_eq_true rfl, Nat.le_of_ble_eq_true rfl⟩) (preWV (ci := 10) (q0 := 0) hK hP hD rfl rfl) rfl rfl hl.1 rfl (lv_room (Nat.le_of_ble_eq_true rfl)) dX10_swap_40 ⟨Nat.le_of_ble_eq_true rfl, Nat.le_of_ble_eq_true rfl⟩) hD hS hA (fun u_40 H locs hP hD hS => ?_)
          have hP : va_P G.1 vwCl (WM G m_h m_q m_onBy m_toldBy m_kindsOf_40 m_nextOf_40 m_holdsAt_40 m_made_40 m_standsFor m_madeNext_40 m_madeHolds_40 m_stateFor m_joined_40 m_joinedNow_40 m_firstIn_40 m_orderOf_40 m_classAt_40 m_sets m_waysTo m_waysThen m_queue m_leastTo) H := hP
          have hD : va_D A (WM G m_h m_q m_onBy m_toldBy m_kindsOf_40 m_nextOf_40 m_holdsAt_40 m_made_40 m_standsFor m_madeNext_40 m_madeHolds_40 m_stateFor m_joined_40 m_joinedNow_40 m_firstIn_40 m_orderOf_40 m_classAt_40 m_sets m_waysTo m_waysThen m_queue m_leastTo) := hD
          refine lv_goto (tgt := 48) hx hb dX10_swap_43 (by decide) ?_
          obtain ⟨rfl, rfl, rfl, rfl, rfl, rfl, rfl, rfl, rfl, rfl, rfl, rfl⟩ := oi12 h
          exact hret (fun _ => 0) _ _ _ _ _ _ _ dX10_swap_48 rfl rfl hP hD hS (Nat.le_of_ble_eq_true rfl) (Nat.le_of_ble_eq_true rfl)
      · replace h := (if_pos c_20).symm.trans h
        refine lv_iconst (v := -1) hx hb dX10_swap_23 (by decide) ?_
        obtain ⟨rfl, rfl, rfl, rfl, rfl, rfl, rfl, rfl, rfl, rfl, rfl, rfl⟩ := oi12 h
        exact hret (fun _ => 0) _ _ _ _ _ _ _ dX10_swap_24 rfl rfl hP hD hS (Nat.le_of_ble_eq_true rfl) (Nat.le_of_ble_eq_true rfl)
abbrev rX10_setOf : Room := { frames := 0, cells := 0, slots := 0, locals := 0 }
set_option maxHeartbeats 4000000 in
set_option maxRecDepth 100000 in
theorem c_X10_setOf (l : Launch) (G : GG) (n : Nat) (m_h : Nat) (m_q : Nat → Nat) (m_onBy : AI) (m_toldBy : AI) (m_kindsOf : AI) (m_nextOf : AI) (m_holdsAt : AI) (m_made : Int32) (m_standsFor : AI) (m_madeNext : AI) (m_madeHolds : AI) (m_stateFor : AI) (m_joined : AI) (m_joinedNow : AI) (m_firstIn : AI) (m_orderOf : AI) (m_classAt : AI) (m_sets : AL) (m_waysTo : AL) (m_waysThen : AL) (m_queue : AI) (m_leastTo : AL) (v1 : Int64) (sz : Nat) (r : Int32) (m_made_z : Int32) (m_sets_z : AL) (h : p_X10_setOf n m_made m_sets v1 = some (r, m_made_z, m_sets_z)) : CI l yX10_setOf wsX10_setOf rX10_setOf G [.ref m_h, .long v1] (WM G m_h m_q m_onBy m_toldBy m_kindsOf m_nextOf m_holdsAt m_made m_standsFor m_madeNext m_madeHolds m_stateFor m_joined m_joinedNow m_firstIn m_orderOf m_classAt m_sets m_waysTo m_waysThen m_queue m_leastTo) sz r (fun u => WM G m_h m_q m_onBy m_toldBy m_kindsOf m_nextOf m_holdsAt m_made_z m_standsFor m_madeNext m_madeHolds m_stateFor m_joined m_joinedNow m_firstIn m_orderOf m_classAt m_sets_z m_waysTo m_waysThen m_queue m_leastTo) := by
  refine enterCI (cc := cX10_setOf) (maxL := 4) (by decide) rfl (Nat.le_of_ble_eq_true rfl) ?_
  intro p e s m args below meth c A Q hx hb hml hown hts hK hP hD hS hA hret ls hl
  have hown : s.vm.findClass RX10 = some m.cls := hown
  have hf53 := hts (.fieldLink RX10 53 "DigitClaimsModel" "sets" "[J") (by decide +kernel)
  have hf81 := hts (.fieldLink RX10 81 "DigitClaimsModel" "made" "I") (by decide +kernel)
  have hinX10 : ∀ w ∈ wsX100, w ∈ wsX10_setOf := by decide +kernel
  have hl : lv_has ls 4 [(0, .ref m_h), (1, .long v1)] := hl
  unfold p_X10_setOf at h
  refine lv_iconst (v := 0) hx hb dX10_setOf_0 (by decide) ?_
  refine lv_istore_n (lv' := [(3, .int (0 : Int32)), (0, .ref m_h), (1, .long v1)]) hx hb dX10_setOf_1 rfl hl (by decide) rfl (fun ls hl => ?_)
  obtain ⟨o_2, hT2, hd2⟩ := obS0_e h
  have hX2 : ∀   (H : Heap) (locs : List Loc) (ls : Array Slot), some (Sum.inr ()) = some o_2 → va_P G.1 vwCl (WM G m_h m_q m_onBy m_toldBy m_kindsOf m_nextOf m_holdsAt m_made m_standsFor m_madeNext m_madeHolds m_stateFor m_joined m_joinedNow m_firstIn m_orderOf m_classAt m_sets m_waysTo m_waysThen m_queue m_leastTo) H → va_D A (WM G m_h m_q m_onBy m_toldBy m_kindsOf m_nextOf m_holdsAt m_made m_standsFor m_madeNext m_madeHolds m_stateFor m_joined m_joinedNow m_firstIn m_orderOf m_classAt m_sets m_waysTo m_waysThen m_queue m_leastTo) → va_S A s.heap H locs → lv_has ls 4 [(0, .ref m_h), (1, .long v1)] → W p l e rX10_setOf s m args below meth c H locs 0 0 Q (F0 m 29 ls []) := by
    intro  H locs ls hq hP hD hS hl
    rcases hd2 with ⟨x, hx1, h⟩ | ⟨hx1, h⟩
    · rw [hx1] at hq; cases hq
    rw [hx1] at hq
    refine lv_aload_n hx hb dX10_setOf_29 rfl (lv_at hl 0 rfl) ?_
    refine va_get (D := G.1) (ci := 10) (v := .int m_made) (C := RX10) (T := TX10) (N := 20) hx hb hts hinX10 hown hK.1 hP 0 rfl rfl 5 (by decide) hf81 (fun _ h9 => h9) rfl dX10_setOf_30 ?_
    refine lv_sipush (v := 300) hx hb dX10_setOf_33 (by decide) ?_
    refine lv_icmp_ne (tgt := 42) hx hb dX10_setOf_36 (by decide) (fun c_36 => ?_) (fun c_36 => ?_)
    · replace h := (if_neg c_36).symm.trans h
      refine lv_aload_n hx hb dX10_setOf_42 rfl (lv_at hl 0 rfl) ?_
      refine va_get (D := G.1) (ci := 10) (v := .ref (m_q 14)) (C := RX10) (T := TX10) (N := 20) hx hb hts hinX10 hown hK.1 hP 0 rfl rfl 15 (by decide) hf53 (fun _ h9 => h9) rfl dX10_setOf_43 ?_
      refine lv_aload_n hx hb dX10_setOf_46 rfl (lv_at hl 0 rfl) ?_
      refine va_get (D := G.1) (ci := 10) (v := .int m_made) (C := RX10) (T := TX10) (N := 20) hx hb hts hinX10 hown hK.1 hP 0 rfl rfl 5 (by decide) hf81 (fun _ h9 => h9) rfl dX10_setOf_47 ?_
      refine lv_lload_n hx hb dX10_setOf_50 rfl (lv_at hl 1 rfl) ?_
      obtain ⟨g_51, h⟩ := gi_e h
      refine va_last hx hb hK.1 hP hD hS 15 2 rfl rfl g_51 dX10_setOf_51 (fun H locs hP hD hS => ?_)
      have hP : va_P G.1 vwCl (WM G m_h m_q m_onBy m_toldBy m_kindsOf m_nextOf m_holdsAt m_made m_standsFor m_madeNext m_madeHolds m_stateFor m_joined m_joinedNow m_firstIn m_orderOf m_classAt (vp_updL m_sets m_made.toNatClampNeg v1) m_waysTo m_waysThen m_queue m_leastTo) H := hP
      have hD : va_D A (WM G m_h m_q m_onBy m_toldBy m_kindsOf m_nextOf m_holdsAt m_made m_standsFor m_madeNext m_madeHolds m_stateFor m_joined m_joinedNow m_firstIn m_orderOf m_classAt (vp_updL m_sets m_made.toNatClampNeg v1) m_waysTo m_waysThen m_queue m_leastTo) := hD
      refine lv_aload_n hx hb dX10_setOf_52 rfl (lv_at hl 0 rfl) ?_
      refine lv_dup hx hb dX10_setOf_53 rfl ?_
      refine va_get (D := G.1) (ci := 10) (v := .int m_made) (C := RX10) (T := TX10) (N := 20) hx hb hts hinX10 hown hK.1 hP 0 rfl rfl 5 (by decide) hf81 (fun _ h9 => h9) rfl dX10_setOf_54 ?_
      refine lv_iconst (v := 1) hx hb dX10_setOf_57 (by decide) ?_
      refine lv_iadd hx hb dX10_setOf_58 ?_
      refine va_put (D := G.1) (ci := 10) (v := .int (m_made + (1 : Int32))) (ty := .int) (C := RX10) (T := TX10) (N := 20) hx hb hts hinX10 tyX10 tyX10_ok nmX10 hown hK.1 hP hD hS 0 rfl rfl 5 (by decide) hf81 (fun _ h9 => h9) rfl (by decide +kernel) rfl rfl (Nat.le_of_ble_eq_true rfl) dX10_setOf_59 (fun H locs hP hD hS => ?_)
      have hP : va_P G.1 vwCl (WM G m_h m_q m_onBy m_toldBy m_kindsOf m_nextOf m_holdsAt (m_made + (1 : Int32)) m_standsFor m_madeNext m_madeHolds m_stateFor m_joined m_joinedNow m_firstIn m_orderOf m_classAt (vp_updL m_sets m_made.toNatClampNeg v1) m_waysTo m_waysThen m_queue m_leastTo) H := hP
      have hD : va_D A (WM G m_h m_q m_onBy m_toldBy m_kindsOf m_nextOf m_holdsAt (m_made + (1 : Int32)) m_standsFor m_madeNext m_madeHolds m_stateFor m_joined m_joinedNow m_firstIn m_orderOf m_classAt (vp_updL m_sets m_made.toNatClampNeg v1) m_waysTo m_waysThen m_queue m_leastTo) := hD
      refine lv_aload_n hx hb dX10_setOf_62 rfl (lv_at hl 0 rfl) ?_
      refine va_get (D := G.1) (ci := 10) (v := .int (m_made + (1 : Int32))) (C := RX10) (T := TX10) (N := 20) hx hb hts hinX10 hown hK.1 hP 0 rfl rfl 5 (by decide) hf81 (fun _ h9 => h9) rfl dX10_setOf_63 ?_
      refine lv_iconst (v := 1) hx hb dX10_setOf_66 (by decide) ?_
      refine lv_isub hx hb dX10_setOf_67 ?_
      obtain ⟨rfl, rfl, rfl⟩ := oi3 h
      exact hret (fun _ => 0) _ _ _ _ _ _ _ dX10_setOf_68 rfl rfl hP hD hS (Nat.le_of_ble_eq_true rfl) (Nat.le_of_ble_eq_true rfl)
    · replace h := (if_pos c_36).symm.trans h
      refine lv_bipush (v := -9) hx hb dX10_setOf_39 (by decide) ?_
      obtain ⟨rfl, rfl, rfl⟩ := oi3 h
      exact hret (fun _ => 0) _ _ _ _ _ _ _ dX10_setOf_41 rfl rfl hP hD hS (Nat.le_of_ble_eq_true rfl) (Nat.le_of_ble_eq_true rfl)
  have hL2 : ∀ (f : Nat) (v3_2 : Int32)  (H : Heap) (locs : List Loc) (ls : Array Slot), p_X10_setOf_L2 m_made m_sets v1 f v3_2 = some o_2 → va_P G.1 vwCl (WM G m_h m_q m_onBy m_toldBy m_kindsOf m_nextOf m_holdsAt m_made m_standsFor m_madeNext m_madeHolds m_stateFor m_joined m_joinedNow m_firstIn m_orderOf m_classAt m_sets m_waysTo m_waysThen m_queue m_leastTo) H → va_D A (WM G m_h m_q m_onBy m_toldBy m_kindsOf m_nextOf m_holdsAt m_made m_standsFor m_madeNext m_madeHolds m_stateFor m_joined m_joinedNow m_firstIn m_orderOf m_classAt m_sets m_waysTo m_waysThen m_queue m_leastTo) → va_S A s.heap H locs → lv_has ls 4 [(0, .ref m_h), (1, .long v1), (3, .int v3_2)] → W p l e rX10_setOf s m args below meth c H locs 0 0 Q (F0 m 2 ls []) := by
    intro f
    induction f with
    | zero => intro v3_2 H locs ls h hP hD hS hl; cases (show none = some _ from h)
    | succ f ih =>
      intro v3_2 H locs ls h hP hD hS hl
      rw [p_X10_setOf_L2] at h
      refine lv_iload_n hx hb dX10_setOf_2 rfl (lv_at hl 2 rfl) ?_
      refine lv_aload_n hx hb dX10_setOf_3 rfl (lv_at hl 0 rfl) ?_
      refine va_get (D := G.1) (ci := 10) (v := .int m_made) (C := RX10) (T := TX10) (N := 20) hx hb hts hinX10 hown hK.1 hP 0 rfl rfl 5 (by decide) hf81 (fun _ h9 => h9) rfl dX10_setOf_4 ?_
      refine lv_icmp_ge (tgt := 29) hx hb dX10_setOf_7 (by decide) (fun c_7 => ?_) (fun c_7 => ?_)
      · replace h := (if_pos c_7).symm.trans h
        exact hX2   _ _ _ h hP hD hS (lv_sub hl [0, 1] rfl)
      · replace h := (if_neg c_7).symm.trans h
        refine lv_aload_n hx hb dX10_setOf_10 rfl (lv_at hl 0 rfl) ?_
        refine va_get (D := G.1) (ci := 10) (v := .ref (m_q 14)) (C := RX10) (T := TX10) (N := 20) hx hb hts hinX10 hown hK.1 hP 0 rfl rfl 15 (by decide) hf53 (fun _ h9 => h9) rfl dX10_setOf_11 ?_
        refine lv_iload_n hx hb dX10_setOf_14 rfl (lv_at hl 2 rfl) ?_
        obtain ⟨g_15, h⟩ := gi_e h
        refine va_lald hx hb hK.1 hP 15 2 rfl rfl g_15 dX10_setOf_15 ?_
        refine lv_lload_n hx hb dX10_setOf_16 rfl (lv_at hl 1 rfl) ?_
        refine W.lcmp hx hb dX10_setOf_17 ?_
        refine lv_if_ne (tgt := 23) hx hb dX10_setOf_18 (by decide) (fun c_18 => ?_) (fun c_18 => ?_)
        · replace h := (if_neg c_18).symm.trans h
          refine lv_iinc (v := (v3_2 + (1 : Int32))) (lv' := [(3, .int (v3_2 + (1 : Int32))), (0, .ref m_h), (1, .long v1)]) hx hb dX10_setOf_23 hl (k := 2) rfl rfl (by decide) rfl (fun ls hl => ?_)
          refine lv_goto (tgt := 2) hx hb dX10_setOf_26 (by decide) ?_
          exact ih _  _ _ _ h hP hD hS (lv_sub hl [1, 2, 0] rfl)
        · replace h := (if_pos c_18).symm.trans h
          refine lv_iload_n hx hb dX10_setOf_21 rfl (lv_at hl 2 rfl) ?_
          rcases hd2 with ⟨x, hx1, h2⟩ | ⟨hx1, _⟩
          · rw [hx1] at h
            have hx2 := oiL h
            rw [hx2] at h2
            replace h := h2
            obtain ⟨rfl, rfl, rfl⟩ := oi3 h
            exact hret (fun _ => 0) _ _ _ _ _ _ _ dX10_setOf_22 rfl rfl hP hD hS (Nat.le_of_ble_eq_true rfl) (Nat.le_of_ble_eq_true rfl)
          · rw [hx1] at h; cases h
  exact hL2 n _  _ _ _ hT2 hP hD hS (lv_sub hl [1, 2, 0] rfl)
abbrev rX10_isIn : Room := { frames := 0, cells := 0, slots := 0, locals := 0 }
set_option maxHeartbeats 4000000 in
set_option maxRecDepth 100000 in
theorem c_X10_isIn (l : Launch) (G : GG)   (v0 : Int64) (v2 : Int32) (r : Int32) (h : p_X10_isIn v0 v2 = some r) : SI l yX10_isIn wsX10_isIn rX10_isIn G [.long v0, .int v2] (([] : va_W)) r := by
  refine enterSI (cc := cX10_isIn) (maxL := 3) (by decide) rfl (Nat.le_of_ble_eq_true rfl) ?_
  intro p e s m args below meth c Q hx hb hml hown hts hK hP hret ls hl
  have hown : s.vm.findClass RX10 = some m.cls := hown
  have hl : lv_has ls 3 [(0, .long v0), (2, .int v2)] := hl
  unfold p_X10_isIn at h
  refine lv_lload_n hx hb dX10_isIn_0 rfl (lv_at hl 0 rfl) ?_
  refine lv_iload_n hx hb dX10_isIn_1 rfl (lv_at hl 1 rfl) ?_
  refine lv_lshr (v := (v0 >>> (v2.toInt64 &&& (63 : Int64)))) hx hb dX10_isIn_2 rfl ?_
  refine lv_lconst (v := 1) hx hb dX10_isIn_3 (by decide) ?_
  refine lv_land hx hb dX10_isIn_4 ?_
  refine lv_lconst (v := 1) hx hb dX10_isIn_5 (by decide) ?_
  refine W.lcmp hx hb dX10_isIn_6 ?_
  refine lv_if_ne (tgt := 14) hx hb dX10_isIn_7 (by decide) (fun c_7 => ?_) (fun c_7 => ?_)
  · replace h := (if_neg c_7).symm.trans h
    refine lv_iconst (v := 0) hx hb dX10_isIn_14 (by decide) ?_
    obtain ⟨gbv, h⟩ := gb_e h
    obtain rfl := oi1 h
    exact hret _ _ _ dX10_isIn_15 rfl (nb gbv)
  · replace h := (if_pos c_7).symm.trans h
    refine lv_iconst (v := 1) hx hb dX10_isIn_10 (by decide) ?_
    refine lv_goto (tgt := 15) hx hb dX10_isIn_11 (by decide) ?_
    obtain ⟨gbv, h⟩ := gb_e h
    obtain rfl := oi1 h
    exact hret _ _ _ dX10_isIn_15 rfl (nb gbv)
abbrev rX10_goesOn : Room := { frames := 1, cells := 0, slots := 0, locals := 23 }
set_option maxHeartbeats 4000000 in
set_option maxRecDepth 100000 in
theorem c_X10_goesOn (l : Launch) (G : GG) (n : Nat) (m_h : Nat) (m_q : Nat → Nat) (m_onBy : AI) (m_toldBy : AI) (m_kindsOf : AI) (m_nextOf : AI) (m_holdsAt : AI) (m_made : Int32) (m_standsFor : AI) (m_madeNext : AI) (m_madeHolds : AI) (m_stateFor : AI) (m_joined : AI) (m_joinedNow : AI) (m_firstIn : AI) (m_orderOf : AI) (m_classAt : AI) (m_sets : AL) (m_waysTo : AL) (m_waysThen : AL) (m_queue : AI) (m_leastTo : AL) (v1 : Int32) (v2 : Int64) (v4 : Int32) (v5 : Int32) (r : Int64) (h : p_X10_goesOn n m_kindsOf m_nextOf v1 v2 v4 v5 = some r) : SL l yX10_goesOn wsX10_goesOn rX10_goesOn G [.ref m_h, .int v1, .long v2, .int v4, .int v5] (WM G m_h m_q m_onBy m_toldBy m_kindsOf m_nextOf m_holdsAt m_made m_standsFor m_madeNext m_madeHolds m_stateFor m_joined m_joinedNow m_firstIn m_orderOf m_classAt m_sets m_waysTo m_waysThen m_queue m_leastTo) r := by
  refine enterSL (cc := cX10_goesOn) (maxL := 9) (by decide) rfl (Nat.le_of_ble_eq_true rfl) ?_
  intro p e s m args below meth c Q hx hb hml hown hts hK hP hret ls hl
  have hown : s.vm.findClass RX10 = some m.cls := hown
  have hf16 := hts (.fieldLink RX10 16 "DigitClaimsModel" "kindsOf" "[I") (by decide +kernel)
  have hinX10 : ∀ w ∈ wsX100, w ∈ wsX10_goesOn := by decide +kernel
  have hl : lv_has ls 9 [(0, .ref m_h), (1, .int v1), (2, .long v2), (4, .int v4), (5, .int v5)] := hl
  unfold p_X10_goesOn at h
  refine lv_lconst (v := 0) hx hb dX10_goesOn_0 (by decide) ?_
  refine lv_lstore (lv' := [(6, .long (0 : Int64)), (0, .ref m_h), (1, .int v1), (2, .long v2), (4, .int v4), (5, .int v5)]) hx hb dX10_goesOn_1 hl (by decide) rfl (fun ls hl => ?_)
  refine lv_iconst (v := 0) hx hb dX10_goesOn_3 (by decide) ?_
  refine lv_istore (lv' := [(8, .int (0 : Int32)), (6, .long (0 : Int64)), (0, .ref m_h), (1, .int v1), (2, .long v2), (4, .int v4), (5, .int v5)]) hx hb dX10_goesOn_4 hl (by decide) rfl (fun ls hl => ?_)
  obtain ⟨o6_6, hT6, h⟩ := ob1_e h
  have hX6 : ∀ (x6_6 : Int64)  (ls : Array Slot), some x6_6 = some o6_6 → lv_has ls 9 [(6, .long x6_6)] → W p l e rX10_goesOn s m args below meth c s.heap [] 0 0 Q (F0 m 69 ls []) := by
    intro x6_6 ls hq hl
    obtain rfl := oi1 hq
    refine lv_lload hx hb dX10_goesOn_69 (lv_at hl 0 rfl) ?_
    obtain rfl := oi1 h
    exact hret _ _ _ dX10_goesOn_71 rfl
  have hL6 : ∀ (f : Nat) (v6_6 : Int64) (v8_6 : Int32)  (ls : Array Slot), p_X10_goesOn_L6 v1 m_kindsOf v2 m_nextOf v4 v5 f v6_6 v8_6 = some o6_6 → lv_has ls 9 [(0, .ref m_h), (1, .int v1), (2, .long v2), (4, .int v4), (5, .int v5), (6, .long v6_6), (8, .int v8_6)] → W p l e rX10_goesOn s m args below meth c s.heap [] 0 0 Q (F0 m 6 ls []) := by
    intro f
    induction f with
    | zero => intro v6_6 v8_6 ls h hl; cases (show none = some _ from h)
    | succ f ih =>
      intro v6_6 v8_6 ls h hl
      rw [p_X10_goesOn_L6] at h
      refine lv_iload hx hb dX10_goesOn_6 (lv_at hl 6 rfl) ?_
      refine lv_aload_n hx hb dX10_goesOn_8 rfl (lv_at hl 0 rfl) ?_
      refine va_get (D := G.1) (ci := 10) (v := .ref (m_q 2)) (C := RX10) (T := TX10) (N := 20) hx hb hts hinX10 hown hK.1 hP 0 rfl rfl 2 (by decide) hf16 (fun _ h9 => h9) rfl dX10_goesOn_9 ?_
      refine lv_iload_n hx hb dX10_goesOn_12 rfl (lv_at hl 1 rfl) ?_
      obtain ⟨g_13, h⟩ := gi_e h
      refine va_iald hx hb hK.1 hP 3 0 rfl rfl g_13 dX10_goesOn_13 ?_
      refine lv_icmp_ge (tgt := 69) hx hb dX10_goesOn_14 (by decide) (fun c_14 => ?_) (fun c_14 => ?_)
      · replace h := (if_pos c_14).symm.trans h
        exact hX6 _  _ h (lv_sub hl [5] rfl)
      · replace h := (if_neg c_14).symm.trans h
        refine lv_lload_n hx hb dX10_goesOn_17 rfl (lv_at hl 2 rfl) ?_
        refine lv_iload hx hb dX10_goesOn_18 (lv_at hl 6 rfl) ?_
        obtain ⟨r_20, hc_20, h⟩ := ob1_e h
        refine k_si (va_runS (As := [.long v2, .int v8_6]) (rest := []) ⟨hx, hb, hml, hown, hts⟩ (c_X10_isIn l G   v2 v8_6 r_20 hc_20) (va_cwS 2 hts gX10_goesOn_X10_isIn rfl rfl rfl eX10_isIn ⟨Nat.le_of_ble_eq_true rfl, Nat.le_of_ble_eq_true rfl⟩) (preSS hK (fun k q h => by cases h)) rfl rfl hl.1 rfl (lv_room (Nat.le_of_ble_eq_true rfl)) dX10_goesOn_20 ⟨Nat.le_of_ble_eq_true rfl, Nat.le_of_ble_eq_true rfl⟩) ?_
        obtain ⟨v6_j23, hT23, h⟩ := ob1_e h
        have hJ23 : ∀ (v6_j23x : Int64)  (ls : Array Slot), some v6_j23x = some v6_j23 → lv_has ls 9 [(0, .ref m_h), (1, .int v1), (2, .long v2), (4, .int v4), (5, .int v5), (6, .long v6_j23x), (8, .int v8_6)] → W p l e rX10_goesOn s m args below meth c s.heap [] 0 0 Q (F0 m 63 ls []) := by
          intro v6_j23x ls hq hl
          obtain rfl := oi1 hq
          refine lv_iinc (v := (v8_6 + (1 : Int32))) (lv' := [(8, .int (v8_6 + (1 : Int32))), (0, .ref m_h), (1, .int v1), (2, .long v2), (4, .int v4), (5, .int v5), (6, .long v6_j23)]) hx hb dX10_goesOn_63 hl (k := 6) rfl rfl (by decide) rfl (fun ls hl => ?_)
          refine lv_goto (tgt := 6) hx hb dX10_goesOn_66 (by decide) ?_
          exact ih _ _  _ h (lv_sub hl [1, 2, 3, 4, 5, 6, 0] rfl)
        replace h := hT23
        refine lv_if_eq (tgt := 63) hx hb dX10_goesOn_23 (by decide) (fun c_23 => ?_) (fun c_23 => ?_)
        · replace h := (if_pos c_23).symm.trans h
          exact hJ23 _  _ h (lv_sub hl [0, 1, 2, 3, 4, 5, 6] rfl)
        · replace h := (if_neg c_23).symm.trans h
          refine lv_lload hx hb dX10_goesOn_26 (lv_at hl 5 rfl) ?_
          refine lv_lconst (v := 1) hx hb dX10_goesOn_28 (by decide) ?_
          refine lv_aload_n hx hb dX10_goesOn_29 rfl (lv_at hl 0 rfl) ?_
          refine lv_iload_n hx hb dX10_goesOn_30 rfl (lv_at hl 1 rfl) ?_
          refine lv_iload hx hb dX10_goesOn_31 (lv_at hl 6 rfl) ?_
          refine lv_iload hx hb dX10_goesOn_33 (lv_at hl 3 rfl) ?_
          obtain ⟨r_35, hc_35, h⟩ := ob1_e h
          refine k_si (va_runV (As := [.int v1, .int v8_6, .int v4]) (rest := [.long (1 : Int64), .long v6_6]) ⟨hx, hb, hml, hown, hts⟩ (c_X10_next l G m_h m_q m_onBy m_toldBy m_kindsOf m_nextOf m_holdsAt m_made m_standsFor m_madeNext m_madeHolds m_stateFor m_joined m_joinedNow m_firstIn m_orderOf m_classAt m_sets m_waysTo m_waysThen m_queue m_leastTo v1 v8_6 v4 r_35 hc_35) (cwV 3 hts gX10_goesOn_X10_next rfl rfl rfl ⟨rfl, eX10_next⟩ ⟨Nat.le_of_ble_eq_true rfl, Nat.le_of_ble_eq_true rfl⟩) (preSV (ci := 10) (q0 := 0) hK hP rfl rfl) rfl rfl hl.1 rfl (lv_room (Nat.le_of_ble_eq_true rfl)) dX10_goesOn_35 ⟨Nat.le_of_ble_eq_true rfl, Nat.le_of_ble_eq_true rfl⟩) ?_
          refine lv_lshl (v := ((1 : Int64) <<< (r_35.toInt64 &&& (63 : Int64)))) hx hb dX10_goesOn_38 rfl ?_
          refine lv_lor hx hb dX10_goesOn_39 ?_
          refine lv_lstore (lv' := [(6, .long (v6_6 ||| ((1 : Int64) <<< (r_35.toInt64 &&& (63 : Int64))))), (0, .ref m_h), (1, .int v1), (2, .long v2), (4, .int v4), (5, .int v5), (8, .int v8_6)]) hx hb dX10_goesOn_40 hl (by decide) rfl (fun ls hl => ?_)
          refine lv_lload hx hb dX10_goesOn_42 (lv_at hl 0 rfl) ?_
          refine lv_lconst (v := 1) hx hb dX10_goesOn_44 (by decide) ?_
          refine lv_aload_n hx hb dX10_goesOn_45 rfl (lv_at hl 1 rfl) ?_
          refine lv_iload_n hx hb dX10_goesOn_46 rfl (lv_at hl 2 rfl) ?_
          refine lv_iload hx hb dX10_goesOn_47 (lv_at hl 6 rfl) ?_
          refine lv_iload hx hb dX10_goesOn_49 (lv_at hl 4 rfl) ?_
          refine lv_iconst (v := 1) hx hb dX10_goesOn_51 (by decide) ?_
          refine lv_iload hx hb dX10_goesOn_52 (lv_at hl 5 rfl) ?_
          refine lv_ishl hx hb dX10_goesOn_54 ?_
          refine lv_ixor hx hb dX10_goesOn_55 ?_
          obtain ⟨r_56, hc_56, h⟩ := ob1_e h
          refine k_si (va_runV (As := [.int v1, .int v8_6, .int (v4 ^^^ ((1 : Int32) <<< (v5 &&& (31 : Int32))))]) (rest := [.long (1 : Int64), .long (v6_6 ||| ((1 : Int64) <<< (r_35.toInt64 &&& (63 : Int64))))]) ⟨hx, hb, hml, hown, hts⟩ (c_X10_next l G m_h m_q m_onBy m_toldBy m_kindsOf m_nextOf m_holdsAt m_made m_standsFor m_madeNext m_madeHolds m_stateFor m_joined m_joinedNow m_firstIn m_orderOf m_classAt m_sets m_waysTo m_waysThen m_queue m_leastTo v1 v8_6 (v4 ^^^ ((1 : Int32) <<< (v5 &&& (31 : Int32)))) r_56 hc_56) (cwV 3 hts gX10_goesOn_X10_next rfl rfl rfl ⟨rfl, eX10_next⟩ ⟨Nat.le_of_ble_eq_true rfl, Nat.le_of_ble_eq_true rfl⟩) (preSV (ci := 10) (q0 := 0) hK hP rfl rfl) rfl rfl hl.1 rfl (lv_room (Nat.le_of_ble_eq_true rfl)) dX10_goesOn_56 ⟨Nat.le_of_ble_eq_true rfl, Nat.le_of_ble_eq_true rfl⟩) ?_
          refine lv_lshl (v := ((1 : Int64) <<< (r_56.toInt64 &&& (63 : Int64)))) hx hb dX10_goesOn_59 rfl ?_
          refine lv_lor hx hb dX10_goesOn_60 ?_
          refine lv_lstore (lv' := [(6, .long ((v6_6 ||| ((1 : Int64) <<< (r_35.toInt64 &&& (63 : Int64)))) ||| ((1 : Int64) <<< (r_56.toInt64 &&& (63 : Int64))))), (0, .ref m_h), (1, .int v1), (2, .long v2), (4, .int v4), (5, .int v5), (8, .int v8_6)]) hx hb dX10_goesOn_61 hl (by decide) rfl (fun ls hl => ?_)
          exact hJ23 _  _ h (lv_sub hl [1, 2, 3, 4, 5, 0, 6] rfl)
  exact hL6 n _ _  _ hT6 (lv_sub hl [2, 3, 4, 5, 6, 1, 0] rfl)
abbrev rX10_holdsInSet : Room := { frames := 1, cells := 0, slots := 0, locals := 22 }
set_option maxHeartbeats 4000000 in
set_option maxRecDepth 100000 in
theorem c_X10_holdsInSet (l : Launch) (G : GG) (n : Nat) (m_h : Nat) (m_q : Nat → Nat) (m_onBy : AI) (m_toldBy : AI) (m_kindsOf : AI) (m_nextOf : AI) (m_holdsAt : AI) (m_made : Int32) (m_standsFor : AI) (m_madeNext : AI) (m_madeHolds : AI) (m_stateFor : AI) (m_joined : AI) (m_joinedNow : AI) (m_firstIn : AI) (m_orderOf : AI) (m_classAt : AI) (m_sets : AL) (m_waysTo : AL) (m_waysThen : AL) (m_queue : AI) (m_leastTo : AL) (v1 : Int32) (v2 : Int64) (v4 : Int32) (r : Int32) (h : p_X10_holdsInSet n m_kindsOf m_holdsAt v1 v2 v4 = some r) : SI l yX10_holdsInSet wsX10_holdsInSet rX10_holdsInSet G [.ref m_h, .int v1, .long v2, .int v4] (WM G m_h m_q m_onBy m_toldBy m_kindsOf m_nextOf m_holdsAt m_made m_standsFor m_madeNext m_madeHolds m_stateFor m_joined m_joinedNow m_firstIn m_orderOf m_classAt m_sets m_waysTo m_waysThen m_queue m_leastTo) r := by
  refine enterSI (cc := cX10_holdsInSet) (maxL := 8) (by decide) rfl (Nat.le_of_ble_eq_true rfl) ?_
  intro p e s m args below meth c Q hx hb hml hown hts hK hP hret ls hl
  have hown : s.vm.findClass RX10 = some m.cls := hown
  have hf16 := hts (.fieldLink RX10 16 "DigitClaimsModel" "kindsOf" "[I") (by decide +kernel)
  have hinX10 : ∀ w ∈ wsX100, w ∈ wsX10_holdsInSet := by decide +kernel
  have hl : lv_has ls 8 [(0, .ref m_h), (1, .int v1), (2, .long v2), (4, .int v4)] := hl
  unfold p_X10_holdsInSet at h
  refine lv_iconst (v := 0) hx hb dX10_holdsInSet_0 (by decide) ?_
  refine lv_istore (lv' := [(5, .int (0 : Int32)), (0, .ref m_h), (1, .int v1), (2, .long v2), (4, .int v4)]) hx hb dX10_holdsInSet_1 hl (by decide) rfl (fun ls hl => ?_)
  refine lv_iconst (v := 1) hx hb dX10_holdsInSet_3 (by decide) ?_
  refine lv_istore (lv' := [(6, .int (1 : Int32)), (5, .int (0 : Int32)), (0, .ref m_h), (1, .int v1), (2, .long v2), (4, .int v4)]) hx hb dX10_holdsInSet_4 hl (by decide) rfl (fun ls hl => ?_)
  refine lv_iconst (v := 0) hx hb dX10_holdsInSet_6 (by decide) ?_
  refine lv_istore (lv' := [(7, .int (0 : Int32)), (6, .int (1 : Int32)), (5, .int (0 : Int32)), (0, .ref m_h), (1, .int v1), (2, .long v2), (4, .int v4)]) hx hb dX10_holdsInSet_7 hl (by decide) rfl (fun ls hl => ?_)
  obtain ⟨o5_9, o6_9, hT9, h⟩ := ob2_e h
  have hX9 : ∀ (x5_9 : Int32) (x6_9 : Int32)  (ls : Array Slot), some (x5_9, x6_9) = some (o5_9, o6_9) → lv_has ls 8 [(4, .int v4), (5, .int x5_9), (6, .int x6_9)] → W p l e rX10_holdsInSet s m args below meth c s.heap [] 0 0 Q (F0 m 79 ls []) := by
    intro x5_9 x6_9 ls hq hl
    obtain ⟨rfl, rfl⟩ := oi2 hq
    refine lv_iload hx hb dX10_holdsInSet_79 (lv_at hl 0 rfl) ?_
    refine lv_if_eq (tgt := 89) hx hb dX10_holdsInSet_81 (by decide) (fun c_81 => ?_) (fun c_81 => ?_)
    · replace h := (if_pos c_81).symm.trans h
      refine lv_iload hx hb dX10_holdsInSet_89 (lv_at hl 1 rfl) ?_
      obtain ⟨gbv, h⟩ := gb_e h
      obtain rfl := oi1 h
      exact hret _ _ _ dX10_holdsInSet_91 rfl (nb gbv)
    · replace h := (if_neg c_81).symm.trans h
      refine lv_iload hx hb dX10_holdsInSet_84 (lv_at hl 2 rfl) ?_
      refine lv_goto (tgt := 91) hx hb dX10_holdsInSet_86 (by decide) ?_
      obtain ⟨gbv, h⟩ := gb_e h
      obtain rfl := oi1 h
      exact hret _ _ _ dX10_holdsInSet_91 rfl (nb gbv)
  have hL9 : ∀ (f : Nat) (v5_9 : Int32) (v6_9 : Int32) (v7_9 : Int32)  (ls : Array Slot), p_X10_holdsInSet_L9 v1 m_kindsOf v2 m_holdsAt f v5_9 v6_9 v7_9 = some (o5_9, o6_9) → lv_has ls 8 [(0, .ref m_h), (1, .int v1), (2, .long v2), (4, .int v4), (5, .int v5_9), (6, .int v6_9), (7, .int v7_9)] → W p l e rX10_holdsInSet s m args below meth c s.heap [] 0 0 Q (F0 m 9 ls []) := by
    intro f
    induction f with
    | zero => intro v5_9 v6_9 v7_9 ls h hl; cases (show none = some _ from h)
    | succ f ih =>
      intro v5_9 v6_9 v7_9 ls h hl
      rw [p_X10_holdsInSet_L9] at h
      refine lv_iload hx hb dX10_holdsInSet_9 (lv_at hl 6 rfl) ?_
      refine lv_aload_n hx hb dX10_holdsInSet_11 rfl (lv_at hl 0 rfl) ?_
      refine va_get (D := G.1) (ci := 10) (v := .ref (m_q 2)) (C := RX10) (T := TX10) (N := 20) hx hb hts hinX10 hown hK.1 hP 0 rfl rfl 2 (by decide) hf16 (fun _ h9 => h9) rfl dX10_holdsInSet_12 ?_
      refine lv_iload_n hx hb dX10_holdsInSet_15 rfl (lv_at hl 1 rfl) ?_
      obtain ⟨g_16, h⟩ := gi_e h
      refine va_iald hx hb hK.1 hP 3 0 rfl rfl g_16 dX10_holdsInSet_16 ?_
      refine lv_icmp_ge (tgt := 79) hx hb dX10_holdsInSet_17 (by decide) (fun c_17 => ?_) (fun c_17 => ?_)
      · replace h := (if_pos c_17).symm.trans h
        exact hX9 _ _  _ h (lv_sub hl [3, 4, 5] rfl)
      · replace h := (if_neg c_17).symm.trans h
        refine lv_lload_n hx hb dX10_holdsInSet_20 rfl (lv_at hl 2 rfl) ?_
        refine lv_iload hx hb dX10_holdsInSet_21 (lv_at hl 6 rfl) ?_
        obtain ⟨r_23, hc_23, h⟩ := ob1_e h
        refine k_si (va_runS (As := [.long v2, .int v7_9]) (rest := []) ⟨hx, hb, hml, hown, hts⟩ (c_X10_isIn l G   v2 v7_9 r_23 hc_23) (va_cwS 2 hts gX10_holdsInSet_X10_isIn rfl rfl rfl eX10_isIn ⟨Nat.le_of_ble_eq_true rfl, Nat.le_of_ble_eq_true rfl⟩) (preSS hK (fun k q h => by cases h)) rfl rfl hl.1 rfl (lv_room (Nat.le_of_ble_eq_true rfl)) dX10_holdsInSet_23 ⟨Nat.le_of_ble_eq_true rfl, Nat.le_of_ble_eq_true rfl⟩) ?_
        obtain ⟨v5_j26, v6_j26, hT26, h⟩ := ob2_e h
        have hJ26 : ∀ (v5_j26x : Int32) (v6_j26x : Int32)  (ls : Array Slot), some (v5_j26x, v6_j26x) = some (v5_j26, v6_j26) → lv_has ls 8 [(0, .ref m_h), (1, .int v1), (2, .long v2), (4, .int v4), (5, .int v5_j26x), (6, .int v6_j26x), (7, .int v7_9)] → W p l e rX10_holdsInSet s m args below meth c s.heap [] 0 0 Q (F0 m 73 ls []) := by
          intro v5_j26x v6_j26x ls hq hl
          obtain ⟨rfl, rfl⟩ := oi2 hq
          refine lv_iinc (v := (v7_9 + (1 : Int32))) (lv' := [(7, .int (v7_9 + (1 : Int32))), (0, .ref m_h), (1, .int v1), (2, .long v2), (4, .int v4), (5, .int v5_j26), (6, .int v6_j26)]) hx hb dX10_holdsInSet_73 hl (k := 6) rfl rfl (by decide) rfl (fun ls hl => ?_)
          refine lv_goto (tgt := 9) hx hb dX10_holdsInSet_76 (by decide) ?_
          exact ih _ _ _  _ h (lv_sub hl [1, 2, 3, 4, 5, 6, 0] rfl)
        replace h := hT26
        refine lv_if_eq (tgt := 73) hx hb dX10_holdsInSet_26 (by decide) (fun c_26 => ?_) (fun c_26 => ?_)
        · replace h := (if_pos c_26).symm.trans h
          exact hJ26 _ _  _ h (lv_sub hl [0, 1, 2, 3, 4, 5, 6] rfl)
        · replace h := (if_neg c_26).symm.trans h
          refine lv_iload hx hb dX10_holdsInSet_29 (lv_at hl 4 rfl) ?_
          obtain ⟨j0_31, hT31, h⟩ := ob1_e h
          have hJ31 : ∀ (j0_31x : Int32)  (ls : Array Slot), some j0_31x = some j0_31 → lv_has ls 8 [(0, .ref m_h), (1, .int v1), (2, .long v2), (4, .int v4), (6, .int v6_9), (7, .int v7_9)] → W p l e rX10_holdsInSet s m args below meth c s.heap [] 0 0 Q (F0 m 49 ls [.int j0_31x]) := by
            intro j0_31x ls hq hl
            obtain rfl := oi1 hq
            refine lv_istore (lv' := [(5, .int j0_31), (0, .ref m_h), (1, .int v1), (2, .long v2), (4, .int v4), (6, .int v6_9), (7, .int v7_9)]) hx hb dX10_holdsInSet_49 hl (by decide) rfl (fun ls hl => ?_)
            refine lv_iload hx hb dX10_holdsInSet_51 (lv_at hl 5 rfl) ?_
            obtain ⟨j0_53, hT53, h⟩ := ob1_e h
            have hJ53 : ∀ (j0_53x : Int32)  (ls : Array Slot), some j0_53x = some j0_53 → lv_has ls 8 [(0, .ref m_h), (1, .int v1), (2, .long v2), (4, .int v4), (5, .int j0_31), (7, .int v7_9)] → W p l e rX10_holdsInSet s m args below meth c s.heap [] 0 0 Q (F0 m 71 ls [.int j0_53x]) := by
              intro j0_53x ls hq hl
              obtain rfl := oi1 hq
              refine lv_istore (lv' := [(6, .int j0_53), (0, .ref m_h), (1, .int v1), (2, .long v2), (4, .int v4), (5, .int j0_31), (7, .int v7_9)]) hx hb dX10_holdsInSet_71 hl (by decide) rfl (fun ls hl => ?_)
              exact hJ26 _ _  _ h (lv_sub hl [1, 2, 3, 4, 5, 0, 6] rfl)
            replace h := hT53
            refine lv_if_eq (tgt := 70) hx hb dX10_holdsInSet_53 (by decide) (fun c_53 => ?_) (fun c_53 => ?_)
            · replace h := (if_pos c_53).symm.trans h
              refine lv_iconst (v := 0) hx hb dX10_holdsInSet_70 (by decide) ?_
              exact hJ53 _  _ h (lv_sub hl [1, 2, 3, 4, 0, 6] rfl)
            · replace h := (if_neg c_53).symm.trans h
              refine lv_aload_n hx hb dX10_holdsInSet_56 rfl (lv_at hl 1 rfl) ?_
              refine lv_iload_n hx hb dX10_holdsInSet_57 rfl (lv_at hl 2 rfl) ?_
              refine lv_iload hx hb dX10_holdsInSet_58 (lv_at hl 6 rfl) ?_
              obtain ⟨r_60, hc_60, h⟩ := ob1_e h
              refine k_si (va_runV (As := [.int v1, .int v7_9]) (rest := []) ⟨hx, hb, hml, hown, hts⟩ (c_X10_holdsIn l G m_h m_q m_onBy m_toldBy m_kindsOf m_nextOf m_holdsAt m_made m_standsFor m_madeNext m_madeHolds m_stateFor m_joined m_joinedNow m_firstIn m_orderOf m_classAt m_sets m_waysTo m_waysThen m_queue m_leastTo v1 v7_9 r_60 hc_60) (cwV 2 hts gX10_holdsInSet_X10_holdsIn rfl rfl rfl ⟨rfl, eX10_holdsIn⟩ ⟨Nat.le_of_ble_eq_true rfl, Nat.le_of_ble_eq_true rfl⟩) (preSV (ci := 10) (q0 := 0) hK hP rfl rfl) rfl rfl hl.1 rfl (lv_room (Nat.le_of_ble_eq_true rfl)) dX10_holdsInSet_60 ⟨Nat.le_of_ble_eq_true rfl, Nat.le_of_ble_eq_true rfl⟩) ?_
              refine lv_if_eq (tgt := 70) hx hb dX10_holdsInSet_63 (by decide) (fun c_63 => ?_) (fun c_63 => ?_)
              · replace h := (if_pos c_63).symm.trans h
                refine lv_iconst (v := 0) hx hb dX10_holdsInSet_70 (by decide) ?_
                exact hJ53 _  _ h (lv_sub hl [1, 2, 3, 4, 0, 6] rfl)
              · replace h := (if_neg c_63).symm.trans h
                refine lv_iconst (v := 1) hx hb dX10_holdsInSet_66 (by decide) ?_
                refine lv_goto (tgt := 71) hx hb dX10_holdsInSet_67 (by decide) ?_
                exact hJ53 _  _ h (lv_sub hl [1, 2, 3, 4, 0, 6] rfl)
          replace h := hT31
          refine lv_if_ne (tgt := 44) hx hb dX10_holdsInSet_31 (by decide) (fun c_31 => ?_) (fun c_31 => ?_)
          · replace h := (if_neg c_31).symm.trans h
            refine lv_iconst (v := 1) hx hb dX10_holdsInSet_44 (by decide) ?_
            refine lv_goto (tgt := 49) hx hb dX10_holdsInSet_45 (by decide) ?_
            exact hJ31 _  _ h (lv_sub hl [0, 1, 2, 3, 5, 6] rfl)
          · replace h := (if_pos c_31).symm.trans h
            refine lv_aload_n hx hb dX10_holdsInSet_34 rfl (lv_at hl 0 rfl) ?_
            refine lv_iload_n hx hb dX10_holdsInSet_35 rfl (lv_at hl 1 rfl) ?_
            refine lv_iload hx hb dX10_holdsInSet_36 (lv_at hl 6 rfl) ?_
            obtain ⟨r_38, hc_38, h⟩ := ob1_e h
            refine k_si (va_runV (As := [.int v1, .int v7_9]) (rest := []) ⟨hx, hb, hml, hown, hts⟩ (c_X10_holdsIn l G m_h m_q m_onBy m_toldBy m_kindsOf m_nextOf m_holdsAt m_made m_standsFor m_madeNext m_madeHolds m_stateFor m_joined m_joinedNow m_firstIn m_orderOf m_classAt m_sets m_waysTo m_waysThen m_queue m_leastTo v1 v7_9 r_38 hc_38) (cwV 2 hts gX10_holdsInSet_X10_holdsIn rfl rfl rfl ⟨rfl, eX10_holdsIn⟩ ⟨Nat.le_of_ble_eq_true rfl, Nat.le_of_ble_eq_true rfl⟩) (preSV (ci := 10) (q0 := 0) hK hP rfl rfl) rfl rfl hl.1 rfl (lv_room (Nat.le_of_ble_eq_true rfl)) dX10_holdsInSet_38 ⟨Nat.le_of_ble_eq_true rfl, Nat.le_of_ble_eq_true rfl⟩) ?_
            refine lv_if_eq (tgt := 48) hx hb dX10_holdsInSet_41 (by decide) (fun c_41 => ?_) (fun c_41 => ?_)
            · replace h := (if_pos c_41).symm.trans h
              refine lv_iconst (v := 0) hx hb dX10_holdsInSet_48 (by decide) ?_
              exact hJ31 _  _ h (lv_sub hl [0, 1, 2, 3, 5, 6] rfl)
            · replace h := (if_neg c_41).symm.trans h
              refine lv_iconst (v := 1) hx hb dX10_holdsInSet_44 (by decide) ?_
              refine lv_goto (tgt := 49) hx hb dX10_holdsInSet_45 (by decide) ?_
              exact hJ31 _  _ h (lv_sub hl [0, 1, 2, 3, 5, 6] rfl)
  exact hL9 n _ _ _  _ hT9 (lv_sub hl [3, 4, 5, 6, 2, 1, 0] rfl)
abbrev rX10_quantifies : Room := { frames := 4, cells := 0, slots := 0, locals := 96 }
set_option maxHeartbeats 4000000 in
set_option maxRecDepth 100000 in
theorem c_X10_quantifies (l : Launch) (G : GG) (n : Nat) (m_h : Nat) (m_q : Nat → Nat) (m_onBy : AI) (m_toldBy : AI) (m_kindsOf : AI) (m_nextOf : AI) (m_holdsAt : AI) (m_made : Int32) (m_standsFor : AI) (m_madeNext : AI) (m_madeHolds : AI) (m_stateFor : AI) (m_joined : AI) (m_joinedNow : AI) (m_firstIn : AI) (m_orderOf : AI) (m_classAt : AI) (m_sets : AL) (m_waysTo : AL) (m_waysThen : AL) (m_queue : AI) (m_leastTo : AL) (v1 : Int32) (v2 : Int32) (v3 : Int32) (v4 : Int32) (sz : Nat) (r : Int32) (m_kindsOf_z : AI) (m_nextOf_z : AI) (m_holdsAt_z : AI) (m_made_z : Int32) (m_madeNext_z : AI) (m_madeHolds_z : AI) (m_joined_z : AI) (m_joinedNow_z : AI) (m_firstIn_z : AI) (m_orderOf_z : AI) (m_classAt_z : AI) (m_sets_z : AL) (h : p_X10_quantifies n m_kindsOf m_nextOf m_holdsAt m_madeNext m_madeHolds m_joined m_joinedNow m_firstIn m_orderOf m_classAt m_sets v1 v2 v3 v4 = some (r, m_kindsOf_z, m_nextOf_z, m_holdsAt_z, m_made_z, m_madeNext_z, m_madeHolds_z, m_joined_z, m_joinedNow_z, m_firstIn_z, m_orderOf_z, m_classAt_z, m_sets_z)) : CI l yX10_quantifies wsX10_quantifies rX10_quantifies G [.ref m_h, .int v1, .int v2, .int v3, .int v4] (WM G m_h m_q m_onBy m_toldBy m_kindsOf m_nextOf m_holdsAt m_made m_standsFor m_madeNext m_madeHolds m_stateFor m_joined m_joinedNow m_firstIn m_orderOf m_classAt m_sets m_waysTo m_waysThen m_queue m_leastTo) sz r (fun u => WM G m_h m_q m_onBy m_toldBy m_kindsOf_z m_nextOf_z m_holdsAt_z m_made_z m_standsFor m_madeNext_z m_madeHolds_z m_stateFor m_joined_z m_joinedNow_z m_firstIn_z m_orderOf_z m_classAt_z m_sets_z m_waysTo m_waysThen m_queue m_leastTo) := by
  refine enterCI (cc := cX10_quantifies) (maxL := 12) (by decide) rfl (Nat.le_of_ble_eq_true rfl) ?_
  intro p e s m args below meth c A Q hx hb hml hown hts hK hP hD hS hA hret ls hl
  have hown : s.vm.findClass RX10 = some m.cls := hown
  have hf32 := hts (.fieldLink RX10 32 "DigitClaimsModel" "madeHolds" "[Z") (by decide +kernel)
  have hf53 := hts (.fieldLink RX10 53 "DigitClaimsModel" "sets" "[J") (by decide +kernel)
  have hf81 := hts (.fieldLink RX10 81 "DigitClaimsModel" "made" "I") (by decide +kernel)
  have hinX10 : ∀ w ∈ wsX100, w ∈ wsX10_quantifies := by decide +kernel
  have hl : lv_has ls 12 [(0, .ref m_h), (1, .int v1), (2, .int v2), (3, .int v3), (4, .int v4)] := hl
  unfold p_X10_quantifies at h
  refine lv_aload_n hx hb dX10_quantifies_0 rfl (lv_at hl 0 rfl) ?_
  refine lv_iconst (v := 0) hx hb dX10_quantifies_1 (by decide) ?_
  refine va_put (D := G.1) (ci := 10) (v := .int (0 : Int32)) (ty := .int) (C := RX10) (T := TX10) (N := 20) hx hb hts hinX10 tyX10 tyX10_ok nmX10 hown hK.1 hP hD hS 0 rfl rfl 5 (by decide) hf81 (fun _ h9 => h9) rfl (by decide +kernel) rfl rfl (Nat.le_of_ble_eq_true rfl) dX10_quantifies_2 (fun H locs hP hD hS => ?_)
  have hP : va_P G.1 vwCl (WM G m_h m_q m_onBy m_toldBy m_kindsOf m_nextOf m_holdsAt (0 : Int32) m_standsFor m_madeNext m_madeHolds m_stateFor m_joined m_joinedNow m_firstIn m_orderOf m_classAt m_sets m_waysTo m_waysThen m_queue m_leastTo) H := hP
  have hD : va_D A (WM G m_h m_q m_onBy m_toldBy m_kindsOf m_nextOf m_holdsAt (0 : Int32) m_standsFor m_madeNext m_madeHolds m_stateFor m_joined m_joinedNow m_firstIn m_orderOf m_classAt m_sets m_waysTo m_waysThen m_queue m_leastTo) := hD
  refine lv_lconst (v := 1) hx hb dX10_quantifies_5 (by decide) ?_
  refine lv_lstore (lv' := [(5, .long (1 : Int64)), (0, .ref m_h), (1, .int v1), (2, .int v2), (3, .int v3), (4, .int v4)]) hx hb dX10_quantifies_6 hl (by decide) rfl (fun ls hl => ?_)
  refine lv_aload_n hx hb dX10_quantifies_8 rfl (lv_at hl 1 rfl) ?_
  refine lv_iload_n hx hb dX10_quantifies_9 rfl (lv_at hl 3 rfl) ?_
  refine lv_lload hx hb dX10_quantifies_10 (lv_at hl 0 rfl) ?_
  refine lv_iconst (v := 0) hx hb dX10_quantifies_12 (by decide) ?_
  refine lv_iload_n hx hb dX10_quantifies_13 rfl (lv_at hl 4 rfl) ?_
  obtain ⟨r_14, hc_14, h⟩ := ob1_e h
  refine k_sl (va_runV (As := [.int v2, .long (1 : Int64), .int (0 : Int32), .int v3]) (rest := []) ⟨hx, hb, hml, hown, hts⟩ (c_X10_goesOn l G n m_h m_q m_onBy m_toldBy m_kindsOf m_nextOf m_holdsAt (0 : Int32) m_standsFor m_madeNext m_madeHolds m_stateFor m_joined m_joinedNow m_firstIn m_orderOf m_classAt m_sets m_waysTo m_waysThen m_queue m_leastTo v2 (1 : Int64) (0 : Int32) v3 r_14 hc_14) (cwV 4 hts gX10_quantifies_X10_goesOn rfl rfl rfl ⟨rfl, eX10_goesOn⟩ ⟨Nat.le_of_ble_eq_true rfl, Nat.le_of_ble_eq_true rfl⟩) (preSV (ci := 10) (q0 := 0) hK hP rfl rfl) rfl rfl hl.1 rfl (lv_room (Nat.le_of_ble_eq_true rfl)) dX10_quantifies_14 ⟨Nat.le_of_ble_eq_true rfl, Nat.le_of_ble_eq_true rfl⟩) ?_
  refine lv_lstore (lv' := [(7, .long r_14), (5, .long (1 : Int64)), (0, .ref m_h), (1, .int v1), (2, .int v2), (3, .int v3), (4, .int v4)]) hx hb dX10_quantifies_17 hl (by decide) rfl (fun ls hl => ?_)
  obtain ⟨o5_19, hT19, h⟩ := ob1_e h
  have hX19 : ∀ (x5_19 : Int64)  (H : Heap) (locs : List Loc) (ls : Array Slot), some x5_19 = some o5_19 → va_P G.1 vwCl (WM G m_h m_q m_onBy m_toldBy m_kindsOf m_nextOf m_holdsAt (0 : Int32) m_standsFor m_madeNext m_madeHolds m_stateFor m_joined m_joinedNow m_firstIn m_orderOf m_classAt m_sets m_waysTo m_waysThen m_queue m_leastTo) H → va_D A (WM G m_h m_q m_onBy m_toldBy m_kindsOf m_nextOf m_holdsAt (0 : Int32) m_standsFor m_madeNext m_madeHolds m_stateFor m_joined m_joinedNow m_firstIn m_orderOf m_classAt m_sets m_waysTo m_waysThen m_queue m_leastTo) → va_S A s.heap H locs → lv_has ls 12 [(0, .ref m_h), (1, .int v1), (2, .int v2), (3, .int v3), (4, .int v4), (5, .long x5_19)] → W p l e rX10_quantifies s m args below meth c H locs 0 0 Q (F0 m 54 ls []) := by
    intro x5_19 H locs ls hq hP hD hS hl
    obtain rfl := oi1 hq
    refine lv_aload_n hx hb dX10_quantifies_54 rfl (lv_at hl 0 rfl) ?_
    refine lv_lload hx hb dX10_quantifies_55 (lv_at hl 5 rfl) ?_
    obtain ⟨r_57, m_made_57, m_sets_57, hc_57, h⟩ := ob3_e h
    refine k_ciA (va_runV (As := [.long o5_19]) (rest := []) ⟨hx, hb, hml, hown, hts⟩ (c_X10_setOf l G n m_h m_q m_onBy m_toldBy m_kindsOf m_nextOf m_holdsAt (0 : Int32) m_standsFor m_madeNext m_madeHolds m_stateFor m_joined m_joinedNow m_firstIn m_orderOf m_classAt m_sets m_waysTo m_waysThen m_queue m_leastTo o5_19 _ r_57 m_made_57 m_sets_57 hc_57) (cwV 1 hts gX10_quantifies_X10_setOf rfl rfl rfl ⟨rfl, eX10_setOf⟩ ⟨Nat.le_of_ble_eq_true rfl, Nat.le_of_ble_eq_true rfl⟩) (preWV (ci := 10) (q0 := 0) hK hP hD rfl rfl) rfl rfl hl.1 rfl (lv_room (Nat.le_of_ble_eq_true rfl)) dX10_quantifies_57 ⟨Nat.le_of_ble_eq_true rfl, Nat.le_of_ble_eq_true rfl⟩) hD hS hA (fun u_57 H locs hP hD hS => ?_)
    have hP : va_P G.1 vwCl (WM G m_h m_q m_onBy m_toldBy m_kindsOf m_nextOf m_holdsAt m_made_57 m_standsFor m_madeNext m_madeHolds m_stateFor m_joined m_joinedNow m_firstIn m_orderOf m_classAt m_sets_57 m_waysTo m_waysThen m_queue m_leastTo) H := hP
    have hD : va_D A (WM G m_h m_q m_onBy m_toldBy m_kindsOf m_nextOf m_holdsAt m_made_57 m_standsFor m_madeNext m_madeHolds m_stateFor m_joined m_joinedNow m_firstIn m_orderOf m_classAt m_sets_57 m_waysTo m_waysThen m_queue m_leastTo) := hD
    refine lv_pop hx hb dX10_quantifies_60 rfl ?_
    refine lv_iconst (v := 0) hx hb dX10_quantifies_61 (by decide) ?_
    refine lv_istore (lv' := [(9, .int (0 : Int32)), (0, .ref m_h), (1, .int v1), (2, .int v2), (3, .int v3), (4, .int v4), (5, .long o5_19)]) hx hb dX10_quantifies_62 hl (by decide) rfl (fun ls hl => ?_)
    obtain ⟨o_64, hT64, hd64⟩ := obS3_e h
    have hX64 : ∀ (m_made_o64x : Int32) (m_madeNext_o64x : AI) (m_sets_o64x : AL)  (H : Heap) (locs : List Loc) (ls : Array Slot), some (Sum.inr (m_made_o64x, m_madeNext_o64x, m_sets_o64x)) = some o_64 → va_P G.1 vwCl (WM G m_h m_q m_onBy m_toldBy m_kindsOf m_nextOf m_holdsAt m_made_o64x m_standsFor m_madeNext_o64x m_madeHolds m_stateFor m_joined m_joinedNow m_firstIn m_orderOf m_classAt m_sets_o64x m_waysTo m_waysThen m_queue m_leastTo) H → va_D A (WM G m_h m_q m_onBy m_toldBy m_kindsOf m_nextOf m_holdsAt m_made_o64x m_standsFor m_madeNext_o64x m_madeHolds m_stateFor m_joined m_joinedNow m_firstIn m_orderOf m_classAt m_sets_o64x m_waysTo m_waysThen m_queue m_leastTo) → va_S A s.heap H locs → lv_has ls 12 [(0, .ref m_h), (1, .int v1), (2, .int v2), (4, .int v4)] → W p l e rX10_quantifies s m args below meth c H locs 0 0 Q (F0 m 136 ls []) := by
      intro m_made_o64x m_madeNext_o64x m_sets_o64x H locs ls hq hP hD hS hl
      rcases hd64 with ⟨x, hx1, h⟩ | ⟨m_made_o64, m_madeNext_o64, m_sets_o64, hx1, h⟩
      · rw [hx1] at hq; cases hq
      rw [hx1] at hq
      obtain ⟨rfl, rfl, rfl⟩ := oiS3 hq
      refine lv_iconst (v := 0) hx hb dX10_quantifies_136 (by decide) ?_
      refine lv_istore (lv' := [(9, .int (0 : Int32)), (0, .ref m_h), (1, .int v1), (2, .int v2), (4, .int v4)]) hx hb dX10_quantifies_137 hl (by decide) rfl (fun ls hl => ?_)
      obtain ⟨m_madeHolds_o139, hT139, h⟩ := ob1_e h
      have hX139 : ∀ (m_madeHolds_o139x : AI)  (H : Heap) (locs : List Loc) (ls : Array Slot), some m_madeHolds_o139x = some m_madeHolds_o139 → va_P G.1 vwCl (WM G m_h m_q m_onBy m_toldBy m_kindsOf m_nextOf m_holdsAt m_made_o64 m_standsFor m_madeNext_o64 m_madeHolds_o139x m_stateFor m_joined m_joinedNow m_firstIn m_orderOf m_classAt m_sets_o64 m_waysTo m_waysThen m_queue m_leastTo) H → va_D A (WM G m_h m_q m_onBy m_toldBy m_kindsOf m_nextOf m_holdsAt m_made_o64 m_standsFor m_madeNext_o64 m_madeHolds_o139x m_stateFor m_joined m_joinedNow m_firstIn m_orderOf m_classAt m_sets_o64 m_waysTo m_waysThen m_queue m_leastTo) → va_S A s.heap H locs → lv_has ls 12 [(0, .ref m_h), (1, .int v1)] → W p l e rX10_quantifies s m args below meth c H locs 0 0 Q (F0 m 175 ls []) := by
        intro m_madeHolds_o139x H locs ls hq hP hD hS hl
        obtain rfl := oi1 hq
        refine lv_aload_n hx hb dX10_quantifies_175 rfl (lv_at hl 0 rfl) ?_
        refine lv_iload_n hx hb dX10_quantifies_176 rfl (lv_at hl 1 rfl) ?_
        obtain ⟨r_177, m_kindsOf_177, m_nextOf_177, m_holdsAt_177, m_joined_177, m_joinedNow_177, m_firstIn_177, m_orderOf_177, m_classAt_177, hc_177, h⟩ := ob9_e h
        refine k_ciA (va_runV (As := [.int v1]) (rest := []) ⟨hx, hb, hml, hown, hts⟩ (c_X10_comes l G n m_h m_q m_onBy m_toldBy m_kindsOf m_nextOf m_holdsAt m_made_o64 m_standsFor m_madeNext_o64 m_madeHolds_o139 m_stateFor m_joined m_joinedNow m_firstIn m_orderOf m_classAt m_sets_o64 m_waysTo m_waysThen m_queue m_leastTo v1 _ r_177 m_kindsOf_177 m_nextOf_177 m_holdsAt_177 m_joined_177 m_joinedNow_177 m_firstIn_177 m_orderOf_177 m_classAt_177 hc_177) (cwV 1 hts gX10_quantifies_X10_comes rfl rfl rfl ⟨rfl, eX10_comes⟩ ⟨Nat.le_of_ble_eq_true rfl, Nat.le_of_ble_eq_true rfl⟩) (preWV (ci := 10) (q0 := 0) hK hP hD rfl rfl) rfl rfl hl.1 rfl (lv_room (Nat.le_of_ble_eq_true rfl)) dX10_quantifies_177 ⟨Nat.le_of_ble_eq_true rfl, Nat.le_of_ble_eq_true rfl⟩) hD hS hA (fun u_177 H locs hP hD hS => ?_)
        have hP : va_P G.1 vwCl (WM G m_h m_q m_onBy m_toldBy m_kindsOf_177 m_nextOf_177 m_holdsAt_177 m_made_o64 m_standsFor m_madeNext_o64 m_madeHolds_o139 m_stateFor m_joined_177 m_joinedNow_177 m_firstIn_177 m_orderOf_177 m_classAt_177 m_sets_o64 m_waysTo m_waysThen m_queue m_leastTo) H := hP
        have hD : va_D A (WM G m_h m_q m_onBy m_toldBy m_kindsOf_177 m_nextOf_177 m_holdsAt_177 m_made_o64 m_standsFor m_madeNext_o64 m_madeHolds_o139 m_stateFor m_joined_177 m_joinedNow_177 m_firstIn_177 m_orderOf_177 m_classAt_177 m_sets_o64 m_waysTo m_waysThen m_queue m_leastTo) := hD
        obtain ⟨rfl, rfl, rfl, rfl, rfl, rfl, rfl, rfl, rfl, rfl, rfl, rfl, rfl⟩ := oi13 h
        exact hret (fun _ => 0) _ _ _ _ _ _ _ dX10_quantifies_180 rfl rfl hP hD hS (Nat.le_of_ble_eq_true rfl) (Nat.le_of_ble_eq_true rfl)
      have hL139 : ∀ (f : Nat) (v9_139 : Int32) (m_madeHolds_139 : AI)  (H : Heap) (locs : List Loc) (ls : Array Slot), p_X10_quantifies_L139 n m_made_o64 m_kindsOf m_holdsAt v2 m_sets_o64 v4 f v9_139 m_madeHolds_139 = some m_madeHolds_o139 → va_P G.1 vwCl (WM G m_h m_q m_onBy m_toldBy m_kindsOf m_nextOf m_holdsAt m_made_o64 m_standsFor m_madeNext_o64 m_madeHolds_139 m_stateFor m_joined m_joinedNow m_firstIn m_orderOf m_classAt m_sets_o64 m_waysTo m_waysThen m_queue m_leastTo) H → va_D A (WM G m_h m_q m_onBy m_toldBy m_kindsOf m_nextOf m_holdsAt m_made_o64 m_standsFor m_madeNext_o64 m_madeHolds_139 m_stateFor m_joined m_joinedNow m_firstIn m_orderOf m_classAt m_sets_o64 m_waysTo m_waysThen m_queue m_leastTo) → va_S A s.heap H locs → lv_has ls 12 [(0, .ref m_h), (1, .int v1), (2, .int v2), (4, .int v4), (9, .int v9_139)] → W p l e rX10_quantifies s m args below meth c H locs 0 0 Q (F0 m 139 ls []) := by
        intro f
        induction f with
        | zero => intro v9_139 m_madeHolds_139 H locs ls h hP hD hS hl; cases (show none = some _ from h)
        | succ f ih =>
          intro v9_139 m_madeHolds_139 H locs ls h hP hD hS hl
          rw [p_X10_quantifies_L139] at h
          refine lv_iload hx hb dX10_quantifies_139 (lv_at hl 4 rfl) ?_
          refine lv_aload_n hx hb dX10_quantifies_141 rfl (lv_at hl 0 rfl) ?_
          refine va_get (D := G.1) (ci := 10) (v := .int m_made_o64) (C := RX10) (T := TX10) (N := 20) hx hb hts hinX10 hown hK.1 hP 0 rfl rfl 5 (by decide) hf81 (fun _ h9 => h9) rfl dX10_quantifies_142 ?_
          refine lv_icmp_ge (tgt := 175) hx hb dX10_quantifies_145 (by decide) (fun c_145 => ?_) (fun c_145 => ?_)
          · replace h := (if_pos c_145).symm.trans h
            exact hX139 _  _ _ _ h hP hD hS (lv_sub hl [0, 1] rfl)
          · replace h := (if_neg c_145).symm.trans h
            refine lv_aload_n hx hb dX10_quantifies_148 rfl (lv_at hl 0 rfl) ?_
            refine va_get (D := G.1) (ci := 10) (v := .ref (m_q 7)) (C := RX10) (T := TX10) (N := 20) hx hb hts hinX10 hown hK.1 hP 0 rfl rfl 8 (by decide) hf32 (fun _ h9 => h9) rfl dX10_quantifies_149 ?_
            refine lv_iload hx hb dX10_quantifies_152 (lv_at hl 4 rfl) ?_
            refine lv_aload_n hx hb dX10_quantifies_154 rfl (lv_at hl 0 rfl) ?_
            refine lv_iload_n hx hb dX10_quantifies_155 rfl (lv_at hl 2 rfl) ?_
            refine lv_aload_n hx hb dX10_quantifies_156 rfl (lv_at hl 0 rfl) ?_
            refine va_get (D := G.1) (ci := 10) (v := .ref (m_q 14)) (C := RX10) (T := TX10) (N := 20) hx hb hts hinX10 hown hK.1 hP 0 rfl rfl 15 (by decide) hf53 (fun _ h9 => h9) rfl dX10_quantifies_157 ?_
            refine lv_iload hx hb dX10_quantifies_160 (lv_at hl 4 rfl) ?_
            obtain ⟨g_162, h⟩ := gi_e h
            refine va_lald hx hb hK.1 hP 15 2 rfl rfl g_162 dX10_quantifies_162 ?_
            refine lv_iload hx hb dX10_quantifies_163 (lv_at hl 3 rfl) ?_
            obtain ⟨r_165, hc_165, h⟩ := ob1_e h
            refine k_si (va_runV (As := [.int v2, .long (m_sets_o64 v9_139.toNatClampNeg), .int v4]) (rest := [.int v9_139, .ref (m_q 7)]) ⟨hx, hb, hml, hown, hts⟩ (c_X10_holdsInSet l G n m_h m_q m_onBy m_toldBy m_kindsOf m_nextOf m_holdsAt m_made_o64 m_standsFor m_madeNext_o64 m_madeHolds_139 m_stateFor m_joined m_joinedNow m_firstIn m_orderOf m_classAt m_sets_o64 m_waysTo m_waysThen m_queue m_leastTo v2 (m_sets_o64 v9_139.toNatClampNeg) v4 r_165 hc_165) (cwV 3 hts gX10_quantifies_X10_holdsInSet rfl rfl rfl ⟨rfl, eX10_holdsInSet⟩ ⟨Nat.le_of_ble_eq_true rfl, Nat.le_of_ble_eq_true rfl⟩) (preSV (ci := 10) (q0 := 0) hK hP rfl rfl) rfl rfl hl.1 rfl (lv_room (Nat.le_of_ble_eq_true rfl)) dX10_quantifies_165 ⟨Nat.le_of_ble_eq_true rfl, Nat.le_of_ble_eq_true rfl⟩) ?_
            obtain ⟨g_168, h⟩ := gi_e h
            refine va_zast hx hb hK.1 hP hD hS 8 1 rfl rfl g_168 dX10_quantifies_168 (fun H locs hP hD hS => ?_)
            have hP : va_P G.1 vwCl (WM G m_h m_q m_onBy m_toldBy m_kindsOf m_nextOf m_holdsAt m_made_o64 m_standsFor m_madeNext_o64 (upd m_madeHolds_139 v9_139.toNatClampNeg (r_165 &&& (1 : Int32))) m_stateFor m_joined m_joinedNow m_firstIn m_orderOf m_classAt m_sets_o64 m_waysTo m_waysThen m_queue m_leastTo) H := hP
            have hD : va_D A (WM G m_h m_q m_onBy m_toldBy m_kindsOf m_nextOf m_holdsAt m_made_o64 m_standsFor m_madeNext_o64 (upd m_madeHolds_139 v9_139.toNatClampNeg (r_165 &&& (1 : Int32))) m_stateFor m_joined m_joinedNow m_firstIn m_orderOf m_classAt m_sets_o64 m_waysTo m_waysThen m_queue m_leastTo) := hD
            refine lv_iinc (v := (v9_139 + (1 : Int32))) (lv' := [(9, .int (v9_139 + (1 : Int32))), (0, .ref m_h), (1, .int v1), (2, .int v2), (4, .int v4)]) hx hb dX10_quantifies_169 hl (k := 4) rfl rfl (by decide) rfl (fun ls hl => ?_)
            refine lv_goto (tgt := 139) hx hb dX10_quantifies_172 (by decide) ?_
            exact ih _ _  _ _ _ h hP hD hS (lv_sub hl [1, 2, 3, 4, 0] rfl)
      exact hL139 n _ _  _ _ _ hT139 hP hD hS (lv_sub hl [1, 2, 3, 4, 0] rfl)
    have hL64 : ∀ (f : Nat) (v9_64 : Int32) (m_made_64 : Int32) (m_madeNext_64 : AI) (m_sets_64 : AL)  (H : Heap) (locs : List Loc) (ls : Array Slot), p_X10_quantifies_L64 n m_kindsOf m_nextOf v2 v3 m_holdsAt m_madeHolds m_joined m_joinedNow m_firstIn m_orderOf m_classAt f v9_64 m_made_64 m_madeNext_64 m_sets_64 = some o_64 → va_P G.1 vwCl (WM G m_h m_q m_onBy m_toldBy m_kindsOf m_nextOf m_holdsAt m_made_64 m_standsFor m_madeNext_64 m_madeHolds m_stateFor m_joined m_joinedNow m_firstIn m_orderOf m_classAt m_sets_64 m_waysTo m_waysThen m_queue m_leastTo) H → va_D A (WM G m_h m_q m_onBy m_toldBy m_kindsOf m_nextOf m_holdsAt m_made_64 m_standsFor m_madeNext_64 m_madeHolds m_stateFor m_joined m_joinedNow m_firstIn m_orderOf m_classAt m_sets_64 m_waysTo m_waysThen m_queue m_leastTo) → va_S A s.heap H locs → lv_has ls 12 [(0, .ref m_h), (1, .int v1), (2, .int v2), (3, .int v3), (4, .int v4), (9, .int v9_64)] → W p l e rX10_quantifies s m args below meth c H locs 0 0 Q (F0 m 64 ls []) := by
      intro f
      induction f with
      | zero => intro v9_64 m_made_64 m_madeNext_64 m_sets_64 H locs ls h hP hD hS hl; cases (show none = some _ from h)
      | succ f ih =>
        intro v9_64 m_made_64 m_madeNext_64 m_sets_64 H locs ls h hP hD hS hl
        rw [p_X10_quantifies_L64] at h
        refine lv_iload hx hb dX10_quantifies_64 (lv_at hl 5 rfl) ?_
        refine lv_aload_n hx hb dX10_quantifies_66 rfl (lv_at hl 0 rfl) ?_
        refine va_get (D := G.1) (ci := 10) (v := .int m_made_64) (C := RX10) (T := TX10) (N := 20) hx hb hts hinX10 hown hK.1 hP 0 rfl rfl 5 (by decide) hf81 (fun _ h9 => h9) rfl dX10_quantifies_67 ?_
        refine lv_icmp_ge (tgt := 136) hx hb dX10_quantifies_70 (by decide) (fun c_70 => ?_) (fun c_70 => ?_)
        · replace h := (if_pos c_70).symm.trans h
          exact hX64 _ _ _  _ _ _ h hP hD hS (lv_sub hl [0, 1, 2, 4] rfl)
        · replace h := (if_neg c_70).symm.trans h
          refine lv_iconst (v := 0) hx hb dX10_quantifies_73 (by decide) ?_
          refine lv_istore (lv' := [(10, .int (0 : Int32)), (0, .ref m_h), (1, .int v1), (2, .int v2), (3, .int v3), (4, .int v4), (9, .int v9_64)]) hx hb dX10_quantifies_74 hl (by decide) rfl (fun ls hl => ?_)
          obtain ⟨o_76, hT76, hd76⟩ := obS3_e h
          have hX76 : ∀ (m_made_o76x : Int32) (m_madeNext_o76x : AI) (m_sets_o76x : AL)  (H : Heap) (locs : List Loc) (ls : Array Slot), some (Sum.inr (m_made_o76x, m_madeNext_o76x, m_sets_o76x)) = some o_76 → va_P G.1 vwCl (WM G m_h m_q m_onBy m_toldBy m_kindsOf m_nextOf m_holdsAt m_made_o76x m_standsFor m_madeNext_o76x m_madeHolds m_stateFor m_joined m_joinedNow m_firstIn m_orderOf m_classAt m_sets_o76x m_waysTo m_waysThen m_queue m_leastTo) H → va_D A (WM G m_h m_q m_onBy m_toldBy m_kindsOf m_nextOf m_holdsAt m_made_o76x m_standsFor m_madeNext_o76x m_madeHolds m_stateFor m_joined m_joinedNow m_firstIn m_orderOf m_classAt m_sets_o76x m_waysTo m_waysThen m_queue m_leastTo) → va_S A s.heap H locs → lv_has ls 12 [(0, .ref m_h), (1, .int v1), (2, .int v2), (3, .int v3), (4, .int v4), (9, .int v9_64)] → W p l e rX10_quantifies s m args below meth c H locs 0 0 Q (F0 m 130 ls []) := by
            intro m_made_o76x m_madeNext_o76x m_sets_o76x H locs ls hq hP hD hS hl
            rcases hd76 with ⟨x, hx1, h⟩ | ⟨m_made_o76, m_madeNext_o76, m_sets_o76, hx1, h⟩
            · rw [hx1] at hq; cases hq
            rw [hx1] at hq
            obtain ⟨rfl, rfl, rfl⟩ := oiS3 hq
            refine lv_iinc (v := (v9_64 + (1 : Int32))) (lv' := [(9, .int (v9_64 + (1 : Int32))), (0, .ref m_h), (1, .int v1), (2, .int v2), (3, .int v3), (4, .int v4)]) hx hb dX10_quantifies_130 hl (k := 5) rfl rfl (by decide) rfl (fun ls hl => ?_)
            refine lv_goto (tgt := 64) hx hb dX10_quantifies_133 (by decide) ?_
            exact ih _ _ _ _  _ _ _ h hP hD hS (lv_sub hl [1, 2, 3, 4, 5, 0] rfl)
          have hL76 : ∀ (f : Nat) (v10_76 : Int32) (m_made_76 : Int32) (m_madeNext_76 : AI) (m_sets_76 : AL)  (H : Heap) (locs : List Loc) (ls : Array Slot), p_X10_quantifies_L76 n v9_64 m_kindsOf m_nextOf v2 v3 m_holdsAt m_madeHolds m_joined m_joinedNow m_firstIn m_orderOf m_classAt f v10_76 m_made_76 m_madeNext_76 m_sets_76 = some o_76 → va_P G.1 vwCl (WM G m_h m_q m_onBy m_toldBy m_kindsOf m_nextOf m_holdsAt m_made_76 m_standsFor m_madeNext_76 m_madeHolds m_stateFor m_joined m_joinedNow m_firstIn m_orderOf m_classAt m_sets_76 m_waysTo m_waysThen m_queue m_leastTo) H → va_D A (WM G m_h m_q m_onBy m_toldBy m_kindsOf m_nextOf m_holdsAt m_made_76 m_standsFor m_madeNext_76 m_madeHolds m_stateFor m_joined m_joinedNow m_firstIn m_orderOf m_classAt m_sets_76 m_waysTo m_waysThen m_queue m_leastTo) → va_S A s.heap H locs → lv_has ls 12 [(0, .ref m_h), (1, .int v1), (2, .int v2), (3, .int v3), (4, .int v4), (9, .int v9_64), (10, .int v10_76)] → W p l e rX10_quantifies s m args below meth c H locs 0 0 Q (F0 m 76 ls []) := by
            intro f
            induction f with
            | zero => intro v10_76 m_made_76 m_madeNext_76 m_sets_76 H locs ls h hP hD hS hl; cases (show none = some _ from h)
            | succ f ih =>
              intro v10_76 m_made_76 m_madeNext_76 m_sets_76 H locs ls h hP hD hS hl
              rw [p_X10_quantifies_L76] at h
              refine lv_iload hx hb dX10_quantifies_76 (lv_at hl 6 rfl) ?_
              refine lv_bipush (v := 8) hx hb dX10_quantifies_78 (by decide) ?_
              refine lv_icmp_ge (tgt := 130) hx hb dX10_quantifies_80 (by decide) (fun c_80 => ?_) (fun c_80 => ?_)
              · replace h := (if_pos c_80).symm.trans h
                exact hX76 _ _ _  _ _ _ h hP hD hS (lv_sub hl [0, 1, 2, 3, 4, 5] rfl)
              · replace h := (if_neg c_80).symm.trans h
                refine lv_aload_n hx hb dX10_quantifies_83 rfl (lv_at hl 0 rfl) ?_
                refine lv_aload_n hx hb dX10_quantifies_84 rfl (lv_at hl 0 rfl) ?_
                refine lv_iload_n hx hb dX10_quantifies_85 rfl (lv_at hl 2 rfl) ?_
                refine lv_aload_n hx hb dX10_quantifies_86 rfl (lv_at hl 0 rfl) ?_
                refine va_get (D := G.1) (ci := 10) (v := .ref (m_q 14)) (C := RX10) (T := TX10) (N := 20) hx hb hts hinX10 hown hK.1 hP 0 rfl rfl 15 (by decide) hf53 (fun _ h9 => h9) rfl dX10_quantifies_87 ?_
                refine lv_iload hx hb dX10_quantifies_90 (lv_at hl 5 rfl) ?_
                obtain ⟨g_92, h⟩ := gi_e h
                refine va_lald hx hb hK.1 hP 15 2 rfl rfl g_92 dX10_quantifies_92 ?_
                refine lv_iload hx hb dX10_quantifies_93 (lv_at hl 6 rfl) ?_
                refine lv_iload_n hx hb dX10_quantifies_95 rfl (lv_at hl 3 rfl) ?_
                obtain ⟨r_96, hc_96, h⟩ := ob1_e h
                refine k_sl (va_runV (As := [.int v2, .long (m_sets_76 v9_64.toNatClampNeg), .int v10_76, .int v3]) (rest := [.ref m_h]) ⟨hx, hb, hml, hown, hts⟩ (c_X10_goesOn l G n m_h m_q m_onBy m_toldBy m_kindsOf m_nextOf m_holdsAt m_made_76 m_standsFor m_madeNext_76 m_madeHolds m_stateFor m_joined m_joinedNow m_firstIn m_orderOf m_classAt m_sets_76 m_waysTo m_waysThen m_queue m_leastTo v2 (m_sets_76 v9_64.toNatClampNeg) v10_76 v3 r_96 hc_96) (cwV 4 hts gX10_quantifies_X10_goesOn rfl rfl rfl ⟨rfl, eX10_goesOn⟩ ⟨Nat.le_of_ble_eq_true rfl, Nat.le_of_ble_eq_true rfl⟩) (preSV (ci := 10) (q0 := 0) hK hP rfl rfl) rfl rfl hl.1 rfl (lv_room (Nat.le_of_ble_eq_true rfl)) dX10_quantifies_96 ⟨Nat.le_of_ble_eq_true rfl, Nat.le_of_ble_eq_true rfl⟩) ?_
                obtain ⟨r_99, m_made_99, m_sets_99, hc_99, h⟩ := ob3_e h
                refine k_ciA (va_runV (As := [.long r_96]) (rest := []) ⟨hx, hb, hml, hown, hts⟩ (c_X10_setOf l G n m_h m_q m_onBy m_toldBy m_kindsOf m_nextOf m_holdsAt m_made_76 m_standsFor m_madeNext_76 m_madeHolds m_stateFor m_joined m_joinedNow m_firstIn m_orderOf m_classAt m_sets_76 m_waysTo m_waysThen m_queue m_leastTo r_96 _ r_99 m_made_99 m_sets_99 hc_99) (cwV 1 hts gX10_quantifies_X10_setOf rfl rfl rfl ⟨rfl, eX10_setOf⟩ ⟨Nat.le_of_ble_eq_true rfl, Nat.le_of_ble_eq_true rfl⟩) (preWV (ci := 10) (q0 := 0) hK hP hD rfl rfl) rfl rfl hl.1 rfl (lv_room (Nat.le_of_ble_eq_true rfl)) dX10_quantifies_99 ⟨Nat.le_of_ble_eq_true rfl, Nat.le_of_ble_eq_true rfl⟩) hD hS hA (fun u_99 H locs hP hD hS => ?_)
                have hP : va_P G.1 vwCl (WM G m_h m_q m_onBy m_toldBy m_kindsOf m_nextOf m_holdsAt m_made_99 m_standsFor m_madeNext_76 m_madeHolds m_stateFor m_joined m_joinedNow m_firstIn m_orderOf m_classAt m_sets_99 m_waysTo m_waysThen m_queue m_leastTo) H := hP
                have hD : va_D A (WM G m_h m_q m_onBy m_toldBy m_kindsOf m_nextOf m_holdsAt m_made_99 m_standsFor m_madeNext_76 m_madeHolds m_stateFor m_joined m_joinedNow m_firstIn m_orderOf m_classAt m_sets_99 m_waysTo m_waysThen m_queue m_leastTo) := hD
                refine lv_istore (lv' := [(11, .int r_99), (0, .ref m_h), (1, .int v1), (2, .int v2), (3, .int v3), (4, .int v4), (9, .int v9_64), (10, .int v10_76)]) hx hb dX10_quantifies_102 hl (by decide) rfl (fun ls hl => ?_)
                refine lv_iload hx hb dX10_quantifies_104 (lv_at hl 0 rfl) ?_
                refine lv_bipush (v := -9) hx hb dX10_quantifies_106 (by decide) ?_
                refine lv_icmp_ne (tgt := 114) hx hb dX10_quantifies_108 (by decide) (fun c_108 => ?_) (fun c_108 => ?_)
                · replace h := (if_neg c_108).symm.trans h
                  refine lv_aload_n hx hb dX10_quantifies_114 rfl (lv_at hl 1 rfl) ?_
                  refine lv_iload hx hb dX10_quantifies_115 (lv_at hl 6 rfl) ?_
                  refine lv_iload hx hb dX10_quantifies_117 (lv_at hl 7 rfl) ?_
                  refine lv_iload hx hb dX10_quantifies_119 (lv_at hl 0 rfl) ?_
                  obtain ⟨m_madeNext_121, hc_121, h⟩ := ob1_e h
                  refine k_cvA (va_runV (As := [.int v9_64, .int v10_76, .int r_99]) (rest := []) ⟨hx, hb, hml, hown, hts⟩ (c_X10_leads l G m_h m_q m_onBy m_toldBy m_kindsOf m_nextOf m_holdsAt m_made_99 m_standsFor m_madeNext_76 m_madeHolds m_stateFor m_joined m_joinedNow m_firstIn m_orderOf m_classAt m_sets_99 m_waysTo m_waysThen m_queue m_leastTo v9_64 v10_76 r_99 _ m_madeNext_121 hc_121) (cwV 3 hts gX10_quantifies_X10_leads rfl rfl rfl ⟨rfl, eX10_leads⟩ ⟨Nat.le_of_ble_eq_true rfl, Nat.le_of_ble_eq_true rfl⟩) (preWV (ci := 10) (q0 := 0) hK hP hD rfl rfl) rfl rfl hl.1 rfl (lv_room (Nat.le_of_ble_eq_true rfl)) dX10_quantifies_121 ⟨Nat.le_of_ble_eq_true rfl, Nat.le_of_ble_eq_true rfl⟩) hD hS hA (fun u_121 H locs hP hD hS => ?_)
                  have hP : va_P G.1 vwCl (WM G m_h m_q m_onBy m_toldBy m_kindsOf m_nextOf m_holdsAt m_made_99 m_standsFor m_madeNext_121 m_madeHolds m_stateFor m_joined m_joinedNow m_firstIn m_orderOf m_classAt m_sets_99 m_waysTo m_waysThen m_queue m_leastTo) H := hP
                  have hD : va_D A (WM G m_h m_q m_onBy m_toldBy m_kindsOf m_nextOf m_holdsAt m_made_99 m_standsFor m_madeNext_121 m_madeHolds m_stateFor m_joined m_joinedNow m_firstIn m_orderOf m_classAt m_sets_99 m_waysTo m_waysThen m_queue m_leastTo) := hD
                  refine lv_iinc (v := (v10_76 + (1 : Int32))) (lv' := [(10, .int (v10_76 + (1 : Int32))), (11, .int r_99), (0, .ref m_h), (1, .int v1), (2, .int v2), (3, .int v3), (4, .int v4), (9, .int v9_64)]) hx hb dX10_quantifies_124 hl (k := 7) rfl rfl (by decide) rfl (fun ls hl => ?_)
                  refine lv_goto (tgt := 76) hx hb dX10_quantifies_127 (by decide) ?_
                  exact ih _ _ _ _  _ _ _ h hP hD hS (lv_sub hl [2, 3, 4, 5, 6, 7, 0] rfl)
                · replace h := (if_pos c_108).symm.trans h
                  refine lv_bipush (v := -6) hx hb dX10_quantifies_111 (by decide) ?_
                  rcases hd76 with ⟨x, hx1, h2⟩ | ⟨_, _, _, hx1, _⟩
                  · rw [hx1] at h
                    have hx2 := oiL h
                    rw [hx2] at h2
                    replace h := h2
                    rcases hd64 with ⟨x, hx1, h2⟩ | ⟨_, _, _, hx1, _⟩
                    · rw [hx1] at h
                      have hx2 := oiL h
                      rw [hx2] at h2
                      replace h := h2
                      obtain ⟨rfl, rfl, rfl, rfl, rfl, rfl, rfl, rfl, rfl, rfl, rfl, rfl, rfl⟩ := oi13 h
                      exact hret (fun _ => 0) _ _ _ _ _ _ _ dX10_quantifies_113 rfl rfl hP hD hS (Nat.le_of_ble_eq_true rfl) (Nat.le_of_ble_eq_true rfl)
                    · rw [hx1] at h; cases h
                  · rw [hx1] at h; cases h
          exact hL76 n _ _ _ _  _ _ _ hT76 hP hD hS (lv_sub hl [1, 2, 3, 4, 5, 6, 0] rfl)
    exact hL64 n _ _ _ _  _ _ _ hT64 hP hD hS (lv_sub hl [1, 2, 3, 4, 5, 0] rfl)
  have hL19 : ∀ (f : Nat) (v5_19 : Int64) (v7_19 : Int64)  (H : Heap) (locs : List Loc) (ls : Array Slot), p_X10_quantifies_L19 n m_kindsOf m_nextOf v2 v3 f v5_19 v7_19 = some o5_19 → va_P G.1 vwCl (WM G m_h m_q m_onBy m_toldBy m_kindsOf m_nextOf m_holdsAt (0 : Int32) m_standsFor m_madeNext m_madeHolds m_stateFor m_joined m_joinedNow m_firstIn m_orderOf m_classAt m_sets m_waysTo m_waysThen m_queue m_leastTo) H → va_D A (WM G m_h m_q m_onBy m_toldBy m_kindsOf m_nextOf m_holdsAt (0 : Int32) m_standsFor m_madeNext m_madeHolds m_stateFor m_joined m_joinedNow m_firstIn m_orderOf m_classAt m_sets m_waysTo m_waysThen m_queue m_leastTo) → va_S A s.heap H locs → lv_has ls 12 [(0, .ref m_h), (1, .int v1), (2, .int v2), (3, .int v3), (4, .int v4), (5, .long v5_19), (7, .long v7_19)] → W p l e rX10_quantifies s m args below meth c H locs 0 0 Q (F0 m 19 ls []) := by
    intro f
    induction f with
    | zero => intro v5_19 v7_19 H locs ls h hP hD hS hl; cases (show none = some _ from h)
    | succ f ih =>
      intro v5_19 v7_19 H locs ls h hP hD hS hl
      rw [p_X10_quantifies_L19] at h
      refine lv_lload hx hb dX10_quantifies_19 (lv_at hl 6 rfl) ?_
      refine lv_lload hx hb dX10_quantifies_21 (lv_at hl 5 rfl) ?_
      refine lv_ldc2 (v := -1) hx hb hown (hts (.constantLong RX10 151 (-1)) (by decide +kernel)) dX10_quantifies_23 ?_
      refine lv_lxor hx hb dX10_quantifies_26 ?_
      refine lv_land hx hb dX10_quantifies_27 ?_
      refine lv_lconst (v := 0) hx hb dX10_quantifies_28 (by decide) ?_
      refine W.lcmp hx hb dX10_quantifies_29 ?_
      refine lv_if_eq (tgt := 54) hx hb dX10_quantifies_30 (by decide) (fun c_30 => ?_) (fun c_30 => ?_)
      · replace h := (if_pos c_30).symm.trans h
        exact hX19 _  _ _ _ h hP hD hS (lv_sub hl [0, 1, 2, 3, 4, 5] rfl)
      · replace h := (if_neg c_30).symm.trans h
        refine lv_lload hx hb dX10_quantifies_33 (lv_at hl 5 rfl) ?_
        refine lv_lload hx hb dX10_quantifies_35 (lv_at hl 6 rfl) ?_
        refine lv_lor hx hb dX10_quantifies_37 ?_
        refine lv_lstore (lv' := [(5, .long (v5_19 ||| v7_19)), (0, .ref m_h), (1, .int v1), (2, .int v2), (3, .int v3), (4, .int v4), (7, .long v7_19)]) hx hb dX10_quantifies_38 hl (by decide) rfl (fun ls hl => ?_)
        refine lv_aload_n hx hb dX10_quantifies_40 rfl (lv_at hl 1 rfl) ?_
        refine lv_iload_n hx hb dX10_quantifies_41 rfl (lv_at hl 3 rfl) ?_
        refine lv_lload hx hb dX10_quantifies_42 (lv_at hl 0 rfl) ?_
        refine lv_iconst (v := 0) hx hb dX10_quantifies_44 (by decide) ?_
        refine lv_iload_n hx hb dX10_quantifies_45 rfl (lv_at hl 4 rfl) ?_
        obtain ⟨r_46, hc_46, h⟩ := ob1_e h
        refine k_sl (va_runV (As := [.int v2, .long (v5_19 ||| v7_19), .int (0 : Int32), .int v3]) (rest := []) ⟨hx, hb, hml, hown, hts⟩ (c_X10_goesOn l G n m_h m_q m_onBy m_toldBy m_kindsOf m_nextOf m_holdsAt (0 : Int32) m_standsFor m_madeNext m_madeHolds m_stateFor m_joined m_joinedNow m_firstIn m_orderOf m_classAt m_sets m_waysTo m_waysThen m_queue m_leastTo v2 (v5_19 ||| v7_19) (0 : Int32) v3 r_46 hc_46) (cwV 4 hts gX10_quantifies_X10_goesOn rfl rfl rfl ⟨rfl, eX10_goesOn⟩ ⟨Nat.le_of_ble_eq_true rfl, Nat.le_of_ble_eq_true rfl⟩) (preSV (ci := 10) (q0 := 0) hK hP rfl rfl) rfl rfl hl.1 rfl (lv_room (Nat.le_of_ble_eq_true rfl)) dX10_quantifies_46 ⟨Nat.le_of_ble_eq_true rfl, Nat.le_of_ble_eq_true rfl⟩) ?_
        refine lv_lstore (lv' := [(7, .long r_46), (5, .long (v5_19 ||| v7_19)), (0, .ref m_h), (1, .int v1), (2, .int v2), (3, .int v3), (4, .int v4)]) hx hb dX10_quantifies_49 hl (by decide) rfl (fun ls hl => ?_)
        refine lv_goto (tgt := 19) hx hb dX10_quantifies_51 (by decide) ?_
        exact ih _ _  _ _ _ h hP hD hS (lv_sub hl [2, 3, 4, 5, 6, 1, 0] rfl)
  exact hL19 n _ _  _ _ _ hT19 hP hD hS (lv_sub hl [2, 3, 4, 5, 6, 1, 0] rfl)
abbrev rX10_some : Room := { frames := 5, cells := 0, slots := 0, locals := 127 }
set_option maxHeartbeats 4000000 in
set_option maxRecDepth 100000 in
theorem c_X10_some (l : Launch) (G : GG) (n : Nat) (m_h : Nat) (m_q : Nat → Nat) (m_onBy : AI) (m_toldBy : AI) (m_kindsOf : AI) (m_nextOf : AI) (m_holdsAt : AI) (m_made : Int32) (m_standsFor : AI) (m_madeNext : AI) (m_madeHolds : AI) (m_stateFor : AI) (m_joined : AI) (m_joinedNow : AI) (m_firstIn : AI) (m_orderOf : AI) (m_classAt : AI) (m_sets : AL) (m_waysTo : AL) (m_waysThen : AL) (m_queue : AI) (m_leastTo : AL) (v1 : Int32) (v2 : Int32) (v3 : Int32) (sz : Nat) (r : Int32) (m_kindsOf_z : AI) (m_nextOf_z : AI) (m_holdsAt_z : AI) (m_made_z : Int32) (m_madeNext_z : AI) (m_madeHolds_z : AI) (m_joined_z : AI) (m_joinedNow_z : AI) (m_firstIn_z : AI) (m_orderOf_z : AI) (m_classAt_z : AI) (m_sets_z : AL) (h : p_X10_some n m_kindsOf m_nextOf m_holdsAt m_made m_madeNext m_madeHolds m_joined m_joinedNow m_firstIn m_orderOf m_classAt m_sets v1 v2 v3 = some (r, m_kindsOf_z, m_nextOf_z, m_holdsAt_z, m_made_z, m_madeNext_z, m_madeHolds_z, m_joined_z, m_joinedNow_z, m_firstIn_z, m_orderOf_z, m_classAt_z, m_sets_z)) : CI l yX10_some wsX10_some rX10_some G [.ref m_h, .int v1, .int v2, .int v3] (WM G m_h m_q m_onBy m_toldBy m_kindsOf m_nextOf m_holdsAt m_made m_standsFor m_madeNext m_madeHolds m_stateFor m_joined m_joinedNow m_firstIn m_orderOf m_classAt m_sets m_waysTo m_waysThen m_queue m_leastTo) sz r (fun u => WM G m_h m_q m_onBy m_toldBy m_kindsOf_z m_nextOf_z m_holdsAt_z m_made_z m_standsFor m_madeNext_z m_madeHolds_z m_stateFor m_joined_z m_joinedNow_z m_firstIn_z m_orderOf_z m_classAt_z m_sets_z m_waysTo m_waysThen m_queue m_leastTo) := by
  refine enterCI (cc := cX10_some) (maxL := 4) (by decide) rfl (Nat.le_of_ble_eq_true rfl) ?_
  intro p e s m args below meth c A Q hx hb hml hown hts hK hP hD hS hA hret ls hl
  have hown : s.vm.findClass RX10 = some m.cls := hown
  have hl : lv_has ls 4 [(0, .ref m_h), (1, .int v1), (2, .int v2), (3, .int v3)] := hl
  unfold p_X10_some at h
  refine lv_iload_n hx hb dX10_some_0 rfl (lv_at hl 1 rfl) ?_
  obtain ⟨r_1, hc_1, h⟩ := ob1_e h
  refine k_si (va_runS (As := [.int v1]) (rest := []) ⟨hx, hb, hml, hown, hts⟩ (c_X10_isClaim l G   v1 r_1 hc_1) (va_cwS 1 hts gX10_some_X10_isClaim rfl rfl rfl eX10_isClaim ⟨Nat.le_of_ble_eq_true rfl, Nat.le_of_ble_eq_true rfl⟩) (preSS hK (fun k q h => by cases h)) rfl rfl hl.1 rfl (lv_room (Nat.le_of_ble_eq_true rfl)) dX10_some_1 ⟨Nat.le_of_ble_eq_true rfl, Nat.le_of_ble_eq_true rfl⟩) ?_
  refine lv_if_eq (tgt := 21) hx hb dX10_some_4 (by decide) (fun c_4 => ?_) (fun c_4 => ?_)
  · replace h := (if_pos c_4).symm.trans h
    refine lv_iconst (v := -1) hx hb dX10_some_21 (by decide) ?_
    obtain ⟨rfl, rfl, rfl, rfl, rfl, rfl, rfl, rfl, rfl, rfl, rfl, rfl, rfl⟩ := oi13 h
    exact hret (fun _ => 0) _ _ _ _ _ _ _ dX10_some_22 rfl rfl hP hD hS (Nat.le_of_ble_eq_true rfl) (Nat.le_of_ble_eq_true rfl)
  · replace h := (if_neg c_4).symm.trans h
    refine lv_iload_n hx hb dX10_some_7 rfl (lv_at hl 2 rfl) ?_
    obtain ⟨r_8, hc_8, h⟩ := ob1_e h
    refine k_si (va_runS (As := [.int v2]) (rest := []) ⟨hx, hb, hml, hown, hts⟩ (c_X10_isClaim l G   v2 r_8 hc_8) (va_cwS 1 hts gX10_some_X10_isClaim rfl rfl rfl eX10_isClaim ⟨Nat.le_of_ble_eq_true rfl, Nat.le_of_ble_eq_true rfl⟩) (preSS hK (fun k q h => by cases h)) rfl rfl hl.1 rfl (lv_room (Nat.le_of_ble_eq_true rfl)) dX10_some_8 ⟨Nat.le_of_ble_eq_true rfl, Nat.le_of_ble_eq_true rfl⟩) ?_
    refine lv_if_eq (tgt := 21) hx hb dX10_some_11 (by decide) (fun c_11 => ?_) (fun c_11 => ?_)
    · replace h := (if_pos c_11).symm.trans h
      refine lv_iconst (v := -1) hx hb dX10_some_21 (by decide) ?_
      obtain ⟨rfl, rfl, rfl, rfl, rfl, rfl, rfl, rfl, rfl, rfl, rfl, rfl, rfl⟩ := oi13 h
      exact hret (fun _ => 0) _ _ _ _ _ _ _ dX10_some_22 rfl rfl hP hD hS (Nat.le_of_ble_eq_true rfl) (Nat.le_of_ble_eq_true rfl)
    · replace h := (if_neg c_11).symm.trans h
      refine lv_iload_n hx hb dX10_some_14 rfl (lv_at hl 3 rfl) ?_
      obtain ⟨r_15, hc_15, h⟩ := ob1_e h
      refine k_si (va_runS (As := [.int v3]) (rest := []) ⟨hx, hb, hml, hown, hts⟩ (c_X10_isNumber l G   v3 r_15 hc_15) (va_cwS 1 hts gX10_some_X10_isNumber rfl rfl rfl eX10_isNumber ⟨Nat.le_of_ble_eq_true rfl, Nat.le_of_ble_eq_true rfl⟩) (preSS hK (fun k q h => by cases h)) rfl rfl hl.1 rfl (lv_room (Nat.le_of_ble_eq_true rfl)) dX10_some_15 ⟨Nat.le_of_ble_eq_true rfl, Nat.le_of_ble_eq_true rfl⟩) ?_
      refine lv_if_ne (tgt := 23) hx hb dX10_some_18 (by decide) (fun c_18 => ?_) (fun c_18 => ?_)
      · replace h := (if_neg c_18).symm.trans h
        refine lv_aload_n hx hb dX10_some_23 rfl (lv_at hl 0 rfl) ?_
        refine lv_iload_n hx hb dX10_some_24 rfl (lv_at hl 2 rfl) ?_
        obtain ⟨r_25, hc_25, h⟩ := ob1_e h
        refine k_si (va_runV (As := [.int v2]) (rest := []) ⟨hx, hb, hml, hown, hts⟩ (c_X10_isThere l G m_h m_q m_onBy m_toldBy m_kindsOf m_nextOf m_holdsAt m_made m_standsFor m_madeNext m_madeHolds m_stateFor m_joined m_joinedNow m_firstIn m_orderOf m_classAt m_sets m_waysTo m_waysThen m_queue m_leastTo v2 r_25 hc_25) (cwV 1 hts gX10_some_X10_isThere rfl rfl rfl ⟨rfl, eX10_isThere⟩ ⟨Nat.le_of_ble_eq_true rfl, Nat.le_of_ble_eq_true rfl⟩) (preSV (ci := 10) (q0 := 0) hK hP rfl rfl) rfl rfl hl.1 rfl (lv_room (Nat.le_of_ble_eq_true rfl)) dX10_some_25 ⟨Nat.le_of_ble_eq_true rfl, Nat.le_of_ble_eq_true rfl⟩) ?_
        refine lv_if_eq (tgt := 42) hx hb dX10_some_28 (by decide) (fun c_28 => ?_) (fun c_28 => ?_)
        · replace h := (if_pos c_28).symm.trans h
          refine lv_bipush (v := -3) hx hb dX10_some_42 (by decide) ?_
          obtain ⟨rfl, rfl, rfl, rfl, rfl, rfl, rfl, rfl, rfl, rfl, rfl, rfl, rfl⟩ := oi13 h
          exact hret (fun _ => 0) _ _ _ _ _ _ _ dX10_some_44 rfl rfl hP hD hS (Nat.le_of_ble_eq_true rfl) (Nat.le_of_ble_eq_true rfl)
        · replace h := (if_neg c_28).symm.trans h
          refine lv_aload_n hx hb dX10_some_31 rfl (lv_at hl 0 rfl) ?_
          refine lv_iload_n hx hb dX10_some_32 rfl (lv_at hl 1 rfl) ?_
          refine lv_iload_n hx hb dX10_some_33 rfl (lv_at hl 2 rfl) ?_
          refine lv_iload_n hx hb dX10_some_34 rfl (lv_at hl 3 rfl) ?_
          refine lv_iconst (v := 0) hx hb dX10_some_35 (by decide) ?_
          obtain ⟨r_36, m_kindsOf_36, m_nextOf_36, m_holdsAt_36, m_made_36, m_madeNext_36, m_madeHolds_36, m_joined_36, m_joinedNow_36, m_firstIn_36, m_orderOf_36, m_classAt_36, m_sets_36, hc_36, h⟩ := ob13_e h
          refine k_ciA (va_runV (As := [.int v1, .int v2, .int v3, .int (0 : Int32)]) (rest := []) ⟨hx, hb, hml, hown, hts⟩ (c_X10_quantifies l G n m_h m_q m_onBy m_toldBy m_kindsOf m_nextOf m_holdsAt m_made m_standsFor m_madeNext m_madeHolds m_stateFor m_joined m_joinedNow m_firstIn m_orderOf m_classAt m_sets m_waysTo m_waysThen m_queue m_leastTo v1 v2 v3 (0 : Int32) _ r_36 m_kindsOf_36 m_nextOf_36 m_holdsAt_36 m_made_36 m_madeNext_36 m_madeHolds_36 m_joined_36 m_joinedNow_36 m_firstIn_36 m_orderOf_36 m_classAt_36 m_sets_36 hc_36) (cwV 4 hts gX10_some_X10_quantifies rfl rfl rfl ⟨rfl, eX10_quantifies⟩ ⟨Nat.le_of_ble_eq_true rfl, Nat.le_of_ble_eq_true rfl⟩) (preWV (ci := 10) (q0 := 0) hK hP hD rfl rfl) rfl rfl hl.1 rfl (lv_room (Nat.le_of_ble_eq_true rfl)) dX10_some_36 ⟨Nat.le_of_ble_eq_true rfl, Nat.le_of_ble_eq_true rfl⟩) hD hS hA (fun u_36 H locs hP hD hS => ?_)
          have hP : va_P G.1 vwCl (WM G m_h m_q m_onBy m_toldBy m_kindsOf_36 m_nextOf_36 m_holdsAt_36 m_made_36 m_standsFor m_madeNext_36 m_madeHolds_36 m_stateFor m_joined_36 m_joinedNow_36 m_firstIn_36 m_orderOf_36 m_classAt_36 m_sets_36 m_waysTo m_waysThen m_queue m_leastTo) H := hP
          have hD : va_D A (WM G m_h m_q m_onBy m_toldBy m_kindsOf_36 m_nextOf_36 m_holdsAt_36 m_made_36 m_standsFor m_madeNext_36 m_madeHolds_36 m_stateFor m_joined_36 m_joinedNow_36 m_firstIn_36 m_orderOf_36 m_classAt_36 m_sets_36 m_waysTo m_waysThen m_queue m_leastTo) := hD
          refine lv_goto (tgt := 44) hx hb dX10_some_39 (by decide) ?_
          obtain ⟨rfl, rfl, rfl, rfl, rfl, rfl, rfl, rfl, rfl, rfl, rfl, rfl, rfl⟩ := oi13 h
          exact hret (fun _ => 0) _ _ _ _ _ _ _ dX10_some_44 rfl rfl hP hD hS (Nat.le_of_ble_eq_true rfl) (Nat.le_of_ble_eq_true rfl)
      · replace h := (if_pos c_18).symm.trans h
        refine lv_iconst (v := -1) hx hb dX10_some_21 (by decide) ?_
        obtain ⟨rfl, rfl, rfl, rfl, rfl, rfl, rfl, rfl, rfl, rfl, rfl, rfl, rfl⟩ := oi13 h
        exact hret (fun _ => 0) _ _ _ _ _ _ _ dX10_some_22 rfl rfl hP hD hS (Nat.le_of_ble_eq_true rfl) (Nat.le_of_ble_eq_true rfl)
abbrev rX10_all : Room := { frames := 5, cells := 0, slots := 0, locals := 127 }
set_option maxHeartbeats 4000000 in
set_option maxRecDepth 100000 in
theorem c_X10_all (l : Launch) (G : GG) (n : Nat) (m_h : Nat) (m_q : Nat → Nat) (m_onBy : AI) (m_toldBy : AI) (m_kindsOf : AI) (m_nextOf : AI) (m_holdsAt : AI) (m_made : Int32) (m_standsFor : AI) (m_madeNext : AI) (m_madeHolds : AI) (m_stateFor : AI) (m_joined : AI) (m_joinedNow : AI) (m_firstIn : AI) (m_orderOf : AI) (m_classAt : AI) (m_sets : AL) (m_waysTo : AL) (m_waysThen : AL) (m_queue : AI) (m_leastTo : AL) (v1 : Int32) (v2 : Int32) (v3 : Int32) (sz : Nat) (r : Int32) (m_kindsOf_z : AI) (m_nextOf_z : AI) (m_holdsAt_z : AI) (m_made_z : Int32) (m_madeNext_z : AI) (m_madeHolds_z : AI) (m_joined_z : AI) (m_joinedNow_z : AI) (m_firstIn_z : AI) (m_orderOf_z : AI) (m_classAt_z : AI) (m_sets_z : AL) (h : p_X10_all n m_kindsOf m_nextOf m_holdsAt m_made m_madeNext m_madeHolds m_joined m_joinedNow m_firstIn m_orderOf m_classAt m_sets v1 v2 v3 = some (r, m_kindsOf_z, m_nextOf_z, m_holdsAt_z, m_made_z, m_madeNext_z, m_madeHolds_z, m_joined_z, m_joinedNow_z, m_firstIn_z, m_orderOf_z, m_classAt_z, m_sets_z)) : CI l yX10_all wsX10_all rX10_all G [.ref m_h, .int v1, .int v2, .int v3] (WM G m_h m_q m_onBy m_toldBy m_kindsOf m_nextOf m_holdsAt m_made m_standsFor m_madeNext m_madeHolds m_stateFor m_joined m_joinedNow m_firstIn m_orderOf m_classAt m_sets m_waysTo m_waysThen m_queue m_leastTo) sz r (fun u => WM G m_h m_q m_onBy m_toldBy m_kindsOf_z m_nextOf_z m_holdsAt_z m_made_z m_standsFor m_madeNext_z m_madeHolds_z m_stateFor m_joined_z m_joinedNow_z m_firstIn_z m_orderOf_z m_classAt_z m_sets_z m_waysTo m_waysThen m_queue m_leastTo) := by
  refine enterCI (cc := cX10_all) (maxL := 4) (by decide) rfl (Nat.le_of_ble_eq_true rfl) ?_
  intro p e s m args below meth c A Q hx hb hml hown hts hK hP hD hS hA hret ls hl
  have hown : s.vm.findClass RX10 = some m.cls := hown
  have hl : lv_has ls 4 [(0, .ref m_h), (1, .int v1), (2, .int v2), (3, .int v3)] := hl
  unfold p_X10_all at h
  refine lv_iload_n hx hb dX10_all_0 rfl (lv_at hl 1 rfl) ?_
  obtain ⟨r_1, hc_1, h⟩ := ob1_e h
  refine k_si (va_runS (As := [.int v1]) (rest := []) ⟨hx, hb, hml, hown, hts⟩ (c_X10_isClaim l G   v1 r_1 hc_1) (va_cwS 1 hts gX10_all_X10_isClaim rfl rfl rfl eX10_isClaim ⟨Nat.le_of_ble_eq_true rfl, Nat.le_of_ble_eq_true rfl⟩) (preSS hK (fun k q h => by cases h)) rfl rfl hl.1 rfl (lv_room (Nat.le_of_ble_eq_true rfl)) dX10_all_1 ⟨Nat.le_of_ble_eq_true rfl, Nat.le_of_ble_eq_true rfl⟩) ?_
  refine lv_if_eq (tgt := 21) hx hb dX10_all_4 (by decide) (fun c_4 => ?_) (fun c_4 => ?_)
  · replace h := (if_pos c_4).symm.trans h
    refine lv_iconst (v := -1) hx hb dX10_all_21 (by decide) ?_
    obtain ⟨rfl, rfl, rfl, rfl, rfl, rfl, rfl, rfl, rfl, rfl, rfl, rfl, rfl⟩ := oi13 h
    exact hret (fun _ => 0) _ _ _ _ _ _ _ dX10_all_22 rfl rfl hP hD hS (Nat.le_of_ble_eq_true rfl) (Nat.le_of_ble_eq_true rfl)
  · replace h := (if_neg c_4).symm.trans h
    refine lv_iload_n hx hb dX10_all_7 rfl (lv_at hl 2 rfl) ?_
    obtain ⟨r_8, hc_8, h⟩ := ob1_e h
    refine k_si (va_runS (As := [.int v2]) (rest := []) ⟨hx, hb, hml, hown, hts⟩ (c_X10_isClaim l G   v2 r_8 hc_8) (va_cwS 1 hts gX10_all_X10_isClaim rfl rfl rfl eX10_isClaim ⟨Nat.le_of_ble_eq_true rfl, Nat.le_of_ble_eq_true rfl⟩) (preSS hK (fun k q h => by cases h)) rfl rfl hl.1 rfl (lv_room (Nat.le_of_ble_eq_true rfl)) dX10_all_8 ⟨Nat.le_of_ble_eq_true rfl, Nat.le_of_ble_eq_true rfl⟩) ?_
    refine lv_if_eq (tgt := 21) hx hb dX10_all_11 (by decide) (fun c_11 => ?_) (fun c_11 => ?_)
    · replace h := (if_pos c_11).symm.trans h
      refine lv_iconst (v := -1) hx hb dX10_all_21 (by decide) ?_
      obtain ⟨rfl, rfl, rfl, rfl, rfl, rfl, rfl, rfl, rfl, rfl, rfl, rfl, rfl⟩ := oi13 h
      exact hret (fun _ => 0) _ _ _ _ _ _ _ dX10_all_22 rfl rfl hP hD hS (Nat.le_of_ble_eq_true rfl) (Nat.le_of_ble_eq_true rfl)
    · replace h := (if_neg c_11).symm.trans h
      refine lv_iload_n hx hb dX10_all_14 rfl (lv_at hl 3 rfl) ?_
      obtain ⟨r_15, hc_15, h⟩ := ob1_e h
      refine k_si (va_runS (As := [.int v3]) (rest := []) ⟨hx, hb, hml, hown, hts⟩ (c_X10_isNumber l G   v3 r_15 hc_15) (va_cwS 1 hts gX10_all_X10_isNumber rfl rfl rfl eX10_isNumber ⟨Nat.le_of_ble_eq_true rfl, Nat.le_of_ble_eq_true rfl⟩) (preSS hK (fun k q h => by cases h)) rfl rfl hl.1 rfl (lv_room (Nat.le_of_ble_eq_true rfl)) dX10_all_15 ⟨Nat.le_of_ble_eq_true rfl, Nat.le_of_ble_eq_true rfl⟩) ?_
      refine lv_if_ne (tgt := 23) hx hb dX10_all_18 (by decide) (fun c_18 => ?_) (fun c_18 => ?_)
      · replace h := (if_neg c_18).symm.trans h
        refine lv_aload_n hx hb dX10_all_23 rfl (lv_at hl 0 rfl) ?_
        refine lv_iload_n hx hb dX10_all_24 rfl (lv_at hl 2 rfl) ?_
        obtain ⟨r_25, hc_25, h⟩ := ob1_e h
        refine k_si (va_runV (As := [.int v2]) (rest := []) ⟨hx, hb, hml, hown, hts⟩ (c_X10_isThere l G m_h m_q m_onBy m_toldBy m_kindsOf m_nextOf m_holdsAt m_made m_standsFor m_madeNext m_madeHolds m_stateFor m_joined m_joinedNow m_firstIn m_orderOf m_classAt m_sets m_waysTo m_waysThen m_queue m_leastTo v2 r_25 hc_25) (cwV 1 hts gX10_all_X10_isThere rfl rfl rfl ⟨rfl, eX10_isThere⟩ ⟨Nat.le_of_ble_eq_true rfl, Nat.le_of_ble_eq_true rfl⟩) (preSV (ci := 10) (q0 := 0) hK hP rfl rfl) rfl rfl hl.1 rfl (lv_room (Nat.le_of_ble_eq_true rfl)) dX10_all_25 ⟨Nat.le_of_ble_eq_true rfl, Nat.le_of_ble_eq_true rfl⟩) ?_
        refine lv_if_eq (tgt := 42) hx hb dX10_all_28 (by decide) (fun c_28 => ?_) (fun c_28 => ?_)
        · replace h := (if_pos c_28).symm.trans h
          refine lv_bipush (v := -3) hx hb dX10_all_42 (by decide) ?_
          obtain ⟨rfl, rfl, rfl, rfl, rfl, rfl, rfl, rfl, rfl, rfl, rfl, rfl, rfl⟩ := oi13 h
          exact hret (fun _ => 0) _ _ _ _ _ _ _ dX10_all_44 rfl rfl hP hD hS (Nat.le_of_ble_eq_true rfl) (Nat.le_of_ble_eq_true rfl)
        · replace h := (if_neg c_28).symm.trans h
          refine lv_aload_n hx hb dX10_all_31 rfl (lv_at hl 0 rfl) ?_
          refine lv_iload_n hx hb dX10_all_32 rfl (lv_at hl 1 rfl) ?_
          refine lv_iload_n hx hb dX10_all_33 rfl (lv_at hl 2 rfl) ?_
          refine lv_iload_n hx hb dX10_all_34 rfl (lv_at hl 3 rfl) ?_
          refine lv_iconst (v := 1) hx hb dX10_all_35 (by decide) ?_
          obtain ⟨r_36, m_kindsOf_36, m_nextOf_36, m_holdsAt_36, m_made_36, m_madeNext_36, m_madeHolds_36, m_joined_36, m_joinedNow_36, m_firstIn_36, m_orderOf_36, m_classAt_36, m_sets_36, hc_36, h⟩ := ob13_e h
          refine k_ciA (va_runV (As := [.int v1, .int v2, .int v3, .int (1 : Int32)]) (rest := []) ⟨hx, hb, hml, hown, hts⟩ (c_X10_quantifies l G n m_h m_q m_onBy m_toldBy m_kindsOf m_nextOf m_holdsAt m_made m_standsFor m_madeNext m_madeHolds m_stateFor m_joined m_joinedNow m_firstIn m_orderOf m_classAt m_sets m_waysTo m_waysThen m_queue m_leastTo v1 v2 v3 (1 : Int32) _ r_36 m_kindsOf_36 m_nextOf_36 m_holdsAt_36 m_made_36 m_madeNext_36 m_madeHolds_36 m_joined_36 m_joinedNow_36 m_firstIn_36 m_orderOf_36 m_classAt_36 m_sets_36 hc_36) (cwV 4 hts gX10_all_X10_quantifies rfl rfl rfl ⟨rfl, eX10_quantifies⟩ ⟨Nat.le_of_ble_eq_true rfl, Nat.le_of_ble_eq_true rfl⟩) (preWV (ci := 10) (q0 := 0) hK hP hD rfl rfl) rfl rfl hl.1 rfl (lv_room (Nat.le_of_ble_eq_true rfl)) dX10_all_36 ⟨Nat.le_of_ble_eq_true rfl, Nat.le_of_ble_eq_true rfl⟩) hD hS hA (fun u_36 H locs hP hD hS => ?_)
          have hP : va_P G.1 vwCl (WM G m_h m_q m_onBy m_toldBy m_kindsOf_36 m_nextOf_36 m_holdsAt_36 m_made_36 m_standsFor m_madeNext_36 m_madeHolds_36 m_stateFor m_joined_36 m_joinedNow_36 m_firstIn_36 m_orderOf_36 m_classAt_36 m_sets_36 m_waysTo m_waysThen m_queue m_leastTo) H := hP
          have hD : va_D A (WM G m_h m_q m_onBy m_toldBy m_kindsOf_36 m_nextOf_36 m_holdsAt_36 m_made_36 m_standsFor m_madeNext_36 m_madeHolds_36 m_stateFor m_joined_36 m_joinedNow_36 m_firstIn_36 m_orderOf_36 m_classAt_36 m_sets_36 m_waysTo m_waysThen m_queue m_leastTo) := hD
          refine lv_goto (tgt := 44) hx hb dX10_all_39 (by decide) ?_
          obtain ⟨rfl, rfl, rfl, rfl, rfl, rfl, rfl, rfl, rfl, rfl, rfl, rfl, rfl⟩ := oi13 h
          exact hret (fun _ => 0) _ _ _ _ _ _ _ dX10_all_44 rfl rfl hP hD hS (Nat.le_of_ble_eq_true rfl) (Nat.le_of_ble_eq_true rfl)
      · replace h := (if_pos c_18).symm.trans h
        refine lv_iconst (v := -1) hx hb dX10_all_21 (by decide) ?_
        obtain ⟨rfl, rfl, rfl, rfl, rfl, rfl, rfl, rfl, rfl, rfl, rfl, rfl, rfl⟩ := oi13 h
        exact hret (fun _ => 0) _ _ _ _ _ _ _ dX10_all_22 rfl rfl hP hD hS (Nat.le_of_ble_eq_true rfl) (Nat.le_of_ble_eq_true rfl)
abbrev rX10_holds : Room := { frames := 2, cells := 0, slots := 0, locals := 42 }
set_option maxHeartbeats 4000000 in
set_option maxRecDepth 100000 in
theorem c_X10_holds (l : Launch) (G : GG) (n : Nat) (m_h : Nat) (m_q : Nat → Nat) (m_onBy : AI) (m_toldBy : AI) (m_kindsOf : AI) (m_nextOf : AI) (m_holdsAt : AI) (m_made : Int32) (m_standsFor : AI) (m_madeNext : AI) (m_madeHolds : AI) (m_stateFor : AI) (m_joined : AI) (m_joinedNow : AI) (m_firstIn : AI) (m_orderOf : AI) (m_classAt : AI) (m_sets : AL) (m_waysTo : AL) (m_waysThen : AL) (m_queue : AI) (m_leastTo : AL) (v1 : Int32) (v2 : Int32) (v3 : Int32) (v4 : Int32) (r : Int32) (h : p_X10_holds n m_kindsOf m_nextOf m_holdsAt v1 v2 v3 v4 = some r) : SI l yX10_holds wsX10_holds rX10_holds G [.ref m_h, .int v1, .int v2, .int v3, .int v4] (WM G m_h m_q m_onBy m_toldBy m_kindsOf m_nextOf m_holdsAt m_made m_standsFor m_madeNext m_madeHolds m_stateFor m_joined m_joinedNow m_firstIn m_orderOf m_classAt m_sets m_waysTo m_waysThen m_queue m_leastTo) r := by
  refine enterSI (cc := cX10_holds) (maxL := 7) (by decide) rfl (Nat.le_of_ble_eq_true rfl) ?_
  intro p e s m args below meth c Q hx hb hml hown hts hK hP hret ls hl
  have hown : s.vm.findClass RX10 = some m.cls := hown
  have hl : lv_has ls 7 [(0, .ref m_h), (1, .int v1), (2, .int v2), (3, .int v3), (4, .int v4)] := hl
  unfold p_X10_holds at h
  refine lv_iload_n hx hb dX10_holds_0 rfl (lv_at hl 1 rfl) ?_
  obtain ⟨r_1, hc_1, h⟩ := ob1_e h
  refine k_si (va_runS (As := [.int v1]) (rest := []) ⟨hx, hb, hml, hown, hts⟩ (c_X10_isClaim l G   v1 r_1 hc_1) (va_cwS 1 hts gX10_holds_X10_isClaim rfl rfl rfl eX10_isClaim ⟨Nat.le_of_ble_eq_true rfl, Nat.le_of_ble_eq_true rfl⟩) (preSS hK (fun k q h => by cases h)) rfl rfl hl.1 rfl (lv_room (Nat.le_of_ble_eq_true rfl)) dX10_holds_1 ⟨Nat.le_of_ble_eq_true rfl, Nat.le_of_ble_eq_true rfl⟩) ?_
  refine lv_if_ne (tgt := 9) hx hb dX10_holds_4 (by decide) (fun c_4 => ?_) (fun c_4 => ?_)
  · replace h := (if_neg c_4).symm.trans h
    refine lv_iload_n hx hb dX10_holds_9 rfl (lv_at hl 2 rfl) ?_
    refine lv_iconst (v := 0) hx hb dX10_holds_10 (by decide) ?_
    refine lv_ldc (v := 1000000000) hx hb hown (hts (.constant RX10 80 (1000000000)) (by decide +kernel)) dX10_holds_11 ?_
    obtain ⟨r_13, hc_13, h⟩ := ob1_e h
    refine k_si (va_runS (As := [.int v2, .int (0 : Int32), .int (1000000000 : Int32)]) (rest := []) ⟨hx, hb, hml, hown, hts⟩ (c_X10_within l G   v2 (0 : Int32) (1000000000 : Int32) r_13 hc_13) (va_cwS 3 hts gX10_holds_X10_within rfl rfl rfl eX10_within ⟨Nat.le_of_ble_eq_true rfl, Nat.le_of_ble_eq_true rfl⟩) (preSS hK (fun k q h => by cases h)) rfl rfl hl.1 rfl (lv_room (Nat.le_of_ble_eq_true rfl)) dX10_holds_13 ⟨Nat.le_of_ble_eq_true rfl, Nat.le_of_ble_eq_true rfl⟩) ?_
    refine lv_if_eq (tgt := 40) hx hb dX10_holds_16 (by decide) (fun c_16 => ?_) (fun c_16 => ?_)
    · replace h := (if_pos c_16).symm.trans h
      refine lv_bipush (v := -2) hx hb dX10_holds_40 (by decide) ?_
      obtain rfl := oi1 h
      exact hret _ _ _ dX10_holds_42 rfl rfl
    · replace h := (if_neg c_16).symm.trans h
      refine lv_iload_n hx hb dX10_holds_19 rfl (lv_at hl 3 rfl) ?_
      refine lv_iconst (v := 0) hx hb dX10_holds_20 (by decide) ?_
      refine lv_ldc (v := 1000000000) hx hb hown (hts (.constant RX10 80 (1000000000)) (by decide +kernel)) dX10_holds_21 ?_
      obtain ⟨r_23, hc_23, h⟩ := ob1_e h
      refine k_si (va_runS (As := [.int v3, .int (0 : Int32), .int (1000000000 : Int32)]) (rest := []) ⟨hx, hb, hml, hown, hts⟩ (c_X10_within l G   v3 (0 : Int32) (1000000000 : Int32) r_23 hc_23) (va_cwS 3 hts gX10_holds_X10_within rfl rfl rfl eX10_within ⟨Nat.le_of_ble_eq_true rfl, Nat.le_of_ble_eq_true rfl⟩) (preSS hK (fun k q h => by cases h)) rfl rfl hl.1 rfl (lv_room (Nat.le_of_ble_eq_true rfl)) dX10_holds_23 ⟨Nat.le_of_ble_eq_true rfl, Nat.le_of_ble_eq_true rfl⟩) ?_
      refine lv_if_eq (tgt := 40) hx hb dX10_holds_26 (by decide) (fun c_26 => ?_) (fun c_26 => ?_)
      · replace h := (if_pos c_26).symm.trans h
        refine lv_bipush (v := -2) hx hb dX10_holds_40 (by decide) ?_
        obtain rfl := oi1 h
        exact hret _ _ _ dX10_holds_42 rfl rfl
      · replace h := (if_neg c_26).symm.trans h
        refine lv_iload hx hb dX10_holds_29 (lv_at hl 4 rfl) ?_
        refine lv_iconst (v := 0) hx hb dX10_holds_31 (by decide) ?_
        refine lv_ldc (v := 1000000000) hx hb hown (hts (.constant RX10 80 (1000000000)) (by decide +kernel)) dX10_holds_32 ?_
        obtain ⟨r_34, hc_34, h⟩ := ob1_e h
        refine k_si (va_runS (As := [.int v4, .int (0 : Int32), .int (1000000000 : Int32)]) (rest := []) ⟨hx, hb, hml, hown, hts⟩ (c_X10_within l G   v4 (0 : Int32) (1000000000 : Int32) r_34 hc_34) (va_cwS 3 hts gX10_holds_X10_within rfl rfl rfl eX10_within ⟨Nat.le_of_ble_eq_true rfl, Nat.le_of_ble_eq_true rfl⟩) (preSS hK (fun k q h => by cases h)) rfl rfl hl.1 rfl (lv_room (Nat.le_of_ble_eq_true rfl)) dX10_holds_34 ⟨Nat.le_of_ble_eq_true rfl, Nat.le_of_ble_eq_true rfl⟩) ?_
        refine lv_if_ne (tgt := 43) hx hb dX10_holds_37 (by decide) (fun c_37 => ?_) (fun c_37 => ?_)
        · replace h := (if_neg c_37).symm.trans h
          refine lv_aload_n hx hb dX10_holds_43 rfl (lv_at hl 0 rfl) ?_
          refine lv_iload_n hx hb dX10_holds_44 rfl (lv_at hl 1 rfl) ?_
          obtain ⟨r_45, hc_45, h⟩ := ob1_e h
          refine k_si (va_runV (As := [.int v1]) (rest := []) ⟨hx, hb, hml, hown, hts⟩ (c_X10_isThere l G m_h m_q m_onBy m_toldBy m_kindsOf m_nextOf m_holdsAt m_made m_standsFor m_madeNext m_madeHolds m_stateFor m_joined m_joinedNow m_firstIn m_orderOf m_classAt m_sets m_waysTo m_waysThen m_queue m_leastTo v1 r_45 hc_45) (cwV 1 hts gX10_holds_X10_isThere rfl rfl rfl ⟨rfl, eX10_isThere⟩ ⟨Nat.le_of_ble_eq_true rfl, Nat.le_of_ble_eq_true rfl⟩) (preSV (ci := 10) (q0 := 0) hK hP rfl rfl) rfl rfl hl.1 rfl (lv_room (Nat.le_of_ble_eq_true rfl)) dX10_holds_45 ⟨Nat.le_of_ble_eq_true rfl, Nat.le_of_ble_eq_true rfl⟩) ?_
          refine lv_if_ne (tgt := 54) hx hb dX10_holds_48 (by decide) (fun c_48 => ?_) (fun c_48 => ?_)
          · replace h := (if_neg c_48).symm.trans h
            refine lv_iconst (v := 0) hx hb dX10_holds_54 (by decide) ?_
            refine lv_istore (lv' := [(5, .int (0 : Int32)), (0, .ref m_h), (1, .int v1), (2, .int v2), (3, .int v3), (4, .int v4)]) hx hb dX10_holds_55 hl (by decide) rfl (fun ls hl => ?_)
            refine lv_bipush (v := 29) hx hb dX10_holds_57 (by decide) ?_
            refine lv_istore (lv' := [(6, .int (29 : Int32)), (5, .int (0 : Int32)), (0, .ref m_h), (1, .int v1), (2, .int v2), (3, .int v3), (4, .int v4)]) hx hb dX10_holds_59 hl (by decide) rfl (fun ls hl => ?_)
            obtain ⟨o5_61, hT61, h⟩ := ob1_e h
            have hX61 : ∀ (x5_61 : Int32)  (ls : Array Slot), some x5_61 = some o5_61 → lv_has ls 7 [(0, .ref m_h), (1, .int v1), (5, .int x5_61)] → W p l e rX10_holds s m args below meth c s.heap [] 0 0 Q (F0 m 106 ls []) := by
              intro x5_61 ls hq hl
              obtain rfl := oi1 hq
              refine lv_aload_n hx hb dX10_holds_106 rfl (lv_at hl 0 rfl) ?_
              refine lv_iload_n hx hb dX10_holds_107 rfl (lv_at hl 1 rfl) ?_
              refine lv_iload hx hb dX10_holds_108 (lv_at hl 2 rfl) ?_
              obtain ⟨r_110, hc_110, h⟩ := ob1_e h
              refine k_si (va_runV (As := [.int v1, .int o5_61]) (rest := []) ⟨hx, hb, hml, hown, hts⟩ (c_X10_holdsIn l G m_h m_q m_onBy m_toldBy m_kindsOf m_nextOf m_holdsAt m_made m_standsFor m_madeNext m_madeHolds m_stateFor m_joined m_joinedNow m_firstIn m_orderOf m_classAt m_sets m_waysTo m_waysThen m_queue m_leastTo v1 o5_61 r_110 hc_110) (cwV 2 hts gX10_holds_X10_holdsIn rfl rfl rfl ⟨rfl, eX10_holdsIn⟩ ⟨Nat.le_of_ble_eq_true rfl, Nat.le_of_ble_eq_true rfl⟩) (preSV (ci := 10) (q0 := 0) hK hP rfl rfl) rfl rfl hl.1 rfl (lv_room (Nat.le_of_ble_eq_true rfl)) dX10_holds_110 ⟨Nat.le_of_ble_eq_true rfl, Nat.le_of_ble_eq_true rfl⟩) ?_
              refine lv_if_eq (tgt := 120) hx hb dX10_holds_113 (by decide) (fun c_113 => ?_) (fun c_113 => ?_)
              · replace h := (if_pos c_113).symm.trans h
                refine lv_iconst (v := 0) hx hb dX10_holds_120 (by decide) ?_
                obtain rfl := oi1 h
                exact hret _ _ _ dX10_holds_121 rfl rfl
              · replace h := (if_neg c_113).symm.trans h
                refine lv_iconst (v := 1) hx hb dX10_holds_116 (by decide) ?_
                refine lv_goto (tgt := 121) hx hb dX10_holds_117 (by decide) ?_
                obtain rfl := oi1 h
                exact hret _ _ _ dX10_holds_121 rfl rfl
            have hL61 : ∀ (f : Nat) (v5_61 : Int32) (v6_61 : Int32)  (ls : Array Slot), p_X10_holds_L61 m_nextOf v1 v2 v3 v4 f v5_61 v6_61 = some o5_61 → lv_has ls 7 [(0, .ref m_h), (1, .int v1), (2, .int v2), (3, .int v3), (4, .int v4), (5, .int v5_61), (6, .int v6_61)] → W p l e rX10_holds s m args below meth c s.heap [] 0 0 Q (F0 m 61 ls []) := by
              intro f
              induction f with
              | zero => intro v5_61 v6_61 ls h hl; cases (show none = some _ from h)
              | succ f ih =>
                intro v5_61 v6_61 ls h hl
                rw [p_X10_holds_L61] at h
                refine lv_iload hx hb dX10_holds_61 (lv_at hl 6 rfl) ?_
                refine lv_if_lt (tgt := 106) hx hb dX10_holds_63 (by decide) (fun c_63 => ?_) (fun c_63 => ?_)
                · replace h := (if_pos c_63).symm.trans h
                  exact hX61 _  _ h (lv_sub hl [0, 1, 5] rfl)
                · replace h := (if_neg c_63).symm.trans h
                  refine lv_aload_n hx hb dX10_holds_66 rfl (lv_at hl 0 rfl) ?_
                  refine lv_iload_n hx hb dX10_holds_67 rfl (lv_at hl 1 rfl) ?_
                  refine lv_iload hx hb dX10_holds_68 (lv_at hl 5 rfl) ?_
                  refine lv_iload_n hx hb dX10_holds_70 rfl (lv_at hl 2 rfl) ?_
                  refine lv_iload hx hb dX10_holds_71 (lv_at hl 6 rfl) ?_
                  refine lv_ishr hx hb dX10_holds_73 ?_
                  refine lv_iconst (v := 1) hx hb dX10_holds_74 (by decide) ?_
                  refine lv_iand hx hb dX10_holds_75 ?_
                  refine lv_iload_n hx hb dX10_holds_76 rfl (lv_at hl 3 rfl) ?_
                  refine lv_iload hx hb dX10_holds_77 (lv_at hl 6 rfl) ?_
                  refine lv_ishr hx hb dX10_holds_79 ?_
                  refine lv_iconst (v := 1) hx hb dX10_holds_80 (by decide) ?_
                  refine lv_iand hx hb dX10_holds_81 ?_
                  refine lv_iconst (v := 1) hx hb dX10_holds_82 (by decide) ?_
                  refine lv_ishl hx hb dX10_holds_83 ?_
                  refine lv_ior hx hb dX10_holds_84 ?_
                  refine lv_iload hx hb dX10_holds_85 (lv_at hl 4 rfl) ?_
                  refine lv_iload hx hb dX10_holds_87 (lv_at hl 6 rfl) ?_
                  refine lv_ishr hx hb dX10_holds_89 ?_
                  refine lv_iconst (v := 1) hx hb dX10_holds_90 (by decide) ?_
                  refine lv_iand hx hb dX10_holds_91 ?_
                  refine lv_iconst (v := 2) hx hb dX10_holds_92 (by decide) ?_
                  refine lv_ishl hx hb dX10_holds_93 ?_
                  refine lv_ior hx hb dX10_holds_94 ?_
                  obtain ⟨r_95, hc_95, h⟩ := ob1_e h
                  refine k_si (va_runV (As := [.int v1, .int v5_61, .int ((((v2 >>> (v6_61 &&& (31 : Int32))) &&& (1 : Int32)) ||| (((v3 >>> (v6_61 &&& (31 : Int32))) &&& (1 : Int32)) <<< ((1 : Int32) &&& (31 : Int32)))) ||| (((v4 >>> (v6_61 &&& (31 : Int32))) &&& (1 : Int32)) <<< ((2 : Int32) &&& (31 : Int32))))]) (rest := []) ⟨hx, hb, hml, hown, hts⟩ (c_X10_next l G m_h m_q m_onBy m_toldBy m_kindsOf m_nextOf m_holdsAt m_made m_standsFor m_madeNext m_madeHolds m_stateFor m_joined m_joinedNow m_firstIn m_orderOf m_classAt m_sets m_waysTo m_waysThen m_queue m_leastTo v1 v5_61 ((((v2 >>> (v6_61 &&& (31 : Int32))) &&& (1 : Int32)) ||| (((v3 >>> (v6_61 &&& (31 : Int32))) &&& (1 : Int32)) <<< ((1 : Int32) &&& (31 : Int32)))) ||| (((v4 >>> (v6_61 &&& (31 : Int32))) &&& (1 : Int32)) <<< ((2 : Int32) &&& (31 : Int32)))) r_95 hc_95) (cwV 3 hts gX10_holds_X10_next rfl rfl rfl ⟨rfl, eX10_next⟩ ⟨Nat.le_of_ble_eq_true rfl, Nat.le_of_ble_eq_true rfl⟩) (preSV (ci := 10) (q0 := 0) hK hP rfl rfl) rfl rfl hl.1 rfl (lv_room (Nat.le_of_ble_eq_true rfl)) dX10_holds_95 ⟨Nat.le_of_ble_eq_true rfl, Nat.le_of_ble_eq_true rfl⟩) ?_
                  refine lv_istore (lv' := [(5, .int r_95), (0, .ref m_h), (1, .int v1), (2, .int v2), (3, .int v3), (4, .int v4), (6, .int v6_61)]) hx hb dX10_holds_98 hl (by decide) rfl (fun ls hl => ?_)
                  refine lv_iinc (v := (v6_61 + (-1 : Int32))) (lv' := [(6, .int (v6_61 + (-1 : Int32))), (5, .int r_95), (0, .ref m_h), (1, .int v1), (2, .int v2), (3, .int v3), (4, .int v4)]) hx hb dX10_holds_100 hl (k := 6) rfl rfl (by decide) rfl (fun ls hl => ?_)
                  refine lv_goto (tgt := 61) hx hb dX10_holds_103 (by decide) ?_
                  exact ih _ _  _ h (lv_sub hl [2, 3, 4, 5, 6, 1, 0] rfl)
            exact hL61 n _ _  _ hT61 (lv_sub hl [2, 3, 4, 5, 6, 1, 0] rfl)
          · replace h := (if_pos c_48).symm.trans h
            refine lv_bipush (v := -3) hx hb dX10_holds_51 (by decide) ?_
            obtain rfl := oi1 h
            exact hret _ _ _ dX10_holds_53 rfl rfl
        · replace h := (if_pos c_37).symm.trans h
          refine lv_bipush (v := -2) hx hb dX10_holds_40 (by decide) ?_
          obtain rfl := oi1 h
          exact hret _ _ _ dX10_holds_42 rfl rfl
  · replace h := (if_pos c_4).symm.trans h
    refine lv_iconst (v := -1) hx hb dX10_holds_7 (by decide) ?_
    obtain rfl := oi1 h
    exact hret _ _ _ dX10_holds_8 rfl rfl
abbrev rX10_dependsOn : Room := { frames := 1, cells := 0, slots := 0, locals := 23 }
set_option maxHeartbeats 4000000 in
set_option maxRecDepth 100000 in
theorem c_X10_dependsOn (l : Launch) (G : GG) (n : Nat) (m_h : Nat) (m_q : Nat → Nat) (m_onBy : AI) (m_toldBy : AI) (m_kindsOf : AI) (m_nextOf : AI) (m_holdsAt : AI) (m_made : Int32) (m_standsFor : AI) (m_madeNext : AI) (m_madeHolds : AI) (m_stateFor : AI) (m_joined : AI) (m_joinedNow : AI) (m_firstIn : AI) (m_orderOf : AI) (m_classAt : AI) (m_sets : AL) (m_waysTo : AL) (m_waysThen : AL) (m_queue : AI) (m_leastTo : AL) (v1 : Int32) (v2 : Int32) (sz : Nat) (r : Int32) (m_made_z : Int32) (m_standsFor_z : AI) (m_stateFor_z : AI) (h : p_X10_dependsOn n m_nextOf m_holdsAt m_standsFor m_stateFor v1 v2 = some (r, m_made_z, m_standsFor_z, m_stateFor_z)) : CI l yX10_dependsOn wsX10_dependsOn rX10_dependsOn G [.ref m_h, .int v1, .int v2] (WM G m_h m_q m_onBy m_toldBy m_kindsOf m_nextOf m_holdsAt m_made m_standsFor m_madeNext m_madeHolds m_stateFor m_joined m_joinedNow m_firstIn m_orderOf m_classAt m_sets m_waysTo m_waysThen m_queue m_leastTo) sz r (fun u => WM G m_h m_q m_onBy m_toldBy m_kindsOf m_nextOf m_holdsAt m_made_z m_standsFor_z m_madeNext m_madeHolds m_stateFor_z m_joined m_joinedNow m_firstIn m_orderOf m_classAt m_sets m_waysTo m_waysThen m_queue m_leastTo) := by
  refine enterCI (cc := cX10_dependsOn) (maxL := 8) (by decide) rfl (Nat.le_of_ble_eq_true rfl) ?_
  intro p e s m args below meth c A Q hx hb hml hown hts hK hP hD hS hA hret ls hl
  have hown : s.vm.findClass RX10 = some m.cls := hown
  have hf26 := hts (.fieldLink RX10 26 "DigitClaimsModel" "standsFor" "[I") (by decide +kernel)
  have hf81 := hts (.fieldLink RX10 81 "DigitClaimsModel" "made" "I") (by decide +kernel)
  have hinX10 : ∀ w ∈ wsX100, w ∈ wsX10_dependsOn := by decide +kernel
  have hl : lv_has ls 8 [(0, .ref m_h), (1, .int v1), (2, .int v2)] := hl
  unfold p_X10_dependsOn at h
  refine lv_aload_n hx hb dX10_dependsOn_0 rfl (lv_at hl 0 rfl) ?_
  obtain ⟨m_made_1, m_stateFor_1, hc_1, h⟩ := ob2_e h
  refine k_cvA (va_runV (As := []) (rest := []) ⟨hx, hb, hml, hown, hts⟩ (c_X10_begins l G n m_h m_q m_onBy m_toldBy m_kindsOf m_nextOf m_holdsAt m_made m_standsFor m_madeNext m_madeHolds m_stateFor m_joined m_joinedNow m_firstIn m_orderOf m_classAt m_sets m_waysTo m_waysThen m_queue m_leastTo  _ m_made_1 m_stateFor_1 hc_1) (cwV 0 hts gX10_dependsOn_X10_begins rfl rfl rfl ⟨rfl, eX10_begins⟩ ⟨Nat.le_of_ble_eq_true rfl, Nat.le_of_ble_eq_true rfl⟩) (preWV (ci := 10) (q0 := 0) hK hP hD rfl rfl) rfl rfl hl.1 rfl (lv_room (Nat.le_of_ble_eq_true rfl)) dX10_dependsOn_1 ⟨Nat.le_of_ble_eq_true rfl, Nat.le_of_ble_eq_true rfl⟩) hD hS hA (fun u_1 H locs hP hD hS => ?_)
  have hP : va_P G.1 vwCl (WM G m_h m_q m_onBy m_toldBy m_kindsOf m_nextOf m_holdsAt m_made_1 m_standsFor m_madeNext m_madeHolds m_stateFor_1 m_joined m_joinedNow m_firstIn m_orderOf m_classAt m_sets m_waysTo m_waysThen m_queue m_leastTo) H := hP
  have hD : va_D A (WM G m_h m_q m_onBy m_toldBy m_kindsOf m_nextOf m_holdsAt m_made_1 m_standsFor m_madeNext m_madeHolds m_stateFor_1 m_joined m_joinedNow m_firstIn m_orderOf m_classAt m_sets m_waysTo m_waysThen m_queue m_leastTo) := hD
  refine lv_aload_n hx hb dX10_dependsOn_4 rfl (lv_at hl 0 rfl) ?_
  refine lv_iconst (v := 0) hx hb dX10_dependsOn_5 (by decide) ?_
  obtain ⟨r_6, m_made_6, m_standsFor_6, m_stateFor_6, hc_6, h⟩ := ob4_e h
  refine k_ciA (va_runV (As := [.int (0 : Int32)]) (rest := []) ⟨hx, hb, hml, hown, hts⟩ (c_X10_stateOf l G m_h m_q m_onBy m_toldBy m_kindsOf m_nextOf m_holdsAt m_made_1 m_standsFor m_madeNext m_madeHolds m_stateFor_1 m_joined m_joinedNow m_firstIn m_orderOf m_classAt m_sets m_waysTo m_waysThen m_queue m_leastTo (0 : Int32) _ r_6 m_made_6 m_standsFor_6 m_stateFor_6 hc_6) (cwV 1 hts gX10_dependsOn_X10_stateOf rfl rfl rfl ⟨rfl, eX10_stateOf⟩ ⟨Nat.le_of_ble_eq_true rfl, Nat.le_of_ble_eq_true rfl⟩) (preWV (ci := 10) (q0 := 0) hK hP hD rfl rfl) rfl rfl hl.1 rfl (lv_room (Nat.le_of_ble_eq_true rfl)) dX10_dependsOn_6 ⟨Nat.le_of_ble_eq_true rfl, Nat.le_of_ble_eq_true rfl⟩) hD hS hA (fun u_6 H locs hP hD hS => ?_)
  have hP : va_P G.1 vwCl (WM G m_h m_q m_onBy m_toldBy m_kindsOf m_nextOf m_holdsAt m_made_6 m_standsFor_6 m_madeNext m_madeHolds m_stateFor_6 m_joined m_joinedNow m_firstIn m_orderOf m_classAt m_sets m_waysTo m_waysThen m_queue m_leastTo) H := hP
  have hD : va_D A (WM G m_h m_q m_onBy m_toldBy m_kindsOf m_nextOf m_holdsAt m_made_6 m_standsFor_6 m_madeNext m_madeHolds m_stateFor_6 m_joined m_joinedNow m_firstIn m_orderOf m_classAt m_sets m_waysTo m_waysThen m_queue m_leastTo) := hD
  refine lv_pop hx hb dX10_dependsOn_9 rfl ?_
  refine lv_iconst (v := 0) hx hb dX10_dependsOn_10 (by decide) ?_
  refine lv_istore_n (lv' := [(3, .int (0 : Int32)), (0, .ref m_h), (1, .int v1), (2, .int v2)]) hx hb dX10_dependsOn_11 rfl hl (by decide) rfl (fun ls hl => ?_)
  refine lv_iconst (v := 0) hx hb dX10_dependsOn_12 (by decide) ?_
  refine lv_istore (lv' := [(4, .int (0 : Int32)), (3, .int (0 : Int32)), (0, .ref m_h), (1, .int v1), (2, .int v2)]) hx hb dX10_dependsOn_13 hl (by decide) rfl (fun ls hl => ?_)
  obtain ⟨o3_15, m_made_o15, m_standsFor_o15, m_stateFor_o15, hT15, h⟩ := ob4_e h
  have hX15 : ∀ (x3_15 : Int32) (m_made_o15x : Int32) (m_standsFor_o15x : AI) (m_stateFor_o15x : AI)  (H : Heap) (locs : List Loc) (ls : Array Slot), some (x3_15, m_made_o15x, m_standsFor_o15x, m_stateFor_o15x) = some (o3_15, m_made_o15, m_standsFor_o15, m_stateFor_o15) → va_P G.1 vwCl (WM G m_h m_q m_onBy m_toldBy m_kindsOf m_nextOf m_holdsAt m_made_o15x m_standsFor_o15x m_madeNext m_madeHolds m_stateFor_o15x m_joined m_joinedNow m_firstIn m_orderOf m_classAt m_sets m_waysTo m_waysThen m_queue m_leastTo) H → va_D A (WM G m_h m_q m_onBy m_toldBy m_kindsOf m_nextOf m_holdsAt m_made_o15x m_standsFor_o15x m_madeNext m_madeHolds m_stateFor_o15x m_joined m_joinedNow m_firstIn m_orderOf m_classAt m_sets m_waysTo m_waysThen m_queue m_leastTo) → va_S A s.heap H locs → lv_has ls 8 [(3, .int x3_15)] → W p l e rX10_dependsOn s m args below meth c H locs 0 0 Q (F0 m 155 ls []) := by
    intro x3_15 m_made_o15x m_standsFor_o15x m_stateFor_o15x H locs ls hq hP hD hS hl
    obtain ⟨rfl, rfl, rfl, rfl⟩ := oi4 hq
    refine lv_iload_n hx hb dX10_dependsOn_155 rfl (lv_at hl 0 rfl) ?_
    obtain ⟨gbv, h⟩ := gb_e h
    obtain ⟨rfl, rfl, rfl, rfl⟩ := oi4 h
    exact hret (fun _ => 0) _ _ _ _ _ _ _ dX10_dependsOn_156 rfl (nb gbv) hP hD hS (Nat.le_of_ble_eq_true rfl) (Nat.le_of_ble_eq_true rfl)
  have hL15 : ∀ (f : Nat) (v3_15 : Int32) (v4_15 : Int32) (m_made_15 : Int32) (m_standsFor_15 : AI) (m_stateFor_15 : AI)  (H : Heap) (locs : List Loc) (ls : Array Slot), p_X10_dependsOn_L15 n m_holdsAt v1 m_nextOf v2 f v3_15 v4_15 m_made_15 m_standsFor_15 m_stateFor_15 = some (o3_15, m_made_o15, m_standsFor_o15, m_stateFor_o15) → va_P G.1 vwCl (WM G m_h m_q m_onBy m_toldBy m_kindsOf m_nextOf m_holdsAt m_made_15 m_standsFor_15 m_madeNext m_madeHolds m_stateFor_15 m_joined m_joinedNow m_firstIn m_orderOf m_classAt m_sets m_waysTo m_waysThen m_queue m_leastTo) H → va_D A (WM G m_h m_q m_onBy m_toldBy m_kindsOf m_nextOf m_holdsAt m_made_15 m_standsFor_15 m_madeNext m_madeHolds m_stateFor_15 m_joined m_joinedNow m_firstIn m_orderOf m_classAt m_sets m_waysTo m_waysThen m_queue m_leastTo) → va_S A s.heap H locs → lv_has ls 8 [(0, .ref m_h), (1, .int v1), (2, .int v2), (3, .int v3_15), (4, .int v4_15)] → W p l e rX10_dependsOn s m args below meth c H locs 0 0 Q (F0 m 15 ls []) := by
    intro f
    induction f with
    | zero => intro v3_15 v4_15 m_made_15 m_standsFor_15 m_stateFor_15 H locs ls h hP hD hS hl; cases (show none = some _ from h)
    | succ f ih =>
      intro v3_15 v4_15 m_made_15 m_standsFor_15 m_stateFor_15 H locs ls h hP hD hS hl
      rw [p_X10_dependsOn_L15] at h
      refine lv_iload hx hb dX10_dependsOn_15 (lv_at hl 4 rfl) ?_
      refine lv_aload_n hx hb dX10_dependsOn_17 rfl (lv_at hl 0 rfl) ?_
      refine va_get (D := G.1) (ci := 10) (v := .int m_made_15) (C := RX10) (T := TX10) (N := 20) hx hb hts hinX10 hown hK.1 hP 0 rfl rfl 5 (by decide) hf81 (fun _ h9 => h9) rfl dX10_dependsOn_18 ?_
      refine lv_icmp_ge (tgt := 155) hx hb dX10_dependsOn_21 (by decide) (fun c_21 => ?_) (fun c_21 => ?_)
      · replace h := (if_pos c_21).symm.trans h
        exact hX15 _ _ _ _  _ _ _ h hP hD hS (lv_sub hl [3] rfl)
      · replace h := (if_neg c_21).symm.trans h
        refine lv_iload_n hx hb dX10_dependsOn_24 rfl (lv_at hl 3 rfl) ?_
        refine lv_if_ne (tgt := 155) hx hb dX10_dependsOn_25 (by decide) (fun c_25 => ?_) (fun c_25 => ?_)
        · replace h := (if_neg c_25).symm.trans h
          exact hX15 _ _ _ _  _ _ _ h hP hD hS (lv_sub hl [3] rfl)
        · replace h := (if_pos c_25).symm.trans h
          refine lv_aload_n hx hb dX10_dependsOn_28 rfl (lv_at hl 0 rfl) ?_
          refine va_get (D := G.1) (ci := 10) (v := .ref (m_q 5)) (C := RX10) (T := TX10) (N := 20) hx hb hts hinX10 hown hK.1 hP 0 rfl rfl 6 (by decide) hf26 (fun _ h9 => h9) rfl dX10_dependsOn_29 ?_
          refine lv_iload hx hb dX10_dependsOn_32 (lv_at hl 4 rfl) ?_
          obtain ⟨g_34, h⟩ := gi_e h
          refine va_iald hx hb hK.1 hP 6 0 rfl rfl g_34 dX10_dependsOn_34 ?_
          refine lv_bipush (v := 60) hx hb dX10_dependsOn_35 (by decide) ?_
          refine lv_idiv hx hb dX10_dependsOn_37 (by decide) ?_
          refine lv_istore (lv' := [(5, .int ((m_standsFor_15 v4_15.toNatClampNeg) / (60 : Int32))), (0, .ref m_h), (1, .int v1), (2, .int v2), (3, .int v3_15), (4, .int v4_15)]) hx hb dX10_dependsOn_38 hl (by decide) rfl (fun ls hl => ?_)
          refine lv_aload_n hx hb dX10_dependsOn_40 rfl (lv_at hl 1 rfl) ?_
          refine va_get (D := G.1) (ci := 10) (v := .ref (m_q 5)) (C := RX10) (T := TX10) (N := 20) hx hb hts hinX10 hown hK.1 hP 0 rfl rfl 6 (by decide) hf26 (fun _ h9 => h9) rfl dX10_dependsOn_41 ?_
          refine lv_iload hx hb dX10_dependsOn_44 (lv_at hl 5 rfl) ?_
          obtain ⟨g_46, h⟩ := gi_e h
          refine va_iald hx hb hK.1 hP 6 0 rfl rfl g_46 dX10_dependsOn_46 ?_
          refine lv_bipush (v := 60) hx hb dX10_dependsOn_47 (by decide) ?_
          refine lv_irem hx hb dX10_dependsOn_49 (by decide) ?_
          refine lv_istore (lv' := [(6, .int ((m_standsFor_15 v4_15.toNatClampNeg) - (m_standsFor_15 v4_15.toNatClampNeg) / (60 : Int32) * (60 : Int32))), (5, .int ((m_standsFor_15 v4_15.toNatClampNeg) / (60 : Int32))), (0, .ref m_h), (1, .int v1), (2, .int v2), (3, .int v3_15), (4, .int v4_15)]) hx hb dX10_dependsOn_50 hl (by decide) rfl (fun ls hl => ?_)
          refine lv_aload_n hx hb dX10_dependsOn_52 rfl (lv_at hl 2 rfl) ?_
          refine lv_iload_n hx hb dX10_dependsOn_53 rfl (lv_at hl 3 rfl) ?_
          refine lv_iload hx hb dX10_dependsOn_54 (lv_at hl 1 rfl) ?_
          obtain ⟨r_56, hc_56, h⟩ := ob1_e h
          refine k_si (va_runV (As := [.int v1, .int ((m_standsFor_15 v4_15.toNatClampNeg) / (60 : Int32))]) (rest := []) ⟨hx, hb, hml, hown, hts⟩ (c_X10_holdsIn l G m_h m_q m_onBy m_toldBy m_kindsOf m_nextOf m_holdsAt m_made_15 m_standsFor_15 m_madeNext m_madeHolds m_stateFor_15 m_joined m_joinedNow m_firstIn m_orderOf m_classAt m_sets m_waysTo m_waysThen m_queue m_leastTo v1 ((m_standsFor_15 v4_15.toNatClampNeg) / (60 : Int32)) r_56 hc_56) (cwV 2 hts gX10_dependsOn_X10_holdsIn rfl rfl rfl ⟨rfl, eX10_holdsIn⟩ ⟨Nat.le_of_ble_eq_true rfl, Nat.le_of_ble_eq_true rfl⟩) (preSV (ci := 10) (q0 := 0) hK hP rfl rfl) rfl rfl hl.1 rfl (lv_room (Nat.le_of_ble_eq_true rfl)) dX10_dependsOn_56 ⟨Nat.le_of_ble_eq_true rfl, Nat.le_of_ble_eq_true rfl⟩) ?_
          refine lv_aload_n hx hb dX10_dependsOn_59 rfl (lv_at hl 2 rfl) ?_
          refine lv_iload_n hx hb dX10_dependsOn_60 rfl (lv_at hl 3 rfl) ?_
          refine lv_iload hx hb dX10_dependsOn_61 (lv_at hl 0 rfl) ?_
          obtain ⟨r_63, hc_63, h⟩ := ob1_e h
          refine k_si (va_runV (As := [.int v1, .int ((m_standsFor_15 v4_15.toNatClampNeg) - (m_standsFor_15 v4_15.toNatClampNeg) / (60 : Int32) * (60 : Int32))]) (rest := [.int r_56]) ⟨hx, hb, hml, hown, hts⟩ (c_X10_holdsIn l G m_h m_q m_onBy m_toldBy m_kindsOf m_nextOf m_holdsAt m_made_15 m_standsFor_15 m_madeNext m_madeHolds m_stateFor_15 m_joined m_joinedNow m_firstIn m_orderOf m_classAt m_sets m_waysTo m_waysThen m_queue m_leastTo v1 ((m_standsFor_15 v4_15.toNatClampNeg) - (m_standsFor_15 v4_15.toNatClampNeg) / (60 : Int32) * (60 : Int32)) r_63 hc_63) (cwV 2 hts gX10_dependsOn_X10_holdsIn rfl rfl rfl ⟨rfl, eX10_holdsIn⟩ ⟨Nat.le_of_ble_eq_true rfl, Nat.le_of_ble_eq_true rfl⟩) (preSV (ci := 10) (q0 := 0) hK hP rfl rfl) rfl rfl hl.1 rfl (lv_room (Nat.le_of_ble_eq_true rfl)) dX10_dependsOn_63 ⟨Nat.le_of_ble_eq_true rfl, Nat.le_of_ble_eq_true rfl⟩) ?_
          obtain ⟨j0_66, hT66, h⟩ := ob1_e h
          have hJ66 : ∀ (j0_66x : Int32)  (H : Heap) (locs : List Loc) (ls : Array Slot), some j0_66x = some j0_66 → va_P G.1 vwCl (WM G m_h m_q m_onBy m_toldBy m_kindsOf m_nextOf m_holdsAt m_made_15 m_standsFor_15 m_madeNext m_madeHolds m_stateFor_15 m_joined m_joinedNow m_firstIn m_orderOf m_classAt m_sets m_waysTo m_waysThen m_queue m_leastTo) H → va_D A (WM G m_h m_q m_onBy m_toldBy m_kindsOf m_nextOf m_holdsAt m_made_15 m_standsFor_15 m_madeNext m_madeHolds m_stateFor_15 m_joined m_joinedNow m_firstIn m_orderOf m_classAt m_sets m_waysTo m_waysThen m_queue m_leastTo) → va_S A s.heap H locs → lv_has ls 8 [(0, .ref m_h), (1, .int v1), (2, .int v2), (4, .int v4_15), (5, .int ((m_standsFor_15 v4_15.toNatClampNeg) / (60 : Int32))), (6, .int ((m_standsFor_15 v4_15.toNatClampNeg) - (m_standsFor_15 v4_15.toNatClampNeg) / (60 : Int32) * (60 : Int32)))] → W p l e rX10_dependsOn s m args below meth c H locs 0 0 Q (F0 m 74 ls [.int j0_66x]) := by
            intro j0_66x H locs ls hq hP hD hS hl
            obtain rfl := oi1 hq
            refine lv_istore_n (lv' := [(3, .int j0_66), (0, .ref m_h), (1, .int v1), (2, .int v2), (4, .int v4_15), (5, .int ((m_standsFor_15 v4_15.toNatClampNeg) / (60 : Int32))), (6, .int ((m_standsFor_15 v4_15.toNatClampNeg) - (m_standsFor_15 v4_15.toNatClampNeg) / (60 : Int32) * (60 : Int32)))]) hx hb dX10_dependsOn_74 rfl hl (by decide) rfl (fun ls hl => ?_)
            refine lv_iconst (v := 0) hx hb dX10_dependsOn_75 (by decide) ?_
            refine lv_istore (lv' := [(7, .int (0 : Int32)), (3, .int j0_66), (0, .ref m_h), (1, .int v1), (2, .int v2), (4, .int v4_15), (5, .int ((m_standsFor_15 v4_15.toNatClampNeg) / (60 : Int32))), (6, .int ((m_standsFor_15 v4_15.toNatClampNeg) - (m_standsFor_15 v4_15.toNatClampNeg) / (60 : Int32) * (60 : Int32)))]) hx hb dX10_dependsOn_76 hl (by decide) rfl (fun ls hl => ?_)
            obtain ⟨m_made_o78, m_standsFor_o78, m_stateFor_o78, hT78, h⟩ := ob3_e h
            have hX78 : ∀ (m_made_o78x : Int32) (m_standsFor_o78x : AI) (m_stateFor_o78x : AI)  (H : Heap) (locs : List Loc) (ls : Array Slot), some (m_made_o78x, m_standsFor_o78x, m_stateFor_o78x) = some (m_made_o78, m_standsFor_o78, m_stateFor_o78) → va_P G.1 vwCl (WM G m_h m_q m_onBy m_toldBy m_kindsOf m_nextOf m_holdsAt m_made_o78x m_standsFor_o78x m_madeNext m_madeHolds m_stateFor_o78x m_joined m_joinedNow m_firstIn m_orderOf m_classAt m_sets m_waysTo m_waysThen m_queue m_leastTo) H → va_D A (WM G m_h m_q m_onBy m_toldBy m_kindsOf m_nextOf m_holdsAt m_made_o78x m_standsFor_o78x m_madeNext m_madeHolds m_stateFor_o78x m_joined m_joinedNow m_firstIn m_orderOf m_classAt m_sets m_waysTo m_waysThen m_queue m_leastTo) → va_S A s.heap H locs → lv_has ls 8 [(0, .ref m_h), (1, .int v1), (2, .int v2), (3, .int j0_66), (4, .int v4_15)] → W p l e rX10_dependsOn s m args below meth c H locs 0 0 Q (F0 m 149 ls []) := by
              intro m_made_o78x m_standsFor_o78x m_stateFor_o78x H locs ls hq hP hD hS hl
              obtain ⟨rfl, rfl, rfl⟩ := oi3 hq
              refine lv_iinc (v := (v4_15 + (1 : Int32))) (lv' := [(4, .int (v4_15 + (1 : Int32))), (0, .ref m_h), (1, .int v1), (2, .int v2), (3, .int j0_66)]) hx hb dX10_dependsOn_149 hl (k := 4) rfl rfl (by decide) rfl (fun ls hl => ?_)
              refine lv_goto (tgt := 15) hx hb dX10_dependsOn_152 (by decide) ?_
              exact ih _ _ _ _ _  _ _ _ h hP hD hS (lv_sub hl [1, 2, 3, 4, 0] rfl)
            have hL78 : ∀ (f : Nat) (v7_78 : Int32) (m_made_78 : Int32) (m_standsFor_78 : AI) (m_stateFor_78 : AI)  (H : Heap) (locs : List Loc) (ls : Array Slot), p_X10_dependsOn_L78 m_nextOf v1 m_standsFor_15 v4_15 v2 f v7_78 m_made_78 m_standsFor_78 m_stateFor_78 = some (m_made_o78, m_standsFor_o78, m_stateFor_o78) → va_P G.1 vwCl (WM G m_h m_q m_onBy m_toldBy m_kindsOf m_nextOf m_holdsAt m_made_78 m_standsFor_78 m_madeNext m_madeHolds m_stateFor_78 m_joined m_joinedNow m_firstIn m_orderOf m_classAt m_sets m_waysTo m_waysThen m_queue m_leastTo) H → va_D A (WM G m_h m_q m_onBy m_toldBy m_kindsOf m_nextOf m_holdsAt m_made_78 m_standsFor_78 m_madeNext m_madeHolds m_stateFor_78 m_joined m_joinedNow m_firstIn m_orderOf m_classAt m_sets m_waysTo m_waysThen m_queue m_leastTo) → va_S A s.heap H locs → lv_has ls 8 [(0, .ref m_h), (1, .int v1), (2, .int v2), (3, .int j0_66), (4, .int v4_15), (5, .int ((m_standsFor_15 v4_15.toNatClampNeg) / (60 : Int32))), (6, .int ((m_standsFor_15 v4_15.toNatClampNeg) - (m_standsFor_15 v4_15.toNatClampNeg) / (60 : Int32) * (60 : Int32))), (7, .int v7_78)] → W p l e rX10_dependsOn s m args below meth c H locs 0 0 Q (F0 m 78 ls []) := by
              intro f
              induction f with
              | zero => intro v7_78 m_made_78 m_standsFor_78 m_stateFor_78 H locs ls h hP hD hS hl; cases (show none = some _ from h)
              | succ f ih =>
                intro v7_78 m_made_78 m_standsFor_78 m_stateFor_78 H locs ls h hP hD hS hl
                rw [p_X10_dependsOn_L78] at h
                refine lv_iload hx hb dX10_dependsOn_78 (lv_at hl 7 rfl) ?_
                refine lv_bipush (v := 8) hx hb dX10_dependsOn_80 (by decide) ?_
                refine lv_icmp_ge (tgt := 149) hx hb dX10_dependsOn_82 (by decide) (fun c_82 => ?_) (fun c_82 => ?_)
                · replace h := (if_pos c_82).symm.trans h
                  exact hX78 _ _ _  _ _ _ h hP hD hS (lv_sub hl [0, 1, 2, 3, 4] rfl)
                · replace h := (if_neg c_82).symm.trans h
                  refine lv_aload_n hx hb dX10_dependsOn_85 rfl (lv_at hl 0 rfl) ?_
                  refine lv_bipush (v := 60) hx hb dX10_dependsOn_86 (by decide) ?_
                  refine lv_aload_n hx hb dX10_dependsOn_88 rfl (lv_at hl 0 rfl) ?_
                  refine lv_iload_n hx hb dX10_dependsOn_89 rfl (lv_at hl 1 rfl) ?_
                  refine lv_iload hx hb dX10_dependsOn_90 (lv_at hl 5 rfl) ?_
                  refine lv_iload hx hb dX10_dependsOn_92 (lv_at hl 7 rfl) ?_
                  obtain ⟨r_94, hc_94, h⟩ := ob1_e h
                  refine k_si (va_runV (As := [.int v1, .int ((m_standsFor_15 v4_15.toNatClampNeg) / (60 : Int32)), .int v7_78]) (rest := [.int (60 : Int32), .ref m_h]) ⟨hx, hb, hml, hown, hts⟩ (c_X10_next l G m_h m_q m_onBy m_toldBy m_kindsOf m_nextOf m_holdsAt m_made_78 m_standsFor_78 m_madeNext m_madeHolds m_stateFor_78 m_joined m_joinedNow m_firstIn m_orderOf m_classAt m_sets m_waysTo m_waysThen m_queue m_leastTo v1 ((m_standsFor_15 v4_15.toNatClampNeg) / (60 : Int32)) v7_78 r_94 hc_94) (cwV 3 hts gX10_dependsOn_X10_next rfl rfl rfl ⟨rfl, eX10_next⟩ ⟨Nat.le_of_ble_eq_true rfl, Nat.le_of_ble_eq_true rfl⟩) (preSV (ci := 10) (q0 := 0) hK hP rfl rfl) rfl rfl hl.1 rfl (lv_room (Nat.le_of_ble_eq_true rfl)) dX10_dependsOn_94 ⟨Nat.le_of_ble_eq_true rfl, Nat.le_of_ble_eq_true rfl⟩) ?_
                  refine lv_imul hx hb dX10_dependsOn_97 ?_
                  refine lv_aload_n hx hb dX10_dependsOn_98 rfl (lv_at hl 0 rfl) ?_
                  refine lv_iload_n hx hb dX10_dependsOn_99 rfl (lv_at hl 1 rfl) ?_
                  refine lv_iload hx hb dX10_dependsOn_100 (lv_at hl 6 rfl) ?_
                  refine lv_iload hx hb dX10_dependsOn_102 (lv_at hl 7 rfl) ?_
                  obtain ⟨r_104, hc_104, h⟩ := ob1_e h
                  refine k_si (va_runV (As := [.int v1, .int ((m_standsFor_15 v4_15.toNatClampNeg) - (m_standsFor_15 v4_15.toNatClampNeg) / (60 : Int32) * (60 : Int32)), .int v7_78]) (rest := [.int ((60 : Int32) * r_94), .ref m_h]) ⟨hx, hb, hml, hown, hts⟩ (c_X10_next l G m_h m_q m_onBy m_toldBy m_kindsOf m_nextOf m_holdsAt m_made_78 m_standsFor_78 m_madeNext m_madeHolds m_stateFor_78 m_joined m_joinedNow m_firstIn m_orderOf m_classAt m_sets m_waysTo m_waysThen m_queue m_leastTo v1 ((m_standsFor_15 v4_15.toNatClampNeg) - (m_standsFor_15 v4_15.toNatClampNeg) / (60 : Int32) * (60 : Int32)) v7_78 r_104 hc_104) (cwV 3 hts gX10_dependsOn_X10_next rfl rfl rfl ⟨rfl, eX10_next⟩ ⟨Nat.le_of_ble_eq_true rfl, Nat.le_of_ble_eq_true rfl⟩) (preSV (ci := 10) (q0 := 0) hK hP rfl rfl) rfl rfl hl.1 rfl (lv_room (Nat.le_of_ble_eq_true rfl)) dX10_dependsOn_104 ⟨Nat.le_of_ble_eq_true rfl, Nat.le_of_ble_eq_true rfl⟩) ?_
                  refine lv_iadd hx hb dX10_dependsOn_107 ?_
                  obtain ⟨r_108, m_made_108, m_standsFor_108, m_stateFor_108, hc_108, h⟩ := ob4_e h
                  refine k_ciA (va_runV (As := [.int (((60 : Int32) * r_94) + r_104)]) (rest := []) ⟨hx, hb, hml, hown, hts⟩ (c_X10_stateOf l G m_h m_q m_onBy m_toldBy m_kindsOf m_nextOf m_holdsAt m_made_78 m_standsFor_78 m_madeNext m_madeHolds m_stateFor_78 m_joined m_joinedNow m_firstIn m_orderOf m_classAt m_sets m_waysTo m_waysThen m_queue m_leastTo (((60 : Int32) * r_94) + r_104) _ r_108 m_made_108 m_standsFor_108 m_stateFor_108 hc_108) (cwV 1 hts gX10_dependsOn_X10_stateOf rfl rfl rfl ⟨rfl, eX10_stateOf⟩ ⟨Nat.le_of_ble_eq_true rfl, Nat.le_of_ble_eq_true rfl⟩) (preWV (ci := 10) (q0 := 0) hK hP hD rfl rfl) rfl rfl hl.1 rfl (lv_room (Nat.le_of_ble_eq_true rfl)) dX10_dependsOn_108 ⟨Nat.le_of_ble_eq_true rfl, Nat.le_of_ble_eq_true rfl⟩) hD hS hA (fun u_108 H locs hP hD hS => ?_)
                  have hP : va_P G.1 vwCl (WM G m_h m_q m_onBy m_toldBy m_kindsOf m_nextOf m_holdsAt m_made_108 m_standsFor_108 m_madeNext m_madeHolds m_stateFor_108 m_joined m_joinedNow m_firstIn m_orderOf m_classAt m_sets m_waysTo m_waysThen m_queue m_leastTo) H := hP
                  have hD : va_D A (WM G m_h m_q m_onBy m_toldBy m_kindsOf m_nextOf m_holdsAt m_made_108 m_standsFor_108 m_madeNext m_madeHolds m_stateFor_108 m_joined m_joinedNow m_firstIn m_orderOf m_classAt m_sets m_waysTo m_waysThen m_queue m_leastTo) := hD
                  refine lv_pop hx hb dX10_dependsOn_111 rfl ?_
                  refine lv_aload_n hx hb dX10_dependsOn_112 rfl (lv_at hl 0 rfl) ?_
                  refine lv_bipush (v := 60) hx hb dX10_dependsOn_113 (by decide) ?_
                  refine lv_aload_n hx hb dX10_dependsOn_115 rfl (lv_at hl 0 rfl) ?_
                  refine lv_iload_n hx hb dX10_dependsOn_116 rfl (lv_at hl 1 rfl) ?_
                  refine lv_iload hx hb dX10_dependsOn_117 (lv_at hl 5 rfl) ?_
                  refine lv_iload hx hb dX10_dependsOn_119 (lv_at hl 7 rfl) ?_
                  obtain ⟨r_121, hc_121, h⟩ := ob1_e h
                  refine k_si (va_runV (As := [.int v1, .int ((m_standsFor_15 v4_15.toNatClampNeg) / (60 : Int32)), .int v7_78]) (rest := [.int (60 : Int32), .ref m_h]) ⟨hx, hb, hml, hown, hts⟩ (c_X10_next l G m_h m_q m_onBy m_toldBy m_kindsOf m_nextOf m_holdsAt m_made_108 m_standsFor_108 m_madeNext m_madeHolds m_stateFor_108 m_joined m_joinedNow m_firstIn m_orderOf m_classAt m_sets m_waysTo m_waysThen m_queue m_leastTo v1 ((m_standsFor_15 v4_15.toNatClampNeg) / (60 : Int32)) v7_78 r_121 hc_121) (cwV 3 hts gX10_dependsOn_X10_next rfl rfl rfl ⟨rfl, eX10_next⟩ ⟨Nat.le_of_ble_eq_true rfl, Nat.le_of_ble_eq_true rfl⟩) (preSV (ci := 10) (q0 := 0) hK hP rfl rfl) rfl rfl hl.1 rfl (lv_room (Nat.le_of_ble_eq_true rfl)) dX10_dependsOn_121 ⟨Nat.le_of_ble_eq_true rfl, Nat.le_of_ble_eq_true rfl⟩) ?_
                  refine lv_imul hx hb dX10_dependsOn_124 ?_
                  refine lv_aload_n hx hb dX10_dependsOn_125 rfl (lv_at hl 0 rfl) ?_
                  refine lv_iload_n hx hb dX10_dependsOn_126 rfl (lv_at hl 1 rfl) ?_
                  refine lv_iload hx hb dX10_dependsOn_127 (lv_at hl 6 rfl) ?_
                  refine lv_iload hx hb dX10_dependsOn_129 (lv_at hl 7 rfl) ?_
                  refine lv_iconst (v := 1) hx hb dX10_dependsOn_131 (by decide) ?_
                  refine lv_iload_n hx hb dX10_dependsOn_132 rfl (lv_at hl 2 rfl) ?_
                  refine lv_ishl hx hb dX10_dependsOn_133 ?_
                  refine lv_ixor hx hb dX10_dependsOn_134 ?_
                  obtain ⟨r_135, hc_135, h⟩ := ob1_e h
                  refine k_si (va_runV (As := [.int v1, .int ((m_standsFor_15 v4_15.toNatClampNeg) - (m_standsFor_15 v4_15.toNatClampNeg) / (60 : Int32) * (60 : Int32)), .int (v7_78 ^^^ ((1 : Int32) <<< (v2 &&& (31 : Int32))))]) (rest := [.int ((60 : Int32) * r_121), .ref m_h]) ⟨hx, hb, hml, hown, hts⟩ (c_X10_next l G m_h m_q m_onBy m_toldBy m_kindsOf m_nextOf m_holdsAt m_made_108 m_standsFor_108 m_madeNext m_madeHolds m_stateFor_108 m_joined m_joinedNow m_firstIn m_orderOf m_classAt m_sets m_waysTo m_waysThen m_queue m_leastTo v1 ((m_standsFor_15 v4_15.toNatClampNeg) - (m_standsFor_15 v4_15.toNatClampNeg) / (60 : Int32) * (60 : Int32)) (v7_78 ^^^ ((1 : Int32) <<< (v2 &&& (31 : Int32)))) r_135 hc_135) (cwV 3 hts gX10_dependsOn_X10_next rfl rfl rfl ⟨rfl, eX10_next⟩ ⟨Nat.le_of_ble_eq_true rfl, Nat.le_of_ble_eq_true rfl⟩) (preSV (ci := 10) (q0 := 0) hK hP rfl rfl) rfl rfl hl.1 rfl (lv_room (Nat.le_of_ble_eq_true rfl)) dX10_dependsOn_135 ⟨Nat.le_of_ble_eq_true rfl, Nat.le_of_ble_eq_true rfl⟩) ?_
                  refine lv_iadd hx hb dX10_dependsOn_138 ?_
                  obtain ⟨r_139, m_made_139, m_standsFor_139, m_stateFor_139, hc_139, h⟩ := ob4_e h
                  refine k_ciA (va_runV (As := [.int (((60 : Int32) * r_121) + r_135)]) (rest := []) ⟨hx, hb, hml, hown, hts⟩ (c_X10_stateOf l G m_h m_q m_onBy m_toldBy m_kindsOf m_nextOf m_holdsAt m_made_108 m_standsFor_108 m_madeNext m_madeHolds m_stateFor_108 m_joined m_joinedNow m_firstIn m_orderOf m_classAt m_sets m_waysTo m_waysThen m_queue m_leastTo (((60 : Int32) * r_121) + r_135) _ r_139 m_made_139 m_standsFor_139 m_stateFor_139 hc_139) (cwV 1 hts gX10_dependsOn_X10_stateOf rfl rfl rfl ⟨rfl, eX10_stateOf⟩ ⟨Nat.le_of_ble_eq_true rfl, Nat.le_of_ble_eq_true rfl⟩) (preWV (ci := 10) (q0 := 0) hK hP hD rfl rfl) rfl rfl hl.1 rfl (lv_room (Nat.le_of_ble_eq_true rfl)) dX10_dependsOn_139 ⟨Nat.le_of_ble_eq_true rfl, Nat.le_of_ble_eq_true rfl⟩) hD hS hA (fun u_139 H locs hP hD hS => ?_)
                  have hP : va_P G.1 vwCl (WM G m_h m_q m_onBy m_toldBy m_kindsOf m_nextOf m_holdsAt m_made_139 m_standsFor_139 m_madeNext m_madeHolds m_stateFor_139 m_joined m_joinedNow m_firstIn m_orderOf m_classAt m_sets m_waysTo m_waysThen m_queue m_leastTo) H := hP
                  have hD : va_D A (WM G m_h m_q m_onBy m_toldBy m_kindsOf m_nextOf m_holdsAt m_made_139 m_standsFor_139 m_madeNext m_madeHolds m_stateFor_139 m_joined m_joinedNow m_firstIn m_orderOf m_classAt m_sets m_waysTo m_waysThen m_queue m_leastTo) := hD
                  refine lv_pop hx hb dX10_dependsOn_142 rfl ?_
                  refine lv_iinc (v := (v7_78 + (1 : Int32))) (lv' := [(7, .int (v7_78 + (1 : Int32))), (0, .ref m_h), (1, .int v1), (2, .int v2), (3, .int j0_66), (4, .int v4_15), (5, .int ((m_standsFor_15 v4_15.toNatClampNeg) / (60 : Int32))), (6, .int ((m_standsFor_15 v4_15.toNatClampNeg) - (m_standsFor_15 v4_15.toNatClampNeg) / (60 : Int32) * (60 : Int32)))]) hx hb dX10_dependsOn_143 hl (k := 7) rfl rfl (by decide) rfl (fun ls hl => ?_)
                  refine lv_goto (tgt := 78) hx hb dX10_dependsOn_146 (by decide) ?_
                  exact ih _ _ _ _  _ _ _ h hP hD hS (lv_sub hl [1, 2, 3, 4, 5, 6, 7, 0] rfl)
            exact hL78 n _ _ _ _  _ _ _ hT78 hP hD hS (lv_sub hl [2, 3, 4, 1, 5, 6, 7, 0] rfl)
          replace h := hT66
          refine lv_icmp_eq (tgt := 73) hx hb dX10_dependsOn_66 (by decide) (fun c_66 => ?_) (fun c_66 => ?_)
          · replace h := (if_pos c_66).symm.trans h
            refine lv_iconst (v := 0) hx hb dX10_dependsOn_73 (by decide) ?_
            exact hJ66 _  _ _ _ h hP hD hS (lv_sub hl [2, 3, 4, 6, 1, 0] rfl)
          · replace h := (if_neg c_66).symm.trans h
            refine lv_iconst (v := 1) hx hb dX10_dependsOn_69 (by decide) ?_
            refine lv_goto (tgt := 74) hx hb dX10_dependsOn_70 (by decide) ?_
            exact hJ66 _  _ _ _ h hP hD hS (lv_sub hl [2, 3, 4, 6, 1, 0] rfl)
  exact hL15 n _ _ _ _ _  _ _ _ hT15 hP hD hS (lv_sub hl [2, 3, 4, 1, 0] rfl)
abbrev rX10_depends : Room := { frames := 2, cells := 0, slots := 0, locals := 50 }
set_option maxHeartbeats 4000000 in
set_option maxRecDepth 100000 in
theorem c_X10_depends (l : Launch) (G : GG) (n : Nat) (m_h : Nat) (m_q : Nat → Nat) (m_onBy : AI) (m_toldBy : AI) (m_kindsOf : AI) (m_nextOf : AI) (m_holdsAt : AI) (m_made : Int32) (m_standsFor : AI) (m_madeNext : AI) (m_madeHolds : AI) (m_stateFor : AI) (m_joined : AI) (m_joinedNow : AI) (m_firstIn : AI) (m_orderOf : AI) (m_classAt : AI) (m_sets : AL) (m_waysTo : AL) (m_waysThen : AL) (m_queue : AI) (m_leastTo : AL) (v1 : Int32) (sz : Nat) (r : Int32) (m_made_z : Int32) (m_standsFor_z : AI) (m_stateFor_z : AI) (h : p_X10_depends n m_kindsOf m_nextOf m_holdsAt m_made m_standsFor m_stateFor v1 = some (r, m_made_z, m_standsFor_z, m_stateFor_z)) : CI l yX10_depends wsX10_depends rX10_depends G [.ref m_h, .int v1] (WM G m_h m_q m_onBy m_toldBy m_kindsOf m_nextOf m_holdsAt m_made m_standsFor m_madeNext m_madeHolds m_stateFor m_joined m_joinedNow m_firstIn m_orderOf m_classAt m_sets m_waysTo m_waysThen m_queue m_leastTo) sz r (fun u => WM G m_h m_q m_onBy m_toldBy m_kindsOf m_nextOf m_holdsAt m_made_z m_standsFor_z m_madeNext m_madeHolds m_stateFor_z m_joined m_joinedNow m_firstIn m_orderOf m_classAt m_sets m_waysTo m_waysThen m_queue m_leastTo) := by
  refine enterCI (cc := cX10_depends) (maxL := 4) (by decide) rfl (Nat.le_of_ble_eq_true rfl) ?_
  intro p e s m args below meth c A Q hx hb hml hown hts hK hP hD hS hA hret ls hl
  have hown : s.vm.findClass RX10 = some m.cls := hown
  have hl : lv_has ls 4 [(0, .ref m_h), (1, .int v1)] := hl
  unfold p_X10_depends at h
  refine lv_iload_n hx hb dX10_depends_0 rfl (lv_at hl 1 rfl) ?_
  obtain ⟨r_1, hc_1, h⟩ := ob1_e h
  refine k_si (va_runS (As := [.int v1]) (rest := []) ⟨hx, hb, hml, hown, hts⟩ (c_X10_isClaim l G   v1 r_1 hc_1) (va_cwS 1 hts gX10_depends_X10_isClaim rfl rfl rfl eX10_isClaim ⟨Nat.le_of_ble_eq_true rfl, Nat.le_of_ble_eq_true rfl⟩) (preSS hK (fun k q h => by cases h)) rfl rfl hl.1 rfl (lv_room (Nat.le_of_ble_eq_true rfl)) dX10_depends_1 ⟨Nat.le_of_ble_eq_true rfl, Nat.le_of_ble_eq_true rfl⟩) ?_
  refine lv_if_ne (tgt := 9) hx hb dX10_depends_4 (by decide) (fun c_4 => ?_) (fun c_4 => ?_)
  · replace h := (if_neg c_4).symm.trans h
    refine lv_aload_n hx hb dX10_depends_9 rfl (lv_at hl 0 rfl) ?_
    refine lv_iload_n hx hb dX10_depends_10 rfl (lv_at hl 1 rfl) ?_
    obtain ⟨r_11, hc_11, h⟩ := ob1_e h
    refine k_si (va_runV (As := [.int v1]) (rest := []) ⟨hx, hb, hml, hown, hts⟩ (c_X10_isThere l G m_h m_q m_onBy m_toldBy m_kindsOf m_nextOf m_holdsAt m_made m_standsFor m_madeNext m_madeHolds m_stateFor m_joined m_joinedNow m_firstIn m_orderOf m_classAt m_sets m_waysTo m_waysThen m_queue m_leastTo v1 r_11 hc_11) (cwV 1 hts gX10_depends_X10_isThere rfl rfl rfl ⟨rfl, eX10_isThere⟩ ⟨Nat.le_of_ble_eq_true rfl, Nat.le_of_ble_eq_true rfl⟩) (preSV (ci := 10) (q0 := 0) hK hP rfl rfl) rfl rfl hl.1 rfl (lv_room (Nat.le_of_ble_eq_true rfl)) dX10_depends_11 ⟨Nat.le_of_ble_eq_true rfl, Nat.le_of_ble_eq_true rfl⟩) ?_
    refine lv_if_ne (tgt := 20) hx hb dX10_depends_14 (by decide) (fun c_14 => ?_) (fun c_14 => ?_)
    · replace h := (if_neg c_14).symm.trans h
      refine lv_iconst (v := 0) hx hb dX10_depends_20 (by decide) ?_
      refine lv_istore_n (lv' := [(2, .int (0 : Int32)), (0, .ref m_h), (1, .int v1)]) hx hb dX10_depends_21 rfl hl (by decide) rfl (fun ls hl => ?_)
      refine lv_iconst (v := 0) hx hb dX10_depends_22 (by decide) ?_
      refine lv_istore_n (lv' := [(3, .int (0 : Int32)), (2, .int (0 : Int32)), (0, .ref m_h), (1, .int v1)]) hx hb dX10_depends_23 rfl hl (by decide) rfl (fun ls hl => ?_)
      obtain ⟨o2_24, m_made_o24, m_standsFor_o24, m_stateFor_o24, hT24, h⟩ := ob4_e h
      have hX24 : ∀ (x2_24 : Int32) (m_made_o24x : Int32) (m_standsFor_o24x : AI) (m_stateFor_o24x : AI)  (H : Heap) (locs : List Loc) (ls : Array Slot), some (x2_24, m_made_o24x, m_standsFor_o24x, m_stateFor_o24x) = some (o2_24, m_made_o24, m_standsFor_o24, m_stateFor_o24) → va_P G.1 vwCl (WM G m_h m_q m_onBy m_toldBy m_kindsOf m_nextOf m_holdsAt m_made_o24x m_standsFor_o24x m_madeNext m_madeHolds m_stateFor_o24x m_joined m_joinedNow m_firstIn m_orderOf m_classAt m_sets m_waysTo m_waysThen m_queue m_leastTo) H → va_D A (WM G m_h m_q m_onBy m_toldBy m_kindsOf m_nextOf m_holdsAt m_made_o24x m_standsFor_o24x m_madeNext m_madeHolds m_stateFor_o24x m_joined m_joinedNow m_firstIn m_orderOf m_classAt m_sets m_waysTo m_waysThen m_queue m_leastTo) → va_S A s.heap H locs → lv_has ls 4 [(2, .int x2_24)] → W p l e rX10_depends s m args below meth c H locs 0 0 Q (F0 m 54 ls []) := by
        intro x2_24 m_made_o24x m_standsFor_o24x m_stateFor_o24x H locs ls hq hP hD hS hl
        obtain ⟨rfl, rfl, rfl, rfl⟩ := oi4 hq
        refine lv_iload_n hx hb dX10_depends_54 rfl (lv_at hl 0 rfl) ?_
        obtain ⟨rfl, rfl, rfl, rfl⟩ := oi4 h
        exact hret (fun _ => 0) _ _ _ _ _ _ _ dX10_depends_55 rfl rfl hP hD hS (Nat.le_of_ble_eq_true rfl) (Nat.le_of_ble_eq_true rfl)
      have hL24 : ∀ (f : Nat) (v2_24 : Int32) (v3_24 : Int32) (m_made_24 : Int32) (m_standsFor_24 : AI) (m_stateFor_24 : AI)  (H : Heap) (locs : List Loc) (ls : Array Slot), p_X10_depends_L24 n m_nextOf m_holdsAt v1 f v2_24 v3_24 m_made_24 m_standsFor_24 m_stateFor_24 = some (o2_24, m_made_o24, m_standsFor_o24, m_stateFor_o24) → va_P G.1 vwCl (WM G m_h m_q m_onBy m_toldBy m_kindsOf m_nextOf m_holdsAt m_made_24 m_standsFor_24 m_madeNext m_madeHolds m_stateFor_24 m_joined m_joinedNow m_firstIn m_orderOf m_classAt m_sets m_waysTo m_waysThen m_queue m_leastTo) H → va_D A (WM G m_h m_q m_onBy m_toldBy m_kindsOf m_nextOf m_holdsAt m_made_24 m_standsFor_24 m_madeNext m_madeHolds m_stateFor_24 m_joined m_joinedNow m_firstIn m_orderOf m_classAt m_sets m_waysTo m_waysThen m_queue m_leastTo) → va_S A s.heap H locs → lv_has ls 4 [(0, .ref m_h), (1, .int v1), (2, .int v2_24), (3, .int v3_24)] → W p l e rX10_depends s m args below meth c H locs 0 0 Q (F0 m 24 ls []) := by
        intro f
        induction f with
        | zero => intro v2_24 v3_24 m_made_24 m_standsFor_24 m_stateFor_24 H locs ls h hP hD hS hl; cases (show none = some _ from h)
        | succ f ih =>
          intro v2_24 v3_24 m_made_24 m_standsFor_24 m_stateFor_24 H locs ls h hP hD hS hl
          rw [p_X10_depends_L24] at h
          refine lv_iload_n hx hb dX10_depends_24 rfl (lv_at hl 3 rfl) ?_
          refine lv_iconst (v := 3) hx hb dX10_depends_25 (by decide) ?_
          refine lv_icmp_ge (tgt := 54) hx hb dX10_depends_26 (by decide) (fun c_26 => ?_) (fun c_26 => ?_)
          · replace h := (if_pos c_26).symm.trans h
            exact hX24 _ _ _ _  _ _ _ h hP hD hS (lv_sub hl [2] rfl)
          · replace h := (if_neg c_26).symm.trans h
            refine lv_iload_n hx hb dX10_depends_29 rfl (lv_at hl 2 rfl) ?_
            refine lv_aload_n hx hb dX10_depends_30 rfl (lv_at hl 0 rfl) ?_
            refine lv_iload_n hx hb dX10_depends_31 rfl (lv_at hl 1 rfl) ?_
            refine lv_iload_n hx hb dX10_depends_32 rfl (lv_at hl 3 rfl) ?_
            obtain ⟨r_33, m_made_33, m_standsFor_33, m_stateFor_33, hc_33, h⟩ := ob4_e h
            refine k_ciA (va_runV (As := [.int v1, .int v3_24]) (rest := [.int v2_24]) ⟨hx, hb, hml, hown, hts⟩ (c_X10_dependsOn l G n m_h m_q m_onBy m_toldBy m_kindsOf m_nextOf m_holdsAt m_made_24 m_standsFor_24 m_madeNext m_madeHolds m_stateFor_24 m_joined m_joinedNow m_firstIn m_orderOf m_classAt m_sets m_waysTo m_waysThen m_queue m_leastTo v1 v3_24 _ r_33 m_made_33 m_standsFor_33 m_stateFor_33 hc_33) (cwV 2 hts gX10_depends_X10_dependsOn rfl rfl rfl ⟨rfl, eX10_dependsOn⟩ ⟨Nat.le_of_ble_eq_true rfl, Nat.le_of_ble_eq_true rfl⟩) (preWV (ci := 10) (q0 := 0) hK hP hD rfl rfl) rfl rfl hl.1 rfl (lv_room (Nat.le_of_ble_eq_true rfl)) dX10_depends_33 ⟨Nat.le_of_ble_eq_true rfl, Nat.le_of_ble_eq_true rfl⟩) hD hS hA (fun u_33 H locs hP hD hS => ?_)
            have hP : va_P G.1 vwCl (WM G m_h m_q m_onBy m_toldBy m_kindsOf m_nextOf m_holdsAt m_made_33 m_standsFor_33 m_madeNext m_madeHolds m_stateFor_33 m_joined m_joinedNow m_firstIn m_orderOf m_classAt m_sets m_waysTo m_waysThen m_queue m_leastTo) H := hP
            have hD : va_D A (WM G m_h m_q m_onBy m_toldBy m_kindsOf m_nextOf m_holdsAt m_made_33 m_standsFor_33 m_madeNext m_madeHolds m_stateFor_33 m_joined m_joinedNow m_firstIn m_orderOf m_classAt m_sets m_waysTo m_waysThen m_queue m_leastTo) := hD
            obtain ⟨j0_36, hT36, h⟩ := ob1_e h
            have hJ36 : ∀ (j0_36x : Int32)  (H : Heap) (locs : List Loc) (ls : Array Slot), some j0_36x = some j0_36 → va_P G.1 vwCl (WM G m_h m_q m_onBy m_toldBy m_kindsOf m_nextOf m_holdsAt m_made_33 m_standsFor_33 m_madeNext m_madeHolds m_stateFor_33 m_joined m_joinedNow m_firstIn m_orderOf m_classAt m_sets m_waysTo m_waysThen m_queue m_leastTo) H → va_D A (WM G m_h m_q m_onBy m_toldBy m_kindsOf m_nextOf m_holdsAt m_made_33 m_standsFor_33 m_madeNext m_madeHolds m_stateFor_33 m_joined m_joinedNow m_firstIn m_orderOf m_classAt m_sets m_waysTo m_waysThen m_queue m_leastTo) → va_S A s.heap H locs → lv_has ls 4 [(0, .ref m_h), (1, .int v1), (3, .int v3_24)] → W p l e rX10_depends s m args below meth c H locs 0 0 Q (F0 m 46 ls [.int j0_36x, .int v2_24]) := by
              intro j0_36x H locs ls hq hP hD hS hl
              obtain rfl := oi1 hq
              refine lv_ior hx hb dX10_depends_46 ?_
              refine lv_istore_n (lv' := [(2, .int (v2_24 ||| j0_36)), (0, .ref m_h), (1, .int v1), (3, .int v3_24)]) hx hb dX10_depends_47 rfl hl (by decide) rfl (fun ls hl => ?_)
              refine lv_iinc (v := (v3_24 + (1 : Int32))) (lv' := [(3, .int (v3_24 + (1 : Int32))), (2, .int (v2_24 ||| j0_36)), (0, .ref m_h), (1, .int v1)]) hx hb dX10_depends_48 hl (k := 3) rfl rfl (by decide) rfl (fun ls hl => ?_)
              refine lv_goto (tgt := 24) hx hb dX10_depends_51 (by decide) ?_
              exact ih _ _ _ _ _  _ _ _ h hP hD hS (lv_sub hl [2, 3, 1, 0] rfl)
            replace h := hT36
            refine lv_if_eq (tgt := 45) hx hb dX10_depends_36 (by decide) (fun c_36 => ?_) (fun c_36 => ?_)
            · replace h := (if_pos c_36).symm.trans h
              refine lv_iconst (v := 0) hx hb dX10_depends_45 (by decide) ?_
              exact hJ36 _  _ _ _ h hP hD hS (lv_sub hl [0, 1, 3] rfl)
            · replace h := (if_neg c_36).symm.trans h
              refine lv_iconst (v := 1) hx hb dX10_depends_39 (by decide) ?_
              refine lv_iload_n hx hb dX10_depends_40 rfl (lv_at hl 3 rfl) ?_
              refine lv_ishl hx hb dX10_depends_41 ?_
              refine lv_goto (tgt := 46) hx hb dX10_depends_42 (by decide) ?_
              exact hJ36 _  _ _ _ h hP hD hS (lv_sub hl [0, 1, 3] rfl)
      exact hL24 n _ _ _ _ _  _ _ _ hT24 hP hD hS (lv_sub hl [2, 3, 1, 0] rfl)
    · replace h := (if_pos c_14).symm.trans h
      refine lv_bipush (v := -3) hx hb dX10_depends_17 (by decide) ?_
      obtain ⟨rfl, rfl, rfl, rfl⟩ := oi4 h
      exact hret (fun _ => 0) _ _ _ _ _ _ _ dX10_depends_19 rfl rfl hP hD hS (Nat.le_of_ble_eq_true rfl) (Nat.le_of_ble_eq_true rfl)
  · replace h := (if_pos c_4).symm.trans h
    refine lv_iconst (v := -1) hx hb dX10_depends_7 (by decide) ?_
    obtain ⟨rfl, rfl, rfl, rfl⟩ := oi4 h
    exact hret (fun _ => 0) _ _ _ _ _ _ _ dX10_depends_8 rfl rfl hP hD hS (Nat.le_of_ble_eq_true rfl) (Nat.le_of_ble_eq_true rfl)
abbrev rX10_kinds : Room := { frames := 2, cells := 0, slots := 0, locals := 42 }
set_option maxHeartbeats 4000000 in
set_option maxRecDepth 100000 in
theorem c_X10_kinds (l : Launch) (G : GG) (m_h : Nat) (m_q : Nat → Nat) (m_onBy : AI) (m_toldBy : AI) (m_kindsOf : AI) (m_nextOf : AI) (m_holdsAt : AI) (m_made : Int32) (m_standsFor : AI) (m_madeNext : AI) (m_madeHolds : AI) (m_stateFor : AI) (m_joined : AI) (m_joinedNow : AI) (m_firstIn : AI) (m_orderOf : AI) (m_classAt : AI) (m_sets : AL) (m_waysTo : AL) (m_waysThen : AL) (m_queue : AI) (m_leastTo : AL) (v1 : Int32) (r : Int32) (h : p_X10_kinds m_kindsOf v1 = some r) : SI l yX10_kinds wsX10_kinds rX10_kinds G [.ref m_h, .int v1] (WM G m_h m_q m_onBy m_toldBy m_kindsOf m_nextOf m_holdsAt m_made m_standsFor m_madeNext m_madeHolds m_stateFor m_joined m_joinedNow m_firstIn m_orderOf m_classAt m_sets m_waysTo m_waysThen m_queue m_leastTo) r := by
  refine enterSI (cc := cX10_kinds) (maxL := 2) (by decide) rfl (Nat.le_of_ble_eq_true rfl) ?_
  intro p e s m args below meth c Q hx hb hml hown hts hK hP hret ls hl
  have hown : s.vm.findClass RX10 = some m.cls := hown
  have hf16 := hts (.fieldLink RX10 16 "DigitClaimsModel" "kindsOf" "[I") (by decide +kernel)
  have hinX10 : ∀ w ∈ wsX100, w ∈ wsX10_kinds := by decide +kernel
  have hl : lv_has ls 2 [(0, .ref m_h), (1, .int v1)] := hl
  unfold p_X10_kinds at h
  refine lv_iload_n hx hb dX10_kinds_0 rfl (lv_at hl 1 rfl) ?_
  obtain ⟨r_1, hc_1, h⟩ := ob1_e h
  refine k_si (va_runS (As := [.int v1]) (rest := []) ⟨hx, hb, hml, hown, hts⟩ (c_X10_isClaim l G   v1 r_1 hc_1) (va_cwS 1 hts gX10_kinds_X10_isClaim rfl rfl rfl eX10_isClaim ⟨Nat.le_of_ble_eq_true rfl, Nat.le_of_ble_eq_true rfl⟩) (preSS hK (fun k q h => by cases h)) rfl rfl hl.1 rfl (lv_room (Nat.le_of_ble_eq_true rfl)) dX10_kinds_1 ⟨Nat.le_of_ble_eq_true rfl, Nat.le_of_ble_eq_true rfl⟩) ?_
  refine lv_if_ne (tgt := 9) hx hb dX10_kinds_4 (by decide) (fun c_4 => ?_) (fun c_4 => ?_)
  · replace h := (if_neg c_4).symm.trans h
    refine lv_aload_n hx hb dX10_kinds_9 rfl (lv_at hl 0 rfl) ?_
    refine lv_iload_n hx hb dX10_kinds_10 rfl (lv_at hl 1 rfl) ?_
    obtain ⟨r_11, hc_11, h⟩ := ob1_e h
    refine k_si (va_runV (As := [.int v1]) (rest := []) ⟨hx, hb, hml, hown, hts⟩ (c_X10_isThere l G m_h m_q m_onBy m_toldBy m_kindsOf m_nextOf m_holdsAt m_made m_standsFor m_madeNext m_madeHolds m_stateFor m_joined m_joinedNow m_firstIn m_orderOf m_classAt m_sets m_waysTo m_waysThen m_queue m_leastTo v1 r_11 hc_11) (cwV 1 hts gX10_kinds_X10_isThere rfl rfl rfl ⟨rfl, eX10_isThere⟩ ⟨Nat.le_of_ble_eq_true rfl, Nat.le_of_ble_eq_true rfl⟩) (preSV (ci := 10) (q0 := 0) hK hP rfl rfl) rfl rfl hl.1 rfl (lv_room (Nat.le_of_ble_eq_true rfl)) dX10_kinds_11 ⟨Nat.le_of_ble_eq_true rfl, Nat.le_of_ble_eq_true rfl⟩) ?_
    refine lv_if_eq (tgt := 26) hx hb dX10_kinds_14 (by decide) (fun c_14 => ?_) (fun c_14 => ?_)
    · replace h := (if_pos c_14).symm.trans h
      refine lv_bipush (v := -3) hx hb dX10_kinds_26 (by decide) ?_
      obtain rfl := oi1 h
      exact hret _ _ _ dX10_kinds_28 rfl rfl
    · replace h := (if_neg c_14).symm.trans h
      refine lv_aload_n hx hb dX10_kinds_17 rfl (lv_at hl 0 rfl) ?_
      refine va_get (D := G.1) (ci := 10) (v := .ref (m_q 2)) (C := RX10) (T := TX10) (N := 20) hx hb hts hinX10 hown hK.1 hP 0 rfl rfl 2 (by decide) hf16 (fun _ h9 => h9) rfl dX10_kinds_18 ?_
      refine lv_iload_n hx hb dX10_kinds_21 rfl (lv_at hl 1 rfl) ?_
      obtain ⟨g_22, h⟩ := gi_e h
      refine va_iald hx hb hK.1 hP 3 0 rfl rfl g_22 dX10_kinds_22 ?_
      refine lv_goto (tgt := 28) hx hb dX10_kinds_23 (by decide) ?_
      obtain rfl := oi1 h
      exact hret _ _ _ dX10_kinds_28 rfl rfl
  · replace h := (if_pos c_4).symm.trans h
    refine lv_iconst (v := -1) hx hb dX10_kinds_7 (by decide) ?_
    obtain rfl := oi1 h
    exact hret _ _ _ dX10_kinds_8 rfl rfl
abbrev rX10_below : Room := { frames := 2, cells := 0, slots := 0, locals := 42 }
set_option maxHeartbeats 4000000 in
set_option maxRecDepth 100000 in
theorem c_X10_below (l : Launch) (G : GG) (n : Nat) (m_h : Nat) (m_q : Nat → Nat) (m_onBy : AI) (m_toldBy : AI) (m_kindsOf : AI) (m_nextOf : AI) (m_holdsAt : AI) (m_made : Int32) (m_standsFor : AI) (m_madeNext : AI) (m_madeHolds : AI) (m_stateFor : AI) (m_joined : AI) (m_joinedNow : AI) (m_firstIn : AI) (m_orderOf : AI) (m_classAt : AI) (m_sets : AL) (m_waysTo : AL) (m_waysThen : AL) (m_queue : AI) (m_leastTo : AL) (v1 : Int32) (v2 : Int32) (sz : Nat) (r : Int64) (m_waysTo_z : AL) (m_waysThen_z : AL) (h : p_X10_below n m_kindsOf m_nextOf m_holdsAt m_waysTo m_waysThen v1 v2 = some (r, m_waysTo_z, m_waysThen_z)) : CL l yX10_below wsX10_below rX10_below G [.ref m_h, .int v1, .int v2] (WM G m_h m_q m_onBy m_toldBy m_kindsOf m_nextOf m_holdsAt m_made m_standsFor m_madeNext m_madeHolds m_stateFor m_joined m_joinedNow m_firstIn m_orderOf m_classAt m_sets m_waysTo m_waysThen m_queue m_leastTo) sz r (fun u => WM G m_h m_q m_onBy m_toldBy m_kindsOf m_nextOf m_holdsAt m_made m_standsFor m_madeNext m_madeHolds m_stateFor m_joined m_joinedNow m_firstIn m_orderOf m_classAt m_sets m_waysTo_z m_waysThen_z m_queue m_leastTo) := by
  refine enterCL (cc := cX10_below) (maxL := 6) (by decide) rfl (Nat.le_of_ble_eq_true rfl) ?_
  intro p e s m args below meth c A Q hx hb hml hown hts hK hP hD hS hA hret ls hl
  have hown : s.vm.findClass RX10 = some m.cls := hown
  have hf16 := hts (.fieldLink RX10 16 "DigitClaimsModel" "kindsOf" "[I") (by decide +kernel)
  have hf57 := hts (.fieldLink RX10 57 "DigitClaimsModel" "waysTo" "[J") (by decide +kernel)
  have hf60 := hts (.fieldLink RX10 60 "DigitClaimsModel" "waysThen" "[J") (by decide +kernel)
  have hinX10 : ∀ w ∈ wsX100, w ∈ wsX10_below := by decide +kernel
  have hl : lv_has ls 6 [(0, .ref m_h), (1, .int v1), (2, .int v2)] := hl
  unfold p_X10_below at h
  refine lv_iload_n hx hb dX10_below_0 rfl (lv_at hl 1 rfl) ?_
  obtain ⟨r_1, hc_1, h⟩ := ob1_e h
  refine k_si (va_runS (As := [.int v1]) (rest := []) ⟨hx, hb, hml, hown, hts⟩ (c_X10_isClaim l G   v1 r_1 hc_1) (va_cwS 1 hts gX10_below_X10_isClaim rfl rfl rfl eX10_isClaim ⟨Nat.le_of_ble_eq_true rfl, Nat.le_of_ble_eq_true rfl⟩) (preSS hK (fun k q h => by cases h)) rfl rfl hl.1 rfl (lv_room (Nat.le_of_ble_eq_true rfl)) dX10_below_1 ⟨Nat.le_of_ble_eq_true rfl, Nat.le_of_ble_eq_true rfl⟩) ?_
  refine lv_if_eq (tgt := 25) hx hb dX10_below_4 (by decide) (fun c_4 => ?_) (fun c_4 => ?_)
  · replace h := (if_pos c_4).symm.trans h
    refine lv_ldc2 (v := -9223372036854775808) hx hb hown (hts (.constantLong RX10 167 (-9223372036854775808)) (by decide +kernel)) dX10_below_25 ?_
    obtain ⟨rfl, rfl, rfl⟩ := oi3 h
    exact hret (fun _ => 0) _ _ _ _ _ _ _ dX10_below_28 rfl hP hD hS (Nat.le_of_ble_eq_true rfl) (Nat.le_of_ble_eq_true rfl)
  · replace h := (if_neg c_4).symm.trans h
    refine lv_iload_n hx hb dX10_below_7 rfl (lv_at hl 2 rfl) ?_
    refine lv_iconst (v := 0) hx hb dX10_below_8 (by decide) ?_
    refine lv_bipush (v := 12) hx hb dX10_below_9 (by decide) ?_
    obtain ⟨r_11, hc_11, h⟩ := ob1_e h
    refine k_si (va_runS (As := [.int v2, .int (0 : Int32), .int (12 : Int32)]) (rest := []) ⟨hx, hb, hml, hown, hts⟩ (c_X10_within l G   v2 (0 : Int32) (12 : Int32) r_11 hc_11) (va_cwS 3 hts gX10_below_X10_within rfl rfl rfl eX10_within ⟨Nat.le_of_ble_eq_true rfl, Nat.le_of_ble_eq_true rfl⟩) (preSS hK (fun k q h => by cases h)) rfl rfl hl.1 rfl (lv_room (Nat.le_of_ble_eq_true rfl)) dX10_below_11 ⟨Nat.le_of_ble_eq_true rfl, Nat.le_of_ble_eq_true rfl⟩) ?_
    refine lv_if_eq (tgt := 25) hx hb dX10_below_14 (by decide) (fun c_14 => ?_) (fun c_14 => ?_)
    · replace h := (if_pos c_14).symm.trans h
      refine lv_ldc2 (v := -9223372036854775808) hx hb hown (hts (.constantLong RX10 167 (-9223372036854775808)) (by decide +kernel)) dX10_below_25 ?_
      obtain ⟨rfl, rfl, rfl⟩ := oi3 h
      exact hret (fun _ => 0) _ _ _ _ _ _ _ dX10_below_28 rfl hP hD hS (Nat.le_of_ble_eq_true rfl) (Nat.le_of_ble_eq_true rfl)
    · replace h := (if_neg c_14).symm.trans h
      refine lv_aload_n hx hb dX10_below_17 rfl (lv_at hl 0 rfl) ?_
      refine lv_iload_n hx hb dX10_below_18 rfl (lv_at hl 1 rfl) ?_
      obtain ⟨r_19, hc_19, h⟩ := ob1_e h
      refine k_si (va_runV (As := [.int v1]) (rest := []) ⟨hx, hb, hml, hown, hts⟩ (c_X10_isThere l G m_h m_q m_onBy m_toldBy m_kindsOf m_nextOf m_holdsAt m_made m_standsFor m_madeNext m_madeHolds m_stateFor m_joined m_joinedNow m_firstIn m_orderOf m_classAt m_sets m_waysTo m_waysThen m_queue m_leastTo v1 r_19 hc_19) (cwV 1 hts gX10_below_X10_isThere rfl rfl rfl ⟨rfl, eX10_isThere⟩ ⟨Nat.le_of_ble_eq_true rfl, Nat.le_of_ble_eq_true rfl⟩) (preSV (ci := 10) (q0 := 0) hK hP rfl rfl) rfl rfl hl.1 rfl (lv_room (Nat.le_of_ble_eq_true rfl)) dX10_below_19 ⟨Nat.le_of_ble_eq_true rfl, Nat.le_of_ble_eq_true rfl⟩) ?_
      refine lv_if_ne (tgt := 29) hx hb dX10_below_22 (by decide) (fun c_22 => ?_) (fun c_22 => ?_)
      · replace h := (if_neg c_22).symm.trans h
        refine lv_iconst (v := 0) hx hb dX10_below_29 (by decide) ?_
        refine lv_istore_n (lv' := [(3, .int (0 : Int32)), (0, .ref m_h), (1, .int v1), (2, .int v2)]) hx hb dX10_below_30 rfl hl (by decide) rfl (fun ls hl => ?_)
        obtain ⟨m_waysTo_o31, hT31, h⟩ := ob1_e h
        have hX31 : ∀ (m_waysTo_o31x : AL)  (H : Heap) (locs : List Loc) (ls : Array Slot), some m_waysTo_o31x = some m_waysTo_o31 → va_P G.1 vwCl (WM G m_h m_q m_onBy m_toldBy m_kindsOf m_nextOf m_holdsAt m_made m_standsFor m_madeNext m_madeHolds m_stateFor m_joined m_joinedNow m_firstIn m_orderOf m_classAt m_sets m_waysTo_o31x m_waysThen m_queue m_leastTo) H → va_D A (WM G m_h m_q m_onBy m_toldBy m_kindsOf m_nextOf m_holdsAt m_made m_standsFor m_madeNext m_madeHolds m_stateFor m_joined m_joinedNow m_firstIn m_orderOf m_classAt m_sets m_waysTo_o31x m_waysThen m_queue m_leastTo) → va_S A s.heap H locs → lv_has ls 6 [(0, .ref m_h), (1, .int v1), (2, .int v2)] → W p l e rX10_below s m args below meth c H locs 0 0 Q (F0 m 58 ls []) := by
          intro m_waysTo_o31x H locs ls hq hP hD hS hl
          obtain rfl := oi1 hq
          refine lv_iconst (v := 0) hx hb dX10_below_58 (by decide) ?_
          refine lv_istore_n (lv' := [(3, .int (0 : Int32)), (0, .ref m_h), (1, .int v1), (2, .int v2)]) hx hb dX10_below_59 rfl hl (by decide) rfl (fun ls hl => ?_)
          obtain ⟨m_waysTo_o60, m_waysThen_o60, hT60, h⟩ := ob2_e h
          have hX60 : ∀ (m_waysTo_o60x : AL) (m_waysThen_o60x : AL)  (H : Heap) (locs : List Loc) (ls : Array Slot), some (m_waysTo_o60x, m_waysThen_o60x) = some (m_waysTo_o60, m_waysThen_o60) → va_P G.1 vwCl (WM G m_h m_q m_onBy m_toldBy m_kindsOf m_nextOf m_holdsAt m_made m_standsFor m_madeNext m_madeHolds m_stateFor m_joined m_joinedNow m_firstIn m_orderOf m_classAt m_sets m_waysTo_o60x m_waysThen_o60x m_queue m_leastTo) H → va_D A (WM G m_h m_q m_onBy m_toldBy m_kindsOf m_nextOf m_holdsAt m_made m_standsFor m_madeNext m_madeHolds m_stateFor m_joined m_joinedNow m_firstIn m_orderOf m_classAt m_sets m_waysTo_o60x m_waysThen_o60x m_queue m_leastTo) → va_S A s.heap H locs → lv_has ls 6 [(0, .ref m_h), (1, .int v1)] → W p l e rX10_below s m args below meth c H locs 0 0 Q (F0 m 181 ls []) := by
            intro m_waysTo_o60x m_waysThen_o60x H locs ls hq hP hD hS hl
            obtain ⟨rfl, rfl⟩ := oi2 hq
            refine lv_lconst (v := 0) hx hb dX10_below_181 (by decide) ?_
            refine lv_lstore_n (lv' := [(3, .long (0 : Int64)), (0, .ref m_h), (1, .int v1)]) hx hb dX10_below_182 rfl hl (by decide) rfl (fun ls hl => ?_)
            refine lv_iconst (v := 0) hx hb dX10_below_183 (by decide) ?_
            refine lv_istore (lv' := [(5, .int (0 : Int32)), (3, .long (0 : Int64)), (0, .ref m_h), (1, .int v1)]) hx hb dX10_below_184 hl (by decide) rfl (fun ls hl => ?_)
            obtain ⟨o3_186, hT186, h⟩ := ob1_e h
            have hX186 : ∀ (x3_186 : Int64)  (H : Heap) (locs : List Loc) (ls : Array Slot), some x3_186 = some o3_186 → va_P G.1 vwCl (WM G m_h m_q m_onBy m_toldBy m_kindsOf m_nextOf m_holdsAt m_made m_standsFor m_madeNext m_madeHolds m_stateFor m_joined m_joinedNow m_firstIn m_orderOf m_classAt m_sets m_waysTo_o60 m_waysThen_o60 m_queue m_leastTo) H → va_D A (WM G m_h m_q m_onBy m_toldBy m_kindsOf m_nextOf m_holdsAt m_made m_standsFor m_madeNext m_madeHolds m_stateFor m_joined m_joinedNow m_firstIn m_orderOf m_classAt m_sets m_waysTo_o60 m_waysThen_o60 m_queue m_leastTo) → va_S A s.heap H locs → lv_has ls 6 [(3, .long x3_186)] → W p l e rX10_below s m args below meth c H locs 0 0 Q (F0 m 227 ls []) := by
              intro x3_186 H locs ls hq hP hD hS hl
              obtain rfl := oi1 hq
              refine lv_lload_n hx hb dX10_below_227 rfl (lv_at hl 0 rfl) ?_
              obtain ⟨rfl, rfl, rfl⟩ := oi3 h
              exact hret (fun _ => 0) _ _ _ _ _ _ _ dX10_below_228 rfl hP hD hS (Nat.le_of_ble_eq_true rfl) (Nat.le_of_ble_eq_true rfl)
            have hL186 : ∀ (f : Nat) (v3_186 : Int64) (v5_186 : Int32)  (H : Heap) (locs : List Loc) (ls : Array Slot), p_X10_below_L186 v1 m_kindsOf m_holdsAt m_waysTo_o60 f v3_186 v5_186 = some o3_186 → va_P G.1 vwCl (WM G m_h m_q m_onBy m_toldBy m_kindsOf m_nextOf m_holdsAt m_made m_standsFor m_madeNext m_madeHolds m_stateFor m_joined m_joinedNow m_firstIn m_orderOf m_classAt m_sets m_waysTo_o60 m_waysThen_o60 m_queue m_leastTo) H → va_D A (WM G m_h m_q m_onBy m_toldBy m_kindsOf m_nextOf m_holdsAt m_made m_standsFor m_madeNext m_madeHolds m_stateFor m_joined m_joinedNow m_firstIn m_orderOf m_classAt m_sets m_waysTo_o60 m_waysThen_o60 m_queue m_leastTo) → va_S A s.heap H locs → lv_has ls 6 [(0, .ref m_h), (1, .int v1), (3, .long v3_186), (5, .int v5_186)] → W p l e rX10_below s m args below meth c H locs 0 0 Q (F0 m 186 ls []) := by
              intro f
              induction f with
              | zero => intro v3_186 v5_186 H locs ls h hP hD hS hl; cases (show none = some _ from h)
              | succ f ih =>
                intro v3_186 v5_186 H locs ls h hP hD hS hl
                rw [p_X10_below_L186] at h
                refine lv_iload hx hb dX10_below_186 (lv_at hl 3 rfl) ?_
                refine lv_aload_n hx hb dX10_below_188 rfl (lv_at hl 0 rfl) ?_
                refine va_get (D := G.1) (ci := 10) (v := .ref (m_q 2)) (C := RX10) (T := TX10) (N := 20) hx hb hts hinX10 hown hK.1 hP 0 rfl rfl 2 (by decide) hf16 (fun _ h9 => h9) rfl dX10_below_189 ?_
                refine lv_iload_n hx hb dX10_below_192 rfl (lv_at hl 1 rfl) ?_
                obtain ⟨g_193, h⟩ := gi_e h
                refine va_iald hx hb hK.1 hP 3 0 rfl rfl g_193 dX10_below_193 ?_
                refine lv_icmp_ge (tgt := 227) hx hb dX10_below_194 (by decide) (fun c_194 => ?_) (fun c_194 => ?_)
                · replace h := (if_pos c_194).symm.trans h
                  exact hX186 _  _ _ _ h hP hD hS (lv_sub hl [2] rfl)
                · replace h := (if_neg c_194).symm.trans h
                  refine lv_lload_n hx hb dX10_below_197 rfl (lv_at hl 2 rfl) ?_
                  refine lv_aload_n hx hb dX10_below_198 rfl (lv_at hl 0 rfl) ?_
                  refine lv_iload_n hx hb dX10_below_199 rfl (lv_at hl 1 rfl) ?_
                  refine lv_iload hx hb dX10_below_200 (lv_at hl 3 rfl) ?_
                  obtain ⟨r_202, hc_202, h⟩ := ob1_e h
                  refine k_si (va_runV (As := [.int v1, .int v5_186]) (rest := [.long v3_186]) ⟨hx, hb, hml, hown, hts⟩ (c_X10_holdsIn l G m_h m_q m_onBy m_toldBy m_kindsOf m_nextOf m_holdsAt m_made m_standsFor m_madeNext m_madeHolds m_stateFor m_joined m_joinedNow m_firstIn m_orderOf m_classAt m_sets m_waysTo_o60 m_waysThen_o60 m_queue m_leastTo v1 v5_186 r_202 hc_202) (cwV 2 hts gX10_below_X10_holdsIn rfl rfl rfl ⟨rfl, eX10_holdsIn⟩ ⟨Nat.le_of_ble_eq_true rfl, Nat.le_of_ble_eq_true rfl⟩) (preSV (ci := 10) (q0 := 0) hK hP rfl rfl) rfl rfl hl.1 rfl (lv_room (Nat.le_of_ble_eq_true rfl)) dX10_below_202 ⟨Nat.le_of_ble_eq_true rfl, Nat.le_of_ble_eq_true rfl⟩) ?_
                  obtain ⟨j0_205, hT205, h⟩ := ob1_e h
                  have hJ205 : ∀ (j0_205x : Int64)  (H : Heap) (locs : List Loc) (ls : Array Slot), some j0_205x = some j0_205 → va_P G.1 vwCl (WM G m_h m_q m_onBy m_toldBy m_kindsOf m_nextOf m_holdsAt m_made m_standsFor m_madeNext m_madeHolds m_stateFor m_joined m_joinedNow m_firstIn m_orderOf m_classAt m_sets m_waysTo_o60 m_waysThen_o60 m_queue m_leastTo) H → va_D A (WM G m_h m_q m_onBy m_toldBy m_kindsOf m_nextOf m_holdsAt m_made m_standsFor m_madeNext m_madeHolds m_stateFor m_joined m_joinedNow m_firstIn m_orderOf m_classAt m_sets m_waysTo_o60 m_waysThen_o60 m_queue m_leastTo) → va_S A s.heap H locs → lv_has ls 6 [(0, .ref m_h), (1, .int v1), (5, .int v5_186)] → W p l e rX10_below s m args below meth c H locs 0 0 Q (F0 m 219 ls [.long j0_205x, .long v3_186]) := by
                    intro j0_205x H locs ls hq hP hD hS hl
                    obtain rfl := oi1 hq
                    refine lv_ladd hx hb dX10_below_219 ?_
                    refine lv_lstore_n (lv' := [(3, .long (v3_186 + j0_205)), (0, .ref m_h), (1, .int v1), (5, .int v5_186)]) hx hb dX10_below_220 rfl hl (by decide) rfl (fun ls hl => ?_)
                    refine lv_iinc (v := (v5_186 + (1 : Int32))) (lv' := [(5, .int (v5_186 + (1 : Int32))), (3, .long (v3_186 + j0_205)), (0, .ref m_h), (1, .int v1)]) hx hb dX10_below_221 hl (k := 3) rfl rfl (by decide) rfl (fun ls hl => ?_)
                    refine lv_goto (tgt := 186) hx hb dX10_below_224 (by decide) ?_
                    exact ih _ _  _ _ _ h hP hD hS (lv_sub hl [2, 3, 1, 0] rfl)
                  replace h := hT205
                  refine lv_if_eq (tgt := 218) hx hb dX10_below_205 (by decide) (fun c_205 => ?_) (fun c_205 => ?_)
                  · replace h := (if_pos c_205).symm.trans h
                    refine lv_lconst (v := 0) hx hb dX10_below_218 (by decide) ?_
                    exact hJ205 _  _ _ _ h hP hD hS (lv_sub hl [0, 1, 3] rfl)
                  · replace h := (if_neg c_205).symm.trans h
                    refine lv_aload_n hx hb dX10_below_208 rfl (lv_at hl 0 rfl) ?_
                    refine va_get (D := G.1) (ci := 10) (v := .ref (m_q 15)) (C := RX10) (T := TX10) (N := 20) hx hb hts hinX10 hown hK.1 hP 0 rfl rfl 16 (by decide) hf57 (fun _ h9 => h9) rfl dX10_below_209 ?_
                    refine lv_iload hx hb dX10_below_212 (lv_at hl 3 rfl) ?_
                    obtain ⟨g_214, h⟩ := gi_e h
                    refine va_lald hx hb hK.1 hP 16 2 rfl rfl g_214 dX10_below_214 ?_
                    refine lv_goto (tgt := 219) hx hb dX10_below_215 (by decide) ?_
                    exact hJ205 _  _ _ _ h hP hD hS (lv_sub hl [0, 1, 3] rfl)
            exact hL186 n _ _  _ _ _ hT186 hP hD hS (lv_sub hl [2, 3, 1, 0] rfl)
          have hL60 : ∀ (f : Nat) (v3_60 : Int32) (m_waysTo_60 : AL) (m_waysThen_60 : AL)  (H : Heap) (locs : List Loc) (ls : Array Slot), p_X10_below_L60 n v2 v1 m_kindsOf m_nextOf f v3_60 m_waysTo_60 m_waysThen_60 = some (m_waysTo_o60, m_waysThen_o60) → va_P G.1 vwCl (WM G m_h m_q m_onBy m_toldBy m_kindsOf m_nextOf m_holdsAt m_made m_standsFor m_madeNext m_madeHolds m_stateFor m_joined m_joinedNow m_firstIn m_orderOf m_classAt m_sets m_waysTo_60 m_waysThen_60 m_queue m_leastTo) H → va_D A (WM G m_h m_q m_onBy m_toldBy m_kindsOf m_nextOf m_holdsAt m_made m_standsFor m_madeNext m_madeHolds m_stateFor m_joined m_joinedNow m_firstIn m_orderOf m_classAt m_sets m_waysTo_60 m_waysThen_60 m_queue m_leastTo) → va_S A s.heap H locs → lv_has ls 6 [(0, .ref m_h), (1, .int v1), (2, .int v2), (3, .int v3_60)] → W p l e rX10_below s m args below meth c H locs 0 0 Q (F0 m 60 ls []) := by
            intro f
            induction f with
            | zero => intro v3_60 m_waysTo_60 m_waysThen_60 H locs ls h hP hD hS hl; cases (show none = some _ from h)
            | succ f ih =>
              intro v3_60 m_waysTo_60 m_waysThen_60 H locs ls h hP hD hS hl
              rw [p_X10_below_L60] at h
              refine lv_iload_n hx hb dX10_below_60 rfl (lv_at hl 3 rfl) ?_
              refine lv_iload_n hx hb dX10_below_61 rfl (lv_at hl 2 rfl) ?_
              refine lv_icmp_ge (tgt := 181) hx hb dX10_below_62 (by decide) (fun c_62 => ?_) (fun c_62 => ?_)
              · replace h := (if_pos c_62).symm.trans h
                exact hX60 _ _  _ _ _ h hP hD hS (lv_sub hl [0, 1] rfl)
              · replace h := (if_neg c_62).symm.trans h
                refine lv_iconst (v := 0) hx hb dX10_below_65 (by decide) ?_
                refine lv_istore (lv' := [(4, .int (0 : Int32)), (0, .ref m_h), (1, .int v1), (2, .int v2), (3, .int v3_60)]) hx hb dX10_below_66 hl (by decide) rfl (fun ls hl => ?_)
                obtain ⟨m_waysThen_o68, hT68, h⟩ := ob1_e h
                have hX68 : ∀ (m_waysThen_o68x : AL)  (H : Heap) (locs : List Loc) (ls : Array Slot), some m_waysThen_o68x = some m_waysThen_o68 → va_P G.1 vwCl (WM G m_h m_q m_onBy m_toldBy m_kindsOf m_nextOf m_holdsAt m_made m_standsFor m_madeNext m_madeHolds m_stateFor m_joined m_joinedNow m_firstIn m_orderOf m_classAt m_sets m_waysTo_60 m_waysThen_o68x m_queue m_leastTo) H → va_D A (WM G m_h m_q m_onBy m_toldBy m_kindsOf m_nextOf m_holdsAt m_made m_standsFor m_madeNext m_madeHolds m_stateFor m_joined m_joinedNow m_firstIn m_orderOf m_classAt m_sets m_waysTo_60 m_waysThen_o68x m_queue m_leastTo) → va_S A s.heap H locs → lv_has ls 6 [(0, .ref m_h), (1, .int v1), (2, .int v2), (3, .int v3_60)] → W p l e rX10_below s m args below meth c H locs 0 0 Q (F0 m 89 ls []) := by
                  intro m_waysThen_o68x H locs ls hq hP hD hS hl
                  obtain rfl := oi1 hq
                  refine lv_iconst (v := 0) hx hb dX10_below_89 (by decide) ?_
                  refine lv_istore (lv' := [(4, .int (0 : Int32)), (0, .ref m_h), (1, .int v1), (2, .int v2), (3, .int v3_60)]) hx hb dX10_below_90 hl (by decide) rfl (fun ls hl => ?_)
                  obtain ⟨m_waysThen_o92, hT92, h⟩ := ob1_e h
                  have hX92 : ∀ (m_waysThen_o92x : AL)  (H : Heap) (locs : List Loc) (ls : Array Slot), some m_waysThen_o92x = some m_waysThen_o92 → va_P G.1 vwCl (WM G m_h m_q m_onBy m_toldBy m_kindsOf m_nextOf m_holdsAt m_made m_standsFor m_madeNext m_madeHolds m_stateFor m_joined m_joinedNow m_firstIn m_orderOf m_classAt m_sets m_waysTo_60 m_waysThen_o92x m_queue m_leastTo) H → va_D A (WM G m_h m_q m_onBy m_toldBy m_kindsOf m_nextOf m_holdsAt m_made m_standsFor m_madeNext m_madeHolds m_stateFor m_joined m_joinedNow m_firstIn m_orderOf m_classAt m_sets m_waysTo_60 m_waysThen_o92x m_queue m_leastTo) → va_S A s.heap H locs → lv_has ls 6 [(0, .ref m_h), (1, .int v1), (2, .int v2), (3, .int v3_60)] → W p l e rX10_below s m args below meth c H locs 0 0 Q (F0 m 145 ls []) := by
                    intro m_waysThen_o92x H locs ls hq hP hD hS hl
                    obtain rfl := oi1 hq
                    refine lv_iconst (v := 0) hx hb dX10_below_145 (by decide) ?_
                    refine lv_istore (lv' := [(4, .int (0 : Int32)), (0, .ref m_h), (1, .int v1), (2, .int v2), (3, .int v3_60)]) hx hb dX10_below_146 hl (by decide) rfl (fun ls hl => ?_)
                    obtain ⟨m_waysTo_o148, hT148, h⟩ := ob1_e h
                    have hX148 : ∀ (m_waysTo_o148x : AL)  (H : Heap) (locs : List Loc) (ls : Array Slot), some m_waysTo_o148x = some m_waysTo_o148 → va_P G.1 vwCl (WM G m_h m_q m_onBy m_toldBy m_kindsOf m_nextOf m_holdsAt m_made m_standsFor m_madeNext m_madeHolds m_stateFor m_joined m_joinedNow m_firstIn m_orderOf m_classAt m_sets m_waysTo_o148x m_waysThen_o92 m_queue m_leastTo) H → va_D A (WM G m_h m_q m_onBy m_toldBy m_kindsOf m_nextOf m_holdsAt m_made m_standsFor m_madeNext m_madeHolds m_stateFor m_joined m_joinedNow m_firstIn m_orderOf m_classAt m_sets m_waysTo_o148x m_waysThen_o92 m_queue m_leastTo) → va_S A s.heap H locs → lv_has ls 6 [(0, .ref m_h), (1, .int v1), (2, .int v2), (3, .int v3_60)] → W p l e rX10_below s m args below meth c H locs 0 0 Q (F0 m 175 ls []) := by
                      intro m_waysTo_o148x H locs ls hq hP hD hS hl
                      obtain rfl := oi1 hq
                      refine lv_iinc (v := (v3_60 + (1 : Int32))) (lv' := [(3, .int (v3_60 + (1 : Int32))), (0, .ref m_h), (1, .int v1), (2, .int v2)]) hx hb dX10_below_175 hl (k := 3) rfl rfl (by decide) rfl (fun ls hl => ?_)
                      refine lv_goto (tgt := 60) hx hb dX10_below_178 (by decide) ?_
                      exact ih _ _ _  _ _ _ h hP hD hS (lv_sub hl [1, 2, 3, 0] rfl)
                    have hL148 : ∀ (f : Nat) (v4_148 : Int32) (m_waysTo_148 : AL)  (H : Heap) (locs : List Loc) (ls : Array Slot), p_X10_below_L148 m_waysThen_o92 f v4_148 m_waysTo_148 = some m_waysTo_o148 → va_P G.1 vwCl (WM G m_h m_q m_onBy m_toldBy m_kindsOf m_nextOf m_holdsAt m_made m_standsFor m_madeNext m_madeHolds m_stateFor m_joined m_joinedNow m_firstIn m_orderOf m_classAt m_sets m_waysTo_148 m_waysThen_o92 m_queue m_leastTo) H → va_D A (WM G m_h m_q m_onBy m_toldBy m_kindsOf m_nextOf m_holdsAt m_made m_standsFor m_madeNext m_madeHolds m_stateFor m_joined m_joinedNow m_firstIn m_orderOf m_classAt m_sets m_waysTo_148 m_waysThen_o92 m_queue m_leastTo) → va_S A s.heap H locs → lv_has ls 6 [(0, .ref m_h), (1, .int v1), (2, .int v2), (3, .int v3_60), (4, .int v4_148)] → W p l e rX10_below s m args below meth c H locs 0 0 Q (F0 m 148 ls []) := by
                      intro f
                      induction f with
                      | zero => intro v4_148 m_waysTo_148 H locs ls h hP hD hS hl; cases (show none = some _ from h)
                      | succ f ih =>
                        intro v4_148 m_waysTo_148 H locs ls h hP hD hS hl
                        rw [p_X10_below_L148] at h
                        refine lv_iload hx hb dX10_below_148 (lv_at hl 4 rfl) ?_
                        refine lv_bipush (v := 60) hx hb dX10_below_150 (by decide) ?_
                        refine lv_icmp_ge (tgt := 175) hx hb dX10_below_152 (by decide) (fun c_152 => ?_) (fun c_152 => ?_)
                        · replace h := (if_pos c_152).symm.trans h
                          exact hX148 _  _ _ _ h hP hD hS (lv_sub hl [0, 1, 2, 3] rfl)
                        · replace h := (if_neg c_152).symm.trans h
                          refine lv_aload_n hx hb dX10_below_155 rfl (lv_at hl 0 rfl) ?_
                          refine va_get (D := G.1) (ci := 10) (v := .ref (m_q 15)) (C := RX10) (T := TX10) (N := 20) hx hb hts hinX10 hown hK.1 hP 0 rfl rfl 16 (by decide) hf57 (fun _ h9 => h9) rfl dX10_below_156 ?_
                          refine lv_iload hx hb dX10_below_159 (lv_at hl 4 rfl) ?_
                          refine lv_aload_n hx hb dX10_below_161 rfl (lv_at hl 0 rfl) ?_
                          refine va_get (D := G.1) (ci := 10) (v := .ref (m_q 16)) (C := RX10) (T := TX10) (N := 20) hx hb hts hinX10 hown hK.1 hP 0 rfl rfl 17 (by decide) hf60 (fun _ h9 => h9) rfl dX10_below_162 ?_
                          refine lv_iload hx hb dX10_below_165 (lv_at hl 4 rfl) ?_
                          obtain ⟨g_167, h⟩ := gi_e h
                          refine va_lald hx hb hK.1 hP 17 2 rfl rfl g_167 dX10_below_167 ?_
                          obtain ⟨g_168, h⟩ := gi_e h
                          refine va_last hx hb hK.1 hP hD hS 16 2 rfl rfl g_168 dX10_below_168 (fun H locs hP hD hS => ?_)
                          have hP : va_P G.1 vwCl (WM G m_h m_q m_onBy m_toldBy m_kindsOf m_nextOf m_holdsAt m_made m_standsFor m_madeNext m_madeHolds m_stateFor m_joined m_joinedNow m_firstIn m_orderOf m_classAt m_sets (vp_updL m_waysTo_148 v4_148.toNatClampNeg (m_waysThen_o92 v4_148.toNatClampNeg)) m_waysThen_o92 m_queue m_leastTo) H := hP
                          have hD : va_D A (WM G m_h m_q m_onBy m_toldBy m_kindsOf m_nextOf m_holdsAt m_made m_standsFor m_madeNext m_madeHolds m_stateFor m_joined m_joinedNow m_firstIn m_orderOf m_classAt m_sets (vp_updL m_waysTo_148 v4_148.toNatClampNeg (m_waysThen_o92 v4_148.toNatClampNeg)) m_waysThen_o92 m_queue m_leastTo) := hD
                          refine lv_iinc (v := (v4_148 + (1 : Int32))) (lv' := [(4, .int (v4_148 + (1 : Int32))), (0, .ref m_h), (1, .int v1), (2, .int v2), (3, .int v3_60)]) hx hb dX10_below_169 hl (k := 4) rfl rfl (by decide) rfl (fun ls hl => ?_)
                          refine lv_goto (tgt := 148) hx hb dX10_below_172 (by decide) ?_
                          exact ih _ _  _ _ _ h hP hD hS (lv_sub hl [1, 2, 3, 4, 0] rfl)
                    exact hL148 n _ _  _ _ _ hT148 hP hD hS (lv_sub hl [1, 2, 3, 4, 0] rfl)
                  have hL92 : ∀ (f : Nat) (v4_92 : Int32) (m_waysThen_92 : AL)  (H : Heap) (locs : List Loc) (ls : Array Slot), p_X10_below_L92 v1 m_kindsOf m_nextOf m_waysTo_60 f v4_92 m_waysThen_92 = some m_waysThen_o92 → va_P G.1 vwCl (WM G m_h m_q m_onBy m_toldBy m_kindsOf m_nextOf m_holdsAt m_made m_standsFor m_madeNext m_madeHolds m_stateFor m_joined m_joinedNow m_firstIn m_orderOf m_classAt m_sets m_waysTo_60 m_waysThen_92 m_queue m_leastTo) H → va_D A (WM G m_h m_q m_onBy m_toldBy m_kindsOf m_nextOf m_holdsAt m_made m_standsFor m_madeNext m_madeHolds m_stateFor m_joined m_joinedNow m_firstIn m_orderOf m_classAt m_sets m_waysTo_60 m_waysThen_92 m_queue m_leastTo) → va_S A s.heap H locs → lv_has ls 6 [(0, .ref m_h), (1, .int v1), (2, .int v2), (3, .int v3_60), (4, .int v4_92)] → W p l e rX10_below s m args below meth c H locs 0 0 Q (F0 m 92 ls []) := by
                    intro f
                    induction f with
                    | zero => intro v4_92 m_waysThen_92 H locs ls h hP hD hS hl; cases (show none = some _ from h)
                    | succ f ih =>
                      intro v4_92 m_waysThen_92 H locs ls h hP hD hS hl
                      rw [p_X10_below_L92] at h
                      refine lv_iload hx hb dX10_below_92 (lv_at hl 4 rfl) ?_
                      refine lv_bipush (v := 8) hx hb dX10_below_94 (by decide) ?_
                      refine lv_aload_n hx hb dX10_below_96 rfl (lv_at hl 0 rfl) ?_
                      refine va_get (D := G.1) (ci := 10) (v := .ref (m_q 2)) (C := RX10) (T := TX10) (N := 20) hx hb hts hinX10 hown hK.1 hP 0 rfl rfl 2 (by decide) hf16 (fun _ h9 => h9) rfl dX10_below_97 ?_
                      refine lv_iload_n hx hb dX10_below_100 rfl (lv_at hl 1 rfl) ?_
                      obtain ⟨g_101, h⟩ := gi_e h
                      refine va_iald hx hb hK.1 hP 3 0 rfl rfl g_101 dX10_below_101 ?_
                      refine lv_imul hx hb dX10_below_102 ?_
                      refine lv_icmp_ge (tgt := 145) hx hb dX10_below_103 (by decide) (fun c_103 => ?_) (fun c_103 => ?_)
                      · replace h := (if_pos c_103).symm.trans h
                        exact hX92 _  _ _ _ h hP hD hS (lv_sub hl [0, 1, 2, 3] rfl)
                      · replace h := (if_neg c_103).symm.trans h
                        refine lv_aload_n hx hb dX10_below_106 rfl (lv_at hl 0 rfl) ?_
                        refine va_get (D := G.1) (ci := 10) (v := .ref (m_q 16)) (C := RX10) (T := TX10) (N := 20) hx hb hts hinX10 hown hK.1 hP 0 rfl rfl 17 (by decide) hf60 (fun _ h9 => h9) rfl dX10_below_107 ?_
                        refine lv_aload_n hx hb dX10_below_110 rfl (lv_at hl 0 rfl) ?_
                        refine lv_iload_n hx hb dX10_below_111 rfl (lv_at hl 1 rfl) ?_
                        refine lv_iload hx hb dX10_below_112 (lv_at hl 4 rfl) ?_
                        refine lv_bipush (v := 8) hx hb dX10_below_114 (by decide) ?_
                        refine lv_idiv hx hb dX10_below_116 (by decide) ?_
                        refine lv_iload hx hb dX10_below_117 (lv_at hl 4 rfl) ?_
                        refine lv_bipush (v := 8) hx hb dX10_below_119 (by decide) ?_
                        refine lv_irem hx hb dX10_below_121 (by decide) ?_
                        obtain ⟨r_122, hc_122, h⟩ := ob1_e h
                        refine k_si (va_runV (As := [.int v1, .int (v4_92 / (8 : Int32)), .int (v4_92 - v4_92 / (8 : Int32) * (8 : Int32))]) (rest := [.ref (m_q 16)]) ⟨hx, hb, hml, hown, hts⟩ (c_X10_next l G m_h m_q m_onBy m_toldBy m_kindsOf m_nextOf m_holdsAt m_made m_standsFor m_madeNext m_madeHolds m_stateFor m_joined m_joinedNow m_firstIn m_orderOf m_classAt m_sets m_waysTo_60 m_waysThen_92 m_queue m_leastTo v1 (v4_92 / (8 : Int32)) (v4_92 - v4_92 / (8 : Int32) * (8 : Int32)) r_122 hc_122) (cwV 3 hts gX10_below_X10_next rfl rfl rfl ⟨rfl, eX10_next⟩ ⟨Nat.le_of_ble_eq_true rfl, Nat.le_of_ble_eq_true rfl⟩) (preSV (ci := 10) (q0 := 0) hK hP rfl rfl) rfl rfl hl.1 rfl (lv_room (Nat.le_of_ble_eq_true rfl)) dX10_below_122 ⟨Nat.le_of_ble_eq_true rfl, Nat.le_of_ble_eq_true rfl⟩) ?_
                        refine lv_dup2_11 hx hb dX10_below_125 rfl rfl ?_
                        obtain ⟨g_126, h⟩ := gi_e h
                        refine va_lald hx hb hK.1 hP 17 2 rfl rfl g_126 dX10_below_126 ?_
                        refine lv_aload_n hx hb dX10_below_127 rfl (lv_at hl 0 rfl) ?_
                        refine va_get (D := G.1) (ci := 10) (v := .ref (m_q 15)) (C := RX10) (T := TX10) (N := 20) hx hb hts hinX10 hown hK.1 hP 0 rfl rfl 16 (by decide) hf57 (fun _ h9 => h9) rfl dX10_below_128 ?_
                        refine lv_iload hx hb dX10_below_131 (lv_at hl 4 rfl) ?_
                        refine lv_bipush (v := 8) hx hb dX10_below_133 (by decide) ?_
                        refine lv_idiv hx hb dX10_below_135 (by decide) ?_
                        obtain ⟨g_136, h⟩ := gi_e h
                        refine va_lald hx hb hK.1 hP 16 2 rfl rfl g_136 dX10_below_136 ?_
                        refine lv_ladd hx hb dX10_below_137 ?_
                        obtain ⟨g_138, h⟩ := gi_e h
                        refine va_last hx hb hK.1 hP hD hS 17 2 rfl rfl g_138 dX10_below_138 (fun H locs hP hD hS => ?_)
                        have hP : va_P G.1 vwCl (WM G m_h m_q m_onBy m_toldBy m_kindsOf m_nextOf m_holdsAt m_made m_standsFor m_madeNext m_madeHolds m_stateFor m_joined m_joinedNow m_firstIn m_orderOf m_classAt m_sets m_waysTo_60 (vp_updL m_waysThen_92 r_122.toNatClampNeg ((m_waysThen_92 r_122.toNatClampNeg) + (m_waysTo_60 (v4_92 / (8 : Int32)).toNatClampNeg))) m_queue m_leastTo) H := hP
                        have hD : va_D A (WM G m_h m_q m_onBy m_toldBy m_kindsOf m_nextOf m_holdsAt m_made m_standsFor m_madeNext m_madeHolds m_stateFor m_joined m_joinedNow m_firstIn m_orderOf m_classAt m_sets m_waysTo_60 (vp_updL m_waysThen_92 r_122.toNatClampNeg ((m_waysThen_92 r_122.toNatClampNeg) + (m_waysTo_60 (v4_92 / (8 : Int32)).toNatClampNeg))) m_queue m_leastTo) := hD
                        refine lv_iinc (v := (v4_92 + (1 : Int32))) (lv' := [(4, .int (v4_92 + (1 : Int32))), (0, .ref m_h), (1, .int v1), (2, .int v2), (3, .int v3_60)]) hx hb dX10_below_139 hl (k := 4) rfl rfl (by decide) rfl (fun ls hl => ?_)
                        refine lv_goto (tgt := 92) hx hb dX10_below_142 (by decide) ?_
                        exact ih _ _  _ _ _ h hP hD hS (lv_sub hl [1, 2, 3, 4, 0] rfl)
                  exact hL92 n _ _  _ _ _ hT92 hP hD hS (lv_sub hl [1, 2, 3, 4, 0] rfl)
                have hL68 : ∀ (f : Nat) (v4_68 : Int32) (m_waysThen_68 : AL)  (H : Heap) (locs : List Loc) (ls : Array Slot), p_X10_below_L68 f v4_68 m_waysThen_68 = some m_waysThen_o68 → va_P G.1 vwCl (WM G m_h m_q m_onBy m_toldBy m_kindsOf m_nextOf m_holdsAt m_made m_standsFor m_madeNext m_madeHolds m_stateFor m_joined m_joinedNow m_firstIn m_orderOf m_classAt m_sets m_waysTo_60 m_waysThen_68 m_queue m_leastTo) H → va_D A (WM G m_h m_q m_onBy m_toldBy m_kindsOf m_nextOf m_holdsAt m_made m_standsFor m_madeNext m_madeHolds m_stateFor m_joined m_joinedNow m_firstIn m_orderOf m_classAt m_sets m_waysTo_60 m_waysThen_68 m_queue m_leastTo) → va_S A s.heap H locs → lv_has ls 6 [(0, .ref m_h), (1, .int v1), (2, .int v2), (3, .int v3_60), (4, .int v4_68)] → W p l e rX10_below s m args below meth c H locs 0 0 Q (F0 m 68 ls []) := by
                  intro f
                  induction f with
                  | zero => intro v4_68 m_waysThen_68 H locs ls h hP hD hS hl; cases (show none = some _ from h)
                  | succ f ih =>
                    intro v4_68 m_waysThen_68 H locs ls h hP hD hS hl
                    rw [p_X10_below_L68] at h
                    refine lv_iload hx hb dX10_below_68 (lv_at hl 4 rfl) ?_
                    refine lv_bipush (v := 60) hx hb dX10_below_70 (by decide) ?_
                    refine lv_icmp_ge (tgt := 89) hx hb dX10_below_72 (by decide) (fun c_72 => ?_) (fun c_72 => ?_)
                    · replace h := (if_pos c_72).symm.trans h
                      exact hX68 _  _ _ _ h hP hD hS (lv_sub hl [0, 1, 2, 3] rfl)
                    · replace h := (if_neg c_72).symm.trans h
                      refine lv_aload_n hx hb dX10_below_75 rfl (lv_at hl 0 rfl) ?_
                      refine va_get (D := G.1) (ci := 10) (v := .ref (m_q 16)) (C := RX10) (T := TX10) (N := 20) hx hb hts hinX10 hown hK.1 hP 0 rfl rfl 17 (by decide) hf60 (fun _ h9 => h9) rfl dX10_below_76 ?_
                      refine lv_iload hx hb dX10_below_79 (lv_at hl 4 rfl) ?_
                      refine lv_lconst (v := 0) hx hb dX10_below_81 (by decide) ?_
                      obtain ⟨g_82, h⟩ := gi_e h
                      refine va_last hx hb hK.1 hP hD hS 17 2 rfl rfl g_82 dX10_below_82 (fun H locs hP hD hS => ?_)
                      have hP : va_P G.1 vwCl (WM G m_h m_q m_onBy m_toldBy m_kindsOf m_nextOf m_holdsAt m_made m_standsFor m_madeNext m_madeHolds m_stateFor m_joined m_joinedNow m_firstIn m_orderOf m_classAt m_sets m_waysTo_60 (vp_updL m_waysThen_68 v4_68.toNatClampNeg (0 : Int64)) m_queue m_leastTo) H := hP
                      have hD : va_D A (WM G m_h m_q m_onBy m_toldBy m_kindsOf m_nextOf m_holdsAt m_made m_standsFor m_madeNext m_madeHolds m_stateFor m_joined m_joinedNow m_firstIn m_orderOf m_classAt m_sets m_waysTo_60 (vp_updL m_waysThen_68 v4_68.toNatClampNeg (0 : Int64)) m_queue m_leastTo) := hD
                      refine lv_iinc (v := (v4_68 + (1 : Int32))) (lv' := [(4, .int (v4_68 + (1 : Int32))), (0, .ref m_h), (1, .int v1), (2, .int v2), (3, .int v3_60)]) hx hb dX10_below_83 hl (k := 4) rfl rfl (by decide) rfl (fun ls hl => ?_)
                      refine lv_goto (tgt := 68) hx hb dX10_below_86 (by decide) ?_
                      exact ih _ _  _ _ _ h hP hD hS (lv_sub hl [1, 2, 3, 4, 0] rfl)
                exact hL68 n _ _  _ _ _ hT68 hP hD hS (lv_sub hl [1, 2, 3, 4, 0] rfl)
          exact hL60 n _ _ _  _ _ _ hT60 hP hD hS (lv_sub hl [1, 2, 3, 0] rfl)
        have hL31 : ∀ (f : Nat) (v3_31 : Int32) (m_waysTo_31 : AL)  (H : Heap) (locs : List Loc) (ls : Array Slot), p_X10_below_L31 f v3_31 m_waysTo_31 = some m_waysTo_o31 → va_P G.1 vwCl (WM G m_h m_q m_onBy m_toldBy m_kindsOf m_nextOf m_holdsAt m_made m_standsFor m_madeNext m_madeHolds m_stateFor m_joined m_joinedNow m_firstIn m_orderOf m_classAt m_sets m_waysTo_31 m_waysThen m_queue m_leastTo) H → va_D A (WM G m_h m_q m_onBy m_toldBy m_kindsOf m_nextOf m_holdsAt m_made m_standsFor m_madeNext m_madeHolds m_stateFor m_joined m_joinedNow m_firstIn m_orderOf m_classAt m_sets m_waysTo_31 m_waysThen m_queue m_leastTo) → va_S A s.heap H locs → lv_has ls 6 [(0, .ref m_h), (1, .int v1), (2, .int v2), (3, .int v3_31)] → W p l e rX10_below s m args below meth c H locs 0 0 Q (F0 m 31 ls []) := by
          intro f
          induction f with
          | zero => intro v3_31 m_waysTo_31 H locs ls h hP hD hS hl; cases (show none = some _ from h)
          | succ f ih =>
            intro v3_31 m_waysTo_31 H locs ls h hP hD hS hl
            rw [p_X10_below_L31] at h
            refine lv_iload_n hx hb dX10_below_31 rfl (lv_at hl 3 rfl) ?_
            refine lv_bipush (v := 60) hx hb dX10_below_32 (by decide) ?_
            refine lv_icmp_ge (tgt := 58) hx hb dX10_below_34 (by decide) (fun c_34 => ?_) (fun c_34 => ?_)
            · replace h := (if_pos c_34).symm.trans h
              exact hX31 _  _ _ _ h hP hD hS (lv_sub hl [0, 1, 2] rfl)
            · replace h := (if_neg c_34).symm.trans h
              refine lv_aload_n hx hb dX10_below_37 rfl (lv_at hl 0 rfl) ?_
              refine va_get (D := G.1) (ci := 10) (v := .ref (m_q 15)) (C := RX10) (T := TX10) (N := 20) hx hb hts hinX10 hown hK.1 hP 0 rfl rfl 16 (by decide) hf57 (fun _ h9 => h9) rfl dX10_below_38 ?_
              refine lv_iload_n hx hb dX10_below_41 rfl (lv_at hl 3 rfl) ?_
              refine lv_iload_n hx hb dX10_below_42 rfl (lv_at hl 3 rfl) ?_
              obtain ⟨j0_43, hT43, h⟩ := ob1_e h
              have hJ43 : ∀ (j0_43x : Int64)  (H : Heap) (locs : List Loc) (ls : Array Slot), some j0_43x = some j0_43 → va_P G.1 vwCl (WM G m_h m_q m_onBy m_toldBy m_kindsOf m_nextOf m_holdsAt m_made m_standsFor m_madeNext m_madeHolds m_stateFor m_joined m_joinedNow m_firstIn m_orderOf m_classAt m_sets m_waysTo_31 m_waysThen m_queue m_leastTo) H → va_D A (WM G m_h m_q m_onBy m_toldBy m_kindsOf m_nextOf m_holdsAt m_made m_standsFor m_madeNext m_madeHolds m_stateFor m_joined m_joinedNow m_firstIn m_orderOf m_classAt m_sets m_waysTo_31 m_waysThen m_queue m_leastTo) → va_S A s.heap H locs → lv_has ls 6 [(0, .ref m_h), (1, .int v1), (2, .int v2), (3, .int v3_31)] → W p l e rX10_below s m args below meth c H locs 0 0 Q (F0 m 51 ls [.long j0_43x, .int v3_31, .ref (m_q 15)]) := by
                intro j0_43x H locs ls hq hP hD hS hl
                obtain rfl := oi1 hq
                obtain ⟨g_51, h⟩ := gi_e h
                refine va_last hx hb hK.1 hP hD hS 16 2 rfl rfl g_51 dX10_below_51 (fun H locs hP hD hS => ?_)
                have hP : va_P G.1 vwCl (WM G m_h m_q m_onBy m_toldBy m_kindsOf m_nextOf m_holdsAt m_made m_standsFor m_madeNext m_madeHolds m_stateFor m_joined m_joinedNow m_firstIn m_orderOf m_classAt m_sets (vp_updL m_waysTo_31 v3_31.toNatClampNeg j0_43) m_waysThen m_queue m_leastTo) H := hP
                have hD : va_D A (WM G m_h m_q m_onBy m_toldBy m_kindsOf m_nextOf m_holdsAt m_made m_standsFor m_madeNext m_madeHolds m_stateFor m_joined m_joinedNow m_firstIn m_orderOf m_classAt m_sets (vp_updL m_waysTo_31 v3_31.toNatClampNeg j0_43) m_waysThen m_queue m_leastTo) := hD
                refine lv_iinc (v := (v3_31 + (1 : Int32))) (lv' := [(3, .int (v3_31 + (1 : Int32))), (0, .ref m_h), (1, .int v1), (2, .int v2)]) hx hb dX10_below_52 hl (k := 3) rfl rfl (by decide) rfl (fun ls hl => ?_)
                refine lv_goto (tgt := 31) hx hb dX10_below_55 (by decide) ?_
                exact ih _ _  _ _ _ h hP hD hS (lv_sub hl [1, 2, 3, 0] rfl)
              replace h := hT43
              refine lv_if_ne (tgt := 50) hx hb dX10_below_43 (by decide) (fun c_43 => ?_) (fun c_43 => ?_)
              · replace h := (if_neg c_43).symm.trans h
                refine lv_lconst (v := 0) hx hb dX10_below_50 (by decide) ?_
                exact hJ43 _  _ _ _ h hP hD hS (lv_sub hl [0, 1, 2, 3] rfl)
              · replace h := (if_pos c_43).symm.trans h
                refine lv_lconst (v := 1) hx hb dX10_below_46 (by decide) ?_
                refine lv_goto (tgt := 51) hx hb dX10_below_47 (by decide) ?_
                exact hJ43 _  _ _ _ h hP hD hS (lv_sub hl [0, 1, 2, 3] rfl)
        exact hL31 n _ _  _ _ _ hT31 hP hD hS (lv_sub hl [1, 2, 3, 0] rfl)
      · replace h := (if_pos c_22).symm.trans h
        refine lv_ldc2 (v := -9223372036854775808) hx hb hown (hts (.constantLong RX10 167 (-9223372036854775808)) (by decide +kernel)) dX10_below_25 ?_
        obtain ⟨rfl, rfl, rfl⟩ := oi3 h
        exact hret (fun _ => 0) _ _ _ _ _ _ _ dX10_below_28 rfl hP hD hS (Nat.le_of_ble_eq_true rfl) (Nat.le_of_ble_eq_true rfl)
abbrev rX10_leastBy : Room := { frames := 1, cells := 0, slots := 0, locals := 23 }
set_option maxHeartbeats 4000000 in
set_option maxRecDepth 100000 in
theorem c_X10_leastBy (l : Launch) (G : GG) (n : Nat) (m_h : Nat) (m_q : Nat → Nat) (m_onBy : AI) (m_toldBy : AI) (m_kindsOf : AI) (m_nextOf : AI) (m_holdsAt : AI) (m_made : Int32) (m_standsFor : AI) (m_madeNext : AI) (m_madeHolds : AI) (m_stateFor : AI) (m_joined : AI) (m_joinedNow : AI) (m_firstIn : AI) (m_orderOf : AI) (m_classAt : AI) (m_sets : AL) (m_waysTo : AL) (m_waysThen : AL) (m_queue : AI) (m_leastTo : AL) (v1 : Int32) (v2 : Int32) (sz : Nat) (r : Int64) (m_queue_z : AI) (m_leastTo_z : AL) (h : p_X10_leastBy n m_nextOf m_holdsAt m_queue m_leastTo v1 v2 = some (r, m_queue_z, m_leastTo_z)) : CL l yX10_leastBy wsX10_leastBy rX10_leastBy G [.ref m_h, .int v1, .int v2] (WM G m_h m_q m_onBy m_toldBy m_kindsOf m_nextOf m_holdsAt m_made m_standsFor m_madeNext m_madeHolds m_stateFor m_joined m_joinedNow m_firstIn m_orderOf m_classAt m_sets m_waysTo m_waysThen m_queue m_leastTo) sz r (fun u => WM G m_h m_q m_onBy m_toldBy m_kindsOf m_nextOf m_holdsAt m_made m_standsFor m_madeNext m_madeHolds m_stateFor m_joined m_joinedNow m_firstIn m_orderOf m_classAt m_sets m_waysTo m_waysThen m_queue_z m_leastTo_z) := by
  refine enterCL (cc := cX10_leastBy) (maxL := 8) (by decide) rfl (Nat.le_of_ble_eq_true rfl) ?_
  intro p e s m args below meth c A Q hx hb hml hown hts hK hP hD hS hA hret ls hl
  have hown : s.vm.findClass RX10 = some m.cls := hown
  have hf63 := hts (.fieldLink RX10 63 "DigitClaimsModel" "queue" "[I") (by decide +kernel)
  have hf66 := hts (.fieldLink RX10 66 "DigitClaimsModel" "leastTo" "[J") (by decide +kernel)
  have hinX10 : ∀ w ∈ wsX100, w ∈ wsX10_leastBy := by decide +kernel
  have hl : lv_has ls 8 [(0, .ref m_h), (1, .int v1), (2, .int v2)] := hl
  unfold p_X10_leastBy at h
  refine lv_iconst (v := 0) hx hb dX10_leastBy_0 (by decide) ?_
  refine lv_istore_n (lv' := [(3, .int (0 : Int32)), (0, .ref m_h), (1, .int v1), (2, .int v2)]) hx hb dX10_leastBy_1 rfl hl (by decide) rfl (fun ls hl => ?_)
  obtain ⟨m_leastTo_o2, hT2, h⟩ := ob1_e h
  have hX2 : ∀ (m_leastTo_o2x : AL)  (H : Heap) (locs : List Loc) (ls : Array Slot), some m_leastTo_o2x = some m_leastTo_o2 → va_P G.1 vwCl (WM G m_h m_q m_onBy m_toldBy m_kindsOf m_nextOf m_holdsAt m_made m_standsFor m_madeNext m_madeHolds m_stateFor m_joined m_joinedNow m_firstIn m_orderOf m_classAt m_sets m_waysTo m_waysThen m_queue m_leastTo_o2x) H → va_D A (WM G m_h m_q m_onBy m_toldBy m_kindsOf m_nextOf m_holdsAt m_made m_standsFor m_madeNext m_madeHolds m_stateFor m_joined m_joinedNow m_firstIn m_orderOf m_classAt m_sets m_waysTo m_waysThen m_queue m_leastTo_o2x) → va_S A s.heap H locs → lv_has ls 8 [(0, .ref m_h), (1, .int v1), (2, .int v2)] → W p l e rX10_leastBy s m args below meth c H locs 0 0 Q (F0 m 23 ls []) := by
    intro m_leastTo_o2x H locs ls hq hP hD hS hl
    obtain rfl := oi1 hq
    refine lv_aload_n hx hb dX10_leastBy_23 rfl (lv_at hl 0 rfl) ?_
    refine va_get (D := G.1) (ci := 10) (v := .ref (m_q 18)) (C := RX10) (T := TX10) (N := 20) hx hb hts hinX10 hown hK.1 hP 0 rfl rfl 19 (by decide) hf66 (fun _ h9 => h9) rfl dX10_leastBy_24 ?_
    refine lv_iconst (v := 0) hx hb dX10_leastBy_27 (by decide) ?_
    refine lv_lconst (v := 0) hx hb dX10_leastBy_28 (by decide) ?_
    obtain ⟨g_29, h⟩ := gi_e h
    refine va_last hx hb hK.1 hP hD hS 19 2 rfl rfl g_29 dX10_leastBy_29 (fun H locs hP hD hS => ?_)
    have hP : va_P G.1 vwCl (WM G m_h m_q m_onBy m_toldBy m_kindsOf m_nextOf m_holdsAt m_made m_standsFor m_madeNext m_madeHolds m_stateFor m_joined m_joinedNow m_firstIn m_orderOf m_classAt m_sets m_waysTo m_waysThen m_queue (vp_updL m_leastTo_o2 (0 : Int32).toNatClampNeg (0 : Int64))) H := hP
    have hD : va_D A (WM G m_h m_q m_onBy m_toldBy m_kindsOf m_nextOf m_holdsAt m_made m_standsFor m_madeNext m_madeHolds m_stateFor m_joined m_joinedNow m_firstIn m_orderOf m_classAt m_sets m_waysTo m_waysThen m_queue (vp_updL m_leastTo_o2 (0 : Int32).toNatClampNeg (0 : Int64))) := hD
    refine lv_aload_n hx hb dX10_leastBy_30 rfl (lv_at hl 0 rfl) ?_
    refine va_get (D := G.1) (ci := 10) (v := .ref (m_q 17)) (C := RX10) (T := TX10) (N := 20) hx hb hts hinX10 hown hK.1 hP 0 rfl rfl 18 (by decide) hf63 (fun _ h9 => h9) rfl dX10_leastBy_31 ?_
    refine lv_iconst (v := 0) hx hb dX10_leastBy_34 (by decide) ?_
    refine lv_iconst (v := 0) hx hb dX10_leastBy_35 (by decide) ?_
    obtain ⟨g_36, h⟩ := gi_e h
    refine va_iast hx hb hK.1 hP hD hS 18 0 rfl rfl g_36 dX10_leastBy_36 (fun H locs hP hD hS => ?_)
    have hP : va_P G.1 vwCl (WM G m_h m_q m_onBy m_toldBy m_kindsOf m_nextOf m_holdsAt m_made m_standsFor m_madeNext m_madeHolds m_stateFor m_joined m_joinedNow m_firstIn m_orderOf m_classAt m_sets m_waysTo m_waysThen (upd m_queue (0 : Int32).toNatClampNeg (0 : Int32)) (vp_updL m_leastTo_o2 (0 : Int32).toNatClampNeg (0 : Int64))) H := hP
    have hD : va_D A (WM G m_h m_q m_onBy m_toldBy m_kindsOf m_nextOf m_holdsAt m_made m_standsFor m_madeNext m_madeHolds m_stateFor m_joined m_joinedNow m_firstIn m_orderOf m_classAt m_sets m_waysTo m_waysThen (upd m_queue (0 : Int32).toNatClampNeg (0 : Int32)) (vp_updL m_leastTo_o2 (0 : Int32).toNatClampNeg (0 : Int64))) := hD
    refine lv_iconst (v := 1) hx hb dX10_leastBy_37 (by decide) ?_
    refine lv_istore_n (lv' := [(3, .int (1 : Int32)), (0, .ref m_h), (1, .int v1), (2, .int v2)]) hx hb dX10_leastBy_38 rfl hl (by decide) rfl (fun ls hl => ?_)
    refine lv_iconst (v := 0) hx hb dX10_leastBy_39 (by decide) ?_
    refine lv_istore (lv' := [(4, .int (0 : Int32)), (3, .int (1 : Int32)), (0, .ref m_h), (1, .int v1), (2, .int v2)]) hx hb dX10_leastBy_40 hl (by decide) rfl (fun ls hl => ?_)
    obtain ⟨o_42, hT42, hd42⟩ := obS2_e h
    have hX42 : ∀ (m_queue_o42x : AI) (m_leastTo_o42x : AL)  (H : Heap) (locs : List Loc) (ls : Array Slot), some (Sum.inr (m_queue_o42x, m_leastTo_o42x)) = some o_42 → va_P G.1 vwCl (WM G m_h m_q m_onBy m_toldBy m_kindsOf m_nextOf m_holdsAt m_made m_standsFor m_madeNext m_madeHolds m_stateFor m_joined m_joinedNow m_firstIn m_orderOf m_classAt m_sets m_waysTo m_waysThen m_queue_o42x m_leastTo_o42x) H → va_D A (WM G m_h m_q m_onBy m_toldBy m_kindsOf m_nextOf m_holdsAt m_made m_standsFor m_madeNext m_madeHolds m_stateFor m_joined m_joinedNow m_firstIn m_orderOf m_classAt m_sets m_waysTo m_waysThen m_queue_o42x m_leastTo_o42x) → va_S A s.heap H locs → lv_has ls 8 [] → W p l e rX10_leastBy s m args below meth c H locs 0 0 Q (F0 m 156 ls []) := by
      intro m_queue_o42x m_leastTo_o42x H locs ls hq hP hD hS hl
      rcases hd42 with ⟨x, hx1, h⟩ | ⟨m_queue_o42, m_leastTo_o42, hx1, h⟩
      · rw [hx1] at hq; cases hq
      rw [hx1] at hq
      obtain ⟨rfl, rfl⟩ := oiS2 hq
      refine lv_ldc2 (v := -9) hx hb hown (hts (.constantLong RX10 169 (-9)) (by decide +kernel)) dX10_leastBy_156 ?_
      obtain ⟨rfl, rfl, rfl⟩ := oi3 h
      exact hret (fun _ => 0) _ _ _ _ _ _ _ dX10_leastBy_159 rfl hP hD hS (Nat.le_of_ble_eq_true rfl) (Nat.le_of_ble_eq_true rfl)
    have hL42 : ∀ (f : Nat) (v3_42 : Int32) (v4_42 : Int32) (m_queue_42 : AI) (m_leastTo_42 : AL)  (H : Heap) (locs : List Loc) (ls : Array Slot), p_X10_leastBy_L42 n m_holdsAt v1 m_nextOf v2 f v3_42 v4_42 m_queue_42 m_leastTo_42 = some o_42 → va_P G.1 vwCl (WM G m_h m_q m_onBy m_toldBy m_kindsOf m_nextOf m_holdsAt m_made m_standsFor m_madeNext m_madeHolds m_stateFor m_joined m_joinedNow m_firstIn m_orderOf m_classAt m_sets m_waysTo m_waysThen m_queue_42 m_leastTo_42) H → va_D A (WM G m_h m_q m_onBy m_toldBy m_kindsOf m_nextOf m_holdsAt m_made m_standsFor m_madeNext m_madeHolds m_stateFor m_joined m_joinedNow m_firstIn m_orderOf m_classAt m_sets m_waysTo m_waysThen m_queue_42 m_leastTo_42) → va_S A s.heap H locs → lv_has ls 8 [(0, .ref m_h), (1, .int v1), (2, .int v2), (3, .int v3_42), (4, .int v4_42)] → W p l e rX10_leastBy s m args below meth c H locs 0 0 Q (F0 m 42 ls []) := by
      intro f
      induction f with
      | zero => intro v3_42 v4_42 m_queue_42 m_leastTo_42 H locs ls h hP hD hS hl; cases (show none = some _ from h)
      | succ f ih =>
        intro v3_42 v4_42 m_queue_42 m_leastTo_42 H locs ls h hP hD hS hl
        rw [p_X10_leastBy_L42] at h
        refine lv_iload hx hb dX10_leastBy_42 (lv_at hl 4 rfl) ?_
        refine lv_iload_n hx hb dX10_leastBy_44 rfl (lv_at hl 3 rfl) ?_
        refine lv_icmp_ge (tgt := 156) hx hb dX10_leastBy_45 (by decide) (fun c_45 => ?_) (fun c_45 => ?_)
        · replace h := (if_pos c_45).symm.trans h
          exact hX42 _ _  _ _ _ h hP hD hS (lv_sub hl [] rfl)
        · replace h := (if_neg c_45).symm.trans h
          refine lv_aload_n hx hb dX10_leastBy_48 rfl (lv_at hl 0 rfl) ?_
          refine va_get (D := G.1) (ci := 10) (v := .ref (m_q 17)) (C := RX10) (T := TX10) (N := 20) hx hb hts hinX10 hown hK.1 hP 0 rfl rfl 18 (by decide) hf63 (fun _ h9 => h9) rfl dX10_leastBy_49 ?_
          refine lv_iload hx hb dX10_leastBy_52 (lv_at hl 4 rfl) ?_
          obtain ⟨g_54, h⟩ := gi_e h
          refine va_iald hx hb hK.1 hP 18 0 rfl rfl g_54 dX10_leastBy_54 ?_
          refine lv_istore (lv' := [(5, .int (m_queue_42 v4_42.toNatClampNeg)), (0, .ref m_h), (1, .int v1), (2, .int v2), (3, .int v3_42), (4, .int v4_42)]) hx hb dX10_leastBy_55 hl (by decide) rfl (fun ls hl => ?_)
          refine lv_aload_n hx hb dX10_leastBy_57 rfl (lv_at hl 1 rfl) ?_
          refine lv_iload_n hx hb dX10_leastBy_58 rfl (lv_at hl 2 rfl) ?_
          refine lv_iload hx hb dX10_leastBy_59 (lv_at hl 0 rfl) ?_
          obtain ⟨r_61, hc_61, h⟩ := ob1_e h
          refine k_si (va_runV (As := [.int v1, .int (m_queue_42 v4_42.toNatClampNeg)]) (rest := []) ⟨hx, hb, hml, hown, hts⟩ (c_X10_holdsIn l G m_h m_q m_onBy m_toldBy m_kindsOf m_nextOf m_holdsAt m_made m_standsFor m_madeNext m_madeHolds m_stateFor m_joined m_joinedNow m_firstIn m_orderOf m_classAt m_sets m_waysTo m_waysThen m_queue_42 m_leastTo_42 v1 (m_queue_42 v4_42.toNatClampNeg) r_61 hc_61) (cwV 2 hts gX10_leastBy_X10_holdsIn rfl rfl rfl ⟨rfl, eX10_holdsIn⟩ ⟨Nat.le_of_ble_eq_true rfl, Nat.le_of_ble_eq_true rfl⟩) (preSV (ci := 10) (q0 := 0) hK hP rfl rfl) rfl rfl hl.1 rfl (lv_room (Nat.le_of_ble_eq_true rfl)) dX10_leastBy_61 ⟨Nat.le_of_ble_eq_true rfl, Nat.le_of_ble_eq_true rfl⟩) ?_
          refine lv_if_eq (tgt := 75) hx hb dX10_leastBy_64 (by decide) (fun c_64 => ?_) (fun c_64 => ?_)
          · replace h := (if_pos c_64).symm.trans h
            refine lv_iconst (v := 0) hx hb dX10_leastBy_75 (by decide) ?_
            refine lv_istore (lv' := [(6, .int (0 : Int32)), (5, .int (m_queue_42 v4_42.toNatClampNeg)), (0, .ref m_h), (1, .int v1), (2, .int v2), (3, .int v3_42), (4, .int v4_42)]) hx hb dX10_leastBy_76 hl (by decide) rfl (fun ls hl => ?_)
            obtain ⟨o3_78, m_queue_o78, m_leastTo_o78, hT78, h⟩ := ob3_e h
            have hX78 : ∀ (x3_78 : Int32) (m_queue_o78x : AI) (m_leastTo_o78x : AL)  (H : Heap) (locs : List Loc) (ls : Array Slot), some (x3_78, m_queue_o78x, m_leastTo_o78x) = some (o3_78, m_queue_o78, m_leastTo_o78) → va_P G.1 vwCl (WM G m_h m_q m_onBy m_toldBy m_kindsOf m_nextOf m_holdsAt m_made m_standsFor m_madeNext m_madeHolds m_stateFor m_joined m_joinedNow m_firstIn m_orderOf m_classAt m_sets m_waysTo m_waysThen m_queue_o78x m_leastTo_o78x) H → va_D A (WM G m_h m_q m_onBy m_toldBy m_kindsOf m_nextOf m_holdsAt m_made m_standsFor m_madeNext m_madeHolds m_stateFor m_joined m_joinedNow m_firstIn m_orderOf m_classAt m_sets m_waysTo m_waysThen m_queue_o78x m_leastTo_o78x) → va_S A s.heap H locs → lv_has ls 8 [(0, .ref m_h), (1, .int v1), (2, .int v2), (3, .int x3_78), (4, .int v4_42)] → W p l e rX10_leastBy s m args below meth c H locs 0 0 Q (F0 m 150 ls []) := by
              intro x3_78 m_queue_o78x m_leastTo_o78x H locs ls hq hP hD hS hl
              obtain ⟨rfl, rfl, rfl⟩ := oi3 hq
              refine lv_iinc (v := (v4_42 + (1 : Int32))) (lv' := [(4, .int (v4_42 + (1 : Int32))), (0, .ref m_h), (1, .int v1), (2, .int v2), (3, .int o3_78)]) hx hb dX10_leastBy_150 hl (k := 4) rfl rfl (by decide) rfl (fun ls hl => ?_)
              refine lv_goto (tgt := 42) hx hb dX10_leastBy_153 (by decide) ?_
              exact ih _ _ _ _  _ _ _ h hP hD hS (lv_sub hl [1, 2, 3, 4, 0] rfl)
            have hL78 : ∀ (f : Nat) (v3_78 : Int32) (v6_78 : Int32) (m_queue_78 : AI) (m_leastTo_78 : AL)  (H : Heap) (locs : List Loc) (ls : Array Slot), p_X10_leastBy_L78 m_nextOf v1 m_queue_42 v4_42 v2 f v3_78 v6_78 m_queue_78 m_leastTo_78 = some (o3_78, m_queue_o78, m_leastTo_o78) → va_P G.1 vwCl (WM G m_h m_q m_onBy m_toldBy m_kindsOf m_nextOf m_holdsAt m_made m_standsFor m_madeNext m_madeHolds m_stateFor m_joined m_joinedNow m_firstIn m_orderOf m_classAt m_sets m_waysTo m_waysThen m_queue_78 m_leastTo_78) H → va_D A (WM G m_h m_q m_onBy m_toldBy m_kindsOf m_nextOf m_holdsAt m_made m_standsFor m_madeNext m_madeHolds m_stateFor m_joined m_joinedNow m_firstIn m_orderOf m_classAt m_sets m_waysTo m_waysThen m_queue_78 m_leastTo_78) → va_S A s.heap H locs → lv_has ls 8 [(0, .ref m_h), (1, .int v1), (2, .int v2), (3, .int v3_78), (4, .int v4_42), (5, .int (m_queue_42 v4_42.toNatClampNeg)), (6, .int v6_78)] → W p l e rX10_leastBy s m args below meth c H locs 0 0 Q (F0 m 78 ls []) := by
              intro f
              induction f with
              | zero => intro v3_78 v6_78 m_queue_78 m_leastTo_78 H locs ls h hP hD hS hl; cases (show none = some _ from h)
              | succ f ih =>
                intro v3_78 v6_78 m_queue_78 m_leastTo_78 H locs ls h hP hD hS hl
                rw [p_X10_leastBy_L78] at h
                refine lv_iload hx hb dX10_leastBy_78 (lv_at hl 6 rfl) ?_
                refine lv_iconst (v := 2) hx hb dX10_leastBy_80 (by decide) ?_
                refine lv_icmp_ge (tgt := 150) hx hb dX10_leastBy_81 (by decide) (fun c_81 => ?_) (fun c_81 => ?_)
                · replace h := (if_pos c_81).symm.trans h
                  exact hX78 _ _ _  _ _ _ h hP hD hS (lv_sub hl [0, 1, 2, 3, 4] rfl)
                · replace h := (if_neg c_81).symm.trans h
                  refine lv_aload_n hx hb dX10_leastBy_84 rfl (lv_at hl 0 rfl) ?_
                  refine lv_iload_n hx hb dX10_leastBy_85 rfl (lv_at hl 1 rfl) ?_
                  refine lv_iload hx hb dX10_leastBy_86 (lv_at hl 5 rfl) ?_
                  refine lv_iload hx hb dX10_leastBy_88 (lv_at hl 6 rfl) ?_
                  refine lv_iload_n hx hb dX10_leastBy_90 rfl (lv_at hl 2 rfl) ?_
                  refine lv_ishl hx hb dX10_leastBy_91 ?_
                  obtain ⟨r_92, hc_92, h⟩ := ob1_e h
                  refine k_si (va_runV (As := [.int v1, .int (m_queue_42 v4_42.toNatClampNeg), .int (v6_78 <<< (v2 &&& (31 : Int32)))]) (rest := []) ⟨hx, hb, hml, hown, hts⟩ (c_X10_next l G m_h m_q m_onBy m_toldBy m_kindsOf m_nextOf m_holdsAt m_made m_standsFor m_madeNext m_madeHolds m_stateFor m_joined m_joinedNow m_firstIn m_orderOf m_classAt m_sets m_waysTo m_waysThen m_queue_78 m_leastTo_78 v1 (m_queue_42 v4_42.toNatClampNeg) (v6_78 <<< (v2 &&& (31 : Int32))) r_92 hc_92) (cwV 3 hts gX10_leastBy_X10_next rfl rfl rfl ⟨rfl, eX10_next⟩ ⟨Nat.le_of_ble_eq_true rfl, Nat.le_of_ble_eq_true rfl⟩) (preSV (ci := 10) (q0 := 0) hK hP rfl rfl) rfl rfl hl.1 rfl (lv_room (Nat.le_of_ble_eq_true rfl)) dX10_leastBy_92 ⟨Nat.le_of_ble_eq_true rfl, Nat.le_of_ble_eq_true rfl⟩) ?_
                  refine lv_istore (lv' := [(7, .int r_92), (0, .ref m_h), (1, .int v1), (2, .int v2), (3, .int v3_78), (4, .int v4_42), (5, .int (m_queue_42 v4_42.toNatClampNeg)), (6, .int v6_78)]) hx hb dX10_leastBy_95 hl (by decide) rfl (fun ls hl => ?_)
                  refine lv_aload_n hx hb dX10_leastBy_97 rfl (lv_at hl 1 rfl) ?_
                  refine va_get (D := G.1) (ci := 10) (v := .ref (m_q 18)) (C := RX10) (T := TX10) (N := 20) hx hb hts hinX10 hown hK.1 hP 0 rfl rfl 19 (by decide) hf66 (fun _ h9 => h9) rfl dX10_leastBy_98 ?_
                  refine lv_iload hx hb dX10_leastBy_101 (lv_at hl 0 rfl) ?_
                  obtain ⟨g_103, h⟩ := gi_e h
                  refine va_lald hx hb hK.1 hP 19 2 rfl rfl g_103 dX10_leastBy_103 ?_
                  refine lv_ldc2 (v := -9) hx hb hown (hts (.constantLong RX10 169 (-9)) (by decide +kernel)) dX10_leastBy_104 ?_
                  refine W.lcmp hx hb dX10_leastBy_107 ?_
                  obtain ⟨v3_j108, m_queue_j108, m_leastTo_j108, hT108, h⟩ := ob3_e h
                  have hJ108 : ∀ (v3_j108x : Int32) (m_queue_j108x : AI) (m_leastTo_j108x : AL)  (H : Heap) (locs : List Loc) (ls : Array Slot), some (v3_j108x, m_queue_j108x, m_leastTo_j108x) = some (v3_j108, m_queue_j108, m_leastTo_j108) → va_P G.1 vwCl (WM G m_h m_q m_onBy m_toldBy m_kindsOf m_nextOf m_holdsAt m_made m_standsFor m_madeNext m_madeHolds m_stateFor m_joined m_joinedNow m_firstIn m_orderOf m_classAt m_sets m_waysTo m_waysThen m_queue_j108x m_leastTo_j108x) H → va_D A (WM G m_h m_q m_onBy m_toldBy m_kindsOf m_nextOf m_holdsAt m_made m_standsFor m_madeNext m_madeHolds m_stateFor m_joined m_joinedNow m_firstIn m_orderOf m_classAt m_sets m_waysTo m_waysThen m_queue_j108x m_leastTo_j108x) → va_S A s.heap H locs → lv_has ls 8 [(0, .ref m_h), (1, .int v1), (2, .int v2), (3, .int v3_j108x), (4, .int v4_42), (5, .int (m_queue_42 v4_42.toNatClampNeg)), (6, .int v6_78)] → W p l e rX10_leastBy s m args below meth c H locs 0 0 Q (F0 m 144 ls []) := by
                    intro v3_j108x m_queue_j108x m_leastTo_j108x H locs ls hq hP hD hS hl
                    obtain ⟨rfl, rfl, rfl⟩ := oi3 hq
                    refine lv_iinc (v := (v6_78 + (1 : Int32))) (lv' := [(6, .int (v6_78 + (1 : Int32))), (0, .ref m_h), (1, .int v1), (2, .int v2), (3, .int v3_j108), (4, .int v4_42), (5, .int (m_queue_42 v4_42.toNatClampNeg))]) hx hb dX10_leastBy_144 hl (k := 6) rfl rfl (by decide) rfl (fun ls hl => ?_)
                    refine lv_goto (tgt := 78) hx hb dX10_leastBy_147 (by decide) ?_
                    exact ih _ _ _ _  _ _ _ h hP hD hS (lv_sub hl [1, 2, 3, 4, 5, 6, 0] rfl)
                  replace h := hT108
                  refine lv_if_ne (tgt := 144) hx hb dX10_leastBy_108 (by decide) (fun c_108 => ?_) (fun c_108 => ?_)
                  · replace h := (if_neg c_108).symm.trans h
                    exact hJ108 _ _ _  _ _ _ h hP hD hS (lv_sub hl [1, 2, 3, 4, 5, 6, 7] rfl)
                  · replace h := (if_pos c_108).symm.trans h
                    refine lv_aload_n hx hb dX10_leastBy_111 rfl (lv_at hl 1 rfl) ?_
                    refine va_get (D := G.1) (ci := 10) (v := .ref (m_q 18)) (C := RX10) (T := TX10) (N := 20) hx hb hts hinX10 hown hK.1 hP 0 rfl rfl 19 (by decide) hf66 (fun _ h9 => h9) rfl dX10_leastBy_112 ?_
                    refine lv_iload hx hb dX10_leastBy_115 (lv_at hl 0 rfl) ?_
                    refine lv_ldc2 (v := 2) hx hb hown (hts (.constantLong RX10 171 (2)) (by decide +kernel)) dX10_leastBy_117 ?_
                    refine lv_aload_n hx hb dX10_leastBy_120 rfl (lv_at hl 1 rfl) ?_
                    refine va_get (D := G.1) (ci := 10) (v := .ref (m_q 18)) (C := RX10) (T := TX10) (N := 20) hx hb hts hinX10 hown hK.1 hP 0 rfl rfl 19 (by decide) hf66 (fun _ h9 => h9) rfl dX10_leastBy_121 ?_
                    refine lv_iload hx hb dX10_leastBy_124 (lv_at hl 6 rfl) ?_
                    obtain ⟨g_126, h⟩ := gi_e h
                    refine va_lald hx hb hK.1 hP 19 2 rfl rfl g_126 dX10_leastBy_126 ?_
                    refine lv_lmul hx hb dX10_leastBy_127 ?_
                    refine lv_iload hx hb dX10_leastBy_128 (lv_at hl 7 rfl) ?_
                    refine lv_i2l (v := v6_78.toInt64) hx hb dX10_leastBy_130 rfl ?_
                    refine lv_ladd hx hb dX10_leastBy_131 ?_
                    obtain ⟨g_132, h⟩ := gi_e h
                    refine va_last hx hb hK.1 hP hD hS 19 2 rfl rfl g_132 dX10_leastBy_132 (fun H locs hP hD hS => ?_)
                    have hP : va_P G.1 vwCl (WM G m_h m_q m_onBy m_toldBy m_kindsOf m_nextOf m_holdsAt m_made m_standsFor m_madeNext m_madeHolds m_stateFor m_joined m_joinedNow m_firstIn m_orderOf m_classAt m_sets m_waysTo m_waysThen m_queue_78 (vp_updL m_leastTo_78 r_92.toNatClampNeg (((2 : Int64) * (m_leastTo_78 (m_queue_42 v4_42.toNatClampNeg).toNatClampNeg)) + v6_78.toInt64))) H := hP
                    have hD : va_D A (WM G m_h m_q m_onBy m_toldBy m_kindsOf m_nextOf m_holdsAt m_made m_standsFor m_madeNext m_madeHolds m_stateFor m_joined m_joinedNow m_firstIn m_orderOf m_classAt m_sets m_waysTo m_waysThen m_queue_78 (vp_updL m_leastTo_78 r_92.toNatClampNeg (((2 : Int64) * (m_leastTo_78 (m_queue_42 v4_42.toNatClampNeg).toNatClampNeg)) + v6_78.toInt64))) := hD
                    refine lv_aload_n hx hb dX10_leastBy_133 rfl (lv_at hl 1 rfl) ?_
                    refine va_get (D := G.1) (ci := 10) (v := .ref (m_q 17)) (C := RX10) (T := TX10) (N := 20) hx hb hts hinX10 hown hK.1 hP 0 rfl rfl 18 (by decide) hf63 (fun _ h9 => h9) rfl dX10_leastBy_134 ?_
                    refine lv_iload_n hx hb dX10_leastBy_137 rfl (lv_at hl 4 rfl) ?_
                    refine lv_iload hx hb dX10_leastBy_138 (lv_at hl 0 rfl) ?_
                    obtain ⟨g_140, h⟩ := gi_e h
                    refine va_iast hx hb hK.1 hP hD hS 18 0 rfl rfl g_140 dX10_leastBy_140 (fun H locs hP hD hS => ?_)
                    have hP : va_P G.1 vwCl (WM G m_h m_q m_onBy m_toldBy m_kindsOf m_nextOf m_holdsAt m_made m_standsFor m_madeNext m_madeHolds m_stateFor m_joined m_joinedNow m_firstIn m_orderOf m_classAt m_sets m_waysTo m_waysThen (upd m_queue_78 v3_78.toNatClampNeg r_92) (vp_updL m_leastTo_78 r_92.toNatClampNeg (((2 : Int64) * (m_leastTo_78 (m_queue_42 v4_42.toNatClampNeg).toNatClampNeg)) + v6_78.toInt64))) H := hP
                    have hD : va_D A (WM G m_h m_q m_onBy m_toldBy m_kindsOf m_nextOf m_holdsAt m_made m_standsFor m_madeNext m_madeHolds m_stateFor m_joined m_joinedNow m_firstIn m_orderOf m_classAt m_sets m_waysTo m_waysThen (upd m_queue_78 v3_78.toNatClampNeg r_92) (vp_updL m_leastTo_78 r_92.toNatClampNeg (((2 : Int64) * (m_leastTo_78 (m_queue_42 v4_42.toNatClampNeg).toNatClampNeg)) + v6_78.toInt64))) := hD
                    refine lv_iinc (v := (v3_78 + (1 : Int32))) (lv' := [(3, .int (v3_78 + (1 : Int32))), (7, .int r_92), (0, .ref m_h), (1, .int v1), (2, .int v2), (4, .int v4_42), (5, .int (m_queue_42 v4_42.toNatClampNeg)), (6, .int v6_78)]) hx hb dX10_leastBy_141 hl (k := 4) rfl rfl (by decide) rfl (fun ls hl => ?_)
                    exact hJ108 _ _ _  _ _ _ h hP hD hS (lv_sub hl [2, 3, 4, 0, 5, 6, 7] rfl)
            exact hL78 n _ _ _ _  _ _ _ hT78 hP hD hS (lv_sub hl [2, 3, 4, 5, 6, 1, 0] rfl)
          · replace h := (if_neg c_64).symm.trans h
            refine lv_aload_n hx hb dX10_leastBy_67 rfl (lv_at hl 1 rfl) ?_
            refine va_get (D := G.1) (ci := 10) (v := .ref (m_q 18)) (C := RX10) (T := TX10) (N := 20) hx hb hts hinX10 hown hK.1 hP 0 rfl rfl 19 (by decide) hf66 (fun _ h9 => h9) rfl dX10_leastBy_68 ?_
            refine lv_iload hx hb dX10_leastBy_71 (lv_at hl 0 rfl) ?_
            obtain ⟨g_73, h⟩ := gi_e h
            refine va_lald hx hb hK.1 hP 19 2 rfl rfl g_73 dX10_leastBy_73 ?_
            rcases hd42 with ⟨x, hx1, h2⟩ | ⟨_, _, hx1, _⟩
            · rw [hx1] at h
              have hx2 := oiL h
              rw [hx2] at h2
              replace h := h2
              obtain ⟨rfl, rfl, rfl⟩ := oi3 h
              exact hret (fun _ => 0) _ _ _ _ _ _ _ dX10_leastBy_74 rfl hP hD hS (Nat.le_of_ble_eq_true rfl) (Nat.le_of_ble_eq_true rfl)
            · rw [hx1] at h; cases h
    exact hL42 n _ _ _ _  _ _ _ hT42 hP hD hS (lv_sub hl [2, 3, 4, 1, 0] rfl)
  have hL2 : ∀ (f : Nat) (v3_2 : Int32) (m_leastTo_2 : AL)  (H : Heap) (locs : List Loc) (ls : Array Slot), p_X10_leastBy_L2 f v3_2 m_leastTo_2 = some m_leastTo_o2 → va_P G.1 vwCl (WM G m_h m_q m_onBy m_toldBy m_kindsOf m_nextOf m_holdsAt m_made m_standsFor m_madeNext m_madeHolds m_stateFor m_joined m_joinedNow m_firstIn m_orderOf m_classAt m_sets m_waysTo m_waysThen m_queue m_leastTo_2) H → va_D A (WM G m_h m_q m_onBy m_toldBy m_kindsOf m_nextOf m_holdsAt m_made m_standsFor m_madeNext m_madeHolds m_stateFor m_joined m_joinedNow m_firstIn m_orderOf m_classAt m_sets m_waysTo m_waysThen m_queue m_leastTo_2) → va_S A s.heap H locs → lv_has ls 8 [(0, .ref m_h), (1, .int v1), (2, .int v2), (3, .int v3_2)] → W p l e rX10_leastBy s m args below meth c H locs 0 0 Q (F0 m 2 ls []) := by
    intro f
    induction f with
    | zero => intro v3_2 m_leastTo_2 H locs ls h hP hD hS hl; cases (show none = some _ from h)
    | succ f ih =>
      intro v3_2 m_leastTo_2 H locs ls h hP hD hS hl
      rw [p_X10_leastBy_L2] at h
      refine lv_iload_n hx hb dX10_leastBy_2 rfl (lv_at hl 3 rfl) ?_
      refine lv_bipush (v := 60) hx hb dX10_leastBy_3 (by decide) ?_
      refine lv_icmp_ge (tgt := 23) hx hb dX10_leastBy_5 (by decide) (fun c_5 => ?_) (fun c_5 => ?_)
      · replace h := (if_pos c_5).symm.trans h
        exact hX2 _  _ _ _ h hP hD hS (lv_sub hl [0, 1, 2] rfl)
      · replace h := (if_neg c_5).symm.trans h
        refine lv_aload_n hx hb dX10_leastBy_8 rfl (lv_at hl 0 rfl) ?_
        refine va_get (D := G.1) (ci := 10) (v := .ref (m_q 18)) (C := RX10) (T := TX10) (N := 20) hx hb hts hinX10 hown hK.1 hP 0 rfl rfl 19 (by decide) hf66 (fun _ h9 => h9) rfl dX10_leastBy_9 ?_
        refine lv_iload_n hx hb dX10_leastBy_12 rfl (lv_at hl 3 rfl) ?_
        refine lv_ldc2 (v := -9) hx hb hown (hts (.constantLong RX10 169 (-9)) (by decide +kernel)) dX10_leastBy_13 ?_
        obtain ⟨g_16, h⟩ := gi_e h
        refine va_last hx hb hK.1 hP hD hS 19 2 rfl rfl g_16 dX10_leastBy_16 (fun H locs hP hD hS => ?_)
        have hP : va_P G.1 vwCl (WM G m_h m_q m_onBy m_toldBy m_kindsOf m_nextOf m_holdsAt m_made m_standsFor m_madeNext m_madeHolds m_stateFor m_joined m_joinedNow m_firstIn m_orderOf m_classAt m_sets m_waysTo m_waysThen m_queue (vp_updL m_leastTo_2 v3_2.toNatClampNeg (-9 : Int64))) H := hP
        have hD : va_D A (WM G m_h m_q m_onBy m_toldBy m_kindsOf m_nextOf m_holdsAt m_made m_standsFor m_madeNext m_madeHolds m_stateFor m_joined m_joinedNow m_firstIn m_orderOf m_classAt m_sets m_waysTo m_waysThen m_queue (vp_updL m_leastTo_2 v3_2.toNatClampNeg (-9 : Int64))) := hD
        refine lv_iinc (v := (v3_2 + (1 : Int32))) (lv' := [(3, .int (v3_2 + (1 : Int32))), (0, .ref m_h), (1, .int v1), (2, .int v2)]) hx hb dX10_leastBy_17 hl (k := 3) rfl rfl (by decide) rfl (fun ls hl => ?_)
        refine lv_goto (tgt := 2) hx hb dX10_leastBy_20 (by decide) ?_
        exact ih _ _  _ _ _ h hP hD hS (lv_sub hl [1, 2, 3, 0] rfl)
  exact hL2 n _ _  _ _ _ hT2 hP hD hS (lv_sub hl [1, 2, 3, 0] rfl)
abbrev rX10_least : Room := { frames := 5, cells := 0, slots := 0, locals := 127 }
set_option maxHeartbeats 4000000 in
set_option maxRecDepth 100000 in
theorem c_X10_least (l : Launch) (G : GG) (n : Nat) (m_h : Nat) (m_q : Nat → Nat) (m_onBy : AI) (m_toldBy : AI) (m_kindsOf : AI) (m_nextOf : AI) (m_holdsAt : AI) (m_made : Int32) (m_standsFor : AI) (m_madeNext : AI) (m_madeHolds : AI) (m_stateFor : AI) (m_joined : AI) (m_joinedNow : AI) (m_firstIn : AI) (m_orderOf : AI) (m_classAt : AI) (m_sets : AL) (m_waysTo : AL) (m_waysThen : AL) (m_queue : AI) (m_leastTo : AL) (v1 : Int32) (v2 : Int32) (sz : Nat) (r : Int32) (m_kindsOf_z : AI) (m_nextOf_z : AI) (m_holdsAt_z : AI) (m_made_z : Int32) (m_madeNext_z : AI) (m_madeHolds_z : AI) (m_joined_z : AI) (m_joinedNow_z : AI) (m_firstIn_z : AI) (m_orderOf_z : AI) (m_classAt_z : AI) (m_sets_z : AL) (m_queue_z : AI) (m_leastTo_z : AL) (h : p_X10_least n m_kindsOf m_nextOf m_holdsAt m_made m_madeNext m_madeHolds m_joined m_joinedNow m_firstIn m_orderOf m_classAt m_sets m_queue m_leastTo v1 v2 = some (r, m_kindsOf_z, m_nextOf_z, m_holdsAt_z, m_made_z, m_madeNext_z, m_madeHolds_z, m_joined_z, m_joinedNow_z, m_firstIn_z, m_orderOf_z, m_classAt_z, m_sets_z, m_queue_z, m_leastTo_z)) : CI l yX10_least wsX10_least rX10_least G [.ref m_h, .int v1, .int v2] (WM G m_h m_q m_onBy m_toldBy m_kindsOf m_nextOf m_holdsAt m_made m_standsFor m_madeNext m_madeHolds m_stateFor m_joined m_joinedNow m_firstIn m_orderOf m_classAt m_sets m_waysTo m_waysThen m_queue m_leastTo) sz r (fun u => WM G m_h m_q m_onBy m_toldBy m_kindsOf_z m_nextOf_z m_holdsAt_z m_made_z m_standsFor m_madeNext_z m_madeHolds_z m_stateFor m_joined_z m_joinedNow_z m_firstIn_z m_orderOf_z m_classAt_z m_sets_z m_waysTo m_waysThen m_queue_z m_leastTo_z) := by
  refine enterCI (cc := cX10_least) (maxL := 7) (by decide) rfl (Nat.le_of_ble_eq_true rfl) ?_
  intro p e s m args below meth c A Q hx hb hml hown hts hK hP hD hS hA hret ls hl
  have hown : s.vm.findClass RX10 = some m.cls := hown
  have hl : lv_has ls 7 [(0, .ref m_h), (1, .int v1), (2, .int v2)] := hl
  unfold p_X10_least at h
  refine lv_iload_n hx hb dX10_least_0 rfl (lv_at hl 1 rfl) ?_
  obtain ⟨r_1, hc_1, h⟩ := ob1_e h
  refine k_si (va_runS (As := [.int v1]) (rest := []) ⟨hx, hb, hml, hown, hts⟩ (c_X10_isClaim l G   v1 r_1 hc_1) (va_cwS 1 hts gX10_least_X10_isClaim rfl rfl rfl eX10_isClaim ⟨Nat.le_of_ble_eq_true rfl, Nat.le_of_ble_eq_true rfl⟩) (preSS hK (fun k q h => by cases h)) rfl rfl hl.1 rfl (lv_room (Nat.le_of_ble_eq_true rfl)) dX10_least_1 ⟨Nat.le_of_ble_eq_true rfl, Nat.le_of_ble_eq_true rfl⟩) ?_
  refine lv_if_eq (tgt := 14) hx hb dX10_least_4 (by decide) (fun c_4 => ?_) (fun c_4 => ?_)
  · replace h := (if_pos c_4).symm.trans h
    refine lv_iconst (v := -1) hx hb dX10_least_14 (by decide) ?_
    obtain ⟨rfl, rfl, rfl, rfl, rfl, rfl, rfl, rfl, rfl, rfl, rfl, rfl, rfl, rfl, rfl⟩ := oi15 h
    exact hret (fun _ => 0) _ _ _ _ _ _ _ dX10_least_15 rfl rfl hP hD hS (Nat.le_of_ble_eq_true rfl) (Nat.le_of_ble_eq_true rfl)
  · replace h := (if_neg c_4).symm.trans h
    refine lv_iload_n hx hb dX10_least_7 rfl (lv_at hl 2 rfl) ?_
    obtain ⟨r_8, hc_8, h⟩ := ob1_e h
    refine k_si (va_runS (As := [.int v2]) (rest := []) ⟨hx, hb, hml, hown, hts⟩ (c_X10_isNumber l G   v2 r_8 hc_8) (va_cwS 1 hts gX10_least_X10_isNumber rfl rfl rfl eX10_isNumber ⟨Nat.le_of_ble_eq_true rfl, Nat.le_of_ble_eq_true rfl⟩) (preSS hK (fun k q h => by cases h)) rfl rfl hl.1 rfl (lv_room (Nat.le_of_ble_eq_true rfl)) dX10_least_8 ⟨Nat.le_of_ble_eq_true rfl, Nat.le_of_ble_eq_true rfl⟩) ?_
    refine lv_if_ne (tgt := 16) hx hb dX10_least_11 (by decide) (fun c_11 => ?_) (fun c_11 => ?_)
    · replace h := (if_neg c_11).symm.trans h
      refine lv_aload_n hx hb dX10_least_16 rfl (lv_at hl 0 rfl) ?_
      refine lv_iload_n hx hb dX10_least_17 rfl (lv_at hl 1 rfl) ?_
      obtain ⟨r_18, hc_18, h⟩ := ob1_e h
      refine k_si (va_runV (As := [.int v1]) (rest := []) ⟨hx, hb, hml, hown, hts⟩ (c_X10_isThere l G m_h m_q m_onBy m_toldBy m_kindsOf m_nextOf m_holdsAt m_made m_standsFor m_madeNext m_madeHolds m_stateFor m_joined m_joinedNow m_firstIn m_orderOf m_classAt m_sets m_waysTo m_waysThen m_queue m_leastTo v1 r_18 hc_18) (cwV 1 hts gX10_least_X10_isThere rfl rfl rfl ⟨rfl, eX10_isThere⟩ ⟨Nat.le_of_ble_eq_true rfl, Nat.le_of_ble_eq_true rfl⟩) (preSV (ci := 10) (q0 := 0) hK hP rfl rfl) rfl rfl hl.1 rfl (lv_room (Nat.le_of_ble_eq_true rfl)) dX10_least_18 ⟨Nat.le_of_ble_eq_true rfl, Nat.le_of_ble_eq_true rfl⟩) ?_
      refine lv_if_ne (tgt := 27) hx hb dX10_least_21 (by decide) (fun c_21 => ?_) (fun c_21 => ?_)
      · replace h := (if_neg c_21).symm.trans h
        refine lv_iload_n hx hb dX10_least_27 rfl (lv_at hl 2 rfl) ?_
        obtain ⟨j0_28, hT28, h⟩ := ob1_e h
        have hJ28 : ∀ (j0_28x : Int32)  (H : Heap) (locs : List Loc) (ls : Array Slot), some j0_28x = some j0_28 → va_P G.1 vwCl (WM G m_h m_q m_onBy m_toldBy m_kindsOf m_nextOf m_holdsAt m_made m_standsFor m_madeNext m_madeHolds m_stateFor m_joined m_joinedNow m_firstIn m_orderOf m_classAt m_sets m_waysTo m_waysThen m_queue m_leastTo) H → va_D A (WM G m_h m_q m_onBy m_toldBy m_kindsOf m_nextOf m_holdsAt m_made m_standsFor m_madeNext m_madeHolds m_stateFor m_joined m_joinedNow m_firstIn m_orderOf m_classAt m_sets m_waysTo m_waysThen m_queue m_leastTo) → va_S A s.heap H locs → lv_has ls 7 [(0, .ref m_h), (1, .int v1), (2, .int v2)] → W p l e rX10_least s m args below meth c H locs 0 0 Q (F0 m 36 ls [.int j0_28x]) := by
          intro j0_28x H locs ls hq hP hD hS hl
          obtain rfl := oi1 hq
          refine lv_istore_n (lv' := [(3, .int j0_28), (0, .ref m_h), (1, .int v1), (2, .int v2)]) hx hb dX10_least_36 rfl hl (by decide) rfl (fun ls hl => ?_)
          refine lv_iload_n hx hb dX10_least_37 rfl (lv_at hl 3 rfl) ?_
          refine lv_iconst (v := 2) hx hb dX10_least_38 (by decide) ?_
          obtain ⟨j0_39, hT39, h⟩ := ob1_e h
          have hJ39 : ∀ (j0_39x : Int32)  (H : Heap) (locs : List Loc) (ls : Array Slot), some j0_39x = some j0_39 → va_P G.1 vwCl (WM G m_h m_q m_onBy m_toldBy m_kindsOf m_nextOf m_holdsAt m_made m_standsFor m_madeNext m_madeHolds m_stateFor m_joined m_joinedNow m_firstIn m_orderOf m_classAt m_sets m_waysTo m_waysThen m_queue m_leastTo) H → va_D A (WM G m_h m_q m_onBy m_toldBy m_kindsOf m_nextOf m_holdsAt m_made m_standsFor m_madeNext m_madeHolds m_stateFor m_joined m_joinedNow m_firstIn m_orderOf m_classAt m_sets m_waysTo m_waysThen m_queue m_leastTo) → va_S A s.heap H locs → lv_has ls 7 [(0, .ref m_h), (1, .int v1), (2, .int v2), (3, .int j0_28)] → W p l e rX10_least s m args below meth c H locs 0 0 Q (F0 m 47 ls [.int j0_39x]) := by
            intro j0_39x H locs ls hq hP hD hS hl
            obtain rfl := oi1 hq
            refine lv_istore (lv' := [(4, .int j0_39), (0, .ref m_h), (1, .int v1), (2, .int v2), (3, .int j0_28)]) hx hb dX10_least_47 hl (by decide) rfl (fun ls hl => ?_)
            refine lv_aload_n hx hb dX10_least_49 rfl (lv_at hl 1 rfl) ?_
            refine lv_bipush (v := 6) hx hb dX10_least_50 (by decide) ?_
            refine lv_iload_n hx hb dX10_least_52 rfl (lv_at hl 2 rfl) ?_
            refine lv_iload_n hx hb dX10_least_53 rfl (lv_at hl 4 rfl) ?_
            refine lv_iconst (v := 0) hx hb dX10_least_54 (by decide) ?_
            obtain ⟨r_55, m_kindsOf_55, m_nextOf_55, m_holdsAt_55, m_made_55, m_madeNext_55, m_madeHolds_55, m_joined_55, m_joinedNow_55, m_firstIn_55, m_orderOf_55, m_classAt_55, m_sets_55, hc_55, h⟩ := ob13_e h
            refine k_ciA (va_runV (As := [.int (6 : Int32), .int v1, .int j0_28, .int (0 : Int32)]) (rest := []) ⟨hx, hb, hml, hown, hts⟩ (c_X10_quantifies l G n m_h m_q m_onBy m_toldBy m_kindsOf m_nextOf m_holdsAt m_made m_standsFor m_madeNext m_madeHolds m_stateFor m_joined m_joinedNow m_firstIn m_orderOf m_classAt m_sets m_waysTo m_waysThen m_queue m_leastTo (6 : Int32) v1 j0_28 (0 : Int32) _ r_55 m_kindsOf_55 m_nextOf_55 m_holdsAt_55 m_made_55 m_madeNext_55 m_madeHolds_55 m_joined_55 m_joinedNow_55 m_firstIn_55 m_orderOf_55 m_classAt_55 m_sets_55 hc_55) (cwV 4 hts gX10_least_X10_quantifies rfl rfl rfl ⟨rfl, eX10_quantifies⟩ ⟨Nat.le_of_ble_eq_true rfl, Nat.le_of_ble_eq_true rfl⟩) (preWV (ci := 10) (q0 := 0) hK hP hD rfl rfl) rfl rfl hl.1 rfl (lv_room (Nat.le_of_ble_eq_true rfl)) dX10_least_55 ⟨Nat.le_of_ble_eq_true rfl, Nat.le_of_ble_eq_true rfl⟩) hD hS hA (fun u_55 H locs hP hD hS => ?_)
            have hP : va_P G.1 vwCl (WM G m_h m_q m_onBy m_toldBy m_kindsOf_55 m_nextOf_55 m_holdsAt_55 m_made_55 m_standsFor m_madeNext_55 m_madeHolds_55 m_stateFor m_joined_55 m_joinedNow_55 m_firstIn_55 m_orderOf_55 m_classAt_55 m_sets_55 m_waysTo m_waysThen m_queue m_leastTo) H := hP
            have hD : va_D A (WM G m_h m_q m_onBy m_toldBy m_kindsOf_55 m_nextOf_55 m_holdsAt_55 m_made_55 m_standsFor m_madeNext_55 m_madeHolds_55 m_stateFor m_joined_55 m_joinedNow_55 m_firstIn_55 m_orderOf_55 m_classAt_55 m_sets_55 m_waysTo m_waysThen m_queue m_leastTo) := hD
            refine lv_bipush (v := -6) hx hb dX10_least_58 (by decide) ?_
            refine lv_icmp_eq (tgt := 79) hx hb dX10_least_60 (by decide) (fun c_60 => ?_) (fun c_60 => ?_)
            · replace h := (if_pos c_60).symm.trans h
              refine lv_bipush (v := -6) hx hb dX10_least_79 (by decide) ?_
              obtain ⟨rfl, rfl, rfl, rfl, rfl, rfl, rfl, rfl, rfl, rfl, rfl, rfl, rfl, rfl, rfl⟩ := oi15 h
              exact hret (fun _ => 0) _ _ _ _ _ _ _ dX10_least_81 rfl rfl hP hD hS (Nat.le_of_ble_eq_true rfl) (Nat.le_of_ble_eq_true rfl)
            · replace h := (if_neg c_60).symm.trans h
              refine lv_aload_n hx hb dX10_least_63 rfl (lv_at hl 1 rfl) ?_
              refine lv_bipush (v := 7) hx hb dX10_least_64 (by decide) ?_
              refine lv_bipush (v := 6) hx hb dX10_least_66 (by decide) ?_
              refine lv_iload hx hb dX10_least_68 (lv_at hl 0 rfl) ?_
              refine lv_iconst (v := 0) hx hb dX10_least_70 (by decide) ?_
              obtain ⟨r_71, m_kindsOf_71, m_nextOf_71, m_holdsAt_71, m_made_71, m_madeNext_71, m_madeHolds_71, m_joined_71, m_joinedNow_71, m_firstIn_71, m_orderOf_71, m_classAt_71, m_sets_71, hc_71, h⟩ := ob13_e h
              refine k_ciA (va_runV (As := [.int (7 : Int32), .int (6 : Int32), .int j0_39, .int (0 : Int32)]) (rest := []) ⟨hx, hb, hml, hown, hts⟩ (c_X10_quantifies l G n m_h m_q m_onBy m_toldBy m_kindsOf_55 m_nextOf_55 m_holdsAt_55 m_made_55 m_standsFor m_madeNext_55 m_madeHolds_55 m_stateFor m_joined_55 m_joinedNow_55 m_firstIn_55 m_orderOf_55 m_classAt_55 m_sets_55 m_waysTo m_waysThen m_queue m_leastTo (7 : Int32) (6 : Int32) j0_39 (0 : Int32) _ r_71 m_kindsOf_71 m_nextOf_71 m_holdsAt_71 m_made_71 m_madeNext_71 m_madeHolds_71 m_joined_71 m_joinedNow_71 m_firstIn_71 m_orderOf_71 m_classAt_71 m_sets_71 hc_71) (cwV 4 hts gX10_least_X10_quantifies rfl rfl rfl ⟨rfl, eX10_quantifies⟩ ⟨Nat.le_of_ble_eq_true rfl, Nat.le_of_ble_eq_true rfl⟩) (preWV (ci := 10) (q0 := 0) hK hP hD rfl rfl) rfl rfl hl.1 rfl (lv_room (Nat.le_of_ble_eq_true rfl)) dX10_least_71 ⟨Nat.le_of_ble_eq_true rfl, Nat.le_of_ble_eq_true rfl⟩) hD hS hA (fun u_71 H locs hP hD hS => ?_)
              have hP : va_P G.1 vwCl (WM G m_h m_q m_onBy m_toldBy m_kindsOf_71 m_nextOf_71 m_holdsAt_71 m_made_71 m_standsFor m_madeNext_71 m_madeHolds_71 m_stateFor m_joined_71 m_joinedNow_71 m_firstIn_71 m_orderOf_71 m_classAt_71 m_sets_71 m_waysTo m_waysThen m_queue m_leastTo) H := hP
              have hD : va_D A (WM G m_h m_q m_onBy m_toldBy m_kindsOf_71 m_nextOf_71 m_holdsAt_71 m_made_71 m_standsFor m_madeNext_71 m_madeHolds_71 m_stateFor m_joined_71 m_joinedNow_71 m_firstIn_71 m_orderOf_71 m_classAt_71 m_sets_71 m_waysTo m_waysThen m_queue m_leastTo) := hD
              refine lv_bipush (v := -6) hx hb dX10_least_74 (by decide) ?_
              refine lv_icmp_ne (tgt := 82) hx hb dX10_least_76 (by decide) (fun c_76 => ?_) (fun c_76 => ?_)
              · replace h := (if_neg c_76).symm.trans h
                refine lv_aload_n hx hb dX10_least_82 rfl (lv_at hl 1 rfl) ?_
                refine lv_bipush (v := 7) hx hb dX10_least_83 (by decide) ?_
                refine lv_iload_n hx hb dX10_least_85 rfl (lv_at hl 3 rfl) ?_
                obtain ⟨r_86, m_queue_86, m_leastTo_86, hc_86, h⟩ := ob3_e h
                refine k_clA (va_runV (As := [.int (7 : Int32), .int v2]) (rest := []) ⟨hx, hb, hml, hown, hts⟩ (c_X10_leastBy l G n m_h m_q m_onBy m_toldBy m_kindsOf_71 m_nextOf_71 m_holdsAt_71 m_made_71 m_standsFor m_madeNext_71 m_madeHolds_71 m_stateFor m_joined_71 m_joinedNow_71 m_firstIn_71 m_orderOf_71 m_classAt_71 m_sets_71 m_waysTo m_waysThen m_queue m_leastTo (7 : Int32) v2 _ r_86 m_queue_86 m_leastTo_86 hc_86) (cwV 2 hts gX10_least_X10_leastBy rfl rfl rfl ⟨rfl, eX10_leastBy⟩ ⟨Nat.le_of_ble_eq_true rfl, Nat.le_of_ble_eq_true rfl⟩) (preWV (ci := 10) (q0 := 0) hK hP hD rfl rfl) rfl rfl hl.1 rfl (lv_room (Nat.le_of_ble_eq_true rfl)) dX10_least_86 ⟨Nat.le_of_ble_eq_true rfl, Nat.le_of_ble_eq_true rfl⟩) hD hS hA (fun u_86 H locs hP hD hS => ?_)
                have hP : va_P G.1 vwCl (WM G m_h m_q m_onBy m_toldBy m_kindsOf_71 m_nextOf_71 m_holdsAt_71 m_made_71 m_standsFor m_madeNext_71 m_madeHolds_71 m_stateFor m_joined_71 m_joinedNow_71 m_firstIn_71 m_orderOf_71 m_classAt_71 m_sets_71 m_waysTo m_waysThen m_queue_86 m_leastTo_86) H := hP
                have hD : va_D A (WM G m_h m_q m_onBy m_toldBy m_kindsOf_71 m_nextOf_71 m_holdsAt_71 m_made_71 m_standsFor m_madeNext_71 m_madeHolds_71 m_stateFor m_joined_71 m_joinedNow_71 m_firstIn_71 m_orderOf_71 m_classAt_71 m_sets_71 m_waysTo m_waysThen m_queue_86 m_leastTo_86) := hD
                refine lv_lstore (lv' := [(5, .long r_86), (4, .int j0_39), (0, .ref m_h), (1, .int v1), (2, .int v2), (3, .int j0_28)]) hx hb dX10_least_89 hl (by decide) rfl (fun ls hl => ?_)
                refine lv_lload hx hb dX10_least_91 (lv_at hl 0 rfl) ?_
                refine lv_ldc2 (v := 1000000000) hx hb hown (hts (.constantLong RX10 177 (1000000000)) (by decide +kernel)) dX10_least_93 ?_
                refine W.lcmp hx hb dX10_least_96 ?_
                refine lv_if_le (tgt := 105) hx hb dX10_least_97 (by decide) (fun c_97 => ?_) (fun c_97 => ?_)
                · replace h := (if_pos c_97).symm.trans h
                  refine lv_lload hx hb dX10_least_105 (lv_at hl 0 rfl) ?_
                  refine lv_l2i (v := r_86.toInt32) hx hb dX10_least_107 rfl ?_
                  obtain ⟨rfl, rfl, rfl, rfl, rfl, rfl, rfl, rfl, rfl, rfl, rfl, rfl, rfl, rfl, rfl⟩ := oi15 h
                  exact hret (fun _ => 0) _ _ _ _ _ _ _ dX10_least_108 rfl rfl hP hD hS (Nat.le_of_ble_eq_true rfl) (Nat.le_of_ble_eq_true rfl)
                · replace h := (if_neg c_97).symm.trans h
                  refine lv_bipush (v := -5) hx hb dX10_least_100 (by decide) ?_
                  refine lv_goto (tgt := 108) hx hb dX10_least_102 (by decide) ?_
                  obtain ⟨rfl, rfl, rfl, rfl, rfl, rfl, rfl, rfl, rfl, rfl, rfl, rfl, rfl, rfl, rfl⟩ := oi15 h
                  exact hret (fun _ => 0) _ _ _ _ _ _ _ dX10_least_108 rfl rfl hP hD hS (Nat.le_of_ble_eq_true rfl) (Nat.le_of_ble_eq_true rfl)
              · replace h := (if_pos c_76).symm.trans h
                refine lv_bipush (v := -6) hx hb dX10_least_79 (by decide) ?_
                obtain ⟨rfl, rfl, rfl, rfl, rfl, rfl, rfl, rfl, rfl, rfl, rfl, rfl, rfl, rfl, rfl⟩ := oi15 h
                exact hret (fun _ => 0) _ _ _ _ _ _ _ dX10_least_81 rfl rfl hP hD hS (Nat.le_of_ble_eq_true rfl) (Nat.le_of_ble_eq_true rfl)
          replace h := hT39
          refine lv_icmp_ne (tgt := 46) hx hb dX10_least_39 (by decide) (fun c_39 => ?_) (fun c_39 => ?_)
          · replace h := (if_neg c_39).symm.trans h
            refine lv_iconst (v := 2) hx hb dX10_least_46 (by decide) ?_
            exact hJ39 _  _ _ _ h hP hD hS (lv_sub hl [1, 2, 3, 0] rfl)
          · replace h := (if_pos c_39).symm.trans h
            refine lv_iconst (v := 1) hx hb dX10_least_42 (by decide) ?_
            refine lv_goto (tgt := 47) hx hb dX10_least_43 (by decide) ?_
            exact hJ39 _  _ _ _ h hP hD hS (lv_sub hl [1, 2, 3, 0] rfl)
        replace h := hT28
        refine lv_if_ne (tgt := 35) hx hb dX10_least_28 (by decide) (fun c_28 => ?_) (fun c_28 => ?_)
        · replace h := (if_neg c_28).symm.trans h
          refine lv_iconst (v := 0) hx hb dX10_least_35 (by decide) ?_
          exact hJ28 _  _ _ _ h hP hD hS (lv_sub hl [0, 1, 2] rfl)
        · replace h := (if_pos c_28).symm.trans h
          refine lv_iconst (v := 1) hx hb dX10_least_31 (by decide) ?_
          refine lv_goto (tgt := 36) hx hb dX10_least_32 (by decide) ?_
          exact hJ28 _  _ _ _ h hP hD hS (lv_sub hl [0, 1, 2] rfl)
      · replace h := (if_pos c_21).symm.trans h
        refine lv_bipush (v := -3) hx hb dX10_least_24 (by decide) ?_
        obtain ⟨rfl, rfl, rfl, rfl, rfl, rfl, rfl, rfl, rfl, rfl, rfl, rfl, rfl, rfl, rfl⟩ := oi15 h
        exact hret (fun _ => 0) _ _ _ _ _ _ _ dX10_least_26 rfl rfl hP hD hS (Nat.le_of_ble_eq_true rfl) (Nat.le_of_ble_eq_true rfl)
    · replace h := (if_pos c_11).symm.trans h
      refine lv_iconst (v := -1) hx hb dX10_least_14 (by decide) ?_
      obtain ⟨rfl, rfl, rfl, rfl, rfl, rfl, rfl, rfl, rfl, rfl, rfl, rfl, rfl, rfl, rfl⟩ := oi15 h
      exact hret (fun _ => 0) _ _ _ _ _ _ _ dX10_least_15 rfl rfl hP hD hS (Nat.le_of_ble_eq_true rfl) (Nat.le_of_ble_eq_true rfl)
abbrev rX10_same : Room := { frames := 2, cells := 0, slots := 0, locals := 42 }
set_option maxHeartbeats 4000000 in
set_option maxRecDepth 100000 in
theorem c_X10_same (l : Launch) (G : GG) (n : Nat) (m_h : Nat) (m_q : Nat → Nat) (m_onBy : AI) (m_toldBy : AI) (m_kindsOf : AI) (m_nextOf : AI) (m_holdsAt : AI) (m_made : Int32) (m_standsFor : AI) (m_madeNext : AI) (m_madeHolds : AI) (m_stateFor : AI) (m_joined : AI) (m_joinedNow : AI) (m_firstIn : AI) (m_orderOf : AI) (m_classAt : AI) (m_sets : AL) (m_waysTo : AL) (m_waysThen : AL) (m_queue : AI) (m_leastTo : AL) (v1 : Int32) (v2 : Int32) (r : Int32) (h : p_X10_same n m_kindsOf m_nextOf m_holdsAt v1 v2 = some r) : SI l yX10_same wsX10_same rX10_same G [.ref m_h, .int v1, .int v2] (WM G m_h m_q m_onBy m_toldBy m_kindsOf m_nextOf m_holdsAt m_made m_standsFor m_madeNext m_madeHolds m_stateFor m_joined m_joinedNow m_firstIn m_orderOf m_classAt m_sets m_waysTo m_waysThen m_queue m_leastTo) r := by
  refine enterSI (cc := cX10_same) (maxL := 6) (by decide) rfl (Nat.le_of_ble_eq_true rfl) ?_
  intro p e s m args below meth c Q hx hb hml hown hts hK hP hret ls hl
  have hown : s.vm.findClass RX10 = some m.cls := hown
  have hf16 := hts (.fieldLink RX10 16 "DigitClaimsModel" "kindsOf" "[I") (by decide +kernel)
  have hinX10 : ∀ w ∈ wsX100, w ∈ wsX10_same := by decide +kernel
  have hl : lv_has ls 6 [(0, .ref m_h), (1, .int v1), (2, .int v2)] := hl
  unfold p_X10_same at h
  refine lv_iload_n hx hb dX10_same_0 rfl (lv_at hl 1 rfl) ?_
  obtain ⟨r_1, hc_1, h⟩ := ob1_e h
  refine k_si (va_runS (As := [.int v1]) (rest := []) ⟨hx, hb, hml, hown, hts⟩ (c_X10_isClaim l G   v1 r_1 hc_1) (va_cwS 1 hts gX10_same_X10_isClaim rfl rfl rfl eX10_isClaim ⟨Nat.le_of_ble_eq_true rfl, Nat.le_of_ble_eq_true rfl⟩) (preSS hK (fun k q h => by cases h)) rfl rfl hl.1 rfl (lv_room (Nat.le_of_ble_eq_true rfl)) dX10_same_1 ⟨Nat.le_of_ble_eq_true rfl, Nat.le_of_ble_eq_true rfl⟩) ?_
  refine lv_if_eq (tgt := 14) hx hb dX10_same_4 (by decide) (fun c_4 => ?_) (fun c_4 => ?_)
  · replace h := (if_pos c_4).symm.trans h
    refine lv_iconst (v := -1) hx hb dX10_same_14 (by decide) ?_
    obtain rfl := oi1 h
    exact hret _ _ _ dX10_same_15 rfl rfl
  · replace h := (if_neg c_4).symm.trans h
    refine lv_iload_n hx hb dX10_same_7 rfl (lv_at hl 2 rfl) ?_
    obtain ⟨r_8, hc_8, h⟩ := ob1_e h
    refine k_si (va_runS (As := [.int v2]) (rest := []) ⟨hx, hb, hml, hown, hts⟩ (c_X10_isClaim l G   v2 r_8 hc_8) (va_cwS 1 hts gX10_same_X10_isClaim rfl rfl rfl eX10_isClaim ⟨Nat.le_of_ble_eq_true rfl, Nat.le_of_ble_eq_true rfl⟩) (preSS hK (fun k q h => by cases h)) rfl rfl hl.1 rfl (lv_room (Nat.le_of_ble_eq_true rfl)) dX10_same_8 ⟨Nat.le_of_ble_eq_true rfl, Nat.le_of_ble_eq_true rfl⟩) ?_
    refine lv_if_ne (tgt := 16) hx hb dX10_same_11 (by decide) (fun c_11 => ?_) (fun c_11 => ?_)
    · replace h := (if_neg c_11).symm.trans h
      refine lv_aload_n hx hb dX10_same_16 rfl (lv_at hl 0 rfl) ?_
      refine lv_iload_n hx hb dX10_same_17 rfl (lv_at hl 1 rfl) ?_
      obtain ⟨r_18, hc_18, h⟩ := ob1_e h
      refine k_si (va_runV (As := [.int v1]) (rest := []) ⟨hx, hb, hml, hown, hts⟩ (c_X10_isThere l G m_h m_q m_onBy m_toldBy m_kindsOf m_nextOf m_holdsAt m_made m_standsFor m_madeNext m_madeHolds m_stateFor m_joined m_joinedNow m_firstIn m_orderOf m_classAt m_sets m_waysTo m_waysThen m_queue m_leastTo v1 r_18 hc_18) (cwV 1 hts gX10_same_X10_isThere rfl rfl rfl ⟨rfl, eX10_isThere⟩ ⟨Nat.le_of_ble_eq_true rfl, Nat.le_of_ble_eq_true rfl⟩) (preSV (ci := 10) (q0 := 0) hK hP rfl rfl) rfl rfl hl.1 rfl (lv_room (Nat.le_of_ble_eq_true rfl)) dX10_same_18 ⟨Nat.le_of_ble_eq_true rfl, Nat.le_of_ble_eq_true rfl⟩) ?_
      refine lv_if_eq (tgt := 32) hx hb dX10_same_21 (by decide) (fun c_21 => ?_) (fun c_21 => ?_)
      · replace h := (if_pos c_21).symm.trans h
        refine lv_bipush (v := -3) hx hb dX10_same_32 (by decide) ?_
        obtain rfl := oi1 h
        exact hret _ _ _ dX10_same_34 rfl rfl
      · replace h := (if_neg c_21).symm.trans h
        refine lv_aload_n hx hb dX10_same_24 rfl (lv_at hl 0 rfl) ?_
        refine lv_iload_n hx hb dX10_same_25 rfl (lv_at hl 2 rfl) ?_
        obtain ⟨r_26, hc_26, h⟩ := ob1_e h
        refine k_si (va_runV (As := [.int v2]) (rest := []) ⟨hx, hb, hml, hown, hts⟩ (c_X10_isThere l G m_h m_q m_onBy m_toldBy m_kindsOf m_nextOf m_holdsAt m_made m_standsFor m_madeNext m_madeHolds m_stateFor m_joined m_joinedNow m_firstIn m_orderOf m_classAt m_sets m_waysTo m_waysThen m_queue m_leastTo v2 r_26 hc_26) (cwV 1 hts gX10_same_X10_isThere rfl rfl rfl ⟨rfl, eX10_isThere⟩ ⟨Nat.le_of_ble_eq_true rfl, Nat.le_of_ble_eq_true rfl⟩) (preSV (ci := 10) (q0 := 0) hK hP rfl rfl) rfl rfl hl.1 rfl (lv_room (Nat.le_of_ble_eq_true rfl)) dX10_same_26 ⟨Nat.le_of_ble_eq_true rfl, Nat.le_of_ble_eq_true rfl⟩) ?_
        refine lv_if_ne (tgt := 35) hx hb dX10_same_29 (by decide) (fun c_29 => ?_) (fun c_29 => ?_)
        · replace h := (if_neg c_29).symm.trans h
          refine lv_aload_n hx hb dX10_same_35 rfl (lv_at hl 0 rfl) ?_
          refine va_get (D := G.1) (ci := 10) (v := .ref (m_q 2)) (C := RX10) (T := TX10) (N := 20) hx hb hts hinX10 hown hK.1 hP 0 rfl rfl 2 (by decide) hf16 (fun _ h9 => h9) rfl dX10_same_36 ?_
          refine lv_iload_n hx hb dX10_same_39 rfl (lv_at hl 1 rfl) ?_
          obtain ⟨g_40, h⟩ := gi_e h
          refine va_iald hx hb hK.1 hP 3 0 rfl rfl g_40 dX10_same_40 ?_
          refine lv_aload_n hx hb dX10_same_41 rfl (lv_at hl 0 rfl) ?_
          refine va_get (D := G.1) (ci := 10) (v := .ref (m_q 2)) (C := RX10) (T := TX10) (N := 20) hx hb hts hinX10 hown hK.1 hP 0 rfl rfl 2 (by decide) hf16 (fun _ h9 => h9) rfl dX10_same_42 ?_
          refine lv_iload_n hx hb dX10_same_45 rfl (lv_at hl 2 rfl) ?_
          obtain ⟨g_46, h⟩ := gi_e h
          refine va_iald hx hb hK.1 hP 3 0 rfl rfl g_46 dX10_same_46 ?_
          obtain ⟨j0_47, hT47, h⟩ := ob1_e h
          have hJ47 : ∀ (j0_47x : Int32)  (ls : Array Slot), some j0_47x = some j0_47 → lv_has ls 6 [(0, .ref m_h), (1, .int v1), (2, .int v2)] → W p l e rX10_same s m args below meth c s.heap [] 0 0 Q (F0 m 55 ls [.int j0_47x]) := by
            intro j0_47x ls hq hl
            obtain rfl := oi1 hq
            refine lv_istore_n (lv' := [(3, .int j0_47), (0, .ref m_h), (1, .int v1), (2, .int v2)]) hx hb dX10_same_55 rfl hl (by decide) rfl (fun ls hl => ?_)
            refine lv_iconst (v := 0) hx hb dX10_same_56 (by decide) ?_
            refine lv_istore (lv' := [(4, .int (0 : Int32)), (3, .int j0_47), (0, .ref m_h), (1, .int v1), (2, .int v2)]) hx hb dX10_same_57 hl (by decide) rfl (fun ls hl => ?_)
            obtain ⟨o3_59, hT59, h⟩ := ob1_e h
            have hX59 : ∀ (x3_59 : Int32)  (ls : Array Slot), some x3_59 = some o3_59 → lv_has ls 6 [(3, .int x3_59)] → W p l e rX10_same s m args below meth c s.heap [] 0 0 Q (F0 m 150 ls []) := by
              intro x3_59 ls hq hl
              obtain rfl := oi1 hq
              refine lv_iload_n hx hb dX10_same_150 rfl (lv_at hl 0 rfl) ?_
              refine lv_if_eq (tgt := 158) hx hb dX10_same_151 (by decide) (fun c_151 => ?_) (fun c_151 => ?_)
              · replace h := (if_pos c_151).symm.trans h
                refine lv_iconst (v := 0) hx hb dX10_same_158 (by decide) ?_
                obtain rfl := oi1 h
                exact hret _ _ _ dX10_same_159 rfl rfl
              · replace h := (if_neg c_151).symm.trans h
                refine lv_iconst (v := 1) hx hb dX10_same_154 (by decide) ?_
                refine lv_goto (tgt := 159) hx hb dX10_same_155 (by decide) ?_
                obtain rfl := oi1 h
                exact hret _ _ _ dX10_same_159 rfl rfl
            have hL59 : ∀ (f : Nat) (v3_59 : Int32) (v4_59 : Int32)  (ls : Array Slot), p_X10_same_L59 n v1 m_kindsOf m_holdsAt v2 m_nextOf f v3_59 v4_59 = some o3_59 → lv_has ls 6 [(0, .ref m_h), (1, .int v1), (2, .int v2), (3, .int v3_59), (4, .int v4_59)] → W p l e rX10_same s m args below meth c s.heap [] 0 0 Q (F0 m 59 ls []) := by
              intro f
              induction f with
              | zero => intro v3_59 v4_59 ls h hl; cases (show none = some _ from h)
              | succ f ih =>
                intro v3_59 v4_59 ls h hl
                rw [p_X10_same_L59] at h
                refine lv_iload hx hb dX10_same_59 (lv_at hl 4 rfl) ?_
                refine lv_aload_n hx hb dX10_same_61 rfl (lv_at hl 0 rfl) ?_
                refine va_get (D := G.1) (ci := 10) (v := .ref (m_q 2)) (C := RX10) (T := TX10) (N := 20) hx hb hts hinX10 hown hK.1 hP 0 rfl rfl 2 (by decide) hf16 (fun _ h9 => h9) rfl dX10_same_62 ?_
                refine lv_iload_n hx hb dX10_same_65 rfl (lv_at hl 1 rfl) ?_
                obtain ⟨g_66, h⟩ := gi_e h
                refine va_iald hx hb hK.1 hP 3 0 rfl rfl g_66 dX10_same_66 ?_
                refine lv_icmp_ge (tgt := 150) hx hb dX10_same_67 (by decide) (fun c_67 => ?_) (fun c_67 => ?_)
                · replace h := (if_pos c_67).symm.trans h
                  exact hX59 _  _ h (lv_sub hl [3] rfl)
                · replace h := (if_neg c_67).symm.trans h
                  refine lv_iload_n hx hb dX10_same_70 rfl (lv_at hl 3 rfl) ?_
                  refine lv_if_eq (tgt := 150) hx hb dX10_same_71 (by decide) (fun c_71 => ?_) (fun c_71 => ?_)
                  · replace h := (if_pos c_71).symm.trans h
                    exact hX59 _  _ h (lv_sub hl [3] rfl)
                  · replace h := (if_neg c_71).symm.trans h
                    refine lv_aload_n hx hb dX10_same_74 rfl (lv_at hl 0 rfl) ?_
                    refine lv_iload_n hx hb dX10_same_75 rfl (lv_at hl 1 rfl) ?_
                    refine lv_iload hx hb dX10_same_76 (lv_at hl 4 rfl) ?_
                    obtain ⟨r_78, hc_78, h⟩ := ob1_e h
                    refine k_si (va_runV (As := [.int v1, .int v4_59]) (rest := []) ⟨hx, hb, hml, hown, hts⟩ (c_X10_holdsIn l G m_h m_q m_onBy m_toldBy m_kindsOf m_nextOf m_holdsAt m_made m_standsFor m_madeNext m_madeHolds m_stateFor m_joined m_joinedNow m_firstIn m_orderOf m_classAt m_sets m_waysTo m_waysThen m_queue m_leastTo v1 v4_59 r_78 hc_78) (cwV 2 hts gX10_same_X10_holdsIn rfl rfl rfl ⟨rfl, eX10_holdsIn⟩ ⟨Nat.le_of_ble_eq_true rfl, Nat.le_of_ble_eq_true rfl⟩) (preSV (ci := 10) (q0 := 0) hK hP rfl rfl) rfl rfl hl.1 rfl (lv_room (Nat.le_of_ble_eq_true rfl)) dX10_same_78 ⟨Nat.le_of_ble_eq_true rfl, Nat.le_of_ble_eq_true rfl⟩) ?_
                    refine lv_aload_n hx hb dX10_same_81 rfl (lv_at hl 0 rfl) ?_
                    refine lv_iload_n hx hb dX10_same_82 rfl (lv_at hl 2 rfl) ?_
                    refine lv_iload hx hb dX10_same_83 (lv_at hl 4 rfl) ?_
                    obtain ⟨r_85, hc_85, h⟩ := ob1_e h
                    refine k_si (va_runV (As := [.int v2, .int v4_59]) (rest := [.int r_78]) ⟨hx, hb, hml, hown, hts⟩ (c_X10_holdsIn l G m_h m_q m_onBy m_toldBy m_kindsOf m_nextOf m_holdsAt m_made m_standsFor m_madeNext m_madeHolds m_stateFor m_joined m_joinedNow m_firstIn m_orderOf m_classAt m_sets m_waysTo m_waysThen m_queue m_leastTo v2 v4_59 r_85 hc_85) (cwV 2 hts gX10_same_X10_holdsIn rfl rfl rfl ⟨rfl, eX10_holdsIn⟩ ⟨Nat.le_of_ble_eq_true rfl, Nat.le_of_ble_eq_true rfl⟩) (preSV (ci := 10) (q0 := 0) hK hP rfl rfl) rfl rfl hl.1 rfl (lv_room (Nat.le_of_ble_eq_true rfl)) dX10_same_85 ⟨Nat.le_of_ble_eq_true rfl, Nat.le_of_ble_eq_true rfl⟩) ?_
                    obtain ⟨j0_88, hT88, h⟩ := ob1_e h
                    have hJ88 : ∀ (j0_88x : Int32)  (ls : Array Slot), some j0_88x = some j0_88 → lv_has ls 6 [(0, .ref m_h), (1, .int v1), (2, .int v2), (4, .int v4_59)] → W p l e rX10_same s m args below meth c s.heap [] 0 0 Q (F0 m 96 ls [.int j0_88x]) := by
                      intro j0_88x ls hq hl
                      obtain rfl := oi1 hq
                      refine lv_istore_n (lv' := [(3, .int j0_88), (0, .ref m_h), (1, .int v1), (2, .int v2), (4, .int v4_59)]) hx hb dX10_same_96 rfl hl (by decide) rfl (fun ls hl => ?_)
                      refine lv_iconst (v := 0) hx hb dX10_same_97 (by decide) ?_
                      refine lv_istore (lv' := [(5, .int (0 : Int32)), (3, .int j0_88), (0, .ref m_h), (1, .int v1), (2, .int v2), (4, .int v4_59)]) hx hb dX10_same_98 hl (by decide) rfl (fun ls hl => ?_)
                      obtain ⟨o3_100, hT100, h⟩ := ob1_e h
                      have hX100 : ∀ (x3_100 : Int32)  (ls : Array Slot), some x3_100 = some o3_100 → lv_has ls 6 [(0, .ref m_h), (1, .int v1), (2, .int v2), (3, .int x3_100), (4, .int v4_59)] → W p l e rX10_same s m args below meth c s.heap [] 0 0 Q (F0 m 144 ls []) := by
                        intro x3_100 ls hq hl
                        obtain rfl := oi1 hq
                        refine lv_iinc (v := (v4_59 + (1 : Int32))) (lv' := [(4, .int (v4_59 + (1 : Int32))), (0, .ref m_h), (1, .int v1), (2, .int v2), (3, .int o3_100)]) hx hb dX10_same_144 hl (k := 4) rfl rfl (by decide) rfl (fun ls hl => ?_)
                        refine lv_goto (tgt := 59) hx hb dX10_same_147 (by decide) ?_
                        exact ih _ _  _ h (lv_sub hl [1, 2, 3, 4, 0] rfl)
                      have hL100 : ∀ (f : Nat) (v3_100 : Int32) (v5_100 : Int32)  (ls : Array Slot), p_X10_same_L100 m_nextOf v1 v4_59 v2 f v3_100 v5_100 = some o3_100 → lv_has ls 6 [(0, .ref m_h), (1, .int v1), (2, .int v2), (3, .int v3_100), (4, .int v4_59), (5, .int v5_100)] → W p l e rX10_same s m args below meth c s.heap [] 0 0 Q (F0 m 100 ls []) := by
                        intro f
                        induction f with
                        | zero => intro v3_100 v5_100 ls h hl; cases (show none = some _ from h)
                        | succ f ih =>
                          intro v3_100 v5_100 ls h hl
                          rw [p_X10_same_L100] at h
                          refine lv_iload hx hb dX10_same_100 (lv_at hl 5 rfl) ?_
                          refine lv_bipush (v := 8) hx hb dX10_same_102 (by decide) ?_
                          refine lv_icmp_ge (tgt := 144) hx hb dX10_same_104 (by decide) (fun c_104 => ?_) (fun c_104 => ?_)
                          · replace h := (if_pos c_104).symm.trans h
                            exact hX100 _  _ h (lv_sub hl [0, 1, 2, 3, 4] rfl)
                          · replace h := (if_neg c_104).symm.trans h
                            refine lv_iload_n hx hb dX10_same_107 rfl (lv_at hl 3 rfl) ?_
                            obtain ⟨j0_108, hT108, h⟩ := ob1_e h
                            have hJ108 : ∀ (j0_108x : Int32)  (ls : Array Slot), some j0_108x = some j0_108 → lv_has ls 6 [(0, .ref m_h), (1, .int v1), (2, .int v2), (4, .int v4_59), (5, .int v5_100)] → W p l e rX10_same s m args below meth c s.heap [] 0 0 Q (F0 m 137 ls [.int j0_108x]) := by
                              intro j0_108x ls hq hl
                              obtain rfl := oi1 hq
                              refine lv_istore_n (lv' := [(3, .int j0_108), (0, .ref m_h), (1, .int v1), (2, .int v2), (4, .int v4_59), (5, .int v5_100)]) hx hb dX10_same_137 rfl hl (by decide) rfl (fun ls hl => ?_)
                              refine lv_iinc (v := (v5_100 + (1 : Int32))) (lv' := [(5, .int (v5_100 + (1 : Int32))), (3, .int j0_108), (0, .ref m_h), (1, .int v1), (2, .int v2), (4, .int v4_59)]) hx hb dX10_same_138 hl (k := 5) rfl rfl (by decide) rfl (fun ls hl => ?_)
                              refine lv_goto (tgt := 100) hx hb dX10_same_141 (by decide) ?_
                              exact ih _ _  _ h (lv_sub hl [2, 3, 4, 1, 5, 0] rfl)
                            replace h := hT108
                            refine lv_if_eq (tgt := 136) hx hb dX10_same_108 (by decide) (fun c_108 => ?_) (fun c_108 => ?_)
                            · replace h := (if_pos c_108).symm.trans h
                              refine lv_iconst (v := 0) hx hb dX10_same_136 (by decide) ?_
                              exact hJ108 _  _ h (lv_sub hl [0, 1, 2, 4, 5] rfl)
                            · replace h := (if_neg c_108).symm.trans h
                              refine lv_aload_n hx hb dX10_same_111 rfl (lv_at hl 0 rfl) ?_
                              refine lv_iload_n hx hb dX10_same_112 rfl (lv_at hl 1 rfl) ?_
                              refine lv_iload hx hb dX10_same_113 (lv_at hl 4 rfl) ?_
                              refine lv_iload hx hb dX10_same_115 (lv_at hl 5 rfl) ?_
                              obtain ⟨r_117, hc_117, h⟩ := ob1_e h
                              refine k_si (va_runV (As := [.int v1, .int v4_59, .int v5_100]) (rest := []) ⟨hx, hb, hml, hown, hts⟩ (c_X10_next l G m_h m_q m_onBy m_toldBy m_kindsOf m_nextOf m_holdsAt m_made m_standsFor m_madeNext m_madeHolds m_stateFor m_joined m_joinedNow m_firstIn m_orderOf m_classAt m_sets m_waysTo m_waysThen m_queue m_leastTo v1 v4_59 v5_100 r_117 hc_117) (cwV 3 hts gX10_same_X10_next rfl rfl rfl ⟨rfl, eX10_next⟩ ⟨Nat.le_of_ble_eq_true rfl, Nat.le_of_ble_eq_true rfl⟩) (preSV (ci := 10) (q0 := 0) hK hP rfl rfl) rfl rfl hl.1 rfl (lv_room (Nat.le_of_ble_eq_true rfl)) dX10_same_117 ⟨Nat.le_of_ble_eq_true rfl, Nat.le_of_ble_eq_true rfl⟩) ?_
                              refine lv_aload_n hx hb dX10_same_120 rfl (lv_at hl 0 rfl) ?_
                              refine lv_iload_n hx hb dX10_same_121 rfl (lv_at hl 2 rfl) ?_
                              refine lv_iload hx hb dX10_same_122 (lv_at hl 4 rfl) ?_
                              refine lv_iload hx hb dX10_same_124 (lv_at hl 5 rfl) ?_
                              obtain ⟨r_126, hc_126, h⟩ := ob1_e h
                              refine k_si (va_runV (As := [.int v2, .int v4_59, .int v5_100]) (rest := [.int r_117]) ⟨hx, hb, hml, hown, hts⟩ (c_X10_next l G m_h m_q m_onBy m_toldBy m_kindsOf m_nextOf m_holdsAt m_made m_standsFor m_madeNext m_madeHolds m_stateFor m_joined m_joinedNow m_firstIn m_orderOf m_classAt m_sets m_waysTo m_waysThen m_queue m_leastTo v2 v4_59 v5_100 r_126 hc_126) (cwV 3 hts gX10_same_X10_next rfl rfl rfl ⟨rfl, eX10_next⟩ ⟨Nat.le_of_ble_eq_true rfl, Nat.le_of_ble_eq_true rfl⟩) (preSV (ci := 10) (q0 := 0) hK hP rfl rfl) rfl rfl hl.1 rfl (lv_room (Nat.le_of_ble_eq_true rfl)) dX10_same_126 ⟨Nat.le_of_ble_eq_true rfl, Nat.le_of_ble_eq_true rfl⟩) ?_
                              refine lv_icmp_ne (tgt := 136) hx hb dX10_same_129 (by decide) (fun c_129 => ?_) (fun c_129 => ?_)
                              · replace h := (if_neg c_129).symm.trans h
                                refine lv_iconst (v := 0) hx hb dX10_same_136 (by decide) ?_
                                exact hJ108 _  _ h (lv_sub hl [0, 1, 2, 4, 5] rfl)
                              · replace h := (if_pos c_129).symm.trans h
                                refine lv_iconst (v := 1) hx hb dX10_same_132 (by decide) ?_
                                refine lv_goto (tgt := 137) hx hb dX10_same_133 (by decide) ?_
                                exact hJ108 _  _ h (lv_sub hl [0, 1, 2, 4, 5] rfl)
                      exact hL100 n _ _  _ hT100 (lv_sub hl [2, 3, 4, 1, 5, 0] rfl)
                    replace h := hT88
                    refine lv_icmp_ne (tgt := 95) hx hb dX10_same_88 (by decide) (fun c_88 => ?_) (fun c_88 => ?_)
                    · replace h := (if_neg c_88).symm.trans h
                      refine lv_iconst (v := 0) hx hb dX10_same_95 (by decide) ?_
                      exact hJ88 _  _ h (lv_sub hl [0, 1, 2, 4] rfl)
                    · replace h := (if_pos c_88).symm.trans h
                      refine lv_iconst (v := 1) hx hb dX10_same_91 (by decide) ?_
                      refine lv_goto (tgt := 96) hx hb dX10_same_92 (by decide) ?_
                      exact hJ88 _  _ h (lv_sub hl [0, 1, 2, 4] rfl)
            exact hL59 n _ _  _ hT59 (lv_sub hl [2, 3, 4, 1, 0] rfl)
          replace h := hT47
          refine lv_icmp_ne (tgt := 54) hx hb dX10_same_47 (by decide) (fun c_47 => ?_) (fun c_47 => ?_)
          · replace h := (if_neg c_47).symm.trans h
            refine lv_iconst (v := 0) hx hb dX10_same_54 (by decide) ?_
            exact hJ47 _  _ h (lv_sub hl [0, 1, 2] rfl)
          · replace h := (if_pos c_47).symm.trans h
            refine lv_iconst (v := 1) hx hb dX10_same_50 (by decide) ?_
            refine lv_goto (tgt := 55) hx hb dX10_same_51 (by decide) ?_
            exact hJ47 _  _ h (lv_sub hl [0, 1, 2] rfl)
        · replace h := (if_pos c_29).symm.trans h
          refine lv_bipush (v := -3) hx hb dX10_same_32 (by decide) ?_
          obtain rfl := oi1 h
          exact hret _ _ _ dX10_same_34 rfl rfl
    · replace h := (if_pos c_11).symm.trans h
      refine lv_iconst (v := -1) hx hb dX10_same_14 (by decide) ?_
      obtain rfl := oi1 h
      exact hret _ _ _ dX10_same_15 rfl rfl
abbrev rX10_drop : Room := { frames := 2, cells := 0, slots := 0, locals := 42 }
set_option maxHeartbeats 4000000 in
set_option maxRecDepth 100000 in
theorem c_X10_drop (l : Launch) (G : GG) (m_h : Nat) (m_q : Nat → Nat) (m_onBy : AI) (m_toldBy : AI) (m_kindsOf : AI) (m_nextOf : AI) (m_holdsAt : AI) (m_made : Int32) (m_standsFor : AI) (m_madeNext : AI) (m_madeHolds : AI) (m_stateFor : AI) (m_joined : AI) (m_joinedNow : AI) (m_firstIn : AI) (m_orderOf : AI) (m_classAt : AI) (m_sets : AL) (m_waysTo : AL) (m_waysThen : AL) (m_queue : AI) (m_leastTo : AL) (v1 : Int32) (sz : Nat) (r : Int32) (m_kindsOf_z : AI) (h : p_X10_drop m_kindsOf v1 = some (r, m_kindsOf_z)) : CI l yX10_drop wsX10_drop rX10_drop G [.ref m_h, .int v1] (WM G m_h m_q m_onBy m_toldBy m_kindsOf m_nextOf m_holdsAt m_made m_standsFor m_madeNext m_madeHolds m_stateFor m_joined m_joinedNow m_firstIn m_orderOf m_classAt m_sets m_waysTo m_waysThen m_queue m_leastTo) sz r (fun u => WM G m_h m_q m_onBy m_toldBy m_kindsOf_z m_nextOf m_holdsAt m_made m_standsFor m_madeNext m_madeHolds m_stateFor m_joined m_joinedNow m_firstIn m_orderOf m_classAt m_sets m_waysTo m_waysThen m_queue m_leastTo) := by
  refine enterCI (cc := cX10_drop) (maxL := 3) (by decide) rfl (Nat.le_of_ble_eq_true rfl) ?_
  intro p e s m args below meth c A Q hx hb hml hown hts hK hP hD hS hA hret ls hl
  have hown : s.vm.findClass RX10 = some m.cls := hown
  have hf16 := hts (.fieldLink RX10 16 "DigitClaimsModel" "kindsOf" "[I") (by decide +kernel)
  have hinX10 : ∀ w ∈ wsX100, w ∈ wsX10_drop := by decide +kernel
  have hl : lv_has ls 3 [(0, .ref m_h), (1, .int v1)] := hl
  unfold p_X10_drop at h
  refine lv_iload_n hx hb dX10_drop_0 rfl (lv_at hl 1 rfl) ?_
  obtain ⟨r_1, hc_1, h⟩ := ob1_e h
  refine k_si (va_runS (As := [.int v1]) (rest := []) ⟨hx, hb, hml, hown, hts⟩ (c_X10_isClaim l G   v1 r_1 hc_1) (va_cwS 1 hts gX10_drop_X10_isClaim rfl rfl rfl eX10_isClaim ⟨Nat.le_of_ble_eq_true rfl, Nat.le_of_ble_eq_true rfl⟩) (preSS hK (fun k q h => by cases h)) rfl rfl hl.1 rfl (lv_room (Nat.le_of_ble_eq_true rfl)) dX10_drop_1 ⟨Nat.le_of_ble_eq_true rfl, Nat.le_of_ble_eq_true rfl⟩) ?_
  refine lv_if_ne (tgt := 9) hx hb dX10_drop_4 (by decide) (fun c_4 => ?_) (fun c_4 => ?_)
  · replace h := (if_neg c_4).symm.trans h
    refine lv_aload_n hx hb dX10_drop_9 rfl (lv_at hl 0 rfl) ?_
    refine lv_iload_n hx hb dX10_drop_10 rfl (lv_at hl 1 rfl) ?_
    obtain ⟨r_11, hc_11, h⟩ := ob1_e h
    refine k_si (va_runV (As := [.int v1]) (rest := []) ⟨hx, hb, hml, hown, hts⟩ (c_X10_isThere l G m_h m_q m_onBy m_toldBy m_kindsOf m_nextOf m_holdsAt m_made m_standsFor m_madeNext m_madeHolds m_stateFor m_joined m_joinedNow m_firstIn m_orderOf m_classAt m_sets m_waysTo m_waysThen m_queue m_leastTo v1 r_11 hc_11) (cwV 1 hts gX10_drop_X10_isThere rfl rfl rfl ⟨rfl, eX10_isThere⟩ ⟨Nat.le_of_ble_eq_true rfl, Nat.le_of_ble_eq_true rfl⟩) (preSV (ci := 10) (q0 := 0) hK hP rfl rfl) rfl rfl hl.1 rfl (lv_room (Nat.le_of_ble_eq_true rfl)) dX10_drop_11 ⟨Nat.le_of_ble_eq_true rfl, Nat.le_of_ble_eq_true rfl⟩) ?_
    refine lv_if_ne (tgt := 20) hx hb dX10_drop_14 (by decide) (fun c_14 => ?_) (fun c_14 => ?_)
    · replace h := (if_neg c_14).symm.trans h
      refine lv_aload_n hx hb dX10_drop_20 rfl (lv_at hl 0 rfl) ?_
      refine va_get (D := G.1) (ci := 10) (v := .ref (m_q 2)) (C := RX10) (T := TX10) (N := 20) hx hb hts hinX10 hown hK.1 hP 0 rfl rfl 2 (by decide) hf16 (fun _ h9 => h9) rfl dX10_drop_21 ?_
      refine lv_iload_n hx hb dX10_drop_24 rfl (lv_at hl 1 rfl) ?_
      obtain ⟨g_25, h⟩ := gi_e h
      refine va_iald hx hb hK.1 hP 3 0 rfl rfl g_25 dX10_drop_25 ?_
      refine lv_istore_n (lv' := [(2, .int (m_kindsOf v1.toNatClampNeg)), (0, .ref m_h), (1, .int v1)]) hx hb dX10_drop_26 rfl hl (by decide) rfl (fun ls hl => ?_)
      refine lv_aload_n hx hb dX10_drop_27 rfl (lv_at hl 1 rfl) ?_
      refine va_get (D := G.1) (ci := 10) (v := .ref (m_q 2)) (C := RX10) (T := TX10) (N := 20) hx hb hts hinX10 hown hK.1 hP 0 rfl rfl 2 (by decide) hf16 (fun _ h9 => h9) rfl dX10_drop_28 ?_
      refine lv_iload_n hx hb dX10_drop_31 rfl (lv_at hl 2 rfl) ?_
      refine lv_iconst (v := 0) hx hb dX10_drop_32 (by decide) ?_
      obtain ⟨g_33, h⟩ := gi_e h
      refine va_iast hx hb hK.1 hP hD hS 3 0 rfl rfl g_33 dX10_drop_33 (fun H locs hP hD hS => ?_)
      have hP : va_P G.1 vwCl (WM G m_h m_q m_onBy m_toldBy (upd m_kindsOf v1.toNatClampNeg (0 : Int32)) m_nextOf m_holdsAt m_made m_standsFor m_madeNext m_madeHolds m_stateFor m_joined m_joinedNow m_firstIn m_orderOf m_classAt m_sets m_waysTo m_waysThen m_queue m_leastTo) H := hP
      have hD : va_D A (WM G m_h m_q m_onBy m_toldBy (upd m_kindsOf v1.toNatClampNeg (0 : Int32)) m_nextOf m_holdsAt m_made m_standsFor m_madeNext m_madeHolds m_stateFor m_joined m_joinedNow m_firstIn m_orderOf m_classAt m_sets m_waysTo m_waysThen m_queue m_leastTo) := hD
      refine lv_iload_n hx hb dX10_drop_34 rfl (lv_at hl 0 rfl) ?_
      obtain ⟨rfl, rfl⟩ := oi2 h
      exact hret (fun _ => 0) _ _ _ _ _ _ _ dX10_drop_35 rfl rfl hP hD hS (Nat.le_of_ble_eq_true rfl) (Nat.le_of_ble_eq_true rfl)
    · replace h := (if_pos c_14).symm.trans h
      refine lv_bipush (v := -3) hx hb dX10_drop_17 (by decide) ?_
      obtain ⟨rfl, rfl⟩ := oi2 h
      exact hret (fun _ => 0) _ _ _ _ _ _ _ dX10_drop_19 rfl rfl hP hD hS (Nat.le_of_ble_eq_true rfl) (Nat.le_of_ble_eq_true rfl)
  · replace h := (if_pos c_4).symm.trans h
    refine lv_iconst (v := -1) hx hb dX10_drop_7 (by decide) ?_
    obtain ⟨rfl, rfl⟩ := oi2 h
    exact hret (fun _ => 0) _ _ _ _ _ _ _ dX10_drop_8 rfl rfl hP hD hS (Nat.le_of_ble_eq_true rfl) (Nat.le_of_ble_eq_true rfl)
abbrev rX10_many : Room := { frames := 1, cells := 0, slots := 0, locals := 22 }
set_option maxHeartbeats 4000000 in
set_option maxRecDepth 100000 in
theorem c_X10_many (l : Launch) (G : GG) (n : Nat) (m_h : Nat) (m_q : Nat → Nat) (m_onBy : AI) (m_toldBy : AI) (m_kindsOf : AI) (m_nextOf : AI) (m_holdsAt : AI) (m_made : Int32) (m_standsFor : AI) (m_madeNext : AI) (m_madeHolds : AI) (m_stateFor : AI) (m_joined : AI) (m_joinedNow : AI) (m_firstIn : AI) (m_orderOf : AI) (m_classAt : AI) (m_sets : AL) (m_waysTo : AL) (m_waysThen : AL) (m_queue : AI) (m_leastTo : AL) (v1 : Int32) (r : Int32) (h : p_X10_many n m_kindsOf v1 = some r) : SI l yX10_many wsX10_many rX10_many G [.ref m_h, .int v1] (WM G m_h m_q m_onBy m_toldBy m_kindsOf m_nextOf m_holdsAt m_made m_standsFor m_madeNext m_madeHolds m_stateFor m_joined m_joinedNow m_firstIn m_orderOf m_classAt m_sets m_waysTo m_waysThen m_queue m_leastTo) r := by
  refine enterSI (cc := cX10_many) (maxL := 4) (by decide) rfl (Nat.le_of_ble_eq_true rfl) ?_
  intro p e s m args below meth c Q hx hb hml hown hts hK hP hret ls hl
  have hown : s.vm.findClass RX10 = some m.cls := hown
  have hf16 := hts (.fieldLink RX10 16 "DigitClaimsModel" "kindsOf" "[I") (by decide +kernel)
  have hinX10 : ∀ w ∈ wsX100, w ∈ wsX10_many := by decide +kernel
  have hl : lv_has ls 4 [(0, .ref m_h), (1, .int v1)] := hl
  unfold p_X10_many at h
  refine lv_iload_n hx hb dX10_many_0 rfl (lv_at hl 1 rfl) ?_
  refine lv_iconst (v := 0) hx hb dX10_many_1 (by decide) ?_
  refine lv_iconst (v := 1) hx hb dX10_many_2 (by decide) ?_
  obtain ⟨r_3, hc_3, h⟩ := ob1_e h
  refine k_si (va_runS (As := [.int v1, .int (0 : Int32), .int (1 : Int32)]) (rest := []) ⟨hx, hb, hml, hown, hts⟩ (c_X10_within l G   v1 (0 : Int32) (1 : Int32) r_3 hc_3) (va_cwS 3 hts gX10_many_X10_within rfl rfl rfl eX10_within ⟨Nat.le_of_ble_eq_true rfl, Nat.le_of_ble_eq_true rfl⟩) (preSS hK (fun k q h => by cases h)) rfl rfl hl.1 rfl (lv_room (Nat.le_of_ble_eq_true rfl)) dX10_many_3 ⟨Nat.le_of_ble_eq_true rfl, Nat.le_of_ble_eq_true rfl⟩) ?_
  refine lv_if_ne (tgt := 12) hx hb dX10_many_6 (by decide) (fun c_6 => ?_) (fun c_6 => ?_)
  · replace h := (if_neg c_6).symm.trans h
    refine lv_iconst (v := 0) hx hb dX10_many_12 (by decide) ?_
    refine lv_istore_n (lv' := [(2, .int (0 : Int32)), (0, .ref m_h), (1, .int v1)]) hx hb dX10_many_13 rfl hl (by decide) rfl (fun ls hl => ?_)
    refine lv_iconst (v := 0) hx hb dX10_many_14 (by decide) ?_
    refine lv_istore_n (lv' := [(3, .int (0 : Int32)), (2, .int (0 : Int32)), (0, .ref m_h), (1, .int v1)]) hx hb dX10_many_15 rfl hl (by decide) rfl (fun ls hl => ?_)
    obtain ⟨o2_16, hT16, h⟩ := ob1_e h
    have hX16 : ∀ (x2_16 : Int32)  (ls : Array Slot), some x2_16 = some o2_16 → lv_has ls 4 [(2, .int x2_16)] → W p l e rX10_many s m args below meth c s.heap [] 0 0 Q (F0 m 58 ls []) := by
      intro x2_16 ls hq hl
      obtain rfl := oi1 hq
      refine lv_iload_n hx hb dX10_many_58 rfl (lv_at hl 0 rfl) ?_
      obtain rfl := oi1 h
      exact hret _ _ _ dX10_many_59 rfl rfl
    have hL16 : ∀ (f : Nat) (v2_16 : Int32) (v3_16 : Int32)  (ls : Array Slot), p_X10_many_L16 v1 m_kindsOf f v2_16 v3_16 = some o2_16 → lv_has ls 4 [(0, .ref m_h), (1, .int v1), (2, .int v2_16), (3, .int v3_16)] → W p l e rX10_many s m args below meth c s.heap [] 0 0 Q (F0 m 16 ls []) := by
      intro f
      induction f with
      | zero => intro v2_16 v3_16 ls h hl; cases (show none = some _ from h)
      | succ f ih =>
        intro v2_16 v3_16 ls h hl
        rw [p_X10_many_L16] at h
        refine lv_iload_n hx hb dX10_many_16 rfl (lv_at hl 3 rfl) ?_
        refine lv_bipush (v := 6) hx hb dX10_many_17 (by decide) ?_
        refine lv_icmp_ge (tgt := 58) hx hb dX10_many_19 (by decide) (fun c_19 => ?_) (fun c_19 => ?_)
        · replace h := (if_pos c_19).symm.trans h
          exact hX16 _  _ h (lv_sub hl [2] rfl)
        · replace h := (if_neg c_19).symm.trans h
          refine lv_iload_n hx hb dX10_many_22 rfl (lv_at hl 2 rfl) ?_
          refine lv_iload_n hx hb dX10_many_23 rfl (lv_at hl 1 rfl) ?_
          refine lv_iconst (v := 1) hx hb dX10_many_24 (by decide) ?_
          obtain ⟨j0_25, hT25, h⟩ := ob1_e h
          have hJ25 : ∀ (j0_25x : Int32)  (ls : Array Slot), some j0_25x = some j0_25 → lv_has ls 4 [(0, .ref m_h), (1, .int v1), (3, .int v3_16)] → W p l e rX10_many s m args below meth c s.heap [] 0 0 Q (F0 m 50 ls [.int j0_25x, .int v2_16]) := by
            intro j0_25x ls hq hl
            obtain rfl := oi1 hq
            refine lv_iadd hx hb dX10_many_50 ?_
            refine lv_istore_n (lv' := [(2, .int (v2_16 + j0_25)), (0, .ref m_h), (1, .int v1), (3, .int v3_16)]) hx hb dX10_many_51 rfl hl (by decide) rfl (fun ls hl => ?_)
            refine lv_iinc (v := (v3_16 + (1 : Int32))) (lv' := [(3, .int (v3_16 + (1 : Int32))), (2, .int (v2_16 + j0_25)), (0, .ref m_h), (1, .int v1)]) hx hb dX10_many_52 hl (k := 3) rfl rfl (by decide) rfl (fun ls hl => ?_)
            refine lv_goto (tgt := 16) hx hb dX10_many_55 (by decide) ?_
            exact ih _ _  _ h (lv_sub hl [2, 3, 1, 0] rfl)
          replace h := hT25
          refine lv_icmp_ne (tgt := 37) hx hb dX10_many_25 (by decide) (fun c_25 => ?_) (fun c_25 => ?_)
          · replace h := (if_neg c_25).symm.trans h
            refine lv_aload_n hx hb dX10_many_37 rfl (lv_at hl 0 rfl) ?_
            refine lv_iload_n hx hb dX10_many_38 rfl (lv_at hl 3 rfl) ?_
            obtain ⟨r_39, hc_39, h⟩ := ob1_e h
            refine k_si (va_runV (As := [.int v3_16]) (rest := [.int v2_16]) ⟨hx, hb, hml, hown, hts⟩ (c_X10_isThere l G m_h m_q m_onBy m_toldBy m_kindsOf m_nextOf m_holdsAt m_made m_standsFor m_madeNext m_madeHolds m_stateFor m_joined m_joinedNow m_firstIn m_orderOf m_classAt m_sets m_waysTo m_waysThen m_queue m_leastTo v3_16 r_39 hc_39) (cwV 1 hts gX10_many_X10_isThere rfl rfl rfl ⟨rfl, eX10_isThere⟩ ⟨Nat.le_of_ble_eq_true rfl, Nat.le_of_ble_eq_true rfl⟩) (preSV (ci := 10) (q0 := 0) hK hP rfl rfl) rfl rfl hl.1 rfl (lv_room (Nat.le_of_ble_eq_true rfl)) dX10_many_39 ⟨Nat.le_of_ble_eq_true rfl, Nat.le_of_ble_eq_true rfl⟩) ?_
            refine lv_if_eq (tgt := 49) hx hb dX10_many_42 (by decide) (fun c_42 => ?_) (fun c_42 => ?_)
            · replace h := (if_pos c_42).symm.trans h
              refine lv_iconst (v := 0) hx hb dX10_many_49 (by decide) ?_
              exact hJ25 _  _ h (lv_sub hl [0, 1, 3] rfl)
            · replace h := (if_neg c_42).symm.trans h
              refine lv_iconst (v := 1) hx hb dX10_many_45 (by decide) ?_
              refine lv_goto (tgt := 50) hx hb dX10_many_46 (by decide) ?_
              exact hJ25 _  _ h (lv_sub hl [0, 1, 3] rfl)
          · replace h := (if_pos c_25).symm.trans h
            refine lv_aload_n hx hb dX10_many_28 rfl (lv_at hl 0 rfl) ?_
            refine va_get (D := G.1) (ci := 10) (v := .ref (m_q 2)) (C := RX10) (T := TX10) (N := 20) hx hb hts hinX10 hown hK.1 hP 0 rfl rfl 2 (by decide) hf16 (fun _ h9 => h9) rfl dX10_many_29 ?_
            refine lv_iload_n hx hb dX10_many_32 rfl (lv_at hl 3 rfl) ?_
            obtain ⟨g_33, h⟩ := gi_e h
            refine va_iald hx hb hK.1 hP 3 0 rfl rfl g_33 dX10_many_33 ?_
            refine lv_goto (tgt := 50) hx hb dX10_many_34 (by decide) ?_
            exact hJ25 _  _ h (lv_sub hl [0, 1, 3] rfl)
    exact hL16 n _ _  _ hT16 (lv_sub hl [2, 3, 1, 0] rfl)
  · replace h := (if_pos c_6).symm.trans h
    refine lv_bipush (v := -2) hx hb dX10_many_9 (by decide) ?_
    obtain rfl := oi1 h
    exact hret _ _ _ dX10_many_11 rfl rfl
