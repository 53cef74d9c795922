abbrev rX10_within : Room := { frames := 0, cells := 0, slots := 0, locals := 0 }
set_option maxHeartbeats 4000000 in
set_option maxRecDepth 100000 in
theorem c_X10_within (l : Launch) (G : GG)   (v0 : Int32) (v1 : Int32) (v2 : Int32) (r : Int32) (h : p_X10_within v0 v1 v2 = some r) : SI l yX10_within wsX10_within rX10_within G [.int v0, .int v1, .int v2] (([] : va_W)) r := by
  refine enterSI (cc := cX10_within) (maxL := 3) (by decide) rfl (Nat.le_of_ble_eq_true rfl) ?_
  intro p e s m args below meth c Q hx hb hml hown hts hK hP hret ls hl
  have hown : s.vm.findClass RX10 = some m.cls := hown
  have hl : lv_has ls 3 [(0, .int v0), (1, .int v1), (2, .int v2)] := hl
  unfold p_X10_within at h
  refine lv_iload_n hx hb dX10_within_0 rfl (lv_at hl 0 rfl) ?_
  refine lv_iload_n hx hb dX10_within_1 rfl (lv_at hl 1 rfl) ?_
  refine lv_icmp_lt (tgt := 14) hx hb dX10_within_2 (by decide) (fun c_2 => ?_) (fun c_2 => ?_)
  · replace h := (if_pos c_2).symm.trans h
    refine lv_iconst (v := 0) hx hb dX10_within_14 (by decide) ?_
    obtain ⟨gbv, h⟩ := gb_e h
    obtain rfl := oi1 h
    exact hret _ _ _ dX10_within_15 rfl (nb gbv)
  · replace h := (if_neg c_2).symm.trans h
    refine lv_iload_n hx hb dX10_within_5 rfl (lv_at hl 0 rfl) ?_
    refine lv_iload_n hx hb dX10_within_6 rfl (lv_at hl 2 rfl) ?_
    refine lv_icmp_gt (tgt := 14) hx hb dX10_within_7 (by decide) (fun c_7 => ?_) (fun c_7 => ?_)
    · replace h := (if_pos c_7).symm.trans h
      refine lv_iconst (v := 0) hx hb dX10_within_14 (by decide) ?_
      obtain ⟨gbv, h⟩ := gb_e h
      obtain rfl := oi1 h
      exact hret _ _ _ dX10_within_15 rfl (nb gbv)
    · replace h := (if_neg c_7).symm.trans h
      refine lv_iconst (v := 1) hx hb dX10_within_10 (by decide) ?_
      refine lv_goto (tgt := 15) hx hb dX10_within_11 (by decide) ?_
      obtain ⟨gbv, h⟩ := gb_e h
      obtain rfl := oi1 h
      exact hret _ _ _ dX10_within_15 rfl (nb gbv)
abbrev rX10_isClaim : Room := { frames := 1, cells := 0, slots := 0, locals := 22 }
set_option maxHeartbeats 4000000 in
set_option maxRecDepth 100000 in
theorem c_X10_isClaim (l : Launch) (G : GG)   (v0 : Int32) (r : Int32) (h : p_X10_isClaim v0 = some r) : SI l yX10_isClaim wsX10_isClaim rX10_isClaim G [.int v0] (([] : va_W)) r := by
  refine enterSI (cc := cX10_isClaim) (maxL := 1) (by decide) rfl (Nat.le_of_ble_eq_true rfl) ?_
  intro p e s m args below meth c Q hx hb hml hown hts hK hP hret ls hl
  have hown : s.vm.findClass RX10 = some m.cls := hown
  have hl : lv_has ls 1 [(0, .int v0)] := hl
  unfold p_X10_isClaim at h
  refine lv_iload_n hx hb dX10_isClaim_0 rfl (lv_at hl 0 rfl) ?_
  refine lv_iconst (v := 0) hx hb dX10_isClaim_1 (by decide) ?_
  refine lv_iconst (v := 5) hx hb dX10_isClaim_2 (by decide) ?_
  obtain ⟨r_3, hc_3, h⟩ := ob1_e h
  refine k_si (va_runS (As := [.int v0, .int (0 : Int32), .int (5 : Int32)]) (rest := []) ⟨hx, hb, hml, hown, hts⟩ (c_X10_within l G   v0 (0 : Int32) (5 : Int32) r_3 hc_3) (va_cwS 3 hts gX10_isClaim_X10_within rfl rfl rfl eX10_within ⟨Nat.le_of_ble_eq_true rfl, Nat.le_of_ble_eq_true rfl⟩) (preSS hK (fun k q h => by cases h)) rfl rfl hl.1 rfl (lv_room (Nat.le_of_ble_eq_true rfl)) dX10_isClaim_3 ⟨Nat.le_of_ble_eq_true rfl, Nat.le_of_ble_eq_true rfl⟩) ?_
  obtain ⟨gbv, h⟩ := gb_e h
  obtain rfl := oi1 h
  exact hret _ _ _ dX10_isClaim_6 rfl (nb gbv)
abbrev rX10_next : Room := { frames := 0, cells := 0, slots := 0, locals := 0 }
set_option maxHeartbeats 4000000 in
set_option maxRecDepth 100000 in
theorem c_X10_next (l : Launch) (G : GG) (m_h : Nat) (m_q : Nat → Nat) (m_onBy : AI) (m_toldBy : AI) (m_kindsOf : AI) (m_nextOf : AI) (m_holdsAt : AI) (m_made : Int32) (m_standsFor : AI) (m_madeNext : AI) (m_madeHolds : AI) (m_stateFor : AI) (m_joined : AI) (m_joinedNow : AI) (m_firstIn : AI) (m_orderOf : AI) (m_classAt : AI) (m_sets : AL) (m_waysTo : AL) (m_waysThen : AL) (m_queue : AI) (m_leastTo : AL) (v1 : Int32) (v2 : Int32) (v3 : Int32) (r : Int32) (h : p_X10_next m_nextOf v1 v2 v3 = some r) : SI l yX10_next wsX10_next rX10_next G [.ref m_h, .int v1, .int v2, .int v3] (WM G m_h m_q m_onBy m_toldBy m_kindsOf m_nextOf m_holdsAt m_made m_standsFor m_madeNext m_madeHolds m_stateFor m_joined m_joinedNow m_firstIn m_orderOf m_classAt m_sets m_waysTo m_waysThen m_queue m_leastTo) r := by
  refine enterSI (cc := cX10_next) (maxL := 4) (by decide) rfl (Nat.le_of_ble_eq_true rfl) ?_
  intro p e s m args below meth c Q hx hb hml hown hts hK hP hret ls hl
  have hown : s.vm.findClass RX10 = some m.cls := hown
  have hf19 := hts (.fieldLink RX10 19 "DigitClaimsModel" "nextOf" "[I") (by decide +kernel)
  have hinX10 : ∀ w ∈ wsX100, w ∈ wsX10_next := by decide +kernel
  have hl : lv_has ls 4 [(0, .ref m_h), (1, .int v1), (2, .int v2), (3, .int v3)] := hl
  unfold p_X10_next at h
  refine lv_aload_n hx hb dX10_next_0 rfl (lv_at hl 0 rfl) ?_
  refine va_get (D := G.1) (ci := 10) (v := .ref (m_q 3)) (C := RX10) (T := TX10) (N := 20) hx hb hts hinX10 hown hK.1 hP 0 rfl rfl 3 (by decide) hf19 (fun _ h9 => h9) rfl dX10_next_1 ?_
  refine lv_bipush (v := 8) hx hb dX10_next_4 (by decide) ?_
  refine lv_bipush (v := 60) hx hb dX10_next_6 (by decide) ?_
  refine lv_iload_n hx hb dX10_next_8 rfl (lv_at hl 1 rfl) ?_
  refine lv_imul hx hb dX10_next_9 ?_
  refine lv_iload_n hx hb dX10_next_10 rfl (lv_at hl 2 rfl) ?_
  refine lv_iadd hx hb dX10_next_11 ?_
  refine lv_imul hx hb dX10_next_12 ?_
  refine lv_iload_n hx hb dX10_next_13 rfl (lv_at hl 3 rfl) ?_
  refine lv_iadd hx hb dX10_next_14 ?_
  obtain ⟨g_15, h⟩ := gi_e h
  refine va_iald hx hb hK.1 hP 4 0 rfl rfl g_15 dX10_next_15 ?_
  obtain rfl := oi1 h
  exact hret _ _ _ dX10_next_16 rfl rfl
abbrev rX10_place : Room := { frames := 2, cells := 0, slots := 0, locals := 42 }
set_option maxHeartbeats 4000000 in
set_option maxRecDepth 100000 in
theorem c_X10_place (l : Launch) (G : GG) (m_h : Nat) (m_q : Nat → Nat) (m_onBy : AI) (m_toldBy : AI) (m_kindsOf : AI) (m_nextOf : AI) (m_holdsAt : AI) (m_made : Int32) (m_standsFor : AI) (m_madeNext : AI) (m_madeHolds : AI) (m_stateFor : AI) (m_joined : AI) (m_joinedNow : AI) (m_firstIn : AI) (m_orderOf : AI) (m_classAt : AI) (m_sets : AL) (m_waysTo : AL) (m_waysThen : AL) (m_queue : AI) (m_leastTo : AL) (v1 : Int32) (v2 : Int32) (v3 : Int32) (v4 : Int32) (sz : Nat) (r : Int32) (m_onBy_z : AI) (m_toldBy_z : AI) (h : p_X10_place m_onBy m_toldBy v1 v2 v3 v4 = some (r, m_onBy_z, m_toldBy_z)) : CI l yX10_place wsX10_place rX10_place G [.ref m_h, .int v1, .int v2, .int v3, .int v4] (WM G m_h m_q m_onBy m_toldBy m_kindsOf m_nextOf m_holdsAt m_made m_standsFor m_madeNext m_madeHolds m_stateFor m_joined m_joinedNow m_firstIn m_orderOf m_classAt m_sets m_waysTo m_waysThen m_queue m_leastTo) sz r (fun u => WM G m_h m_q m_onBy_z m_toldBy_z m_kindsOf m_nextOf m_holdsAt m_made m_standsFor m_madeNext m_madeHolds m_stateFor m_joined m_joinedNow m_firstIn m_orderOf m_classAt m_sets m_waysTo m_waysThen m_queue m_leastTo) := by
  refine enterCI (cc := cX10_place) (maxL := 5) (by decide) rfl (Nat.le_of_ble_eq_true rfl) ?_
  intro p e s m args below meth c A Q hx hb hml hown hts hK hP hD hS hA hret ls hl
  have hown : s.vm.findClass RX10 = some m.cls := hown
  have hf7 := hts (.fieldLink RX10 7 "DigitClaimsModel" "onBy" "[I") (by decide +kernel)
  have hf13 := hts (.fieldLink RX10 13 "DigitClaimsModel" "toldBy" "[I") (by decide +kernel)
  have hinX10 : ∀ w ∈ wsX100, w ∈ wsX10_place := by decide +kernel
  have hl : lv_has ls 5 [(0, .ref m_h), (1, .int v1), (2, .int v2), (3, .int v3), (4, .int v4)] := hl
  unfold p_X10_place at h
  refine lv_iload_n hx hb dX10_place_0 rfl (lv_at hl 1 rfl) ?_
  obtain ⟨r_1, hc_1, h⟩ := ob1_e h
  refine k_si (va_runS (As := [.int v1]) (rest := []) ⟨hx, hb, hml, hown, hts⟩ (c_X10_isPlace l G   v1 r_1 hc_1) (va_cwS 1 hts gX10_place_X10_isPlace rfl rfl rfl eX10_isPlace ⟨Nat.le_of_ble_eq_true rfl, Nat.le_of_ble_eq_true rfl⟩) (preSS hK (fun k q h => by cases h)) rfl rfl hl.1 rfl (lv_room (Nat.le_of_ble_eq_true rfl)) dX10_place_1 ⟨Nat.le_of_ble_eq_true rfl, Nat.le_of_ble_eq_true rfl⟩) ?_
  refine lv_if_eq (tgt := 21) hx hb dX10_place_4 (by decide) (fun c_4 => ?_) (fun c_4 => ?_)
  · replace h := (if_pos c_4).symm.trans h
    refine lv_iconst (v := -1) hx hb dX10_place_21 (by decide) ?_
    obtain ⟨rfl, rfl, rfl⟩ := oi3 h
    exact hret (fun _ => 0) _ _ _ _ _ _ _ dX10_place_22 rfl rfl hP hD hS (Nat.le_of_ble_eq_true rfl) (Nat.le_of_ble_eq_true rfl)
  · replace h := (if_neg c_4).symm.trans h
    refine lv_iload_n hx hb dX10_place_7 rfl (lv_at hl 2 rfl) ?_
    obtain ⟨r_8, hc_8, h⟩ := ob1_e h
    refine k_si (va_runS (As := [.int v2]) (rest := []) ⟨hx, hb, hml, hown, hts⟩ (c_X10_isPlace l G   v2 r_8 hc_8) (va_cwS 1 hts gX10_place_X10_isPlace rfl rfl rfl eX10_isPlace ⟨Nat.le_of_ble_eq_true rfl, Nat.le_of_ble_eq_true rfl⟩) (preSS hK (fun k q h => by cases h)) rfl rfl hl.1 rfl (lv_room (Nat.le_of_ble_eq_true rfl)) dX10_place_8 ⟨Nat.le_of_ble_eq_true rfl, Nat.le_of_ble_eq_true rfl⟩) ?_
    refine lv_if_eq (tgt := 21) hx hb dX10_place_11 (by decide) (fun c_11 => ?_) (fun c_11 => ?_)
    · replace h := (if_pos c_11).symm.trans h
      refine lv_iconst (v := -1) hx hb dX10_place_21 (by decide) ?_
      obtain ⟨rfl, rfl, rfl⟩ := oi3 h
      exact hret (fun _ => 0) _ _ _ _ _ _ _ dX10_place_22 rfl rfl hP hD hS (Nat.le_of_ble_eq_true rfl) (Nat.le_of_ble_eq_true rfl)
    · replace h := (if_neg c_11).symm.trans h
      refine lv_iload_n hx hb dX10_place_14 rfl (lv_at hl 3 rfl) ?_
      obtain ⟨r_15, hc_15, h⟩ := ob1_e h
      refine k_si (va_runS (As := [.int v3]) (rest := []) ⟨hx, hb, hml, hown, hts⟩ (c_X10_isPlace l G   v3 r_15 hc_15) (va_cwS 1 hts gX10_place_X10_isPlace rfl rfl rfl eX10_isPlace ⟨Nat.le_of_ble_eq_true rfl, Nat.le_of_ble_eq_true rfl⟩) (preSS hK (fun k q h => by cases h)) rfl rfl hl.1 rfl (lv_room (Nat.le_of_ble_eq_true rfl)) dX10_place_15 ⟨Nat.le_of_ble_eq_true rfl, Nat.le_of_ble_eq_true rfl⟩) ?_
      refine lv_if_ne (tgt := 23) hx hb dX10_place_18 (by decide) (fun c_18 => ?_) (fun c_18 => ?_)
      · replace h := (if_neg c_18).symm.trans h
        refine lv_iload hx hb dX10_place_23 (lv_at hl 4 rfl) ?_
        refine lv_iconst (v := 0) hx hb dX10_place_25 (by decide) ?_
        refine lv_iconst (v := 2) hx hb dX10_place_26 (by decide) ?_
        obtain ⟨r_27, hc_27, h⟩ := ob1_e h
        refine k_si (va_runS (As := [.int v4, .int (0 : Int32), .int (2 : Int32)]) (rest := []) ⟨hx, hb, hml, hown, hts⟩ (c_X10_within l G   v4 (0 : Int32) (2 : Int32) r_27 hc_27) (va_cwS 3 hts gX10_place_X10_within rfl rfl rfl eX10_within ⟨Nat.le_of_ble_eq_true rfl, Nat.le_of_ble_eq_true rfl⟩) (preSS hK (fun k q h => by cases h)) rfl rfl hl.1 rfl (lv_room (Nat.le_of_ble_eq_true rfl)) dX10_place_27 ⟨Nat.le_of_ble_eq_true rfl, Nat.le_of_ble_eq_true rfl⟩) ?_
        refine lv_if_ne (tgt := 36) hx hb dX10_place_30 (by decide) (fun c_30 => ?_) (fun c_30 => ?_)
        · replace h := (if_neg c_30).symm.trans h
          refine lv_iload_n hx hb dX10_place_36 rfl (lv_at hl 1 rfl) ?_
          refine lv_if_ne (tgt := 47) hx hb dX10_place_37 (by decide) (fun c_37 => ?_) (fun c_37 => ?_)
          · replace h := (if_neg c_37).symm.trans h
            refine lv_aload_n hx hb dX10_place_47 rfl (lv_at hl 0 rfl) ?_
            refine va_get (D := G.1) (ci := 10) (v := .ref (m_q 0)) (C := RX10) (T := TX10) (N := 20) hx hb hts hinX10 hown hK.1 hP 0 rfl rfl 0 (by decide) hf7 (fun _ h9 => h9) rfl dX10_place_48 ?_
            refine lv_iconst (v := 2) hx hb dX10_place_51 (by decide) ?_
            refine lv_iload_n hx hb dX10_place_52 rfl (lv_at hl 1 rfl) ?_
            refine lv_imul hx hb dX10_place_53 ?_
            refine lv_iload_n hx hb dX10_place_54 rfl (lv_at hl 2 rfl) ?_
            obtain ⟨g_55, h⟩ := gi_e h
            refine va_iast hx hb hK.1 hP hD hS 1 0 rfl rfl g_55 dX10_place_55 (fun H locs hP hD hS => ?_)
            have hP : va_P G.1 vwCl (WM G m_h m_q (upd m_onBy ((2 : Int32) * v1).toNatClampNeg v2) m_toldBy m_kindsOf m_nextOf m_holdsAt m_made m_standsFor m_madeNext m_madeHolds m_stateFor m_joined m_joinedNow m_firstIn m_orderOf m_classAt m_sets m_waysTo m_waysThen m_queue m_leastTo) H := hP
            have hD : va_D A (WM G m_h m_q (upd m_onBy ((2 : Int32) * v1).toNatClampNeg v2) m_toldBy m_kindsOf m_nextOf m_holdsAt m_made m_standsFor m_madeNext m_madeHolds m_stateFor m_joined m_joinedNow m_firstIn m_orderOf m_classAt m_sets m_waysTo m_waysThen m_queue m_leastTo) := hD
            refine lv_aload_n hx hb dX10_place_56 rfl (lv_at hl 0 rfl) ?_
            refine va_get (D := G.1) (ci := 10) (v := .ref (m_q 0)) (C := RX10) (T := TX10) (N := 20) hx hb hts hinX10 hown hK.1 hP 0 rfl rfl 0 (by decide) hf7 (fun _ h9 => h9) rfl dX10_place_57 ?_
            refine lv_iconst (v := 2) hx hb dX10_place_60 (by decide) ?_
            refine lv_iload_n hx hb dX10_place_61 rfl (lv_at hl 1 rfl) ?_
            refine lv_imul hx hb dX10_place_62 ?_
            refine lv_iconst (v := 1) hx hb dX10_place_63 (by decide) ?_
            refine lv_iadd hx hb dX10_place_64 ?_
            refine lv_iload_n hx hb dX10_place_65 rfl (lv_at hl 3 rfl) ?_
            obtain ⟨g_66, h⟩ := gi_e h
            refine va_iast hx hb hK.1 hP hD hS 1 0 rfl rfl g_66 dX10_place_66 (fun H locs hP hD hS => ?_)
            have hP : va_P G.1 vwCl (WM G m_h m_q (upd (upd m_onBy ((2 : Int32) * v1).toNatClampNeg v2) (((2 : Int32) * v1) + (1 : Int32)).toNatClampNeg v3) m_toldBy m_kindsOf m_nextOf m_holdsAt m_made m_standsFor m_madeNext m_madeHolds m_stateFor m_joined m_joinedNow m_firstIn m_orderOf m_classAt m_sets m_waysTo m_waysThen m_queue m_leastTo) H := hP
            have hD : va_D A (WM G m_h m_q (upd (upd m_onBy ((2 : Int32) * v1).toNatClampNeg v2) (((2 : Int32) * v1) + (1 : Int32)).toNatClampNeg v3) m_toldBy m_kindsOf m_nextOf m_holdsAt m_made m_standsFor m_madeNext m_madeHolds m_stateFor m_joined m_joinedNow m_firstIn m_orderOf m_classAt m_sets m_waysTo m_waysThen m_queue m_leastTo) := hD
            refine lv_aload_n hx hb dX10_place_67 rfl (lv_at hl 0 rfl) ?_
            refine va_get (D := G.1) (ci := 10) (v := .ref (m_q 1)) (C := RX10) (T := TX10) (N := 20) hx hb hts hinX10 hown hK.1 hP 0 rfl rfl 1 (by decide) hf13 (fun _ h9 => h9) rfl dX10_place_68 ?_
            refine lv_iload_n hx hb dX10_place_71 rfl (lv_at hl 1 rfl) ?_
            refine lv_iload hx hb dX10_place_72 (lv_at hl 4 rfl) ?_
            obtain ⟨g_74, h⟩ := gi_e h
            refine va_iast hx hb hK.1 hP hD hS 2 0 rfl rfl g_74 dX10_place_74 (fun H locs hP hD hS => ?_)
            have hP : va_P G.1 vwCl (WM G m_h m_q (upd (upd m_onBy ((2 : Int32) * v1).toNatClampNeg v2) (((2 : Int32) * v1) + (1 : Int32)).toNatClampNeg v3) (upd m_toldBy v1.toNatClampNeg v4) m_kindsOf m_nextOf m_holdsAt m_made m_standsFor m_madeNext m_madeHolds m_stateFor m_joined m_joinedNow m_firstIn m_orderOf m_classAt m_sets m_waysTo m_waysThen m_queue m_leastTo) H := hP
            have hD : va_D A (WM G m_h m_q (upd (upd m_onBy ((2 : Int32) * v1).toNatClampNeg v2) (((2 : Int32) * v1) + (1 : Int32)).toNatClampNeg v3) (upd m_toldBy v1.toNatClampNeg v4) m_kindsOf m_nextOf m_holdsAt m_made m_standsFor m_madeNext m_madeHolds m_stateFor m_joined m_joinedNow m_firstIn m_orderOf m_classAt m_sets m_waysTo m_waysThen m_queue m_leastTo) := hD
            refine lv_iconst (v := 1) hx hb dX10_place_75 (by decide) ?_
            obtain ⟨rfl, rfl, rfl⟩ := oi3 h
            exact hret (fun _ => 0) _ _ _ _ _ _ _ dX10_place_76 rfl rfl hP hD hS (Nat.le_of_ble_eq_true rfl) (Nat.le_of_ble_eq_true rfl)
          · replace h := (if_pos c_37).symm.trans h
            refine lv_iload_n hx hb dX10_place_40 rfl (lv_at hl 2 rfl) ?_
            refine lv_if_eq (tgt := 47) hx hb dX10_place_41 (by decide) (fun c_41 => ?_) (fun c_41 => ?_)
            · replace h := (if_pos c_41).symm.trans h
              refine lv_aload_n hx hb dX10_place_47 rfl (lv_at hl 0 rfl) ?_
              refine va_get (D := G.1) (ci := 10) (v := .ref (m_q 0)) (C := RX10) (T := TX10) (N := 20) hx hb hts hinX10 hown hK.1 hP 0 rfl rfl 0 (by decide) hf7 (fun _ h9 => h9) rfl dX10_place_48 ?_
              refine lv_iconst (v := 2) hx hb dX10_place_51 (by decide) ?_
              refine lv_iload_n hx hb dX10_place_52 rfl (lv_at hl 1 rfl) ?_
              refine lv_imul hx hb dX10_place_53 ?_
              refine lv_iload_n hx hb dX10_place_54 rfl (lv_at hl 2 rfl) ?_
              obtain ⟨g_55, h⟩ := gi_e h
              refine va_iast hx hb hK.1 hP hD hS 1 0 rfl rfl g_55 dX10_place_55 (fun H locs hP hD hS => ?_)
              have hP : va_P G.1 vwCl (WM G m_h m_q (upd m_onBy ((2 : Int32) * v1).toNatClampNeg v2) m_toldBy m_kindsOf m_nextOf m_holdsAt m_made m_standsFor m_madeNext m_madeHolds m_stateFor m_joined m_joinedNow m_firstIn m_orderOf m_classAt m_sets m_waysTo m_waysThen m_queue m_leastTo) H := hP
              have hD : va_D A (WM G m_h m_q (upd m_onBy ((2 : Int32) * v1).toNatClampNeg v2) m_toldBy m_kindsOf m_nextOf m_holdsAt m_made m_standsFor m_madeNext m_madeHolds m_stateFor m_joined m_joinedNow m_firstIn m_orderOf m_classAt m_sets m_waysTo m_waysThen m_queue m_leastTo) := hD
              refine lv_aload_n hx hb dX10_place_56 rfl (lv_at hl 0 rfl) ?_
              refine va_get (D := G.1) (ci := 10) (v := .ref (m_q 0)) (C := RX10) (T := TX10) (N := 20) hx hb hts hinX10 hown hK.1 hP 0 rfl rfl 0 (by decide) hf7 (fun _ h9 => h9) rfl dX10_place_57 ?_
              refine lv_iconst (v := 2) hx hb dX10_place_60 (by decide) ?_
              refine lv_iload_n hx hb dX10_place_61 rfl (lv_at hl 1 rfl) ?_
              refine lv_imul hx hb dX10_place_62 ?_
              refine lv_iconst (v := 1) hx hb dX10_place_63 (by decide) ?_
              refine lv_iadd hx hb dX10_place_64 ?_
              refine lv_iload_n hx hb dX10_place_65 rfl (lv_at hl 3 rfl) ?_
              obtain ⟨g_66, h⟩ := gi_e h
              refine va_iast hx hb hK.1 hP hD hS 1 0 rfl rfl g_66 dX10_place_66 (fun H locs hP hD hS => ?_)
              have hP : va_P G.1 vwCl (WM G m_h m_q (upd (upd m_onBy ((2 : Int32) * v1).toNatClampNeg v2) (((2 : Int32) * v1) + (1 : Int32)).toNatClampNeg v3) m_toldBy m_kindsOf m_nextOf m_holdsAt m_made m_standsFor m_madeNext m_madeHolds m_stateFor m_joined m_joinedNow m_firstIn m_orderOf m_classAt m_sets m_waysTo m_waysThen m_queue m_leastTo) H := hP
              have hD : va_D A (WM G m_h m_q (upd (upd m_onBy ((2 : Int32) * v1).toNatClampNeg v2) (((2 : Int32) * v1) + (1 : Int32)).toNatClampNeg v3) m_toldBy m_kindsOf m_nextOf m_holdsAt m_made m_standsFor m_madeNext m_madeHolds m_stateFor m_joined m_joinedNow m_firstIn m_orderOf m_classAt m_sets m_waysTo m_waysThen m_queue m_leastTo) := hD
              refine lv_aload_n hx hb dX10_place_67 rfl (lv_at hl 0 rfl) ?_
              refine va_get (D := G.1) (ci := 10) (v := .ref (m_q 1)) (C := RX10) (T := TX10) (N := 20) hx hb hts hinX10 hown hK.1 hP 0 rfl rfl 1 (by decide) hf13 (fun _ h9 => h9) rfl dX10_place_68 ?_
              refine lv_iload_n hx hb dX10_place_71 rfl (lv_at hl 1 rfl) ?_
              refine lv_iload hx hb dX10_place_72 (lv_at hl 4 rfl) ?_
              obtain ⟨g_74, h⟩ := gi_e h
              refine va_iast hx hb hK.1 hP hD hS 2 0 rfl rfl g_74 dX10_place_74 (fun H locs hP hD hS => ?_)
              have hP : va_P G.1 vwCl (WM G m_h m_q (upd (upd m_onBy ((2 : Int32) * v1).toNatClampNeg v2) (((2 : Int32) * v1) + (1 : Int32)).toNatClampNeg v3) (upd m_toldBy v1.toNatClampNeg v4) m_kindsOf m_nextOf m_holdsAt m_made m_standsFor m_madeNext m_madeHolds m_stateFor m_joined m_joinedNow m_firstIn m_orderOf m_classAt m_sets m_waysTo m_waysThen m_queue m_leastTo) H := hP
              have hD : va_D A (WM G m_h m_q (upd (upd m_onBy ((2 : Int32) * v1).toNatClampNeg v2) (((2 : Int32) * v1) + (1 : Int32)).toNatClampNeg v3) (upd m_toldBy v1.toNatClampNeg v4) m_kindsOf m_nextOf m_holdsAt m_made m_standsFor m_madeNext m_madeHolds m_stateFor m_joined m_joinedNow m_firstIn m_orderOf m_classAt m_sets m_waysTo m_waysThen m_queue m_leastTo) := hD
              refine lv_iconst (v := 1) hx hb dX10_place_75 (by decide) ?_
              obtain ⟨rfl, rfl, rfl⟩ := oi3 h
              exact hret (fun _ => 0) _ _ _ _ _ _ _ dX10_place_76 rfl rfl hP hD hS (Nat.le_of_ble_eq_true rfl) (Nat.le_of_ble_eq_true rfl)
            · replace h := (if_neg c_41).symm.trans h
              refine lv_bipush (v := -3) hx hb dX10_place_44 (by decide) ?_
              obtain ⟨rfl, rfl, rfl⟩ := oi3 h
              exact hret (fun _ => 0) _ _ _ _ _ _ _ dX10_place_46 rfl rfl hP hD hS (Nat.le_of_ble_eq_true rfl) (Nat.le_of_ble_eq_true rfl)
        · replace h := (if_pos c_30).symm.trans h
          refine lv_bipush (v := -2) hx hb dX10_place_33 (by decide) ?_
          obtain ⟨rfl, rfl, rfl⟩ := oi3 h
          exact hret (fun _ => 0) _ _ _ _ _ _ _ dX10_place_35 rfl rfl hP hD hS (Nat.le_of_ble_eq_true rfl) (Nat.le_of_ble_eq_true rfl)
      · replace h := (if_pos c_18).symm.trans h
        refine lv_iconst (v := -1) hx hb dX10_place_21 (by decide) ?_
        obtain ⟨rfl, rfl, rfl⟩ := oi3 h
        exact hret (fun _ => 0) _ _ _ _ _ _ _ dX10_place_22 rfl rfl hP hD hS (Nat.le_of_ble_eq_true rfl) (Nat.le_of_ble_eq_true rfl)
abbrev rX10_areAlike : Room := { frames := 0, cells := 0, slots := 0, locals := 0 }
set_option maxHeartbeats 4000000 in
set_option maxRecDepth 100000 in
theorem c_X10_areAlike (l : Launch) (G : GG) (n : Nat) (m_h : Nat) (m_q : Nat → Nat) (m_onBy : AI) (m_toldBy : AI) (m_kindsOf : AI) (m_nextOf : AI) (m_holdsAt : AI) (m_made : Int32) (m_standsFor : AI) (m_madeNext : AI) (m_madeHolds : AI) (m_stateFor : AI) (m_joined : AI) (m_joinedNow : AI) (m_firstIn : AI) (m_orderOf : AI) (m_classAt : AI) (m_sets : AL) (m_waysTo : AL) (m_waysThen : AL) (m_queue : AI) (m_leastTo : AL) (v1 : Int32) (v2 : Int32) (r : Int32) (h : p_X10_areAlike n m_madeNext m_joined v1 v2 = some r) : SI l yX10_areAlike wsX10_areAlike rX10_areAlike G [.ref m_h, .int v1, .int v2] (WM G m_h m_q m_onBy m_toldBy m_kindsOf m_nextOf m_holdsAt m_made m_standsFor m_madeNext m_madeHolds m_stateFor m_joined m_joinedNow m_firstIn m_orderOf m_classAt m_sets m_waysTo m_waysThen m_queue m_leastTo) r := by
  refine enterSI (cc := cX10_areAlike) (maxL := 5) (by decide) rfl (Nat.le_of_ble_eq_true rfl) ?_
  intro p e s m args below meth c Q hx hb hml hown hts hK hP hret ls hl
  have hown : s.vm.findClass RX10 = some m.cls := hown
  have hf29 := hts (.fieldLink RX10 29 "DigitClaimsModel" "madeNext" "[I") (by decide +kernel)
  have hf38 := hts (.fieldLink RX10 38 "DigitClaimsModel" "joined" "[I") (by decide +kernel)
  have hinX10 : ∀ w ∈ wsX100, w ∈ wsX10_areAlike := by decide +kernel
  have hl : lv_has ls 5 [(0, .ref m_h), (1, .int v1), (2, .int v2)] := hl
  unfold p_X10_areAlike at h
  refine lv_aload_n hx hb dX10_areAlike_0 rfl (lv_at hl 0 rfl) ?_
  refine va_get (D := G.1) (ci := 10) (v := .ref (m_q 9)) (C := RX10) (T := TX10) (N := 20) hx hb hts hinX10 hown hK.1 hP 0 rfl rfl 10 (by decide) hf38 (fun _ h9 => h9) rfl dX10_areAlike_1 ?_
  refine lv_iload_n hx hb dX10_areAlike_4 rfl (lv_at hl 1 rfl) ?_
  obtain ⟨g_5, h⟩ := gi_e h
  refine va_iald hx hb hK.1 hP 10 0 rfl rfl g_5 dX10_areAlike_5 ?_
  refine lv_aload_n hx hb dX10_areAlike_6 rfl (lv_at hl 0 rfl) ?_
  refine va_get (D := G.1) (ci := 10) (v := .ref (m_q 9)) (C := RX10) (T := TX10) (N := 20) hx hb hts hinX10 hown hK.1 hP 0 rfl rfl 10 (by decide) hf38 (fun _ h9 => h9) rfl dX10_areAlike_7 ?_
  refine lv_iload_n hx hb dX10_areAlike_10 rfl (lv_at hl 2 rfl) ?_
  obtain ⟨g_11, h⟩ := gi_e h
  refine va_iald hx hb hK.1 hP 10 0 rfl rfl g_11 dX10_areAlike_11 ?_
  obtain ⟨j0_12, hT12, h⟩ := ob1_e h
  have hJ12 : ∀ (j0_12x : Int32)  (ls : Array Slot), some j0_12x = some j0_12 → lv_has ls 5 [(0, .ref m_h), (1, .int v1), (2, .int v2)] → W p l e rX10_areAlike s m args below meth c s.heap [] 0 0 Q (F0 m 20 ls [.int j0_12x]) := by
    intro j0_12x ls hq hl
    obtain rfl := oi1 hq
    refine lv_istore_n (lv' := [(3, .int j0_12), (0, .ref m_h), (1, .int v1), (2, .int v2)]) hx hb dX10_areAlike_20 rfl hl (by decide) rfl (fun ls hl => ?_)
    refine lv_iconst (v := 0) hx hb dX10_areAlike_21 (by decide) ?_
    refine lv_istore (lv' := [(4, .int (0 : Int32)), (3, .int j0_12), (0, .ref m_h), (1, .int v1), (2, .int v2)]) hx hb dX10_areAlike_22 hl (by decide) rfl (fun ls hl => ?_)
    obtain ⟨o3_24, hT24, h⟩ := ob1_e h
    have hX24 : ∀ (x3_24 : Int32)  (ls : Array Slot), some x3_24 = some o3_24 → lv_has ls 5 [(3, .int x3_24)] → W p l e rX10_areAlike s m args below meth c s.heap [] 0 0 Q (F0 m 84 ls []) := by
      intro x3_24 ls hq hl
      obtain rfl := oi1 hq
      refine lv_iload_n hx hb dX10_areAlike_84 rfl (lv_at hl 0 rfl) ?_
      obtain ⟨gbv, h⟩ := gb_e h
      obtain rfl := oi1 h
      exact hret _ _ _ dX10_areAlike_85 rfl (nb gbv)
    have hL24 : ∀ (f : Nat) (v3_24 : Int32) (v4_24 : Int32)  (ls : Array Slot), p_X10_areAlike_L24 v1 m_madeNext v2 m_joined f v3_24 v4_24 = some o3_24 → lv_has ls 5 [(0, .ref m_h), (1, .int v1), (2, .int v2), (3, .int v3_24), (4, .int v4_24)] → W p l e rX10_areAlike s m args below meth c s.heap [] 0 0 Q (F0 m 24 ls []) := by
      intro f
      induction f with
      | zero => intro v3_24 v4_24 ls h hl; cases (show none = some _ from h)
      | succ f ih =>
        intro v3_24 v4_24 ls h hl
        rw [p_X10_areAlike_L24] at h
        refine lv_iload hx hb dX10_areAlike_24 (lv_at hl 4 rfl) ?_
        refine lv_bipush (v := 8) hx hb dX10_areAlike_26 (by decide) ?_
        refine lv_icmp_ge (tgt := 84) hx hb dX10_areAlike_28 (by decide) (fun c_28 => ?_) (fun c_28 => ?_)
        · replace h := (if_pos c_28).symm.trans h
          exact hX24 _  _ h (lv_sub hl [3] rfl)
        · replace h := (if_neg c_28).symm.trans h
          refine lv_iload_n hx hb dX10_areAlike_31 rfl (lv_at hl 3 rfl) ?_
          refine lv_if_eq (tgt := 84) hx hb dX10_areAlike_32 (by decide) (fun c_32 => ?_) (fun c_32 => ?_)
          · replace h := (if_pos c_32).symm.trans h
            exact hX24 _  _ h (lv_sub hl [3] rfl)
          · replace h := (if_neg c_32).symm.trans h
            refine lv_aload_n hx hb dX10_areAlike_35 rfl (lv_at hl 0 rfl) ?_
            refine va_get (D := G.1) (ci := 10) (v := .ref (m_q 9)) (C := RX10) (T := TX10) (N := 20) hx hb hts hinX10 hown hK.1 hP 0 rfl rfl 10 (by decide) hf38 (fun _ h9 => h9) rfl dX10_areAlike_36 ?_
            refine lv_aload_n hx hb dX10_areAlike_39 rfl (lv_at hl 0 rfl) ?_
            refine va_get (D := G.1) (ci := 10) (v := .ref (m_q 6)) (C := RX10) (T := TX10) (N := 20) hx hb hts hinX10 hown hK.1 hP 0 rfl rfl 7 (by decide) hf29 (fun _ h9 => h9) rfl dX10_areAlike_40 ?_
            refine lv_bipush (v := 8) hx hb dX10_areAlike_43 (by decide) ?_
            refine lv_iload_n hx hb dX10_areAlike_45 rfl (lv_at hl 1 rfl) ?_
            refine lv_imul hx hb dX10_areAlike_46 ?_
            refine lv_iload hx hb dX10_areAlike_47 (lv_at hl 4 rfl) ?_
            refine lv_iadd hx hb dX10_areAlike_49 ?_
            obtain ⟨g_50, h⟩ := gi_e h
            refine va_iald hx hb hK.1 hP 7 0 rfl rfl g_50 dX10_areAlike_50 ?_
            obtain ⟨g_51, h⟩ := gi_e h
            refine va_iald hx hb hK.1 hP 10 0 rfl rfl g_51 dX10_areAlike_51 ?_
            refine lv_aload_n hx hb dX10_areAlike_52 rfl (lv_at hl 0 rfl) ?_
            refine va_get (D := G.1) (ci := 10) (v := .ref (m_q 9)) (C := RX10) (T := TX10) (N := 20) hx hb hts hinX10 hown hK.1 hP 0 rfl rfl 10 (by decide) hf38 (fun _ h9 => h9) rfl dX10_areAlike_53 ?_
            refine lv_aload_n hx hb dX10_areAlike_56 rfl (lv_at hl 0 rfl) ?_
            refine va_get (D := G.1) (ci := 10) (v := .ref (m_q 6)) (C := RX10) (T := TX10) (N := 20) hx hb hts hinX10 hown hK.1 hP 0 rfl rfl 7 (by decide) hf29 (fun _ h9 => h9) rfl dX10_areAlike_57 ?_
            refine lv_bipush (v := 8) hx hb dX10_areAlike_60 (by decide) ?_
            refine lv_iload_n hx hb dX10_areAlike_62 rfl (lv_at hl 2 rfl) ?_
            refine lv_imul hx hb dX10_areAlike_63 ?_
            refine lv_iload hx hb dX10_areAlike_64 (lv_at hl 4 rfl) ?_
            refine lv_iadd hx hb dX10_areAlike_66 ?_
            obtain ⟨g_67, h⟩ := gi_e h
            refine va_iald hx hb hK.1 hP 7 0 rfl rfl g_67 dX10_areAlike_67 ?_
            obtain ⟨g_68, h⟩ := gi_e h
            refine va_iald hx hb hK.1 hP 10 0 rfl rfl g_68 dX10_areAlike_68 ?_
            obtain ⟨j0_69, hT69, h⟩ := ob1_e h
            have hJ69 : ∀ (j0_69x : Int32)  (ls : Array Slot), some j0_69x = some j0_69 → lv_has ls 5 [(0, .ref m_h), (1, .int v1), (2, .int v2), (4, .int v4_24)] → W p l e rX10_areAlike s m args below meth c s.heap [] 0 0 Q (F0 m 77 ls [.int j0_69x]) := by
              intro j0_69x ls hq hl
              obtain rfl := oi1 hq
              refine lv_istore_n (lv' := [(3, .int j0_69), (0, .ref m_h), (1, .int v1), (2, .int v2), (4, .int v4_24)]) hx hb dX10_areAlike_77 rfl hl (by decide) rfl (fun ls hl => ?_)
              refine lv_iinc (v := (v4_24 + (1 : Int32))) (lv' := [(4, .int (v4_24 + (1 : Int32))), (3, .int j0_69), (0, .ref m_h), (1, .int v1), (2, .int v2)]) hx hb dX10_areAlike_78 hl (k := 4) rfl rfl (by decide) rfl (fun ls hl => ?_)
              refine lv_goto (tgt := 24) hx hb dX10_areAlike_81 (by decide) ?_
              exact ih _ _  _ h (lv_sub hl [2, 3, 4, 1, 0] rfl)
            replace h := hT69
            refine lv_icmp_ne (tgt := 76) hx hb dX10_areAlike_69 (by decide) (fun c_69 => ?_) (fun c_69 => ?_)
            · replace h := (if_neg c_69).symm.trans h
              refine lv_iconst (v := 0) hx hb dX10_areAlike_76 (by decide) ?_
              exact hJ69 _  _ h (lv_sub hl [0, 1, 2, 4] rfl)
            · replace h := (if_pos c_69).symm.trans h
              refine lv_iconst (v := 1) hx hb dX10_areAlike_72 (by decide) ?_
              refine lv_goto (tgt := 77) hx hb dX10_areAlike_73 (by decide) ?_
              exact hJ69 _  _ h (lv_sub hl [0, 1, 2, 4] rfl)
    exact hL24 n _ _  _ hT24 (lv_sub hl [2, 3, 4, 1, 0] rfl)
  replace h := hT12
  refine lv_icmp_ne (tgt := 19) hx hb dX10_areAlike_12 (by decide) (fun c_12 => ?_) (fun c_12 => ?_)
  · replace h := (if_neg c_12).symm.trans h
    refine lv_iconst (v := 0) hx hb dX10_areAlike_19 (by decide) ?_
    exact hJ12 _  _ h (lv_sub hl [0, 1, 2] rfl)
  · replace h := (if_pos c_12).symm.trans h
    refine lv_iconst (v := 1) hx hb dX10_areAlike_15 (by decide) ?_
    refine lv_goto (tgt := 20) hx hb dX10_areAlike_16 (by decide) ?_
    exact hJ12 _  _ h (lv_sub hl [0, 1, 2] rfl)
abbrev rX10_joins : Room := { frames := 1, cells := 0, slots := 0, locals := 24 }
set_option maxHeartbeats 4000000 in
set_option maxRecDepth 100000 in
theorem c_X10_joins (l : Launch) (G : GG) (n : Nat) (m_h : Nat) (m_q : Nat → Nat) (m_onBy : AI) (m_toldBy : AI) (m_kindsOf : AI) (m_nextOf : AI) (m_holdsAt : AI) (m_made : Int32) (m_standsFor : AI) (m_madeNext : AI) (m_madeHolds : AI) (m_stateFor : AI) (m_joined : AI) (m_joinedNow : AI) (m_firstIn : AI) (m_orderOf : AI) (m_classAt : AI) (m_sets : AL) (m_waysTo : AL) (m_waysThen : AL) (m_queue : AI) (m_leastTo : AL)  (sz : Nat) (r : Int32) (m_joined_z : AI) (m_joinedNow_z : AI) (m_firstIn_z : AI) (h : p_X10_joins n m_made m_madeNext m_joined m_joinedNow m_firstIn = some (r, m_joined_z, m_joinedNow_z, m_firstIn_z)) : CI l yX10_joins wsX10_joins rX10_joins G [.ref m_h] (WM G m_h m_q m_onBy m_toldBy m_kindsOf m_nextOf m_holdsAt m_made m_standsFor m_madeNext m_madeHolds m_stateFor m_joined m_joinedNow m_firstIn m_orderOf m_classAt m_sets m_waysTo m_waysThen m_queue m_leastTo) sz r (fun u => WM G m_h m_q m_onBy m_toldBy m_kindsOf m_nextOf m_holdsAt m_made m_standsFor m_madeNext m_madeHolds m_stateFor m_joined_z m_joinedNow_z m_firstIn_z m_orderOf m_classAt m_sets m_waysTo m_waysThen m_queue m_leastTo) := by
  refine enterCI (cc := cX10_joins) (maxL := 4) (by decide) rfl (Nat.le_of_ble_eq_true rfl) ?_
  intro p e s m args below meth c A Q hx hb hml hown hts hK hP hD hS hA hret ls hl
  have hown : s.vm.findClass RX10 = some m.cls := hown
  have hf38 := hts (.fieldLink RX10 38 "DigitClaimsModel" "joined" "[I") (by decide +kernel)
  have hf41 := hts (.fieldLink RX10 41 "DigitClaimsModel" "joinedNow" "[I") (by decide +kernel)
  have hf44 := hts (.fieldLink RX10 44 "DigitClaimsModel" "firstIn" "[I") (by decide +kernel)
  have hf81 := hts (.fieldLink RX10 81 "DigitClaimsModel" "made" "I") (by decide +kernel)
  have hinX10 : ∀ w ∈ wsX100, w ∈ wsX10_joins := by decide +kernel
  have hl : lv_has ls 4 [(0, .ref m_h)] := hl
  unfold p_X10_joins at h
  refine lv_iconst (v := 0) hx hb dX10_joins_0 (by decide) ?_
  refine lv_istore_n (lv' := [(1, .int (0 : Int32)), (0, .ref m_h)]) hx hb dX10_joins_1 rfl hl (by decide) rfl (fun ls hl => ?_)
  refine lv_iconst (v := 0) hx hb dX10_joins_2 (by decide) ?_
  refine lv_istore_n (lv' := [(2, .int (0 : Int32)), (1, .int (0 : Int32)), (0, .ref m_h)]) hx hb dX10_joins_3 rfl hl (by decide) rfl (fun ls hl => ?_)
  obtain ⟨o_4, hT4, hd4⟩ := obS3_e h
  have hX4 : ∀ (x1_4 : Int32) (m_joinedNow_o4x : AI) (m_firstIn_o4x : AI)  (H : Heap) (locs : List Loc) (ls : Array Slot), some (Sum.inr (x1_4, m_joinedNow_o4x, m_firstIn_o4x)) = some o_4 → va_P G.1 vwCl (WM G m_h m_q m_onBy m_toldBy m_kindsOf m_nextOf m_holdsAt m_made m_standsFor m_madeNext m_madeHolds m_stateFor m_joined m_joinedNow_o4x m_firstIn_o4x m_orderOf m_classAt m_sets m_waysTo m_waysThen m_queue m_leastTo) H → va_D A (WM G m_h m_q m_onBy m_toldBy m_kindsOf m_nextOf m_holdsAt m_made m_standsFor m_madeNext m_madeHolds m_stateFor m_joined m_joinedNow_o4x m_firstIn_o4x m_orderOf m_classAt m_sets m_waysTo m_waysThen m_queue m_leastTo) → va_S A s.heap H locs → lv_has ls 4 [(0, .ref m_h), (1, .int x1_4)] → W p l e rX10_joins s m args below meth c H locs 0 0 Q (F0 m 76 ls []) := by
    intro x1_4 m_joinedNow_o4x m_firstIn_o4x H locs ls hq hP hD hS hl
    rcases hd4 with ⟨x, hx1, h⟩ | ⟨o1_4, m_joinedNow_o4, m_firstIn_o4, hx1, h⟩
    · rw [hx1] at hq; cases hq
    rw [hx1] at hq
    obtain ⟨rfl, rfl, rfl⟩ := oiS3 hq
    refine lv_iconst (v := 0) hx hb dX10_joins_76 (by decide) ?_
    refine lv_istore_n (lv' := [(2, .int (0 : Int32)), (0, .ref m_h), (1, .int o1_4)]) hx hb dX10_joins_77 rfl hl (by decide) rfl (fun ls hl => ?_)
    obtain ⟨m_joined_o78, hT78, h⟩ := ob1_e h
    have hX78 : ∀ (m_joined_o78x : AI)  (H : Heap) (locs : List Loc) (ls : Array Slot), some m_joined_o78x = some m_joined_o78 → va_P G.1 vwCl (WM G m_h m_q m_onBy m_toldBy m_kindsOf m_nextOf m_holdsAt m_made m_standsFor m_madeNext m_madeHolds m_stateFor m_joined_o78x m_joinedNow_o4 m_firstIn_o4 m_orderOf m_classAt m_sets m_waysTo m_waysThen m_queue m_leastTo) H → va_D A (WM G m_h m_q m_onBy m_toldBy m_kindsOf m_nextOf m_holdsAt m_made m_standsFor m_madeNext m_madeHolds m_stateFor m_joined_o78x m_joinedNow_o4 m_firstIn_o4 m_orderOf m_classAt m_sets m_waysTo m_waysThen m_queue m_leastTo) → va_S A s.heap H locs → lv_has ls 4 [(1, .int o1_4)] → W p l e rX10_joins s m args below meth c H locs 0 0 Q (F0 m 104 ls []) := by
      intro m_joined_o78x H locs ls hq hP hD hS hl
      obtain rfl := oi1 hq
      refine lv_iload_n hx hb dX10_joins_104 rfl (lv_at hl 0 rfl) ?_
      obtain ⟨rfl, rfl, rfl, rfl⟩ := oi4 h
      exact hret (fun _ => 0) _ _ _ _ _ _ _ dX10_joins_105 rfl rfl hP hD hS (Nat.le_of_ble_eq_true rfl) (Nat.le_of_ble_eq_true rfl)
    have hL78 : ∀ (f : Nat) (v2_78 : Int32) (m_joined_78 : AI)  (H : Heap) (locs : List Loc) (ls : Array Slot), p_X10_joins_L78 m_made m_joinedNow_o4 f v2_78 m_joined_78 = some m_joined_o78 → va_P G.1 vwCl (WM G m_h m_q m_onBy m_toldBy m_kindsOf m_nextOf m_holdsAt m_made m_standsFor m_madeNext m_madeHolds m_stateFor m_joined_78 m_joinedNow_o4 m_firstIn_o4 m_orderOf m_classAt m_sets m_waysTo m_waysThen m_queue m_leastTo) H → va_D A (WM G m_h m_q m_onBy m_toldBy m_kindsOf m_nextOf m_holdsAt m_made m_standsFor m_madeNext m_madeHolds m_stateFor m_joined_78 m_joinedNow_o4 m_firstIn_o4 m_orderOf m_classAt m_sets m_waysTo m_waysThen m_queue m_leastTo) → va_S A s.heap H locs → lv_has ls 4 [(0, .ref m_h), (1, .int o1_4), (2, .int v2_78)] → W p l e rX10_joins s m args below meth c H locs 0 0 Q (F0 m 78 ls []) := by
      intro f
      induction f with
      | zero => intro v2_78 m_joined_78 H locs ls h hP hD hS hl; cases (show none = some _ from h)
      | succ f ih =>
        intro v2_78 m_joined_78 H locs ls h hP hD hS hl
        rw [p_X10_joins_L78] at h
        refine lv_iload_n hx hb dX10_joins_78 rfl (lv_at hl 2 rfl) ?_
        refine lv_aload_n hx hb dX10_joins_79 rfl (lv_at hl 0 rfl) ?_
        refine va_get (D := G.1) (ci := 10) (v := .int m_made) (C := RX10) (T := TX10) (N := 20) hx hb hts hinX10 hown hK.1 hP 0 rfl rfl 5 (by decide) hf81 (fun _ h9 => h9) rfl dX10_joins_80 ?_
        refine lv_icmp_ge (tgt := 104) hx hb dX10_joins_83 (by decide) (fun c_83 => ?_) (fun c_83 => ?_)
        · replace h := (if_pos c_83).symm.trans h
          exact hX78 _  _ _ _ h hP hD hS (lv_sub hl [1] rfl)
        · replace h := (if_neg c_83).symm.trans h
          refine lv_aload_n hx hb dX10_joins_86 rfl (lv_at hl 0 rfl) ?_
          refine va_get (D := G.1) (ci := 10) (v := .ref (m_q 9)) (C := RX10) (T := TX10) (N := 20) hx hb hts hinX10 hown hK.1 hP 0 rfl rfl 10 (by decide) hf38 (fun _ h9 => h9) rfl dX10_joins_87 ?_
          refine lv_iload_n hx hb dX10_joins_90 rfl (lv_at hl 2 rfl) ?_
          refine lv_aload_n hx hb dX10_joins_91 rfl (lv_at hl 0 rfl) ?_
          refine va_get (D := G.1) (ci := 10) (v := .ref (m_q 10)) (C := RX10) (T := TX10) (N := 20) hx hb hts hinX10 hown hK.1 hP 0 rfl rfl 11 (by decide) hf41 (fun _ h9 => h9) rfl dX10_joins_92 ?_
          refine lv_iload_n hx hb dX10_joins_95 rfl (lv_at hl 2 rfl) ?_
          obtain ⟨g_96, h⟩ := gi_e h
          refine va_iald hx hb hK.1 hP 11 0 rfl rfl g_96 dX10_joins_96 ?_
          obtain ⟨g_97, h⟩ := gi_e h
          refine va_iast hx hb hK.1 hP hD hS 10 0 rfl rfl g_97 dX10_joins_97 (fun H locs hP hD hS => ?_)
          have hP : va_P G.1 vwCl (WM G m_h m_q m_onBy m_toldBy m_kindsOf m_nextOf m_holdsAt m_made m_standsFor m_madeNext m_madeHolds m_stateFor (upd m_joined_78 v2_78.toNatClampNeg (m_joinedNow_o4 v2_78.toNatClampNeg)) m_joinedNow_o4 m_firstIn_o4 m_orderOf m_classAt m_sets m_waysTo m_waysThen m_queue m_leastTo) H := hP
          have hD : va_D A (WM G m_h m_q m_onBy m_toldBy m_kindsOf m_nextOf m_holdsAt m_made m_standsFor m_madeNext m_madeHolds m_stateFor (upd m_joined_78 v2_78.toNatClampNeg (m_joinedNow_o4 v2_78.toNatClampNeg)) m_joinedNow_o4 m_firstIn_o4 m_orderOf m_classAt m_sets m_waysTo m_waysThen m_queue m_leastTo) := hD
          refine lv_iinc (v := (v2_78 + (1 : Int32))) (lv' := [(2, .int (v2_78 + (1 : Int32))), (0, .ref m_h), (1, .int o1_4)]) hx hb dX10_joins_98 hl (k := 2) rfl rfl (by decide) rfl (fun ls hl => ?_)
          refine lv_goto (tgt := 78) hx hb dX10_joins_101 (by decide) ?_
          exact ih _ _  _ _ _ h hP hD hS (lv_sub hl [1, 2, 0] rfl)
    exact hL78 n _ _  _ _ _ hT78 hP hD hS (lv_sub hl [1, 2, 0] rfl)
  have hL4 : ∀ (f : Nat) (v1_4 : Int32) (v2_4 : Int32) (m_joinedNow_4 : AI) (m_firstIn_4 : AI)  (H : Heap) (locs : List Loc) (ls : Array Slot), p_X10_joins_L4 n m_made m_madeNext m_joined f v1_4 v2_4 m_joinedNow_4 m_firstIn_4 = some o_4 → va_P G.1 vwCl (WM G m_h m_q m_onBy m_toldBy m_kindsOf m_nextOf m_holdsAt m_made m_standsFor m_madeNext m_madeHolds m_stateFor m_joined m_joinedNow_4 m_firstIn_4 m_orderOf m_classAt m_sets m_waysTo m_waysThen m_queue m_leastTo) H → va_D A (WM G m_h m_q m_onBy m_toldBy m_kindsOf m_nextOf m_holdsAt m_made m_standsFor m_madeNext m_madeHolds m_stateFor m_joined m_joinedNow_4 m_firstIn_4 m_orderOf m_classAt m_sets m_waysTo m_waysThen m_queue m_leastTo) → va_S A s.heap H locs → lv_has ls 4 [(0, .ref m_h), (1, .int v1_4), (2, .int v2_4)] → W p l e rX10_joins s m args below meth c H locs 0 0 Q (F0 m 4 ls []) := by
    intro f
    induction f with
    | zero => intro v1_4 v2_4 m_joinedNow_4 m_firstIn_4 H locs ls h hP hD hS hl; cases (show none = some _ from h)
    | succ f ih =>
      intro v1_4 v2_4 m_joinedNow_4 m_firstIn_4 H locs ls h hP hD hS hl
      rw [p_X10_joins_L4] at h
      refine lv_iload_n hx hb dX10_joins_4 rfl (lv_at hl 2 rfl) ?_
      refine lv_aload_n hx hb dX10_joins_5 rfl (lv_at hl 0 rfl) ?_
      refine va_get (D := G.1) (ci := 10) (v := .int m_made) (C := RX10) (T := TX10) (N := 20) hx hb hts hinX10 hown hK.1 hP 0 rfl rfl 5 (by decide) hf81 (fun _ h9 => h9) rfl dX10_joins_6 ?_
      refine lv_icmp_ge (tgt := 76) hx hb dX10_joins_9 (by decide) (fun c_9 => ?_) (fun c_9 => ?_)
      · replace h := (if_pos c_9).symm.trans h
        exact hX4 _ _ _  _ _ _ h hP hD hS (lv_sub hl [0, 1] rfl)
      · replace h := (if_neg c_9).symm.trans h
        refine lv_iconst (v := 0) hx hb dX10_joins_12 (by decide) ?_
        refine lv_istore_n (lv' := [(3, .int (0 : Int32)), (0, .ref m_h), (1, .int v1_4), (2, .int v2_4)]) hx hb dX10_joins_13 rfl hl (by decide) rfl (fun ls hl => ?_)
        obtain ⟨o3_14, hT14, h⟩ := ob1_e h
        have hX14 : ∀ (x3_14 : Int32)  (H : Heap) (locs : List Loc) (ls : Array Slot), some x3_14 = some o3_14 → va_P G.1 vwCl (WM G m_h m_q m_onBy m_toldBy m_kindsOf m_nextOf m_holdsAt m_made m_standsFor m_madeNext m_madeHolds m_stateFor m_joined m_joinedNow_4 m_firstIn_4 m_orderOf m_classAt m_sets m_waysTo m_waysThen m_queue m_leastTo) H → va_D A (WM G m_h m_q m_onBy m_toldBy m_kindsOf m_nextOf m_holdsAt m_made m_standsFor m_madeNext m_madeHolds m_stateFor m_joined m_joinedNow_4 m_firstIn_4 m_orderOf m_classAt m_sets m_waysTo m_waysThen m_queue m_leastTo) → va_S A s.heap H locs → lv_has ls 4 [(0, .ref m_h), (1, .int v1_4), (2, .int v2_4), (3, .int x3_14)] → W p l e rX10_joins s m args below meth c H locs 0 0 Q (F0 m 39 ls []) := by
          intro x3_14 H locs ls hq hP hD hS hl
          obtain rfl := oi1 hq
          refine lv_iload_n hx hb dX10_joins_39 rfl (lv_at hl 3 rfl) ?_
          refine lv_iload_n hx hb dX10_joins_40 rfl (lv_at hl 1 rfl) ?_
          refine lv_icmp_ne (tgt := 63) hx hb dX10_joins_41 (by decide) (fun c_41 => ?_) (fun c_41 => ?_)
          · replace h := (if_neg c_41).symm.trans h
            refine lv_aload_n hx hb dX10_joins_63 rfl (lv_at hl 0 rfl) ?_
            refine va_get (D := G.1) (ci := 10) (v := .ref (m_q 10)) (C := RX10) (T := TX10) (N := 20) hx hb hts hinX10 hown hK.1 hP 0 rfl rfl 11 (by decide) hf41 (fun _ h9 => h9) rfl dX10_joins_64 ?_
            refine lv_iload_n hx hb dX10_joins_67 rfl (lv_at hl 2 rfl) ?_
            refine lv_iload_n hx hb dX10_joins_68 rfl (lv_at hl 3 rfl) ?_
            obtain ⟨g_69, h⟩ := gi_e h
            refine va_iast hx hb hK.1 hP hD hS 11 0 rfl rfl g_69 dX10_joins_69 (fun H locs hP hD hS => ?_)
            have hP : va_P G.1 vwCl (WM G m_h m_q m_onBy m_toldBy m_kindsOf m_nextOf m_holdsAt m_made m_standsFor m_madeNext m_madeHolds m_stateFor m_joined (upd m_joinedNow_4 v2_4.toNatClampNeg o3_14) m_firstIn_4 m_orderOf m_classAt m_sets m_waysTo m_waysThen m_queue m_leastTo) H := hP
            have hD : va_D A (WM G m_h m_q m_onBy m_toldBy m_kindsOf m_nextOf m_holdsAt m_made m_standsFor m_madeNext m_madeHolds m_stateFor m_joined (upd m_joinedNow_4 v2_4.toNatClampNeg o3_14) m_firstIn_4 m_orderOf m_classAt m_sets m_waysTo m_waysThen m_queue m_leastTo) := hD
            refine lv_iinc (v := (v2_4 + (1 : Int32))) (lv' := [(2, .int (v2_4 + (1 : Int32))), (0, .ref m_h), (1, .int v1_4), (3, .int o3_14)]) hx hb dX10_joins_70 hl (k := 2) rfl rfl (by decide) rfl (fun ls hl => ?_)
            refine lv_goto (tgt := 4) hx hb dX10_joins_73 (by decide) ?_
            exact ih _ _ _ _  _ _ _ h hP hD hS (lv_sub hl [1, 2, 0] rfl)
          · replace h := (if_pos c_41).symm.trans h
            refine lv_iload_n hx hb dX10_joins_44 rfl (lv_at hl 1 rfl) ?_
            refine lv_bipush (v := 60) hx hb dX10_joins_45 (by decide) ?_
            refine lv_icmp_ne (tgt := 53) hx hb dX10_joins_47 (by decide) (fun c_47 => ?_) (fun c_47 => ?_)
            · replace h := (if_neg c_47).symm.trans h
              refine lv_aload_n hx hb dX10_joins_53 rfl (lv_at hl 0 rfl) ?_
              refine va_get (D := G.1) (ci := 10) (v := .ref (m_q 11)) (C := RX10) (T := TX10) (N := 20) hx hb hts hinX10 hown hK.1 hP 0 rfl rfl 12 (by decide) hf44 (fun _ h9 => h9) rfl dX10_joins_54 ?_
              refine lv_iload_n hx hb dX10_joins_57 rfl (lv_at hl 1 rfl) ?_
              refine lv_iload_n hx hb dX10_joins_58 rfl (lv_at hl 2 rfl) ?_
              obtain ⟨g_59, h⟩ := gi_e h
              refine va_iast hx hb hK.1 hP hD hS 12 0 rfl rfl g_59 dX10_joins_59 (fun H locs hP hD hS => ?_)
              have hP : va_P G.1 vwCl (WM G m_h m_q m_onBy m_toldBy m_kindsOf m_nextOf m_holdsAt m_made m_standsFor m_madeNext m_madeHolds m_stateFor m_joined m_joinedNow_4 (upd m_firstIn_4 v1_4.toNatClampNeg v2_4) m_orderOf m_classAt m_sets m_waysTo m_waysThen m_queue m_leastTo) H := hP
              have hD : va_D A (WM G m_h m_q m_onBy m_toldBy m_kindsOf m_nextOf m_holdsAt m_made m_standsFor m_madeNext m_madeHolds m_stateFor m_joined m_joinedNow_4 (upd m_firstIn_4 v1_4.toNatClampNeg v2_4) m_orderOf m_classAt m_sets m_waysTo m_waysThen m_queue m_leastTo) := hD
              refine lv_iinc (v := (v1_4 + (1 : Int32))) (lv' := [(1, .int (v1_4 + (1 : Int32))), (0, .ref m_h), (2, .int v2_4), (3, .int o3_14)]) hx hb dX10_joins_60 hl (k := 1) rfl rfl (by decide) rfl (fun ls hl => ?_)
              refine lv_aload_n hx hb dX10_joins_63 rfl (lv_at hl 1 rfl) ?_
              refine va_get (D := G.1) (ci := 10) (v := .ref (m_q 10)) (C := RX10) (T := TX10) (N := 20) hx hb hts hinX10 hown hK.1 hP 0 rfl rfl 11 (by decide) hf41 (fun _ h9 => h9) rfl dX10_joins_64 ?_
              refine lv_iload_n hx hb dX10_joins_67 rfl (lv_at hl 2 rfl) ?_
              refine lv_iload_n hx hb dX10_joins_68 rfl (lv_at hl 3 rfl) ?_
              obtain ⟨g_69, h⟩ := gi_e h
              refine va_iast hx hb hK.1 hP hD hS 11 0 rfl rfl g_69 dX10_joins_69 (fun H locs hP hD hS => ?_)
              have hP : va_P G.1 vwCl (WM G m_h m_q m_onBy m_toldBy m_kindsOf m_nextOf m_holdsAt m_made m_standsFor m_madeNext m_madeHolds m_stateFor m_joined (upd m_joinedNow_4 v2_4.toNatClampNeg o3_14) (upd m_firstIn_4 v1_4.toNatClampNeg v2_4) m_orderOf m_classAt m_sets m_waysTo m_waysThen m_queue m_leastTo) H := hP
              have hD : va_D A (WM G m_h m_q m_onBy m_toldBy m_kindsOf m_nextOf m_holdsAt m_made m_standsFor m_madeNext m_madeHolds m_stateFor m_joined (upd m_joinedNow_4 v2_4.toNatClampNeg o3_14) (upd m_firstIn_4 v1_4.toNatClampNeg v2_4) m_orderOf m_classAt m_sets m_waysTo m_waysThen m_queue m_leastTo) := hD
              refine lv_iinc (v := (v2_4 + (1 : Int32))) (lv' := [(2, .int (v2_4 + (1 : Int32))), (1, .int (v1_4 + (1 : Int32))), (0, .ref m_h), (3, .int o3_14)]) hx hb dX10_joins_70 hl (k := 2) rfl rfl (by decide) rfl (fun ls hl => ?_)
              refine lv_goto (tgt := 4) hx hb dX10_joins_73 (by decide) ?_
              exact ih _ _ _ _  _ _ _ h hP hD hS (lv_sub hl [2, 1, 0] rfl)
            · replace h := (if_pos c_47).symm.trans h
              refine lv_bipush (v := 61) hx hb dX10_joins_50 (by decide) ?_
              rcases hd4 with ⟨x, hx1, h2⟩ | ⟨_, _, _, hx1, _⟩
              · rw [hx1] at h
                have hx2 := oiL h
                rw [hx2] at h2
                replace h := h2
                obtain ⟨rfl, rfl, rfl, rfl⟩ := oi4 h
                exact hret (fun _ => 0) _ _ _ _ _ _ _ dX10_joins_52 rfl rfl hP hD hS (Nat.le_of_ble_eq_true rfl) (Nat.le_of_ble_eq_true rfl)
              · rw [hx1] at h; cases h
        have hL14 : ∀ (f : Nat) (v3_14 : Int32)  (H : Heap) (locs : List Loc) (ls : Array Slot), p_X10_joins_L14 n v1_4 m_madeNext m_joined m_firstIn_4 v2_4 f v3_14 = some o3_14 → va_P G.1 vwCl (WM G m_h m_q m_onBy m_toldBy m_kindsOf m_nextOf m_holdsAt m_made m_standsFor m_madeNext m_madeHolds m_stateFor m_joined m_joinedNow_4 m_firstIn_4 m_orderOf m_classAt m_sets m_waysTo m_waysThen m_queue m_leastTo) H → va_D A (WM G m_h m_q m_onBy m_toldBy m_kindsOf m_nextOf m_holdsAt m_made m_standsFor m_madeNext m_madeHolds m_stateFor m_joined m_joinedNow_4 m_firstIn_4 m_orderOf m_classAt m_sets m_waysTo m_waysThen m_queue m_leastTo) → va_S A s.heap H locs → lv_has ls 4 [(0, .ref m_h), (1, .int v1_4), (2, .int v2_4), (3, .int v3_14)] → W p l e rX10_joins s m args below meth c H locs 0 0 Q (F0 m 14 ls []) := by
          intro f
          induction f with
          | zero => intro v3_14 H locs ls h hP hD hS hl; cases (show none = some _ from h)
          | succ f ih =>
            intro v3_14 H locs ls h hP hD hS hl
            rw [p_X10_joins_L14] at h
            refine lv_iload_n hx hb dX10_joins_14 rfl (lv_at hl 3 rfl) ?_
            refine lv_iload_n hx hb dX10_joins_15 rfl (lv_at hl 1 rfl) ?_
            refine lv_icmp_ge (tgt := 39) hx hb dX10_joins_16 (by decide) (fun c_16 => ?_) (fun c_16 => ?_)
            · replace h := (if_pos c_16).symm.trans h
              exact hX14 _  _ _ _ h hP hD hS (lv_sub hl [0, 1, 2, 3] rfl)
            · replace h := (if_neg c_16).symm.trans h
              refine lv_aload_n hx hb dX10_joins_19 rfl (lv_at hl 0 rfl) ?_
              refine lv_aload_n hx hb dX10_joins_20 rfl (lv_at hl 0 rfl) ?_
              refine va_get (D := G.1) (ci := 10) (v := .ref (m_q 11)) (C := RX10) (T := TX10) (N := 20) hx hb hts hinX10 hown hK.1 hP 0 rfl rfl 12 (by decide) hf44 (fun _ h9 => h9) rfl dX10_joins_21 ?_
              refine lv_iload_n hx hb dX10_joins_24 rfl (lv_at hl 3 rfl) ?_
              obtain ⟨g_25, h⟩ := gi_e h
              refine va_iald hx hb hK.1 hP 12 0 rfl rfl g_25 dX10_joins_25 ?_
              refine lv_iload_n hx hb dX10_joins_26 rfl (lv_at hl 2 rfl) ?_
              obtain ⟨r_27, hc_27, h⟩ := ob1_e h
              refine k_si (va_runV (As := [.int (m_firstIn_4 v3_14.toNatClampNeg), .int v2_4]) (rest := []) ⟨hx, hb, hml, hown, hts⟩ (c_X10_areAlike l G n m_h m_q m_onBy m_toldBy m_kindsOf m_nextOf m_holdsAt m_made m_standsFor m_madeNext m_madeHolds m_stateFor m_joined m_joinedNow_4 m_firstIn_4 m_orderOf m_classAt m_sets m_waysTo m_waysThen m_queue m_leastTo (m_firstIn_4 v3_14.toNatClampNeg) v2_4 r_27 hc_27) (cwV 2 hts gX10_joins_X10_areAlike rfl rfl rfl ⟨rfl, eX10_areAlike⟩ ⟨Nat.le_of_ble_eq_true rfl, Nat.le_of_ble_eq_true rfl⟩) (preSV (ci := 10) (q0 := 0) hK hP rfl rfl) rfl rfl hl.1 rfl (lv_room (Nat.le_of_ble_eq_true rfl)) dX10_joins_27 ⟨Nat.le_of_ble_eq_true rfl, Nat.le_of_ble_eq_true rfl⟩) ?_
              refine lv_if_ne (tgt := 39) hx hb dX10_joins_30 (by decide) (fun c_30 => ?_) (fun c_30 => ?_)
              · replace h := (if_neg c_30).symm.trans h
                exact hX14 _  _ _ _ h hP hD hS (lv_sub hl [0, 1, 2, 3] rfl)
              · replace h := (if_pos c_30).symm.trans h
                refine lv_iinc (v := (v3_14 + (1 : Int32))) (lv' := [(3, .int (v3_14 + (1 : Int32))), (0, .ref m_h), (1, .int v1_4), (2, .int v2_4)]) hx hb dX10_joins_33 hl (k := 3) rfl rfl (by decide) rfl (fun ls hl => ?_)
                refine lv_goto (tgt := 14) hx hb dX10_joins_36 (by decide) ?_
                exact ih _  _ _ _ h hP hD hS (lv_sub hl [1, 2, 3, 0] rfl)
        exact hL14 n _  _ _ _ hT14 hP hD hS (lv_sub hl [1, 2, 3, 0] rfl)
  exact hL4 n _ _ _ _  _ _ _ hT4 hP hD hS (lv_sub hl [2, 1, 0] rfl)
