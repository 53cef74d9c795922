abbrev rX9_place : Room := { frames := 2, cells := 0, slots := 0, locals := 44 }
set_option maxHeartbeats 4000000 in
set_option maxRecDepth 100000 in
theorem c_X9_place (l : Launch) (G : GG) (z_h : Nat) (z_q : Nat) (z_fh : Nat → Nat) (z_hr : Nat) (z_hl : Nat) (z_hk : Nat) (z_he : Nat) (z_ht : Nat) (r_q : Nat → Nat) (l_hd : Nat) (k_hp : Nat) (e_hs : Nat) (e_q : Nat → Nat) (s_q : Nat → Nat) (t_q : Nat → Nat) (d_q : Nat → Nat) (d_a : Nat → Nat) (p_q : Nat → Nat) (f_q : Nat → Nat → Nat) (r_goes : AI) (r_told : AI) (e_steps : AL) (e_yes : Int64) (s_sets : AL) (s_slots : AI) (s_count : Int32) (t_ways : AL) (t_freshWays : AL) (t_leastTo : AL) (t_waiting : AI) (d_rm : Nat) (d_stateOf : AI) (d_kindOf : AI) (d_order : AI) (d_rooms : Int32) (d_count : Int32) (d_next : AI) (d_says : AI) (d_note : AI) (d_sort : AI) (d_freshSort : AI) (p_table : AI) (p_turn : Int32) (p_count : Int32) (f_next : AF) (f_says : AF) (f_size : AI)  (v1 : Int32) (v2 : Int32) (v3 : Int32) (v4 : Int32) (sz : Nat) (r : Int32) (r_goes_z : AI) (r_told_z : AI) (h : p_X9_place r_goes r_told v1 v2 v3 v4 = some (r, r_goes_z, r_told_z)) : CI l yX9_place wsX9_place rX9_place G [.ref z_h, .int v1, .int v2, .int v3, .int v4] ((WX G z_h z_q z_fh z_hr z_hl z_hk z_he z_ht r_q l_hd k_hp e_hs e_q s_q t_q d_q d_a p_q r_goes r_told e_steps e_yes s_sets s_slots s_count t_ways t_freshWays t_leastTo t_waiting d_rm d_stateOf d_kindOf d_order d_rooms d_count d_next d_says d_note d_sort d_freshSort p_table p_turn p_count) ++ (WF G z_fh f_q f_next f_says f_size)) sz r (fun u => (WX G z_h z_q z_fh z_hr z_hl z_hk z_he z_ht r_q l_hd k_hp e_hs e_q s_q t_q d_q d_a p_q r_goes_z r_told_z e_steps e_yes s_sets s_slots s_count t_ways t_freshWays t_leastTo t_waiting d_rm d_stateOf d_kindOf d_order d_rooms d_count d_next d_says d_note d_sort d_freshSort p_table p_turn p_count) ++ (WF G z_fh f_q f_next f_says f_size)) := by
  refine enterCI (cc := cX9_place) (maxL := 5) (by decide) rfl (Nat.le_of_ble_eq_true rfl) ?_
  intro p e s m args below meth c A Q hx hb hml hown hts hK hP hD hS hA hret ls hl
  have hown : s.vm.findClass RX9 = some m.cls := hown
  have hf14 := hts (.fieldLink RX9 14 "DigitClaims" "theRow" "LDigitClaims$RowMachine;") (by decide +kernel)
  have hinX9 : ∀ w ∈ wsX90, w ∈ wsX9_place := by decide +kernel
  have hl : lv_has ls 5 [(0, .ref z_h), (1, .int v1), (2, .int v2), (3, .int v3), (4, .int v4)] := hl
  unfold p_X9_place at h
  refine lv_iload_n hx hb dX9_place_0 rfl (lv_at hl 1 rfl) ?_
  obtain ⟨r_1, hc_1, h⟩ := ob1_e h
  refine k_si (va_runS (As := [.int v1]) (rest := []) ⟨hx, hb, hml, hown, hts⟩ (c_X9_isPlace l G    v1 r_1 hc_1) (va_cwS 1 hts gX9_place_X9_isPlace rfl rfl rfl eX9_isPlace ⟨Nat.le_of_ble_eq_true rfl, Nat.le_of_ble_eq_true rfl⟩) (preSS hK (fun k q h => by cases h)) rfl rfl hl.1 rfl (lv_room (Nat.le_of_ble_eq_true rfl)) dX9_place_1 ⟨Nat.le_of_ble_eq_true rfl, Nat.le_of_ble_eq_true rfl⟩) ?_
  refine lv_if_eq (tgt := 21) hx hb dX9_place_4 (by decide) (fun c_4 => ?_) (fun c_4 => ?_)
  · replace h := (if_pos c_4).symm.trans h
    refine lv_iconst (v := -1) hx hb dX9_place_21 (by decide) ?_
    obtain ⟨rfl, rfl, rfl⟩ := oi3 h
    exact hret (fun _ => 0) _ _ _ _ _ _ _ dX9_place_22 rfl rfl hP hD hS (Nat.le_of_ble_eq_true rfl) (Nat.le_of_ble_eq_true rfl)
  · replace h := (if_neg c_4).symm.trans h
    refine lv_iload_n hx hb dX9_place_7 rfl (lv_at hl 2 rfl) ?_
    obtain ⟨r_8, hc_8, h⟩ := ob1_e h
    refine k_si (va_runS (As := [.int v2]) (rest := []) ⟨hx, hb, hml, hown, hts⟩ (c_X9_isPlace l G    v2 r_8 hc_8) (va_cwS 1 hts gX9_place_X9_isPlace rfl rfl rfl eX9_isPlace ⟨Nat.le_of_ble_eq_true rfl, Nat.le_of_ble_eq_true rfl⟩) (preSS hK (fun k q h => by cases h)) rfl rfl hl.1 rfl (lv_room (Nat.le_of_ble_eq_true rfl)) dX9_place_8 ⟨Nat.le_of_ble_eq_true rfl, Nat.le_of_ble_eq_true rfl⟩) ?_
    refine lv_if_eq (tgt := 21) hx hb dX9_place_11 (by decide) (fun c_11 => ?_) (fun c_11 => ?_)
    · replace h := (if_pos c_11).symm.trans h
      refine lv_iconst (v := -1) hx hb dX9_place_21 (by decide) ?_
      obtain ⟨rfl, rfl, rfl⟩ := oi3 h
      exact hret (fun _ => 0) _ _ _ _ _ _ _ dX9_place_22 rfl rfl hP hD hS (Nat.le_of_ble_eq_true rfl) (Nat.le_of_ble_eq_true rfl)
    · replace h := (if_neg c_11).symm.trans h
      refine lv_iload_n hx hb dX9_place_14 rfl (lv_at hl 3 rfl) ?_
      obtain ⟨r_15, hc_15, h⟩ := ob1_e h
      refine k_si (va_runS (As := [.int v3]) (rest := []) ⟨hx, hb, hml, hown, hts⟩ (c_X9_isPlace l G    v3 r_15 hc_15) (va_cwS 1 hts gX9_place_X9_isPlace rfl rfl rfl eX9_isPlace ⟨Nat.le_of_ble_eq_true rfl, Nat.le_of_ble_eq_true rfl⟩) (preSS hK (fun k q h => by cases h)) rfl rfl hl.1 rfl (lv_room (Nat.le_of_ble_eq_true rfl)) dX9_place_15 ⟨Nat.le_of_ble_eq_true rfl, Nat.le_of_ble_eq_true rfl⟩) ?_
      refine lv_if_ne (tgt := 23) hx hb dX9_place_18 (by decide) (fun c_18 => ?_) (fun c_18 => ?_)
      · replace h := (if_neg c_18).symm.trans h
        refine lv_iload hx hb dX9_place_23 (lv_at hl 4 rfl) ?_
        obtain ⟨r_25, hc_25, h⟩ := ob1_e h
        refine k_si (va_runS (As := [.int v4]) (rest := []) ⟨hx, hb, hml, hown, hts⟩ (c_X9_isTelling l G    v4 r_25 hc_25) (va_cwS 1 hts gX9_place_X9_isTelling rfl rfl rfl eX9_isTelling ⟨Nat.le_of_ble_eq_true rfl, Nat.le_of_ble_eq_true rfl⟩) (preSS hK (fun k q h => by cases h)) rfl rfl hl.1 rfl (lv_room (Nat.le_of_ble_eq_true rfl)) dX9_place_25 ⟨Nat.le_of_ble_eq_true rfl, Nat.le_of_ble_eq_true rfl⟩) ?_
        refine lv_if_ne (tgt := 34) hx hb dX9_place_28 (by decide) (fun c_28 => ?_) (fun c_28 => ?_)
        · replace h := (if_neg c_28).symm.trans h
          refine lv_iload_n hx hb dX9_place_34 rfl (lv_at hl 1 rfl) ?_
          refine lv_if_ne (tgt := 45) hx hb dX9_place_35 (by decide) (fun c_35 => ?_) (fun c_35 => ?_)
          · replace h := (if_neg c_35).symm.trans h
            refine lv_aload_n hx hb dX9_place_45 rfl (lv_at hl 0 rfl) ?_
            refine va_get (D := G.1) (ci := 9) (v := .ref z_hr) (C := RX9) (T := TX9) (N := 7) hx hb hts hinX9 hown hK.1 hP 0 rfl rfl 0 (by decide) hf14 (fun _ h9 => h9) rfl dX9_place_46 ?_
            refine lv_iload_n hx hb dX9_place_49 rfl (lv_at hl 1 rfl) ?_
            refine lv_iload_n hx hb dX9_place_50 rfl (lv_at hl 2 rfl) ?_
            refine lv_iload_n hx hb dX9_place_51 rfl (lv_at hl 3 rfl) ?_
            refine lv_iload hx hb dX9_place_52 (lv_at hl 4 rfl) ?_
            obtain ⟨r_goes_54, r_told_54, hc_54, h⟩ := ob2_e h
            refine k_cv (wr := [(z_h, .inr (9, [.ref z_hr, .ref z_q, .ref (z_fh 6), .ref z_hl, .ref z_hk, .ref z_he, .ref z_ht])), (z_q, .inl (G.2 3, 6, .inr (.inr (.inr (.inr (fun i => some (z_fh i))))))), (z_hl, .inr (4, [.ref (l_hd)])), (z_hk, .inr (2, [.ref (l_hd), .ref (k_hp)])), (z_he, .inr (6, [.ref (l_hd), .ref (e_hs), .ref (e_q 0), .long e_yes])), (e_q 0, .inl (G.2 2, 480, .inr (.inl e_steps))), (e_hs, .inr (7, [.ref (s_q 0), .ref (s_q 1), .int s_count])), (s_q 0, .inl (G.2 2, 300, .inr (.inl s_sets))), (s_q 1, .inl (G.2 0, 1024, .inl s_slots)), (z_ht, .inr (8, [.ref (t_q 0), .ref (t_q 1), .ref (t_q 2), .ref (t_q 3)])), (t_q 0, .inl (G.2 2, 60, .inr (.inl t_ways))), (t_q 1, .inl (G.2 2, 60, .inr (.inl t_freshWays))), (t_q 2, .inl (G.2 2, 60, .inr (.inl t_leastTo))), (t_q 3, .inl (G.2 0, 60, .inl t_waiting)), (l_hd, .inr (1, [.ref (k_hp), .ref (d_q 0), .ref (d_q 1), .ref (d_q 2), .int d_rooms, .int d_count, .ref (d_a 0), .ref (d_a 1), .ref (d_a 2), .ref (d_a 3), .ref (d_a 4)])), (d_q 0, .inl (G.2 0, 60, .inl d_stateOf)), (d_q 1, .inl (G.2 0, 60, .inl d_kindOf)), (d_q 2, .inl (G.2 0, 60, .inl d_order)), (d_a 0, .inl (G.2 0, 8 * d_rm, .inl d_next)), (d_a 1, .inl (G.2 1, d_rm, .inl d_says)), (d_a 2, .inl (G.2 0, d_rm, .inl d_note)), (d_a 3, .inl (G.2 0, d_rm, .inl d_sort)), (d_a 4, .inl (G.2 0, d_rm, .inl d_freshSort)), (k_hp, .inr (3, [.ref (p_q 0), .int p_turn, .int p_count])), (p_q 0, .inl (G.2 0, 4096, .inl p_table)), (z_fh 0, .inr (0, [.ref (f_q 0 0), .ref (f_q 0 1), .int (f_size 0)])), (f_q 0 0, .inl (G.2 0, 480, .inl (f_next 0))), (f_q 0 1, .inl (G.2 1, 60, .inl (f_says 0))), (z_fh 1, .inr (0, [.ref (f_q 1 0), .ref (f_q 1 1), .int (f_size 1)])), (f_q 1 0, .inl (G.2 0, 480, .inl (f_next 1))), (f_q 1 1, .inl (G.2 1, 60, .inl (f_says 1))), (z_fh 2, .inr (0, [.ref (f_q 2 0), .ref (f_q 2 1), .int (f_size 2)])), (f_q 2 0, .inl (G.2 0, 480, .inl (f_next 2))), (f_q 2 1, .inl (G.2 1, 60, .inl (f_says 2))), (z_fh 3, .inr (0, [.ref (f_q 3 0), .ref (f_q 3 1), .int (f_size 3)])), (f_q 3 0, .inl (G.2 0, 480, .inl (f_next 3))), (f_q 3 1, .inl (G.2 1, 60, .inl (f_says 3))), (z_fh 4, .inr (0, [.ref (f_q 4 0), .ref (f_q 4 1), .int (f_size 4)])), (f_q 4 0, .inl (G.2 0, 480, .inl (f_next 4))), (f_q 4 1, .inl (G.2 1, 60, .inl (f_says 4))), (z_fh 5, .inr (0, [.ref (f_q 5 0), .ref (f_q 5 1), .int (f_size 5)])), (f_q 5 0, .inl (G.2 0, 480, .inl (f_next 5))), (f_q 5 1, .inl (G.2 1, 60, .inl (f_says 5))), (z_fh 6, .inr (0, [.ref (f_q 6 0), .ref (f_q 6 1), .int (f_size 6)])), (f_q 6 0, .inl (G.2 0, 480, .inl (f_next 6))), (f_q 6 1, .inl (G.2 1, 60, .inl (f_says 6)))]) (va_runV (As := [.int v1, .int v2, .int v3, .int v4]) (rest := []) ⟨hx, hb, hml, hown, hts⟩ (c_X5_put l G z_hr r_q r_goes r_told  v1 v2 v3 v4 _ r_goes_54 r_told_54 hc_54) (cwV 4 hts gX9_place_X5_put rfl rfl rfl ⟨rfl, eX5_put⟩ ⟨Nat.le_of_ble_eq_true rfl, Nat.le_of_ble_eq_true rfl⟩) (preWV (ci := 5) (q0 := 0) hK (hP.sub (ws' := WR G z_hr r_q r_goes r_told) [2, 3, 4] rfl) (hD.sub (ws' := WR G z_hr r_q r_goes r_told) [2, 3, 4] (by decide) rfl) rfl rfl) rfl rfl hl.1 rfl (lv_room (Nat.le_of_ble_eq_true rfl)) dX9_place_54 ⟨Nat.le_of_ble_eq_true rfl, Nat.le_of_ble_eq_true rfl⟩) hP hD hS hA [2, 3, 4] [0, 1, 5, 6, 7, 8, 9, 10, 11, 12, 13, 14, 15, 16, 17, 18, 19, 20, 21, 22, 23, 24, 25, 26, 27, 28, 29, 30, 31, 32, 33, 34, 35, 36, 37, 38, 39, 40, 41, 42, 43, 44, 45, 46, 47, 48] rfl rfl (by decide) (by decide) (fun u_54 H locs hP hD hS => ?_)
            have hP := hP.sub (ws' := (WX G z_h z_q z_fh z_hr z_hl z_hk z_he z_ht r_q l_hd k_hp e_hs e_q s_q t_q d_q d_a p_q r_goes_54 r_told_54 e_steps e_yes s_sets s_slots s_count t_ways t_freshWays t_leastTo t_waiting d_rm d_stateOf d_kindOf d_order d_rooms d_count d_next d_says d_note d_sort d_freshSort p_table p_turn p_count) ++ (WF G z_fh f_q f_next f_says f_size)) [0, 1, 46, 47, 48, 2, 3, 4, 5, 6, 7, 8, 9, 10, 11, 12, 13, 14, 15, 16, 17, 18, 19, 20, 21, 22, 23, 24, 25, 26, 27, 28, 29, 30, 31, 32, 33, 34, 35, 36, 37, 38, 39, 40, 41, 42, 43, 44, 45] rfl
            have hD := hD.sub (ws' := (WX G z_h z_q z_fh z_hr z_hl z_hk z_he z_ht r_q l_hd k_hp e_hs e_q s_q t_q d_q d_a p_q r_goes_54 r_told_54 e_steps e_yes s_sets s_slots s_count t_ways t_freshWays t_leastTo t_waiting d_rm d_stateOf d_kindOf d_order d_rooms d_count d_next d_says d_note d_sort d_freshSort p_table p_turn p_count) ++ (WF G z_fh f_q f_next f_says f_size)) [0, 1, 46, 47, 48, 2, 3, 4, 5, 6, 7, 8, 9, 10, 11, 12, 13, 14, 15, 16, 17, 18, 19, 20, 21, 22, 23, 24, 25, 26, 27, 28, 29, 30, 31, 32, 33, 34, 35, 36, 37, 38, 39, 40, 41, 42, 43, 44, 45] (by decide) rfl
            refine lv_iconst (v := 1) hx hb dX9_place_57 (by decide) ?_
            obtain ⟨rfl, rfl, rfl⟩ := oi3 h
            exact hret (fun _ => 0) _ _ _ _ _ _ _ dX9_place_58 rfl rfl hP hD hS (Nat.le_of_ble_eq_true rfl) (Nat.le_of_ble_eq_true rfl)
          · replace h := (if_pos c_35).symm.trans h
            refine lv_iload_n hx hb dX9_place_38 rfl (lv_at hl 2 rfl) ?_
            refine lv_if_eq (tgt := 45) hx hb dX9_place_39 (by decide) (fun c_39 => ?_) (fun c_39 => ?_)
            · replace h := (if_pos c_39).symm.trans h
              refine lv_aload_n hx hb dX9_place_45 rfl (lv_at hl 0 rfl) ?_
              refine va_get (D := G.1) (ci := 9) (v := .ref z_hr) (C := RX9) (T := TX9) (N := 7) hx hb hts hinX9 hown hK.1 hP 0 rfl rfl 0 (by decide) hf14 (fun _ h9 => h9) rfl dX9_place_46 ?_
              refine lv_iload_n hx hb dX9_place_49 rfl (lv_at hl 1 rfl) ?_
              refine lv_iload_n hx hb dX9_place_50 rfl (lv_at hl 2 rfl) ?_
              refine lv_iload_n hx hb dX9_place_51 rfl (lv_at hl 3 rfl) ?_
              refine lv_iload hx hb dX9_place_52 (lv_at hl 4 rfl) ?_
              obtain ⟨r_goes_54, r_told_54, hc_54, h⟩ := ob2_e h
              refine k_cv (wr := [(z_h, .inr (9, [.ref z_hr, .ref z_q, .ref (z_fh 6), .ref z_hl, .ref z_hk, .ref z_he, .ref z_ht])), (z_q, .inl (G.2 3, 6, .inr (.inr (.inr (.inr (fun i => some (z_fh i))))))), (z_hl, .inr (4, [.ref (l_hd)])), (z_hk, .inr (2, [.ref (l_hd), .ref (k_hp)])), (z_he, .inr (6, [.ref (l_hd), .ref (e_hs), .ref (e_q 0), .long e_yes])), (e_q 0, .inl (G.2 2, 480, .inr (.inl e_steps))), (e_hs, .inr (7, [.ref (s_q 0), .ref (s_q 1), .int s_count])), (s_q 0, .inl (G.2 2, 300, .inr (.inl s_sets))), (s_q 1, .inl (G.2 0, 1024, .inl s_slots)), (z_ht, .inr (8, [.ref (t_q 0), .ref (t_q 1), .ref (t_q 2), .ref (t_q 3)])), (t_q 0, .inl (G.2 2, 60, .inr (.inl t_ways))), (t_q 1, .inl (G.2 2, 60, .inr (.inl t_freshWays))), (t_q 2, .inl (G.2 2, 60, .inr (.inl t_leastTo))), (t_q 3, .inl (G.2 0, 60, .inl t_waiting)), (l_hd, .inr (1, [.ref (k_hp), .ref (d_q 0), .ref (d_q 1), .ref (d_q 2), .int d_rooms, .int d_count, .ref (d_a 0), .ref (d_a 1), .ref (d_a 2), .ref (d_a 3), .ref (d_a 4)])), (d_q 0, .inl (G.2 0, 60, .inl d_stateOf)), (d_q 1, .inl (G.2 0, 60, .inl d_kindOf)), (d_q 2, .inl (G.2 0, 60, .inl d_order)), (d_a 0, .inl (G.2 0, 8 * d_rm, .inl d_next)), (d_a 1, .inl (G.2 1, d_rm, .inl d_says)), (d_a 2, .inl (G.2 0, d_rm, .inl d_note)), (d_a 3, .inl (G.2 0, d_rm, .inl d_sort)), (d_a 4, .inl (G.2 0, d_rm, .inl d_freshSort)), (k_hp, .inr (3, [.ref (p_q 0), .int p_turn, .int p_count])), (p_q 0, .inl (G.2 0, 4096, .inl p_table)), (z_fh 0, .inr (0, [.ref (f_q 0 0), .ref (f_q 0 1), .int (f_size 0)])), (f_q 0 0, .inl (G.2 0, 480, .inl (f_next 0))), (f_q 0 1, .inl (G.2 1, 60, .inl (f_says 0))), (z_fh 1, .inr (0, [.ref (f_q 1 0), .ref (f_q 1 1), .int (f_size 1)])), (f_q 1 0, .inl (G.2 0, 480, .inl (f_next 1))), (f_q 1 1, .inl (G.2 1, 60, .inl (f_says 1))), (z_fh 2, .inr (0, [.ref (f_q 2 0), .ref (f_q 2 1), .int (f_size 2)])), (f_q 2 0, .inl (G.2 0, 480, .inl (f_next 2))), (f_q 2 1, .inl (G.2 1, 60, .inl (f_says 2))), (z_fh 3, .inr (0, [.ref (f_q 3 0), .ref (f_q 3 1), .int (f_size 3)])), (f_q 3 0, .inl (G.2 0, 480, .inl (f_next 3))), (f_q 3 1, .inl (G.2 1, 60, .inl (f_says 3))), (z_fh 4, .inr (0, [.ref (f_q 4 0), .ref (f_q 4 1), .int (f_size 4)])), (f_q 4 0, .inl (G.2 0, 480, .inl (f_next 4))), (f_q 4 1, .inl (G.2 1, 60, .inl (f_says 4))), (z_fh 5, .inr (0, [.ref (f_q 5 0), .ref (f_q 5 1), .int (f_size 5)])), (f_q 5 0, .inl (G.2 0, 480, .inl (f_next 5))), (f_q 5 1, .inl (G.2 1, 60, .inl (f_says 5))), (z_fh 6, .inr (0, [.ref (f_q 6 0), .ref (f_q 6 1), .int (f_size 6)])), (f_q 6 0, .inl (G.2 0, 480, .inl (f_next 6))), (f_q 6 1, .inl (G.2 1, 60, .inl (f_says 6)))]) (va_runV (As := [.int v1, .int v2, .int v3, .int v4]) (rest := []) ⟨hx, hb, hml, hown, hts⟩ (c_X5_put l G z_hr r_q r_goes r_told  v1 v2 v3 v4 _ r_goes_54 r_told_54 hc_54) (cwV 4 hts gX9_place_X5_put rfl rfl rfl ⟨rfl, eX5_put⟩ ⟨Nat.le_of_ble_eq_true rfl, Nat.le_of_ble_eq_true rfl⟩) (preWV (ci := 5) (q0 := 0) hK (hP.sub (ws' := WR G z_hr r_q r_goes r_told) [2, 3, 4] rfl) (hD.sub (ws' := WR G z_hr r_q r_goes r_told) [2, 3, 4] (by decide) rfl) rfl rfl) rfl rfl hl.1 rfl (lv_room (Nat.le_of_ble_eq_true rfl)) dX9_place_54 ⟨Nat.le_of_ble_eq_true rfl, Nat.le_of_ble_eq_true rfl⟩) hP hD hS hA [2, 3, 4] [0, 1, 5, 6, 7, 8, 9, 10, 11, 12, 13, 14, 15, 16, 17, 18, 19, 20, 21, 22, 23, 24, 25, 26, 27, 28, 29, 30, 31, 32, 33, 34, 35, 36, 37, 38, 39, 40, 41, 42, 43, 44, 45, 46, 47, 48] rfl rfl (by decide) (by decide) (fun u_54 H locs hP hD hS => ?_)
              have hP := hP.sub (ws' := (WX G z_h z_q z_fh z_hr z_hl z_hk z_he z_ht r_q l_hd k_hp e_hs e_q s_q t_q d_q d_a p_q r_goes_54 r_told_54 e_steps e_yes s_sets s_slots s_count t_ways t_freshWays t_leastTo t_waiting d_rm d_stateOf d_kindOf d_order d_rooms d_count d_next d_says d_note d_sort d_freshSort p_table p_turn p_count) ++ (WF G z_fh f_q f_next f_says f_size)) [0, 1, 46, 47, 48, 2, 3, 4, 5, 6, 7, 8, 9, 10, 11, 12, 13, 14, 15, 16, 17, 18, 19, 20, 21, 22, 23, 24, 25, 26, 27, 28, 29, 30, 31, 32, 33, 34, 35, 36, 37, 38, 39, 40, 41, 42, 43, 44, 45] rfl
              have hD := hD.sub (ws' := (WX G z_h z_q z_fh z_hr z_hl z_hk z_he z_ht r_q l_hd k_hp e_hs e_q s_q t_q d_q d_a p_q r_goes_54 r_told_54 e_steps e_yes s_sets s_slots s_count t_ways t_freshWays t_leastTo t_waiting d_rm d_stateOf d_kindOf d_order d_rooms d_count d_next d_says d_note d_sort d_freshSort p_table p_turn p_count) ++ (WF G z_fh f_q f_next f_says f_size)) [0, 1, 46, 47, 48, 2, 3, 4, 5, 6, 7, 8, 9, 10, 11, 12, 13, 14, 15, 16, 17, 18, 19, 20, 21, 22, 23, 24, 25, 26, 27, 28, 29, 30, 31, 32, 33, 34, 35, 36, 37, 38, 39, 40, 41, 42, 43, 44, 45] (by decide) rfl
              refine lv_iconst (v := 1) hx hb dX9_place_57 (by decide) ?_
              obtain ⟨rfl, rfl, rfl⟩ := oi3 h
              exact hret (fun _ => 0) _ _ _ _ _ _ _ dX9_place_58 rfl rfl hP hD hS (Nat.le_of_ble_eq_true rfl) (Nat.le_of_ble_eq_true rfl)
            · replace h := (if_neg c_39).symm.trans h
              refine lv_bipush (v := -3) hx hb dX9_place_42 (by decide) ?_
              obtain ⟨rfl, rfl, rfl⟩ := oi3 h
              exact hret (fun _ => 0) _ _ _ _ _ _ _ dX9_place_44 rfl rfl hP hD hS (Nat.le_of_ble_eq_true rfl) (Nat.le_of_ble_eq_true rfl)
        · replace h := (if_pos c_28).symm.trans h
          refine lv_bipush (v := -2) hx hb dX9_place_31 (by decide) ?_
          obtain ⟨rfl, rfl, rfl⟩ := oi3 h
          exact hret (fun _ => 0) _ _ _ _ _ _ _ dX9_place_33 rfl rfl hP hD hS (Nat.le_of_ble_eq_true rfl) (Nat.le_of_ble_eq_true rfl)
      · replace h := (if_pos c_18).symm.trans h
        refine lv_iconst (v := -1) hx hb dX9_place_21 (by decide) ?_
        obtain ⟨rfl, rfl, rfl⟩ := oi3 h
        exact hret (fun _ => 0) _ _ _ _ _ _ _ dX9_place_22 rfl rfl hP hD hS (Nat.le_of_ble_eq_true rfl) (Nat.le_of_ble_eq_true rfl)
abbrev rX9_ofPlace : Room := { frames := 2, cells := 0, slots := 0, locals := 42 }
set_option maxHeartbeats 4000000 in
set_option maxRecDepth 100000 in
theorem c_X9_ofPlace (l : Launch) (G : GG) (z_h : Nat) (z_q : Nat) (z_fh : Nat → Nat) (z_hr : Nat) (z_hl : Nat) (z_hk : Nat) (z_he : Nat) (z_ht : Nat) (r_q : Nat → Nat) (l_hd : Nat) (k_hp : Nat) (e_hs : Nat) (e_q : Nat → Nat) (s_q : Nat → Nat) (t_q : Nat → Nat) (d_q : Nat → Nat) (d_a : Nat → Nat) (p_q : Nat → Nat) (f_q : Nat → Nat → Nat) (r_goes : AI) (r_told : AI) (e_steps : AL) (e_yes : Int64) (s_sets : AL) (s_slots : AI) (s_count : Int32) (t_ways : AL) (t_freshWays : AL) (t_leastTo : AL) (t_waiting : AI) (d_rm : Nat) (d_stateOf : AI) (d_kindOf : AI) (d_order : AI) (d_rooms : Int32) (d_count : Int32) (d_next : AI) (d_says : AI) (d_note : AI) (d_sort : AI) (d_freshSort : AI) (p_table : AI) (p_turn : Int32) (p_count : Int32) (f_next : AF) (f_says : AF) (f_size : AI)  (v1 : Int32) (v2 : Int32) (r : Int32) (h : p_X9_ofPlace r_goes r_told v1 v2 = some r) : SI l yX9_ofPlace wsX9_ofPlace rX9_ofPlace G [.ref z_h, .int v1, .int v2] ((WX G z_h z_q z_fh z_hr z_hl z_hk z_he z_ht r_q l_hd k_hp e_hs e_q s_q t_q d_q d_a p_q r_goes r_told e_steps e_yes s_sets s_slots s_count t_ways t_freshWays t_leastTo t_waiting d_rm d_stateOf d_kindOf d_order d_rooms d_count d_next d_says d_note d_sort d_freshSort p_table p_turn p_count) ++ (WF G z_fh f_q f_next f_says f_size)) r := by
  refine enterSI (cc := cX9_ofPlace) (maxL := 3) (by decide) rfl (Nat.le_of_ble_eq_true rfl) ?_
  intro p e s m args below meth c Q hx hb hml hown hts hK hP hret ls hl
  have hown : s.vm.findClass RX9 = some m.cls := hown
  have hf14 := hts (.fieldLink RX9 14 "DigitClaims" "theRow" "LDigitClaims$RowMachine;") (by decide +kernel)
  have hinX9 : ∀ w ∈ wsX90, w ∈ wsX9_ofPlace := by decide +kernel
  have hl : lv_has ls 3 [(0, .ref z_h), (1, .int v1), (2, .int v2)] := hl
  unfold p_X9_ofPlace at h
  refine lv_iload_n hx hb dX9_ofPlace_0 rfl (lv_at hl 1 rfl) ?_
  obtain ⟨r_1, hc_1, h⟩ := ob1_e h
  refine k_si (va_runS (As := [.int v1]) (rest := []) ⟨hx, hb, hml, hown, hts⟩ (c_X9_isPlace l G    v1 r_1 hc_1) (va_cwS 1 hts gX9_ofPlace_X9_isPlace rfl rfl rfl eX9_isPlace ⟨Nat.le_of_ble_eq_true rfl, Nat.le_of_ble_eq_true rfl⟩) (preSS hK (fun k q h => by cases h)) rfl rfl hl.1 rfl (lv_room (Nat.le_of_ble_eq_true rfl)) dX9_ofPlace_1 ⟨Nat.le_of_ble_eq_true rfl, Nat.le_of_ble_eq_true rfl⟩) ?_
  refine lv_if_ne (tgt := 9) hx hb dX9_ofPlace_4 (by decide) (fun c_4 => ?_) (fun c_4 => ?_)
  · replace h := (if_neg c_4).symm.trans h
    refine lv_iload_n hx hb dX9_ofPlace_9 rfl (lv_at hl 2 rfl) ?_
    refine lv_if_lt (tgt := 18) hx hb dX9_ofPlace_10 (by decide) (fun c_10 => ?_) (fun c_10 => ?_)
    · replace h := (if_pos c_10).symm.trans h
      refine lv_bipush (v := -2) hx hb dX9_ofPlace_18 (by decide) ?_
      obtain rfl := oi1 h
      exact hret _ _ _ dX9_ofPlace_20 rfl rfl
    · replace h := (if_neg c_10).symm.trans h
      refine lv_iload_n hx hb dX9_ofPlace_13 rfl (lv_at hl 2 rfl) ?_
      refine lv_iconst (v := 2) hx hb dX9_ofPlace_14 (by decide) ?_
      refine lv_icmp_le (tgt := 21) hx hb dX9_ofPlace_15 (by decide) (fun c_15 => ?_) (fun c_15 => ?_)
      · replace h := (if_pos c_15).symm.trans h
        refine lv_iload_n hx hb dX9_ofPlace_21 rfl (lv_at hl 2 rfl) ?_
        refine lv_iconst (v := 2) hx hb dX9_ofPlace_22 (by decide) ?_
        refine lv_icmp_ne (tgt := 37) hx hb dX9_ofPlace_23 (by decide) (fun c_23 => ?_) (fun c_23 => ?_)
        · replace h := (if_neg c_23).symm.trans h
          refine lv_aload_n hx hb dX9_ofPlace_37 rfl (lv_at hl 0 rfl) ?_
          refine va_get (D := G.1) (ci := 9) (v := .ref z_hr) (C := RX9) (T := TX9) (N := 7) hx hb hts hinX9 hown hK.1 hP 0 rfl rfl 0 (by decide) hf14 (fun _ h9 => h9) rfl dX9_ofPlace_38 ?_
          refine lv_iload_n hx hb dX9_ofPlace_41 rfl (lv_at hl 1 rfl) ?_
          refine lv_iload_n hx hb dX9_ofPlace_42 rfl (lv_at hl 2 rfl) ?_
          obtain ⟨r_43, hc_43, h⟩ := ob1_e h
          refine k_si (va_runV (As := [.int v1, .int v2]) (rest := []) ⟨hx, hb, hml, hown, hts⟩ (c_X5_goesOn l G z_hr r_q r_goes r_told  v1 v2 r_43 hc_43) (cwV 2 hts gX9_ofPlace_X5_goesOn rfl rfl rfl ⟨rfl, eX5_goesOn⟩ ⟨Nat.le_of_ble_eq_true rfl, Nat.le_of_ble_eq_true rfl⟩) (preSV (ci := 5) (q0 := 0) hK (hP.sub (ws' := WR G z_hr r_q r_goes r_told) [2, 3, 4] rfl) rfl rfl) rfl rfl hl.1 rfl (lv_room (Nat.le_of_ble_eq_true rfl)) dX9_ofPlace_43 ⟨Nat.le_of_ble_eq_true rfl, Nat.le_of_ble_eq_true rfl⟩) ?_
          obtain rfl := oi1 h
          exact hret _ _ _ dX9_ofPlace_46 rfl rfl
        · replace h := (if_pos c_23).symm.trans h
          refine lv_aload_n hx hb dX9_ofPlace_26 rfl (lv_at hl 0 rfl) ?_
          refine va_get (D := G.1) (ci := 9) (v := .ref z_hr) (C := RX9) (T := TX9) (N := 7) hx hb hts hinX9 hown hK.1 hP 0 rfl rfl 0 (by decide) hf14 (fun _ h9 => h9) rfl dX9_ofPlace_27 ?_
          refine lv_iload_n hx hb dX9_ofPlace_30 rfl (lv_at hl 1 rfl) ?_
          obtain ⟨r_31, hc_31, h⟩ := ob1_e h
          refine k_si (va_runV (As := [.int v1]) (rest := []) ⟨hx, hb, hml, hown, hts⟩ (c_X5_toldAt l G z_hr r_q r_goes r_told  v1 r_31 hc_31) (cwV 1 hts gX9_ofPlace_X5_toldAt rfl rfl rfl ⟨rfl, eX5_toldAt⟩ ⟨Nat.le_of_ble_eq_true rfl, Nat.le_of_ble_eq_true rfl⟩) (preSV (ci := 5) (q0 := 0) hK (hP.sub (ws' := WR G z_hr r_q r_goes r_told) [2, 3, 4] rfl) rfl rfl) rfl rfl hl.1 rfl (lv_room (Nat.le_of_ble_eq_true rfl)) dX9_ofPlace_31 ⟨Nat.le_of_ble_eq_true rfl, Nat.le_of_ble_eq_true rfl⟩) ?_
          refine lv_goto (tgt := 46) hx hb dX9_ofPlace_34 (by decide) ?_
          obtain rfl := oi1 h
          exact hret _ _ _ dX9_ofPlace_46 rfl rfl
      · replace h := (if_neg c_15).symm.trans h
        refine lv_bipush (v := -2) hx hb dX9_ofPlace_18 (by decide) ?_
        obtain rfl := oi1 h
        exact hret _ _ _ dX9_ofPlace_20 rfl rfl
  · replace h := (if_pos c_4).symm.trans h
    refine lv_iconst (v := -1) hx hb dX9_ofPlace_7 (by decide) ?_
    obtain rfl := oi1 h
    exact hret _ _ _ dX9_ofPlace_8 rfl rfl
abbrev rX9_row : Room := { frames := 3, cells := 0, slots := 0, locals := 65 }
set_option maxHeartbeats 4000000 in
set_option maxRecDepth 100000 in
theorem c_X9_row (l : Launch) (G : GG) (n : Nat) (z_h : Nat) (z_q : Nat) (z_fh : Nat → Nat) (z_hr : Nat) (z_hl : Nat) (z_hk : Nat) (z_he : Nat) (z_ht : Nat) (r_q : Nat → Nat) (l_hd : Nat) (k_hp : Nat) (e_hs : Nat) (e_q : Nat → Nat) (s_q : Nat → Nat) (t_q : Nat → Nat) (d_q : Nat → Nat) (d_a : Nat → Nat) (p_q : Nat → Nat) (f_q : Nat → Nat → Nat) (r_goes : AI) (r_told : AI) (e_steps : AL) (e_yes : Int64) (s_sets : AL) (s_slots : AI) (s_count : Int32) (t_ways : AL) (t_freshWays : AL) (t_leastTo : AL) (t_waiting : AI) (d_rm : Nat) (d_stateOf : AI) (d_kindOf : AI) (d_order : AI) (d_rooms : Int32) (d_count : Int32) (d_next : AI) (d_says : AI) (d_note : AI) (d_sort : AI) (d_freshSort : AI) (p_table : AI) (p_turn : Int32) (p_count : Int32) (f_next : AF) (f_says : AF) (f_size : AI)  (v1 : Int32) (r : Int32) (h : p_X9_row n r_goes r_told v1 = some r) : SI l yX9_row wsX9_row rX9_row G [.ref z_h, .int v1] ((WX G z_h z_q z_fh z_hr z_hl z_hk z_he z_ht r_q l_hd k_hp e_hs e_q s_q t_q d_q d_a p_q r_goes r_told e_steps e_yes s_sets s_slots s_count t_ways t_freshWays t_leastTo t_waiting d_rm d_stateOf d_kindOf d_order d_rooms d_count d_next d_says d_note d_sort d_freshSort p_table p_turn p_count) ++ (WF G z_fh f_q f_next f_says f_size)) r := by
  refine enterSI (cc := cX9_row) (maxL := 2) (by decide) rfl (Nat.le_of_ble_eq_true rfl) ?_
  intro p e s m args below meth c Q hx hb hml hown hts hK hP hret ls hl
  have hown : s.vm.findClass RX9 = some m.cls := hown
  have hf14 := hts (.fieldLink RX9 14 "DigitClaims" "theRow" "LDigitClaims$RowMachine;") (by decide +kernel)
  have hinX9 : ∀ w ∈ wsX90, w ∈ wsX9_row := by decide +kernel
  have hl : lv_has ls 2 [(0, .ref z_h), (1, .int v1)] := hl
  unfold p_X9_row at h
  refine lv_iload_n hx hb dX9_row_0 rfl (lv_at hl 1 rfl) ?_
  obtain ⟨r_1, hc_1, h⟩ := ob1_e h
  refine k_si (va_runS (As := [.int v1]) (rest := []) ⟨hx, hb, hml, hown, hts⟩ (c_X9_isTold l G    v1 r_1 hc_1) (va_cwS 1 hts gX9_row_X9_isTold rfl rfl rfl eX9_isTold ⟨Nat.le_of_ble_eq_true rfl, Nat.le_of_ble_eq_true rfl⟩) (preSS hK (fun k q h => by cases h)) rfl rfl hl.1 rfl (lv_room (Nat.le_of_ble_eq_true rfl)) dX9_row_1 ⟨Nat.le_of_ble_eq_true rfl, Nat.le_of_ble_eq_true rfl⟩) ?_
  refine lv_if_ne (tgt := 10) hx hb dX9_row_4 (by decide) (fun c_4 => ?_) (fun c_4 => ?_)
  · replace h := (if_neg c_4).symm.trans h
    refine lv_aload_n hx hb dX9_row_10 rfl (lv_at hl 0 rfl) ?_
    refine va_get (D := G.1) (ci := 9) (v := .ref z_hr) (C := RX9) (T := TX9) (N := 7) hx hb hts hinX9 hown hK.1 hP 0 rfl rfl 0 (by decide) hf14 (fun _ h9 => h9) rfl dX9_row_11 ?_
    refine lv_iload_n hx hb dX9_row_14 rfl (lv_at hl 1 rfl) ?_
    obtain ⟨r_15, hc_15, h⟩ := ob1_e h
    refine k_si (va_runV (As := [.int v1]) (rest := []) ⟨hx, hb, hml, hown, hts⟩ (c_X5_toldOf l G n z_hr r_q r_goes r_told  v1 r_15 hc_15) (cwV 1 hts gX9_row_X5_toldOf rfl rfl rfl ⟨rfl, eX5_toldOf⟩ ⟨Nat.le_of_ble_eq_true rfl, Nat.le_of_ble_eq_true rfl⟩) (preSV (ci := 5) (q0 := 0) hK (hP.sub (ws' := WR G z_hr r_q r_goes r_told) [2, 3, 4] rfl) rfl rfl) rfl rfl hl.1 rfl (lv_room (Nat.le_of_ble_eq_true rfl)) dX9_row_15 ⟨Nat.le_of_ble_eq_true rfl, Nat.le_of_ble_eq_true rfl⟩) ?_
    obtain rfl := oi1 h
    exact hret _ _ _ dX9_row_18 rfl rfl
  · replace h := (if_pos c_4).symm.trans h
    refine lv_bipush (v := -2) hx hb dX9_row_7 (by decide) ?_
    obtain rfl := oi1 h
    exact hret _ _ _ dX9_row_9 rfl rfl
abbrev rX9_isThere : Room := { frames := 1, cells := 0, slots := 0, locals := 20 }
set_option maxHeartbeats 4000000 in
set_option maxRecDepth 100000 in
theorem c_X9_isThere (l : Launch) (G : GG) (z_h : Nat) (z_q : Nat) (z_fh : Nat → Nat) (z_hr : Nat) (z_hl : Nat) (z_hk : Nat) (z_he : Nat) (z_ht : Nat) (r_q : Nat → Nat) (l_hd : Nat) (k_hp : Nat) (e_hs : Nat) (e_q : Nat → Nat) (s_q : Nat → Nat) (t_q : Nat → Nat) (d_q : Nat → Nat) (d_a : Nat → Nat) (p_q : Nat → Nat) (f_q : Nat → Nat → Nat) (r_goes : AI) (r_told : AI) (e_steps : AL) (e_yes : Int64) (s_sets : AL) (s_slots : AI) (s_count : Int32) (t_ways : AL) (t_freshWays : AL) (t_leastTo : AL) (t_waiting : AI) (d_rm : Nat) (d_stateOf : AI) (d_kindOf : AI) (d_order : AI) (d_rooms : Int32) (d_count : Int32) (d_next : AI) (d_says : AI) (d_note : AI) (d_sort : AI) (d_freshSort : AI) (p_table : AI) (p_turn : Int32) (p_count : Int32) (f_next : AF) (f_says : AF) (f_size : AI)  (v1 : Int32) (r : Int32) (h : p_X9_isThere f_size v1 = some r) : SI l yX9_isThere wsX9_isThere rX9_isThere G [.ref z_h, .int v1] ((WX G z_h z_q z_fh z_hr z_hl z_hk z_he z_ht r_q l_hd k_hp e_hs e_q s_q t_q d_q d_a p_q r_goes r_told e_steps e_yes s_sets s_slots s_count t_ways t_freshWays t_leastTo t_waiting d_rm d_stateOf d_kindOf d_order d_rooms d_count d_next d_says d_note d_sort d_freshSort p_table p_turn p_count) ++ (WF G z_fh f_q f_next f_says f_size)) r := by
  refine enterSI (cc := cX9_isThere) (maxL := 2) (by decide) rfl (Nat.le_of_ble_eq_true rfl) ?_
  intro p e s m args below meth c Q hx hb hml hown hts hK hP hret ls hl
  have hown : s.vm.findClass RX9 = some m.cls := hown
  have hf20 := hts (.fieldLink RX9 20 "DigitClaims" "claims" "[LDigitClaims$Claim;") (by decide +kernel)
  have hinX9 : ∀ w ∈ wsX90, w ∈ wsX9_isThere := by decide +kernel
  have hl : lv_has ls 2 [(0, .ref z_h), (1, .int v1)] := hl
  unfold p_X9_isThere at h
  refine lv_iload_n hx hb dX9_isThere_0 rfl (lv_at hl 1 rfl) ?_
  obtain ⟨r_1, hc_1, h⟩ := ob1_e h
  refine k_si (va_runS (As := [.int v1]) (rest := []) ⟨hx, hb, hml, hown, hts⟩ (c_X9_isClaim l G    v1 r_1 hc_1) (va_cwS 1 hts gX9_isThere_X9_isClaim rfl rfl rfl eX9_isClaim ⟨Nat.le_of_ble_eq_true rfl, Nat.le_of_ble_eq_true rfl⟩) (preSS hK (fun k q h => by cases h)) rfl rfl hl.1 rfl (lv_room (Nat.le_of_ble_eq_true rfl)) dX9_isThere_1 ⟨Nat.le_of_ble_eq_true rfl, Nat.le_of_ble_eq_true rfl⟩) ?_
  refine lv_if_eq (tgt := 23) hx hb dX9_isThere_4 (by decide) (fun c_4 => ?_) (fun c_4 => ?_)
  · replace h := (if_pos c_4).symm.trans h
    refine lv_iconst (v := 0) hx hb dX9_isThere_23 (by decide) ?_
    obtain ⟨gbv, h⟩ := gb_e h
    obtain rfl := oi1 h
    exact hret _ _ _ dX9_isThere_24 rfl (nb gbv)
  · replace h := (if_neg c_4).symm.trans h
    refine lv_aload_n hx hb dX9_isThere_7 rfl (lv_at hl 0 rfl) ?_
    refine va_get (D := G.1) (ci := 9) (v := .ref z_q) (C := RX9) (T := TX9) (N := 7) hx hb hts hinX9 hown hK.1 hP 0 rfl rfl 1 (by decide) hf20 (fun _ h9 => h9) rfl dX9_isThere_8 ?_
    refine lv_iload_n hx hb dX9_isThere_11 rfl (lv_at hl 1 rfl) ?_
    obtain ⟨g_12, h⟩ := gi_e h
    refine va_aldq hx hb hK.1 hP 1 3 rfl rfl g_12 dX9_isThere_12 ?_
    refine W.eq (g2 := F0 m 13 ls [.ref (z_fh (v1.toNatClampNeg))]) rfl ?_
    obtain ⟨r_13, hc_13, h⟩ := ob1_e h
    refine k_si (va_runV (As := []) (rest := []) ⟨hx, hb, hml, hown, hts⟩ (c_X0_size l G (z_fh (v1.toNatClampNeg)) (f_q (v1.toNatClampNeg)) (f_next (v1.toNatClampNeg)) (f_says (v1.toNatClampNeg)) (f_size (v1.toNatClampNeg))   r_13 hc_13) (cwV 0 hts gX9_isThere_X0_size rfl rfl rfl ⟨rfl, eX0_size⟩ ⟨Nat.le_of_ble_eq_true rfl, Nat.le_of_ble_eq_true rfl⟩) (preSV (ci := 0) (q0 := 0) hK (famC hP.right (v1.toNatClampNeg) (in6 g_12)) rfl rfl) rfl rfl hl.1 rfl (lv_room (Nat.le_of_ble_eq_true rfl)) dX9_isThere_13 ⟨Nat.le_of_ble_eq_true rfl, Nat.le_of_ble_eq_true rfl⟩) ?_
    refine lv_if_le (tgt := 23) hx hb dX9_isThere_16 (by decide) (fun c_16 => ?_) (fun c_16 => ?_)
    · replace h := (if_pos c_16).symm.trans h
      refine lv_iconst (v := 0) hx hb dX9_isThere_23 (by decide) ?_
      obtain ⟨gbv, h⟩ := gb_e h
      obtain rfl := oi1 h
      exact hret _ _ _ dX9_isThere_24 rfl (nb gbv)
    · replace h := (if_neg c_16).symm.trans h
      refine lv_iconst (v := 1) hx hb dX9_isThere_19 (by decide) ?_
      refine lv_goto (tgt := 24) hx hb dX9_isThere_20 (by decide) ?_
      obtain ⟨gbv, h⟩ := gb_e h
      obtain rfl := oi1 h
      exact hret _ _ _ dX9_isThere_24 rfl (nb gbv)
abbrev rX9_equal (ms1 : Nat) : Room := { frames := 6, cells := 5, slots := ms1, locals := 135 }
set_option maxHeartbeats 4000000 in
set_option maxRecDepth 100000 in
theorem c_X9_equal (l : Launch) (G : GG) (n : Nat) (z_h : Nat) (z_q : Nat) (z_fh : Nat → Nat) (z_hr : Nat) (z_hl : Nat) (z_hk : Nat) (z_he : Nat) (z_ht : Nat) (r_q : Nat → Nat) (l_hd : Nat) (k_hp : Nat) (e_hs : Nat) (e_q : Nat → Nat) (s_q : Nat → Nat) (t_q : Nat → Nat) (d_q : Nat → Nat) (d_a : Nat → Nat) (p_q : Nat → Nat) (f_q : Nat → Nat → Nat) (r_goes : AI) (r_told : AI) (e_steps : AL) (e_yes : Int64) (s_sets : AL) (s_slots : AI) (s_count : Int32) (t_ways : AL) (t_freshWays : AL) (t_leastTo : AL) (t_waiting : AI) (d_rm : Nat) (d_stateOf : AI) (d_kindOf : AI) (d_order : AI) (d_rooms : Int32) (d_count : Int32) (d_next : AI) (d_says : AI) (d_note : AI) (d_sort : AI) (d_freshSort : AI) (p_table : AI) (p_turn : Int32) (p_count : Int32) (f_next : AF) (f_says : AF) (f_size : AI)  (v1 : Int32) (v2 : Int32) (v3 : Int32) (rmx1 : Nat) (ms1 : Nat) (hms1 : rmx1 = d_rm ∨ 12 * rmx1 ≤ ms1) (sz : Nat) (r : Int32) (d_rm_z : Nat) (d_stateOf_z : AI) (d_kindOf_z : AI) (d_order_z : AI) (d_rooms_z : Int32) (d_count_z : Int32) (d_next_z : AI) (d_says_z : AI) (d_note_z : AI) (d_sort_z : AI) (d_freshSort_z : AI) (p_table_z : AI) (p_turn_z : Int32) (p_count_z : Int32) (f_next_z : AF) (f_says_z : AF) (f_size_z : AI) (h : p_X9_equal n d_rm d_stateOf d_kindOf d_order d_rooms d_count d_next d_says d_note d_sort d_freshSort p_table p_turn p_count f_next f_says f_size rmx1 v1 v2 v3 = some (r, d_rm_z, d_stateOf_z, d_kindOf_z, d_order_z, d_rooms_z, d_count_z, d_next_z, d_says_z, d_note_z, d_sort_z, d_freshSort_z, p_table_z, p_turn_z, p_count_z, f_next_z, f_says_z, f_size_z)) : CI l yX9_equal wsX9_equal (rX9_equal ms1) G [.ref z_h, .int v1, .int v2, .int v3] ((WX G z_h z_q z_fh z_hr z_hl z_hk z_he z_ht r_q l_hd k_hp e_hs e_q s_q t_q d_q d_a p_q r_goes r_told e_steps e_yes s_sets s_slots s_count t_ways t_freshWays t_leastTo t_waiting d_rm d_stateOf d_kindOf d_order d_rooms d_count d_next d_says d_note d_sort d_freshSort p_table p_turn p_count) ++ (WF G z_fh f_q f_next f_says f_size)) sz r (fun u => (WX G z_h z_q z_fh z_hr z_hl z_hk z_he z_ht r_q l_hd k_hp e_hs e_q s_q t_q d_q u p_q r_goes r_told e_steps e_yes s_sets s_slots s_count t_ways t_freshWays t_leastTo t_waiting d_rm_z d_stateOf_z d_kindOf_z d_order_z d_rooms_z d_count_z d_next_z d_says_z d_note_z d_sort_z d_freshSort_z p_table_z p_turn_z p_count_z) ++ (WF G z_fh f_q f_next_z f_says_z f_size_z)) := by
  refine enterCI (cc := cX9_equal) (maxL := 4) (by decide) rfl (Nat.le_of_ble_eq_true rfl) ?_
  intro p e s m args below meth c A Q hx hb hml hown hts hK hP hD hS hA hret ls hl
  have hown : s.vm.findClass RX9 = some m.cls := hown
  have hf20 := hts (.fieldLink RX9 20 "DigitClaims" "claims" "[LDigitClaims$Claim;") (by decide +kernel)
  have hf42 := hts (.fieldLink RX9 42 "DigitClaims" "plain" "LDigitClaims$PlainClaims;") (by decide +kernel)
  have hinX9 : ∀ w ∈ wsX90, w ∈ wsX9_equal := by decide +kernel
  have hl : lv_has ls 4 [(0, .ref z_h), (1, .int v1), (2, .int v2), (3, .int v3)] := hl
  unfold p_X9_equal at h
  refine lv_iload_n hx hb dX9_equal_0 rfl (lv_at hl 1 rfl) ?_
  obtain ⟨r_1, hc_1, h⟩ := ob1_e h
  refine k_si (va_runS (As := [.int v1]) (rest := []) ⟨hx, hb, hml, hown, hts⟩ (c_X9_isClaim l G    v1 r_1 hc_1) (va_cwS 1 hts gX9_equal_X9_isClaim rfl rfl rfl eX9_isClaim ⟨Nat.le_of_ble_eq_true rfl, Nat.le_of_ble_eq_true rfl⟩) (preSS hK (fun k q h => by cases h)) rfl rfl hl.1 rfl (lv_room (Nat.le_of_ble_eq_true rfl)) dX9_equal_1 ⟨Nat.le_of_ble_eq_true rfl, by show 0 + 0 ≤ ms1; omega⟩) ?_
  refine lv_if_eq (tgt := 15) hx hb dX9_equal_4 (by decide) (fun c_4 => ?_) (fun c_4 => ?_)
  · replace h := (if_pos c_4).symm.trans h
    refine lv_iconst (v := -1) hx hb dX9_equal_15 (by decide) ?_
    obtain ⟨rfl, rfl, rfl, rfl, rfl, rfl, rfl, rfl, rfl, rfl, rfl, rfl, rfl, rfl, rfl, rfl, rfl, rfl⟩ := oi18 h
    exact hret d_a _ _ _ _ _ _ _ dX9_equal_16 rfl rfl hP hD hS (Nat.zero_le _) (Nat.zero_le _)
  · replace h := (if_neg c_4).symm.trans h
    refine lv_iload_n hx hb dX9_equal_7 rfl (lv_at hl 2 rfl) ?_
    refine lv_iload_n hx hb dX9_equal_8 rfl (lv_at hl 3 rfl) ?_
    obtain ⟨r_9, hc_9, h⟩ := ob1_e h
    refine k_si (va_runS (As := [.int v2, .int v3]) (rest := []) ⟨hx, hb, hml, hown, hts⟩ (c_X9_areTwoNumbers l G    v2 v3 r_9 hc_9) (va_cwS 2 hts gX9_equal_X9_areTwoNumbers rfl rfl rfl eX9_areTwoNumbers ⟨Nat.le_of_ble_eq_true rfl, Nat.le_of_ble_eq_true rfl⟩) (preSS hK (fun k q h => by cases h)) rfl rfl hl.1 rfl (lv_room (Nat.le_of_ble_eq_true rfl)) dX9_equal_9 ⟨Nat.le_of_ble_eq_true rfl, by show 0 + 0 ≤ ms1; omega⟩) ?_
    refine lv_if_ne (tgt := 17) hx hb dX9_equal_12 (by decide) (fun c_12 => ?_) (fun c_12 => ?_)
    · replace h := (if_neg c_12).symm.trans h
      refine lv_aload_n hx hb dX9_equal_17 rfl (lv_at hl 0 rfl) ?_
      refine va_get (D := G.1) (ci := 9) (v := .ref z_hl) (C := RX9) (T := TX9) (N := 7) hx hb hts hinX9 hown hK.1 hP 0 rfl rfl 3 (by decide) hf42 (fun _ h9 => h9) rfl dX9_equal_18 ?_
      refine lv_aload_n hx hb dX9_equal_21 rfl (lv_at hl 0 rfl) ?_
      refine va_get (D := G.1) (ci := 9) (v := .ref z_q) (C := RX9) (T := TX9) (N := 7) hx hb hts hinX9 hown hK.1 hP 0 rfl rfl 1 (by decide) hf20 (fun _ h9 => h9) rfl dX9_equal_22 ?_
      refine lv_iload_n hx hb dX9_equal_25 rfl (lv_at hl 1 rfl) ?_
      obtain ⟨g_26, h⟩ := gi_e h
      refine va_aldq hx hb hK.1 hP 1 3 rfl rfl g_26 dX9_equal_26 ?_
      refine W.eq (g2 := F0 m 27 ls [.ref (z_fh (v1.toNatClampNeg)), .ref z_hl]) rfl ?_
      refine lv_iload_n hx hb dX9_equal_27 rfl (lv_at hl 2 rfl) ?_
      refine lv_iload_n hx hb dX9_equal_28 rfl (lv_at hl 3 rfl) ?_
      obtain ⟨r_29, d_rm_29, d_stateOf_29, d_kindOf_29, d_order_29, d_rooms_29, d_count_29, d_next_29, d_says_29, d_note_29, d_sort_29, d_freshSort_29, p_table_29, p_turn_29, p_count_29, y_next_29, y_says_29, y_size_29, hc_29, h⟩ := ob18_e h
      refine k_ciF (X := WX G z_h z_q z_fh z_hr z_hl z_hk z_he z_ht r_q l_hd k_hp e_hs e_q s_q t_q d_q d_a p_q r_goes r_told e_steps e_yes s_sets s_slots s_count t_ways t_freshWays t_leastTo t_waiting d_rm d_stateOf d_kindOf d_order d_rooms d_count d_next d_says d_note d_sort d_freshSort p_table p_turn p_count) (Xc := (WL G z_hl l_hd) ++ (WD G l_hd k_hp d_q d_a d_rm d_stateOf d_kindOf d_order d_rooms d_count d_next d_says d_note d_sort d_freshSort) ++ (WP G k_hp p_q p_table p_turn p_count)) (wr := [(z_h, .inr (9, [.ref z_hr, .ref z_q, .ref (z_fh 6), .ref z_hl, .ref z_hk, .ref z_he, .ref z_ht])), (z_q, .inl (G.2 3, 6, .inr (.inr (.inr (.inr (fun i => some (z_fh i))))))), (z_hr, .inr (5, [.ref (r_q 0), .ref (r_q 1)])), (r_q 0, .inl (G.2 0, 10, .inl r_goes)), (r_q 1, .inl (G.2 0, 5, .inl r_told)), (z_hk, .inr (2, [.ref (l_hd), .ref (k_hp)])), (z_he, .inr (6, [.ref (l_hd), .ref (e_hs), .ref (e_q 0), .long e_yes])), (e_q 0, .inl (G.2 2, 480, .inr (.inl e_steps))), (e_hs, .inr (7, [.ref (s_q 0), .ref (s_q 1), .int s_count])), (s_q 0, .inl (G.2 2, 300, .inr (.inl s_sets))), (s_q 1, .inl (G.2 0, 1024, .inl s_slots)), (z_ht, .inr (8, [.ref (t_q 0), .ref (t_q 1), .ref (t_q 2), .ref (t_q 3)])), (t_q 0, .inl (G.2 2, 60, .inr (.inl t_ways))), (t_q 1, .inl (G.2 2, 60, .inr (.inl t_freshWays))), (t_q 2, .inl (G.2 2, 60, .inr (.inl t_leastTo))), (t_q 3, .inl (G.2 0, 60, .inl t_waiting))]) (x1 := fun u => (WL G z_hl l_hd) ++ (WD G l_hd k_hp d_q u d_rm_29 d_stateOf_29 d_kindOf_29 d_order_29 d_rooms_29 d_count_29 d_next_29 d_says_29 d_note_29 d_sort_29 d_freshSort_29) ++ (WP G k_hp p_q p_table_29 p_turn_29 p_count_29)) (fh := z_fh) (fq := f_q) (fn := f_next) (fs := f_says) (fz := f_size) (k := (v1.toNatClampNeg)) (nx := y_next_29) (sy := y_says_29) (sz := y_size_29) (in6 g_26) (va_runV (As := [.ref (z_fh (v1.toNatClampNeg)), .int v2, .int v3]) (rest := []) ⟨hx, hb, hml, hown, hts⟩ (c_X4_makeEqual l G n z_hl l_hd k_hp d_q d_a p_q (z_fh (v1.toNatClampNeg)) (f_q (v1.toNatClampNeg)) d_rm d_stateOf d_kindOf d_order d_rooms d_count d_next d_says d_note d_sort d_freshSort p_table p_turn p_count (f_next (v1.toNatClampNeg)) (f_says (v1.toNatClampNeg)) (f_size (v1.toNatClampNeg))  v2 v3 rmx1 ms1 hms1 _ r_29 d_rm_29 d_stateOf_29 d_kindOf_29 d_order_29 d_rooms_29 d_count_29 d_next_29 d_says_29 d_note_29 d_sort_29 d_freshSort_29 p_table_29 p_turn_29 p_count_29 y_next_29 y_says_29 y_size_29 hc_29) (cwV 3 hts gX9_equal_X4_makeEqual rfl rfl rfl ⟨rfl, eX4_makeEqual⟩ ⟨Nat.le_of_ble_eq_true rfl, Nat.le_of_ble_eq_true rfl⟩) (preWVF (X := WX G z_h z_q z_fh z_hr z_hl z_hk z_he z_ht r_q l_hd k_hp e_hs e_q s_q t_q d_q d_a p_q r_goes r_told e_steps e_yes s_sets s_slots s_count t_ways t_freshWays t_leastTo t_waiting d_rm d_stateOf d_kindOf d_order d_rooms d_count d_next d_says d_note d_sort d_freshSort p_table p_turn p_count) (Xc := (WL G z_hl l_hd) ++ (WD G l_hd k_hp d_q d_a d_rm d_stateOf d_kindOf d_order d_rooms d_count d_next d_says d_note d_sort d_freshSort) ++ (WP G k_hp p_q p_table p_turn p_count)) (ci := 4) (q0 := 0) hK hP hD (in6 g_26) [5, 17, 18, 19, 20, 21, 22, 23, 24, 25, 26, 27, 28, 29, 30] rfl (by decide) rfl rfl) rfl rfl hl.1 rfl (lv_room (Nat.le_of_ble_eq_true rfl)) dX9_equal_29 ⟨Nat.le_of_ble_eq_true rfl, by show 0 + (ms1) ≤ ms1; omega⟩) hP hD hS hA [5, 17, 18, 19, 20, 21, 22, 23, 24, 25, 26, 27, 28, 29, 30] [0, 1, 2, 3, 4, 6, 7, 8, 9, 10, 11, 12, 13, 14, 15, 16] rfl rfl (by decide) (by decide) (fun u_29 H locs hP hD hS => ?_)
      have hP := hP.part (cx := WX G z_h z_q z_fh z_hr z_hl z_hk z_he z_ht r_q l_hd k_hp e_hs e_q s_q t_q d_q u_29 p_q r_goes r_told e_steps e_yes s_sets s_slots s_count t_ways t_freshWays t_leastTo t_waiting d_rm_29 d_stateOf_29 d_kindOf_29 d_order_29 d_rooms_29 d_count_29 d_next_29 d_says_29 d_note_29 d_sort_29 d_freshSort_29 p_table_29 p_turn_29 p_count_29) [0, 1, 2, 3, 4, 16, 5, 6, 7, 8, 9, 10, 11, 12, 13, 14, 15, 17, 18, 19, 20, 21, 22, 23, 24, 25, 26, 27] rfl
      have hD := hD.part (cx := WX G z_h z_q z_fh z_hr z_hl z_hk z_he z_ht r_q l_hd k_hp e_hs e_q s_q t_q d_q u_29 p_q r_goes r_told e_steps e_yes s_sets s_slots s_count t_ways t_freshWays t_leastTo t_waiting d_rm_29 d_stateOf_29 d_kindOf_29 d_order_29 d_rooms_29 d_count_29 d_next_29 d_says_29 d_note_29 d_sort_29 d_freshSort_29 p_table_29 p_turn_29 p_count_29) [0, 1, 2, 3, 4, 16, 5, 6, 7, 8, 9, 10, 11, 12, 13, 14, 15, 17, 18, 19, 20, 21, 22, 23, 24, 25, 26, 27] (by decide) rfl
      have hP : va_P G.1 vwCl ((WX G z_h z_q z_fh z_hr z_hl z_hk z_he z_ht r_q l_hd k_hp e_hs e_q s_q t_q d_q u_29 p_q r_goes r_told e_steps e_yes s_sets s_slots s_count t_ways t_freshWays t_leastTo t_waiting d_rm_29 d_stateOf_29 d_kindOf_29 d_order_29 d_rooms_29 d_count_29 d_next_29 d_says_29 d_note_29 d_sort_29 d_freshSort_29 p_table_29 p_turn_29 p_count_29) ++ (WF G z_fh f_q (va_up f_next (v1.toNatClampNeg) y_next_29) (va_up f_says (v1.toNatClampNeg) y_says_29) (va_up f_size (v1.toNatClampNeg) y_size_29))) H := hP
      have hD : va_D A ((WX G z_h z_q z_fh z_hr z_hl z_hk z_he z_ht r_q l_hd k_hp e_hs e_q s_q t_q d_q u_29 p_q r_goes r_told e_steps e_yes s_sets s_slots s_count t_ways t_freshWays t_leastTo t_waiting d_rm_29 d_stateOf_29 d_kindOf_29 d_order_29 d_rooms_29 d_count_29 d_next_29 d_says_29 d_note_29 d_sort_29 d_freshSort_29 p_table_29 p_turn_29 p_count_29) ++ (WF G z_fh f_q (va_up f_next (v1.toNatClampNeg) y_next_29) (va_up f_says (v1.toNatClampNeg) y_says_29) (va_up f_size (v1.toNatClampNeg) y_size_29))) := hD
      obtain ⟨rfl, rfl, rfl, rfl, rfl, rfl, rfl, rfl, rfl, rfl, rfl, rfl, rfl, rfl, rfl, rfl, rfl, rfl⟩ := oi18 h
      exact hret u_29 _ _ _ _ _ _ _ dX9_equal_32 rfl rfl hP hD hS (Nat.le_of_ble_eq_true rfl) (by show 0 + (ms1) ≤ ms1; omega)
    · replace h := (if_pos c_12).symm.trans h
      refine lv_iconst (v := -1) hx hb dX9_equal_15 (by decide) ?_
      obtain ⟨rfl, rfl, rfl, rfl, rfl, rfl, rfl, rfl, rfl, rfl, rfl, rfl, rfl, rfl, rfl, rfl, rfl, rfl⟩ := oi18 h
      exact hret d_a _ _ _ _ _ _ _ dX9_equal_16 rfl rfl hP hD hS (Nat.zero_le _) (Nat.zero_le _)
abbrev rX9_less (ms1 : Nat) : Room := { frames := 6, cells := 5, slots := ms1, locals := 136 }
set_option maxHeartbeats 4000000 in
set_option maxRecDepth 100000 in
theorem c_X9_less (l : Launch) (G : GG) (n : Nat) (z_h : Nat) (z_q : Nat) (z_fh : Nat → Nat) (z_hr : Nat) (z_hl : Nat) (z_hk : Nat) (z_he : Nat) (z_ht : Nat) (r_q : Nat → Nat) (l_hd : Nat) (k_hp : Nat) (e_hs : Nat) (e_q : Nat → Nat) (s_q : Nat → Nat) (t_q : Nat → Nat) (d_q : Nat → Nat) (d_a : Nat → Nat) (p_q : Nat → Nat) (f_q : Nat → Nat → Nat) (r_goes : AI) (r_told : AI) (e_steps : AL) (e_yes : Int64) (s_sets : AL) (s_slots : AI) (s_count : Int32) (t_ways : AL) (t_freshWays : AL) (t_leastTo : AL) (t_waiting : AI) (d_rm : Nat) (d_stateOf : AI) (d_kindOf : AI) (d_order : AI) (d_rooms : Int32) (d_count : Int32) (d_next : AI) (d_says : AI) (d_note : AI) (d_sort : AI) (d_freshSort : AI) (p_table : AI) (p_turn : Int32) (p_count : Int32) (f_next : AF) (f_says : AF) (f_size : AI)  (v1 : Int32) (v2 : Int32) (v3 : Int32) (rmx1 : Nat) (ms1 : Nat) (hms1 : rmx1 = d_rm ∨ 12 * rmx1 ≤ ms1) (sz : Nat) (r : Int32) (d_rm_z : Nat) (d_stateOf_z : AI) (d_kindOf_z : AI) (d_order_z : AI) (d_rooms_z : Int32) (d_count_z : Int32) (d_next_z : AI) (d_says_z : AI) (d_note_z : AI) (d_sort_z : AI) (d_freshSort_z : AI) (p_table_z : AI) (p_turn_z : Int32) (p_count_z : Int32) (f_next_z : AF) (f_says_z : AF) (f_size_z : AI) (h : p_X9_less n d_rm d_stateOf d_kindOf d_order d_rooms d_count d_next d_says d_note d_sort d_freshSort p_table p_turn p_count f_next f_says f_size rmx1 v1 v2 v3 = some (r, d_rm_z, d_stateOf_z, d_kindOf_z, d_order_z, d_rooms_z, d_count_z, d_next_z, d_says_z, d_note_z, d_sort_z, d_freshSort_z, p_table_z, p_turn_z, p_count_z, f_next_z, f_says_z, f_size_z)) : CI l yX9_less wsX9_less (rX9_less ms1) G [.ref z_h, .int v1, .int v2, .int v3] ((WX G z_h z_q z_fh z_hr z_hl z_hk z_he z_ht r_q l_hd k_hp e_hs e_q s_q t_q d_q d_a p_q r_goes r_told e_steps e_yes s_sets s_slots s_count t_ways t_freshWays t_leastTo t_waiting d_rm d_stateOf d_kindOf d_order d_rooms d_count d_next d_says d_note d_sort d_freshSort p_table p_turn p_count) ++ (WF G z_fh f_q f_next f_says f_size)) sz r (fun u => (WX G z_h z_q z_fh z_hr z_hl z_hk z_he z_ht r_q l_hd k_hp e_hs e_q s_q t_q d_q u p_q r_goes r_told e_steps e_yes s_sets s_slots s_count t_ways t_freshWays t_leastTo t_waiting d_rm_z d_stateOf_z d_kindOf_z d_order_z d_rooms_z d_count_z d_next_z d_says_z d_note_z d_sort_z d_freshSort_z p_table_z p_turn_z p_count_z) ++ (WF G z_fh f_q f_next_z f_says_z f_size_z)) := by
  refine enterCI (cc := cX9_less) (maxL := 4) (by decide) rfl (Nat.le_of_ble_eq_true rfl) ?_
  intro p e s m args below meth c A Q hx hb hml hown hts hK hP hD hS hA hret ls hl
  have hown : s.vm.findClass RX9 = some m.cls := hown
  have hf20 := hts (.fieldLink RX9 20 "DigitClaims" "claims" "[LDigitClaims$Claim;") (by decide +kernel)
  have hf42 := hts (.fieldLink RX9 42 "DigitClaims" "plain" "LDigitClaims$PlainClaims;") (by decide +kernel)
  have hinX9 : ∀ w ∈ wsX90, w ∈ wsX9_less := by decide +kernel
  have hl : lv_has ls 4 [(0, .ref z_h), (1, .int v1), (2, .int v2), (3, .int v3)] := hl
  unfold p_X9_less at h
  refine lv_iload_n hx hb dX9_less_0 rfl (lv_at hl 1 rfl) ?_
  obtain ⟨r_1, hc_1, h⟩ := ob1_e h
  refine k_si (va_runS (As := [.int v1]) (rest := []) ⟨hx, hb, hml, hown, hts⟩ (c_X9_isClaim l G    v1 r_1 hc_1) (va_cwS 1 hts gX9_less_X9_isClaim rfl rfl rfl eX9_isClaim ⟨Nat.le_of_ble_eq_true rfl, Nat.le_of_ble_eq_true rfl⟩) (preSS hK (fun k q h => by cases h)) rfl rfl hl.1 rfl (lv_room (Nat.le_of_ble_eq_true rfl)) dX9_less_1 ⟨Nat.le_of_ble_eq_true rfl, by show 0 + 0 ≤ ms1; omega⟩) ?_
  refine lv_if_eq (tgt := 15) hx hb dX9_less_4 (by decide) (fun c_4 => ?_) (fun c_4 => ?_)
  · replace h := (if_pos c_4).symm.trans h
    refine lv_iconst (v := -1) hx hb dX9_less_15 (by decide) ?_
    obtain ⟨rfl, rfl, rfl, rfl, rfl, rfl, rfl, rfl, rfl, rfl, rfl, rfl, rfl, rfl, rfl, rfl, rfl, rfl⟩ := oi18 h
    exact hret d_a _ _ _ _ _ _ _ dX9_less_16 rfl rfl hP hD hS (Nat.zero_le _) (Nat.zero_le _)
  · replace h := (if_neg c_4).symm.trans h
    refine lv_iload_n hx hb dX9_less_7 rfl (lv_at hl 2 rfl) ?_
    refine lv_iload_n hx hb dX9_less_8 rfl (lv_at hl 3 rfl) ?_
    obtain ⟨r_9, hc_9, h⟩ := ob1_e h
    refine k_si (va_runS (As := [.int v2, .int v3]) (rest := []) ⟨hx, hb, hml, hown, hts⟩ (c_X9_areTwoNumbers l G    v2 v3 r_9 hc_9) (va_cwS 2 hts gX9_less_X9_areTwoNumbers rfl rfl rfl eX9_areTwoNumbers ⟨Nat.le_of_ble_eq_true rfl, Nat.le_of_ble_eq_true rfl⟩) (preSS hK (fun k q h => by cases h)) rfl rfl hl.1 rfl (lv_room (Nat.le_of_ble_eq_true rfl)) dX9_less_9 ⟨Nat.le_of_ble_eq_true rfl, by show 0 + 0 ≤ ms1; omega⟩) ?_
    refine lv_if_ne (tgt := 17) hx hb dX9_less_12 (by decide) (fun c_12 => ?_) (fun c_12 => ?_)
    · replace h := (if_neg c_12).symm.trans h
      refine lv_aload_n hx hb dX9_less_17 rfl (lv_at hl 0 rfl) ?_
      refine va_get (D := G.1) (ci := 9) (v := .ref z_hl) (C := RX9) (T := TX9) (N := 7) hx hb hts hinX9 hown hK.1 hP 0 rfl rfl 3 (by decide) hf42 (fun _ h9 => h9) rfl dX9_less_18 ?_
      refine lv_aload_n hx hb dX9_less_21 rfl (lv_at hl 0 rfl) ?_
      refine va_get (D := G.1) (ci := 9) (v := .ref z_q) (C := RX9) (T := TX9) (N := 7) hx hb hts hinX9 hown hK.1 hP 0 rfl rfl 1 (by decide) hf20 (fun _ h9 => h9) rfl dX9_less_22 ?_
      refine lv_iload_n hx hb dX9_less_25 rfl (lv_at hl 1 rfl) ?_
      obtain ⟨g_26, h⟩ := gi_e h
      refine va_aldq hx hb hK.1 hP 1 3 rfl rfl g_26 dX9_less_26 ?_
      refine W.eq (g2 := F0 m 27 ls [.ref (z_fh (v1.toNatClampNeg)), .ref z_hl]) rfl ?_
      refine lv_iload_n hx hb dX9_less_27 rfl (lv_at hl 2 rfl) ?_
      refine lv_iload_n hx hb dX9_less_28 rfl (lv_at hl 3 rfl) ?_
      obtain ⟨r_29, d_rm_29, d_stateOf_29, d_kindOf_29, d_order_29, d_rooms_29, d_count_29, d_next_29, d_says_29, d_note_29, d_sort_29, d_freshSort_29, p_table_29, p_turn_29, p_count_29, y_next_29, y_says_29, y_size_29, hc_29, h⟩ := ob18_e h
      refine k_ciF (X := WX G z_h z_q z_fh z_hr z_hl z_hk z_he z_ht r_q l_hd k_hp e_hs e_q s_q t_q d_q d_a p_q r_goes r_told e_steps e_yes s_sets s_slots s_count t_ways t_freshWays t_leastTo t_waiting d_rm d_stateOf d_kindOf d_order d_rooms d_count d_next d_says d_note d_sort d_freshSort p_table p_turn p_count) (Xc := (WL G z_hl l_hd) ++ (WD G l_hd k_hp d_q d_a d_rm d_stateOf d_kindOf d_order d_rooms d_count d_next d_says d_note d_sort d_freshSort) ++ (WP G k_hp p_q p_table p_turn p_count)) (wr := [(z_h, .inr (9, [.ref z_hr, .ref z_q, .ref (z_fh 6), .ref z_hl, .ref z_hk, .ref z_he, .ref z_ht])), (z_q, .inl (G.2 3, 6, .inr (.inr (.inr (.inr (fun i => some (z_fh i))))))), (z_hr, .inr (5, [.ref (r_q 0), .ref (r_q 1)])), (r_q 0, .inl (G.2 0, 10, .inl r_goes)), (r_q 1, .inl (G.2 0, 5, .inl r_told)), (z_hk, .inr (2, [.ref (l_hd), .ref (k_hp)])), (z_he, .inr (6, [.ref (l_hd), .ref (e_hs), .ref (e_q 0), .long e_yes])), (e_q 0, .inl (G.2 2, 480, .inr (.inl e_steps))), (e_hs, .inr (7, [.ref (s_q 0), .ref (s_q 1), .int s_count])), (s_q 0, .inl (G.2 2, 300, .inr (.inl s_sets))), (s_q 1, .inl (G.2 0, 1024, .inl s_slots)), (z_ht, .inr (8, [.ref (t_q 0), .ref (t_q 1), .ref (t_q 2), .ref (t_q 3)])), (t_q 0, .inl (G.2 2, 60, .inr (.inl t_ways))), (t_q 1, .inl (G.2 2, 60, .inr (.inl t_freshWays))), (t_q 2, .inl (G.2 2, 60, .inr (.inl t_leastTo))), (t_q 3, .inl (G.2 0, 60, .inl t_waiting))]) (x1 := fun u => (WL G z_hl l_hd) ++ (WD G l_hd k_hp d_q u d_rm_29 d_stateOf_29 d_kindOf_29 d_order_29 d_rooms_29 d_count_29 d_next_29 d_says_29 d_note_29 d_sort_29 d_freshSort_29) ++ (WP G k_hp p_q p_table_29 p_turn_29 p_count_29)) (fh := z_fh) (fq := f_q) (fn := f_next) (fs := f_says) (fz := f_size) (k := (v1.toNatClampNeg)) (nx := y_next_29) (sy := y_says_29) (sz := y_size_29) (in6 g_26) (va_runV (As := [.ref (z_fh (v1.toNatClampNeg)), .int v2, .int v3]) (rest := []) ⟨hx, hb, hml, hown, hts⟩ (c_X4_makeLess l G n z_hl l_hd k_hp d_q d_a p_q (z_fh (v1.toNatClampNeg)) (f_q (v1.toNatClampNeg)) d_rm d_stateOf d_kindOf d_order d_rooms d_count d_next d_says d_note d_sort d_freshSort p_table p_turn p_count (f_next (v1.toNatClampNeg)) (f_says (v1.toNatClampNeg)) (f_size (v1.toNatClampNeg))  v2 v3 rmx1 ms1 hms1 _ r_29 d_rm_29 d_stateOf_29 d_kindOf_29 d_order_29 d_rooms_29 d_count_29 d_next_29 d_says_29 d_note_29 d_sort_29 d_freshSort_29 p_table_29 p_turn_29 p_count_29 y_next_29 y_says_29 y_size_29 hc_29) (cwV 3 hts gX9_less_X4_makeLess rfl rfl rfl ⟨rfl, eX4_makeLess⟩ ⟨Nat.le_of_ble_eq_true rfl, Nat.le_of_ble_eq_true rfl⟩) (preWVF (X := WX G z_h z_q z_fh z_hr z_hl z_hk z_he z_ht r_q l_hd k_hp e_hs e_q s_q t_q d_q d_a p_q r_goes r_told e_steps e_yes s_sets s_slots s_count t_ways t_freshWays t_leastTo t_waiting d_rm d_stateOf d_kindOf d_order d_rooms d_count d_next d_says d_note d_sort d_freshSort p_table p_turn p_count) (Xc := (WL G z_hl l_hd) ++ (WD G l_hd k_hp d_q d_a d_rm d_stateOf d_kindOf d_order d_rooms d_count d_next d_says d_note d_sort d_freshSort) ++ (WP G k_hp p_q p_table p_turn p_count)) (ci := 4) (q0 := 0) hK hP hD (in6 g_26) [5, 17, 18, 19, 20, 21, 22, 23, 24, 25, 26, 27, 28, 29, 30] rfl (by decide) rfl rfl) rfl rfl hl.1 rfl (lv_room (Nat.le_of_ble_eq_true rfl)) dX9_less_29 ⟨Nat.le_of_ble_eq_true rfl, by show 0 + (ms1) ≤ ms1; omega⟩) hP hD hS hA [5, 17, 18, 19, 20, 21, 22, 23, 24, 25, 26, 27, 28, 29, 30] [0, 1, 2, 3, 4, 6, 7, 8, 9, 10, 11, 12, 13, 14, 15, 16] rfl rfl (by decide) (by decide) (fun u_29 H locs hP hD hS => ?_)
      have hP := hP.part (cx := WX G z_h z_q z_fh z_hr z_hl z_hk z_he z_ht r_q l_hd k_hp e_hs e_q s_q t_q d_q u_29 p_q r_goes r_told e_steps e_yes s_sets s_slots s_count t_ways t_freshWays t_leastTo t_waiting d_rm_29 d_stateOf_29 d_kindOf_29 d_order_29 d_rooms_29 d_count_29 d_next_29 d_says_29 d_note_29 d_sort_29 d_freshSort_29 p_table_29 p_turn_29 p_count_29) [0, 1, 2, 3, 4, 16, 5, 6, 7, 8, 9, 10, 11, 12, 13, 14, 15, 17, 18, 19, 20, 21, 22, 23, 24, 25, 26, 27] rfl
      have hD := hD.part (cx := WX G z_h z_q z_fh z_hr z_hl z_hk z_he z_ht r_q l_hd k_hp e_hs e_q s_q t_q d_q u_29 p_q r_goes r_told e_steps e_yes s_sets s_slots s_count t_ways t_freshWays t_leastTo t_waiting d_rm_29 d_stateOf_29 d_kindOf_29 d_order_29 d_rooms_29 d_count_29 d_next_29 d_says_29 d_note_29 d_sort_29 d_freshSort_29 p_table_29 p_turn_29 p_count_29) [0, 1, 2, 3, 4, 16, 5, 6, 7, 8, 9, 10, 11, 12, 13, 14, 15, 17, 18, 19, 20, 21, 22, 23, 24, 25, 26, 27] (by decide) rfl
      have hP : va_P G.1 vwCl ((WX G z_h z_q z_fh z_hr z_hl z_hk z_he z_ht r_q l_hd k_hp e_hs e_q s_q t_q d_q u_29 p_q r_goes r_told e_steps e_yes s_sets s_slots s_count t_ways t_freshWays t_leastTo t_waiting d_rm_29 d_stateOf_29 d_kindOf_29 d_order_29 d_rooms_29 d_count_29 d_next_29 d_says_29 d_note_29 d_sort_29 d_freshSort_29 p_table_29 p_turn_29 p_count_29) ++ (WF G z_fh f_q (va_up f_next (v1.toNatClampNeg) y_next_29) (va_up f_says (v1.toNatClampNeg) y_says_29) (va_up f_size (v1.toNatClampNeg) y_size_29))) H := hP
      have hD : va_D A ((WX G z_h z_q z_fh z_hr z_hl z_hk z_he z_ht r_q l_hd k_hp e_hs e_q s_q t_q d_q u_29 p_q r_goes r_told e_steps e_yes s_sets s_slots s_count t_ways t_freshWays t_leastTo t_waiting d_rm_29 d_stateOf_29 d_kindOf_29 d_order_29 d_rooms_29 d_count_29 d_next_29 d_says_29 d_note_29 d_sort_29 d_freshSort_29 p_table_29 p_turn_29 p_count_29) ++ (WF G z_fh f_q (va_up f_next (v1.toNatClampNeg) y_next_29) (va_up f_says (v1.toNatClampNeg) y_says_29) (va_up f_size (v1.toNatClampNeg) y_size_29))) := hD
      obtain ⟨rfl, rfl, rfl, rfl, rfl, rfl, rfl, rfl, rfl, rfl, rfl, rfl, rfl, rfl, rfl, rfl, rfl, rfl⟩ := oi18 h
      exact hret u_29 _ _ _ _ _ _ _ dX9_less_32 rfl rfl hP hD hS (Nat.le_of_ble_eq_true rfl) (by show 0 + (ms1) ≤ ms1; omega)
    · replace h := (if_pos c_12).symm.trans h
      refine lv_iconst (v := -1) hx hb dX9_less_15 (by decide) ?_
      obtain ⟨rfl, rfl, rfl, rfl, rfl, rfl, rfl, rfl, rfl, rfl, rfl, rfl, rfl, rfl, rfl, rfl, rfl, rfl⟩ := oi18 h
      exact hret d_a _ _ _ _ _ _ _ dX9_less_16 rfl rfl hP hD hS (Nat.zero_le _) (Nat.zero_le _)
abbrev rX9_sum (ms1 : Nat) : Room := { frames := 6, cells := 5, slots := ms1, locals := 139 }
set_option maxHeartbeats 4000000 in
set_option maxRecDepth 100000 in
theorem c_X9_sum (l : Launch) (G : GG) (n : Nat) (z_h : Nat) (z_q : Nat) (z_fh : Nat → Nat) (z_hr : Nat) (z_hl : Nat) (z_hk : Nat) (z_he : Nat) (z_ht : Nat) (r_q : Nat → Nat) (l_hd : Nat) (k_hp : Nat) (e_hs : Nat) (e_q : Nat → Nat) (s_q : Nat → Nat) (t_q : Nat → Nat) (d_q : Nat → Nat) (d_a : Nat → Nat) (p_q : Nat → Nat) (f_q : Nat → Nat → Nat) (r_goes : AI) (r_told : AI) (e_steps : AL) (e_yes : Int64) (s_sets : AL) (s_slots : AI) (s_count : Int32) (t_ways : AL) (t_freshWays : AL) (t_leastTo : AL) (t_waiting : AI) (d_rm : Nat) (d_stateOf : AI) (d_kindOf : AI) (d_order : AI) (d_rooms : Int32) (d_count : Int32) (d_next : AI) (d_says : AI) (d_note : AI) (d_sort : AI) (d_freshSort : AI) (p_table : AI) (p_turn : Int32) (p_count : Int32) (f_next : AF) (f_says : AF) (f_size : AI)  (v1 : Int32) (v2 : Int32) (v3 : Int32) (rmx1 : Nat) (ms1 : Nat) (hms1 : rmx1 = d_rm ∨ 12 * rmx1 ≤ ms1) (sz : Nat) (r : Int32) (d_rm_z : Nat) (d_stateOf_z : AI) (d_kindOf_z : AI) (d_order_z : AI) (d_rooms_z : Int32) (d_count_z : Int32) (d_next_z : AI) (d_says_z : AI) (d_note_z : AI) (d_sort_z : AI) (d_freshSort_z : AI) (p_table_z : AI) (p_turn_z : Int32) (p_count_z : Int32) (f_next_z : AF) (f_says_z : AF) (f_size_z : AI) (h : p_X9_sum n d_rm d_stateOf d_kindOf d_order d_rooms d_count d_next d_says d_note d_sort d_freshSort p_table p_turn p_count f_next f_says f_size rmx1 v1 v2 v3 = some (r, d_rm_z, d_stateOf_z, d_kindOf_z, d_order_z, d_rooms_z, d_count_z, d_next_z, d_says_z, d_note_z, d_sort_z, d_freshSort_z, p_table_z, p_turn_z, p_count_z, f_next_z, f_says_z, f_size_z)) : CI l yX9_sum wsX9_sum (rX9_sum ms1) G [.ref z_h, .int v1, .int v2, .int v3] ((WX G z_h z_q z_fh z_hr z_hl z_hk z_he z_ht r_q l_hd k_hp e_hs e_q s_q t_q d_q d_a p_q r_goes r_told e_steps e_yes s_sets s_slots s_count t_ways t_freshWays t_leastTo t_waiting d_rm d_stateOf d_kindOf d_order d_rooms d_count d_next d_says d_note d_sort d_freshSort p_table p_turn p_count) ++ (WF G z_fh f_q f_next f_says f_size)) sz r (fun u => (WX G z_h z_q z_fh z_hr z_hl z_hk z_he z_ht r_q l_hd k_hp e_hs e_q s_q t_q d_q u p_q r_goes r_told e_steps e_yes s_sets s_slots s_count t_ways t_freshWays t_leastTo t_waiting d_rm_z d_stateOf_z d_kindOf_z d_order_z d_rooms_z d_count_z d_next_z d_says_z d_note_z d_sort_z d_freshSort_z p_table_z p_turn_z p_count_z) ++ (WF G z_fh f_q f_next_z f_says_z f_size_z)) := by
  refine enterCI (cc := cX9_sum) (maxL := 4) (by decide) rfl (Nat.le_of_ble_eq_true rfl) ?_
  intro p e s m args below meth c A Q hx hb hml hown hts hK hP hD hS hA hret ls hl
  have hown : s.vm.findClass RX9 = some m.cls := hown
  have hf20 := hts (.fieldLink RX9 20 "DigitClaims" "claims" "[LDigitClaims$Claim;") (by decide +kernel)
  have hf42 := hts (.fieldLink RX9 42 "DigitClaims" "plain" "LDigitClaims$PlainClaims;") (by decide +kernel)
  have hinX9 : ∀ w ∈ wsX90, w ∈ wsX9_sum := by decide +kernel
  have hl : lv_has ls 4 [(0, .ref z_h), (1, .int v1), (2, .int v2), (3, .int v3)] := hl
  unfold p_X9_sum at h
  refine lv_iload_n hx hb dX9_sum_0 rfl (lv_at hl 1 rfl) ?_
  obtain ⟨r_1, hc_1, h⟩ := ob1_e h
  refine k_si (va_runS (As := [.int v1]) (rest := []) ⟨hx, hb, hml, hown, hts⟩ (c_X9_isClaim l G    v1 r_1 hc_1) (va_cwS 1 hts gX9_sum_X9_isClaim rfl rfl rfl eX9_isClaim ⟨Nat.le_of_ble_eq_true rfl, Nat.le_of_ble_eq_true rfl⟩) (preSS hK (fun k q h => by cases h)) rfl rfl hl.1 rfl (lv_room (Nat.le_of_ble_eq_true rfl)) dX9_sum_1 ⟨Nat.le_of_ble_eq_true rfl, by show 0 + 0 ≤ ms1; omega⟩) ?_
  refine lv_if_eq (tgt := 15) hx hb dX9_sum_4 (by decide) (fun c_4 => ?_) (fun c_4 => ?_)
  · replace h := (if_pos c_4).symm.trans h
    refine lv_iconst (v := -1) hx hb dX9_sum_15 (by decide) ?_
    obtain ⟨rfl, rfl, rfl, rfl, rfl, rfl, rfl, rfl, rfl, rfl, rfl, rfl, rfl, rfl, rfl, rfl, rfl, rfl⟩ := oi18 h
    exact hret d_a _ _ _ _ _ _ _ dX9_sum_16 rfl rfl hP hD hS (Nat.zero_le _) (Nat.zero_le _)
  · replace h := (if_neg c_4).symm.trans h
    refine lv_iload_n hx hb dX9_sum_7 rfl (lv_at hl 2 rfl) ?_
    refine lv_iload_n hx hb dX9_sum_8 rfl (lv_at hl 3 rfl) ?_
    obtain ⟨r_9, hc_9, h⟩ := ob1_e h
    refine k_si (va_runS (As := [.int v2, .int v3]) (rest := []) ⟨hx, hb, hml, hown, hts⟩ (c_X9_areTwoNumbers l G    v2 v3 r_9 hc_9) (va_cwS 2 hts gX9_sum_X9_areTwoNumbers rfl rfl rfl eX9_areTwoNumbers ⟨Nat.le_of_ble_eq_true rfl, Nat.le_of_ble_eq_true rfl⟩) (preSS hK (fun k q h => by cases h)) rfl rfl hl.1 rfl (lv_room (Nat.le_of_ble_eq_true rfl)) dX9_sum_9 ⟨Nat.le_of_ble_eq_true rfl, by show 0 + 0 ≤ ms1; omega⟩) ?_
    refine lv_if_ne (tgt := 17) hx hb dX9_sum_12 (by decide) (fun c_12 => ?_) (fun c_12 => ?_)
    · replace h := (if_neg c_12).symm.trans h
      refine lv_aload_n hx hb dX9_sum_17 rfl (lv_at hl 0 rfl) ?_
      refine va_get (D := G.1) (ci := 9) (v := .ref z_hl) (C := RX9) (T := TX9) (N := 7) hx hb hts hinX9 hown hK.1 hP 0 rfl rfl 3 (by decide) hf42 (fun _ h9 => h9) rfl dX9_sum_18 ?_
      refine lv_aload_n hx hb dX9_sum_21 rfl (lv_at hl 0 rfl) ?_
      refine va_get (D := G.1) (ci := 9) (v := .ref z_q) (C := RX9) (T := TX9) (N := 7) hx hb hts hinX9 hown hK.1 hP 0 rfl rfl 1 (by decide) hf20 (fun _ h9 => h9) rfl dX9_sum_22 ?_
      refine lv_iload_n hx hb dX9_sum_25 rfl (lv_at hl 1 rfl) ?_
      obtain ⟨g_26, h⟩ := gi_e h
      refine va_aldq hx hb hK.1 hP 1 3 rfl rfl g_26 dX9_sum_26 ?_
      refine W.eq (g2 := F0 m 27 ls [.ref (z_fh (v1.toNatClampNeg)), .ref z_hl]) rfl ?_
      refine lv_iload_n hx hb dX9_sum_27 rfl (lv_at hl 2 rfl) ?_
      refine lv_iload_n hx hb dX9_sum_28 rfl (lv_at hl 3 rfl) ?_
      obtain ⟨r_29, d_rm_29, d_stateOf_29, d_kindOf_29, d_order_29, d_rooms_29, d_count_29, d_next_29, d_says_29, d_note_29, d_sort_29, d_freshSort_29, p_table_29, p_turn_29, p_count_29, y_next_29, y_says_29, y_size_29, hc_29, h⟩ := ob18_e h
      refine k_ciF (X := WX G z_h z_q z_fh z_hr z_hl z_hk z_he z_ht r_q l_hd k_hp e_hs e_q s_q t_q d_q d_a p_q r_goes r_told e_steps e_yes s_sets s_slots s_count t_ways t_freshWays t_leastTo t_waiting d_rm d_stateOf d_kindOf d_order d_rooms d_count d_next d_says d_note d_sort d_freshSort p_table p_turn p_count) (Xc := (WL G z_hl l_hd) ++ (WD G l_hd k_hp d_q d_a d_rm d_stateOf d_kindOf d_order d_rooms d_count d_next d_says d_note d_sort d_freshSort) ++ (WP G k_hp p_q p_table p_turn p_count)) (wr := [(z_h, .inr (9, [.ref z_hr, .ref z_q, .ref (z_fh 6), .ref z_hl, .ref z_hk, .ref z_he, .ref z_ht])), (z_q, .inl (G.2 3, 6, .inr (.inr (.inr (.inr (fun i => some (z_fh i))))))), (z_hr, .inr (5, [.ref (r_q 0), .ref (r_q 1)])), (r_q 0, .inl (G.2 0, 10, .inl r_goes)), (r_q 1, .inl (G.2 0, 5, .inl r_told)), (z_hk, .inr (2, [.ref (l_hd), .ref (k_hp)])), (z_he, .inr (6, [.ref (l_hd), .ref (e_hs), .ref (e_q 0), .long e_yes])), (e_q 0, .inl (G.2 2, 480, .inr (.inl e_steps))), (e_hs, .inr (7, [.ref (s_q 0), .ref (s_q 1), .int s_count])), (s_q 0, .inl (G.2 2, 300, .inr (.inl s_sets))), (s_q 1, .inl (G.2 0, 1024, .inl s_slots)), (z_ht, .inr (8, [.ref (t_q 0), .ref (t_q 1), .ref (t_q 2), .ref (t_q 3)])), (t_q 0, .inl (G.2 2, 60, .inr (.inl t_ways))), (t_q 1, .inl (G.2 2, 60, .inr (.inl t_freshWays))), (t_q 2, .inl (G.2 2, 60, .inr (.inl t_leastTo))), (t_q 3, .inl (G.2 0, 60, .inl t_waiting))]) (x1 := fun u => (WL G z_hl l_hd) ++ (WD G l_hd k_hp d_q u d_rm_29 d_stateOf_29 d_kindOf_29 d_order_29 d_rooms_29 d_count_29 d_next_29 d_says_29 d_note_29 d_sort_29 d_freshSort_29) ++ (WP G k_hp p_q p_table_29 p_turn_29 p_count_29)) (fh := z_fh) (fq := f_q) (fn := f_next) (fs := f_says) (fz := f_size) (k := (v1.toNatClampNeg)) (nx := y_next_29) (sy := y_says_29) (sz := y_size_29) (in6 g_26) (va_runV (As := [.ref (z_fh (v1.toNatClampNeg)), .int v2, .int v3]) (rest := []) ⟨hx, hb, hml, hown, hts⟩ (c_X4_makeSum l G n z_hl l_hd k_hp d_q d_a p_q (z_fh (v1.toNatClampNeg)) (f_q (v1.toNatClampNeg)) d_rm d_stateOf d_kindOf d_order d_rooms d_count d_next d_says d_note d_sort d_freshSort p_table p_turn p_count (f_next (v1.toNatClampNeg)) (f_says (v1.toNatClampNeg)) (f_size (v1.toNatClampNeg))  v2 v3 rmx1 ms1 hms1 _ r_29 d_rm_29 d_stateOf_29 d_kindOf_29 d_order_29 d_rooms_29 d_count_29 d_next_29 d_says_29 d_note_29 d_sort_29 d_freshSort_29 p_table_29 p_turn_29 p_count_29 y_next_29 y_says_29 y_size_29 hc_29) (cwV 3 hts gX9_sum_X4_makeSum rfl rfl rfl ⟨rfl, eX4_makeSum⟩ ⟨Nat.le_of_ble_eq_true rfl, Nat.le_of_ble_eq_true rfl⟩) (preWVF (X := WX G z_h z_q z_fh z_hr z_hl z_hk z_he z_ht r_q l_hd k_hp e_hs e_q s_q t_q d_q d_a p_q r_goes r_told e_steps e_yes s_sets s_slots s_count t_ways t_freshWays t_leastTo t_waiting d_rm d_stateOf d_kindOf d_order d_rooms d_count d_next d_says d_note d_sort d_freshSort p_table p_turn p_count) (Xc := (WL G z_hl l_hd) ++ (WD G l_hd k_hp d_q d_a d_rm d_stateOf d_kindOf d_order d_rooms d_count d_next d_says d_note d_sort d_freshSort) ++ (WP G k_hp p_q p_table p_turn p_count)) (ci := 4) (q0 := 0) hK hP hD (in6 g_26) [5, 17, 18, 19, 20, 21, 22, 23, 24, 25, 26, 27, 28, 29, 30] rfl (by decide) rfl rfl) rfl rfl hl.1 rfl (lv_room (Nat.le_of_ble_eq_true rfl)) dX9_sum_29 ⟨Nat.le_of_ble_eq_true rfl, by show 0 + (ms1) ≤ ms1; omega⟩) hP hD hS hA [5, 17, 18, 19, 20, 21, 22, 23, 24, 25, 26, 27, 28, 29, 30] [0, 1, 2, 3, 4, 6, 7, 8, 9, 10, 11, 12, 13, 14, 15, 16] rfl rfl (by decide) (by decide) (fun u_29 H locs hP hD hS => ?_)
      have hP := hP.part (cx := WX G z_h z_q z_fh z_hr z_hl z_hk z_he z_ht r_q l_hd k_hp e_hs e_q s_q t_q d_q u_29 p_q r_goes r_told e_steps e_yes s_sets s_slots s_count t_ways t_freshWays t_leastTo t_waiting d_rm_29 d_stateOf_29 d_kindOf_29 d_order_29 d_rooms_29 d_count_29 d_next_29 d_says_29 d_note_29 d_sort_29 d_freshSort_29 p_table_29 p_turn_29 p_count_29) [0, 1, 2, 3, 4, 16, 5, 6, 7, 8, 9, 10, 11, 12, 13, 14, 15, 17, 18, 19, 20, 21, 22, 23, 24, 25, 26, 27] rfl
      have hD := hD.part (cx := WX G z_h z_q z_fh z_hr z_hl z_hk z_he z_ht r_q l_hd k_hp e_hs e_q s_q t_q d_q u_29 p_q r_goes r_told e_steps e_yes s_sets s_slots s_count t_ways t_freshWays t_leastTo t_waiting d_rm_29 d_stateOf_29 d_kindOf_29 d_order_29 d_rooms_29 d_count_29 d_next_29 d_says_29 d_note_29 d_sort_29 d_freshSort_29 p_table_29 p_turn_29 p_count_29) [0, 1, 2, 3, 4, 16, 5, 6, 7, 8, 9, 10, 11, 12, 13, 14, 15, 17, 18, 19, 20, 21, 22, 23, 24, 25, 26, 27] (by decide) rfl
      have hP : va_P G.1 vwCl ((WX G z_h z_q z_fh z_hr z_hl z_hk z_he z_ht r_q l_hd k_hp e_hs e_q s_q t_q d_q u_29 p_q r_goes r_told e_steps e_yes s_sets s_slots s_count t_ways t_freshWays t_leastTo t_waiting d_rm_29 d_stateOf_29 d_kindOf_29 d_order_29 d_rooms_29 d_count_29 d_next_29 d_says_29 d_note_29 d_sort_29 d_freshSort_29 p_table_29 p_turn_29 p_count_29) ++ (WF G z_fh f_q (va_up f_next (v1.toNatClampNeg) y_next_29) (va_up f_says (v1.toNatClampNeg) y_says_29) (va_up f_size (v1.toNatClampNeg) y_size_29))) H := hP
      have hD : va_D A ((WX G z_h z_q z_fh z_hr z_hl z_hk z_he z_ht r_q l_hd k_hp e_hs e_q s_q t_q d_q u_29 p_q r_goes r_told e_steps e_yes s_sets s_slots s_count t_ways t_freshWays t_leastTo t_waiting d_rm_29 d_stateOf_29 d_kindOf_29 d_order_29 d_rooms_29 d_count_29 d_next_29 d_says_29 d_note_29 d_sort_29 d_freshSort_29 p_table_29 p_turn_29 p_count_29) ++ (WF G z_fh f_q (va_up f_next (v1.toNatClampNeg) y_next_29) (va_up f_says (v1.toNatClampNeg) y_says_29) (va_up f_size (v1.toNatClampNeg) y_size_29))) := hD
      obtain ⟨rfl, rfl, rfl, rfl, rfl, rfl, rfl, rfl, rfl, rfl, rfl, rfl, rfl, rfl, rfl, rfl, rfl, rfl⟩ := oi18 h
      exact hret u_29 _ _ _ _ _ _ _ dX9_sum_32 rfl rfl hP hD hS (Nat.le_of_ble_eq_true rfl) (by show 0 + (ms1) ≤ ms1; omega)
    · replace h := (if_pos c_12).symm.trans h
      refine lv_iconst (v := -1) hx hb dX9_sum_15 (by decide) ?_
      obtain ⟨rfl, rfl, rfl, rfl, rfl, rfl, rfl, rfl, rfl, rfl, rfl, rfl, rfl, rfl, rfl, rfl, rfl, rfl⟩ := oi18 h
      exact hret d_a _ _ _ _ _ _ _ dX9_sum_16 rfl rfl hP hD hS (Nat.zero_le _) (Nat.zero_le _)
abbrev rX9_is (ms1 : Nat) : Room := { frames := 6, cells := 5, slots := ms1, locals := 138 }
set_option maxHeartbeats 4000000 in
set_option maxRecDepth 100000 in
theorem c_X9_is (l : Launch) (G : GG) (n : Nat) (z_h : Nat) (z_q : Nat) (z_fh : Nat → Nat) (z_hr : Nat) (z_hl : Nat) (z_hk : Nat) (z_he : Nat) (z_ht : Nat) (r_q : Nat → Nat) (l_hd : Nat) (k_hp : Nat) (e_hs : Nat) (e_q : Nat → Nat) (s_q : Nat → Nat) (t_q : Nat → Nat) (d_q : Nat → Nat) (d_a : Nat → Nat) (p_q : Nat → Nat) (f_q : Nat → Nat → Nat) (r_goes : AI) (r_told : AI) (e_steps : AL) (e_yes : Int64) (s_sets : AL) (s_slots : AI) (s_count : Int32) (t_ways : AL) (t_freshWays : AL) (t_leastTo : AL) (t_waiting : AI) (d_rm : Nat) (d_stateOf : AI) (d_kindOf : AI) (d_order : AI) (d_rooms : Int32) (d_count : Int32) (d_next : AI) (d_says : AI) (d_note : AI) (d_sort : AI) (d_freshSort : AI) (p_table : AI) (p_turn : Int32) (p_count : Int32) (f_next : AF) (f_says : AF) (f_size : AI)  (v1 : Int32) (v2 : Int32) (v3 : Int32) (rmx1 : Nat) (ms1 : Nat) (hms1 : rmx1 = d_rm ∨ 12 * rmx1 ≤ ms1) (sz : Nat) (r : Int32) (d_rm_z : Nat) (d_stateOf_z : AI) (d_kindOf_z : AI) (d_order_z : AI) (d_rooms_z : Int32) (d_count_z : Int32) (d_next_z : AI) (d_says_z : AI) (d_note_z : AI) (d_sort_z : AI) (d_freshSort_z : AI) (p_table_z : AI) (p_turn_z : Int32) (p_count_z : Int32) (f_next_z : AF) (f_says_z : AF) (f_size_z : AI) (h : p_X9_is n d_rm d_stateOf d_kindOf d_order d_rooms d_count d_next d_says d_note d_sort d_freshSort p_table p_turn p_count f_next f_says f_size rmx1 v1 v2 v3 = some (r, d_rm_z, d_stateOf_z, d_kindOf_z, d_order_z, d_rooms_z, d_count_z, d_next_z, d_says_z, d_note_z, d_sort_z, d_freshSort_z, p_table_z, p_turn_z, p_count_z, f_next_z, f_says_z, f_size_z)) : CI l yX9_is wsX9_is (rX9_is ms1) G [.ref z_h, .int v1, .int v2, .int v3] ((WX G z_h z_q z_fh z_hr z_hl z_hk z_he z_ht r_q l_hd k_hp e_hs e_q s_q t_q d_q d_a p_q r_goes r_told e_steps e_yes s_sets s_slots s_count t_ways t_freshWays t_leastTo t_waiting d_rm d_stateOf d_kindOf d_order d_rooms d_count d_next d_says d_note d_sort d_freshSort p_table p_turn p_count) ++ (WF G z_fh f_q f_next f_says f_size)) sz r (fun u => (WX G z_h z_q z_fh z_hr z_hl z_hk z_he z_ht r_q l_hd k_hp e_hs e_q s_q t_q d_q u p_q r_goes r_told e_steps e_yes s_sets s_slots s_count t_ways t_freshWays t_leastTo t_waiting d_rm_z d_stateOf_z d_kindOf_z d_order_z d_rooms_z d_count_z d_next_z d_says_z d_note_z d_sort_z d_freshSort_z p_table_z p_turn_z p_count_z) ++ (WF G z_fh f_q f_next_z f_says_z f_size_z)) := by
  refine enterCI (cc := cX9_is) (maxL := 4) (by decide) rfl (Nat.le_of_ble_eq_true rfl) ?_
  intro p e s m args below meth c A Q hx hb hml hown hts hK hP hD hS hA hret ls hl
  have hown : s.vm.findClass RX9 = some m.cls := hown
  have hf20 := hts (.fieldLink RX9 20 "DigitClaims" "claims" "[LDigitClaims$Claim;") (by decide +kernel)
  have hf42 := hts (.fieldLink RX9 42 "DigitClaims" "plain" "LDigitClaims$PlainClaims;") (by decide +kernel)
  have hinX9 : ∀ w ∈ wsX90, w ∈ wsX9_is := by decide +kernel
  have hl : lv_has ls 4 [(0, .ref z_h), (1, .int v1), (2, .int v2), (3, .int v3)] := hl
  unfold p_X9_is at h
  refine lv_iload_n hx hb dX9_is_0 rfl (lv_at hl 1 rfl) ?_
  obtain ⟨r_1, hc_1, h⟩ := ob1_e h
  refine k_si (va_runS (As := [.int v1]) (rest := []) ⟨hx, hb, hml, hown, hts⟩ (c_X9_isClaim l G    v1 r_1 hc_1) (va_cwS 1 hts gX9_is_X9_isClaim rfl rfl rfl eX9_isClaim ⟨Nat.le_of_ble_eq_true rfl, Nat.le_of_ble_eq_true rfl⟩) (preSS hK (fun k q h => by cases h)) rfl rfl hl.1 rfl (lv_room (Nat.le_of_ble_eq_true rfl)) dX9_is_1 ⟨Nat.le_of_ble_eq_true rfl, by show 0 + 0 ≤ ms1; omega⟩) ?_
  refine lv_if_eq (tgt := 14) hx hb dX9_is_4 (by decide) (fun c_4 => ?_) (fun c_4 => ?_)
  · replace h := (if_pos c_4).symm.trans h
    refine lv_iconst (v := -1) hx hb dX9_is_14 (by decide) ?_
    obtain ⟨rfl, rfl, rfl, rfl, rfl, rfl, rfl, rfl, rfl, rfl, rfl, rfl, rfl, rfl, rfl, rfl, rfl, rfl⟩ := oi18 h
    exact hret d_a _ _ _ _ _ _ _ dX9_is_15 rfl rfl hP hD hS (Nat.zero_le _) (Nat.zero_le _)
  · replace h := (if_neg c_4).symm.trans h
    refine lv_iload_n hx hb dX9_is_7 rfl (lv_at hl 2 rfl) ?_
    obtain ⟨r_8, hc_8, h⟩ := ob1_e h
    refine k_si (va_runS (As := [.int v2]) (rest := []) ⟨hx, hb, hml, hown, hts⟩ (c_X9_isNumber l G    v2 r_8 hc_8) (va_cwS 1 hts gX9_is_X9_isNumber rfl rfl rfl eX9_isNumber ⟨Nat.le_of_ble_eq_true rfl, Nat.le_of_ble_eq_true rfl⟩) (preSS hK (fun k q h => by cases h)) rfl rfl hl.1 rfl (lv_room (Nat.le_of_ble_eq_true rfl)) dX9_is_8 ⟨Nat.le_of_ble_eq_true rfl, by show 0 + 0 ≤ ms1; omega⟩) ?_
    refine lv_if_ne (tgt := 16) hx hb dX9_is_11 (by decide) (fun c_11 => ?_) (fun c_11 => ?_)
    · replace h := (if_neg c_11).symm.trans h
      refine lv_iload_n hx hb dX9_is_16 rfl (lv_at hl 3 rfl) ?_
      refine lv_if_lt (tgt := 26) hx hb dX9_is_17 (by decide) (fun c_17 => ?_) (fun c_17 => ?_)
      · replace h := (if_pos c_17).symm.trans h
        refine lv_bipush (v := -2) hx hb dX9_is_26 (by decide) ?_
        obtain ⟨rfl, rfl, rfl, rfl, rfl, rfl, rfl, rfl, rfl, rfl, rfl, rfl, rfl, rfl, rfl, rfl, rfl, rfl⟩ := oi18 h
        exact hret d_a _ _ _ _ _ _ _ dX9_is_28 rfl rfl hP hD hS (Nat.zero_le _) (Nat.zero_le _)
      · replace h := (if_neg c_17).symm.trans h
        refine lv_iload_n hx hb dX9_is_20 rfl (lv_at hl 3 rfl) ?_
        refine lv_ldc (v := 1000000) hx hb hown (hts (.constant RX9 114 (1000000)) (by decide +kernel)) dX9_is_21 ?_
        refine lv_icmp_le (tgt := 29) hx hb dX9_is_23 (by decide) (fun c_23 => ?_) (fun c_23 => ?_)
        · replace h := (if_pos c_23).symm.trans h
          refine lv_aload_n hx hb dX9_is_29 rfl (lv_at hl 0 rfl) ?_
          refine va_get (D := G.1) (ci := 9) (v := .ref z_hl) (C := RX9) (T := TX9) (N := 7) hx hb hts hinX9 hown hK.1 hP 0 rfl rfl 3 (by decide) hf42 (fun _ h9 => h9) rfl dX9_is_30 ?_
          refine lv_aload_n hx hb dX9_is_33 rfl (lv_at hl 0 rfl) ?_
          refine va_get (D := G.1) (ci := 9) (v := .ref z_q) (C := RX9) (T := TX9) (N := 7) hx hb hts hinX9 hown hK.1 hP 0 rfl rfl 1 (by decide) hf20 (fun _ h9 => h9) rfl dX9_is_34 ?_
          refine lv_iload_n hx hb dX9_is_37 rfl (lv_at hl 1 rfl) ?_
          obtain ⟨g_38, h⟩ := gi_e h
          refine va_aldq hx hb hK.1 hP 1 3 rfl rfl g_38 dX9_is_38 ?_
          refine W.eq (g2 := F0 m 39 ls [.ref (z_fh (v1.toNatClampNeg)), .ref z_hl]) rfl ?_
          refine lv_iload_n hx hb dX9_is_39 rfl (lv_at hl 2 rfl) ?_
          refine lv_iload_n hx hb dX9_is_40 rfl (lv_at hl 3 rfl) ?_
          obtain ⟨r_41, d_rm_41, d_stateOf_41, d_kindOf_41, d_order_41, d_rooms_41, d_count_41, d_next_41, d_says_41, d_note_41, d_sort_41, d_freshSort_41, p_table_41, p_turn_41, p_count_41, y_next_41, y_says_41, y_size_41, hc_41, h⟩ := ob18_e h
          refine k_ciF (X := WX G z_h z_q z_fh z_hr z_hl z_hk z_he z_ht r_q l_hd k_hp e_hs e_q s_q t_q d_q d_a p_q r_goes r_told e_steps e_yes s_sets s_slots s_count t_ways t_freshWays t_leastTo t_waiting d_rm d_stateOf d_kindOf d_order d_rooms d_count d_next d_says d_note d_sort d_freshSort p_table p_turn p_count) (Xc := (WL G z_hl l_hd) ++ (WD G l_hd k_hp d_q d_a d_rm d_stateOf d_kindOf d_order d_rooms d_count d_next d_says d_note d_sort d_freshSort) ++ (WP G k_hp p_q p_table p_turn p_count)) (wr := [(z_h, .inr (9, [.ref z_hr, .ref z_q, .ref (z_fh 6), .ref z_hl, .ref z_hk, .ref z_he, .ref z_ht])), (z_q, .inl (G.2 3, 6, .inr (.inr (.inr (.inr (fun i => some (z_fh i))))))), (z_hr, .inr (5, [.ref (r_q 0), .ref (r_q 1)])), (r_q 0, .inl (G.2 0, 10, .inl r_goes)), (r_q 1, .inl (G.2 0, 5, .inl r_told)), (z_hk, .inr (2, [.ref (l_hd), .ref (k_hp)])), (z_he, .inr (6, [.ref (l_hd), .ref (e_hs), .ref (e_q 0), .long e_yes])), (e_q 0, .inl (G.2 2, 480, .inr (.inl e_steps))), (e_hs, .inr (7, [.ref (s_q 0), .ref (s_q 1), .int s_count])), (s_q 0, .inl (G.2 2, 300, .inr (.inl s_sets))), (s_q 1, .inl (G.2 0, 1024, .inl s_slots)), (z_ht, .inr (8, [.ref (t_q 0), .ref (t_q 1), .ref (t_q 2), .ref (t_q 3)])), (t_q 0, .inl (G.2 2, 60, .inr (.inl t_ways))), (t_q 1, .inl (G.2 2, 60, .inr (.inl t_freshWays))), (t_q 2, .inl (G.2 2, 60, .inr (.inl t_leastTo))), (t_q 3, .inl (G.2 0, 60, .inl t_waiting))]) (x1 := fun u => (WL G z_hl l_hd) ++ (WD G l_hd k_hp d_q u d_rm_41 d_stateOf_41 d_kindOf_41 d_order_41 d_rooms_41 d_count_41 d_next_41 d_says_41 d_note_41 d_sort_41 d_freshSort_41) ++ (WP G k_hp p_q p_table_41 p_turn_41 p_count_41)) (fh := z_fh) (fq := f_q) (fn := f_next) (fs := f_says) (fz := f_size) (k := (v1.toNatClampNeg)) (nx := y_next_41) (sy := y_says_41) (sz := y_size_41) (in6 g_38) (va_runV (As := [.ref (z_fh (v1.toNatClampNeg)), .int v2, .int v3]) (rest := []) ⟨hx, hb, hml, hown, hts⟩ (c_X4_makeFixed l G n z_hl l_hd k_hp d_q d_a p_q (z_fh (v1.toNatClampNeg)) (f_q (v1.toNatClampNeg)) d_rm d_stateOf d_kindOf d_order d_rooms d_count d_next d_says d_note d_sort d_freshSort p_table p_turn p_count (f_next (v1.toNatClampNeg)) (f_says (v1.toNatClampNeg)) (f_size (v1.toNatClampNeg))  v2 v3 rmx1 ms1 hms1 _ r_41 d_rm_41 d_stateOf_41 d_kindOf_41 d_order_41 d_rooms_41 d_count_41 d_next_41 d_says_41 d_note_41 d_sort_41 d_freshSort_41 p_table_41 p_turn_41 p_count_41 y_next_41 y_says_41 y_size_41 hc_41) (cwV 3 hts gX9_is_X4_makeFixed rfl rfl rfl ⟨rfl, eX4_makeFixed⟩ ⟨Nat.le_of_ble_eq_true rfl, Nat.le_of_ble_eq_true rfl⟩) (preWVF (X := WX G z_h z_q z_fh z_hr z_hl z_hk z_he z_ht r_q l_hd k_hp e_hs e_q s_q t_q d_q d_a p_q r_goes r_told e_steps e_yes s_sets s_slots s_count t_ways t_freshWays t_leastTo t_waiting d_rm d_stateOf d_kindOf d_order d_rooms d_count d_next d_says d_note d_sort d_freshSort p_table p_turn p_count) (Xc := (WL G z_hl l_hd) ++ (WD G l_hd k_hp d_q d_a d_rm d_stateOf d_kindOf d_order d_rooms d_count d_next d_says d_note d_sort d_freshSort) ++ (WP G k_hp p_q p_table p_turn p_count)) (ci := 4) (q0 := 0) hK hP hD (in6 g_38) [5, 17, 18, 19, 20, 21, 22, 23, 24, 25, 26, 27, 28, 29, 30] rfl (by decide) rfl rfl) rfl rfl hl.1 rfl (lv_room (Nat.le_of_ble_eq_true rfl)) dX9_is_41 ⟨Nat.le_of_ble_eq_true rfl, by show 0 + (ms1) ≤ ms1; omega⟩) hP hD hS hA [5, 17, 18, 19, 20, 21, 22, 23, 24, 25, 26, 27, 28, 29, 30] [0, 1, 2, 3, 4, 6, 7, 8, 9, 10, 11, 12, 13, 14, 15, 16] rfl rfl (by decide) (by decide) (fun u_41 H locs hP hD hS => ?_)
          have hP := hP.part (cx := WX G z_h z_q z_fh z_hr z_hl z_hk z_he z_ht r_q l_hd k_hp e_hs e_q s_q t_q d_q u_41 p_q r_goes r_told e_steps e_yes s_sets s_slots s_count t_ways t_freshWays t_leastTo t_waiting d_rm_41 d_stateOf_41 d_kindOf_41 d_order_41 d_rooms_41 d_count_41 d_next_41 d_says_41 d_note_41 d_sort_41 d_freshSort_41 p_table_41 p_turn_41 p_count_41) [0, 1, 2, 3, 4, 16, 5, 6, 7, 8, 9, 10, 11, 12, 13, 14, 15, 17, 18, 19, 20, 21, 22, 23, 24, 25, 26, 27] rfl
          have hD := hD.part (cx := WX G z_h z_q z_fh z_hr z_hl z_hk z_he z_ht r_q l_hd k_hp e_hs e_q s_q t_q d_q u_41 p_q r_goes r_told e_steps e_yes s_sets s_slots s_count t_ways t_freshWays t_leastTo t_waiting d_rm_41 d_stateOf_41 d_kindOf_41 d_order_41 d_rooms_41 d_count_41 d_next_41 d_says_41 d_note_41 d_sort_41 d_freshSort_41 p_table_41 p_turn_41 p_count_41) [0, 1, 2, 3, 4, 16, 5, 6, 7, 8, 9, 10, 11, 12, 13, 14, 15, 17, 18, 19, 20, 21, 22, 23, 24, 25, 26, 27] (by decide) rfl
          have hP : va_P G.1 vwCl ((WX G z_h z_q z_fh z_hr z_hl z_hk z_he z_ht r_q l_hd k_hp e_hs e_q s_q t_q d_q u_41 p_q r_goes r_told e_steps e_yes s_sets s_slots s_count t_ways t_freshWays t_leastTo t_waiting d_rm_41 d_stateOf_41 d_kindOf_41 d_order_41 d_rooms_41 d_count_41 d_next_41 d_says_41 d_note_41 d_sort_41 d_freshSort_41 p_table_41 p_turn_41 p_count_41) ++ (WF G z_fh f_q (va_up f_next (v1.toNatClampNeg) y_next_41) (va_up f_says (v1.toNatClampNeg) y_says_41) (va_up f_size (v1.toNatClampNeg) y_size_41))) H := hP
          have hD : va_D A ((WX G z_h z_q z_fh z_hr z_hl z_hk z_he z_ht r_q l_hd k_hp e_hs e_q s_q t_q d_q u_41 p_q r_goes r_told e_steps e_yes s_sets s_slots s_count t_ways t_freshWays t_leastTo t_waiting d_rm_41 d_stateOf_41 d_kindOf_41 d_order_41 d_rooms_41 d_count_41 d_next_41 d_says_41 d_note_41 d_sort_41 d_freshSort_41 p_table_41 p_turn_41 p_count_41) ++ (WF G z_fh f_q (va_up f_next (v1.toNatClampNeg) y_next_41) (va_up f_says (v1.toNatClampNeg) y_says_41) (va_up f_size (v1.toNatClampNeg) y_size_41))) := hD
          obtain ⟨rfl, rfl, rfl, rfl, rfl, rfl, rfl, rfl, rfl, rfl, rfl, rfl, rfl, rfl, rfl, rfl, rfl, rfl⟩ := oi18 h
          exact hret u_41 _ _ _ _ _ _ _ dX9_is_44 rfl rfl hP hD hS (Nat.le_of_ble_eq_true rfl) (by show 0 + (ms1) ≤ ms1; omega)
        · replace h := (if_neg c_23).symm.trans h
          refine lv_bipush (v := -2) hx hb dX9_is_26 (by decide) ?_
          obtain ⟨rfl, rfl, rfl, rfl, rfl, rfl, rfl, rfl, rfl, rfl, rfl, rfl, rfl, rfl, rfl, rfl, rfl, rfl⟩ := oi18 h
          exact hret d_a _ _ _ _ _ _ _ dX9_is_28 rfl rfl hP hD hS (Nat.zero_le _) (Nat.zero_le _)
    · replace h := (if_pos c_11).symm.trans h
      refine lv_iconst (v := -1) hx hb dX9_is_14 (by decide) ?_
      obtain ⟨rfl, rfl, rfl, rfl, rfl, rfl, rfl, rfl, rfl, rfl, rfl, rfl, rfl, rfl, rfl, rfl, rfl, rfl⟩ := oi18 h
      exact hret d_a _ _ _ _ _ _ _ dX9_is_15 rfl rfl hP hD hS (Nat.zero_le _) (Nat.zero_le _)
abbrev rX9_tells (ms1 : Nat) : Room := { frames := 6, cells := 5, slots := ms1, locals := 137 }
set_option maxHeartbeats 4000000 in
set_option maxRecDepth 100000 in
theorem c_X9_tells (l : Launch) (G : GG) (n : Nat) (z_h : Nat) (z_q : Nat) (z_fh : Nat → Nat) (z_hr : Nat) (z_hl : Nat) (z_hk : Nat) (z_he : Nat) (z_ht : Nat) (r_q : Nat → Nat) (l_hd : Nat) (k_hp : Nat) (e_hs : Nat) (e_q : Nat → Nat) (s_q : Nat → Nat) (t_q : Nat → Nat) (d_q : Nat → Nat) (d_a : Nat → Nat) (p_q : Nat → Nat) (f_q : Nat → Nat → Nat) (r_goes : AI) (r_told : AI) (e_steps : AL) (e_yes : Int64) (s_sets : AL) (s_slots : AI) (s_count : Int32) (t_ways : AL) (t_freshWays : AL) (t_leastTo : AL) (t_waiting : AI) (d_rm : Nat) (d_stateOf : AI) (d_kindOf : AI) (d_order : AI) (d_rooms : Int32) (d_count : Int32) (d_next : AI) (d_says : AI) (d_note : AI) (d_sort : AI) (d_freshSort : AI) (p_table : AI) (p_turn : Int32) (p_count : Int32) (f_next : AF) (f_says : AF) (f_size : AI)  (v1 : Int32) (v2 : Int32) (v3 : Int32) (rmx1 : Nat) (ms1 : Nat) (hms1 : rmx1 = d_rm ∨ 12 * rmx1 ≤ ms1) (sz : Nat) (r : Int32) (d_rm_z : Nat) (d_stateOf_z : AI) (d_kindOf_z : AI) (d_order_z : AI) (d_rooms_z : Int32) (d_count_z : Int32) (d_next_z : AI) (d_says_z : AI) (d_note_z : AI) (d_sort_z : AI) (d_freshSort_z : AI) (p_table_z : AI) (p_turn_z : Int32) (p_count_z : Int32) (f_next_z : AF) (f_says_z : AF) (f_size_z : AI) (h : p_X9_tells n r_goes r_told d_rm d_stateOf d_kindOf d_order d_rooms d_count d_next d_says d_note d_sort d_freshSort p_table p_turn p_count f_next f_says f_size rmx1 v1 v2 v3 = some (r, d_rm_z, d_stateOf_z, d_kindOf_z, d_order_z, d_rooms_z, d_count_z, d_next_z, d_says_z, d_note_z, d_sort_z, d_freshSort_z, p_table_z, p_turn_z, p_count_z, f_next_z, f_says_z, f_size_z)) : CI l yX9_tells wsX9_tells (rX9_tells ms1) G [.ref z_h, .int v1, .int v2, .int v3] ((WX G z_h z_q z_fh z_hr z_hl z_hk z_he z_ht r_q l_hd k_hp e_hs e_q s_q t_q d_q d_a p_q r_goes r_told e_steps e_yes s_sets s_slots s_count t_ways t_freshWays t_leastTo t_waiting d_rm d_stateOf d_kindOf d_order d_rooms d_count d_next d_says d_note d_sort d_freshSort p_table p_turn p_count) ++ (WF G z_fh f_q f_next f_says f_size)) sz r (fun u => (WX G z_h z_q z_fh z_hr z_hl z_hk z_he z_ht r_q l_hd k_hp e_hs e_q s_q t_q d_q u p_q r_goes r_told e_steps e_yes s_sets s_slots s_count t_ways t_freshWays t_leastTo t_waiting d_rm_z d_stateOf_z d_kindOf_z d_order_z d_rooms_z d_count_z d_next_z d_says_z d_note_z d_sort_z d_freshSort_z p_table_z p_turn_z p_count_z) ++ (WF G z_fh f_q f_next_z f_says_z f_size_z)) := by
  refine enterCI (cc := cX9_tells) (maxL := 4) (by decide) rfl (Nat.le_of_ble_eq_true rfl) ?_
  intro p e s m args below meth c A Q hx hb hml hown hts hK hP hD hS hA hret ls hl
  have hown : s.vm.findClass RX9 = some m.cls := hown
  have hf14 := hts (.fieldLink RX9 14 "DigitClaims" "theRow" "LDigitClaims$RowMachine;") (by decide +kernel)
  have hf20 := hts (.fieldLink RX9 20 "DigitClaims" "claims" "[LDigitClaims$Claim;") (by decide +kernel)
  have hf42 := hts (.fieldLink RX9 42 "DigitClaims" "plain" "LDigitClaims$PlainClaims;") (by decide +kernel)
  have hinX9 : ∀ w ∈ wsX90, w ∈ wsX9_tells := by decide +kernel
  have hl : lv_has ls 4 [(0, .ref z_h), (1, .int v1), (2, .int v2), (3, .int v3)] := hl
  unfold p_X9_tells at h
  refine lv_iload_n hx hb dX9_tells_0 rfl (lv_at hl 1 rfl) ?_
  obtain ⟨r_1, hc_1, h⟩ := ob1_e h
  refine k_si (va_runS (As := [.int v1]) (rest := []) ⟨hx, hb, hml, hown, hts⟩ (c_X9_isClaim l G    v1 r_1 hc_1) (va_cwS 1 hts gX9_tells_X9_isClaim rfl rfl rfl eX9_isClaim ⟨Nat.le_of_ble_eq_true rfl, Nat.le_of_ble_eq_true rfl⟩) (preSS hK (fun k q h => by cases h)) rfl rfl hl.1 rfl (lv_room (Nat.le_of_ble_eq_true rfl)) dX9_tells_1 ⟨Nat.le_of_ble_eq_true rfl, by show 0 + 0 ≤ ms1; omega⟩) ?_
  refine lv_if_eq (tgt := 14) hx hb dX9_tells_4 (by decide) (fun c_4 => ?_) (fun c_4 => ?_)
  · replace h := (if_pos c_4).symm.trans h
    refine lv_iconst (v := -1) hx hb dX9_tells_14 (by decide) ?_
    obtain ⟨rfl, rfl, rfl, rfl, rfl, rfl, rfl, rfl, rfl, rfl, rfl, rfl, rfl, rfl, rfl, rfl, rfl, rfl⟩ := oi18 h
    exact hret d_a _ _ _ _ _ _ _ dX9_tells_15 rfl rfl hP hD hS (Nat.zero_le _) (Nat.zero_le _)
  · replace h := (if_neg c_4).symm.trans h
    refine lv_iload_n hx hb dX9_tells_7 rfl (lv_at hl 2 rfl) ?_
    obtain ⟨r_8, hc_8, h⟩ := ob1_e h
    refine k_si (va_runS (As := [.int v2]) (rest := []) ⟨hx, hb, hml, hown, hts⟩ (c_X9_isNumber l G    v2 r_8 hc_8) (va_cwS 1 hts gX9_tells_X9_isNumber rfl rfl rfl eX9_isNumber ⟨Nat.le_of_ble_eq_true rfl, Nat.le_of_ble_eq_true rfl⟩) (preSS hK (fun k q h => by cases h)) rfl rfl hl.1 rfl (lv_room (Nat.le_of_ble_eq_true rfl)) dX9_tells_8 ⟨Nat.le_of_ble_eq_true rfl, by show 0 + 0 ≤ ms1; omega⟩) ?_
    refine lv_if_ne (tgt := 16) hx hb dX9_tells_11 (by decide) (fun c_11 => ?_) (fun c_11 => ?_)
    · replace h := (if_neg c_11).symm.trans h
      refine lv_iload_n hx hb dX9_tells_16 rfl (lv_at hl 3 rfl) ?_
      obtain ⟨r_17, hc_17, h⟩ := ob1_e h
      refine k_si (va_runS (As := [.int v3]) (rest := []) ⟨hx, hb, hml, hown, hts⟩ (c_X9_isTelling l G    v3 r_17 hc_17) (va_cwS 1 hts gX9_tells_X9_isTelling rfl rfl rfl eX9_isTelling ⟨Nat.le_of_ble_eq_true rfl, Nat.le_of_ble_eq_true rfl⟩) (preSS hK (fun k q h => by cases h)) rfl rfl hl.1 rfl (lv_room (Nat.le_of_ble_eq_true rfl)) dX9_tells_17 ⟨Nat.le_of_ble_eq_true rfl, by show 0 + 0 ≤ ms1; omega⟩) ?_
      refine lv_if_ne (tgt := 26) hx hb dX9_tells_20 (by decide) (fun c_20 => ?_) (fun c_20 => ?_)
      · replace h := (if_neg c_20).symm.trans h
        refine lv_aload_n hx hb dX9_tells_26 rfl (lv_at hl 0 rfl) ?_
        refine va_get (D := G.1) (ci := 9) (v := .ref z_hl) (C := RX9) (T := TX9) (N := 7) hx hb hts hinX9 hown hK.1 hP 0 rfl rfl 3 (by decide) hf42 (fun _ h9 => h9) rfl dX9_tells_27 ?_
        refine lv_aload_n hx hb dX9_tells_30 rfl (lv_at hl 0 rfl) ?_
        refine va_get (D := G.1) (ci := 9) (v := .ref z_q) (C := RX9) (T := TX9) (N := 7) hx hb hts hinX9 hown hK.1 hP 0 rfl rfl 1 (by decide) hf20 (fun _ h9 => h9) rfl dX9_tells_31 ?_
        refine lv_iload_n hx hb dX9_tells_34 rfl (lv_at hl 1 rfl) ?_
        obtain ⟨g_35, h⟩ := gi_e h
        refine va_aldq hx hb hK.1 hP 1 3 rfl rfl g_35 dX9_tells_35 ?_
        refine W.eq (g2 := F0 m 36 ls [.ref (z_fh (v1.toNatClampNeg)), .ref z_hl]) rfl ?_
        refine lv_aload_n hx hb dX9_tells_36 rfl (lv_at hl 0 rfl) ?_
        refine va_get (D := G.1) (ci := 9) (v := .ref z_hr) (C := RX9) (T := TX9) (N := 7) hx hb hts hinX9 hown hK.1 hP 0 rfl rfl 0 (by decide) hf14 (fun _ h9 => h9) rfl dX9_tells_37 ?_
        refine lv_iload_n hx hb dX9_tells_40 rfl (lv_at hl 2 rfl) ?_
        refine lv_iload_n hx hb dX9_tells_41 rfl (lv_at hl 3 rfl) ?_
        obtain ⟨r_42, d_rm_42, d_stateOf_42, d_kindOf_42, d_order_42, d_rooms_42, d_count_42, d_next_42, d_says_42, d_note_42, d_sort_42, d_freshSort_42, p_table_42, p_turn_42, p_count_42, y_next_42, y_says_42, y_size_42, hc_42, h⟩ := ob18_e h
        refine k_ciF (X := WX G z_h z_q z_fh z_hr z_hl z_hk z_he z_ht r_q l_hd k_hp e_hs e_q s_q t_q d_q d_a p_q r_goes r_told e_steps e_yes s_sets s_slots s_count t_ways t_freshWays t_leastTo t_waiting d_rm d_stateOf d_kindOf d_order d_rooms d_count d_next d_says d_note d_sort d_freshSort p_table p_turn p_count) (Xc := (WL G z_hl l_hd) ++ (WD G l_hd k_hp d_q d_a d_rm d_stateOf d_kindOf d_order d_rooms d_count d_next d_says d_note d_sort d_freshSort) ++ (WP G k_hp p_q p_table p_turn p_count) ++ (WR G z_hr r_q r_goes r_told)) (wr := [(z_h, .inr (9, [.ref z_hr, .ref z_q, .ref (z_fh 6), .ref z_hl, .ref z_hk, .ref z_he, .ref z_ht])), (z_q, .inl (G.2 3, 6, .inr (.inr (.inr (.inr (fun i => some (z_fh i))))))), (z_hk, .inr (2, [.ref (l_hd), .ref (k_hp)])), (z_he, .inr (6, [.ref (l_hd), .ref (e_hs), .ref (e_q 0), .long e_yes])), (e_q 0, .inl (G.2 2, 480, .inr (.inl e_steps))), (e_hs, .inr (7, [.ref (s_q 0), .ref (s_q 1), .int s_count])), (s_q 0, .inl (G.2 2, 300, .inr (.inl s_sets))), (s_q 1, .inl (G.2 0, 1024, .inl s_slots)), (z_ht, .inr (8, [.ref (t_q 0), .ref (t_q 1), .ref (t_q 2), .ref (t_q 3)])), (t_q 0, .inl (G.2 2, 60, .inr (.inl t_ways))), (t_q 1, .inl (G.2 2, 60, .inr (.inl t_freshWays))), (t_q 2, .inl (G.2 2, 60, .inr (.inl t_leastTo))), (t_q 3, .inl (G.2 0, 60, .inl t_waiting))]) (x1 := fun u => (WL G z_hl l_hd) ++ (WD G l_hd k_hp d_q u d_rm_42 d_stateOf_42 d_kindOf_42 d_order_42 d_rooms_42 d_count_42 d_next_42 d_says_42 d_note_42 d_sort_42 d_freshSort_42) ++ (WP G k_hp p_q p_table_42 p_turn_42 p_count_42) ++ (WR G z_hr r_q r_goes r_told)) (fh := z_fh) (fq := f_q) (fn := f_next) (fs := f_says) (fz := f_size) (k := (v1.toNatClampNeg)) (nx := y_next_42) (sy := y_says_42) (sz := y_size_42) (in6 g_35) (va_runV (As := [.ref (z_fh (v1.toNatClampNeg)), .ref z_hr, .int v2, .int v3]) (rest := []) ⟨hx, hb, hml, hown, hts⟩ (c_X4_makeTells l G n z_hl l_hd k_hp d_q d_a p_q z_hr r_q (z_fh (v1.toNatClampNeg)) (f_q (v1.toNatClampNeg)) d_rm d_stateOf d_kindOf d_order d_rooms d_count d_next d_says d_note d_sort d_freshSort p_table p_turn p_count r_goes r_told (f_next (v1.toNatClampNeg)) (f_says (v1.toNatClampNeg)) (f_size (v1.toNatClampNeg))  v2 v3 rmx1 ms1 hms1 _ r_42 d_rm_42 d_stateOf_42 d_kindOf_42 d_order_42 d_rooms_42 d_count_42 d_next_42 d_says_42 d_note_42 d_sort_42 d_freshSort_42 p_table_42 p_turn_42 p_count_42 y_next_42 y_says_42 y_size_42 hc_42) (cwV 4 hts gX9_tells_X4_makeTells rfl rfl rfl ⟨rfl, eX4_makeTells⟩ ⟨Nat.le_of_ble_eq_true rfl, Nat.le_of_ble_eq_true rfl⟩) (preWVF (X := WX G z_h z_q z_fh z_hr z_hl z_hk z_he z_ht r_q l_hd k_hp e_hs e_q s_q t_q d_q d_a p_q r_goes r_told e_steps e_yes s_sets s_slots s_count t_ways t_freshWays t_leastTo t_waiting d_rm d_stateOf d_kindOf d_order d_rooms d_count d_next d_says d_note d_sort d_freshSort p_table p_turn p_count) (Xc := (WL G z_hl l_hd) ++ (WD G l_hd k_hp d_q d_a d_rm d_stateOf d_kindOf d_order d_rooms d_count d_next d_says d_note d_sort d_freshSort) ++ (WP G k_hp p_q p_table p_turn p_count) ++ (WR G z_hr r_q r_goes r_told)) (ci := 4) (q0 := 0) hK hP hD (in6 g_35) [5, 17, 18, 19, 20, 21, 22, 23, 24, 25, 26, 27, 2, 3, 4, 28, 29, 30] rfl (by decide) rfl rfl) rfl rfl hl.1 rfl (lv_room (Nat.le_of_ble_eq_true rfl)) dX9_tells_42 ⟨Nat.le_of_ble_eq_true rfl, by show 0 + (ms1) ≤ ms1; omega⟩) hP hD hS hA [5, 17, 18, 19, 20, 21, 22, 23, 24, 25, 26, 27, 2, 3, 4, 28, 29, 30] [0, 1, 6, 7, 8, 9, 10, 11, 12, 13, 14, 15, 16] rfl rfl (by decide) (by decide) (fun u_42 H locs hP hD hS => ?_)
        have hP := hP.part (cx := WX G z_h z_q z_fh z_hr z_hl z_hk z_he z_ht r_q l_hd k_hp e_hs e_q s_q t_q d_q u_42 p_q r_goes r_told e_steps e_yes s_sets s_slots s_count t_ways t_freshWays t_leastTo t_waiting d_rm_42 d_stateOf_42 d_kindOf_42 d_order_42 d_rooms_42 d_count_42 d_next_42 d_says_42 d_note_42 d_sort_42 d_freshSort_42 p_table_42 p_turn_42 p_count_42) [0, 1, 25, 26, 27, 13, 2, 3, 4, 5, 6, 7, 8, 9, 10, 11, 12, 14, 15, 16, 17, 18, 19, 20, 21, 22, 23, 24] rfl
        have hD := hD.part (cx := WX G z_h z_q z_fh z_hr z_hl z_hk z_he z_ht r_q l_hd k_hp e_hs e_q s_q t_q d_q u_42 p_q r_goes r_told e_steps e_yes s_sets s_slots s_count t_ways t_freshWays t_leastTo t_waiting d_rm_42 d_stateOf_42 d_kindOf_42 d_order_42 d_rooms_42 d_count_42 d_next_42 d_says_42 d_note_42 d_sort_42 d_freshSort_42 p_table_42 p_turn_42 p_count_42) [0, 1, 25, 26, 27, 13, 2, 3, 4, 5, 6, 7, 8, 9, 10, 11, 12, 14, 15, 16, 17, 18, 19, 20, 21, 22, 23, 24] (by decide) rfl
        have hP : va_P G.1 vwCl ((WX G z_h z_q z_fh z_hr z_hl z_hk z_he z_ht r_q l_hd k_hp e_hs e_q s_q t_q d_q u_42 p_q r_goes r_told e_steps e_yes s_sets s_slots s_count t_ways t_freshWays t_leastTo t_waiting d_rm_42 d_stateOf_42 d_kindOf_42 d_order_42 d_rooms_42 d_count_42 d_next_42 d_says_42 d_note_42 d_sort_42 d_freshSort_42 p_table_42 p_turn_42 p_count_42) ++ (WF G z_fh f_q (va_up f_next (v1.toNatClampNeg) y_next_42) (va_up f_says (v1.toNatClampNeg) y_says_42) (va_up f_size (v1.toNatClampNeg) y_size_42))) H := hP
        have hD : va_D A ((WX G z_h z_q z_fh z_hr z_hl z_hk z_he z_ht r_q l_hd k_hp e_hs e_q s_q t_q d_q u_42 p_q r_goes r_told e_steps e_yes s_sets s_slots s_count t_ways t_freshWays t_leastTo t_waiting d_rm_42 d_stateOf_42 d_kindOf_42 d_order_42 d_rooms_42 d_count_42 d_next_42 d_says_42 d_note_42 d_sort_42 d_freshSort_42 p_table_42 p_turn_42 p_count_42) ++ (WF G z_fh f_q (va_up f_next (v1.toNatClampNeg) y_next_42) (va_up f_says (v1.toNatClampNeg) y_says_42) (va_up f_size (v1.toNatClampNeg) y_size_42))) := hD
        obtain ⟨rfl, rfl, rfl, rfl, rfl, rfl, rfl, rfl, rfl, rfl, rfl, rfl, rfl, rfl, rfl, rfl, rfl, rfl⟩ := oi18 h
        exact hret u_42 _ _ _ _ _ _ _ dX9_tells_45 rfl rfl hP hD hS (Nat.le_of_ble_eq_true rfl) (by show 0 + (ms1) ≤ ms1; omega)
      · replace h := (if_pos c_20).symm.trans h
        refine lv_bipush (v := -2) hx hb dX9_tells_23 (by decide) ?_
        obtain ⟨rfl, rfl, rfl, rfl, rfl, rfl, rfl, rfl, rfl, rfl, rfl, rfl, rfl, rfl, rfl, rfl, rfl, rfl⟩ := oi18 h
        exact hret d_a _ _ _ _ _ _ _ dX9_tells_25 rfl rfl hP hD hS (Nat.zero_le _) (Nat.zero_le _)
    · replace h := (if_pos c_11).symm.trans h
      refine lv_iconst (v := -1) hx hb dX9_tells_14 (by decide) ?_
      obtain ⟨rfl, rfl, rfl, rfl, rfl, rfl, rfl, rfl, rfl, rfl, rfl, rfl, rfl, rfl, rfl, rfl, rfl, rfl⟩ := oi18 h
      exact hret d_a _ _ _ _ _ _ _ dX9_tells_15 rfl rfl hP hD hS (Nat.zero_le _) (Nat.zero_le _)
abbrev rX9_alike (ms1 : Nat) : Room := { frames := 6, cells := 5, slots := ms1, locals := 141 }
set_option maxHeartbeats 4000000 in
set_option maxRecDepth 100000 in
theorem c_X9_alike (l : Launch) (G : GG) (n : Nat) (z_h : Nat) (z_q : Nat) (z_fh : Nat → Nat) (z_hr : Nat) (z_hl : Nat) (z_hk : Nat) (z_he : Nat) (z_ht : Nat) (r_q : Nat → Nat) (l_hd : Nat) (k_hp : Nat) (e_hs : Nat) (e_q : Nat → Nat) (s_q : Nat → Nat) (t_q : Nat → Nat) (d_q : Nat → Nat) (d_a : Nat → Nat) (p_q : Nat → Nat) (f_q : Nat → Nat → Nat) (r_goes : AI) (r_told : AI) (e_steps : AL) (e_yes : Int64) (s_sets : AL) (s_slots : AI) (s_count : Int32) (t_ways : AL) (t_freshWays : AL) (t_leastTo : AL) (t_waiting : AI) (d_rm : Nat) (d_stateOf : AI) (d_kindOf : AI) (d_order : AI) (d_rooms : Int32) (d_count : Int32) (d_next : AI) (d_says : AI) (d_note : AI) (d_sort : AI) (d_freshSort : AI) (p_table : AI) (p_turn : Int32) (p_count : Int32) (f_next : AF) (f_says : AF) (f_size : AI)  (v1 : Int32) (v2 : Int32) (v3 : Int32) (rmx1 : Nat) (ms1 : Nat) (hms1 : rmx1 = d_rm ∨ 12 * rmx1 ≤ ms1) (sz : Nat) (r : Int32) (d_rm_z : Nat) (d_stateOf_z : AI) (d_kindOf_z : AI) (d_order_z : AI) (d_rooms_z : Int32) (d_count_z : Int32) (d_next_z : AI) (d_says_z : AI) (d_note_z : AI) (d_sort_z : AI) (d_freshSort_z : AI) (p_table_z : AI) (p_turn_z : Int32) (p_count_z : Int32) (f_next_z : AF) (f_says_z : AF) (f_size_z : AI) (h : p_X9_alike n r_goes r_told d_rm d_stateOf d_kindOf d_order d_rooms d_count d_next d_says d_note d_sort d_freshSort p_table p_turn p_count f_next f_says f_size rmx1 v1 v2 v3 = some (r, d_rm_z, d_stateOf_z, d_kindOf_z, d_order_z, d_rooms_z, d_count_z, d_next_z, d_says_z, d_note_z, d_sort_z, d_freshSort_z, p_table_z, p_turn_z, p_count_z, f_next_z, f_says_z, f_size_z)) : CI l yX9_alike wsX9_alike (rX9_alike ms1) G [.ref z_h, .int v1, .int v2, .int v3] ((WX G z_h z_q z_fh z_hr z_hl z_hk z_he z_ht r_q l_hd k_hp e_hs e_q s_q t_q d_q d_a p_q r_goes r_told e_steps e_yes s_sets s_slots s_count t_ways t_freshWays t_leastTo t_waiting d_rm d_stateOf d_kindOf d_order d_rooms d_count d_next d_says d_note d_sort d_freshSort p_table p_turn p_count) ++ (WF G z_fh f_q f_next f_says f_size)) sz r (fun u => (WX G z_h z_q z_fh z_hr z_hl z_hk z_he z_ht r_q l_hd k_hp e_hs e_q s_q t_q d_q u p_q r_goes r_told e_steps e_yes s_sets s_slots s_count t_ways t_freshWays t_leastTo t_waiting d_rm_z d_stateOf_z d_kindOf_z d_order_z d_rooms_z d_count_z d_next_z d_says_z d_note_z d_sort_z d_freshSort_z p_table_z p_turn_z p_count_z) ++ (WF G z_fh f_q f_next_z f_says_z f_size_z)) := by
  refine enterCI (cc := cX9_alike) (maxL := 4) (by decide) rfl (Nat.le_of_ble_eq_true rfl) ?_
  intro p e s m args below meth c A Q hx hb hml hown hts hK hP hD hS hA hret ls hl
  have hown : s.vm.findClass RX9 = some m.cls := hown
  have hf14 := hts (.fieldLink RX9 14 "DigitClaims" "theRow" "LDigitClaims$RowMachine;") (by decide +kernel)
  have hf20 := hts (.fieldLink RX9 20 "DigitClaims" "claims" "[LDigitClaims$Claim;") (by decide +kernel)
  have hf42 := hts (.fieldLink RX9 42 "DigitClaims" "plain" "LDigitClaims$PlainClaims;") (by decide +kernel)
  have hinX9 : ∀ w ∈ wsX90, w ∈ wsX9_alike := by decide +kernel
  have hl : lv_has ls 4 [(0, .ref z_h), (1, .int v1), (2, .int v2), (3, .int v3)] := hl
  unfold p_X9_alike at h
  refine lv_iload_n hx hb dX9_alike_0 rfl (lv_at hl 1 rfl) ?_
  obtain ⟨r_1, hc_1, h⟩ := ob1_e h
  refine k_si (va_runS (As := [.int v1]) (rest := []) ⟨hx, hb, hml, hown, hts⟩ (c_X9_isClaim l G    v1 r_1 hc_1) (va_cwS 1 hts gX9_alike_X9_isClaim rfl rfl rfl eX9_isClaim ⟨Nat.le_of_ble_eq_true rfl, Nat.le_of_ble_eq_true rfl⟩) (preSS hK (fun k q h => by cases h)) rfl rfl hl.1 rfl (lv_room (Nat.le_of_ble_eq_true rfl)) dX9_alike_1 ⟨Nat.le_of_ble_eq_true rfl, by show 0 + 0 ≤ ms1; omega⟩) ?_
  refine lv_if_eq (tgt := 15) hx hb dX9_alike_4 (by decide) (fun c_4 => ?_) (fun c_4 => ?_)
  · replace h := (if_pos c_4).symm.trans h
    refine lv_iconst (v := -1) hx hb dX9_alike_15 (by decide) ?_
    obtain ⟨rfl, rfl, rfl, rfl, rfl, rfl, rfl, rfl, rfl, rfl, rfl, rfl, rfl, rfl, rfl, rfl, rfl, rfl⟩ := oi18 h
    exact hret d_a _ _ _ _ _ _ _ dX9_alike_16 rfl rfl hP hD hS (Nat.zero_le _) (Nat.zero_le _)
  · replace h := (if_neg c_4).symm.trans h
    refine lv_iload_n hx hb dX9_alike_7 rfl (lv_at hl 2 rfl) ?_
    refine lv_iload_n hx hb dX9_alike_8 rfl (lv_at hl 3 rfl) ?_
    obtain ⟨r_9, hc_9, h⟩ := ob1_e h
    refine k_si (va_runS (As := [.int v2, .int v3]) (rest := []) ⟨hx, hb, hml, hown, hts⟩ (c_X9_areTwoNumbers l G    v2 v3 r_9 hc_9) (va_cwS 2 hts gX9_alike_X9_areTwoNumbers rfl rfl rfl eX9_areTwoNumbers ⟨Nat.le_of_ble_eq_true rfl, Nat.le_of_ble_eq_true rfl⟩) (preSS hK (fun k q h => by cases h)) rfl rfl hl.1 rfl (lv_room (Nat.le_of_ble_eq_true rfl)) dX9_alike_9 ⟨Nat.le_of_ble_eq_true rfl, by show 0 + 0 ≤ ms1; omega⟩) ?_
    refine lv_if_ne (tgt := 17) hx hb dX9_alike_12 (by decide) (fun c_12 => ?_) (fun c_12 => ?_)
    · replace h := (if_neg c_12).symm.trans h
      refine lv_aload_n hx hb dX9_alike_17 rfl (lv_at hl 0 rfl) ?_
      refine va_get (D := G.1) (ci := 9) (v := .ref z_hl) (C := RX9) (T := TX9) (N := 7) hx hb hts hinX9 hown hK.1 hP 0 rfl rfl 3 (by decide) hf42 (fun _ h9 => h9) rfl dX9_alike_18 ?_
      refine lv_aload_n hx hb dX9_alike_21 rfl (lv_at hl 0 rfl) ?_
      refine va_get (D := G.1) (ci := 9) (v := .ref z_q) (C := RX9) (T := TX9) (N := 7) hx hb hts hinX9 hown hK.1 hP 0 rfl rfl 1 (by decide) hf20 (fun _ h9 => h9) rfl dX9_alike_22 ?_
      refine lv_iload_n hx hb dX9_alike_25 rfl (lv_at hl 1 rfl) ?_
      obtain ⟨g_26, h⟩ := gi_e h
      refine va_aldq hx hb hK.1 hP 1 3 rfl rfl g_26 dX9_alike_26 ?_
      refine W.eq (g2 := F0 m 27 ls [.ref (z_fh (v1.toNatClampNeg)), .ref z_hl]) rfl ?_
      refine lv_aload_n hx hb dX9_alike_27 rfl (lv_at hl 0 rfl) ?_
      refine va_get (D := G.1) (ci := 9) (v := .ref z_hr) (C := RX9) (T := TX9) (N := 7) hx hb hts hinX9 hown hK.1 hP 0 rfl rfl 0 (by decide) hf14 (fun _ h9 => h9) rfl dX9_alike_28 ?_
      refine lv_iload_n hx hb dX9_alike_31 rfl (lv_at hl 2 rfl) ?_
      refine lv_iload_n hx hb dX9_alike_32 rfl (lv_at hl 3 rfl) ?_
      obtain ⟨r_33, d_rm_33, d_stateOf_33, d_kindOf_33, d_order_33, d_rooms_33, d_count_33, d_next_33, d_says_33, d_note_33, d_sort_33, d_freshSort_33, p_table_33, p_turn_33, p_count_33, y_next_33, y_says_33, y_size_33, hc_33, h⟩ := ob18_e h
      refine k_ciF (X := WX G z_h z_q z_fh z_hr z_hl z_hk z_he z_ht r_q l_hd k_hp e_hs e_q s_q t_q d_q d_a p_q r_goes r_told e_steps e_yes s_sets s_slots s_count t_ways t_freshWays t_leastTo t_waiting d_rm d_stateOf d_kindOf d_order d_rooms d_count d_next d_says d_note d_sort d_freshSort p_table p_turn p_count) (Xc := (WL G z_hl l_hd) ++ (WD G l_hd k_hp d_q d_a d_rm d_stateOf d_kindOf d_order d_rooms d_count d_next d_says d_note d_sort d_freshSort) ++ (WP G k_hp p_q p_table p_turn p_count) ++ (WR G z_hr r_q r_goes r_told)) (wr := [(z_h, .inr (9, [.ref z_hr, .ref z_q, .ref (z_fh 6), .ref z_hl, .ref z_hk, .ref z_he, .ref z_ht])), (z_q, .inl (G.2 3, 6, .inr (.inr (.inr (.inr (fun i => some (z_fh i))))))), (z_hk, .inr (2, [.ref (l_hd), .ref (k_hp)])), (z_he, .inr (6, [.ref (l_hd), .ref (e_hs), .ref (e_q 0), .long e_yes])), (e_q 0, .inl (G.2 2, 480, .inr (.inl e_steps))), (e_hs, .inr (7, [.ref (s_q 0), .ref (s_q 1), .int s_count])), (s_q 0, .inl (G.2 2, 300, .inr (.inl s_sets))), (s_q 1, .inl (G.2 0, 1024, .inl s_slots)), (z_ht, .inr (8, [.ref (t_q 0), .ref (t_q 1), .ref (t_q 2), .ref (t_q 3)])), (t_q 0, .inl (G.2 2, 60, .inr (.inl t_ways))), (t_q 1, .inl (G.2 2, 60, .inr (.inl t_freshWays))), (t_q 2, .inl (G.2 2, 60, .inr (.inl t_leastTo))), (t_q 3, .inl (G.2 0, 60, .inl t_waiting))]) (x1 := fun u => (WL G z_hl l_hd) ++ (WD G l_hd k_hp d_q u d_rm_33 d_stateOf_33 d_kindOf_33 d_order_33 d_rooms_33 d_count_33 d_next_33 d_says_33 d_note_33 d_sort_33 d_freshSort_33) ++ (WP G k_hp p_q p_table_33 p_turn_33 p_count_33) ++ (WR G z_hr r_q r_goes r_told)) (fh := z_fh) (fq := f_q) (fn := f_next) (fs := f_says) (fz := f_size) (k := (v1.toNatClampNeg)) (nx := y_next_33) (sy := y_says_33) (sz := y_size_33) (in6 g_26) (va_runV (As := [.ref (z_fh (v1.toNatClampNeg)), .ref z_hr, .int v2, .int v3]) (rest := []) ⟨hx, hb, hml, hown, hts⟩ (c_X4_makeAlike l G n z_hl l_hd k_hp d_q d_a p_q z_hr r_q (z_fh (v1.toNatClampNeg)) (f_q (v1.toNatClampNeg)) d_rm d_stateOf d_kindOf d_order d_rooms d_count d_next d_says d_note d_sort d_freshSort p_table p_turn p_count r_goes r_told (f_next (v1.toNatClampNeg)) (f_says (v1.toNatClampNeg)) (f_size (v1.toNatClampNeg))  v2 v3 rmx1 ms1 hms1 _ r_33 d_rm_33 d_stateOf_33 d_kindOf_33 d_order_33 d_rooms_33 d_count_33 d_next_33 d_says_33 d_note_33 d_sort_33 d_freshSort_33 p_table_33 p_turn_33 p_count_33 y_next_33 y_says_33 y_size_33 hc_33) (cwV 4 hts gX9_alike_X4_makeAlike rfl rfl rfl ⟨rfl, eX4_makeAlike⟩ ⟨Nat.le_of_ble_eq_true rfl, Nat.le_of_ble_eq_true rfl⟩) (preWVF (X := WX G z_h z_q z_fh z_hr z_hl z_hk z_he z_ht r_q l_hd k_hp e_hs e_q s_q t_q d_q d_a p_q r_goes r_told e_steps e_yes s_sets s_slots s_count t_ways t_freshWays t_leastTo t_waiting d_rm d_stateOf d_kindOf d_order d_rooms d_count d_next d_says d_note d_sort d_freshSort p_table p_turn p_count) (Xc := (WL G z_hl l_hd) ++ (WD G l_hd k_hp d_q d_a d_rm d_stateOf d_kindOf d_order d_rooms d_count d_next d_says d_note d_sort d_freshSort) ++ (WP G k_hp p_q p_table p_turn p_count) ++ (WR G z_hr r_q r_goes r_told)) (ci := 4) (q0 := 0) hK hP hD (in6 g_26) [5, 17, 18, 19, 20, 21, 22, 23, 24, 25, 26, 27, 2, 3, 4, 28, 29, 30] rfl (by decide) rfl rfl) rfl rfl hl.1 rfl (lv_room (Nat.le_of_ble_eq_true rfl)) dX9_alike_33 ⟨Nat.le_of_ble_eq_true rfl, by show 0 + (ms1) ≤ ms1; omega⟩) hP hD hS hA [5, 17, 18, 19, 20, 21, 22, 23, 24, 25, 26, 27, 2, 3, 4, 28, 29, 30] [0, 1, 6, 7, 8, 9, 10, 11, 12, 13, 14, 15, 16] rfl rfl (by decide) (by decide) (fun u_33 H locs hP hD hS => ?_)
      have hP := hP.part (cx := WX G z_h z_q z_fh z_hr z_hl z_hk z_he z_ht r_q l_hd k_hp e_hs e_q s_q t_q d_q u_33 p_q r_goes r_told e_steps e_yes s_sets s_slots s_count t_ways t_freshWays t_leastTo t_waiting d_rm_33 d_stateOf_33 d_kindOf_33 d_order_33 d_rooms_33 d_count_33 d_next_33 d_says_33 d_note_33 d_sort_33 d_freshSort_33 p_table_33 p_turn_33 p_count_33) [0, 1, 25, 26, 27, 13, 2, 3, 4, 5, 6, 7, 8, 9, 10, 11, 12, 14, 15, 16, 17, 18, 19, 20, 21, 22, 23, 24] rfl
      have hD := hD.part (cx := WX G z_h z_q z_fh z_hr z_hl z_hk z_he z_ht r_q l_hd k_hp e_hs e_q s_q t_q d_q u_33 p_q r_goes r_told e_steps e_yes s_sets s_slots s_count t_ways t_freshWays t_leastTo t_waiting d_rm_33 d_stateOf_33 d_kindOf_33 d_order_33 d_rooms_33 d_count_33 d_next_33 d_says_33 d_note_33 d_sort_33 d_freshSort_33 p_table_33 p_turn_33 p_count_33) [0, 1, 25, 26, 27, 13, 2, 3, 4, 5, 6, 7, 8, 9, 10, 11, 12, 14, 15, 16, 17, 18, 19, 20, 21, 22, 23, 24] (by decide) rfl
      have hP : va_P G.1 vwCl ((WX G z_h z_q z_fh z_hr z_hl z_hk z_he z_ht r_q l_hd k_hp e_hs e_q s_q t_q d_q u_33 p_q r_goes r_told e_steps e_yes s_sets s_slots s_count t_ways t_freshWays t_leastTo t_waiting d_rm_33 d_stateOf_33 d_kindOf_33 d_order_33 d_rooms_33 d_count_33 d_next_33 d_says_33 d_note_33 d_sort_33 d_freshSort_33 p_table_33 p_turn_33 p_count_33) ++ (WF G z_fh f_q (va_up f_next (v1.toNatClampNeg) y_next_33) (va_up f_says (v1.toNatClampNeg) y_says_33) (va_up f_size (v1.toNatClampNeg) y_size_33))) H := hP
      have hD : va_D A ((WX G z_h z_q z_fh z_hr z_hl z_hk z_he z_ht r_q l_hd k_hp e_hs e_q s_q t_q d_q u_33 p_q r_goes r_told e_steps e_yes s_sets s_slots s_count t_ways t_freshWays t_leastTo t_waiting d_rm_33 d_stateOf_33 d_kindOf_33 d_order_33 d_rooms_33 d_count_33 d_next_33 d_says_33 d_note_33 d_sort_33 d_freshSort_33 p_table_33 p_turn_33 p_count_33) ++ (WF G z_fh f_q (va_up f_next (v1.toNatClampNeg) y_next_33) (va_up f_says (v1.toNatClampNeg) y_says_33) (va_up f_size (v1.toNatClampNeg) y_size_33))) := hD
      obtain ⟨rfl, rfl, rfl, rfl, rfl, rfl, rfl, rfl, rfl, rfl, rfl, rfl, rfl, rfl, rfl, rfl, rfl, rfl⟩ := oi18 h
      exact hret u_33 _ _ _ _ _ _ _ dX9_alike_36 rfl rfl hP hD hS (Nat.le_of_ble_eq_true rfl) (by show 0 + (ms1) ≤ ms1; omega)
    · replace h := (if_pos c_12).symm.trans h
      refine lv_iconst (v := -1) hx hb dX9_alike_15 (by decide) ?_
      obtain ⟨rfl, rfl, rfl, rfl, rfl, rfl, rfl, rfl, rfl, rfl, rfl, rfl, rfl, rfl, rfl, rfl, rfl, rfl⟩ := oi18 h
      exact hret d_a _ _ _ _ _ _ _ dX9_alike_16 rfl rfl hP hD hS (Nat.zero_le _) (Nat.zero_le _)
abbrev rX9_joinTwo (ms1 : Nat) : Room := { frames := 6, cells := 5, slots := ms1, locals := 140 }
set_option maxHeartbeats 4000000 in
set_option maxRecDepth 100000 in
theorem c_X9_joinTwo (l : Launch) (G : GG) (n : Nat) (z_h : Nat) (z_q : Nat) (z_fh : Nat → Nat) (z_hr : Nat) (z_hl : Nat) (z_hk : Nat) (z_he : Nat) (z_ht : Nat) (r_q : Nat → Nat) (l_hd : Nat) (k_hp : Nat) (e_hs : Nat) (e_q : Nat → Nat) (s_q : Nat → Nat) (t_q : Nat → Nat) (d_q : Nat → Nat) (d_a : Nat → Nat) (p_q : Nat → Nat) (f_q : Nat → Nat → Nat) (r_goes : AI) (r_told : AI) (e_steps : AL) (e_yes : Int64) (s_sets : AL) (s_slots : AI) (s_count : Int32) (t_ways : AL) (t_freshWays : AL) (t_leastTo : AL) (t_waiting : AI) (d_rm : Nat) (d_stateOf : AI) (d_kindOf : AI) (d_order : AI) (d_rooms : Int32) (d_count : Int32) (d_next : AI) (d_says : AI) (d_note : AI) (d_sort : AI) (d_freshSort : AI) (p_table : AI) (p_turn : Int32) (p_count : Int32) (f_next : AF) (f_says : AF) (f_size : AI)  (v1 : Int32) (v2 : Int32) (v3 : Int32) (v4 : Int32) (rmx1 : Nat) (ms1 : Nat) (hms1 : rmx1 = d_rm ∨ 12 * rmx1 ≤ ms1) (sz : Nat) (r : Int32) (d_rm_z : Nat) (d_stateOf_z : AI) (d_kindOf_z : AI) (d_order_z : AI) (d_rooms_z : Int32) (d_count_z : Int32) (d_next_z : AI) (d_says_z : AI) (d_note_z : AI) (d_sort_z : AI) (d_freshSort_z : AI) (p_table_z : AI) (p_turn_z : Int32) (p_count_z : Int32) (f_next_z : AF) (f_says_z : AF) (f_size_z : AI) (h : p_X9_joinTwo n d_rm d_stateOf d_kindOf d_order d_rooms d_count d_next d_says d_note d_sort d_freshSort p_table p_turn p_count f_next f_says f_size rmx1 v1 v2 v3 v4 = some (r, d_rm_z, d_stateOf_z, d_kindOf_z, d_order_z, d_rooms_z, d_count_z, d_next_z, d_says_z, d_note_z, d_sort_z, d_freshSort_z, p_table_z, p_turn_z, p_count_z, f_next_z, f_says_z, f_size_z)) : CI l yX9_joinTwo wsX9_joinTwo (rX9_joinTwo ms1) G [.ref z_h, .int v1, .int v2, .int v3, .int v4] ((WX G z_h z_q z_fh z_hr z_hl z_hk z_he z_ht r_q l_hd k_hp e_hs e_q s_q t_q d_q d_a p_q r_goes r_told e_steps e_yes s_sets s_slots s_count t_ways t_freshWays t_leastTo t_waiting d_rm d_stateOf d_kindOf d_order d_rooms d_count d_next d_says d_note d_sort d_freshSort p_table p_turn p_count) ++ (WF G z_fh f_q f_next f_says f_size)) sz r (fun u => (WX G z_h z_q z_fh z_hr z_hl z_hk z_he z_ht r_q l_hd k_hp e_hs e_q s_q t_q d_q u p_q r_goes r_told e_steps e_yes s_sets s_slots s_count t_ways t_freshWays t_leastTo t_waiting d_rm_z d_stateOf_z d_kindOf_z d_order_z d_rooms_z d_count_z d_next_z d_says_z d_note_z d_sort_z d_freshSort_z p_table_z p_turn_z p_count_z) ++ (WF G z_fh f_q f_next_z f_says_z f_size_z)) := by
  refine enterCI (cc := cX9_joinTwo) (maxL := 5) (by decide) rfl (Nat.le_of_ble_eq_true rfl) ?_
  intro p e s m args below meth c A Q hx hb hml hown hts hK hP hD hS hA hret ls hl
  have hown : s.vm.findClass RX9 = some m.cls := hown
  have hf20 := hts (.fieldLink RX9 20 "DigitClaims" "claims" "[LDigitClaims$Claim;") (by decide +kernel)
  have hf51 := hts (.fieldLink RX9 51 "DigitClaims" "made" "LDigitClaims$MadeClaims;") (by decide +kernel)
  have hinX9 : ∀ w ∈ wsX90, w ∈ wsX9_joinTwo := by decide +kernel
  have hl : lv_has ls 5 [(0, .ref z_h), (1, .int v1), (2, .int v2), (3, .int v3), (4, .int v4)] := hl
  unfold p_X9_joinTwo at h
  refine lv_iload_n hx hb dX9_joinTwo_0 rfl (lv_at hl 1 rfl) ?_
  obtain ⟨r_1, hc_1, h⟩ := ob1_e h
  refine k_si (va_runS (As := [.int v1]) (rest := []) ⟨hx, hb, hml, hown, hts⟩ (c_X9_isClaim l G    v1 r_1 hc_1) (va_cwS 1 hts gX9_joinTwo_X9_isClaim rfl rfl rfl eX9_isClaim ⟨Nat.le_of_ble_eq_true rfl, Nat.le_of_ble_eq_true rfl⟩) (preSS hK (fun k q h => by cases h)) rfl rfl hl.1 rfl (lv_room (Nat.le_of_ble_eq_true rfl)) dX9_joinTwo_1 ⟨Nat.le_of_ble_eq_true rfl, by show 0 + 0 ≤ ms1; omega⟩) ?_
  refine lv_if_eq (tgt := 21) hx hb dX9_joinTwo_4 (by decide) (fun c_4 => ?_) (fun c_4 => ?_)
  · replace h := (if_pos c_4).symm.trans h
    refine lv_iconst (v := -1) hx hb dX9_joinTwo_21 (by decide) ?_
    obtain ⟨rfl, rfl, rfl, rfl, rfl, rfl, rfl, rfl, rfl, rfl, rfl, rfl, rfl, rfl, rfl, rfl, rfl, rfl⟩ := oi18 h
    exact hret d_a _ _ _ _ _ _ _ dX9_joinTwo_22 rfl rfl hP hD hS (Nat.zero_le _) (Nat.zero_le _)
  · replace h := (if_neg c_4).symm.trans h
    refine lv_iload_n hx hb dX9_joinTwo_7 rfl (lv_at hl 2 rfl) ?_
    obtain ⟨r_8, hc_8, h⟩ := ob1_e h
    refine k_si (va_runS (As := [.int v2]) (rest := []) ⟨hx, hb, hml, hown, hts⟩ (c_X9_isClaim l G    v2 r_8 hc_8) (va_cwS 1 hts gX9_joinTwo_X9_isClaim rfl rfl rfl eX9_isClaim ⟨Nat.le_of_ble_eq_true rfl, Nat.le_of_ble_eq_true rfl⟩) (preSS hK (fun k q h => by cases h)) rfl rfl hl.1 rfl (lv_room (Nat.le_of_ble_eq_true rfl)) dX9_joinTwo_8 ⟨Nat.le_of_ble_eq_true rfl, by show 0 + 0 ≤ ms1; omega⟩) ?_
    refine lv_if_eq (tgt := 21) hx hb dX9_joinTwo_11 (by decide) (fun c_11 => ?_) (fun c_11 => ?_)
    · replace h := (if_pos c_11).symm.trans h
      refine lv_iconst (v := -1) hx hb dX9_joinTwo_21 (by decide) ?_
      obtain ⟨rfl, rfl, rfl, rfl, rfl, rfl, rfl, rfl, rfl, rfl, rfl, rfl, rfl, rfl, rfl, rfl, rfl, rfl⟩ := oi18 h
      exact hret d_a _ _ _ _ _ _ _ dX9_joinTwo_22 rfl rfl hP hD hS (Nat.zero_le _) (Nat.zero_le _)
    · replace h := (if_neg c_11).symm.trans h
      refine lv_iload_n hx hb dX9_joinTwo_14 rfl (lv_at hl 3 rfl) ?_
      obtain ⟨r_15, hc_15, h⟩ := ob1_e h
      refine k_si (va_runS (As := [.int v3]) (rest := []) ⟨hx, hb, hml, hown, hts⟩ (c_X9_isClaim l G    v3 r_15 hc_15) (va_cwS 1 hts gX9_joinTwo_X9_isClaim rfl rfl rfl eX9_isClaim ⟨Nat.le_of_ble_eq_true rfl, Nat.le_of_ble_eq_true rfl⟩) (preSS hK (fun k q h => by cases h)) rfl rfl hl.1 rfl (lv_room (Nat.le_of_ble_eq_true rfl)) dX9_joinTwo_15 ⟨Nat.le_of_ble_eq_true rfl, by show 0 + 0 ≤ ms1; omega⟩) ?_
      refine lv_if_ne (tgt := 23) hx hb dX9_joinTwo_18 (by decide) (fun c_18 => ?_) (fun c_18 => ?_)
      · replace h := (if_neg c_18).symm.trans h
        refine lv_aload_n hx hb dX9_joinTwo_23 rfl (lv_at hl 0 rfl) ?_
        refine lv_iload_n hx hb dX9_joinTwo_24 rfl (lv_at hl 2 rfl) ?_
        obtain ⟨r_25, hc_25, h⟩ := ob1_e h
        refine k_si (va_runV (As := [.int v2]) (rest := []) ⟨hx, hb, hml, hown, hts⟩ (c_X9_isThere l G z_h z_q z_fh z_hr z_hl z_hk z_he z_ht r_q l_hd k_hp e_hs e_q s_q t_q d_q d_a p_q f_q r_goes r_told e_steps e_yes s_sets s_slots s_count t_ways t_freshWays t_leastTo t_waiting d_rm d_stateOf d_kindOf d_order d_rooms d_count d_next d_says d_note d_sort d_freshSort p_table p_turn p_count f_next f_says f_size  v2 r_25 hc_25) (cwV 1 hts gX9_joinTwo_X9_isThere rfl rfl rfl ⟨rfl, eX9_isThere⟩ ⟨Nat.le_of_ble_eq_true rfl, Nat.le_of_ble_eq_true rfl⟩) (preSV (ci := 9) (q0 := 0) hK hP rfl rfl) rfl rfl hl.1 rfl (lv_room (Nat.le_of_ble_eq_true rfl)) dX9_joinTwo_25 ⟨Nat.le_of_ble_eq_true rfl, by show 0 + 0 ≤ ms1; omega⟩) ?_
        refine lv_if_eq (tgt := 39) hx hb dX9_joinTwo_28 (by decide) (fun c_28 => ?_) (fun c_28 => ?_)
        · replace h := (if_pos c_28).symm.trans h
          refine lv_bipush (v := -3) hx hb dX9_joinTwo_39 (by decide) ?_
          obtain ⟨rfl, rfl, rfl, rfl, rfl, rfl, rfl, rfl, rfl, rfl, rfl, rfl, rfl, rfl, rfl, rfl, rfl, rfl⟩ := oi18 h
          exact hret d_a _ _ _ _ _ _ _ dX9_joinTwo_41 rfl rfl hP hD hS (Nat.zero_le _) (Nat.zero_le _)
        · replace h := (if_neg c_28).symm.trans h
          refine lv_aload_n hx hb dX9_joinTwo_31 rfl (lv_at hl 0 rfl) ?_
          refine lv_iload_n hx hb dX9_joinTwo_32 rfl (lv_at hl 3 rfl) ?_
          obtain ⟨r_33, hc_33, h⟩ := ob1_e h
          refine k_si (va_runV (As := [.int v3]) (rest := []) ⟨hx, hb, hml, hown, hts⟩ (c_X9_isThere l G z_h z_q z_fh z_hr z_hl z_hk z_he z_ht r_q l_hd k_hp e_hs e_q s_q t_q d_q d_a p_q f_q r_goes r_told e_steps e_yes s_sets s_slots s_count t_ways t_freshWays t_leastTo t_waiting d_rm d_stateOf d_kindOf d_order d_rooms d_count d_next d_says d_note d_sort d_freshSort p_table p_turn p_count f_next f_says f_size  v3 r_33 hc_33) (cwV 1 hts gX9_joinTwo_X9_isThere rfl rfl rfl ⟨rfl, eX9_isThere⟩ ⟨Nat.le_of_ble_eq_true rfl, Nat.le_of_ble_eq_true rfl⟩) (preSV (ci := 9) (q0 := 0) hK hP rfl rfl) rfl rfl hl.1 rfl (lv_room (Nat.le_of_ble_eq_true rfl)) dX9_joinTwo_33 ⟨Nat.le_of_ble_eq_true rfl, by show 0 + 0 ≤ ms1; omega⟩) ?_
          refine lv_if_ne (tgt := 42) hx hb dX9_joinTwo_36 (by decide) (fun c_36 => ?_) (fun c_36 => ?_)
          · replace h := (if_neg c_36).symm.trans h
            refine lv_aload_n hx hb dX9_joinTwo_42 rfl (lv_at hl 0 rfl) ?_
            refine va_get (D := G.1) (ci := 9) (v := .ref z_hk) (C := RX9) (T := TX9) (N := 7) hx hb hts hinX9 hown hK.1 hP 0 rfl rfl 4 (by decide) hf51 (fun _ h9 => h9) rfl dX9_joinTwo_43 ?_
            refine lv_aload_n hx hb dX9_joinTwo_46 rfl (lv_at hl 0 rfl) ?_
            refine va_get (D := G.1) (ci := 9) (v := .ref z_q) (C := RX9) (T := TX9) (N := 7) hx hb hts hinX9 hown hK.1 hP 0 rfl rfl 1 (by decide) hf20 (fun _ h9 => h9) rfl dX9_joinTwo_47 ?_
            refine lv_iload_n hx hb dX9_joinTwo_50 rfl (lv_at hl 1 rfl) ?_
            obtain ⟨g_51, h⟩ := gi_e h
            refine va_aldq hx hb hK.1 hP 1 3 rfl rfl g_51 dX9_joinTwo_51 ?_
            refine W.eq (g2 := F0 m 52 ls [.ref (z_fh (v1.toNatClampNeg)), .ref z_hk]) rfl ?_
            refine lv_aload_n hx hb dX9_joinTwo_52 rfl (lv_at hl 0 rfl) ?_
            refine va_get (D := G.1) (ci := 9) (v := .ref z_q) (C := RX9) (T := TX9) (N := 7) hx hb hts hinX9 hown hK.1 hP 0 rfl rfl 1 (by decide) hf20 (fun _ h9 => h9) rfl dX9_joinTwo_53 ?_
            refine lv_iload_n hx hb dX9_joinTwo_56 rfl (lv_at hl 2 rfl) ?_
            obtain ⟨g_57, h⟩ := gi_e h
            refine va_aldq hx hb hK.1 hP 1 3 rfl rfl g_57 dX9_joinTwo_57 ?_
            refine W.eq (g2 := F0 m 58 ls [.ref (z_fh (v2.toNatClampNeg)), .ref (z_fh (v1.toNatClampNeg)), .ref z_hk]) rfl ?_
            refine lv_aload_n hx hb dX9_joinTwo_58 rfl (lv_at hl 0 rfl) ?_
            refine va_get (D := G.1) (ci := 9) (v := .ref z_q) (C := RX9) (T := TX9) (N := 7) hx hb hts hinX9 hown hK.1 hP 0 rfl rfl 1 (by decide) hf20 (fun _ h9 => h9) rfl dX9_joinTwo_59 ?_
            refine lv_iload_n hx hb dX9_joinTwo_62 rfl (lv_at hl 3 rfl) ?_
            obtain ⟨g_63, h⟩ := gi_e h
            refine va_aldq hx hb hK.1 hP 1 3 rfl rfl g_63 dX9_joinTwo_63 ?_
            refine W.eq (g2 := F0 m 64 ls [.ref (z_fh (v3.toNatClampNeg)), .ref (z_fh (v2.toNatClampNeg)), .ref (z_fh (v1.toNatClampNeg)), .ref z_hk]) rfl ?_
            refine lv_iload hx hb dX9_joinTwo_64 (lv_at hl 4 rfl) ?_
            obtain ⟨r_66, d_rm_66, d_stateOf_66, d_kindOf_66, d_order_66, d_rooms_66, d_count_66, d_next_66, d_says_66, d_note_66, d_sort_66, d_freshSort_66, p_table_66, p_turn_66, p_count_66, f_next_66, f_says_66, f_size_66, hc_66, h⟩ := ob18_e h
            refine k_ci (wr := [(z_h, .inr (9, [.ref z_hr, .ref z_q, .ref (z_fh 6), .ref z_hl, .ref z_hk, .ref z_he, .ref z_ht])), (z_q, .inl (G.2 3, 6, .inr (.inr (.inr (.inr (fun i => some (z_fh i))))))), (z_hr, .inr (5, [.ref (r_q 0), .ref (r_q 1)])), (r_q 0, .inl (G.2 0, 10, .inl r_goes)), (r_q 1, .inl (G.2 0, 5, .inl r_told)), (z_hl, .inr (4, [.ref (l_hd)])), (z_he, .inr (6, [.ref (l_hd), .ref (e_hs), .ref (e_q 0), .long e_yes])), (e_q 0, .inl (G.2 2, 480, .inr (.inl e_steps))), (e_hs, .inr (7, [.ref (s_q 0), .ref (s_q 1), .int s_count])), (s_q 0, .inl (G.2 2, 300, .inr (.inl s_sets))), (s_q 1, .inl (G.2 0, 1024, .inl s_slots)), (z_ht, .inr (8, [.ref (t_q 0), .ref (t_q 1), .ref (t_q 2), .ref (t_q 3)])), (t_q 0, .inl (G.2 2, 60, .inr (.inl t_ways))), (t_q 1, .inl (G.2 2, 60, .inr (.inl t_freshWays))), (t_q 2, .inl (G.2 2, 60, .inr (.inl t_leastTo))), (t_q 3, .inl (G.2 0, 60, .inl t_waiting))]) (va_runV (As := [.ref (z_fh (v1.toNatClampNeg)), .ref (z_fh (v2.toNatClampNeg)), .ref (z_fh (v3.toNatClampNeg)), .int v4]) (rest := []) ⟨hx, hb, hml, hown, hts⟩ (c_X2_join l G n z_hk l_hd k_hp d_q d_a p_q z_fh f_q d_rm d_stateOf d_kindOf d_order d_rooms d_count d_next d_says d_note d_sort d_freshSort p_table p_turn p_count f_next f_says f_size (v1.toNatClampNeg) (in6 g_51) (v2.toNatClampNeg) (in6 g_57) (v3.toNatClampNeg) (in6 g_63) v4 rmx1 ms1 hms1 _ r_66 d_rm_66 d_stateOf_66 d_kindOf_66 d_order_66 d_rooms_66 d_count_66 d_next_66 d_says_66 d_note_66 d_sort_66 d_freshSort_66 p_table_66 p_turn_66 p_count_66 f_next_66 f_says_66 f_size_66 hc_66) (cwV 4 hts gX9_joinTwo_X2_join rfl rfl rfl ⟨rfl, eX2_join⟩ ⟨Nat.le_of_ble_eq_true rfl, Nat.le_of_ble_eq_true rfl⟩) (preWV (ci := 2) (q0 := 0) hK (hP.sub (ws' := (WK G z_hk l_hd k_hp) ++ (WD G l_hd k_hp d_q d_a d_rm d_stateOf d_kindOf d_order d_rooms d_count d_next d_says d_note d_sort d_freshSort) ++ (WP G k_hp p_q p_table p_turn p_count) ++ (WF G z_fh f_q f_next f_says f_size)) [6, 17, 18, 19, 20, 21, 22, 23, 24, 25, 26, 27, 28, 29, 30, 31, 32, 33, 34, 35, 36, 37, 38, 39, 40, 41, 42, 43, 44, 45, 46, 47, 48] rfl) (hD.sub (ws' := (WK G z_hk l_hd k_hp) ++ (WD G l_hd k_hp d_q d_a d_rm d_stateOf d_kindOf d_order d_rooms d_count d_next d_says d_note d_sort d_freshSort) ++ (WP G k_hp p_q p_table p_turn p_count) ++ (WF G z_fh f_q f_next f_says f_size)) [6, 17, 18, 19, 20, 21, 22, 23, 24, 25, 26, 27, 28, 29, 30, 31, 32, 33, 34, 35, 36, 37, 38, 39, 40, 41, 42, 43, 44, 45, 46, 47, 48] (by decide) rfl) rfl rfl) rfl rfl hl.1 rfl (lv_room (Nat.le_of_ble_eq_true rfl)) dX9_joinTwo_66 ⟨Nat.le_of_ble_eq_true rfl, by show 0 + (ms1) ≤ ms1; omega⟩) hP hD hS hA [6, 17, 18, 19, 20, 21, 22, 23, 24, 25, 26, 27, 28, 29, 30, 31, 32, 33, 34, 35, 36, 37, 38, 39, 40, 41, 42, 43, 44, 45, 46, 47, 48] [0, 1, 2, 3, 4, 5, 7, 8, 9, 10, 11, 12, 13, 14, 15, 16] rfl rfl (by decide) (by decide) (fun u_66 H locs hP hD hS => ?_)
            have hP := hP.sub (ws' := (WX G z_h z_q z_fh z_hr z_hl z_hk z_he z_ht r_q l_hd k_hp e_hs e_q s_q t_q d_q u_66 p_q r_goes r_told e_steps e_yes s_sets s_slots s_count t_ways t_freshWays t_leastTo t_waiting d_rm_66 d_stateOf_66 d_kindOf_66 d_order_66 d_rooms_66 d_count_66 d_next_66 d_says_66 d_note_66 d_sort_66 d_freshSort_66 p_table_66 p_turn_66 p_count_66) ++ (WF G z_fh f_q f_next_66 f_says_66 f_size_66)) [0, 1, 2, 3, 4, 5, 16, 6, 7, 8, 9, 10, 11, 12, 13, 14, 15, 17, 18, 19, 20, 21, 22, 23, 24, 25, 26, 27, 28, 29, 30, 31, 32, 33, 34, 35, 36, 37, 38, 39, 40, 41, 42, 43, 44, 45, 46, 47, 48] rfl
            have hD := hD.sub (ws' := (WX G z_h z_q z_fh z_hr z_hl z_hk z_he z_ht r_q l_hd k_hp e_hs e_q s_q t_q d_q u_66 p_q r_goes r_told e_steps e_yes s_sets s_slots s_count t_ways t_freshWays t_leastTo t_waiting d_rm_66 d_stateOf_66 d_kindOf_66 d_order_66 d_rooms_66 d_count_66 d_next_66 d_says_66 d_note_66 d_sort_66 d_freshSort_66 p_table_66 p_turn_66 p_count_66) ++ (WF G z_fh f_q f_next_66 f_says_66 f_size_66)) [0, 1, 2, 3, 4, 5, 16, 6, 7, 8, 9, 10, 11, 12, 13, 14, 15, 17, 18, 19, 20, 21, 22, 23, 24, 25, 26, 27, 28, 29, 30, 31, 32, 33, 34, 35, 36, 37, 38, 39, 40, 41, 42, 43, 44, 45, 46, 47, 48] (by decide) rfl
            obtain ⟨rfl, rfl, rfl, rfl, rfl, rfl, rfl, rfl, rfl, rfl, rfl, rfl, rfl, rfl, rfl, rfl, rfl, rfl⟩ := oi18 h
            exact hret u_66 _ _ _ _ _ _ _ dX9_joinTwo_69 rfl rfl hP hD hS (Nat.le_of_ble_eq_true rfl) (by show 0 + (ms1) ≤ ms1; omega)
          · replace h := (if_pos c_36).symm.trans h
            refine lv_bipush (v := -3) hx hb dX9_joinTwo_39 (by decide) ?_
            obtain ⟨rfl, rfl, rfl, rfl, rfl, rfl, rfl, rfl, rfl, rfl, rfl, rfl, rfl, rfl, rfl, rfl, rfl, rfl⟩ := oi18 h
            exact hret d_a _ _ _ _ _ _ _ dX9_joinTwo_41 rfl rfl hP hD hS (Nat.zero_le _) (Nat.zero_le _)
      · replace h := (if_pos c_18).symm.trans h
        refine lv_iconst (v := -1) hx hb dX9_joinTwo_21 (by decide) ?_
        obtain ⟨rfl, rfl, rfl, rfl, rfl, rfl, rfl, rfl, rfl, rfl, rfl, rfl, rfl, rfl, rfl, rfl, rfl, rfl⟩ := oi18 h
        exact hret d_a _ _ _ _ _ _ _ dX9_joinTwo_22 rfl rfl hP hD hS (Nat.zero_le _) (Nat.zero_le _)
abbrev rX9_both (ms1 : Nat) : Room := { frames := 7, cells := 5, slots := ms1, locals := 164 }
set_option maxHeartbeats 4000000 in
set_option maxRecDepth 100000 in
theorem c_X9_both (l : Launch) (G : GG) (n : Nat) (z_h : Nat) (z_q : Nat) (z_fh : Nat → Nat) (z_hr : Nat) (z_hl : Nat) (z_hk : Nat) (z_he : Nat) (z_ht : Nat) (r_q : Nat → Nat) (l_hd : Nat) (k_hp : Nat) (e_hs : Nat) (e_q : Nat → Nat) (s_q : Nat → Nat) (t_q : Nat → Nat) (d_q : Nat → Nat) (d_a : Nat → Nat) (p_q : Nat → Nat) (f_q : Nat → Nat → Nat) (r_goes : AI) (r_told : AI) (e_steps : AL) (e_yes : Int64) (s_sets : AL) (s_slots : AI) (s_count : Int32) (t_ways : AL) (t_freshWays : AL) (t_leastTo : AL) (t_waiting : AI) (d_rm : Nat) (d_stateOf : AI) (d_kindOf : AI) (d_order : AI) (d_rooms : Int32) (d_count : Int32) (d_next : AI) (d_says : AI) (d_note : AI) (d_sort : AI) (d_freshSort : AI) (p_table : AI) (p_turn : Int32) (p_count : Int32) (f_next : AF) (f_says : AF) (f_size : AI)  (v1 : Int32) (v2 : Int32) (v3 : Int32) (rmx1 : Nat) (ms1 : Nat) (hms1 : rmx1 = d_rm ∨ 12 * rmx1 ≤ ms1) (sz : Nat) (r : Int32) (d_rm_z : Nat) (d_stateOf_z : AI) (d_kindOf_z : AI) (d_order_z : AI) (d_rooms_z : Int32) (d_count_z : Int32) (d_next_z : AI) (d_says_z : AI) (d_note_z : AI) (d_sort_z : AI) (d_freshSort_z : AI) (p_table_z : AI) (p_turn_z : Int32) (p_count_z : Int32) (f_next_z : AF) (f_says_z : AF) (f_size_z : AI) (h : p_X9_both n d_rm d_stateOf d_kindOf d_order d_rooms d_count d_next d_says d_note d_sort d_freshSort p_table p_turn p_count f_next f_says f_size rmx1 v1 v2 v3 = some (r, d_rm_z, d_stateOf_z, d_kindOf_z, d_order_z, d_rooms_z, d_count_z, d_next_z, d_says_z, d_note_z, d_sort_z, d_freshSort_z, p_table_z, p_turn_z, p_count_z, f_next_z, f_says_z, f_size_z)) : CI l yX9_both wsX9_both (rX9_both ms1) G [.ref z_h, .int v1, .int v2, .int v3] ((WX G z_h z_q z_fh z_hr z_hl z_hk z_he z_ht r_q l_hd k_hp e_hs e_q s_q t_q d_q d_a p_q r_goes r_told e_steps e_yes s_sets s_slots s_count t_ways t_freshWays t_leastTo t_waiting d_rm d_stateOf d_kindOf d_order d_rooms d_count d_next d_says d_note d_sort d_freshSort p_table p_turn p_count) ++ (WF G z_fh f_q f_next f_says f_size)) sz r (fun u => (WX G z_h z_q z_fh z_hr z_hl z_hk z_he z_ht r_q l_hd k_hp e_hs e_q s_q t_q d_q u p_q r_goes r_told e_steps e_yes s_sets s_slots s_count t_ways t_freshWays t_leastTo t_waiting d_rm_z d_stateOf_z d_kindOf_z d_order_z d_rooms_z d_count_z d_next_z d_says_z d_note_z d_sort_z d_freshSort_z p_table_z p_turn_z p_count_z) ++ (WF G z_fh f_q f_next_z f_says_z f_size_z)) := by
  refine enterCI (cc := cX9_both) (maxL := 4) (by decide) rfl (Nat.le_of_ble_eq_true rfl) ?_
  intro p e s m args below meth c A Q hx hb hml hown hts hK hP hD hS hA hret ls hl
  have hown : s.vm.findClass RX9 = some m.cls := hown
  have hl : lv_has ls 4 [(0, .ref z_h), (1, .int v1), (2, .int v2), (3, .int v3)] := hl
  unfold p_X9_both at h
  refine lv_aload_n hx hb dX9_both_0 rfl (lv_at hl 0 rfl) ?_
  refine lv_iload_n hx hb dX9_both_1 rfl (lv_at hl 1 rfl) ?_
  refine lv_iload_n hx hb dX9_both_2 rfl (lv_at hl 2 rfl) ?_
  refine lv_iload_n hx hb dX9_both_3 rfl (lv_at hl 3 rfl) ?_
  refine lv_iconst (v := 1) hx hb dX9_both_4 (by decide) ?_
  obtain ⟨r_5, d_rm_5, d_stateOf_5, d_kindOf_5, d_order_5, d_rooms_5, d_count_5, d_next_5, d_says_5, d_note_5, d_sort_5, d_freshSort_5, p_table_5, p_turn_5, p_count_5, f_next_5, f_says_5, f_size_5, hc_5, h⟩ := ob18_e h
  refine k_ciA (va_runV (As := [.int v1, .int v2, .int v3, .int (1 : Int32)]) (rest := []) ⟨hx, hb, hml, hown, hts⟩ (c_X9_joinTwo l G n z_h z_q z_fh z_hr z_hl z_hk z_he z_ht r_q l_hd k_hp e_hs e_q s_q t_q d_q d_a p_q f_q r_goes r_told e_steps e_yes s_sets s_slots s_count t_ways t_freshWays t_leastTo t_waiting d_rm d_stateOf d_kindOf d_order d_rooms d_count d_next d_says d_note d_sort d_freshSort p_table p_turn p_count f_next f_says f_size  v1 v2 v3 (1 : Int32) rmx1 ms1 hms1 _ r_5 d_rm_5 d_stateOf_5 d_kindOf_5 d_order_5 d_rooms_5 d_count_5 d_next_5 d_says_5 d_note_5 d_sort_5 d_freshSort_5 p_table_5 p_turn_5 p_count_5 f_next_5 f_says_5 f_size_5 hc_5) (cwV 4 hts gX9_both_X9_joinTwo rfl rfl rfl ⟨rfl, eX9_joinTwo⟩ ⟨Nat.le_of_ble_eq_true rfl, Nat.le_of_ble_eq_true rfl⟩) (preWV (ci := 9) (q0 := 0) hK hP hD rfl rfl) rfl rfl hl.1 rfl (lv_room (Nat.le_of_ble_eq_true rfl)) dX9_both_5 ⟨Nat.le_of_ble_eq_true rfl, by show 0 + (ms1) ≤ ms1; omega⟩) hD hS hA (fun u_5 H locs hP hD hS => ?_)
  have hP : va_P G.1 vwCl ((WX G z_h z_q z_fh z_hr z_hl z_hk z_he z_ht r_q l_hd k_hp e_hs e_q s_q t_q d_q u_5 p_q r_goes r_told e_steps e_yes s_sets s_slots s_count t_ways t_freshWays t_leastTo t_waiting d_rm_5 d_stateOf_5 d_kindOf_5 d_order_5 d_rooms_5 d_count_5 d_next_5 d_says_5 d_note_5 d_sort_5 d_freshSort_5 p_table_5 p_turn_5 p_count_5) ++ (WF G z_fh f_q f_next_5 f_says_5 f_size_5)) H := hP
  have hD : va_D A ((WX G z_h z_q z_fh z_hr z_hl z_hk z_he z_ht r_q l_hd k_hp e_hs e_q s_q t_q d_q u_5 p_q r_goes r_told e_steps e_yes s_sets s_slots s_count t_ways t_freshWays t_leastTo t_waiting d_rm_5 d_stateOf_5 d_kindOf_5 d_order_5 d_rooms_5 d_count_5 d_next_5 d_says_5 d_note_5 d_sort_5 d_freshSort_5 p_table_5 p_turn_5 p_count_5) ++ (WF G z_fh f_q f_next_5 f_says_5 f_size_5)) := hD
  obtain ⟨rfl, rfl, rfl, rfl, rfl, rfl, rfl, rfl, rfl, rfl, rfl, rfl, rfl, rfl, rfl, rfl, rfl, rfl⟩ := oi18 h
  exact hret u_5 _ _ _ _ _ _ _ dX9_both_8 rfl rfl hP hD hS (Nat.le_of_ble_eq_true rfl) (by show 0 + (ms1) ≤ ms1; omega)
abbrev rX9_either (ms1 : Nat) : Room := { frames := 7, cells := 5, slots := ms1, locals := 164 }
set_option maxHeartbeats 4000000 in
set_option maxRecDepth 100000 in
theorem c_X9_either (l : Launch) (G : GG) (n : Nat) (z_h : Nat) (z_q : Nat) (z_fh : Nat → Nat) (z_hr : Nat) (z_hl : Nat) (z_hk : Nat) (z_he : Nat) (z_ht : Nat) (r_q : Nat → Nat) (l_hd : Nat) (k_hp : Nat) (e_hs : Nat) (e_q : Nat → Nat) (s_q : Nat → Nat) (t_q : Nat → Nat) (d_q : Nat → Nat) (d_a : Nat → Nat) (p_q : Nat → Nat) (f_q : Nat → Nat → Nat) (r_goes : AI) (r_told : AI) (e_steps : AL) (e_yes : Int64) (s_sets : AL) (s_slots : AI) (s_count : Int32) (t_ways : AL) (t_freshWays : AL) (t_leastTo : AL) (t_waiting : AI) (d_rm : Nat) (d_stateOf : AI) (d_kindOf : AI) (d_order : AI) (d_rooms : Int32) (d_count : Int32) (d_next : AI) (d_says : AI) (d_note : AI) (d_sort : AI) (d_freshSort : AI) (p_table : AI) (p_turn : Int32) (p_count : Int32) (f_next : AF) (f_says : AF) (f_size : AI)  (v1 : Int32) (v2 : Int32) (v3 : Int32) (rmx1 : Nat) (ms1 : Nat) (hms1 : rmx1 = d_rm ∨ 12 * rmx1 ≤ ms1) (sz : Nat) (r : Int32) (d_rm_z : Nat) (d_stateOf_z : AI) (d_kindOf_z : AI) (d_order_z : AI) (d_rooms_z : Int32) (d_count_z : Int32) (d_next_z : AI) (d_says_z : AI) (d_note_z : AI) (d_sort_z : AI) (d_freshSort_z : AI) (p_table_z : AI) (p_turn_z : Int32) (p_count_z : Int32) (f_next_z : AF) (f_says_z : AF) (f_size_z : AI) (h : p_X9_either n d_rm d_stateOf d_kindOf d_order d_rooms d_count d_next d_says d_note d_sort d_freshSort p_table p_turn p_count f_next f_says f_size rmx1 v1 v2 v3 = some (r, d_rm_z, d_stateOf_z, d_kindOf_z, d_order_z, d_rooms_z, d_count_z, d_next_z, d_says_z, d_note_z, d_sort_z, d_freshSort_z, p_table_z, p_turn_z, p_count_z, f_next_z, f_says_z, f_size_z)) : CI l yX9_either wsX9_either (rX9_either ms1) G [.ref z_h, .int v1, .int v2, .int v3] ((WX G z_h z_q z_fh z_hr z_hl z_hk z_he z_ht r_q l_hd k_hp e_hs e_q s_q t_q d_q d_a p_q r_goes r_told e_steps e_yes s_sets s_slots s_count t_ways t_freshWays t_leastTo t_waiting d_rm d_stateOf d_kindOf d_order d_rooms d_count d_next d_says d_note d_sort d_freshSort p_table p_turn p_count) ++ (WF G z_fh f_q f_next f_says f_size)) sz r (fun u => (WX G z_h z_q z_fh z_hr z_hl z_hk z_he z_ht r_q l_hd k_hp e_hs e_q s_q t_q d_q u p_q r_goes r_told e_steps e_yes s_sets s_slots s_count t_ways t_freshWays t_leastTo t_waiting d_rm_z d_stateOf_z d_kindOf_z d_order_z d_rooms_z d_count_z d_next_z d_says_z d_note_z d_sort_z d_freshSort_z p_table_z p_turn_z p_count_z) ++ (WF G z_fh f_q f_next_z f_says_z f_size_z)) := by
  refine enterCI (cc := cX9_either) (maxL := 4) (by decide) rfl (Nat.le_of_ble_eq_true rfl) ?_
  intro p e s m args below meth c A Q hx hb hml hown hts hK hP hD hS hA hret ls hl
  have hown : s.vm.findClass RX9 = some m.cls := hown
  have hl : lv_has ls 4 [(0, .ref z_h), (1, .int v1), (2, .int v2), (3, .int v3)] := hl
  unfold p_X9_either at h
  refine lv_aload_n hx hb dX9_either_0 rfl (lv_at hl 0 rfl) ?_
  refine lv_iload_n hx hb dX9_either_1 rfl (lv_at hl 1 rfl) ?_
  refine lv_iload_n hx hb dX9_either_2 rfl (lv_at hl 2 rfl) ?_
  refine lv_iload_n hx hb dX9_either_3 rfl (lv_at hl 3 rfl) ?_
  refine lv_iconst (v := 0) hx hb dX9_either_4 (by decide) ?_
  obtain ⟨r_5, d_rm_5, d_stateOf_5, d_kindOf_5, d_order_5, d_rooms_5, d_count_5, d_next_5, d_says_5, d_note_5, d_sort_5, d_freshSort_5, p_table_5, p_turn_5, p_count_5, f_next_5, f_says_5, f_size_5, hc_5, h⟩ := ob18_e h
  refine k_ciA (va_runV (As := [.int v1, .int v2, .int v3, .int (0 : Int32)]) (rest := []) ⟨hx, hb, hml, hown, hts⟩ (c_X9_joinTwo l G n z_h z_q z_fh z_hr z_hl z_hk z_he z_ht r_q l_hd k_hp e_hs e_q s_q t_q d_q d_a p_q f_q r_goes r_told e_steps e_yes s_sets s_slots s_count t_ways t_freshWays t_leastTo t_waiting d_rm d_stateOf d_kindOf d_order d_rooms d_count d_next d_says d_note d_sort d_freshSort p_table p_turn p_count f_next f_says f_size  v1 v2 v3 (0 : Int32) rmx1 ms1 hms1 _ r_5 d_rm_5 d_stateOf_5 d_kindOf_5 d_order_5 d_rooms_5 d_count_5 d_next_5 d_says_5 d_note_5 d_sort_5 d_freshSort_5 p_table_5 p_turn_5 p_count_5 f_next_5 f_says_5 f_size_5 hc_5) (cwV 4 hts gX9_either_X9_joinTwo rfl rfl rfl ⟨rfl, eX9_joinTwo⟩ ⟨Nat.le_of_ble_eq_true rfl, Nat.le_of_ble_eq_true rfl⟩) (preWV (ci := 9) (q0 := 0) hK hP hD rfl rfl) rfl rfl hl.1 rfl (lv_room (Nat.le_of_ble_eq_true rfl)) dX9_either_5 ⟨Nat.le_of_ble_eq_true rfl, by show 0 + (ms1) ≤ ms1; omega⟩) hD hS hA (fun u_5 H locs hP hD hS => ?_)
  have hP : va_P G.1 vwCl ((WX G z_h z_q z_fh z_hr z_hl z_hk z_he z_ht r_q l_hd k_hp e_hs e_q s_q t_q d_q u_5 p_q r_goes r_told e_steps e_yes s_sets s_slots s_count t_ways t_freshWays t_leastTo t_waiting d_rm_5 d_stateOf_5 d_kindOf_5 d_order_5 d_rooms_5 d_count_5 d_next_5 d_says_5 d_note_5 d_sort_5 d_freshSort_5 p_table_5 p_turn_5 p_count_5) ++ (WF G z_fh f_q f_next_5 f_says_5 f_size_5)) H := hP
  have hD : va_D A ((WX G z_h z_q z_fh z_hr z_hl z_hk z_he z_ht r_q l_hd k_hp e_hs e_q s_q t_q d_q u_5 p_q r_goes r_told e_steps e_yes s_sets s_slots s_count t_ways t_freshWays t_leastTo t_waiting d_rm_5 d_stateOf_5 d_kindOf_5 d_order_5 d_rooms_5 d_count_5 d_next_5 d_says_5 d_note_5 d_sort_5 d_freshSort_5 p_table_5 p_turn_5 p_count_5) ++ (WF G z_fh f_q f_next_5 f_says_5 f_size_5)) := hD
  obtain ⟨rfl, rfl, rfl, rfl, rfl, rfl, rfl, rfl, rfl, rfl, rfl, rfl, rfl, rfl, rfl, rfl, rfl, rfl⟩ := oi18 h
  exact hret u_5 _ _ _ _ _ _ _ dX9_either_8 rfl rfl hP hD hS (Nat.le_of_ble_eq_true rfl) (by show 0 + (ms1) ≤ ms1; omega)
abbrev rX9_not : Room := { frames := 2, cells := 0, slots := 0, locals := 82 }
set_option maxHeartbeats 4000000 in
set_option maxRecDepth 100000 in
theorem c_X9_not (l : Launch) (G : GG) (n : Nat) (z_h : Nat) (z_q : Nat) (z_fh : Nat → Nat) (z_hr : Nat) (z_hl : Nat) (z_hk : Nat) (z_he : Nat) (z_ht : Nat) (r_q : Nat → Nat) (l_hd : Nat) (k_hp : Nat) (e_hs : Nat) (e_q : Nat → Nat) (s_q : Nat → Nat) (t_q : Nat → Nat) (d_q : Nat → Nat) (d_a : Nat → Nat) (p_q : Nat → Nat) (f_q : Nat → Nat → Nat) (r_goes : AI) (r_told : AI) (e_steps : AL) (e_yes : Int64) (s_sets : AL) (s_slots : AI) (s_count : Int32) (t_ways : AL) (t_freshWays : AL) (t_leastTo : AL) (t_waiting : AI) (d_rm : Nat) (d_stateOf : AI) (d_kindOf : AI) (d_order : AI) (d_rooms : Int32) (d_count : Int32) (d_next : AI) (d_says : AI) (d_note : AI) (d_sort : AI) (d_freshSort : AI) (p_table : AI) (p_turn : Int32) (p_count : Int32) (f_next : AF) (f_says : AF) (f_size : AI)  (v1 : Int32) (v2 : Int32) (sz : Nat) (r : Int32) (f_next_z : AF) (f_says_z : AF) (f_size_z : AI) (h : p_X9_not n f_next f_says f_size v1 v2 = some (r, f_next_z, f_says_z, f_size_z)) : CI l yX9_not wsX9_not rX9_not G [.ref z_h, .int v1, .int v2] ((WX G z_h z_q z_fh z_hr z_hl z_hk z_he z_ht r_q l_hd k_hp e_hs e_q s_q t_q d_q d_a p_q r_goes r_told e_steps e_yes s_sets s_slots s_count t_ways t_freshWays t_leastTo t_waiting d_rm d_stateOf d_kindOf d_order d_rooms d_count d_next d_says d_note d_sort d_freshSort p_table p_turn p_count) ++ (WF G z_fh f_q f_next f_says f_size)) sz r (fun u => (WX G z_h z_q z_fh z_hr z_hl z_hk z_he z_ht r_q l_hd k_hp e_hs e_q s_q t_q d_q d_a p_q r_goes r_told e_steps e_yes s_sets s_slots s_count t_ways t_freshWays t_leastTo t_waiting d_rm d_stateOf d_kindOf d_order d_rooms d_count d_next d_says d_note d_sort d_freshSort p_table p_turn p_count) ++ (WF G z_fh f_q f_next_z f_says_z f_size_z)) := by
  refine enterCI (cc := cX9_not) (maxL := 3) (by decide) rfl (Nat.le_of_ble_eq_true rfl) ?_
  intro p e s m args below meth c A Q hx hb hml hown hts hK hP hD hS hA hret ls hl
  have hown : s.vm.findClass RX9 = some m.cls := hown
  have hf20 := hts (.fieldLink RX9 20 "DigitClaims" "claims" "[LDigitClaims$Claim;") (by decide +kernel)
  have hinX9 : ∀ w ∈ wsX90, w ∈ wsX9_not := by decide +kernel
  have hl : lv_has ls 3 [(0, .ref z_h), (1, .int v1), (2, .int v2)] := hl
  unfold p_X9_not at h
  refine lv_iload_n hx hb dX9_not_0 rfl (lv_at hl 1 rfl) ?_
  obtain ⟨r_1, hc_1, h⟩ := ob1_e h
  refine k_si (va_runS (As := [.int v1]) (rest := []) ⟨hx, hb, hml, hown, hts⟩ (c_X9_isClaim l G    v1 r_1 hc_1) (va_cwS 1 hts gX9_not_X9_isClaim rfl rfl rfl eX9_isClaim ⟨Nat.le_of_ble_eq_true rfl, Nat.le_of_ble_eq_true rfl⟩) (preSS hK (fun k q h => by cases h)) rfl rfl hl.1 rfl (lv_room (Nat.le_of_ble_eq_true rfl)) dX9_not_1 ⟨Nat.le_of_ble_eq_true rfl, Nat.le_of_ble_eq_true rfl⟩) ?_
  refine lv_if_eq (tgt := 14) hx hb dX9_not_4 (by decide) (fun c_4 => ?_) (fun c_4 => ?_)
  · replace h := (if_pos c_4).symm.trans h
    refine lv_iconst (v := -1) hx hb dX9_not_14 (by decide) ?_
    obtain ⟨rfl, rfl, rfl, rfl⟩ := oi4 h
    exact hret (fun _ => 0) _ _ _ _ _ _ _ dX9_not_15 rfl rfl hP hD hS (Nat.le_of_ble_eq_true rfl) (Nat.le_of_ble_eq_true rfl)
  · replace h := (if_neg c_4).symm.trans h
    refine lv_iload_n hx hb dX9_not_7 rfl (lv_at hl 2 rfl) ?_
    obtain ⟨r_8, hc_8, h⟩ := ob1_e h
    refine k_si (va_runS (As := [.int v2]) (rest := []) ⟨hx, hb, hml, hown, hts⟩ (c_X9_isClaim l G    v2 r_8 hc_8) (va_cwS 1 hts gX9_not_X9_isClaim rfl rfl rfl eX9_isClaim ⟨Nat.le_of_ble_eq_true rfl, Nat.le_of_ble_eq_true rfl⟩) (preSS hK (fun k q h => by cases h)) rfl rfl hl.1 rfl (lv_room (Nat.le_of_ble_eq_true rfl)) dX9_not_8 ⟨Nat.le_of_ble_eq_true rfl, Nat.le_of_ble_eq_true rfl⟩) ?_
    refine lv_if_ne (tgt := 16) hx hb dX9_not_11 (by decide) (fun c_11 => ?_) (fun c_11 => ?_)
    · replace h := (if_neg c_11).symm.trans h
      refine lv_aload_n hx hb dX9_not_16 rfl (lv_at hl 0 rfl) ?_
      refine lv_iload_n hx hb dX9_not_17 rfl (lv_at hl 2 rfl) ?_
      obtain ⟨r_18, hc_18, h⟩ := ob1_e h
      refine k_si (va_runV (As := [.int v2]) (rest := []) ⟨hx, hb, hml, hown, hts⟩ (c_X9_isThere l G z_h z_q z_fh z_hr z_hl z_hk z_he z_ht r_q l_hd k_hp e_hs e_q s_q t_q d_q d_a p_q f_q r_goes r_told e_steps e_yes s_sets s_slots s_count t_ways t_freshWays t_leastTo t_waiting d_rm d_stateOf d_kindOf d_order d_rooms d_count d_next d_says d_note d_sort d_freshSort p_table p_turn p_count f_next f_says f_size  v2 r_18 hc_18) (cwV 1 hts gX9_not_X9_isThere rfl rfl rfl ⟨rfl, eX9_isThere⟩ ⟨Nat.le_of_ble_eq_true rfl, Nat.le_of_ble_eq_true rfl⟩) (preSV (ci := 9) (q0 := 0) hK hP rfl rfl) rfl rfl hl.1 rfl (lv_room (Nat.le_of_ble_eq_true rfl)) dX9_not_18 ⟨Nat.le_of_ble_eq_true rfl, Nat.le_of_ble_eq_true rfl⟩) ?_
      refine lv_if_ne (tgt := 27) hx hb dX9_not_21 (by decide) (fun c_21 => ?_) (fun c_21 => ?_)
      · replace h := (if_neg c_21).symm.trans h
        refine lv_aload_n hx hb dX9_not_27 rfl (lv_at hl 0 rfl) ?_
        refine va_get (D := G.1) (ci := 9) (v := .ref z_q) (C := RX9) (T := TX9) (N := 7) hx hb hts hinX9 hown hK.1 hP 0 rfl rfl 1 (by decide) hf20 (fun _ h9 => h9) rfl dX9_not_28 ?_
        refine lv_iload_n hx hb dX9_not_31 rfl (lv_at hl 1 rfl) ?_
        obtain ⟨g_32, h⟩ := gi_e h
        refine va_aldq hx hb hK.1 hP 1 3 rfl rfl g_32 dX9_not_32 ?_
        refine W.eq (g2 := F0 m 33 ls [.ref (z_fh (v1.toNatClampNeg))]) rfl ?_
        refine lv_aload_n hx hb dX9_not_33 rfl (lv_at hl 0 rfl) ?_
        refine va_get (D := G.1) (ci := 9) (v := .ref z_q) (C := RX9) (T := TX9) (N := 7) hx hb hts hinX9 hown hK.1 hP 0 rfl rfl 1 (by decide) hf20 (fun _ h9 => h9) rfl dX9_not_34 ?_
        refine lv_iload_n hx hb dX9_not_37 rfl (lv_at hl 2 rfl) ?_
        obtain ⟨g_38, h⟩ := gi_e h
        refine va_aldq hx hb hK.1 hP 1 3 rfl rfl g_38 dX9_not_38 ?_
        refine W.eq (g2 := F0 m 39 ls [.ref (z_fh (v2.toNatClampNeg)), .ref (z_fh (v1.toNatClampNeg))]) rfl ?_
        obtain ⟨f_next_39, f_says_39, f_size_39, hc_39, h⟩ := ob3_e h
        refine k_cv (wr := [(z_h, .inr (9, [.ref z_hr, .ref z_q, .ref (z_fh 6), .ref z_hl, .ref z_hk, .ref z_he, .ref z_ht])), (z_q, .inl (G.2 3, 6, .inr (.inr (.inr (.inr (fun i => some (z_fh i))))))), (z_hr, .inr (5, [.ref (r_q 0), .ref (r_q 1)])), (r_q 0, .inl (G.2 0, 10, .inl r_goes)), (r_q 1, .inl (G.2 0, 5, .inl r_told)), (z_hl, .inr (4, [.ref (l_hd)])), (z_hk, .inr (2, [.ref (l_hd), .ref (k_hp)])), (z_he, .inr (6, [.ref (l_hd), .ref (e_hs), .ref (e_q 0), .long e_yes])), (e_q 0, .inl (G.2 2, 480, .inr (.inl e_steps))), (e_hs, .inr (7, [.ref (s_q 0), .ref (s_q 1), .int s_count])), (s_q 0, .inl (G.2 2, 300, .inr (.inl s_sets))), (s_q 1, .inl (G.2 0, 1024, .inl s_slots)), (z_ht, .inr (8, [.ref (t_q 0), .ref (t_q 1), .ref (t_q 2), .ref (t_q 3)])), (t_q 0, .inl (G.2 2, 60, .inr (.inl t_ways))), (t_q 1, .inl (G.2 2, 60, .inr (.inl t_freshWays))), (t_q 2, .inl (G.2 2, 60, .inr (.inl t_leastTo))), (t_q 3, .inl (G.2 0, 60, .inl t_waiting)), (l_hd, .inr (1, [.ref (k_hp), .ref (d_q 0), .ref (d_q 1), .ref (d_q 2), .int d_rooms, .int d_count, .ref (d_a 0), .ref (d_a 1), .ref (d_a 2), .ref (d_a 3), .ref (d_a 4)])), (d_q 0, .inl (G.2 0, 60, .inl d_stateOf)), (d_q 1, .inl (G.2 0, 60, .inl d_kindOf)), (d_q 2, .inl (G.2 0, 60, .inl d_order)), (d_a 0, .inl (G.2 0, 8 * d_rm, .inl d_next)), (d_a 1, .inl (G.2 1, d_rm, .inl d_says)), (d_a 2, .inl (G.2 0, d_rm, .inl d_note)), (d_a 3, .inl (G.2 0, d_rm, .inl d_sort)), (d_a 4, .inl (G.2 0, d_rm, .inl d_freshSort)), (k_hp, .inr (3, [.ref (p_q 0), .int p_turn, .int p_count])), (p_q 0, .inl (G.2 0, 4096, .inl p_table))]) (va_runV (As := [.ref (z_fh (v2.toNatClampNeg))]) (rest := []) ⟨hx, hb, hml, hown, hts⟩ (c_X0_becomeNot l G n z_fh f_q f_next f_says f_size (v1.toNatClampNeg) (in6 g_32) (v2.toNatClampNeg) (in6 g_38)  _ f_next_39 f_says_39 f_size_39 hc_39) (cwV 1 hts gX9_not_X0_becomeNot rfl rfl rfl ⟨rfl, eX0_becomeNot⟩ ⟨Nat.le_of_ble_eq_true rfl, Nat.le_of_ble_eq_true rfl⟩) (preWV (ci := 0) (q0 := 3 * (v1.toNatClampNeg)) hK (hP.sub (ws' := WF G z_fh f_q f_next f_says f_size) [28, 29, 30, 31, 32, 33, 34, 35, 36, 37, 38, 39, 40, 41, 42, 43, 44, 45, 46, 47, 48] rfl) (hD.sub (ws' := WF G z_fh f_q f_next f_says f_size) [28, 29, 30, 31, 32, 33, 34, 35, 36, 37, 38, 39, 40, 41, 42, 43, 44, 45, 46, 47, 48] (by decide) rfl) rfl (famO (in6 g_32))) rfl rfl hl.1 rfl (lv_room (Nat.le_of_ble_eq_true rfl)) dX9_not_39 ⟨Nat.le_of_ble_eq_true rfl, Nat.le_of_ble_eq_true rfl⟩) hP hD hS hA [28, 29, 30, 31, 32, 33, 34, 35, 36, 37, 38, 39, 40, 41, 42, 43, 44, 45, 46, 47, 48] [0, 1, 2, 3, 4, 5, 6, 7, 8, 9, 10, 11, 12, 13, 14, 15, 16, 17, 18, 19, 20, 21, 22, 23, 24, 25, 26, 27] rfl rfl (by decide) (by decide) (fun u_39 H locs hP hD hS => ?_)
        have hP := hP.sub (ws' := (WX G z_h z_q z_fh z_hr z_hl z_hk z_he z_ht r_q l_hd k_hp e_hs e_q s_q t_q d_q d_a p_q r_goes r_told e_steps e_yes s_sets s_slots s_count t_ways t_freshWays t_leastTo t_waiting d_rm d_stateOf d_kindOf d_order d_rooms d_count d_next d_says d_note d_sort d_freshSort p_table p_turn p_count) ++ (WF G z_fh f_q f_next_39 f_says_39 f_size_39)) [0, 1, 2, 3, 4, 5, 6, 7, 8, 9, 10, 11, 12, 13, 14, 15, 16, 17, 18, 19, 20, 21, 22, 23, 24, 25, 26, 27, 28, 29, 30, 31, 32, 33, 34, 35, 36, 37, 38, 39, 40, 41, 42, 43, 44, 45, 46, 47, 48] rfl
        have hD := hD.sub (ws' := (WX G z_h z_q z_fh z_hr z_hl z_hk z_he z_ht r_q l_hd k_hp e_hs e_q s_q t_q d_q d_a p_q r_goes r_told e_steps e_yes s_sets s_slots s_count t_ways t_freshWays t_leastTo t_waiting d_rm d_stateOf d_kindOf d_order d_rooms d_count d_next d_says d_note d_sort d_freshSort p_table p_turn p_count) ++ (WF G z_fh f_q f_next_39 f_says_39 f_size_39)) [0, 1, 2, 3, 4, 5, 6, 7, 8, 9, 10, 11, 12, 13, 14, 15, 16, 17, 18, 19, 20, 21, 22, 23, 24, 25, 26, 27, 28, 29, 30, 31, 32, 33, 34, 35, 36, 37, 38, 39, 40, 41, 42, 43, 44, 45, 46, 47, 48] (by decide) rfl
        refine lv_aload_n hx hb dX9_not_42 rfl (lv_at hl 0 rfl) ?_
        refine va_get (D := G.1) (ci := 9) (v := .ref z_q) (C := RX9) (T := TX9) (N := 7) hx hb hts hinX9 hown hK.1 hP 0 rfl rfl 1 (by decide) hf20 (fun _ h9 => h9) rfl dX9_not_43 ?_
        refine lv_iload_n hx hb dX9_not_46 rfl (lv_at hl 1 rfl) ?_
        obtain ⟨g_47, h⟩ := gi_e h
        refine va_aldq hx hb hK.1 hP 1 3 rfl rfl g_47 dX9_not_47 ?_
        refine W.eq (g2 := F0 m 48 ls [.ref (z_fh (v1.toNatClampNeg))]) rfl ?_
        obtain ⟨r_48, hc_48, h⟩ := ob1_e h
        refine k_si (va_runV (As := []) (rest := []) ⟨hx, hb, hml, hown, hts⟩ (c_X0_size l G (z_fh (v1.toNatClampNeg)) (f_q (v1.toNatClampNeg)) (f_next_39 (v1.toNatClampNeg)) (f_says_39 (v1.toNatClampNeg)) (f_size_39 (v1.toNatClampNeg))   r_48 hc_48) (cwV 0 hts gX9_not_X0_size rfl rfl rfl ⟨rfl, eX0_size⟩ ⟨Nat.le_of_ble_eq_true rfl, Nat.le_of_ble_eq_true rfl⟩) (preSV (ci := 0) (q0 := 0) hK (famC hP.right (v1.toNatClampNeg) (in6 g_47)) rfl rfl) rfl rfl hl.1 rfl (lv_room (Nat.le_of_ble_eq_true rfl)) dX9_not_48 ⟨Nat.le_of_ble_eq_true rfl, Nat.le_of_ble_eq_true rfl⟩) ?_
        obtain ⟨rfl, rfl, rfl, rfl⟩ := oi4 h
        exact hret (fun _ => 0) _ _ _ _ _ _ _ dX9_not_51 rfl rfl hP hD hS (Nat.le_of_ble_eq_true rfl) (Nat.le_of_ble_eq_true rfl)
      · replace h := (if_pos c_21).symm.trans h
        refine lv_bipush (v := -3) hx hb dX9_not_24 (by decide) ?_
        obtain ⟨rfl, rfl, rfl, rfl⟩ := oi4 h
        exact hret (fun _ => 0) _ _ _ _ _ _ _ dX9_not_26 rfl rfl hP hD hS (Nat.le_of_ble_eq_true rfl) (Nat.le_of_ble_eq_true rfl)
    · replace h := (if_pos c_11).symm.trans h
      refine lv_iconst (v := -1) hx hb dX9_not_14 (by decide) ?_
      obtain ⟨rfl, rfl, rfl, rfl⟩ := oi4 h
      exact hret (fun _ => 0) _ _ _ _ _ _ _ dX9_not_15 rfl rfl hP hD hS (Nat.le_of_ble_eq_true rfl) (Nat.le_of_ble_eq_true rfl)
abbrev rX9_swap (ms1 : Nat) : Room := { frames := 6, cells := 5, slots := ms1, locals := 137 }
set_option maxHeartbeats 4000000 in
set_option maxRecDepth 100000 in
theorem c_X9_swap (l : Launch) (G : GG) (n : Nat) (z_h : Nat) (z_q : Nat) (z_fh : Nat → Nat) (z_hr : Nat) (z_hl : Nat) (z_hk : Nat) (z_he : Nat) (z_ht : Nat) (r_q : Nat → Nat) (l_hd : Nat) (k_hp : Nat) (e_hs : Nat) (e_q : Nat → Nat) (s_q : Nat → Nat) (t_q : Nat → Nat) (d_q : Nat → Nat) (d_a : Nat → Nat) (p_q : Nat → Nat) (f_q : Nat → Nat → Nat) (r_goes : AI) (r_told : AI) (e_steps : AL) (e_yes : Int64) (s_sets : AL) (s_slots : AI) (s_count : Int32) (t_ways : AL) (t_freshWays : AL) (t_leastTo : AL) (t_waiting : AI) (d_rm : Nat) (d_stateOf : AI) (d_kindOf : AI) (d_order : AI) (d_rooms : Int32) (d_count : Int32) (d_next : AI) (d_says : AI) (d_note : AI) (d_sort : AI) (d_freshSort : AI) (p_table : AI) (p_turn : Int32) (p_count : Int32) (f_next : AF) (f_says : AF) (f_size : AI)  (v1 : Int32) (v2 : Int32) (v3 : Int32) (v4 : Int32) (rmx1 : Nat) (ms1 : Nat) (hms1 : rmx1 = d_rm ∨ 12 * rmx1 ≤ ms1) (sz : Nat) (r : Int32) (d_rm_z : Nat) (d_stateOf_z : AI) (d_kindOf_z : AI) (d_order_z : AI) (d_rooms_z : Int32) (d_count_z : Int32) (d_next_z : AI) (d_says_z : AI) (d_note_z : AI) (d_sort_z : AI) (d_freshSort_z : AI) (p_table_z : AI) (p_turn_z : Int32) (p_count_z : Int32) (f_next_z : AF) (f_says_z : AF) (f_size_z : AI) (h : p_X9_swap n d_rm d_stateOf d_kindOf d_order d_rooms d_count d_next d_says d_note d_sort d_freshSort p_table p_turn p_count f_next f_says f_size rmx1 v1 v2 v3 v4 = some (r, d_rm_z, d_stateOf_z, d_kindOf_z, d_order_z, d_rooms_z, d_count_z, d_next_z, d_says_z, d_note_z, d_sort_z, d_freshSort_z, p_table_z, p_turn_z, p_count_z, f_next_z, f_says_z, f_size_z)) : CI l yX9_swap wsX9_swap (rX9_swap ms1) G [.ref z_h, .int v1, .int v2, .int v3, .int v4] ((WX G z_h z_q z_fh z_hr z_hl z_hk z_he z_ht r_q l_hd k_hp e_hs e_q s_q t_q d_q d_a p_q r_goes r_told e_steps e_yes s_sets s_slots s_count t_ways t_freshWays t_leastTo t_waiting d_rm d_stateOf d_kindOf d_order d_rooms d_count d_next d_says d_note d_sort d_freshSort p_table p_turn p_count) ++ (WF G z_fh f_q f_next f_says f_size)) sz r (fun u => (WX G z_h z_q z_fh z_hr z_hl z_hk z_he z_ht r_q l_hd k_hp e_hs e_q s_q t_q d_q u p_q r_goes r_told e_steps e_yes s_sets s_slots s_count t_ways t_freshWays t_leastTo t_waiting d_rm_z d_stateOf_z d_kindOf_z d_order_z d_rooms_z d_count_z d_next_z d_says_z d_note_z d_sort_z d_freshSort_z p_table_z p_turn_z p_count_z) ++ (WF G z_fh f_q f_next_z f_says_z f_size_z)) := by
  refine enterCI (cc := cX9_swap) (maxL := 5) (by decide) rfl (Nat.le_of_ble_eq_true rfl) ?_
  intro p e s m args below meth c A Q hx hb hml hown hts hK hP hD hS hA hret ls hl
  have hown : s.vm.findClass RX9 = some m.cls := hown
  have hf20 := hts (.fieldLink RX9 20 "DigitClaims" "claims" "[LDigitClaims$Claim;") (by decide +kernel)
  have hf51 := hts (.fieldLink RX9 51 "DigitClaims" "made" "LDigitClaims$MadeClaims;") (by decide +kernel)
  have hinX9 : ∀ w ∈ wsX90, w ∈ wsX9_swap := by decide +kernel
  have hl : lv_has ls 5 [(0, .ref z_h), (1, .int v1), (2, .int v2), (3, .int v3), (4, .int v4)] := hl
  unfold p_X9_swap at h
  refine lv_iload_n hx hb dX9_swap_0 rfl (lv_at hl 1 rfl) ?_
  obtain ⟨r_1, hc_1, h⟩ := ob1_e h
  refine k_si (va_runS (As := [.int v1]) (rest := []) ⟨hx, hb, hml, hown, hts⟩ (c_X9_isClaim l G    v1 r_1 hc_1) (va_cwS 1 hts gX9_swap_X9_isClaim rfl rfl rfl eX9_isClaim ⟨Nat.le_of_ble_eq_true rfl, Nat.le_of_ble_eq_true rfl⟩) (preSS hK (fun k q h => by cases h)) rfl rfl hl.1 rfl (lv_room (Nat.le_of_ble_eq_true rfl)) dX9_swap_1 ⟨Nat.le_of_ble_eq_true rfl, by show 0 + 0 ≤ ms1; omega⟩) ?_
  refine lv_if_eq (tgt := 23) hx hb dX9_swap_4 (by decide) (fun c_4 => ?_) (fun c_4 => ?_)
  · replace h := (if_pos c_4).symm.trans h
    refine lv_iconst (v := -1) hx hb dX9_swap_23 (by decide) ?_
    obtain ⟨rfl, rfl, rfl, rfl, rfl, rfl, rfl, rfl, rfl, rfl, rfl, rfl, rfl, rfl, rfl, rfl, rfl, rfl⟩ := oi18 h
    exact hret d_a _ _ _ _ _ _ _ dX9_swap_24 rfl rfl hP hD hS (Nat.zero_le _) (Nat.zero_le _)
  · replace h := (if_neg c_4).symm.trans h
    refine lv_iload_n hx hb dX9_swap_7 rfl (lv_at hl 2 rfl) ?_
    obtain ⟨r_8, hc_8, h⟩ := ob1_e h
    refine k_si (va_runS (As := [.int v2]) (rest := []) ⟨hx, hb, hml, hown, hts⟩ (c_X9_isClaim l G    v2 r_8 hc_8) (va_cwS 1 hts gX9_swap_X9_isClaim rfl rfl rfl eX9_isClaim ⟨Nat.le_of_ble_eq_true rfl, Nat.le_of_ble_eq_true rfl⟩) (preSS hK (fun k q h => by cases h)) rfl rfl hl.1 rfl (lv_room (Nat.le_of_ble_eq_true rfl)) dX9_swap_8 ⟨Nat.le_of_ble_eq_true rfl, by show 0 + 0 ≤ ms1; omega⟩) ?_
    refine lv_if_eq (tgt := 23) hx hb dX9_swap_11 (by decide) (fun c_11 => ?_) (fun c_11 => ?_)
    · replace h := (if_pos c_11).symm.trans h
      refine lv_iconst (v := -1) hx hb dX9_swap_23 (by decide) ?_
      obtain ⟨rfl, rfl, rfl, rfl, rfl, rfl, rfl, rfl, rfl, rfl, rfl, rfl, rfl, rfl, rfl, rfl, rfl, rfl⟩ := oi18 h
      exact hret d_a _ _ _ _ _ _ _ dX9_swap_24 rfl rfl hP hD hS (Nat.zero_le _) (Nat.zero_le _)
    · replace h := (if_neg c_11).symm.trans h
      refine lv_iload_n hx hb dX9_swap_14 rfl (lv_at hl 3 rfl) ?_
      refine lv_iload hx hb dX9_swap_15 (lv_at hl 4 rfl) ?_
      obtain ⟨r_17, hc_17, h⟩ := ob1_e h
      refine k_si (va_runS (As := [.int v3, .int v4]) (rest := []) ⟨hx, hb, hml, hown, hts⟩ (c_X9_areTwoNumbers l G    v3 v4 r_17 hc_17) (va_cwS 2 hts gX9_swap_X9_areTwoNumbers rfl rfl rfl eX9_areTwoNumbers ⟨Nat.le_of_ble_eq_true rfl, Nat.le_of_ble_eq_true rfl⟩) (preSS hK (fun k q h => by cases h)) rfl rfl hl.1 rfl (lv_room (Nat.le_of_ble_eq_true rfl)) dX9_swap_17 ⟨Nat.le_of_ble_eq_true rfl, by show 0 + 0 ≤ ms1; omega⟩) ?_
      refine lv_if_ne (tgt := 25) hx hb dX9_swap_20 (by decide) (fun c_20 => ?_) (fun c_20 => ?_)
      · replace h := (if_neg c_20).symm.trans h
        refine lv_aload_n hx hb dX9_swap_25 rfl (lv_at hl 0 rfl) ?_
        refine lv_iload_n hx hb dX9_swap_26 rfl (lv_at hl 2 rfl) ?_
        obtain ⟨r_27, hc_27, h⟩ := ob1_e h
        refine k_si (va_runV (As := [.int v2]) (rest := []) ⟨hx, hb, hml, hown, hts⟩ (c_X9_isThere l G z_h z_q z_fh z_hr z_hl z_hk z_he z_ht r_q l_hd k_hp e_hs e_q s_q t_q d_q d_a p_q f_q r_goes r_told e_steps e_yes s_sets s_slots s_count t_ways t_freshWays t_leastTo t_waiting d_rm d_stateOf d_kindOf d_order d_rooms d_count d_next d_says d_note d_sort d_freshSort p_table p_turn p_count f_next f_says f_size  v2 r_27 hc_27) (cwV 1 hts gX9_swap_X9_isThere rfl rfl rfl ⟨rfl, eX9_isThere⟩ ⟨Nat.le_of_ble_eq_true rfl, Nat.le_of_ble_eq_true rfl⟩) (preSV (ci := 9) (q0 := 0) hK hP rfl rfl) rfl rfl hl.1 rfl (lv_room (Nat.le_of_ble_eq_true rfl)) dX9_swap_27 ⟨Nat.le_of_ble_eq_true rfl, by show 0 + 0 ≤ ms1; omega⟩) ?_
        refine lv_if_ne (tgt := 36) hx hb dX9_swap_30 (by decide) (fun c_30 => ?_) (fun c_30 => ?_)
        · replace h := (if_neg c_30).symm.trans h
          refine lv_aload_n hx hb dX9_swap_36 rfl (lv_at hl 0 rfl) ?_
          refine va_get (D := G.1) (ci := 9) (v := .ref z_hk) (C := RX9) (T := TX9) (N := 7) hx hb hts hinX9 hown hK.1 hP 0 rfl rfl 4 (by decide) hf51 (fun _ h9 => h9) rfl dX9_swap_37 ?_
          refine lv_aload_n hx hb dX9_swap_40 rfl (lv_at hl 0 rfl) ?_
          refine va_get (D := G.1) (ci := 9) (v := .ref z_q) (C := RX9) (T := TX9) (N := 7) hx hb hts hinX9 hown hK.1 hP 0 rfl rfl 1 (by decide) hf20 (fun _ h9 => h9) rfl dX9_swap_41 ?_
          refine lv_iload_n hx hb dX9_swap_44 rfl (lv_at hl 1 rfl) ?_
          obtain ⟨g_45, h⟩ := gi_e h
          refine va_aldq hx hb hK.1 hP 1 3 rfl rfl g_45 dX9_swap_45 ?_
          refine W.eq (g2 := F0 m 46 ls [.ref (z_fh (v1.toNatClampNeg)), .ref z_hk]) rfl ?_
          refine lv_aload_n hx hb dX9_swap_46 rfl (lv_at hl 0 rfl) ?_
          refine va_get (D := G.1) (ci := 9) (v := .ref z_q) (C := RX9) (T := TX9) (N := 7) hx hb hts hinX9 hown hK.1 hP 0 rfl rfl 1 (by decide) hf20 (fun _ h9 => h9) rfl dX9_swap_47 ?_
          refine lv_iload_n hx hb dX9_swap_50 rfl (lv_at hl 2 rfl) ?_
          obtain ⟨g_51, h⟩ := gi_e h
          refine va_aldq hx hb hK.1 hP 1 3 rfl rfl g_51 dX9_swap_51 ?_
          refine W.eq (g2 := F0 m 52 ls [.ref (z_fh (v2.toNatClampNeg)), .ref (z_fh (v1.toNatClampNeg)), .ref z_hk]) rfl ?_
          refine lv_iload_n hx hb dX9_swap_52 rfl (lv_at hl 3 rfl) ?_
          refine lv_iload hx hb dX9_swap_53 (lv_at hl 4 rfl) ?_
          obtain ⟨r_55, d_rm_55, d_stateOf_55, d_kindOf_55, d_order_55, d_rooms_55, d_count_55, d_next_55, d_says_55, d_note_55, d_sort_55, d_freshSort_55, p_table_55, p_turn_55, p_count_55, f_next_55, f_says_55, f_size_55, hc_55, h⟩ := ob18_e h
          refine k_ci (wr := [(z_h, .inr (9, [.ref z_hr, .ref z_q, .ref (z_fh 6), .ref z_hl, .ref z_hk, .ref z_he, .ref z_ht])), (z_q, .inl (G.2 3, 6, .inr (.inr (.inr (.inr (fun i => some (z_fh i))))))), (z_hr, .inr (5, [.ref (r_q 0), .ref (r_q 1)])), (r_q 0, .inl (G.2 0, 10, .inl r_goes)), (r_q 1, .inl (G.2 0, 5, .inl r_told)), (z_hl, .inr (4, [.ref (l_hd)])), (z_he, .inr (6, [.ref (l_hd), .ref (e_hs), .ref (e_q 0), .long e_yes])), (e_q 0, .inl (G.2 2, 480, .inr (.inl e_steps))), (e_hs, .inr (7, [.ref (s_q 0), .ref (s_q 1), .int s_count])), (s_q 0, .inl (G.2 2, 300, .inr (.inl s_sets))), (s_q 1, .inl (G.2 0, 1024, .inl s_slots)), (z_ht, .inr (8, [.ref (t_q 0), .ref (t_q 1), .ref (t_q 2), .ref (t_q 3)])), (t_q 0, .inl (G.2 2, 60, .inr (.inl t_ways))), (t_q 1, .inl (G.2 2, 60, .inr (.inl t_freshWays))), (t_q 2, .inl (G.2 2, 60, .inr (.inl t_leastTo))), (t_q 3, .inl (G.2 0, 60, .inl t_waiting))]) (va_runV (As := [.ref (z_fh (v1.toNatClampNeg)), .ref (z_fh (v2.toNatClampNeg)), .int v3, .int v4]) (rest := []) ⟨hx, hb, hml, hown, hts⟩ (c_X2_exchange l G n z_hk l_hd k_hp d_q d_a p_q z_fh f_q d_rm d_stateOf d_kindOf d_order d_rooms d_count d_next d_says d_note d_sort d_freshSort p_table p_turn p_count f_next f_says f_size (v1.toNatClampNeg) (in6 g_45) (v2.toNatClampNeg) (in6 g_51) v3 v4 rmx1 ms1 hms1 _ r_55 d_rm_55 d_stateOf_55 d_kindOf_55 d_order_55 d_rooms_55 d_count_55 d_next_55 d_says_55 d_note_55 d_sort_55 d_freshSort_55 p_table_55 p_turn_55 p_count_55 f_next_55 f_says_55 f_size_55 hc_55) (cwV 4 hts gX9_swap_X2_exchange rfl rfl rfl ⟨rfl, eX2_exchange⟩ ⟨Nat.le_of_ble_eq_true rfl, Nat.le_of_ble_eq_true rfl⟩) (preWV (ci := 2) (q0 := 0) hK (hP.sub (ws' := (WK G z_hk l_hd k_hp) ++ (WD G l_hd k_hp d_q d_a d_rm d_stateOf d_kindOf d_order d_rooms d_count d_next d_says d_note d_sort d_freshSort) ++ (WP G k_hp p_q p_table p_turn p_count) ++ (WF G z_fh f_q f_next f_says f_size)) [6, 17, 18, 19, 20, 21, 22, 23, 24, 25, 26, 27, 28, 29, 30, 31, 32, 33, 34, 35, 36, 37, 38, 39, 40, 41, 42, 43, 44, 45, 46, 47, 48] rfl) (hD.sub (ws' := (WK G z_hk l_hd k_hp) ++ (WD G l_hd k_hp d_q d_a d_rm d_stateOf d_kindOf d_order d_rooms d_count d_next d_says d_note d_sort d_freshSort) ++ (WP G k_hp p_q p_table p_turn p_count) ++ (WF G z_fh f_q f_next f_says f_size)) [6, 17, 18, 19, 20, 21, 22, 23, 24, 25, 26, 27, 28, 29, 30, 31, 32, 33, 34, 35, 36, 37, 38, 39, 40, 41, 42, 43, 44, 45, 46, 47, 48] (by decide) rfl) rfl rfl) rfl rfl hl.1 rfl (lv_room (Nat.le_of_ble_eq_true rfl)) dX9_swap_55 ⟨Nat.le_of_ble_eq_true rfl, by show 0 + (ms1) ≤ ms1; omega⟩) hP hD hS hA [6, 17, 18, 19, 20, 21, 22, 23, 24, 25, 26, 27, 28, 29, 30, 31, 32, 33, 34, 35, 36, 37, 38, 39, 40, 41, 42, 43, 44, 45, 46, 47, 48] [0, 1, 2, 3, 4, 5, 7, 8, 9, 10, 11, 12, 13, 14, 15, 16] rfl rfl (by decide) (by decide) (fun u_55 H locs hP hD hS => ?_)
          have hP := hP.sub (ws' := (WX G z_h z_q z_fh z_hr z_hl z_hk z_he z_ht r_q l_hd k_hp e_hs e_q s_q t_q d_q u_55 p_q r_goes r_told e_steps e_yes s_sets s_slots s_count t_ways t_freshWays t_leastTo t_waiting d_rm_55 d_stateOf_55 d_kindOf_55 d_order_55 d_rooms_55 d_count_55 d_next_55 d_says_55 d_note_55 d_sort_55 d_freshSort_55 p_table_55 p_turn_55 p_count_55) ++ (WF G z_fh f_q f_next_55 f_says_55 f_size_55)) [0, 1, 2, 3, 4, 5, 16, 6, 7, 8, 9, 10, 11, 12, 13, 14, 15, 17, 18, 19, 20, 21, 22, 23, 24, 25, 26, 27, 28, 29, 30, 31, 32, 33, 34, 35, 36, 37, 38, 39, 40, 41, 42, 43, 44, 45, 46, 47, 48] rfl
          have hD := hD.sub (ws' := (WX G z_h z_q z_fh z_hr z_hl z_hk z_he z_ht r_q l_hd k_hp e_hs e_q s_q t_q d_q u_55 p_q r_goes r_told e_steps e_yes s_sets s_slots s_count t_ways t_freshWays t_leastTo t_waiting d_rm_55 d_stateOf_55 d_kindOf_55 d_order_55 d_rooms_55 d_count_55 d_next_55 d_says_55 d_note_55 d_sort_55 d_freshSort_55 p_table_55 p_turn_55 p_count_55) ++ (WF G z_fh f_q f_next_55 f_says_55 f_size_55)) [0, 1, 2, 3, 4, 5, 16, 6, 7, 8, 9, 10, 11, 12, 13, 14, 15, 17, 18, 19, 20, 21, 22, 23, 24, 25, 26, 27, 28, 29, 30, 31, 32, 33, 34, 35, 36, 37, 38, 39, 40, 41, 42, 43, 44, 45, 46, 47, 48] (by decide) rfl
          obtain ⟨rfl, rfl, rfl, rfl, rfl, rfl, rfl, rfl, rfl, rfl, rfl, rfl, rfl, rfl, rfl, rfl, rfl, rfl⟩ := oi18 h
          exact hret u_55 _ _ _ _ _ _ _ dX9_swap_58 rfl rfl hP hD hS (Nat.le_of_ble_eq_true rfl) (by show 0 + (ms1) ≤ ms1; omega)
        · replace h := (if_pos c_30).symm.trans h
          refine lv_bipush (v := -3) hx hb dX9_swap_33 (by decide) ?_
          obtain ⟨rfl, rfl, rfl, rfl, rfl, rfl, rfl, rfl, rfl, rfl, rfl, rfl, rfl, rfl, rfl, rfl, rfl, rfl⟩ := oi18 h
          exact hret d_a _ _ _ _ _ _ _ dX9_swap_35 rfl rfl hP hD hS (Nat.zero_le _) (Nat.zero_le _)
      · replace h := (if_pos c_20).symm.trans h
        refine lv_iconst (v := -1) hx hb dX9_swap_23 (by decide) ?_
        obtain ⟨rfl, rfl, rfl, rfl, rfl, rfl, rfl, rfl, rfl, rfl, rfl, rfl, rfl, rfl, rfl, rfl, rfl, rfl⟩ := oi18 h
        exact hret d_a _ _ _ _ _ _ _ dX9_swap_24 rfl rfl hP hD hS (Nat.zero_le _) (Nat.zero_le _)
abbrev rX9_sayOf (ms1 : Nat) : Room := { frames := 6, cells := 5, slots := ms1, locals := 138 }
set_option maxHeartbeats 4000000 in
set_option maxRecDepth 100000 in
theorem c_X9_sayOf (l : Launch) (G : GG) (n : Nat) (z_h : Nat) (z_q : Nat) (z_fh : Nat → Nat) (z_hr : Nat) (z_hl : Nat) (z_hk : Nat) (z_he : Nat) (z_ht : Nat) (r_q : Nat → Nat) (l_hd : Nat) (k_hp : Nat) (e_hs : Nat) (e_q : Nat → Nat) (s_q : Nat → Nat) (t_q : Nat → Nat) (d_q : Nat → Nat) (d_a : Nat → Nat) (p_q : Nat → Nat) (f_q : Nat → Nat → Nat) (r_goes : AI) (r_told : AI) (e_steps : AL) (e_yes : Int64) (s_sets : AL) (s_slots : AI) (s_count : Int32) (t_ways : AL) (t_freshWays : AL) (t_leastTo : AL) (t_waiting : AI) (d_rm : Nat) (d_stateOf : AI) (d_kindOf : AI) (d_order : AI) (d_rooms : Int32) (d_count : Int32) (d_next : AI) (d_says : AI) (d_note : AI) (d_sort : AI) (d_freshSort : AI) (p_table : AI) (p_turn : Int32) (p_count : Int32) (f_next : AF) (f_says : AF) (f_size : AI)  (v1 : Int32) (v2 : Int32) (v3 : Int32) (v4 : Int32) (rmx1 : Nat) (ms1 : Nat) (hms1 : rmx1 = d_rm ∨ 12 * rmx1 ≤ ms1) (sz : Nat) (r : Int32) (e_steps_z : AL) (e_yes_z : Int64) (s_sets_z : AL) (s_slots_z : AI) (s_count_z : Int32) (d_rm_z : Nat) (d_stateOf_z : AI) (d_kindOf_z : AI) (d_order_z : AI) (d_rooms_z : Int32) (d_count_z : Int32) (d_next_z : AI) (d_says_z : AI) (d_note_z : AI) (d_sort_z : AI) (d_freshSort_z : AI) (p_table_z : AI) (p_turn_z : Int32) (p_count_z : Int32) (f_next_z : AF) (f_says_z : AF) (f_size_z : AI) (h : p_X9_sayOf n e_steps e_yes s_sets s_slots s_count d_rm d_stateOf d_kindOf d_order d_rooms d_count d_next d_says d_note d_sort d_freshSort p_table p_turn p_count f_next f_says f_size rmx1 v1 v2 v3 v4 = some (r, e_steps_z, e_yes_z, s_sets_z, s_slots_z, s_count_z, d_rm_z, d_stateOf_z, d_kindOf_z, d_order_z, d_rooms_z, d_count_z, d_next_z, d_says_z, d_note_z, d_sort_z, d_freshSort_z, p_table_z, p_turn_z, p_count_z, f_next_z, f_says_z, f_size_z)) : CI l yX9_sayOf wsX9_sayOf (rX9_sayOf ms1) G [.ref z_h, .int v1, .int v2, .int v3, .int v4] ((WX G z_h z_q z_fh z_hr z_hl z_hk z_he z_ht r_q l_hd k_hp e_hs e_q s_q t_q d_q d_a p_q r_goes r_told e_steps e_yes s_sets s_slots s_count t_ways t_freshWays t_leastTo t_waiting d_rm d_stateOf d_kindOf d_order d_rooms d_count d_next d_says d_note d_sort d_freshSort p_table p_turn p_count) ++ (WF G z_fh f_q f_next f_says f_size)) sz r (fun u => (WX G z_h z_q z_fh z_hr z_hl z_hk z_he z_ht r_q l_hd k_hp e_hs e_q s_q t_q d_q u p_q r_goes r_told e_steps_z e_yes_z s_sets_z s_slots_z s_count_z t_ways t_freshWays t_leastTo t_waiting d_rm_z d_stateOf_z d_kindOf_z d_order_z d_rooms_z d_count_z d_next_z d_says_z d_note_z d_sort_z d_freshSort_z p_table_z p_turn_z p_count_z) ++ (WF G z_fh f_q f_next_z f_says_z f_size_z)) := by
  refine enterCI (cc := cX9_sayOf) (maxL := 5) (by decide) rfl (Nat.le_of_ble_eq_true rfl) ?_
  intro p e s m args below meth c A Q hx hb hml hown hts hK hP hD hS hA hret ls hl
  have hown : s.vm.findClass RX9 = some m.cls := hown
  have hf20 := hts (.fieldLink RX9 20 "DigitClaims" "claims" "[LDigitClaims$Claim;") (by decide +kernel)
  have hf58 := hts (.fieldLink RX9 58 "DigitClaims" "said" "LDigitClaims$SaidClaims;") (by decide +kernel)
  have hinX9 : ∀ w ∈ wsX90, w ∈ wsX9_sayOf := by decide +kernel
  have hl : lv_has ls 5 [(0, .ref z_h), (1, .int v1), (2, .int v2), (3, .int v3), (4, .int v4)] := hl
  unfold p_X9_sayOf at h
  refine lv_iload_n hx hb dX9_sayOf_0 rfl (lv_at hl 1 rfl) ?_
  obtain ⟨r_1, hc_1, h⟩ := ob1_e h
  refine k_si (va_runS (As := [.int v1]) (rest := []) ⟨hx, hb, hml, hown, hts⟩ (c_X9_isClaim l G    v1 r_1 hc_1) (va_cwS 1 hts gX9_sayOf_X9_isClaim rfl rfl rfl eX9_isClaim ⟨Nat.le_of_ble_eq_true rfl, Nat.le_of_ble_eq_true rfl⟩) (preSS hK (fun k q h => by cases h)) rfl rfl hl.1 rfl (lv_room (Nat.le_of_ble_eq_true rfl)) dX9_sayOf_1 ⟨Nat.le_of_ble_eq_true rfl, by show 0 + 0 ≤ ms1; omega⟩) ?_
  refine lv_if_eq (tgt := 21) hx hb dX9_sayOf_4 (by decide) (fun c_4 => ?_) (fun c_4 => ?_)
  · replace h := (if_pos c_4).symm.trans h
    refine lv_iconst (v := -1) hx hb dX9_sayOf_21 (by decide) ?_
    obtain ⟨rfl, rfl, rfl, rfl, rfl, rfl, rfl, rfl, rfl, rfl, rfl, rfl, rfl, rfl, rfl, rfl, rfl, rfl, rfl, rfl, rfl, rfl, rfl⟩ := oi23 h
    exact hret d_a _ _ _ _ _ _ _ dX9_sayOf_22 rfl rfl hP hD hS (Nat.zero_le _) (Nat.zero_le _)
  · replace h := (if_neg c_4).symm.trans h
    refine lv_iload_n hx hb dX9_sayOf_7 rfl (lv_at hl 2 rfl) ?_
    obtain ⟨r_8, hc_8, h⟩ := ob1_e h
    refine k_si (va_runS (As := [.int v2]) (rest := []) ⟨hx, hb, hml, hown, hts⟩ (c_X9_isClaim l G    v2 r_8 hc_8) (va_cwS 1 hts gX9_sayOf_X9_isClaim rfl rfl rfl eX9_isClaim ⟨Nat.le_of_ble_eq_true rfl, Nat.le_of_ble_eq_true rfl⟩) (preSS hK (fun k q h => by cases h)) rfl rfl hl.1 rfl (lv_room (Nat.le_of_ble_eq_true rfl)) dX9_sayOf_8 ⟨Nat.le_of_ble_eq_true rfl, by show 0 + 0 ≤ ms1; omega⟩) ?_
    refine lv_if_eq (tgt := 21) hx hb dX9_sayOf_11 (by decide) (fun c_11 => ?_) (fun c_11 => ?_)
    · replace h := (if_pos c_11).symm.trans h
      refine lv_iconst (v := -1) hx hb dX9_sayOf_21 (by decide) ?_
      obtain ⟨rfl, rfl, rfl, rfl, rfl, rfl, rfl, rfl, rfl, rfl, rfl, rfl, rfl, rfl, rfl, rfl, rfl, rfl, rfl, rfl, rfl, rfl, rfl⟩ := oi23 h
      exact hret d_a _ _ _ _ _ _ _ dX9_sayOf_22 rfl rfl hP hD hS (Nat.zero_le _) (Nat.zero_le _)
    · replace h := (if_neg c_11).symm.trans h
      refine lv_iload_n hx hb dX9_sayOf_14 rfl (lv_at hl 3 rfl) ?_
      obtain ⟨r_15, hc_15, h⟩ := ob1_e h
      refine k_si (va_runS (As := [.int v3]) (rest := []) ⟨hx, hb, hml, hown, hts⟩ (c_X9_isNumber l G    v3 r_15 hc_15) (va_cwS 1 hts gX9_sayOf_X9_isNumber rfl rfl rfl eX9_isNumber ⟨Nat.le_of_ble_eq_true rfl, Nat.le_of_ble_eq_true rfl⟩) (preSS hK (fun k q h => by cases h)) rfl rfl hl.1 rfl (lv_room (Nat.le_of_ble_eq_true rfl)) dX9_sayOf_15 ⟨Nat.le_of_ble_eq_true rfl, by show 0 + 0 ≤ ms1; omega⟩) ?_
      refine lv_if_ne (tgt := 23) hx hb dX9_sayOf_18 (by decide) (fun c_18 => ?_) (fun c_18 => ?_)
      · replace h := (if_neg c_18).symm.trans h
        refine lv_aload_n hx hb dX9_sayOf_23 rfl (lv_at hl 0 rfl) ?_
        refine lv_iload_n hx hb dX9_sayOf_24 rfl (lv_at hl 2 rfl) ?_
        obtain ⟨r_25, hc_25, h⟩ := ob1_e h
        refine k_si (va_runV (As := [.int v2]) (rest := []) ⟨hx, hb, hml, hown, hts⟩ (c_X9_isThere l G z_h z_q z_fh z_hr z_hl z_hk z_he z_ht r_q l_hd k_hp e_hs e_q s_q t_q d_q d_a p_q f_q r_goes r_told e_steps e_yes s_sets s_slots s_count t_ways t_freshWays t_leastTo t_waiting d_rm d_stateOf d_kindOf d_order d_rooms d_count d_next d_says d_note d_sort d_freshSort p_table p_turn p_count f_next f_says f_size  v2 r_25 hc_25) (cwV 1 hts gX9_sayOf_X9_isThere rfl rfl rfl ⟨rfl, eX9_isThere⟩ ⟨Nat.le_of_ble_eq_true rfl, Nat.le_of_ble_eq_true rfl⟩) (preSV (ci := 9) (q0 := 0) hK hP rfl rfl) rfl rfl hl.1 rfl (lv_room (Nat.le_of_ble_eq_true rfl)) dX9_sayOf_25 ⟨Nat.le_of_ble_eq_true rfl, by show 0 + 0 ≤ ms1; omega⟩) ?_
        refine lv_if_ne (tgt := 34) hx hb dX9_sayOf_28 (by decide) (fun c_28 => ?_) (fun c_28 => ?_)
        · replace h := (if_neg c_28).symm.trans h
          refine lv_aload_n hx hb dX9_sayOf_34 rfl (lv_at hl 0 rfl) ?_
          refine va_get (D := G.1) (ci := 9) (v := .ref z_he) (C := RX9) (T := TX9) (N := 7) hx hb hts hinX9 hown hK.1 hP 0 rfl rfl 5 (by decide) hf58 (fun _ h9 => h9) rfl dX9_sayOf_35 ?_
          refine lv_aload_n hx hb dX9_sayOf_38 rfl (lv_at hl 0 rfl) ?_
          refine va_get (D := G.1) (ci := 9) (v := .ref z_q) (C := RX9) (T := TX9) (N := 7) hx hb hts hinX9 hown hK.1 hP 0 rfl rfl 1 (by decide) hf20 (fun _ h9 => h9) rfl dX9_sayOf_39 ?_
          refine lv_iload_n hx hb dX9_sayOf_42 rfl (lv_at hl 1 rfl) ?_
          obtain ⟨g_43, h⟩ := gi_e h
          refine va_aldq hx hb hK.1 hP 1 3 rfl rfl g_43 dX9_sayOf_43 ?_
          refine W.eq (g2 := F0 m 44 ls [.ref (z_fh (v1.toNatClampNeg)), .ref z_he]) rfl ?_
          refine lv_aload_n hx hb dX9_sayOf_44 rfl (lv_at hl 0 rfl) ?_
          refine va_get (D := G.1) (ci := 9) (v := .ref z_q) (C := RX9) (T := TX9) (N := 7) hx hb hts hinX9 hown hK.1 hP 0 rfl rfl 1 (by decide) hf20 (fun _ h9 => h9) rfl dX9_sayOf_45 ?_
          refine lv_iload_n hx hb dX9_sayOf_48 rfl (lv_at hl 2 rfl) ?_
          obtain ⟨g_49, h⟩ := gi_e h
          refine va_aldq hx hb hK.1 hP 1 3 rfl rfl g_49 dX9_sayOf_49 ?_
          refine W.eq (g2 := F0 m 50 ls [.ref (z_fh (v2.toNatClampNeg)), .ref (z_fh (v1.toNatClampNeg)), .ref z_he]) rfl ?_
          refine lv_iload_n hx hb dX9_sayOf_50 rfl (lv_at hl 3 rfl) ?_
          refine lv_iload hx hb dX9_sayOf_51 (lv_at hl 4 rfl) ?_
          obtain ⟨r_53, e_steps_53, e_yes_53, s_sets_53, s_slots_53, s_count_53, d_rm_53, d_stateOf_53, d_kindOf_53, d_order_53, d_rooms_53, d_count_53, d_next_53, d_says_53, d_note_53, d_sort_53, d_freshSort_53, p_table_53, p_turn_53, p_count_53, f_next_53, f_says_53, f_size_53, hc_53, h⟩ := ob23_e h
          refine k_ci (wr := [(z_h, .inr (9, [.ref z_hr, .ref z_q, .ref (z_fh 6), .ref z_hl, .ref z_hk, .ref z_he, .ref z_ht])), (z_q, .inl (G.2 3, 6, .inr (.inr (.inr (.inr (fun i => some (z_fh i))))))), (z_hr, .inr (5, [.ref (r_q 0), .ref (r_q 1)])), (r_q 0, .inl (G.2 0, 10, .inl r_goes)), (r_q 1, .inl (G.2 0, 5, .inl r_told)), (z_hl, .inr (4, [.ref (l_hd)])), (z_hk, .inr (2, [.ref (l_hd), .ref (k_hp)])), (z_ht, .inr (8, [.ref (t_q 0), .ref (t_q 1), .ref (t_q 2), .ref (t_q 3)])), (t_q 0, .inl (G.2 2, 60, .inr (.inl t_ways))), (t_q 1, .inl (G.2 2, 60, .inr (.inl t_freshWays))), (t_q 2, .inl (G.2 2, 60, .inr (.inl t_leastTo))), (t_q 3, .inl (G.2 0, 60, .inl t_waiting))]) (va_runV (As := [.ref (z_fh (v1.toNatClampNeg)), .ref (z_fh (v2.toNatClampNeg)), .int v3, .int v4]) (rest := []) ⟨hx, hb, hml, hown, hts⟩ (c_X6_say l G n z_he l_hd e_hs e_q s_q k_hp d_q d_a p_q z_fh f_q e_steps e_yes s_sets s_slots s_count d_rm d_stateOf d_kindOf d_order d_rooms d_count d_next d_says d_note d_sort d_freshSort p_table p_turn p_count f_next f_says f_size (v1.toNatClampNeg) (in6 g_43) (v2.toNatClampNeg) (in6 g_49) v3 v4 rmx1 ms1 hms1 _ r_53 e_steps_53 e_yes_53 s_sets_53 s_slots_53 s_count_53 d_rm_53 d_stateOf_53 d_kindOf_53 d_order_53 d_rooms_53 d_count_53 d_next_53 d_says_53 d_note_53 d_sort_53 d_freshSort_53 p_table_53 p_turn_53 p_count_53 f_next_53 f_says_53 f_size_53 hc_53) (cwV 4 hts gX9_sayOf_X6_say rfl rfl rfl ⟨rfl, eX6_say⟩ ⟨Nat.le_of_ble_eq_true rfl, Nat.le_of_ble_eq_true rfl⟩) (preWV (ci := 6) (q0 := 0) hK (hP.sub (ws' := (WE G z_he l_hd e_hs e_q e_steps e_yes) ++ (WS G e_hs s_q s_sets s_slots s_count) ++ (WD G l_hd k_hp d_q d_a d_rm d_stateOf d_kindOf d_order d_rooms d_count d_next d_says d_note d_sort d_freshSort) ++ (WP G k_hp p_q p_table p_turn p_count) ++ (WF G z_fh f_q f_next f_says f_size)) [7, 8, 9, 10, 11, 17, 18, 19, 20, 21, 22, 23, 24, 25, 26, 27, 28, 29, 30, 31, 32, 33, 34, 35, 36, 37, 38, 39, 40, 41, 42, 43, 44, 45, 46, 47, 48] rfl) (hD.sub (ws' := (WE G z_he l_hd e_hs e_q e_steps e_yes) ++ (WS G e_hs s_q s_sets s_slots s_count) ++ (WD G l_hd k_hp d_q d_a d_rm d_stateOf d_kindOf d_order d_rooms d_count d_next d_says d_note d_sort d_freshSort) ++ (WP G k_hp p_q p_table p_turn p_count) ++ (WF G z_fh f_q f_next f_says f_size)) [7, 8, 9, 10, 11, 17, 18, 19, 20, 21, 22, 23, 24, 25, 26, 27, 28, 29, 30, 31, 32, 33, 34, 35, 36, 37, 38, 39, 40, 41, 42, 43, 44, 45, 46, 47, 48] (by decide) rfl) rfl rfl) rfl rfl hl.1 rfl (lv_room (Nat.le_of_ble_eq_true rfl)) dX9_sayOf_53 ⟨Nat.le_of_ble_eq_true rfl, by show 0 + (ms1) ≤ ms1; omega⟩) hP hD hS hA [7, 8, 9, 10, 11, 17, 18, 19, 20, 21, 22, 23, 24, 25, 26, 27, 28, 29, 30, 31, 32, 33, 34, 35, 36, 37, 38, 39, 40, 41, 42, 43, 44, 45, 46, 47, 48] [0, 1, 2, 3, 4, 5, 6, 12, 13, 14, 15, 16] rfl rfl (by decide) (by decide) (fun u_53 H locs hP hD hS => ?_)
          have hP := hP.sub (ws' := (WX G z_h z_q z_fh z_hr z_hl z_hk z_he z_ht r_q l_hd k_hp e_hs e_q s_q t_q d_q u_53 p_q r_goes r_told e_steps_53 e_yes_53 s_sets_53 s_slots_53 s_count_53 t_ways t_freshWays t_leastTo t_waiting d_rm_53 d_stateOf_53 d_kindOf_53 d_order_53 d_rooms_53 d_count_53 d_next_53 d_says_53 d_note_53 d_sort_53 d_freshSort_53 p_table_53 p_turn_53 p_count_53) ++ (WF G z_fh f_q f_next_53 f_says_53 f_size_53)) [0, 1, 2, 3, 4, 5, 6, 12, 13, 14, 15, 16, 7, 8, 9, 10, 11, 17, 18, 19, 20, 21, 22, 23, 24, 25, 26, 27, 28, 29, 30, 31, 32, 33, 34, 35, 36, 37, 38, 39, 40, 41, 42, 43, 44, 45, 46, 47, 48] rfl
          have hD := hD.sub (ws' := (WX G z_h z_q z_fh z_hr z_hl z_hk z_he z_ht r_q l_hd k_hp e_hs e_q s_q t_q d_q u_53 p_q r_goes r_told e_steps_53 e_yes_53 s_sets_53 s_slots_53 s_count_53 t_ways t_freshWays t_leastTo t_waiting d_rm_53 d_stateOf_53 d_kindOf_53 d_order_53 d_rooms_53 d_count_53 d_next_53 d_says_53 d_note_53 d_sort_53 d_freshSort_53 p_table_53 p_turn_53 p_count_53) ++ (WF G z_fh f_q f_next_53 f_says_53 f_size_53)) [0, 1, 2, 3, 4, 5, 6, 12, 13, 14, 15, 16, 7, 8, 9, 10, 11, 17, 18, 19, 20, 21, 22, 23, 24, 25, 26, 27, 28, 29, 30, 31, 32, 33, 34, 35, 36, 37, 38, 39, 40, 41, 42, 43, 44, 45, 46, 47, 48] (by decide) rfl
          obtain ⟨rfl, rfl, rfl, rfl, rfl, rfl, rfl, rfl, rfl, rfl, rfl, rfl, rfl, rfl, rfl, rfl, rfl, rfl, rfl, rfl, rfl, rfl, rfl⟩ := oi23 h
          exact hret u_53 _ _ _ _ _ _ _ dX9_sayOf_56 rfl rfl hP hD hS (Nat.le_of_ble_eq_true rfl) (by show 0 + (ms1) ≤ ms1; omega)
        · replace h := (if_pos c_28).symm.trans h
          refine lv_bipush (v := -3) hx hb dX9_sayOf_31 (by decide) ?_
          obtain ⟨rfl, rfl, rfl, rfl, rfl, rfl, rfl, rfl, rfl, rfl, rfl, rfl, rfl, rfl, rfl, rfl, rfl, rfl, rfl, rfl, rfl, rfl, rfl⟩ := oi23 h
          exact hret d_a _ _ _ _ _ _ _ dX9_sayOf_33 rfl rfl hP hD hS (Nat.zero_le _) (Nat.zero_le _)
      · replace h := (if_pos c_18).symm.trans h
        refine lv_iconst (v := -1) hx hb dX9_sayOf_21 (by decide) ?_
        obtain ⟨rfl, rfl, rfl, rfl, rfl, rfl, rfl, rfl, rfl, rfl, rfl, rfl, rfl, rfl, rfl, rfl, rfl, rfl, rfl, rfl, rfl, rfl, rfl⟩ := oi23 h
        exact hret d_a _ _ _ _ _ _ _ dX9_sayOf_22 rfl rfl hP hD hS (Nat.zero_le _) (Nat.zero_le _)
abbrev rX9_some (ms1 : Nat) : Room := { frames := 7, cells := 5, slots := ms1, locals := 162 }
set_option maxHeartbeats 4000000 in
set_option maxRecDepth 100000 in
theorem c_X9_some (l : Launch) (G : GG) (n : Nat) (z_h : Nat) (z_q : Nat) (z_fh : Nat → Nat) (z_hr : Nat) (z_hl : Nat) (z_hk : Nat) (z_he : Nat) (z_ht : Nat) (r_q : Nat → Nat) (l_hd : Nat) (k_hp : Nat) (e_hs : Nat) (e_q : Nat → Nat) (s_q : Nat → Nat) (t_q : Nat → Nat) (d_q : Nat → Nat) (d_a : Nat → Nat) (p_q : Nat → Nat) (f_q : Nat → Nat → Nat) (r_goes : AI) (r_told : AI) (e_steps : AL) (e_yes : Int64) (s_sets : AL) (s_slots : AI) (s_count : Int32) (t_ways : AL) (t_freshWays : AL) (t_leastTo : AL) (t_waiting : AI) (d_rm : Nat) (d_stateOf : AI) (d_kindOf : AI) (d_order : AI) (d_rooms : Int32) (d_count : Int32) (d_next : AI) (d_says : AI) (d_note : AI) (d_sort : AI) (d_freshSort : AI) (p_table : AI) (p_turn : Int32) (p_count : Int32) (f_next : AF) (f_says : AF) (f_size : AI)  (v1 : Int32) (v2 : Int32) (v3 : Int32) (rmx1 : Nat) (ms1 : Nat) (hms1 : rmx1 = d_rm ∨ 12 * rmx1 ≤ ms1) (sz : Nat) (r : Int32) (e_steps_z : AL) (e_yes_z : Int64) (s_sets_z : AL) (s_slots_z : AI) (s_count_z : Int32) (d_rm_z : Nat) (d_stateOf_z : AI) (d_kindOf_z : AI) (d_order_z : AI) (d_rooms_z : Int32) (d_count_z : Int32) (d_next_z : AI) (d_says_z : AI) (d_note_z : AI) (d_sort_z : AI) (d_freshSort_z : AI) (p_table_z : AI) (p_turn_z : Int32) (p_count_z : Int32) (f_next_z : AF) (f_says_z : AF) (f_size_z : AI) (h : p_X9_some n e_steps e_yes s_sets s_slots s_count d_rm d_stateOf d_kindOf d_order d_rooms d_count d_next d_says d_note d_sort d_freshSort p_table p_turn p_count f_next f_says f_size rmx1 v1 v2 v3 = some (r, e_steps_z, e_yes_z, s_sets_z, s_slots_z, s_count_z, d_rm_z, d_stateOf_z, d_kindOf_z, d_order_z, d_rooms_z, d_count_z, d_next_z, d_says_z, d_note_z, d_sort_z, d_freshSort_z, p_table_z, p_turn_z, p_count_z, f_next_z, f_says_z, f_size_z)) : CI l yX9_some wsX9_some (rX9_some ms1) G [.ref z_h, .int v1, .int v2, .int v3] ((WX G z_h z_q z_fh z_hr z_hl z_hk z_he z_ht r_q l_hd k_hp e_hs e_q s_q t_q d_q d_a p_q r_goes r_told e_steps e_yes s_sets s_slots s_count t_ways t_freshWays t_leastTo t_waiting d_rm d_stateOf d_kindOf d_order d_rooms d_count d_next d_says d_note d_sort d_freshSort p_table p_turn p_count) ++ (WF G z_fh f_q f_next f_says f_size)) sz r (fun u => (WX G z_h z_q z_fh z_hr z_hl z_hk z_he z_ht r_q l_hd k_hp e_hs e_q s_q t_q d_q u p_q r_goes r_told e_steps_z e_yes_z s_sets_z s_slots_z s_count_z t_ways t_freshWays t_leastTo t_waiting d_rm_z d_stateOf_z d_kindOf_z d_order_z d_rooms_z d_count_z d_next_z d_says_z d_note_z d_sort_z d_freshSort_z p_table_z p_turn_z p_count_z) ++ (WF G z_fh f_q f_next_z f_says_z f_size_z)) := by
  refine enterCI (cc := cX9_some) (maxL := 4) (by decide) rfl (Nat.le_of_ble_eq_true rfl) ?_
  intro p e s m args below meth c A Q hx hb hml hown hts hK hP hD hS hA hret ls hl
  have hown : s.vm.findClass RX9 = some m.cls := hown
  have hl : lv_has ls 4 [(0, .ref z_h), (1, .int v1), (2, .int v2), (3, .int v3)] := hl
  unfold p_X9_some at h
  refine lv_aload_n hx hb dX9_some_0 rfl (lv_at hl 0 rfl) ?_
  refine lv_iload_n hx hb dX9_some_1 rfl (lv_at hl 1 rfl) ?_
  refine lv_iload_n hx hb dX9_some_2 rfl (lv_at hl 2 rfl) ?_
  refine lv_iload_n hx hb dX9_some_3 rfl (lv_at hl 3 rfl) ?_
  refine lv_iconst (v := 0) hx hb dX9_some_4 (by decide) ?_
  obtain ⟨r_5, e_steps_5, e_yes_5, s_sets_5, s_slots_5, s_count_5, d_rm_5, d_stateOf_5, d_kindOf_5, d_order_5, d_rooms_5, d_count_5, d_next_5, d_says_5, d_note_5, d_sort_5, d_freshSort_5, p_table_5, p_turn_5, p_count_5, f_next_5, f_says_5, f_size_5, hc_5, h⟩ := ob23_e h
  refine k_ciA (va_runV (As := [.int v1, .int v2, .int v3, .int (0 : Int32)]) (rest := []) ⟨hx, hb, hml, hown, hts⟩ (c_X9_sayOf l G n z_h z_q z_fh z_hr z_hl z_hk z_he z_ht r_q l_hd k_hp e_hs e_q s_q t_q d_q d_a p_q f_q r_goes r_told e_steps e_yes s_sets s_slots s_count t_ways t_freshWays t_leastTo t_waiting d_rm d_stateOf d_kindOf d_order d_rooms d_count d_next d_says d_note d_sort d_freshSort p_table p_turn p_count f_next f_says f_size  v1 v2 v3 (0 : Int32) rmx1 ms1 hms1 _ r_5 e_steps_5 e_yes_5 s_sets_5 s_slots_5 s_count_5 d_rm_5 d_stateOf_5 d_kindOf_5 d_order_5 d_rooms_5 d_count_5 d_next_5 d_says_5 d_note_5 d_sort_5 d_freshSort_5 p_table_5 p_turn_5 p_count_5 f_next_5 f_says_5 f_size_5 hc_5) (cwV 4 hts gX9_some_X9_sayOf rfl rfl rfl ⟨rfl, eX9_sayOf⟩ ⟨Nat.le_of_ble_eq_true rfl, Nat.le_of_ble_eq_true rfl⟩) (preWV (ci := 9) (q0 := 0) hK hP hD rfl rfl) rfl rfl hl.1 rfl (lv_room (Nat.le_of_ble_eq_true rfl)) dX9_some_5 ⟨Nat.le_of_ble_eq_true rfl, by show 0 + (ms1) ≤ ms1; omega⟩) hD hS hA (fun u_5 H locs hP hD hS => ?_)
  have hP : va_P G.1 vwCl ((WX G z_h z_q z_fh z_hr z_hl z_hk z_he z_ht r_q l_hd k_hp e_hs e_q s_q t_q d_q u_5 p_q r_goes r_told e_steps_5 e_yes_5 s_sets_5 s_slots_5 s_count_5 t_ways t_freshWays t_leastTo t_waiting d_rm_5 d_stateOf_5 d_kindOf_5 d_order_5 d_rooms_5 d_count_5 d_next_5 d_says_5 d_note_5 d_sort_5 d_freshSort_5 p_table_5 p_turn_5 p_count_5) ++ (WF G z_fh f_q f_next_5 f_says_5 f_size_5)) H := hP
  have hD : va_D A ((WX G z_h z_q z_fh z_hr z_hl z_hk z_he z_ht r_q l_hd k_hp e_hs e_q s_q t_q d_q u_5 p_q r_goes r_told e_steps_5 e_yes_5 s_sets_5 s_slots_5 s_count_5 t_ways t_freshWays t_leastTo t_waiting d_rm_5 d_stateOf_5 d_kindOf_5 d_order_5 d_rooms_5 d_count_5 d_next_5 d_says_5 d_note_5 d_sort_5 d_freshSort_5 p_table_5 p_turn_5 p_count_5) ++ (WF G z_fh f_q f_next_5 f_says_5 f_size_5)) := hD
  obtain ⟨rfl, rfl, rfl, rfl, rfl, rfl, rfl, rfl, rfl, rfl, rfl, rfl, rfl, rfl, rfl, rfl, rfl, rfl, rfl, rfl, rfl, rfl, rfl⟩ := oi23 h
  exact hret u_5 _ _ _ _ _ _ _ dX9_some_8 rfl rfl hP hD hS (Nat.le_of_ble_eq_true rfl) (by show 0 + (ms1) ≤ ms1; omega)
abbrev rX9_all (ms1 : Nat) : Room := { frames := 7, cells := 5, slots := ms1, locals := 162 }
set_option maxHeartbeats 4000000 in
set_option maxRecDepth 100000 in
theorem c_X9_all (l : Launch) (G : GG) (n : Nat) (z_h : Nat) (z_q : Nat) (z_fh : Nat → Nat) (z_hr : Nat) (z_hl : Nat) (z_hk : Nat) (z_he : Nat) (z_ht : Nat) (r_q : Nat → Nat) (l_hd : Nat) (k_hp : Nat) (e_hs : Nat) (e_q : Nat → Nat) (s_q : Nat → Nat) (t_q : Nat → Nat) (d_q : Nat → Nat) (d_a : Nat → Nat) (p_q : Nat → Nat) (f_q : Nat → Nat → Nat) (r_goes : AI) (r_told : AI) (e_steps : AL) (e_yes : Int64) (s_sets : AL) (s_slots : AI) (s_count : Int32) (t_ways : AL) (t_freshWays : AL) (t_leastTo : AL) (t_waiting : AI) (d_rm : Nat) (d_stateOf : AI) (d_kindOf : AI) (d_order : AI) (d_rooms : Int32) (d_count : Int32) (d_next : AI) (d_says : AI) (d_note : AI) (d_sort : AI) (d_freshSort : AI) (p_table : AI) (p_turn : Int32) (p_count : Int32) (f_next : AF) (f_says : AF) (f_size : AI)  (v1 : Int32) (v2 : Int32) (v3 : Int32) (rmx1 : Nat) (ms1 : Nat) (hms1 : rmx1 = d_rm ∨ 12 * rmx1 ≤ ms1) (sz : Nat) (r : Int32) (e_steps_z : AL) (e_yes_z : Int64) (s_sets_z : AL) (s_slots_z : AI) (s_count_z : Int32) (d_rm_z : Nat) (d_stateOf_z : AI) (d_kindOf_z : AI) (d_order_z : AI) (d_rooms_z : Int32) (d_count_z : Int32) (d_next_z : AI) (d_says_z : AI) (d_note_z : AI) (d_sort_z : AI) (d_freshSort_z : AI) (p_table_z : AI) (p_turn_z : Int32) (p_count_z : Int32) (f_next_z : AF) (f_says_z : AF) (f_size_z : AI) (h : p_X9_all n e_steps e_yes s_sets s_slots s_count d_rm d_stateOf d_kindOf d_order d_rooms d_count d_next d_says d_note d_sort d_freshSort p_table p_turn p_count f_next f_says f_size rmx1 v1 v2 v3 = some (r, e_steps_z, e_yes_z, s_sets_z, s_slots_z, s_count_z, d_rm_z, d_stateOf_z, d_kindOf_z, d_order_z, d_rooms_z, d_count_z, d_next_z, d_says_z, d_note_z, d_sort_z, d_freshSort_z, p_table_z, p_turn_z, p_count_z, f_next_z, f_says_z, f_size_z)) : CI l yX9_all wsX9_all (rX9_all ms1) G [.ref z_h, .int v1, .int v2, .int v3] ((WX G z_h z_q z_fh z_hr z_hl z_hk z_he z_ht r_q l_hd k_hp e_hs e_q s_q t_q d_q d_a p_q r_goes r_told e_steps e_yes s_sets s_slots s_count t_ways t_freshWays t_leastTo t_waiting d_rm d_stateOf d_kindOf d_order d_rooms d_count d_next d_says d_note d_sort d_freshSort p_table p_turn p_count) ++ (WF G z_fh f_q f_next f_says f_size)) sz r (fun u => (WX G z_h z_q z_fh z_hr z_hl z_hk z_he z_ht r_q l_hd k_hp e_hs e_q s_q t_q d_q u p_q r_goes r_told e_steps_z e_yes_z s_sets_z s_slots_z s_count_z t_ways t_freshWays t_leastTo t_waiting d_rm_z d_stateOf_z d_kindOf_z d_order_z d_rooms_z d_count_z d_next_z d_says_z d_note_z d_sort_z d_freshSort_z p_table_z p_turn_z p_count_z) ++ (WF G z_fh f_q f_next_z f_says_z f_size_z)) := by
  refine enterCI (cc := cX9_all) (maxL := 4) (by decide) rfl (Nat.le_of_ble_eq_true rfl) ?_
  intro p e s m args below meth c A Q hx hb hml hown hts hK hP hD hS hA hret ls hl
  have hown : s.vm.findClass RX9 = some m.cls := hown
  have hl : lv_has ls 4 [(0, .ref z_h), (1, .int v1), (2, .int v2), (3, .int v3)] := hl
  unfold p_X9_all at h
  refine lv_aload_n hx hb dX9_all_0 rfl (lv_at hl 0 rfl) ?_
  refine lv_iload_n hx hb dX9_all_1 rfl (lv_at hl 1 rfl) ?_
  refine lv_iload_n hx hb dX9_all_2 rfl (lv_at hl 2 rfl) ?_
  refine lv_iload_n hx hb dX9_all_3 rfl (lv_at hl 3 rfl) ?_
  refine lv_iconst (v := 1) hx hb dX9_all_4 (by decide) ?_
  obtain ⟨r_5, e_steps_5, e_yes_5, s_sets_5, s_slots_5, s_count_5, d_rm_5, d_stateOf_5, d_kindOf_5, d_order_5, d_rooms_5, d_count_5, d_next_5, d_says_5, d_note_5, d_sort_5, d_freshSort_5, p_table_5, p_turn_5, p_count_5, f_next_5, f_says_5, f_size_5, hc_5, h⟩ := ob23_e h
  refine k_ciA (va_runV (As := [.int v1, .int v2, .int v3, .int (1 : Int32)]) (rest := []) ⟨hx, hb, hml, hown, hts⟩ (c_X9_sayOf l G n z_h z_q z_fh z_hr z_hl z_hk z_he z_ht r_q l_hd k_hp e_hs e_q s_q t_q d_q d_a p_q f_q r_goes r_told e_steps e_yes s_sets s_slots s_count t_ways t_freshWays t_leastTo t_waiting d_rm d_stateOf d_kindOf d_order d_rooms d_count d_next d_says d_note d_sort d_freshSort p_table p_turn p_count f_next f_says f_size  v1 v2 v3 (1 : Int32) rmx1 ms1 hms1 _ r_5 e_steps_5 e_yes_5 s_sets_5 s_slots_5 s_count_5 d_rm_5 d_stateOf_5 d_kindOf_5 d_order_5 d_rooms_5 d_count_5 d_next_5 d_says_5 d_note_5 d_sort_5 d_freshSort_5 p_table_5 p_turn_5 p_count_5 f_next_5 f_says_5 f_size_5 hc_5) (cwV 4 hts gX9_all_X9_sayOf rfl rfl rfl ⟨rfl, eX9_sayOf⟩ ⟨Nat.le_of_ble_eq_true rfl, Nat.le_of_ble_eq_true rfl⟩) (preWV (ci := 9) (q0 := 0) hK hP hD rfl rfl) rfl rfl hl.1 rfl (lv_room (Nat.le_of_ble_eq_true rfl)) dX9_all_5 ⟨Nat.le_of_ble_eq_true rfl, by show 0 + (ms1) ≤ ms1; omega⟩) hD hS hA (fun u_5 H locs hP hD hS => ?_)
  have hP : va_P G.1 vwCl ((WX G z_h z_q z_fh z_hr z_hl z_hk z_he z_ht r_q l_hd k_hp e_hs e_q s_q t_q d_q u_5 p_q r_goes r_told e_steps_5 e_yes_5 s_sets_5 s_slots_5 s_count_5 t_ways t_freshWays t_leastTo t_waiting d_rm_5 d_stateOf_5 d_kindOf_5 d_order_5 d_rooms_5 d_count_5 d_next_5 d_says_5 d_note_5 d_sort_5 d_freshSort_5 p_table_5 p_turn_5 p_count_5) ++ (WF G z_fh f_q f_next_5 f_says_5 f_size_5)) H := hP
  have hD : va_D A ((WX G z_h z_q z_fh z_hr z_hl z_hk z_he z_ht r_q l_hd k_hp e_hs e_q s_q t_q d_q u_5 p_q r_goes r_told e_steps_5 e_yes_5 s_sets_5 s_slots_5 s_count_5 t_ways t_freshWays t_leastTo t_waiting d_rm_5 d_stateOf_5 d_kindOf_5 d_order_5 d_rooms_5 d_count_5 d_next_5 d_says_5 d_note_5 d_sort_5 d_freshSort_5 p_table_5 p_turn_5 p_count_5) ++ (WF G z_fh f_q f_next_5 f_says_5 f_size_5)) := hD
  obtain ⟨rfl, rfl, rfl, rfl, rfl, rfl, rfl, rfl, rfl, rfl, rfl, rfl, rfl, rfl, rfl, rfl, rfl, rfl, rfl, rfl, rfl, rfl, rfl⟩ := oi23 h
  exact hret u_5 _ _ _ _ _ _ _ dX9_all_8 rfl rfl hP hD hS (Nat.le_of_ble_eq_true rfl) (by show 0 + (ms1) ≤ ms1; omega)
abbrev rX9_holds : Room := { frames := 3, cells := 0, slots := 0, locals := 69 }
set_option maxHeartbeats 4000000 in
set_option maxRecDepth 100000 in
theorem c_X9_holds (l : Launch) (G : GG) (n : Nat) (z_h : Nat) (z_q : Nat) (z_fh : Nat → Nat) (z_hr : Nat) (z_hl : Nat) (z_hk : Nat) (z_he : Nat) (z_ht : Nat) (r_q : Nat → Nat) (l_hd : Nat) (k_hp : Nat) (e_hs : Nat) (e_q : Nat → Nat) (s_q : Nat → Nat) (t_q : Nat → Nat) (d_q : Nat → Nat) (d_a : Nat → Nat) (p_q : Nat → Nat) (f_q : Nat → Nat → Nat) (r_goes : AI) (r_told : AI) (e_steps : AL) (e_yes : Int64) (s_sets : AL) (s_slots : AI) (s_count : Int32) (t_ways : AL) (t_freshWays : AL) (t_leastTo : AL) (t_waiting : AI) (d_rm : Nat) (d_stateOf : AI) (d_kindOf : AI) (d_order : AI) (d_rooms : Int32) (d_count : Int32) (d_next : AI) (d_says : AI) (d_note : AI) (d_sort : AI) (d_freshSort : AI) (p_table : AI) (p_turn : Int32) (p_count : Int32) (f_next : AF) (f_says : AF) (f_size : AI)  (v1 : Int32) (v2 : Int32) (v3 : Int32) (v4 : Int32) (r : Int32) (h : p_X9_holds n f_next f_says f_size v1 v2 v3 v4 = some r) : SI l yX9_holds wsX9_holds rX9_holds G [.ref z_h, .int v1, .int v2, .int v3, .int v4] ((WX G z_h z_q z_fh z_hr z_hl z_hk z_he z_ht r_q l_hd k_hp e_hs e_q s_q t_q d_q d_a p_q r_goes r_told e_steps e_yes s_sets s_slots s_count t_ways t_freshWays t_leastTo t_waiting d_rm d_stateOf d_kindOf d_order d_rooms d_count d_next d_says d_note d_sort d_freshSort p_table p_turn p_count) ++ (WF G z_fh f_q f_next f_says f_size)) r := by
  refine enterSI (cc := cX9_holds) (maxL := 5) (by decide) rfl (Nat.le_of_ble_eq_true rfl) ?_
  intro p e s m args below meth c Q hx hb hml hown hts hK hP hret ls hl
  have hown : s.vm.findClass RX9 = some m.cls := hown
  have hf20 := hts (.fieldLink RX9 20 "DigitClaims" "claims" "[LDigitClaims$Claim;") (by decide +kernel)
  have hinX9 : ∀ w ∈ wsX90, w ∈ wsX9_holds := by decide +kernel
  have hl : lv_has ls 5 [(0, .ref z_h), (1, .int v1), (2, .int v2), (3, .int v3), (4, .int v4)] := hl
  unfold p_X9_holds at h
  refine lv_iload_n hx hb dX9_holds_0 rfl (lv_at hl 1 rfl) ?_
  obtain ⟨r_1, hc_1, h⟩ := ob1_e h
  refine k_si (va_runS (As := [.int v1]) (rest := []) ⟨hx, hb, hml, hown, hts⟩ (c_X9_isClaim l G    v1 r_1 hc_1) (va_cwS 1 hts gX9_holds_X9_isClaim rfl rfl rfl eX9_isClaim ⟨Nat.le_of_ble_eq_true rfl, Nat.le_of_ble_eq_true rfl⟩) (preSS hK (fun k q h => by cases h)) rfl rfl hl.1 rfl (lv_room (Nat.le_of_ble_eq_true rfl)) dX9_holds_1 ⟨Nat.le_of_ble_eq_true rfl, Nat.le_of_ble_eq_true rfl⟩) ?_
  refine lv_if_ne (tgt := 9) hx hb dX9_holds_4 (by decide) (fun c_4 => ?_) (fun c_4 => ?_)
  · replace h := (if_neg c_4).symm.trans h
    refine lv_iload_n hx hb dX9_holds_9 rfl (lv_at hl 2 rfl) ?_
    obtain ⟨r_10, hc_10, h⟩ := ob1_e h
    refine k_si (va_runS (As := [.int v2]) (rest := []) ⟨hx, hb, hml, hown, hts⟩ (c_X9_isTold l G    v2 r_10 hc_10) (va_cwS 1 hts gX9_holds_X9_isTold rfl rfl rfl eX9_isTold ⟨Nat.le_of_ble_eq_true rfl, Nat.le_of_ble_eq_true rfl⟩) (preSS hK (fun k q h => by cases h)) rfl rfl hl.1 rfl (lv_room (Nat.le_of_ble_eq_true rfl)) dX9_holds_10 ⟨Nat.le_of_ble_eq_true rfl, Nat.le_of_ble_eq_true rfl⟩) ?_
    refine lv_if_eq (tgt := 31) hx hb dX9_holds_13 (by decide) (fun c_13 => ?_) (fun c_13 => ?_)
    · replace h := (if_pos c_13).symm.trans h
      refine lv_bipush (v := -2) hx hb dX9_holds_31 (by decide) ?_
      obtain rfl := oi1 h
      exact hret _ _ _ dX9_holds_33 rfl rfl
    · replace h := (if_neg c_13).symm.trans h
      refine lv_iload_n hx hb dX9_holds_16 rfl (lv_at hl 3 rfl) ?_
      obtain ⟨r_17, hc_17, h⟩ := ob1_e h
      refine k_si (va_runS (As := [.int v3]) (rest := []) ⟨hx, hb, hml, hown, hts⟩ (c_X9_isTold l G    v3 r_17 hc_17) (va_cwS 1 hts gX9_holds_X9_isTold rfl rfl rfl eX9_isTold ⟨Nat.le_of_ble_eq_true rfl, Nat.le_of_ble_eq_true rfl⟩) (preSS hK (fun k q h => by cases h)) rfl rfl hl.1 rfl (lv_room (Nat.le_of_ble_eq_true rfl)) dX9_holds_17 ⟨Nat.le_of_ble_eq_true rfl, Nat.le_of_ble_eq_true rfl⟩) ?_
      refine lv_if_eq (tgt := 31) hx hb dX9_holds_20 (by decide) (fun c_20 => ?_) (fun c_20 => ?_)
      · replace h := (if_pos c_20).symm.trans h
        refine lv_bipush (v := -2) hx hb dX9_holds_31 (by decide) ?_
        obtain rfl := oi1 h
        exact hret _ _ _ dX9_holds_33 rfl rfl
      · replace h := (if_neg c_20).symm.trans h
        refine lv_iload hx hb dX9_holds_23 (lv_at hl 4 rfl) ?_
        obtain ⟨r_25, hc_25, h⟩ := ob1_e h
        refine k_si (va_runS (As := [.int v4]) (rest := []) ⟨hx, hb, hml, hown, hts⟩ (c_X9_isTold l G    v4 r_25 hc_25) (va_cwS 1 hts gX9_holds_X9_isTold rfl rfl rfl eX9_isTold ⟨Nat.le_of_ble_eq_true rfl, Nat.le_of_ble_eq_true rfl⟩) (preSS hK (fun k q h => by cases h)) rfl rfl hl.1 rfl (lv_room (Nat.le_of_ble_eq_true rfl)) dX9_holds_25 ⟨Nat.le_of_ble_eq_true rfl, Nat.le_of_ble_eq_true rfl⟩) ?_
        refine lv_if_ne (tgt := 34) hx hb dX9_holds_28 (by decide) (fun c_28 => ?_) (fun c_28 => ?_)
        · replace h := (if_neg c_28).symm.trans h
          refine lv_aload_n hx hb dX9_holds_34 rfl (lv_at hl 0 rfl) ?_
          refine lv_iload_n hx hb dX9_holds_35 rfl (lv_at hl 1 rfl) ?_
          obtain ⟨r_36, hc_36, h⟩ := ob1_e h
          refine k_si (va_runV (As := [.int v1]) (rest := []) ⟨hx, hb, hml, hown, hts⟩ (c_X9_isThere l G z_h z_q z_fh z_hr z_hl z_hk z_he z_ht r_q l_hd k_hp e_hs e_q s_q t_q d_q d_a p_q f_q r_goes r_told e_steps e_yes s_sets s_slots s_count t_ways t_freshWays t_leastTo t_waiting d_rm d_stateOf d_kindOf d_order d_rooms d_count d_next d_says d_note d_sort d_freshSort p_table p_turn p_count f_next f_says f_size  v1 r_36 hc_36) (cwV 1 hts gX9_holds_X9_isThere rfl rfl rfl ⟨rfl, eX9_isThere⟩ ⟨Nat.le_of_ble_eq_true rfl, Nat.le_of_ble_eq_true rfl⟩) (preSV (ci := 9) (q0 := 0) hK hP rfl rfl) rfl rfl hl.1 rfl (lv_room (Nat.le_of_ble_eq_true rfl)) dX9_holds_36 ⟨Nat.le_of_ble_eq_true rfl, Nat.le_of_ble_eq_true rfl⟩) ?_
          refine lv_if_ne (tgt := 45) hx hb dX9_holds_39 (by decide) (fun c_39 => ?_) (fun c_39 => ?_)
          · replace h := (if_neg c_39).symm.trans h
            refine lv_aload_n hx hb dX9_holds_45 rfl (lv_at hl 0 rfl) ?_
            refine va_get (D := G.1) (ci := 9) (v := .ref z_q) (C := RX9) (T := TX9) (N := 7) hx hb hts hinX9 hown hK.1 hP 0 rfl rfl 1 (by decide) hf20 (fun _ h9 => h9) rfl dX9_holds_46 ?_
            refine lv_iload_n hx hb dX9_holds_49 rfl (lv_at hl 1 rfl) ?_
            obtain ⟨g_50, h⟩ := gi_e h
            refine va_aldq hx hb hK.1 hP 1 3 rfl rfl g_50 dX9_holds_50 ?_
            refine W.eq (g2 := F0 m 51 ls [.ref (z_fh (v1.toNatClampNeg))]) rfl ?_
            refine lv_iload_n hx hb dX9_holds_51 rfl (lv_at hl 2 rfl) ?_
            refine lv_iload_n hx hb dX9_holds_52 rfl (lv_at hl 3 rfl) ?_
            refine lv_iload hx hb dX9_holds_53 (lv_at hl 4 rfl) ?_
            obtain ⟨r_55, hc_55, h⟩ := ob1_e h
            refine k_si (va_runV (As := [.int v2, .int v3, .int v4]) (rest := []) ⟨hx, hb, hml, hown, hts⟩ (c_X0_saysOf l G n (z_fh (v1.toNatClampNeg)) (f_q (v1.toNatClampNeg)) (f_next (v1.toNatClampNeg)) (f_says (v1.toNatClampNeg)) (f_size (v1.toNatClampNeg))  v2 v3 v4 r_55 hc_55) (cwV 3 hts gX9_holds_X0_saysOf rfl rfl rfl ⟨rfl, eX0_saysOf⟩ ⟨Nat.le_of_ble_eq_true rfl, Nat.le_of_ble_eq_true rfl⟩) (preSV (ci := 0) (q0 := 0) hK (famC hP.right (v1.toNatClampNeg) (in6 g_50)) rfl rfl) rfl rfl hl.1 rfl (lv_room (Nat.le_of_ble_eq_true rfl)) dX9_holds_55 ⟨Nat.le_of_ble_eq_true rfl, Nat.le_of_ble_eq_true rfl⟩) ?_
            refine lv_if_eq (tgt := 65) hx hb dX9_holds_58 (by decide) (fun c_58 => ?_) (fun c_58 => ?_)
            · replace h := (if_pos c_58).symm.trans h
              refine lv_iconst (v := 0) hx hb dX9_holds_65 (by decide) ?_
              obtain rfl := oi1 h
              exact hret _ _ _ dX9_holds_66 rfl rfl
            · replace h := (if_neg c_58).symm.trans h
              refine lv_iconst (v := 1) hx hb dX9_holds_61 (by decide) ?_
              refine lv_goto (tgt := 66) hx hb dX9_holds_62 (by decide) ?_
              obtain rfl := oi1 h
              exact hret _ _ _ dX9_holds_66 rfl rfl
          · replace h := (if_pos c_39).symm.trans h
            refine lv_bipush (v := -3) hx hb dX9_holds_42 (by decide) ?_
            obtain rfl := oi1 h
            exact hret _ _ _ dX9_holds_44 rfl rfl
        · replace h := (if_pos c_28).symm.trans h
          refine lv_bipush (v := -2) hx hb dX9_holds_31 (by decide) ?_
          obtain rfl := oi1 h
          exact hret _ _ _ dX9_holds_33 rfl rfl
  · replace h := (if_pos c_4).symm.trans h
    refine lv_iconst (v := -1) hx hb dX9_holds_7 (by decide) ?_
    obtain rfl := oi1 h
    exact hret _ _ _ dX9_holds_8 rfl rfl
abbrev rX9_depends : Room := { frames := 3, cells := 0, slots := 0, locals := 66 }
set_option maxHeartbeats 4000000 in
set_option maxRecDepth 100000 in
theorem c_X9_depends (l : Launch) (G : GG) (n : Nat) (z_h : Nat) (z_q : Nat) (z_fh : Nat → Nat) (z_hr : Nat) (z_hl : Nat) (z_hk : Nat) (z_he : Nat) (z_ht : Nat) (r_q : Nat → Nat) (l_hd : Nat) (k_hp : Nat) (e_hs : Nat) (e_q : Nat → Nat) (s_q : Nat → Nat) (t_q : Nat → Nat) (d_q : Nat → Nat) (d_a : Nat → Nat) (p_q : Nat → Nat) (f_q : Nat → Nat → Nat) (r_goes : AI) (r_told : AI) (e_steps : AL) (e_yes : Int64) (s_sets : AL) (s_slots : AI) (s_count : Int32) (t_ways : AL) (t_freshWays : AL) (t_leastTo : AL) (t_waiting : AI) (d_rm : Nat) (d_stateOf : AI) (d_kindOf : AI) (d_order : AI) (d_rooms : Int32) (d_count : Int32) (d_next : AI) (d_says : AI) (d_note : AI) (d_sort : AI) (d_freshSort : AI) (p_table : AI) (p_turn : Int32) (p_count : Int32) (f_next : AF) (f_says : AF) (f_size : AI)  (v1 : Int32) (r : Int32) (h : p_X9_depends n f_next f_size v1 = some r) : SI l yX9_depends wsX9_depends rX9_depends G [.ref z_h, .int v1] ((WX G z_h z_q z_fh z_hr z_hl z_hk z_he z_ht r_q l_hd k_hp e_hs e_q s_q t_q d_q d_a p_q r_goes r_told e_steps e_yes s_sets s_slots s_count t_ways t_freshWays t_leastTo t_waiting d_rm d_stateOf d_kindOf d_order d_rooms d_count d_next d_says d_note d_sort d_freshSort p_table p_turn p_count) ++ (WF G z_fh f_q f_next f_says f_size)) r := by
  refine enterSI (cc := cX9_depends) (maxL := 4) (by decide) rfl (Nat.le_of_ble_eq_true rfl) ?_
  intro p e s m args below meth c Q hx hb hml hown hts hK hP hret ls hl
  have hown : s.vm.findClass RX9 = some m.cls := hown
  have hf20 := hts (.fieldLink RX9 20 "DigitClaims" "claims" "[LDigitClaims$Claim;") (by decide +kernel)
  have hinX9 : ∀ w ∈ wsX90, w ∈ wsX9_depends := by decide +kernel
  have hl : lv_has ls 4 [(0, .ref z_h), (1, .int v1)] := hl
  unfold p_X9_depends at h
  refine lv_iload_n hx hb dX9_depends_0 rfl (lv_at hl 1 rfl) ?_
  obtain ⟨r_1, hc_1, h⟩ := ob1_e h
  refine k_si (va_runS (As := [.int v1]) (rest := []) ⟨hx, hb, hml, hown, hts⟩ (c_X9_isClaim l G    v1 r_1 hc_1) (va_cwS 1 hts gX9_depends_X9_isClaim rfl rfl rfl eX9_isClaim ⟨Nat.le_of_ble_eq_true rfl, Nat.le_of_ble_eq_true rfl⟩) (preSS hK (fun k q h => by cases h)) rfl rfl hl.1 rfl (lv_room (Nat.le_of_ble_eq_true rfl)) dX9_depends_1 ⟨Nat.le_of_ble_eq_true rfl, Nat.le_of_ble_eq_true rfl⟩) ?_
  refine lv_if_ne (tgt := 9) hx hb dX9_depends_4 (by decide) (fun c_4 => ?_) (fun c_4 => ?_)
  · replace h := (if_neg c_4).symm.trans h
    refine lv_aload_n hx hb dX9_depends_9 rfl (lv_at hl 0 rfl) ?_
    refine lv_iload_n hx hb dX9_depends_10 rfl (lv_at hl 1 rfl) ?_
    obtain ⟨r_11, hc_11, h⟩ := ob1_e h
    refine k_si (va_runV (As := [.int v1]) (rest := []) ⟨hx, hb, hml, hown, hts⟩ (c_X9_isThere l G z_h z_q z_fh z_hr z_hl z_hk z_he z_ht r_q l_hd k_hp e_hs e_q s_q t_q d_q d_a p_q f_q r_goes r_told e_steps e_yes s_sets s_slots s_count t_ways t_freshWays t_leastTo t_waiting d_rm d_stateOf d_kindOf d_order d_rooms d_count d_next d_says d_note d_sort d_freshSort p_table p_turn p_count f_next f_says f_size  v1 r_11 hc_11) (cwV 1 hts gX9_depends_X9_isThere rfl rfl rfl ⟨rfl, eX9_isThere⟩ ⟨Nat.le_of_ble_eq_true rfl, Nat.le_of_ble_eq_true rfl⟩) (preSV (ci := 9) (q0 := 0) hK hP rfl rfl) rfl rfl hl.1 rfl (lv_room (Nat.le_of_ble_eq_true rfl)) dX9_depends_11 ⟨Nat.le_of_ble_eq_true rfl, Nat.le_of_ble_eq_true rfl⟩) ?_
    refine lv_if_ne (tgt := 20) hx hb dX9_depends_14 (by decide) (fun c_14 => ?_) (fun c_14 => ?_)
    · replace h := (if_neg c_14).symm.trans h
      refine lv_iconst (v := 0) hx hb dX9_depends_20 (by decide) ?_
      refine lv_istore_n (lv' := [(2, .int (0 : Int32)), (0, .ref z_h), (1, .int v1)]) hx hb dX9_depends_21 rfl hl (by decide) rfl (fun ls hl => ?_)
      refine lv_iconst (v := 0) hx hb dX9_depends_22 (by decide) ?_
      refine lv_istore_n (lv' := [(3, .int (0 : Int32)), (2, .int (0 : Int32)), (0, .ref z_h), (1, .int v1)]) hx hb dX9_depends_23 rfl hl (by decide) rfl (fun ls hl => ?_)
      obtain ⟨o2_24, hT24, h⟩ := ob1_e h
      have hX24 : ∀ (x2_24 : Int32)  (ls : Array Slot), some x2_24 = some o2_24 → lv_has ls 4 [(2, .int x2_24)] → W p l e rX9_depends s m args below meth c s.heap [] 0 0 Q (F0 m 54 ls []) := by
        intro x2_24 ls hq hl
        obtain rfl := oi1 hq
        refine lv_iload_n hx hb dX9_depends_54 rfl (lv_at hl 0 rfl) ?_
        obtain rfl := oi1 h
        exact hret _ _ _ dX9_depends_55 rfl rfl
      have hL24 : ∀ (f : Nat) (v2_24 : Int32) (v3_24 : Int32)  (ls : Array Slot), p_X9_depends_L24 n v1 f_next f_size f v2_24 v3_24 = some o2_24 → lv_has ls 4 [(0, .ref z_h), (1, .int v1), (2, .int v2_24), (3, .int v3_24)] → W p l e rX9_depends s m args below meth c s.heap [] 0 0 Q (F0 m 24 ls []) := by
        intro f
        induction f with
        | zero => intro v2_24 v3_24 ls h hl; cases (show none = some _ from h)
        | succ f ih =>
          intro v2_24 v3_24 ls h hl
          rw [p_X9_depends_L24] at h
          refine lv_iload_n hx hb dX9_depends_24 rfl (lv_at hl 3 rfl) ?_
          refine lv_iconst (v := 3) hx hb dX9_depends_25 (by decide) ?_
          refine lv_icmp_ge (tgt := 54) hx hb dX9_depends_26 (by decide) (fun c_26 => ?_) (fun c_26 => ?_)
          · replace h := (if_pos c_26).symm.trans h
            exact hX24 _  _ h (lv_sub hl [2] rfl)
          · replace h := (if_neg c_26).symm.trans h
            refine lv_aload_n hx hb dX9_depends_29 rfl (lv_at hl 0 rfl) ?_
            refine va_get (D := G.1) (ci := 9) (v := .ref z_q) (C := RX9) (T := TX9) (N := 7) hx hb hts hinX9 hown hK.1 hP 0 rfl rfl 1 (by decide) hf20 (fun _ h9 => h9) rfl dX9_depends_30 ?_
            refine lv_iload_n hx hb dX9_depends_33 rfl (lv_at hl 1 rfl) ?_
            obtain ⟨g_34, h⟩ := gi_e h
            refine va_aldq hx hb hK.1 hP 1 3 rfl rfl g_34 dX9_depends_34 ?_
            refine W.eq (g2 := F0 m 35 ls [.ref (z_fh (v1.toNatClampNeg))]) rfl ?_
            refine lv_iload_n hx hb dX9_depends_35 rfl (lv_at hl 3 rfl) ?_
            obtain ⟨r_36, hc_36, h⟩ := ob1_e h
            refine k_si (va_runV (As := [.int v3_24]) (rest := []) ⟨hx, hb, hml, hown, hts⟩ (c_X0_heeds l G n (z_fh (v1.toNatClampNeg)) (f_q (v1.toNatClampNeg)) (f_next (v1.toNatClampNeg)) (f_says (v1.toNatClampNeg)) (f_size (v1.toNatClampNeg))  v3_24 r_36 hc_36) (cwV 1 hts gX9_depends_X0_heeds rfl rfl rfl ⟨rfl, eX0_heeds⟩ ⟨Nat.le_of_ble_eq_true rfl, Nat.le_of_ble_eq_true rfl⟩) (preSV (ci := 0) (q0 := 0) hK (famC hP.right (v1.toNatClampNeg) (in6 g_34)) rfl rfl) rfl rfl hl.1 rfl (lv_room (Nat.le_of_ble_eq_true rfl)) dX9_depends_36 ⟨Nat.le_of_ble_eq_true rfl, Nat.le_of_ble_eq_true rfl⟩) ?_
            obtain ⟨v2_j39, hT39, h⟩ := ob1_e h
            have hJ39 : ∀ (v2_j39x : Int32)  (ls : Array Slot), some v2_j39x = some v2_j39 → lv_has ls 4 [(0, .ref z_h), (1, .int v1), (2, .int v2_j39x), (3, .int v3_24)] → W p l e rX9_depends s m args below meth c s.heap [] 0 0 Q (F0 m 48 ls []) := by
              intro v2_j39x ls hq hl
              obtain rfl := oi1 hq
              refine lv_iinc (v := (v3_24 + (1 : Int32))) (lv' := [(3, .int (v3_24 + (1 : Int32))), (0, .ref z_h), (1, .int v1), (2, .int v2_j39)]) hx hb dX9_depends_48 hl (k := 3) rfl rfl (by decide) rfl (fun ls hl => ?_)
              refine lv_goto (tgt := 24) hx hb dX9_depends_51 (by decide) ?_
              exact ih _ _  _ h (lv_sub hl [1, 2, 3, 0] rfl)
            replace h := hT39
            refine lv_if_eq (tgt := 48) hx hb dX9_depends_39 (by decide) (fun c_39 => ?_) (fun c_39 => ?_)
            · replace h := (if_pos c_39).symm.trans h
              exact hJ39 _  _ h (lv_sub hl [0, 1, 2, 3] rfl)
            · replace h := (if_neg c_39).symm.trans h
              refine lv_iload_n hx hb dX9_depends_42 rfl (lv_at hl 2 rfl) ?_
              refine lv_iconst (v := 1) hx hb dX9_depends_43 (by decide) ?_
              refine lv_iload_n hx hb dX9_depends_44 rfl (lv_at hl 3 rfl) ?_
              refine lv_ishl hx hb dX9_depends_45 ?_
              refine lv_ior hx hb dX9_depends_46 ?_
              refine lv_istore_n (lv' := [(2, .int (v2_24 ||| ((1 : Int32) <<< (v3_24 &&& (31 : Int32))))), (0, .ref z_h), (1, .int v1), (3, .int v3_24)]) hx hb dX9_depends_47 rfl hl (by decide) rfl (fun ls hl => ?_)
              exact hJ39 _  _ h (lv_sub hl [1, 2, 0, 3] rfl)
      exact hL24 n _ _  _ hT24 (lv_sub hl [2, 3, 1, 0] rfl)
    · replace h := (if_pos c_14).symm.trans h
      refine lv_bipush (v := -3) hx hb dX9_depends_17 (by decide) ?_
      obtain rfl := oi1 h
      exact hret _ _ _ dX9_depends_19 rfl rfl
  · replace h := (if_pos c_4).symm.trans h
    refine lv_iconst (v := -1) hx hb dX9_depends_7 (by decide) ?_
    obtain rfl := oi1 h
    exact hret _ _ _ dX9_depends_8 rfl rfl
abbrev rX9_kinds : Room := { frames := 2, cells := 0, slots := 0, locals := 41 }
set_option maxHeartbeats 4000000 in
set_option maxRecDepth 100000 in
theorem c_X9_kinds (l : Launch) (G : GG) (z_h : Nat) (z_q : Nat) (z_fh : Nat → Nat) (z_hr : Nat) (z_hl : Nat) (z_hk : Nat) (z_he : Nat) (z_ht : Nat) (r_q : Nat → Nat) (l_hd : Nat) (k_hp : Nat) (e_hs : Nat) (e_q : Nat → Nat) (s_q : Nat → Nat) (t_q : Nat → Nat) (d_q : Nat → Nat) (d_a : Nat → Nat) (p_q : Nat → Nat) (f_q : Nat → Nat → Nat) (r_goes : AI) (r_told : AI) (e_steps : AL) (e_yes : Int64) (s_sets : AL) (s_slots : AI) (s_count : Int32) (t_ways : AL) (t_freshWays : AL) (t_leastTo : AL) (t_waiting : AI) (d_rm : Nat) (d_stateOf : AI) (d_kindOf : AI) (d_order : AI) (d_rooms : Int32) (d_count : Int32) (d_next : AI) (d_says : AI) (d_note : AI) (d_sort : AI) (d_freshSort : AI) (p_table : AI) (p_turn : Int32) (p_count : Int32) (f_next : AF) (f_says : AF) (f_size : AI)  (v1 : Int32) (r : Int32) (h : p_X9_kinds f_size v1 = some r) : SI l yX9_kinds wsX9_kinds rX9_kinds G [.ref z_h, .int v1] ((WX G z_h z_q z_fh z_hr z_hl z_hk z_he z_ht r_q l_hd k_hp e_hs e_q s_q t_q d_q d_a p_q r_goes r_told e_steps e_yes s_sets s_slots s_count t_ways t_freshWays t_leastTo t_waiting d_rm d_stateOf d_kindOf d_order d_rooms d_count d_next d_says d_note d_sort d_freshSort p_table p_turn p_count) ++ (WF G z_fh f_q f_next f_says f_size)) r := by
  refine enterSI (cc := cX9_kinds) (maxL := 2) (by decide) rfl (Nat.le_of_ble_eq_true rfl) ?_
  intro p e s m args below meth c Q hx hb hml hown hts hK hP hret ls hl
  have hown : s.vm.findClass RX9 = some m.cls := hown
  have hf20 := hts (.fieldLink RX9 20 "DigitClaims" "claims" "[LDigitClaims$Claim;") (by decide +kernel)
  have hinX9 : ∀ w ∈ wsX90, w ∈ wsX9_kinds := by decide +kernel
  have hl : lv_has ls 2 [(0, .ref z_h), (1, .int v1)] := hl
  unfold p_X9_kinds at h
  refine lv_iload_n hx hb dX9_kinds_0 rfl (lv_at hl 1 rfl) ?_
  obtain ⟨r_1, hc_1, h⟩ := ob1_e h
  refine k_si (va_runS (As := [.int v1]) (rest := []) ⟨hx, hb, hml, hown, hts⟩ (c_X9_isClaim l G    v1 r_1 hc_1) (va_cwS 1 hts gX9_kinds_X9_isClaim rfl rfl rfl eX9_isClaim ⟨Nat.le_of_ble_eq_true rfl, Nat.le_of_ble_eq_true rfl⟩) (preSS hK (fun k q h => by cases h)) rfl rfl hl.1 rfl (lv_room (Nat.le_of_ble_eq_true rfl)) dX9_kinds_1 ⟨Nat.le_of_ble_eq_true rfl, Nat.le_of_ble_eq_true rfl⟩) ?_
  refine lv_if_ne (tgt := 9) hx hb dX9_kinds_4 (by decide) (fun c_4 => ?_) (fun c_4 => ?_)
  · replace h := (if_neg c_4).symm.trans h
    refine lv_aload_n hx hb dX9_kinds_9 rfl (lv_at hl 0 rfl) ?_
    refine lv_iload_n hx hb dX9_kinds_10 rfl (lv_at hl 1 rfl) ?_
    obtain ⟨r_11, hc_11, h⟩ := ob1_e h
    refine k_si (va_runV (As := [.int v1]) (rest := []) ⟨hx, hb, hml, hown, hts⟩ (c_X9_isThere l G z_h z_q z_fh z_hr z_hl z_hk z_he z_ht r_q l_hd k_hp e_hs e_q s_q t_q d_q d_a p_q f_q r_goes r_told e_steps e_yes s_sets s_slots s_count t_ways t_freshWays t_leastTo t_waiting d_rm d_stateOf d_kindOf d_order d_rooms d_count d_next d_says d_note d_sort d_freshSort p_table p_turn p_count f_next f_says f_size  v1 r_11 hc_11) (cwV 1 hts gX9_kinds_X9_isThere rfl rfl rfl ⟨rfl, eX9_isThere⟩ ⟨Nat.le_of_ble_eq_true rfl, Nat.le_of_ble_eq_true rfl⟩) (preSV (ci := 9) (q0 := 0) hK hP rfl rfl) rfl rfl hl.1 rfl (lv_room (Nat.le_of_ble_eq_true rfl)) dX9_kinds_11 ⟨Nat.le_of_ble_eq_true rfl, Nat.le_of_ble_eq_true rfl⟩) ?_
    refine lv_if_eq (tgt := 29) hx hb dX9_kinds_14 (by decide) (fun c_14 => ?_) (fun c_14 => ?_)
    · replace h := (if_pos c_14).symm.trans h
      refine lv_bipush (v := -3) hx hb dX9_kinds_29 (by decide) ?_
      obtain rfl := oi1 h
      exact hret _ _ _ dX9_kinds_31 rfl rfl
    · replace h := (if_neg c_14).symm.trans h
      refine lv_aload_n hx hb dX9_kinds_17 rfl (lv_at hl 0 rfl) ?_
      refine va_get (D := G.1) (ci := 9) (v := .ref z_q) (C := RX9) (T := TX9) (N := 7) hx hb hts hinX9 hown hK.1 hP 0 rfl rfl 1 (by decide) hf20 (fun _ h9 => h9) rfl dX9_kinds_18 ?_
      refine lv_iload_n hx hb dX9_kinds_21 rfl (lv_at hl 1 rfl) ?_
      obtain ⟨g_22, h⟩ := gi_e h
      refine va_aldq hx hb hK.1 hP 1 3 rfl rfl g_22 dX9_kinds_22 ?_
      refine W.eq (g2 := F0 m 23 ls [.ref (z_fh (v1.toNatClampNeg))]) rfl ?_
      obtain ⟨r_23, hc_23, h⟩ := ob1_e h
      refine k_si (va_runV (As := []) (rest := []) ⟨hx, hb, hml, hown, hts⟩ (c_X0_size l G (z_fh (v1.toNatClampNeg)) (f_q (v1.toNatClampNeg)) (f_next (v1.toNatClampNeg)) (f_says (v1.toNatClampNeg)) (f_size (v1.toNatClampNeg))   r_23 hc_23) (cwV 0 hts gX9_kinds_X0_size rfl rfl rfl ⟨rfl, eX0_size⟩ ⟨Nat.le_of_ble_eq_true rfl, Nat.le_of_ble_eq_true rfl⟩) (preSV (ci := 0) (q0 := 0) hK (famC hP.right (v1.toNatClampNeg) (in6 g_22)) rfl rfl) rfl rfl hl.1 rfl (lv_room (Nat.le_of_ble_eq_true rfl)) dX9_kinds_23 ⟨Nat.le_of_ble_eq_true rfl, Nat.le_of_ble_eq_true rfl⟩) ?_
      refine lv_goto (tgt := 31) hx hb dX9_kinds_26 (by decide) ?_
      obtain rfl := oi1 h
      exact hret _ _ _ dX9_kinds_31 rfl rfl
  · replace h := (if_pos c_4).symm.trans h
    refine lv_iconst (v := -1) hx hb dX9_kinds_7 (by decide) ?_
    obtain rfl := oi1 h
    exact hret _ _ _ dX9_kinds_8 rfl rfl
abbrev rX9_below : Room := { frames := 4, cells := 0, slots := 0, locals := 94 }
set_option maxHeartbeats 4000000 in
set_option maxRecDepth 100000 in
theorem c_X9_below (l : Launch) (G : GG) (n : Nat) (z_h : Nat) (z_q : Nat) (z_fh : Nat → Nat) (z_hr : Nat) (z_hl : Nat) (z_hk : Nat) (z_he : Nat) (z_ht : Nat) (r_q : Nat → Nat) (l_hd : Nat) (k_hp : Nat) (e_hs : Nat) (e_q : Nat → Nat) (s_q : Nat → Nat) (t_q : Nat → Nat) (d_q : Nat → Nat) (d_a : Nat → Nat) (p_q : Nat → Nat) (f_q : Nat → Nat → Nat) (r_goes : AI) (r_told : AI) (e_steps : AL) (e_yes : Int64) (s_sets : AL) (s_slots : AI) (s_count : Int32) (t_ways : AL) (t_freshWays : AL) (t_leastTo : AL) (t_waiting : AI) (d_rm : Nat) (d_stateOf : AI) (d_kindOf : AI) (d_order : AI) (d_rooms : Int32) (d_count : Int32) (d_next : AI) (d_says : AI) (d_note : AI) (d_sort : AI) (d_freshSort : AI) (p_table : AI) (p_turn : Int32) (p_count : Int32) (f_next : AF) (f_says : AF) (f_size : AI)  (v1 : Int32) (v2 : Int32) (sz : Nat) (r : Int64) (t_ways_z : AL) (t_freshWays_z : AL) (h : p_X9_below n t_ways t_freshWays f_next f_says f_size v1 v2 = some (r, t_ways_z, t_freshWays_z)) : CL l yX9_below wsX9_below rX9_below G [.ref z_h, .int v1, .int v2] ((WX G z_h z_q z_fh z_hr z_hl z_hk z_he z_ht r_q l_hd k_hp e_hs e_q s_q t_q d_q d_a p_q r_goes r_told e_steps e_yes s_sets s_slots s_count t_ways t_freshWays t_leastTo t_waiting d_rm d_stateOf d_kindOf d_order d_rooms d_count d_next d_says d_note d_sort d_freshSort p_table p_turn p_count) ++ (WF G z_fh f_q f_next f_says f_size)) sz r (fun u => (WX G z_h z_q z_fh z_hr z_hl z_hk z_he z_ht r_q l_hd k_hp e_hs e_q s_q t_q d_q d_a p_q r_goes r_told e_steps e_yes s_sets s_slots s_count t_ways_z t_freshWays_z t_leastTo t_waiting d_rm d_stateOf d_kindOf d_order d_rooms d_count d_next d_says d_note d_sort d_freshSort p_table p_turn p_count) ++ (WF G z_fh f_q f_next f_says f_size)) := by
  refine enterCL (cc := cX9_below) (maxL := 3) (by decide) rfl (Nat.le_of_ble_eq_true rfl) ?_
  intro p e s m args below meth c A Q hx hb hml hown hts hK hP hD hS hA hret ls hl
  have hown : s.vm.findClass RX9 = some m.cls := hown
  have hf20 := hts (.fieldLink RX9 20 "DigitClaims" "claims" "[LDigitClaims$Claim;") (by decide +kernel)
  have hf65 := hts (.fieldLink RX9 65 "DigitClaims" "teller" "LDigitClaims$Teller;") (by decide +kernel)
  have hinX9 : ∀ w ∈ wsX90, w ∈ wsX9_below := by decide +kernel
  have hl : lv_has ls 3 [(0, .ref z_h), (1, .int v1), (2, .int v2)] := hl
  unfold p_X9_below at h
  refine lv_iload_n hx hb dX9_below_0 rfl (lv_at hl 1 rfl) ?_
  obtain ⟨r_1, hc_1, h⟩ := ob1_e h
  refine k_si (va_runS (As := [.int v1]) (rest := []) ⟨hx, hb, hml, hown, hts⟩ (c_X9_isClaim l G    v1 r_1 hc_1) (va_cwS 1 hts gX9_below_X9_isClaim rfl rfl rfl eX9_isClaim ⟨Nat.le_of_ble_eq_true rfl, Nat.le_of_ble_eq_true rfl⟩) (preSS hK (fun k q h => by cases h)) rfl rfl hl.1 rfl (lv_room (Nat.le_of_ble_eq_true rfl)) dX9_below_1 ⟨Nat.le_of_ble_eq_true rfl, Nat.le_of_ble_eq_true rfl⟩) ?_
  refine lv_if_eq (tgt := 25) hx hb dX9_below_4 (by decide) (fun c_4 => ?_) (fun c_4 => ?_)
  · replace h := (if_pos c_4).symm.trans h
    refine lv_ldc2 (v := -9223372036854775808) hx hb hown (hts (.constantLong RX9 162 (-9223372036854775808)) (by decide +kernel)) dX9_below_25 ?_
    obtain ⟨rfl, rfl, rfl⟩ := oi3 h
    exact hret (fun _ => 0) _ _ _ _ _ _ _ dX9_below_28 rfl hP hD hS (Nat.le_of_ble_eq_true rfl) (Nat.le_of_ble_eq_true rfl)
  · replace h := (if_neg c_4).symm.trans h
    refine lv_iload_n hx hb dX9_below_7 rfl (lv_at hl 2 rfl) ?_
    refine lv_if_lt (tgt := 25) hx hb dX9_below_8 (by decide) (fun c_8 => ?_) (fun c_8 => ?_)
    · replace h := (if_pos c_8).symm.trans h
      refine lv_ldc2 (v := -9223372036854775808) hx hb hown (hts (.constantLong RX9 162 (-9223372036854775808)) (by decide +kernel)) dX9_below_25 ?_
      obtain ⟨rfl, rfl, rfl⟩ := oi3 h
      exact hret (fun _ => 0) _ _ _ _ _ _ _ dX9_below_28 rfl hP hD hS (Nat.le_of_ble_eq_true rfl) (Nat.le_of_ble_eq_true rfl)
    · replace h := (if_neg c_8).symm.trans h
      refine lv_iload_n hx hb dX9_below_11 rfl (lv_at hl 2 rfl) ?_
      refine lv_bipush (v := 12) hx hb dX9_below_12 (by decide) ?_
      refine lv_icmp_gt (tgt := 25) hx hb dX9_below_14 (by decide) (fun c_14 => ?_) (fun c_14 => ?_)
      · replace h := (if_pos c_14).symm.trans h
        refine lv_ldc2 (v := -9223372036854775808) hx hb hown (hts (.constantLong RX9 162 (-9223372036854775808)) (by decide +kernel)) dX9_below_25 ?_
        obtain ⟨rfl, rfl, rfl⟩ := oi3 h
        exact hret (fun _ => 0) _ _ _ _ _ _ _ dX9_below_28 rfl hP hD hS (Nat.le_of_ble_eq_true rfl) (Nat.le_of_ble_eq_true rfl)
      · replace h := (if_neg c_14).symm.trans h
        refine lv_aload_n hx hb dX9_below_17 rfl (lv_at hl 0 rfl) ?_
        refine lv_iload_n hx hb dX9_below_18 rfl (lv_at hl 1 rfl) ?_
        obtain ⟨r_19, hc_19, h⟩ := ob1_e h
        refine k_si (va_runV (As := [.int v1]) (rest := []) ⟨hx, hb, hml, hown, hts⟩ (c_X9_isThere l G z_h z_q z_fh z_hr z_hl z_hk z_he z_ht r_q l_hd k_hp e_hs e_q s_q t_q d_q d_a p_q f_q r_goes r_told e_steps e_yes s_sets s_slots s_count t_ways t_freshWays t_leastTo t_waiting d_rm d_stateOf d_kindOf d_order d_rooms d_count d_next d_says d_note d_sort d_freshSort p_table p_turn p_count f_next f_says f_size  v1 r_19 hc_19) (cwV 1 hts gX9_below_X9_isThere rfl rfl rfl ⟨rfl, eX9_isThere⟩ ⟨Nat.le_of_ble_eq_true rfl, Nat.le_of_ble_eq_true rfl⟩) (preSV (ci := 9) (q0 := 0) hK hP rfl rfl) rfl rfl hl.1 rfl (lv_room (Nat.le_of_ble_eq_true rfl)) dX9_below_19 ⟨Nat.le_of_ble_eq_true rfl, Nat.le_of_ble_eq_true rfl⟩) ?_
        refine lv_if_ne (tgt := 29) hx hb dX9_below_22 (by decide) (fun c_22 => ?_) (fun c_22 => ?_)
        · replace h := (if_neg c_22).symm.trans h
          refine lv_aload_n hx hb dX9_below_29 rfl (lv_at hl 0 rfl) ?_
          refine va_get (D := G.1) (ci := 9) (v := .ref z_ht) (C := RX9) (T := TX9) (N := 7) hx hb hts hinX9 hown hK.1 hP 0 rfl rfl 6 (by decide) hf65 (fun _ h9 => h9) rfl dX9_below_30 ?_
          refine lv_aload_n hx hb dX9_below_33 rfl (lv_at hl 0 rfl) ?_
          refine va_get (D := G.1) (ci := 9) (v := .ref z_q) (C := RX9) (T := TX9) (N := 7) hx hb hts hinX9 hown hK.1 hP 0 rfl rfl 1 (by decide) hf20 (fun _ h9 => h9) rfl dX9_below_34 ?_
          refine lv_iload_n hx hb dX9_below_37 rfl (lv_at hl 1 rfl) ?_
          obtain ⟨g_38, h⟩ := gi_e h
          refine va_aldq hx hb hK.1 hP 1 3 rfl rfl g_38 dX9_below_38 ?_
          refine W.eq (g2 := F0 m 39 ls [.ref (z_fh (v1.toNatClampNeg)), .ref z_ht]) rfl ?_
          refine lv_iload_n hx hb dX9_below_39 rfl (lv_at hl 2 rfl) ?_
          obtain ⟨r_40, t_ways_40, t_freshWays_40, hc_40, h⟩ := ob3_e h
          refine k_cl (wr := [(z_h, .inr (9, [.ref z_hr, .ref z_q, .ref (z_fh 6), .ref z_hl, .ref z_hk, .ref z_he, .ref z_ht])), (z_q, .inl (G.2 3, 6, .inr (.inr (.inr (.inr (fun i => some (z_fh i))))))), (z_hr, .inr (5, [.ref (r_q 0), .ref (r_q 1)])), (r_q 0, .inl (G.2 0, 10, .inl r_goes)), (r_q 1, .inl (G.2 0, 5, .inl r_told)), (z_hl, .inr (4, [.ref (l_hd)])), (z_hk, .inr (2, [.ref (l_hd), .ref (k_hp)])), (z_he, .inr (6, [.ref (l_hd), .ref (e_hs), .ref (e_q 0), .long e_yes])), (e_q 0, .inl (G.2 2, 480, .inr (.inl e_steps))), (e_hs, .inr (7, [.ref (s_q 0), .ref (s_q 1), .int s_count])), (s_q 0, .inl (G.2 2, 300, .inr (.inl s_sets))), (s_q 1, .inl (G.2 0, 1024, .inl s_slots)), (l_hd, .inr (1, [.ref (k_hp), .ref (d_q 0), .ref (d_q 1), .ref (d_q 2), .int d_rooms, .int d_count, .ref (d_a 0), .ref (d_a 1), .ref (d_a 2), .ref (d_a 3), .ref (d_a 4)])), (d_q 0, .inl (G.2 0, 60, .inl d_stateOf)), (d_q 1, .inl (G.2 0, 60, .inl d_kindOf)), (d_q 2, .inl (G.2 0, 60, .inl d_order)), (d_a 0, .inl (G.2 0, 8 * d_rm, .inl d_next)), (d_a 1, .inl (G.2 1, d_rm, .inl d_says)), (d_a 2, .inl (G.2 0, d_rm, .inl d_note)), (d_a 3, .inl (G.2 0, d_rm, .inl d_sort)), (d_a 4, .inl (G.2 0, d_rm, .inl d_freshSort)), (k_hp, .inr (3, [.ref (p_q 0), .int p_turn, .int p_count])), (p_q 0, .inl (G.2 0, 4096, .inl p_table))]) (va_runV (As := [.ref (z_fh (v1.toNatClampNeg)), .int v2]) (rest := []) ⟨hx, hb, hml, hown, hts⟩ (c_X8_countBelow l G n z_ht t_q z_fh f_q t_ways t_freshWays t_leastTo t_waiting f_next f_says f_size (v1.toNatClampNeg) (in6 g_38) v2 _ r_40 t_ways_40 t_freshWays_40 hc_40) (cwV 2 hts gX9_below_X8_countBelow rfl rfl rfl ⟨rfl, eX8_countBelow⟩ ⟨Nat.le_of_ble_eq_true rfl, Nat.le_of_ble_eq_true rfl⟩) (preWV (ci := 8) (q0 := 0) hK (hP.sub (ws' := (WT G z_ht t_q t_ways t_freshWays t_leastTo t_waiting) ++ (WF G z_fh f_q f_next f_says f_size)) [12, 13, 14, 15, 16, 28, 29, 30, 31, 32, 33, 34, 35, 36, 37, 38, 39, 40, 41, 42, 43, 44, 45, 46, 47, 48] rfl) (hD.sub (ws' := (WT G z_ht t_q t_ways t_freshWays t_leastTo t_waiting) ++ (WF G z_fh f_q f_next f_says f_size)) [12, 13, 14, 15, 16, 28, 29, 30, 31, 32, 33, 34, 35, 36, 37, 38, 39, 40, 41, 42, 43, 44, 45, 46, 47, 48] (by decide) rfl) rfl rfl) rfl rfl hl.1 rfl (lv_room (Nat.le_of_ble_eq_true rfl)) dX9_below_40 ⟨Nat.le_of_ble_eq_true rfl, Nat.le_of_ble_eq_true rfl⟩) hP hD hS hA [12, 13, 14, 15, 16, 28, 29, 30, 31, 32, 33, 34, 35, 36, 37, 38, 39, 40, 41, 42, 43, 44, 45, 46, 47, 48] [0, 1, 2, 3, 4, 5, 6, 7, 8, 9, 10, 11, 17, 18, 19, 20, 21, 22, 23, 24, 25, 26, 27] rfl rfl (by decide) (by decide) (fun u_40 H locs hP hD hS => ?_)
          have hP := hP.sub (ws' := (WX G z_h z_q z_fh z_hr z_hl z_hk z_he z_ht r_q l_hd k_hp e_hs e_q s_q t_q d_q d_a p_q r_goes r_told e_steps e_yes s_sets s_slots s_count t_ways_40 t_freshWays_40 t_leastTo t_waiting d_rm d_stateOf d_kindOf d_order d_rooms d_count d_next d_says d_note d_sort d_freshSort p_table p_turn p_count) ++ (WF G z_fh f_q f_next f_says f_size)) [0, 1, 2, 3, 4, 5, 6, 7, 8, 9, 10, 11, 23, 24, 25, 26, 27, 12, 13, 14, 15, 16, 17, 18, 19, 20, 21, 22, 28, 29, 30, 31, 32, 33, 34, 35, 36, 37, 38, 39, 40, 41, 42, 43, 44, 45, 46, 47, 48] rfl
          have hD := hD.sub (ws' := (WX G z_h z_q z_fh z_hr z_hl z_hk z_he z_ht r_q l_hd k_hp e_hs e_q s_q t_q d_q d_a p_q r_goes r_told e_steps e_yes s_sets s_slots s_count t_ways_40 t_freshWays_40 t_leastTo t_waiting d_rm d_stateOf d_kindOf d_order d_rooms d_count d_next d_says d_note d_sort d_freshSort p_table p_turn p_count) ++ (WF G z_fh f_q f_next f_says f_size)) [0, 1, 2, 3, 4, 5, 6, 7, 8, 9, 10, 11, 23, 24, 25, 26, 27, 12, 13, 14, 15, 16, 17, 18, 19, 20, 21, 22, 28, 29, 30, 31, 32, 33, 34, 35, 36, 37, 38, 39, 40, 41, 42, 43, 44, 45, 46, 47, 48] (by decide) rfl
          obtain ⟨rfl, rfl, rfl⟩ := oi3 h
          exact hret (fun _ => 0) _ _ _ _ _ _ _ dX9_below_43 rfl hP hD hS (Nat.le_of_ble_eq_true rfl) (Nat.le_of_ble_eq_true rfl)
        · replace h := (if_pos c_22).symm.trans h
          refine lv_ldc2 (v := -9223372036854775808) hx hb hown (hts (.constantLong RX9 162 (-9223372036854775808)) (by decide +kernel)) dX9_below_25 ?_
          obtain ⟨rfl, rfl, rfl⟩ := oi3 h
          exact hret (fun _ => 0) _ _ _ _ _ _ _ dX9_below_28 rfl hP hD hS (Nat.le_of_ble_eq_true rfl) (Nat.le_of_ble_eq_true rfl)
abbrev rX9_least (ms1 : Nat) (ms2 : Nat) : Room := { frames := 6, cells := 10, slots := ms1 + ms2, locals := 138 }
set_option maxHeartbeats 4000000 in
set_option maxRecDepth 100000 in
theorem c_X9_least (l : Launch) (G : GG) (n : Nat) (z_h : Nat) (z_q : Nat) (z_fh : Nat → Nat) (z_hr : Nat) (z_hl : Nat) (z_hk : Nat) (z_he : Nat) (z_ht : Nat) (r_q : Nat → Nat) (l_hd : Nat) (k_hp : Nat) (e_hs : Nat) (e_q : Nat → Nat) (s_q : Nat → Nat) (t_q : Nat → Nat) (d_q : Nat → Nat) (d_a : Nat → Nat) (p_q : Nat → Nat) (f_q : Nat → Nat → Nat) (r_goes : AI) (r_told : AI) (e_steps : AL) (e_yes : Int64) (s_sets : AL) (s_slots : AI) (s_count : Int32) (t_ways : AL) (t_freshWays : AL) (t_leastTo : AL) (t_waiting : AI) (d_rm : Nat) (d_stateOf : AI) (d_kindOf : AI) (d_order : AI) (d_rooms : Int32) (d_count : Int32) (d_next : AI) (d_says : AI) (d_note : AI) (d_sort : AI) (d_freshSort : AI) (p_table : AI) (p_turn : Int32) (p_count : Int32) (f_next : AF) (f_says : AF) (f_size : AI)  (v1 : Int32) (v2 : Int32) (rmx1 : Nat) (ms1 : Nat) (hms1 : rmx1 = d_rm ∨ 12 * rmx1 ≤ ms1) (rmx2 : Nat) (ms2 : Nat) (hms2 : rmx2 = rmx1 ∨ 12 * rmx2 ≤ ms2) (sz : Nat) (r : Int32) (e_steps_z : AL) (e_yes_z : Int64) (s_sets_z : AL) (s_slots_z : AI) (s_count_z : Int32) (t_leastTo_z : AL) (t_waiting_z : AI) (d_rm_z : Nat) (d_stateOf_z : AI) (d_kindOf_z : AI) (d_order_z : AI) (d_rooms_z : Int32) (d_count_z : Int32) (d_next_z : AI) (d_says_z : AI) (d_note_z : AI) (d_sort_z : AI) (d_freshSort_z : AI) (p_table_z : AI) (p_turn_z : Int32) (p_count_z : Int32) (f_next_z : AF) (f_says_z : AF) (f_size_z : AI) (h : p_X9_least n e_steps e_yes s_sets s_slots s_count t_leastTo t_waiting d_rm d_stateOf d_kindOf d_order d_rooms d_count d_next d_says d_note d_sort d_freshSort p_table p_turn p_count f_next f_says f_size rmx1 rmx2 v1 v2 = some (r, e_steps_z, e_yes_z, s_sets_z, s_slots_z, s_count_z, t_leastTo_z, t_waiting_z, d_rm_z, d_stateOf_z, d_kindOf_z, d_order_z, d_rooms_z, d_count_z, d_next_z, d_says_z, d_note_z, d_sort_z, d_freshSort_z, p_table_z, p_turn_z, p_count_z, f_next_z, f_says_z, f_size_z)) : CI l yX9_least wsX9_least (rX9_least ms1 ms2) G [.ref z_h, .int v1, .int v2] ((WX G z_h z_q z_fh z_hr z_hl z_hk z_he z_ht r_q l_hd k_hp e_hs e_q s_q t_q d_q d_a p_q r_goes r_told e_steps e_yes s_sets s_slots s_count t_ways t_freshWays t_leastTo t_waiting d_rm d_stateOf d_kindOf d_order d_rooms d_count d_next d_says d_note d_sort d_freshSort p_table p_turn p_count) ++ (WF G z_fh f_q f_next f_says f_size)) sz r (fun u => (WX G z_h z_q z_fh z_hr z_hl z_hk z_he z_ht r_q l_hd k_hp e_hs e_q s_q t_q d_q u p_q r_goes r_told e_steps_z e_yes_z s_sets_z s_slots_z s_count_z t_ways t_freshWays t_leastTo_z t_waiting_z d_rm_z d_stateOf_z d_kindOf_z d_order_z d_rooms_z d_count_z d_next_z d_says_z d_note_z d_sort_z d_freshSort_z p_table_z p_turn_z p_count_z) ++ (WF G z_fh f_q f_next_z f_says_z f_size_z)) := by
  refine enterCI (cc := cX9_least) (maxL := 7) (by decide) rfl (Nat.le_of_ble_eq_true rfl) ?_
  intro p e s m args below meth c A Q hx hb hml hown hts hK hP hD hS hA hret ls hl
  have hown : s.vm.findClass RX9 = some m.cls := hown
  have hf20 := hts (.fieldLink RX9 20 "DigitClaims" "claims" "[LDigitClaims$Claim;") (by decide +kernel)
  have hf25 := hts (.fieldLink RX9 25 "DigitClaims" "spare" "LDigitClaims$Claim;") (by decide +kernel)
  have hf58 := hts (.fieldLink RX9 58 "DigitClaims" "said" "LDigitClaims$SaidClaims;") (by decide +kernel)
  have hf65 := hts (.fieldLink RX9 65 "DigitClaims" "teller" "LDigitClaims$Teller;") (by decide +kernel)
  have hinX9 : ∀ w ∈ wsX90, w ∈ wsX9_least := by decide +kernel
  have hl : lv_has ls 7 [(0, .ref z_h), (1, .int v1), (2, .int v2)] := hl
  unfold p_X9_least at h
  refine lv_iload_n hx hb dX9_least_0 rfl (lv_at hl 1 rfl) ?_
  obtain ⟨r_1, hc_1, h⟩ := ob1_e h
  refine k_si (va_runS (As := [.int v1]) (rest := []) ⟨hx, hb, hml, hown, hts⟩ (c_X9_isClaim l G    v1 r_1 hc_1) (va_cwS 1 hts gX9_least_X9_isClaim rfl rfl rfl eX9_isClaim ⟨Nat.le_of_ble_eq_true rfl, Nat.le_of_ble_eq_true rfl⟩) (preSS hK (fun k q h => by cases h)) rfl rfl hl.1 rfl (lv_room (Nat.le_of_ble_eq_true rfl)) dX9_least_1 ⟨Nat.le_of_ble_eq_true rfl, by show 0 + 0 ≤ ms1 + ms2; omega⟩) ?_
  refine lv_if_eq (tgt := 14) hx hb dX9_least_4 (by decide) (fun c_4 => ?_) (fun c_4 => ?_)
  · replace h := (if_pos c_4).symm.trans h
    refine lv_iconst (v := -1) hx hb dX9_least_14 (by decide) ?_
    obtain ⟨rfl, rfl, rfl, rfl, rfl, rfl, rfl, rfl, rfl, rfl, rfl, rfl, rfl, rfl, rfl, rfl, rfl, rfl, rfl, rfl, rfl, rfl, rfl, rfl, rfl⟩ := oi25 h
    exact hret d_a _ _ _ _ _ _ _ dX9_least_15 rfl rfl hP hD hS (Nat.zero_le _) (Nat.zero_le _)
  · replace h := (if_neg c_4).symm.trans h
    refine lv_iload_n hx hb dX9_least_7 rfl (lv_at hl 2 rfl) ?_
    obtain ⟨r_8, hc_8, h⟩ := ob1_e h
    refine k_si (va_runS (As := [.int v2]) (rest := []) ⟨hx, hb, hml, hown, hts⟩ (c_X9_isNumber l G    v2 r_8 hc_8) (va_cwS 1 hts gX9_least_X9_isNumber rfl rfl rfl eX9_isNumber ⟨Nat.le_of_ble_eq_true rfl, Nat.le_of_ble_eq_true rfl⟩) (preSS hK (fun k q h => by cases h)) rfl rfl hl.1 rfl (lv_room (Nat.le_of_ble_eq_true rfl)) dX9_least_8 ⟨Nat.le_of_ble_eq_true rfl, by show 0 + 0 ≤ ms1 + ms2; omega⟩) ?_
    refine lv_if_ne (tgt := 16) hx hb dX9_least_11 (by decide) (fun c_11 => ?_) (fun c_11 => ?_)
    · replace h := (if_neg c_11).symm.trans h
      refine lv_aload_n hx hb dX9_least_16 rfl (lv_at hl 0 rfl) ?_
      refine lv_iload_n hx hb dX9_least_17 rfl (lv_at hl 1 rfl) ?_
      obtain ⟨r_18, hc_18, h⟩ := ob1_e h
      refine k_si (va_runV (As := [.int v1]) (rest := []) ⟨hx, hb, hml, hown, hts⟩ (c_X9_isThere l G z_h z_q z_fh z_hr z_hl z_hk z_he z_ht r_q l_hd k_hp e_hs e_q s_q t_q d_q d_a p_q f_q r_goes r_told e_steps e_yes s_sets s_slots s_count t_ways t_freshWays t_leastTo t_waiting d_rm d_stateOf d_kindOf d_order d_rooms d_count d_next d_says d_note d_sort d_freshSort p_table p_turn p_count f_next f_says f_size  v1 r_18 hc_18) (cwV 1 hts gX9_least_X9_isThere rfl rfl rfl ⟨rfl, eX9_isThere⟩ ⟨Nat.le_of_ble_eq_true rfl, Nat.le_of_ble_eq_true rfl⟩) (preSV (ci := 9) (q0 := 0) hK hP rfl rfl) rfl rfl hl.1 rfl (lv_room (Nat.le_of_ble_eq_true rfl)) dX9_least_18 ⟨Nat.le_of_ble_eq_true rfl, by show 0 + 0 ≤ ms1 + ms2; omega⟩) ?_
      refine lv_if_ne (tgt := 27) hx hb dX9_least_21 (by decide) (fun c_21 => ?_) (fun c_21 => ?_)
      · replace h := (if_neg c_21).symm.trans h
        refine lv_iload_n hx hb dX9_least_27 rfl (lv_at hl 2 rfl) ?_
        obtain ⟨j0_28, hT28, h⟩ := ob1_e h
        have hJ28 : ∀ (j0_28x : Int32)  (H : Heap) (locs : List Loc) (ls : Array Slot), some j0_28x = some j0_28 → va_P G.1 vwCl ((WX G z_h z_q z_fh z_hr z_hl z_hk z_he z_ht r_q l_hd k_hp e_hs e_q s_q t_q d_q d_a p_q r_goes r_told e_steps e_yes s_sets s_slots s_count t_ways t_freshWays t_leastTo t_waiting d_rm d_stateOf d_kindOf d_order d_rooms d_count d_next d_says d_note d_sort d_freshSort p_table p_turn p_count) ++ (WF G z_fh f_q f_next f_says f_size)) H → va_D A ((WX G z_h z_q z_fh z_hr z_hl z_hk z_he z_ht r_q l_hd k_hp e_hs e_q s_q t_q d_q d_a p_q r_goes r_told e_steps e_yes s_sets s_slots s_count t_ways t_freshWays t_leastTo t_waiting d_rm d_stateOf d_kindOf d_order d_rooms d_count d_next d_says d_note d_sort d_freshSort p_table p_turn p_count) ++ (WF G z_fh f_q f_next f_says f_size)) → va_S A s.heap H locs → lv_has ls 7 [(0, .ref z_h), (1, .int v1), (2, .int v2)] → W p l e (rX9_least ms1 ms2) s m args below meth c H locs 0 0 Q (F0 m 36 ls [.int j0_28x]) := by
          intro j0_28x H locs ls hq hP hD hS hl
          obtain rfl := oi1 hq
          refine lv_istore_n (lv' := [(3, .int j0_28), (0, .ref z_h), (1, .int v1), (2, .int v2)]) hx hb dX9_least_36 rfl hl (by decide) rfl (fun ls hl => ?_)
          refine lv_iconst (v := 3) hx hb dX9_least_37 (by decide) ?_
          refine lv_iload_n hx hb dX9_least_38 rfl (lv_at hl 3 rfl) ?_
          refine lv_isub hx hb dX9_least_39 ?_
          refine lv_iload_n hx hb dX9_least_40 rfl (lv_at hl 0 rfl) ?_
          refine lv_isub hx hb dX9_least_41 ?_
          refine lv_istore (lv' := [(4, .int (((3 : Int32) - v2) - j0_28)), (3, .int j0_28), (0, .ref z_h), (1, .int v1), (2, .int v2)]) hx hb dX9_least_42 hl (by decide) rfl (fun ls hl => ?_)
          refine lv_aload_n hx hb dX9_least_44 rfl (lv_at hl 2 rfl) ?_
          refine va_get (D := G.1) (ci := 9) (v := .ref z_he) (C := RX9) (T := TX9) (N := 7) hx hb hts hinX9 hown hK.1 hP 0 rfl rfl 5 (by decide) hf58 (fun _ h9 => h9) rfl dX9_least_45 ?_
          refine lv_aload_n hx hb dX9_least_48 rfl (lv_at hl 2 rfl) ?_
          refine va_get (D := G.1) (ci := 9) (v := .ref (z_fh 6)) (C := RX9) (T := TX9) (N := 7) hx hb hts hinX9 hown hK.1 hP 0 rfl rfl 2 (by decide) hf25 (fun _ h9 => h9) rfl dX9_least_49 ?_
          refine lv_aload_n hx hb dX9_least_52 rfl (lv_at hl 2 rfl) ?_
          refine va_get (D := G.1) (ci := 9) (v := .ref z_q) (C := RX9) (T := TX9) (N := 7) hx hb hts hinX9 hown hK.1 hP 0 rfl rfl 1 (by decide) hf20 (fun _ h9 => h9) rfl dX9_least_53 ?_
          refine lv_iload_n hx hb dX9_least_56 rfl (lv_at hl 3 rfl) ?_
          obtain ⟨g_57, h⟩ := gi_e h
          refine va_aldq hx hb hK.1 hP 1 3 rfl rfl g_57 dX9_least_57 ?_
          refine W.eq (g2 := F0 m 58 ls [.ref (z_fh (v1.toNatClampNeg)), .ref (z_fh 6), .ref z_he]) rfl ?_
          refine lv_iload_n hx hb dX9_least_58 rfl (lv_at hl 1 rfl) ?_
          refine lv_iconst (v := 0) hx hb dX9_least_59 (by decide) ?_
          obtain ⟨r_60, e_steps_60, e_yes_60, s_sets_60, s_slots_60, s_count_60, d_rm_60, d_stateOf_60, d_kindOf_60, d_order_60, d_rooms_60, d_count_60, d_next_60, d_says_60, d_note_60, d_sort_60, d_freshSort_60, p_table_60, p_turn_60, p_count_60, f_next_60, f_says_60, f_size_60, hc_60, h⟩ := ob23_e h
          refine k_ci (wr := [(z_h, .inr (9, [.ref z_hr, .ref z_q, .ref (z_fh 6), .ref z_hl, .ref z_hk, .ref z_he, .ref z_ht])), (z_q, .inl (G.2 3, 6, .inr (.inr (.inr (.inr (fun i => some (z_fh i))))))), (z_hr, .inr (5, [.ref (r_q 0), .ref (r_q 1)])), (r_q 0, .inl (G.2 0, 10, .inl r_goes)), (r_q 1, .inl (G.2 0, 5, .inl r_told)), (z_hl, .inr (4, [.ref (l_hd)])), (z_hk, .inr (2, [.ref (l_hd), .ref (k_hp)])), (z_ht, .inr (8, [.ref (t_q 0), .ref (t_q 1), .ref (t_q 2), .ref (t_q 3)])), (t_q 0, .inl (G.2 2, 60, .inr (.inl t_ways))), (t_q 1, .inl (G.2 2, 60, .inr (.inl t_freshWays))), (t_q 2, .inl (G.2 2, 60, .inr (.inl t_leastTo))), (t_q 3, .inl (G.2 0, 60, .inl t_waiting))]) (va_runV (As := [.ref (z_fh 6), .ref (z_fh (v1.toNatClampNeg)), .int j0_28, .int (0 : Int32)]) (rest := []) ⟨hx, hb, hml, hown, hts⟩ (c_X6_say l G n z_he l_hd e_hs e_q s_q k_hp d_q d_a p_q z_fh f_q e_steps e_yes s_sets s_slots s_count d_rm d_stateOf d_kindOf d_order d_rooms d_count d_next d_says d_note d_sort d_freshSort p_table p_turn p_count f_next f_says f_size 6 (by decide) (v1.toNatClampNeg) (in6 g_57) j0_28 (0 : Int32) rmx1 ms1 hms1 _ r_60 e_steps_60 e_yes_60 s_sets_60 s_slots_60 s_count_60 d_rm_60 d_stateOf_60 d_kindOf_60 d_order_60 d_rooms_60 d_count_60 d_next_60 d_says_60 d_note_60 d_sort_60 d_freshSort_60 p_table_60 p_turn_60 p_count_60 f_next_60 f_says_60 f_size_60 hc_60) (cwV 4 hts gX9_least_X6_say rfl rfl rfl ⟨rfl, eX6_say⟩ ⟨Nat.le_of_ble_eq_true rfl, Nat.le_of_ble_eq_true rfl⟩) (preWV (ci := 6) (q0 := 0) hK (hP.sub (ws' := (WE G z_he l_hd e_hs e_q e_steps e_yes) ++ (WS G e_hs s_q s_sets s_slots s_count) ++ (WD G l_hd k_hp d_q d_a d_rm d_stateOf d_kindOf d_order d_rooms d_count d_next d_says d_note d_sort d_freshSort) ++ (WP G k_hp p_q p_table p_turn p_count) ++ (WF G z_fh f_q f_next f_says f_size)) [7, 8, 9, 10, 11, 17, 18, 19, 20, 21, 22, 23, 24, 25, 26, 27, 28, 29, 30, 31, 32, 33, 34, 35, 36, 37, 38, 39, 40, 41, 42, 43, 44, 45, 46, 47, 48] rfl) (hD.sub (ws' := (WE G z_he l_hd e_hs e_q e_steps e_yes) ++ (WS G e_hs s_q s_sets s_slots s_count) ++ (WD G l_hd k_hp d_q d_a d_rm d_stateOf d_kindOf d_order d_rooms d_count d_next d_says d_note d_sort d_freshSort) ++ (WP G k_hp p_q p_table p_turn p_count) ++ (WF G z_fh f_q f_next f_says f_size)) [7, 8, 9, 10, 11, 17, 18, 19, 20, 21, 22, 23, 24, 25, 26, 27, 28, 29, 30, 31, 32, 33, 34, 35, 36, 37, 38, 39, 40, 41, 42, 43, 44, 45, 46, 47, 48] (by decide) rfl) rfl rfl) rfl rfl hl.1 rfl (lv_room (Nat.le_of_ble_eq_true rfl)) dX9_least_60 ⟨Nat.le_of_ble_eq_true rfl, by show 0 + (ms1) ≤ ms1 + ms2; omega⟩) hP hD hS hA [7, 8, 9, 10, 11, 17, 18, 19, 20, 21, 22, 23, 24, 25, 26, 27, 28, 29, 30, 31, 32, 33, 34, 35, 36, 37, 38, 39, 40, 41, 42, 43, 44, 45, 46, 47, 48] [0, 1, 2, 3, 4, 5, 6, 12, 13, 14, 15, 16] rfl rfl (by decide) (by decide) (fun u_60 H locs hP hD hS => ?_)
          have hP := hP.sub (ws' := (WX G z_h z_q z_fh z_hr z_hl z_hk z_he z_ht r_q l_hd k_hp e_hs e_q s_q t_q d_q u_60 p_q r_goes r_told e_steps_60 e_yes_60 s_sets_60 s_slots_60 s_count_60 t_ways t_freshWays t_leastTo t_waiting d_rm_60 d_stateOf_60 d_kindOf_60 d_order_60 d_rooms_60 d_count_60 d_next_60 d_says_60 d_note_60 d_sort_60 d_freshSort_60 p_table_60 p_turn_60 p_count_60) ++ (WF G z_fh f_q f_next_60 f_says_60 f_size_60)) [0, 1, 2, 3, 4, 5, 6, 12, 13, 14, 15, 16, 7, 8, 9, 10, 11, 17, 18, 19, 20, 21, 22, 23, 24, 25, 26, 27, 28, 29, 30, 31, 32, 33, 34, 35, 36, 37, 38, 39, 40, 41, 42, 43, 44, 45, 46, 47, 48] rfl
          have hD := hD.sub (ws' := (WX G z_h z_q z_fh z_hr z_hl z_hk z_he z_ht r_q l_hd k_hp e_hs e_q s_q t_q d_q u_60 p_q r_goes r_told e_steps_60 e_yes_60 s_sets_60 s_slots_60 s_count_60 t_ways t_freshWays t_leastTo t_waiting d_rm_60 d_stateOf_60 d_kindOf_60 d_order_60 d_rooms_60 d_count_60 d_next_60 d_says_60 d_note_60 d_sort_60 d_freshSort_60 p_table_60 p_turn_60 p_count_60) ++ (WF G z_fh f_q f_next_60 f_says_60 f_size_60)) [0, 1, 2, 3, 4, 5, 6, 12, 13, 14, 15, 16, 7, 8, 9, 10, 11, 17, 18, 19, 20, 21, 22, 23, 24, 25, 26, 27, 28, 29, 30, 31, 32, 33, 34, 35, 36, 37, 38, 39, 40, 41, 42, 43, 44, 45, 46, 47, 48] (by decide) rfl
          refine lv_bipush (v := -6) hx hb dX9_least_63 (by decide) ?_
          refine lv_icmp_ne (tgt := 71) hx hb dX9_least_65 (by decide) (fun c_65 => ?_) (fun c_65 => ?_)
          · replace h := (if_neg c_65).symm.trans h
            refine lv_aload_n hx hb dX9_least_71 rfl (lv_at hl 2 rfl) ?_
            refine va_get (D := G.1) (ci := 9) (v := .ref z_he) (C := RX9) (T := TX9) (N := 7) hx hb hts hinX9 hown hK.1 hP 0 rfl rfl 5 (by decide) hf58 (fun _ h9 => h9) rfl dX9_least_72 ?_
            refine lv_aload_n hx hb dX9_least_75 rfl (lv_at hl 2 rfl) ?_
            refine va_get (D := G.1) (ci := 9) (v := .ref (z_fh 6)) (C := RX9) (T := TX9) (N := 7) hx hb hts hinX9 hown hK.1 hP 0 rfl rfl 2 (by decide) hf25 (fun _ h9 => h9) rfl dX9_least_76 ?_
            refine lv_aload_n hx hb dX9_least_79 rfl (lv_at hl 2 rfl) ?_
            refine va_get (D := G.1) (ci := 9) (v := .ref (z_fh 6)) (C := RX9) (T := TX9) (N := 7) hx hb hts hinX9 hown hK.1 hP 0 rfl rfl 2 (by decide) hf25 (fun _ h9 => h9) rfl dX9_least_80 ?_
            refine lv_iload hx hb dX9_least_83 (lv_at hl 0 rfl) ?_
            refine lv_iconst (v := 0) hx hb dX9_least_85 (by decide) ?_
            obtain ⟨gq_86, h⟩ := gq_e h
            obtain ⟨r_86, e_steps_86, e_yes_86, s_sets_86, s_slots_86, s_count_86, d_rm_86, d_stateOf_86, d_kindOf_86, d_order_86, d_rooms_86, d_count_86, d_next_86, d_says_86, d_note_86, d_sort_86, d_freshSort_86, p_table_86, p_turn_86, p_count_86, f_next_86, f_says_86, f_size_86, hc_86, h⟩ := ob23_e h
            refine k_ci (wr := [(z_h, .inr (9, [.ref z_hr, .ref z_q, .ref (z_fh 6), .ref z_hl, .ref z_hk, .ref z_he, .ref z_ht])), (z_q, .inl (G.2 3, 6, .inr (.inr (.inr (.inr (fun i => some (z_fh i))))))), (z_hr, .inr (5, [.ref (r_q 0), .ref (r_q 1)])), (r_q 0, .inl (G.2 0, 10, .inl r_goes)), (r_q 1, .inl (G.2 0, 5, .inl r_told)), (z_hl, .inr (4, [.ref (l_hd)])), (z_hk, .inr (2, [.ref (l_hd), .ref (k_hp)])), (z_ht, .inr (8, [.ref (t_q 0), .ref (t_q 1), .ref (t_q 2), .ref (t_q 3)])), (t_q 0, .inl (G.2 2, 60, .inr (.inl t_ways))), (t_q 1, .inl (G.2 2, 60, .inr (.inl t_freshWays))), (t_q 2, .inl (G.2 2, 60, .inr (.inl t_leastTo))), (t_q 3, .inl (G.2 0, 60, .inl t_waiting))]) (va_runV (As := [.ref (z_fh 6), .ref (z_fh 6), .int (((3 : Int32) - v2) - j0_28), .int (0 : Int32)]) (rest := []) ⟨hx, hb, hml, hown, hts⟩ (c_X6_say l G n z_he l_hd e_hs e_q s_q k_hp d_q u_60 p_q z_fh f_q e_steps_60 e_yes_60 s_sets_60 s_slots_60 s_count_60 d_rm_60 d_stateOf_60 d_kindOf_60 d_order_60 d_rooms_60 d_count_60 d_next_60 d_says_60 d_note_60 d_sort_60 d_freshSort_60 p_table_60 p_turn_60 p_count_60 f_next_60 f_says_60 f_size_60 6 (by decide) 6 (by decide) (((3 : Int32) - v2) - j0_28) (0 : Int32) rmx2 ms2 (by rw [gq_86]; exact hms2) _ r_86 e_steps_86 e_yes_86 s_sets_86 s_slots_86 s_count_86 d_rm_86 d_stateOf_86 d_kindOf_86 d_order_86 d_rooms_86 d_count_86 d_next_86 d_says_86 d_note_86 d_sort_86 d_freshSort_86 p_table_86 p_turn_86 p_count_86 f_next_86 f_says_86 f_size_86 hc_86) (cwV 4 hts gX9_least_X6_say rfl rfl rfl ⟨rfl, eX6_say⟩ ⟨Nat.le_of_ble_eq_true rfl, Nat.le_of_ble_eq_true rfl⟩) (preWV (ci := 6) (q0 := 0) hK (hP.sub (ws' := (WE G z_he l_hd e_hs e_q e_steps_60 e_yes_60) ++ (WS G e_hs s_q s_sets_60 s_slots_60 s_count_60) ++ (WD G l_hd k_hp d_q u_60 d_rm_60 d_stateOf_60 d_kindOf_60 d_order_60 d_rooms_60 d_count_60 d_next_60 d_says_60 d_note_60 d_sort_60 d_freshSort_60) ++ (WP G k_hp p_q p_table_60 p_turn_60 p_count_60) ++ (WF G z_fh f_q f_next_60 f_says_60 f_size_60)) [7, 8, 9, 10, 11, 17, 18, 19, 20, 21, 22, 23, 24, 25, 26, 27, 28, 29, 30, 31, 32, 33, 34, 35, 36, 37, 38, 39, 40, 41, 42, 43, 44, 45, 46, 47, 48] rfl) (hD.sub (ws' := (WE G z_he l_hd e_hs e_q e_steps_60 e_yes_60) ++ (WS G e_hs s_q s_sets_60 s_slots_60 s_count_60) ++ (WD G l_hd k_hp d_q u_60 d_rm_60 d_stateOf_60 d_kindOf_60 d_order_60 d_rooms_60 d_count_60 d_next_60 d_says_60 d_note_60 d_sort_60 d_freshSort_60) ++ (WP G k_hp p_q p_table_60 p_turn_60 p_count_60) ++ (WF G z_fh f_q f_next_60 f_says_60 f_size_60)) [7, 8, 9, 10, 11, 17, 18, 19, 20, 21, 22, 23, 24, 25, 26, 27, 28, 29, 30, 31, 32, 33, 34, 35, 36, 37, 38, 39, 40, 41, 42, 43, 44, 45, 46, 47, 48] (by decide) rfl) rfl rfl) rfl rfl hl.1 rfl (lv_room (Nat.le_of_ble_eq_true rfl)) dX9_least_86 ⟨Nat.le_of_ble_eq_true rfl, by show 0 + (ms1) + (ms2) ≤ ms1 + ms2; omega⟩) hP hD hS hA [7, 8, 9, 10, 11, 17, 18, 19, 20, 21, 22, 23, 24, 25, 26, 27, 28, 29, 30, 31, 32, 33, 34, 35, 36, 37, 38, 39, 40, 41, 42, 43, 44, 45, 46, 47, 48] [0, 1, 2, 3, 4, 5, 6, 12, 13, 14, 15, 16] rfl rfl (by decide) (by decide) (fun u_86 H locs hP hD hS => ?_)
            have hP := hP.sub (ws' := (WX G z_h z_q z_fh z_hr z_hl z_hk z_he z_ht r_q l_hd k_hp e_hs e_q s_q t_q d_q u_86 p_q r_goes r_told e_steps_86 e_yes_86 s_sets_86 s_slots_86 s_count_86 t_ways t_freshWays t_leastTo t_waiting d_rm_86 d_stateOf_86 d_kindOf_86 d_order_86 d_rooms_86 d_count_86 d_next_86 d_says_86 d_note_86 d_sort_86 d_freshSort_86 p_table_86 p_turn_86 p_count_86) ++ (WF G z_fh f_q f_next_86 f_says_86 f_size_86)) [0, 1, 2, 3, 4, 5, 6, 12, 13, 14, 15, 16, 7, 8, 9, 10, 11, 17, 18, 19, 20, 21, 22, 23, 24, 25, 26, 27, 28, 29, 30, 31, 32, 33, 34, 35, 36, 37, 38, 39, 40, 41, 42, 43, 44, 45, 46, 47, 48] rfl
            have hD := hD.sub (ws' := (WX G z_h z_q z_fh z_hr z_hl z_hk z_he z_ht r_q l_hd k_hp e_hs e_q s_q t_q d_q u_86 p_q r_goes r_told e_steps_86 e_yes_86 s_sets_86 s_slots_86 s_count_86 t_ways t_freshWays t_leastTo t_waiting d_rm_86 d_stateOf_86 d_kindOf_86 d_order_86 d_rooms_86 d_count_86 d_next_86 d_says_86 d_note_86 d_sort_86 d_freshSort_86 p_table_86 p_turn_86 p_count_86) ++ (WF G z_fh f_q f_next_86 f_says_86 f_size_86)) [0, 1, 2, 3, 4, 5, 6, 12, 13, 14, 15, 16, 7, 8, 9, 10, 11, 17, 18, 19, 20, 21, 22, 23, 24, 25, 26, 27, 28, 29, 30, 31, 32, 33, 34, 35, 36, 37, 38, 39, 40, 41, 42, 43, 44, 45, 46, 47, 48] (by decide) rfl
            refine lv_bipush (v := -6) hx hb dX9_least_89 (by decide) ?_
            refine lv_icmp_ne (tgt := 97) hx hb dX9_least_91 (by decide) (fun c_91 => ?_) (fun c_91 => ?_)
            · replace h := (if_neg c_91).symm.trans h
              refine lv_aload_n hx hb dX9_least_97 rfl (lv_at hl 2 rfl) ?_
              refine va_get (D := G.1) (ci := 9) (v := .ref z_ht) (C := RX9) (T := TX9) (N := 7) hx hb hts hinX9 hown hK.1 hP 0 rfl rfl 6 (by decide) hf65 (fun _ h9 => h9) rfl dX9_least_98 ?_
              refine lv_aload_n hx hb dX9_least_101 rfl (lv_at hl 2 rfl) ?_
              refine va_get (D := G.1) (ci := 9) (v := .ref (z_fh 6)) (C := RX9) (T := TX9) (N := 7) hx hb hts hinX9 hown hK.1 hP 0 rfl rfl 2 (by decide) hf25 (fun _ h9 => h9) rfl dX9_least_102 ?_
              refine lv_iload_n hx hb dX9_least_105 rfl (lv_at hl 4 rfl) ?_
              obtain ⟨r_106, t_leastTo_106, t_waiting_106, hc_106, h⟩ := ob3_e h
              refine k_cl (wr := [(z_h, .inr (9, [.ref z_hr, .ref z_q, .ref (z_fh 6), .ref z_hl, .ref z_hk, .ref z_he, .ref z_ht])), (z_q, .inl (G.2 3, 6, .inr (.inr (.inr (.inr (fun i => some (z_fh i))))))), (z_hr, .inr (5, [.ref (r_q 0), .ref (r_q 1)])), (r_q 0, .inl (G.2 0, 10, .inl r_goes)), (r_q 1, .inl (G.2 0, 5, .inl r_told)), (z_hl, .inr (4, [.ref (l_hd)])), (z_hk, .inr (2, [.ref (l_hd), .ref (k_hp)])), (z_he, .inr (6, [.ref (l_hd), .ref (e_hs), .ref (e_q 0), .long e_yes_86])), (e_q 0, .inl (G.2 2, 480, .inr (.inl e_steps_86))), (e_hs, .inr (7, [.ref (s_q 0), .ref (s_q 1), .int s_count_86])), (s_q 0, .inl (G.2 2, 300, .inr (.inl s_sets_86))), (s_q 1, .inl (G.2 0, 1024, .inl s_slots_86)), (l_hd, .inr (1, [.ref (k_hp), .ref (d_q 0), .ref (d_q 1), .ref (d_q 2), .int d_rooms_86, .int d_count_86, .ref (u_86 0), .ref (u_86 1), .ref (u_86 2), .ref (u_86 3), .ref (u_86 4)])), (d_q 0, .inl (G.2 0, 60, .inl d_stateOf_86)), (d_q 1, .inl (G.2 0, 60, .inl d_kindOf_86)), (d_q 2, .inl (G.2 0, 60, .inl d_order_86)), (u_86 0, .inl (G.2 0, 8 * d_rm_86, .inl d_next_86)), (u_86 1, .inl (G.2 1, d_rm_86, .inl d_says_86)), (u_86 2, .inl (G.2 0, d_rm_86, .inl d_note_86)), (u_86 3, .inl (G.2 0, d_rm_86, .inl d_sort_86)), (u_86 4, .inl (G.2 0, d_rm_86, .inl d_freshSort_86)), (k_hp, .inr (3, [.ref (p_q 0), .int p_turn_86, .int p_count_86])), (p_q 0, .inl (G.2 0, 4096, .inl p_table_86))]) (va_runV (As := [.ref (z_fh 6), .int v2]) (rest := []) ⟨hx, hb, hml, hown, hts⟩ (c_X8_leastOf l G n z_ht t_q z_fh f_q t_ways t_freshWays t_leastTo t_waiting f_next_86 f_says_86 f_size_86 6 (by decide) v2 _ r_106 t_leastTo_106 t_waiting_106 hc_106) (cwV 2 hts gX9_least_X8_leastOf rfl rfl rfl ⟨rfl, eX8_leastOf⟩ ⟨Nat.le_of_ble_eq_true rfl, Nat.le_of_ble_eq_true rfl⟩) (preWV (ci := 8) (q0 := 0) hK (hP.sub (ws' := (WT G z_ht t_q t_ways t_freshWays t_leastTo t_waiting) ++ (WF G z_fh f_q f_next_86 f_says_86 f_size_86)) [12, 13, 14, 15, 16, 28, 29, 30, 31, 32, 33, 34, 35, 36, 37, 38, 39, 40, 41, 42, 43, 44, 45, 46, 47, 48] rfl) (hD.sub (ws' := (WT G z_ht t_q t_ways t_freshWays t_leastTo t_waiting) ++ (WF G z_fh f_q f_next_86 f_says_86 f_size_86)) [12, 13, 14, 15, 16, 28, 29, 30, 31, 32, 33, 34, 35, 36, 37, 38, 39, 40, 41, 42, 43, 44, 45, 46, 47, 48] (by decide) rfl) rfl rfl) rfl rfl hl.1 rfl (lv_room (Nat.le_of_ble_eq_true rfl)) dX9_least_106 ⟨Nat.le_of_ble_eq_true rfl, by show 0 + (ms1) + (ms2) + 0 ≤ ms1 + ms2; omega⟩) hP hD hS hA [12, 13, 14, 15, 16, 28, 29, 30, 31, 32, 33, 34, 35, 36, 37, 38, 39, 40, 41, 42, 43, 44, 45, 46, 47, 48] [0, 1, 2, 3, 4, 5, 6, 7, 8, 9, 10, 11, 17, 18, 19, 20, 21, 22, 23, 24, 25, 26, 27] rfl rfl (by decide) (by decide) (fun u_106 H locs hP hD hS => ?_)
              have hP := hP.sub (ws' := (WX G z_h z_q z_fh z_hr z_hl z_hk z_he z_ht r_q l_hd k_hp e_hs e_q s_q t_q d_q u_86 p_q r_goes r_told e_steps_86 e_yes_86 s_sets_86 s_slots_86 s_count_86 t_ways t_freshWays t_leastTo_106 t_waiting_106 d_rm_86 d_stateOf_86 d_kindOf_86 d_order_86 d_rooms_86 d_count_86 d_next_86 d_says_86 d_note_86 d_sort_86 d_freshSort_86 p_table_86 p_turn_86 p_count_86) ++ (WF G z_fh f_q f_next_86 f_says_86 f_size_86)) [0, 1, 2, 3, 4, 5, 6, 7, 8, 9, 10, 11, 23, 24, 25, 26, 27, 12, 13, 14, 15, 16, 17, 18, 19, 20, 21, 22, 28, 29, 30, 31, 32, 33, 34, 35, 36, 37, 38, 39, 40, 41, 42, 43, 44, 45, 46, 47, 48] rfl
              have hD := hD.sub (ws' := (WX G z_h z_q z_fh z_hr z_hl z_hk z_he z_ht r_q l_hd k_hp e_hs e_q s_q t_q d_q u_86 p_q r_goes r_told e_steps_86 e_yes_86 s_sets_86 s_slots_86 s_count_86 t_ways t_freshWays t_leastTo_106 t_waiting_106 d_rm_86 d_stateOf_86 d_kindOf_86 d_order_86 d_rooms_86 d_count_86 d_next_86 d_says_86 d_note_86 d_sort_86 d_freshSort_86 p_table_86 p_turn_86 p_count_86) ++ (WF G z_fh f_q f_next_86 f_says_86 f_size_86)) [0, 1, 2, 3, 4, 5, 6, 7, 8, 9, 10, 11, 23, 24, 25, 26, 27, 12, 13, 14, 15, 16, 17, 18, 19, 20, 21, 22, 28, 29, 30, 31, 32, 33, 34, 35, 36, 37, 38, 39, 40, 41, 42, 43, 44, 45, 46, 47, 48] (by decide) rfl
              refine lv_lstore (lv' := [(5, .long r_106), (4, .int (((3 : Int32) - v2) - j0_28)), (3, .int j0_28), (0, .ref z_h), (1, .int v1), (2, .int v2)]) hx hb dX9_least_109 hl (by decide) rfl (fun ls hl => ?_)
              refine lv_lload hx hb dX9_least_111 (lv_at hl 0 rfl) ?_
              refine lv_ldc2 (v := 1000000000) hx hb hown (hts (.constantLong RX9 171 (1000000000)) (by decide +kernel)) dX9_least_113 ?_
              refine W.lcmp hx hb dX9_least_116 ?_
              refine lv_if_le (tgt := 125) hx hb dX9_least_117 (by decide) (fun c_117 => ?_) (fun c_117 => ?_)
              · replace h := (if_pos c_117).symm.trans h
                refine lv_lload hx hb dX9_least_125 (lv_at hl 0 rfl) ?_
                refine lv_l2i (v := r_106.toInt32) hx hb dX9_least_127 rfl ?_
                obtain ⟨rfl, rfl, rfl, rfl, rfl, rfl, rfl, rfl, rfl, rfl, rfl, rfl, rfl, rfl, rfl, rfl, rfl, rfl, rfl, rfl, rfl, rfl, rfl, rfl, rfl⟩ := oi25 h
                exact hret u_86 _ _ _ _ _ _ _ dX9_least_128 rfl rfl hP hD hS (Nat.le_of_ble_eq_true rfl) (by show 0 + (ms1) + (ms2) ≤ ms1 + ms2; omega)
              · replace h := (if_neg c_117).symm.trans h
                refine lv_bipush (v := -5) hx hb dX9_least_120 (by decide) ?_
                refine lv_goto (tgt := 128) hx hb dX9_least_122 (by decide) ?_
                obtain ⟨rfl, rfl, rfl, rfl, rfl, rfl, rfl, rfl, rfl, rfl, rfl, rfl, rfl, rfl, rfl, rfl, rfl, rfl, rfl, rfl, rfl, rfl, rfl, rfl, rfl⟩ := oi25 h
                exact hret u_86 _ _ _ _ _ _ _ dX9_least_128 rfl rfl hP hD hS (Nat.le_of_ble_eq_true rfl) (by show 0 + (ms1) + (ms2) ≤ ms1 + ms2; omega)
            · replace h := (if_pos c_91).symm.trans h
              refine lv_bipush (v := -6) hx hb dX9_least_94 (by decide) ?_
              obtain ⟨rfl, rfl, rfl, rfl, rfl, rfl, rfl, rfl, rfl, rfl, rfl, rfl, rfl, rfl, rfl, rfl, rfl, rfl, rfl, rfl, rfl, rfl, rfl, rfl, rfl⟩ := oi25 h
              exact hret u_86 _ _ _ _ _ _ _ dX9_least_96 rfl rfl hP hD hS (Nat.le_of_ble_eq_true rfl) (by show 0 + (ms1) + (ms2) ≤ ms1 + ms2; omega)
          · replace h := (if_pos c_65).symm.trans h
            refine lv_bipush (v := -6) hx hb dX9_least_68 (by decide) ?_
            obtain ⟨rfl, rfl, rfl, rfl, rfl, rfl, rfl, rfl, rfl, rfl, rfl, rfl, rfl, rfl, rfl, rfl, rfl, rfl, rfl, rfl, rfl, rfl, rfl, rfl, rfl⟩ := oi25 h
            exact hret u_60 _ _ _ _ _ _ _ dX9_least_70 rfl rfl hP hD hS (Nat.le_of_ble_eq_true rfl) (by show 0 + (ms1) ≤ ms1 + ms2; omega)
        replace h := hT28
        refine lv_if_ne (tgt := 35) hx hb dX9_least_28 (by decide) (fun c_28 => ?_) (fun c_28 => ?_)
        · replace h := (if_neg c_28).symm.trans h
          refine lv_iconst (v := 0) hx hb dX9_least_35 (by decide) ?_
          exact hJ28 _  _ _ _ h hP hD hS (lv_sub hl [0, 1, 2] rfl)
        · replace h := (if_pos c_28).symm.trans h
          refine lv_iconst (v := 1) hx hb dX9_least_31 (by decide) ?_
          refine lv_goto (tgt := 36) hx hb dX9_least_32 (by decide) ?_
          exact hJ28 _  _ _ _ h hP hD hS (lv_sub hl [0, 1, 2] rfl)
      · replace h := (if_pos c_21).symm.trans h
        refine lv_bipush (v := -3) hx hb dX9_least_24 (by decide) ?_
        obtain ⟨rfl, rfl, rfl, rfl, rfl, rfl, rfl, rfl, rfl, rfl, rfl, rfl, rfl, rfl, rfl, rfl, rfl, rfl, rfl, rfl, rfl, rfl, rfl, rfl, rfl⟩ := oi25 h
        exact hret d_a _ _ _ _ _ _ _ dX9_least_26 rfl rfl hP hD hS (Nat.zero_le _) (Nat.zero_le _)
    · replace h := (if_pos c_11).symm.trans h
      refine lv_iconst (v := -1) hx hb dX9_least_14 (by decide) ?_
      obtain ⟨rfl, rfl, rfl, rfl, rfl, rfl, rfl, rfl, rfl, rfl, rfl, rfl, rfl, rfl, rfl, rfl, rfl, rfl, rfl, rfl, rfl, rfl, rfl, rfl, rfl⟩ := oi25 h
      exact hret d_a _ _ _ _ _ _ _ dX9_least_15 rfl rfl hP hD hS (Nat.zero_le _) (Nat.zero_le _)
abbrev rX9_same : Room := { frames := 2, cells := 0, slots := 0, locals := 41 }
set_option maxHeartbeats 4000000 in
set_option maxRecDepth 100000 in
theorem c_X9_same (l : Launch) (G : GG) (n : Nat) (z_h : Nat) (z_q : Nat) (z_fh : Nat → Nat) (z_hr : Nat) (z_hl : Nat) (z_hk : Nat) (z_he : Nat) (z_ht : Nat) (r_q : Nat → Nat) (l_hd : Nat) (k_hp : Nat) (e_hs : Nat) (e_q : Nat → Nat) (s_q : Nat → Nat) (t_q : Nat → Nat) (d_q : Nat → Nat) (d_a : Nat → Nat) (p_q : Nat → Nat) (f_q : Nat → Nat → Nat) (r_goes : AI) (r_told : AI) (e_steps : AL) (e_yes : Int64) (s_sets : AL) (s_slots : AI) (s_count : Int32) (t_ways : AL) (t_freshWays : AL) (t_leastTo : AL) (t_waiting : AI) (d_rm : Nat) (d_stateOf : AI) (d_kindOf : AI) (d_order : AI) (d_rooms : Int32) (d_count : Int32) (d_next : AI) (d_says : AI) (d_note : AI) (d_sort : AI) (d_freshSort : AI) (p_table : AI) (p_turn : Int32) (p_count : Int32) (f_next : AF) (f_says : AF) (f_size : AI)  (v1 : Int32) (v2 : Int32) (r : Int32) (h : p_X9_same n f_next f_says f_size v1 v2 = some r) : SI l yX9_same wsX9_same rX9_same G [.ref z_h, .int v1, .int v2] ((WX G z_h z_q z_fh z_hr z_hl z_hk z_he z_ht r_q l_hd k_hp e_hs e_q s_q t_q d_q d_a p_q r_goes r_told e_steps e_yes s_sets s_slots s_count t_ways t_freshWays t_leastTo t_waiting d_rm d_stateOf d_kindOf d_order d_rooms d_count d_next d_says d_note d_sort d_freshSort p_table p_turn p_count) ++ (WF G z_fh f_q f_next f_says f_size)) r := by
  refine enterSI (cc := cX9_same) (maxL := 3) (by decide) rfl (Nat.le_of_ble_eq_true rfl) ?_
  intro p e s m args below meth c Q hx hb hml hown hts hK hP hret ls hl
  have hown : s.vm.findClass RX9 = some m.cls := hown
  have hf20 := hts (.fieldLink RX9 20 "DigitClaims" "claims" "[LDigitClaims$Claim;") (by decide +kernel)
  have hinX9 : ∀ w ∈ wsX90, w ∈ wsX9_same := by decide +kernel
  have hl : lv_has ls 3 [(0, .ref z_h), (1, .int v1), (2, .int v2)] := hl
  unfold p_X9_same at h
  refine lv_iload_n hx hb dX9_same_0 rfl (lv_at hl 1 rfl) ?_
  obtain ⟨r_1, hc_1, h⟩ := ob1_e h
  refine k_si (va_runS (As := [.int v1]) (rest := []) ⟨hx, hb, hml, hown, hts⟩ (c_X9_isClaim l G    v1 r_1 hc_1) (va_cwS 1 hts gX9_same_X9_isClaim rfl rfl rfl eX9_isClaim ⟨Nat.le_of_ble_eq_true rfl, Nat.le_of_ble_eq_true rfl⟩) (preSS hK (fun k q h => by cases h)) rfl rfl hl.1 rfl (lv_room (Nat.le_of_ble_eq_true rfl)) dX9_same_1 ⟨Nat.le_of_ble_eq_true rfl, Nat.le_of_ble_eq_true rfl⟩) ?_
  refine lv_if_eq (tgt := 14) hx hb dX9_same_4 (by decide) (fun c_4 => ?_) (fun c_4 => ?_)
  · replace h := (if_pos c_4).symm.trans h
    refine lv_iconst (v := -1) hx hb dX9_same_14 (by decide) ?_
    obtain rfl := oi1 h
    exact hret _ _ _ dX9_same_15 rfl rfl
  · replace h := (if_neg c_4).symm.trans h
    refine lv_iload_n hx hb dX9_same_7 rfl (lv_at hl 2 rfl) ?_
    obtain ⟨r_8, hc_8, h⟩ := ob1_e h
    refine k_si (va_runS (As := [.int v2]) (rest := []) ⟨hx, hb, hml, hown, hts⟩ (c_X9_isClaim l G    v2 r_8 hc_8) (va_cwS 1 hts gX9_same_X9_isClaim rfl rfl rfl eX9_isClaim ⟨Nat.le_of_ble_eq_true rfl, Nat.le_of_ble_eq_true rfl⟩) (preSS hK (fun k q h => by cases h)) rfl rfl hl.1 rfl (lv_room (Nat.le_of_ble_eq_true rfl)) dX9_same_8 ⟨Nat.le_of_ble_eq_true rfl, Nat.le_of_ble_eq_true rfl⟩) ?_
    refine lv_if_ne (tgt := 16) hx hb dX9_same_11 (by decide) (fun c_11 => ?_) (fun c_11 => ?_)
    · replace h := (if_neg c_11).symm.trans h
      refine lv_aload_n hx hb dX9_same_16 rfl (lv_at hl 0 rfl) ?_
      refine lv_iload_n hx hb dX9_same_17 rfl (lv_at hl 1 rfl) ?_
      obtain ⟨r_18, hc_18, h⟩ := ob1_e h
      refine k_si (va_runV (As := [.int v1]) (rest := []) ⟨hx, hb, hml, hown, hts⟩ (c_X9_isThere l G z_h z_q z_fh z_hr z_hl z_hk z_he z_ht r_q l_hd k_hp e_hs e_q s_q t_q d_q d_a p_q f_q r_goes r_told e_steps e_yes s_sets s_slots s_count t_ways t_freshWays t_leastTo t_waiting d_rm d_stateOf d_kindOf d_order d_rooms d_count d_next d_says d_note d_sort d_freshSort p_table p_turn p_count f_next f_says f_size  v1 r_18 hc_18) (cwV 1 hts gX9_same_X9_isThere rfl rfl rfl ⟨rfl, eX9_isThere⟩ ⟨Nat.le_of_ble_eq_true rfl, Nat.le_of_ble_eq_true rfl⟩) (preSV (ci := 9) (q0 := 0) hK hP rfl rfl) rfl rfl hl.1 rfl (lv_room (Nat.le_of_ble_eq_true rfl)) dX9_same_18 ⟨Nat.le_of_ble_eq_true rfl, Nat.le_of_ble_eq_true rfl⟩) ?_
      refine lv_if_eq (tgt := 32) hx hb dX9_same_21 (by decide) (fun c_21 => ?_) (fun c_21 => ?_)
      · replace h := (if_pos c_21).symm.trans h
        refine lv_bipush (v := -3) hx hb dX9_same_32 (by decide) ?_
        obtain rfl := oi1 h
        exact hret _ _ _ dX9_same_34 rfl rfl
      · replace h := (if_neg c_21).symm.trans h
        refine lv_aload_n hx hb dX9_same_24 rfl (lv_at hl 0 rfl) ?_
        refine lv_iload_n hx hb dX9_same_25 rfl (lv_at hl 2 rfl) ?_
        obtain ⟨r_26, hc_26, h⟩ := ob1_e h
        refine k_si (va_runV (As := [.int v2]) (rest := []) ⟨hx, hb, hml, hown, hts⟩ (c_X9_isThere l G z_h z_q z_fh z_hr z_hl z_hk z_he z_ht r_q l_hd k_hp e_hs e_q s_q t_q d_q d_a p_q f_q r_goes r_told e_steps e_yes s_sets s_slots s_count t_ways t_freshWays t_leastTo t_waiting d_rm d_stateOf d_kindOf d_order d_rooms d_count d_next d_says d_note d_sort d_freshSort p_table p_turn p_count f_next f_says f_size  v2 r_26 hc_26) (cwV 1 hts gX9_same_X9_isThere rfl rfl rfl ⟨rfl, eX9_isThere⟩ ⟨Nat.le_of_ble_eq_true rfl, Nat.le_of_ble_eq_true rfl⟩) (preSV (ci := 9) (q0 := 0) hK hP rfl rfl) rfl rfl hl.1 rfl (lv_room (Nat.le_of_ble_eq_true rfl)) dX9_same_26 ⟨Nat.le_of_ble_eq_true rfl, Nat.le_of_ble_eq_true rfl⟩) ?_
        refine lv_if_ne (tgt := 35) hx hb dX9_same_29 (by decide) (fun c_29 => ?_) (fun c_29 => ?_)
        · replace h := (if_neg c_29).symm.trans h
          refine lv_aload_n hx hb dX9_same_35 rfl (lv_at hl 0 rfl) ?_
          refine va_get (D := G.1) (ci := 9) (v := .ref z_q) (C := RX9) (T := TX9) (N := 7) hx hb hts hinX9 hown hK.1 hP 0 rfl rfl 1 (by decide) hf20 (fun _ h9 => h9) rfl dX9_same_36 ?_
          refine lv_iload_n hx hb dX9_same_39 rfl (lv_at hl 1 rfl) ?_
          obtain ⟨g_40, h⟩ := gi_e h
          refine va_aldq hx hb hK.1 hP 1 3 rfl rfl g_40 dX9_same_40 ?_
          refine W.eq (g2 := F0 m 41 ls [.ref (z_fh (v1.toNatClampNeg))]) rfl ?_
          refine lv_aload_n hx hb dX9_same_41 rfl (lv_at hl 0 rfl) ?_
          refine va_get (D := G.1) (ci := 9) (v := .ref z_q) (C := RX9) (T := TX9) (N := 7) hx hb hts hinX9 hown hK.1 hP 0 rfl rfl 1 (by decide) hf20 (fun _ h9 => h9) rfl dX9_same_42 ?_
          refine lv_iload_n hx hb dX9_same_45 rfl (lv_at hl 2 rfl) ?_
          obtain ⟨g_46, h⟩ := gi_e h
          refine va_aldq hx hb hK.1 hP 1 3 rfl rfl g_46 dX9_same_46 ?_
          refine W.eq (g2 := F0 m 47 ls [.ref (z_fh (v2.toNatClampNeg)), .ref (z_fh (v1.toNatClampNeg))]) rfl ?_
          obtain ⟨r_47, hc_47, h⟩ := ob1_e h
          refine k_si (va_runV (As := [.ref (z_fh (v2.toNatClampNeg))]) (rest := []) ⟨hx, hb, hml, hown, hts⟩ (c_X0_isAsOther l G n z_fh f_q f_next f_says f_size (v1.toNatClampNeg) (in6 g_40) (v2.toNatClampNeg) (in6 g_46)  r_47 hc_47) (cwV 1 hts gX9_same_X0_isAsOther rfl rfl rfl ⟨rfl, eX0_isAsOther⟩ ⟨Nat.le_of_ble_eq_true rfl, Nat.le_of_ble_eq_true rfl⟩) (preSV (ci := 0) (q0 := 3 * (v1.toNatClampNeg)) hK (hP.sub (ws' := WF G z_fh f_q f_next f_says f_size) [28, 29, 30, 31, 32, 33, 34, 35, 36, 37, 38, 39, 40, 41, 42, 43, 44, 45, 46, 47, 48] rfl) rfl (famO (in6 g_40))) rfl rfl hl.1 rfl (lv_room (Nat.le_of_ble_eq_true rfl)) dX9_same_47 ⟨Nat.le_of_ble_eq_true rfl, Nat.le_of_ble_eq_true rfl⟩) ?_
          refine lv_if_eq (tgt := 57) hx hb dX9_same_50 (by decide) (fun c_50 => ?_) (fun c_50 => ?_)
          · replace h := (if_pos c_50).symm.trans h
            refine lv_iconst (v := 0) hx hb dX9_same_57 (by decide) ?_
            obtain rfl := oi1 h
            exact hret _ _ _ dX9_same_58 rfl rfl
          · replace h := (if_neg c_50).symm.trans h
            refine lv_iconst (v := 1) hx hb dX9_same_53 (by decide) ?_
            refine lv_goto (tgt := 58) hx hb dX9_same_54 (by decide) ?_
            obtain rfl := oi1 h
            exact hret _ _ _ dX9_same_58 rfl rfl
        · replace h := (if_pos c_29).symm.trans h
          refine lv_bipush (v := -3) hx hb dX9_same_32 (by decide) ?_
          obtain rfl := oi1 h
          exact hret _ _ _ dX9_same_34 rfl rfl
    · replace h := (if_pos c_11).symm.trans h
      refine lv_iconst (v := -1) hx hb dX9_same_14 (by decide) ?_
      obtain rfl := oi1 h
      exact hret _ _ _ dX9_same_15 rfl rfl
abbrev rX9_drop : Room := { frames := 2, cells := 0, slots := 0, locals := 42 }
set_option maxHeartbeats 4000000 in
set_option maxRecDepth 100000 in
theorem c_X9_drop (l : Launch) (G : GG) (z_h : Nat) (z_q : Nat) (z_fh : Nat → Nat) (z_hr : Nat) (z_hl : Nat) (z_hk : Nat) (z_he : Nat) (z_ht : Nat) (r_q : Nat → Nat) (l_hd : Nat) (k_hp : Nat) (e_hs : Nat) (e_q : Nat → Nat) (s_q : Nat → Nat) (t_q : Nat → Nat) (d_q : Nat → Nat) (d_a : Nat → Nat) (p_q : Nat → Nat) (f_q : Nat → Nat → Nat) (r_goes : AI) (r_told : AI) (e_steps : AL) (e_yes : Int64) (s_sets : AL) (s_slots : AI) (s_count : Int32) (t_ways : AL) (t_freshWays : AL) (t_leastTo : AL) (t_waiting : AI) (d_rm : Nat) (d_stateOf : AI) (d_kindOf : AI) (d_order : AI) (d_rooms : Int32) (d_count : Int32) (d_next : AI) (d_says : AI) (d_note : AI) (d_sort : AI) (d_freshSort : AI) (p_table : AI) (p_turn : Int32) (p_count : Int32) (f_next : AF) (f_says : AF) (f_size : AI)  (v1 : Int32) (sz : Nat) (r : Int32) (f_size_z : AI) (h : p_X9_drop f_size v1 = some (r, f_size_z)) : CI l yX9_drop wsX9_drop rX9_drop G [.ref z_h, .int v1] ((WX G z_h z_q z_fh z_hr z_hl z_hk z_he z_ht r_q l_hd k_hp e_hs e_q s_q t_q d_q d_a p_q r_goes r_told e_steps e_yes s_sets s_slots s_count t_ways t_freshWays t_leastTo t_waiting d_rm d_stateOf d_kindOf d_order d_rooms d_count d_next d_says d_note d_sort d_freshSort p_table p_turn p_count) ++ (WF G z_fh f_q f_next f_says f_size)) sz r (fun u => (WX G z_h z_q z_fh z_hr z_hl z_hk z_he z_ht r_q l_hd k_hp e_hs e_q s_q t_q d_q d_a p_q r_goes r_told e_steps e_yes s_sets s_slots s_count t_ways t_freshWays t_leastTo t_waiting d_rm d_stateOf d_kindOf d_order d_rooms d_count d_next d_says d_note d_sort d_freshSort p_table p_turn p_count) ++ (WF G z_fh f_q f_next f_says f_size_z)) := by
  refine enterCI (cc := cX9_drop) (maxL := 3) (by decide) rfl (Nat.le_of_ble_eq_true rfl) ?_
  intro p e s m args below meth c A Q hx hb hml hown hts hK hP hD hS hA hret ls hl
  have hown : s.vm.findClass RX9 = some m.cls := hown
  have hf20 := hts (.fieldLink RX9 20 "DigitClaims" "claims" "[LDigitClaims$Claim;") (by decide +kernel)
  have hinX9 : ∀ w ∈ wsX90, w ∈ wsX9_drop := by decide +kernel
  have hl : lv_has ls 3 [(0, .ref z_h), (1, .int v1)] := hl
  unfold p_X9_drop at h
  refine lv_iload_n hx hb dX9_drop_0 rfl (lv_at hl 1 rfl) ?_
  obtain ⟨r_1, hc_1, h⟩ := ob1_e h
  refine k_si (va_runS (As := [.int v1]) (rest := []) ⟨hx, hb, hml, hown, hts⟩ (c_X9_isClaim l G    v1 r_1 hc_1) (va_cwS 1 hts gX9_drop_X9_isClaim rfl rfl rfl eX9_isClaim ⟨Nat.le_of_ble_eq_true rfl, Nat.le_of_ble_eq_true rfl⟩) (preSS hK (fun k q h => by cases h)) rfl rfl hl.1 rfl (lv_room (Nat.le_of_ble_eq_true rfl)) dX9_drop_1 ⟨Nat.le_of_ble_eq_true rfl, Nat.le_of_ble_eq_true rfl⟩) ?_
  refine lv_if_ne (tgt := 9) hx hb dX9_drop_4 (by decide) (fun c_4 => ?_) (fun c_4 => ?_)
  · replace h := (if_neg c_4).symm.trans h
    refine lv_aload_n hx hb dX9_drop_9 rfl (lv_at hl 0 rfl) ?_
    refine lv_iload_n hx hb dX9_drop_10 rfl (lv_at hl 1 rfl) ?_
    obtain ⟨r_11, hc_11, h⟩ := ob1_e h
    refine k_si (va_runV (As := [.int v1]) (rest := []) ⟨hx, hb, hml, hown, hts⟩ (c_X9_isThere l G z_h z_q z_fh z_hr z_hl z_hk z_he z_ht r_q l_hd k_hp e_hs e_q s_q t_q d_q d_a p_q f_q r_goes r_told e_steps e_yes s_sets s_slots s_count t_ways t_freshWays t_leastTo t_waiting d_rm d_stateOf d_kindOf d_order d_rooms d_count d_next d_says d_note d_sort d_freshSort p_table p_turn p_count f_next f_says f_size  v1 r_11 hc_11) (cwV 1 hts gX9_drop_X9_isThere rfl rfl rfl ⟨rfl, eX9_isThere⟩ ⟨Nat.le_of_ble_eq_true rfl, Nat.le_of_ble_eq_true rfl⟩) (preSV (ci := 9) (q0 := 0) hK hP rfl rfl) rfl rfl hl.1 rfl (lv_room (Nat.le_of_ble_eq_true rfl)) dX9_drop_11 ⟨Nat.le_of_ble_eq_true rfl, Nat.le_of_ble_eq_true rfl⟩) ?_
    refine lv_if_ne (tgt := 20) hx hb dX9_drop_14 (by decide) (fun c_14 => ?_) (fun c_14 => ?_)
    · replace h := (if_neg c_14).symm.trans h
      refine lv_aload_n hx hb dX9_drop_20 rfl (lv_at hl 0 rfl) ?_
      refine va_get (D := G.1) (ci := 9) (v := .ref z_q) (C := RX9) (T := TX9) (N := 7) hx hb hts hinX9 hown hK.1 hP 0 rfl rfl 1 (by decide) hf20 (fun _ h9 => h9) rfl dX9_drop_21 ?_
      refine lv_iload_n hx hb dX9_drop_24 rfl (lv_at hl 1 rfl) ?_
      obtain ⟨g_25, h⟩ := gi_e h
      refine va_aldq hx hb hK.1 hP 1 3 rfl rfl g_25 dX9_drop_25 ?_
      refine W.eq (g2 := F0 m 26 ls [.ref (z_fh (v1.toNatClampNeg))]) rfl ?_
      obtain ⟨r_26, hc_26, h⟩ := ob1_e h
      refine k_si (va_runV (As := []) (rest := []) ⟨hx, hb, hml, hown, hts⟩ (c_X0_size l G (z_fh (v1.toNatClampNeg)) (f_q (v1.toNatClampNeg)) (f_next (v1.toNatClampNeg)) (f_says (v1.toNatClampNeg)) (f_size (v1.toNatClampNeg))   r_26 hc_26) (cwV 0 hts gX9_drop_X0_size rfl rfl rfl ⟨rfl, eX0_size⟩ ⟨Nat.le_of_ble_eq_true rfl, Nat.le_of_ble_eq_true rfl⟩) (preSV (ci := 0) (q0 := 0) hK (famC hP.right (v1.toNatClampNeg) (in6 g_25)) rfl rfl) rfl rfl hl.1 rfl (lv_room (Nat.le_of_ble_eq_true rfl)) dX9_drop_26 ⟨Nat.le_of_ble_eq_true rfl, Nat.le_of_ble_eq_true rfl⟩) ?_
      refine lv_istore_n (lv' := [(2, .int r_26), (0, .ref z_h), (1, .int v1)]) hx hb dX9_drop_29 rfl hl (by decide) rfl (fun ls hl => ?_)
      refine lv_aload_n hx hb dX9_drop_30 rfl (lv_at hl 1 rfl) ?_
      refine va_get (D := G.1) (ci := 9) (v := .ref z_q) (C := RX9) (T := TX9) (N := 7) hx hb hts hinX9 hown hK.1 hP 0 rfl rfl 1 (by decide) hf20 (fun _ h9 => h9) rfl dX9_drop_31 ?_
      refine lv_iload_n hx hb dX9_drop_34 rfl (lv_at hl 2 rfl) ?_
      obtain ⟨g_35, h⟩ := gi_e h
      refine va_aldq hx hb hK.1 hP 1 3 rfl rfl g_35 dX9_drop_35 ?_
      refine W.eq (g2 := F0 m 36 ls [.ref (z_fh (v1.toNatClampNeg))]) rfl ?_
      refine lv_iconst (v := 0) hx hb dX9_drop_36 (by decide) ?_
      obtain ⟨y_size_37, hc_37, h⟩ := ob1_e h
      refine k_cvF (X := WX G z_h z_q z_fh z_hr z_hl z_hk z_he z_ht r_q l_hd k_hp e_hs e_q s_q t_q d_q d_a p_q r_goes r_told e_steps e_yes s_sets s_slots s_count t_ways t_freshWays t_leastTo t_waiting d_rm d_stateOf d_kindOf d_order d_rooms d_count d_next d_says d_note d_sort d_freshSort p_table p_turn p_count) (Xc := ([] : va_W)) (wr := [(z_h, .inr (9, [.ref z_hr, .ref z_q, .ref (z_fh 6), .ref z_hl, .ref z_hk, .ref z_he, .ref z_ht])), (z_q, .inl (G.2 3, 6, .inr (.inr (.inr (.inr (fun i => some (z_fh i))))))), (z_hr, .inr (5, [.ref (r_q 0), .ref (r_q 1)])), (r_q 0, .inl (G.2 0, 10, .inl r_goes)), (r_q 1, .inl (G.2 0, 5, .inl r_told)), (z_hl, .inr (4, [.ref (l_hd)])), (z_hk, .inr (2, [.ref (l_hd), .ref (k_hp)])), (z_he, .inr (6, [.ref (l_hd), .ref (e_hs), .ref (e_q 0), .long e_yes])), (e_q 0, .inl (G.2 2, 480, .inr (.inl e_steps))), (e_hs, .inr (7, [.ref (s_q 0), .ref (s_q 1), .int s_count])), (s_q 0, .inl (G.2 2, 300, .inr (.inl s_sets))), (s_q 1, .inl (G.2 0, 1024, .inl s_slots)), (z_ht, .inr (8, [.ref (t_q 0), .ref (t_q 1), .ref (t_q 2), .ref (t_q 3)])), (t_q 0, .inl (G.2 2, 60, .inr (.inl t_ways))), (t_q 1, .inl (G.2 2, 60, .inr (.inl t_freshWays))), (t_q 2, .inl (G.2 2, 60, .inr (.inl t_leastTo))), (t_q 3, .inl (G.2 0, 60, .inl t_waiting)), (l_hd, .inr (1, [.ref (k_hp), .ref (d_q 0), .ref (d_q 1), .ref (d_q 2), .int d_rooms, .int d_count, .ref (d_a 0), .ref (d_a 1), .ref (d_a 2), .ref (d_a 3), .ref (d_a 4)])), (d_q 0, .inl (G.2 0, 60, .inl d_stateOf)), (d_q 1, .inl (G.2 0, 60, .inl d_kindOf)), (d_q 2, .inl (G.2 0, 60, .inl d_order)), (d_a 0, .inl (G.2 0, 8 * d_rm, .inl d_next)), (d_a 1, .inl (G.2 1, d_rm, .inl d_says)), (d_a 2, .inl (G.2 0, d_rm, .inl d_note)), (d_a 3, .inl (G.2 0, d_rm, .inl d_sort)), (d_a 4, .inl (G.2 0, d_rm, .inl d_freshSort)), (k_hp, .inr (3, [.ref (p_q 0), .int p_turn, .int p_count])), (p_q 0, .inl (G.2 0, 4096, .inl p_table))]) (x1 := fun u => ([] : va_W)) (fh := z_fh) (fq := f_q) (fn := f_next) (fs := f_says) (fz := f_size) (k := (v1.toNatClampNeg)) (nx := (f_next (v1.toNatClampNeg))) (sy := (f_says (v1.toNatClampNeg))) (sz := y_size_37) (in6 g_35) (va_runV (As := [.int (0 : Int32)]) (rest := []) ⟨hx, hb, hml, hown, hts⟩ (c_X0_begin l G (z_fh (v1.toNatClampNeg)) (f_q (v1.toNatClampNeg)) (f_next (v1.toNatClampNeg)) (f_says (v1.toNatClampNeg)) (f_size (v1.toNatClampNeg))  (0 : Int32) _ y_size_37 hc_37) (cwV 1 hts gX9_drop_X0_begin rfl rfl rfl ⟨rfl, eX0_begin⟩ ⟨Nat.le_of_ble_eq_true rfl, Nat.le_of_ble_eq_true rfl⟩) (preWVF (X := WX G z_h z_q z_fh z_hr z_hl z_hk z_he z_ht r_q l_hd k_hp e_hs e_q s_q t_q d_q d_a p_q r_goes r_told e_steps e_yes s_sets s_slots s_count t_ways t_freshWays t_leastTo t_waiting d_rm d_stateOf d_kindOf d_order d_rooms d_count d_next d_says d_note d_sort d_freshSort p_table p_turn p_count) (Xc := ([] : va_W)) (ci := 0) (q0 := 0) hK hP hD (in6 g_35) [28, 29, 30] rfl (by decide) rfl rfl) rfl rfl hl.1 rfl (lv_room (Nat.le_of_ble_eq_true rfl)) dX9_drop_37 ⟨Nat.le_of_ble_eq_true rfl, Nat.le_of_ble_eq_true rfl⟩) hP hD hS hA [28, 29, 30] [0, 1, 2, 3, 4, 5, 6, 7, 8, 9, 10, 11, 12, 13, 14, 15, 16, 17, 18, 19, 20, 21, 22, 23, 24, 25, 26, 27] rfl rfl (by decide) (by decide) (fun u_37 H locs hP hD hS => ?_)
      simp only [va_upid] at hP hD
      have hP := hP.part (cx := WX G z_h z_q z_fh z_hr z_hl z_hk z_he z_ht r_q l_hd k_hp e_hs e_q s_q t_q d_q d_a p_q r_goes r_told e_steps e_yes s_sets s_slots s_count t_ways t_freshWays t_leastTo t_waiting d_rm d_stateOf d_kindOf d_order d_rooms d_count d_next d_says d_note d_sort d_freshSort p_table p_turn p_count) [0, 1, 2, 3, 4, 5, 6, 7, 8, 9, 10, 11, 12, 13, 14, 15, 16, 17, 18, 19, 20, 21, 22, 23, 24, 25, 26, 27] rfl
      have hD := hD.part (cx := WX G z_h z_q z_fh z_hr z_hl z_hk z_he z_ht r_q l_hd k_hp e_hs e_q s_q t_q d_q d_a p_q r_goes r_told e_steps e_yes s_sets s_slots s_count t_ways t_freshWays t_leastTo t_waiting d_rm d_stateOf d_kindOf d_order d_rooms d_count d_next d_says d_note d_sort d_freshSort p_table p_turn p_count) [0, 1, 2, 3, 4, 5, 6, 7, 8, 9, 10, 11, 12, 13, 14, 15, 16, 17, 18, 19, 20, 21, 22, 23, 24, 25, 26, 27] (by decide) rfl
      have hP : va_P G.1 vwCl ((WX G z_h z_q z_fh z_hr z_hl z_hk z_he z_ht r_q l_hd k_hp e_hs e_q s_q t_q d_q d_a p_q r_goes r_told e_steps e_yes s_sets s_slots s_count t_ways t_freshWays t_leastTo t_waiting d_rm d_stateOf d_kindOf d_order d_rooms d_count d_next d_says d_note d_sort d_freshSort p_table p_turn p_count) ++ (WF G z_fh f_q f_next f_says (va_up f_size (v1.toNatClampNeg) y_size_37))) H := hP
      have hD : va_D A ((WX G z_h z_q z_fh z_hr z_hl z_hk z_he z_ht r_q l_hd k_hp e_hs e_q s_q t_q d_q d_a p_q r_goes r_told e_steps e_yes s_sets s_slots s_count t_ways t_freshWays t_leastTo t_waiting d_rm d_stateOf d_kindOf d_order d_rooms d_count d_next d_says d_note d_sort d_freshSort p_table p_turn p_count) ++ (WF G z_fh f_q f_next f_says (va_up f_size (v1.toNatClampNeg) y_size_37))) := hD
      refine lv_iload_n hx hb dX9_drop_40 rfl (lv_at hl 0 rfl) ?_
      obtain ⟨rfl, rfl⟩ := oi2 h
      exact hret (fun _ => 0) _ _ _ _ _ _ _ dX9_drop_41 rfl rfl hP hD hS (Nat.le_of_ble_eq_true rfl) (Nat.le_of_ble_eq_true rfl)
    · replace h := (if_pos c_14).symm.trans h
      refine lv_bipush (v := -3) hx hb dX9_drop_17 (by decide) ?_
      obtain ⟨rfl, rfl⟩ := oi2 h
      exact hret (fun _ => 0) _ _ _ _ _ _ _ dX9_drop_19 rfl rfl hP hD hS (Nat.le_of_ble_eq_true rfl) (Nat.le_of_ble_eq_true rfl)
  · replace h := (if_pos c_4).symm.trans h
    refine lv_iconst (v := -1) hx hb dX9_drop_7 (by decide) ?_
    obtain ⟨rfl, rfl⟩ := oi2 h
    exact hret (fun _ => 0) _ _ _ _ _ _ _ dX9_drop_8 rfl rfl hP hD hS (Nat.le_of_ble_eq_true rfl) (Nat.le_of_ble_eq_true rfl)
abbrev rX9_many : Room := { frames := 2, cells := 0, slots := 0, locals := 41 }
set_option maxHeartbeats 4000000 in
set_option maxRecDepth 100000 in
theorem c_X9_many (l : Launch) (G : GG) (n : Nat) (z_h : Nat) (z_q : Nat) (z_fh : Nat → Nat) (z_hr : Nat) (z_hl : Nat) (z_hk : Nat) (z_he : Nat) (z_ht : Nat) (r_q : Nat → Nat) (l_hd : Nat) (k_hp : Nat) (e_hs : Nat) (e_q : Nat → Nat) (s_q : Nat → Nat) (t_q : Nat → Nat) (d_q : Nat → Nat) (d_a : Nat → Nat) (p_q : Nat → Nat) (f_q : Nat → Nat → Nat) (r_goes : AI) (r_told : AI) (e_steps : AL) (e_yes : Int64) (s_sets : AL) (s_slots : AI) (s_count : Int32) (t_ways : AL) (t_freshWays : AL) (t_leastTo : AL) (t_waiting : AI) (d_rm : Nat) (d_stateOf : AI) (d_kindOf : AI) (d_order : AI) (d_rooms : Int32) (d_count : Int32) (d_next : AI) (d_says : AI) (d_note : AI) (d_sort : AI) (d_freshSort : AI) (p_table : AI) (p_turn : Int32) (p_count : Int32) (f_next : AF) (f_says : AF) (f_size : AI)  (v1 : Int32) (r : Int32) (h : p_X9_many n f_size v1 = some r) : SI l yX9_many wsX9_many rX9_many G [.ref z_h, .int v1] ((WX G z_h z_q z_fh z_hr z_hl z_hk z_he z_ht r_q l_hd k_hp e_hs e_q s_q t_q d_q d_a p_q r_goes r_told e_steps e_yes s_sets s_slots s_count t_ways t_freshWays t_leastTo t_waiting d_rm d_stateOf d_kindOf d_order d_rooms d_count d_next d_says d_note d_sort d_freshSort p_table p_turn p_count) ++ (WF G z_fh f_q f_next f_says f_size)) r := by
  refine enterSI (cc := cX9_many) (maxL := 4) (by decide) rfl (Nat.le_of_ble_eq_true rfl) ?_
  intro p e s m args below meth c Q hx hb hml hown hts hK hP hret ls hl
  have hown : s.vm.findClass RX9 = some m.cls := hown
  have hf20 := hts (.fieldLink RX9 20 "DigitClaims" "claims" "[LDigitClaims$Claim;") (by decide +kernel)
  have hinX9 : ∀ w ∈ wsX90, w ∈ wsX9_many := by decide +kernel
  have hl : lv_has ls 4 [(0, .ref z_h), (1, .int v1)] := hl
  unfold p_X9_many at h
  refine lv_iload_n hx hb dX9_many_0 rfl (lv_at hl 1 rfl) ?_
  refine lv_if_lt (tgt := 9) hx hb dX9_many_1 (by decide) (fun c_1 => ?_) (fun c_1 => ?_)
  · replace h := (if_pos c_1).symm.trans h
    refine lv_bipush (v := -2) hx hb dX9_many_9 (by decide) ?_
    obtain rfl := oi1 h
    exact hret _ _ _ dX9_many_11 rfl rfl
  · replace h := (if_neg c_1).symm.trans h
    refine lv_iload_n hx hb dX9_many_4 rfl (lv_at hl 1 rfl) ?_
    refine lv_iconst (v := 1) hx hb dX9_many_5 (by decide) ?_
    refine lv_icmp_le (tgt := 12) hx hb dX9_many_6 (by decide) (fun c_6 => ?_) (fun c_6 => ?_)
    · replace h := (if_pos c_6).symm.trans h
      refine lv_iconst (v := 0) hx hb dX9_many_12 (by decide) ?_
      refine lv_istore_n (lv' := [(2, .int (0 : Int32)), (0, .ref z_h), (1, .int v1)]) hx hb dX9_many_13 rfl hl (by decide) rfl (fun ls hl => ?_)
      refine lv_iconst (v := 0) hx hb dX9_many_14 (by decide) ?_
      refine lv_istore_n (lv' := [(3, .int (0 : Int32)), (2, .int (0 : Int32)), (0, .ref z_h), (1, .int v1)]) hx hb dX9_many_15 rfl hl (by decide) rfl (fun ls hl => ?_)
      obtain ⟨o2_16, hT16, h⟩ := ob1_e h
      have hX16 : ∀ (x2_16 : Int32)  (ls : Array Slot), some x2_16 = some o2_16 → lv_has ls 4 [(2, .int x2_16)] → W p l e rX9_many s m args below meth c s.heap [] 0 0 Q (F0 m 59 ls []) := by
        intro x2_16 ls hq hl
        obtain rfl := oi1 hq
        refine lv_iload_n hx hb dX9_many_59 rfl (lv_at hl 0 rfl) ?_
        obtain rfl := oi1 h
        exact hret _ _ _ dX9_many_60 rfl rfl
      have hL16 : ∀ (f : Nat) (v2_16 : Int32) (v3_16 : Int32)  (ls : Array Slot), p_X9_many_L16 v1 f_size f v2_16 v3_16 = some o2_16 → lv_has ls 4 [(0, .ref z_h), (1, .int v1), (2, .int v2_16), (3, .int v3_16)] → W p l e rX9_many s m args below meth c s.heap [] 0 0 Q (F0 m 16 ls []) := by
        intro f
        induction f with
        | zero => intro v2_16 v3_16 ls h hl; cases (show none = some _ from h)
        | succ f ih =>
          intro v2_16 v3_16 ls h hl
          rw [p_X9_many_L16] at h
          refine lv_iload_n hx hb dX9_many_16 rfl (lv_at hl 3 rfl) ?_
          refine lv_bipush (v := 6) hx hb dX9_many_17 (by decide) ?_
          refine lv_icmp_ge (tgt := 59) hx hb dX9_many_19 (by decide) (fun c_19 => ?_) (fun c_19 => ?_)
          · replace h := (if_pos c_19).symm.trans h
            exact hX16 _  _ h (lv_sub hl [2] rfl)
          · replace h := (if_neg c_19).symm.trans h
            refine lv_iload_n hx hb dX9_many_22 rfl (lv_at hl 1 rfl) ?_
            refine lv_iconst (v := 1) hx hb dX9_many_23 (by decide) ?_
            obtain ⟨v2_j24, hT24, h⟩ := ob1_e h
            have hJ24 : ∀ (v2_j24x : Int32)  (ls : Array Slot), some v2_j24x = some v2_j24 → lv_has ls 4 [(0, .ref z_h), (1, .int v1), (2, .int v2_j24x), (3, .int v3_16)] → W p l e rX9_many s m args below meth c s.heap [] 0 0 Q (F0 m 53 ls []) := by
              intro v2_j24x ls hq hl
              obtain rfl := oi1 hq
              refine lv_iinc (v := (v3_16 + (1 : Int32))) (lv' := [(3, .int (v3_16 + (1 : Int32))), (0, .ref z_h), (1, .int v1), (2, .int v2_j24)]) hx hb dX9_many_53 hl (k := 3) rfl rfl (by decide) rfl (fun ls hl => ?_)
              refine lv_goto (tgt := 16) hx hb dX9_many_56 (by decide) ?_
              exact ih _ _  _ h (lv_sub hl [1, 2, 3, 0] rfl)
            replace h := hT24
            refine lv_icmp_ne (tgt := 42) hx hb dX9_many_24 (by decide) (fun c_24 => ?_) (fun c_24 => ?_)
            · replace h := (if_neg c_24).symm.trans h
              refine lv_aload_n hx hb dX9_many_42 rfl (lv_at hl 0 rfl) ?_
              refine lv_iload_n hx hb dX9_many_43 rfl (lv_at hl 3 rfl) ?_
              obtain ⟨r_44, hc_44, h⟩ := ob1_e h
              refine k_si (va_runV (As := [.int v3_16]) (rest := []) ⟨hx, hb, hml, hown, hts⟩ (c_X9_isThere l G z_h z_q z_fh z_hr z_hl z_hk z_he z_ht r_q l_hd k_hp e_hs e_q s_q t_q d_q d_a p_q f_q r_goes r_told e_steps e_yes s_sets s_slots s_count t_ways t_freshWays t_leastTo t_waiting d_rm d_stateOf d_kindOf d_order d_rooms d_count d_next d_says d_note d_sort d_freshSort p_table p_turn p_count f_next f_says f_size  v3_16 r_44 hc_44) (cwV 1 hts gX9_many_X9_isThere rfl rfl rfl ⟨rfl, eX9_isThere⟩ ⟨Nat.le_of_ble_eq_true rfl, Nat.le_of_ble_eq_true rfl⟩) (preSV (ci := 9) (q0 := 0) hK hP rfl rfl) rfl rfl hl.1 rfl (lv_room (Nat.le_of_ble_eq_true rfl)) dX9_many_44 ⟨Nat.le_of_ble_eq_true rfl, Nat.le_of_ble_eq_true rfl⟩) ?_
              refine lv_if_eq (tgt := 53) hx hb dX9_many_47 (by decide) (fun c_47 => ?_) (fun c_47 => ?_)
              · replace h := (if_pos c_47).symm.trans h
                exact hJ24 _  _ h (lv_sub hl [0, 1, 2, 3] rfl)
              · replace h := (if_neg c_47).symm.trans h
                refine lv_iinc (v := (v2_16 + (1 : Int32))) (lv' := [(2, .int (v2_16 + (1 : Int32))), (0, .ref z_h), (1, .int v1), (3, .int v3_16)]) hx hb dX9_many_50 hl (k := 2) rfl rfl (by decide) rfl (fun ls hl => ?_)
                exact hJ24 _  _ h (lv_sub hl [1, 2, 0, 3] rfl)
            · replace h := (if_pos c_24).symm.trans h
              refine lv_iload_n hx hb dX9_many_27 rfl (lv_at hl 2 rfl) ?_
              refine lv_aload_n hx hb dX9_many_28 rfl (lv_at hl 0 rfl) ?_
              refine va_get (D := G.1) (ci := 9) (v := .ref z_q) (C := RX9) (T := TX9) (N := 7) hx hb hts hinX9 hown hK.1 hP 0 rfl rfl 1 (by decide) hf20 (fun _ h9 => h9) rfl dX9_many_29 ?_
              refine lv_iload_n hx hb dX9_many_32 rfl (lv_at hl 3 rfl) ?_
              obtain ⟨g_33, h⟩ := gi_e h
              refine va_aldq hx hb hK.1 hP 1 3 rfl rfl g_33 dX9_many_33 ?_
              refine W.eq (g2 := F0 m 34 ls [.ref (z_fh (v3_16.toNatClampNeg)), .int v2_16]) rfl ?_
              obtain ⟨r_34, hc_34, h⟩ := ob1_e h
              refine k_si (va_runV (As := []) (rest := [.int v2_16]) ⟨hx, hb, hml, hown, hts⟩ (c_X0_size l G (z_fh (v3_16.toNatClampNeg)) (f_q (v3_16.toNatClampNeg)) (f_next (v3_16.toNatClampNeg)) (f_says (v3_16.toNatClampNeg)) (f_size (v3_16.toNatClampNeg))   r_34 hc_34) (cwV 0 hts gX9_many_X0_size rfl rfl rfl ⟨rfl, eX0_size⟩ ⟨Nat.le_of_ble_eq_true rfl, Nat.le_of_ble_eq_true rfl⟩) (preSV (ci := 0) (q0 := 0) hK (famC hP.right (v3_16.toNatClampNeg) (in6 g_33)) rfl rfl) rfl rfl hl.1 rfl (lv_room (Nat.le_of_ble_eq_true rfl)) dX9_many_34 ⟨Nat.le_of_ble_eq_true rfl, Nat.le_of_ble_eq_true rfl⟩) ?_
              refine lv_iadd hx hb dX9_many_37 ?_
              refine lv_istore_n (lv' := [(2, .int (v2_16 + r_34)), (0, .ref z_h), (1, .int v1), (3, .int v3_16)]) hx hb dX9_many_38 rfl hl (by decide) rfl (fun ls hl => ?_)
              refine lv_goto (tgt := 53) hx hb dX9_many_39 (by decide) ?_
              exact hJ24 _  _ h (lv_sub hl [1, 2, 0, 3] rfl)
      exact hL16 n _ _  _ hT16 (lv_sub hl [2, 3, 1, 0] rfl)
    · replace h := (if_neg c_6).symm.trans h
      refine lv_bipush (v := -2) hx hb dX9_many_9 (by decide) ?_
      obtain rfl := oi1 h
      exact hret _ _ _ dX9_many_11 rfl rfl
