set_option maxHeartbeats 8000000 in
set_option maxRecDepth 100000 in
theorem lc_is {p : Program} {l : Launch} {e : Env} {s : State} {m : MethodId} {below : List Frame} {meth : Method} {c : Code} {b L : Nat} {xs : Nat → Int32} {G : GG} {A : Nat → Prop} {Q : State → Prop} (C0 : lw_At p s m meth c b L xs) (hK : KN G s) (hA : ∀ q : Nat, s.heap.size ≤ q → A q) (hbA : ¬ A b) {z_h m_h d_rm : Nat} {H : Heap} {locs : List Loc} {cells slots : Nat} {x3 : Int32} {ls : Array Slot} (hI : LI G A z_h m_h d_rm H) (hS : va_S A s.heap H locs) (hl : lv_has ls 4 [(0, .ref b), (1, .ref z_h), (2, .ref m_h), (3, .int x3)]) (h1 : vp_in (x3 + 1) L) (h2 : vp_in (x3 + 2) L) (h3 : vp_in (x3 + 3) L) (h4 : vp_in (x3 + 4) L) (hcc : cells + 10 ≤ 600000) (hss : slots + 43200 ≤ room_1.slots)
    (kk : ∀ (rm1 : Nat) (H : Heap) (locs : List Loc), rl_gr d_rm rm1 → LI G A z_h m_h rm1 H → va_S A s.heap H locs → W p l e room_1 s m #[Value.ref b] below meth c H locs (cells + 10) (slots + lw_gr d_rm rm1) Q (F0 m 1010 ls [])) : W p l e room_1 s m #[Value.ref b] below meth c H locs cells slots Q (F0 m 378 ls []) := by
  obtain ⟨hx, hb, hr, hml, hown, hts0, hX, hbl, hlocks, hgv⟩ := id C0
  have hts : ∀ w ∈ wsL_law, w.before #[Value.ref b] s = true := fun w h => hts0 w (wsL_law_in w h)
  have hown : s.vm.findClass RL = some m.cls := hown
  obtain ⟨z_q, z_fh, z_hr, z_hl, z_hk, z_he, z_ht, r_q, l_hd, k_hp, e_hs, e_q, s_q, t_q, d_q, d_a, p_q, f_q, m_q, r_goes, r_told, e_steps, e_yes, s_sets, s_slots, s_count, t_ways, t_freshWays, t_leastTo, t_waiting, d_stateOf, d_kindOf, d_order, d_rooms, d_count, d_next, d_says, d_note, d_sort, d_freshSort, p_table, p_turn, p_count, f_next, f_says, f_size, m_onBy, m_toldBy, m_kindsOf, m_nextOf, m_holdsAt, m_made, m_standsFor, m_madeNext, m_madeHolds, m_stateFor, m_joined, m_joinedNow, m_firstIn, m_orderOf, m_classAt, m_sets, m_waysTo, m_waysThen, m_queue, m_leastTo, hrow, hcl, hd, hp, hP, hD⟩ := hI
  obtain ⟨o_r, o_rm, o_st, o_kd, o_od, o_rooms, o_dct, o_nx, o_sy, o_nt, o_so, o_fr, o_tb, o_tn, o_pct, o_fn, o_fs, o_fz, o_ko, o_nxo, o_ha, o_md, o_mn, o_mh, o_jd, o_jn, o_fi, o_oo, o_ca, h9, h10, hcl1, hd1, hp1, hgr⟩ := op_is (Nat.le_refl 5000) hd hp hcl d_stateOf d_kindOf d_order d_next d_says d_note d_sort d_freshSort d_count p_count m_made m_madeNext m_madeHolds m_joined m_joinedNow m_firstIn m_orderOf m_classAt (xs (x3 + 1).toNatClampNeg) (xs (x3 + 2).toNatClampNeg) (xs (x3 + 3).toNatClampNeg)
  have hgl := lw_gr_le (a := d_rm) hd1.2.2
  refine lv_aload_n hx hb dL_law_378 rfl (lv_at hl 1 rfl) ?_
  refine lv_aload_n hx hb dL_law_379 rfl (lv_at hl 0 rfl) ?_
  refine lv_iload_n hx hb dL_law_380 rfl (lv_at hl 3 rfl) ?_
  refine lv_iconst (v := 1) hx hb dL_law_381 (by decide) ?_
  refine lv_iadd hx hb dL_law_382 ?_
  refine va_sld hx hb hX hbl hbA hS h1 dL_law_383 ?_
  refine lv_aload_n hx hb dL_law_384 rfl (lv_at hl 0 rfl) ?_
  refine lv_iload_n hx hb dL_law_385 rfl (lv_at hl 3 rfl) ?_
  refine lv_iconst (v := 2) hx hb dL_law_386 (by decide) ?_
  refine lv_iadd hx hb dL_law_387 ?_
  refine va_sld hx hb hX hbl hbA hS h2 dL_law_388 ?_
  refine lv_aload_n hx hb dL_law_389 rfl (lv_at hl 0 rfl) ?_
  refine lv_iload_n hx hb dL_law_390 rfl (lv_at hl 3 rfl) ?_
  refine lv_iconst (v := 3) hx hb dL_law_391 (by decide) ?_
  refine lv_iadd hx hb dL_law_392 ?_
  refine va_sld hx hb hX hbl hbA hS h3 dL_law_393 ?_
  refine k_ciL (va_runV (As := [.int (xs (x3 + 1).toNatClampNeg), .int (xs (x3 + 2).toNatClampNeg), .int (xs (x3 + 3).toNatClampNeg)]) (rest := []) ⟨hx, hb, hml, hown, hts⟩ (c_X9_is l G 5000 z_h z_q z_fh z_hr z_hl z_hk z_he z_ht r_q l_hd k_hp e_hs e_q s_q t_q d_q d_a p_q f_q r_goes r_told e_steps e_yes s_sets s_slots s_count t_ways t_freshWays t_leastTo t_waiting d_rm d_stateOf d_kindOf d_order d_rooms d_count d_next d_says d_note d_sort d_freshSort p_table p_turn p_count f_next f_says f_size (xs (x3 + 1).toNatClampNeg) (xs (x3 + 2).toNatClampNeg) (xs (x3 + 3).toNatClampNeg) o_rm (lw_gr d_rm o_rm) (lw_gr_ok d_rm o_rm) _ o_r o_rm o_st o_kd o_od o_rooms o_dct o_nx o_sy o_nt o_so o_fr o_tb o_tn o_pct o_fn o_fs o_fz h9) (cwV 3 hts gL_law_X9_is rfl rfl rfl ⟨rfl, eX9_is⟩ ⟨Nat.le_of_ble_eq_true rfl, Nat.le_of_ble_eq_true rfl⟩) (preWV (ci := 9) (q0 := 0) hK hP.left hD.left rfl rfl) rfl rfl hl.1 rfl (lv_room (Nat.le_of_ble_eq_true rfl)) dL_law_394 ⟨by show cells + 5 ≤ 600000; omega, by show slots + (lw_gr d_rm o_rm) ≤ room_1.slots; omega⟩) hP hD hS hA (fun u9 H locs hP hD hS => ?_)
  have hP : va_P G.1 vwCl (((WX G z_h z_q z_fh z_hr z_hl z_hk z_he z_ht r_q l_hd k_hp e_hs e_q s_q t_q d_q u9 p_q r_goes r_told e_steps e_yes s_sets s_slots s_count t_ways t_freshWays t_leastTo t_waiting o_rm o_st o_kd o_od o_rooms o_dct o_nx o_sy o_nt o_so o_fr o_tb o_tn o_pct) ++ (WF G z_fh f_q o_fn o_fs o_fz)) ++ (WM G m_h m_q m_onBy m_toldBy m_kindsOf m_nextOf m_holdsAt m_made m_standsFor m_madeNext m_madeHolds m_stateFor m_joined m_joinedNow m_firstIn m_orderOf m_classAt m_sets m_waysTo m_waysThen m_queue m_leastTo)) H := hP
  have hD : va_D A (((WX G z_h z_q z_fh z_hr z_hl z_hk z_he z_ht r_q l_hd k_hp e_hs e_q s_q t_q d_q u9 p_q r_goes r_told e_steps e_yes s_sets s_slots s_count t_ways t_freshWays t_leastTo t_waiting o_rm o_st o_kd o_od o_rooms o_dct o_nx o_sy o_nt o_so o_fr o_tb o_tn o_pct) ++ (WF G z_fh f_q o_fn o_fs o_fz)) ++ (WM G m_h m_q m_onBy m_toldBy m_kindsOf m_nextOf m_holdsAt m_made m_standsFor m_madeNext m_madeHolds m_stateFor m_joined m_joinedNow m_firstIn m_orderOf m_classAt m_sets m_waysTo m_waysThen m_queue m_leastTo)) := hD
  refine lv_aload_n hx hb dL_law_397 rfl (lv_at hl 2 rfl) ?_
  refine lv_aload_n hx hb dL_law_398 rfl (lv_at hl 0 rfl) ?_
  refine lv_iload_n hx hb dL_law_399 rfl (lv_at hl 3 rfl) ?_
  refine lv_iconst (v := 1) hx hb dL_law_400 (by decide) ?_
  refine lv_iadd hx hb dL_law_401 ?_
  refine va_sld hx hb hX hbl hbA hS h1 dL_law_402 ?_
  refine lv_aload_n hx hb dL_law_403 rfl (lv_at hl 0 rfl) ?_
  refine lv_iload_n hx hb dL_law_404 rfl (lv_at hl 3 rfl) ?_
  refine lv_iconst (v := 2) hx hb dL_law_405 (by decide) ?_
  refine lv_iadd hx hb dL_law_406 ?_
  refine va_sld hx hb hX hbl hbA hS h2 dL_law_407 ?_
  refine lv_aload_n hx hb dL_law_408 rfl (lv_at hl 0 rfl) ?_
  refine lv_iload_n hx hb dL_law_409 rfl (lv_at hl 3 rfl) ?_
  refine lv_iconst (v := 3) hx hb dL_law_410 (by decide) ?_
  refine lv_iadd hx hb dL_law_411 ?_
  refine va_sld hx hb hX hbl hbA hS h3 dL_law_412 ?_
  refine k_ciR (va_runV (As := [.int (xs (x3 + 1).toNatClampNeg), .int (xs (x3 + 2).toNatClampNeg), .int (xs (x3 + 3).toNatClampNeg)]) (rest := [.int o_r]) ⟨hx, hb, hml, hown, hts⟩ (c_X10_is l G 5000 m_h m_q m_onBy m_toldBy m_kindsOf m_nextOf m_holdsAt m_made m_standsFor m_madeNext m_madeHolds m_stateFor m_joined m_joinedNow m_firstIn m_orderOf m_classAt m_sets m_waysTo m_waysThen m_queue m_leastTo (xs (x3 + 1).toNatClampNeg) (xs (x3 + 2).toNatClampNeg) (xs (x3 + 3).toNatClampNeg) _ o_r o_ko o_nxo o_ha o_md o_mn o_mh o_jd o_jn o_fi o_oo o_ca h10) (cwV 3 hts gL_law_X10_is rfl rfl rfl ⟨rfl, eX10_is⟩ ⟨Nat.le_of_ble_eq_true rfl, Nat.le_of_ble_eq_true rfl⟩) (preWV (ci := 10) (q0 := 0) hK hP.right hD.right rfl rfl) rfl rfl hl.1 rfl (lv_room (Nat.le_of_ble_eq_true rfl)) dL_law_413 ⟨by show cells + 5 + 0 ≤ 600000; omega, by show slots + (lw_gr d_rm o_rm) + (0) ≤ room_1.slots; omega⟩) hP hD hS hA (fun u10 H locs hP hD hS => ?_)
  have hP : va_P G.1 vwCl (((WX G z_h z_q z_fh z_hr z_hl z_hk z_he z_ht r_q l_hd k_hp e_hs e_q s_q t_q d_q u9 p_q r_goes r_told e_steps e_yes s_sets s_slots s_count t_ways t_freshWays t_leastTo t_waiting o_rm o_st o_kd o_od o_rooms o_dct o_nx o_sy o_nt o_so o_fr o_tb o_tn o_pct) ++ (WF G z_fh f_q o_fn o_fs o_fz)) ++ (WM G m_h m_q m_onBy m_toldBy o_ko o_nxo o_ha o_md m_standsFor o_mn o_mh m_stateFor o_jd o_jn o_fi o_oo o_ca m_sets m_waysTo m_waysThen m_queue m_leastTo)) H := hP
  have hD : va_D A (((WX G z_h z_q z_fh z_hr z_hl z_hk z_he z_ht r_q l_hd k_hp e_hs e_q s_q t_q d_q u9 p_q r_goes r_told e_steps e_yes s_sets s_slots s_count t_ways t_freshWays t_leastTo t_waiting o_rm o_st o_kd o_od o_rooms o_dct o_nx o_sy o_nt o_so o_fr o_tb o_tn o_pct) ++ (WF G z_fh f_q o_fn o_fs o_fz)) ++ (WM G m_h m_q m_onBy m_toldBy o_ko o_nxo o_ha o_md m_standsFor o_mn o_mh m_stateFor o_jd o_jn o_fi o_oo o_ca m_sets m_waysTo m_waysThen m_queue m_leastTo)) := hD
  refine lv_icmp_eq (tgt := 1010) hx hb dL_law_416 (by decide) (fun _ => ?_) (fun c9 => absurd rfl c9)
  refine W.widen (k := cells + 10) (n := slots + lw_gr d_rm o_rm) (by show cells + 5 + 0 ≤ cells + 10; omega) (by show slots + (lw_gr d_rm o_rm) + (0) ≤ slots + lw_gr d_rm o_rm; omega) ?_
  exact kk o_rm _ _ hgr ⟨z_q, z_fh, z_hr, z_hl, z_hk, z_he, z_ht, r_q, l_hd, k_hp, e_hs, e_q, s_q, t_q, d_q, u9, p_q, f_q, m_q, r_goes, r_told, e_steps, e_yes, s_sets, s_slots, s_count, t_ways, t_freshWays, t_leastTo, t_waiting, o_st, o_kd, o_od, o_rooms, o_dct, o_nx, o_sy, o_nt, o_so, o_fr, o_tb, o_tn, o_pct, o_fn, o_fs, o_fz, m_onBy, m_toldBy, o_ko, o_nxo, o_ha, o_md, m_standsFor, o_mn, o_mh, m_stateFor, o_jd, o_jn, o_fi, o_oo, o_ca, m_sets, m_waysTo, m_waysThen, m_queue, m_leastTo, hrow, hcl1, hd1, hp1, hP, hD⟩ hS
set_option maxHeartbeats 8000000 in
set_option maxRecDepth 100000 in
theorem lc_tells {p : Program} {l : Launch} {e : Env} {s : State} {m : MethodId} {below : List Frame} {meth : Method} {c : Code} {b L : Nat} {xs : Nat → Int32} {G : GG} {A : Nat → Prop} {Q : State → Prop} (C0 : lw_At p s m meth c b L xs) (hK : KN G s) (hA : ∀ q : Nat, s.heap.size ≤ q → A q) (hbA : ¬ A b) {z_h m_h d_rm : Nat} {H : Heap} {locs : List Loc} {cells slots : Nat} {x3 : Int32} {ls : Array Slot} (hI : LI G A z_h m_h d_rm H) (hS : va_S A s.heap H locs) (hl : lv_has ls 4 [(0, .ref b), (1, .ref z_h), (2, .ref m_h), (3, .int x3)]) (h1 : vp_in (x3 + 1) L) (h2 : vp_in (x3 + 2) L) (h3 : vp_in (x3 + 3) L) (h4 : vp_in (x3 + 4) L) (hcc : cells + 10 ≤ 600000) (hss : slots + 43200 ≤ room_1.slots)
    (kk : ∀ (rm1 : Nat) (H : Heap) (locs : List Loc), rl_gr d_rm rm1 → LI G A z_h m_h rm1 H → va_S A s.heap H locs → W p l e room_1 s m #[Value.ref b] below meth c H locs (cells + 10) (slots + lw_gr d_rm rm1) Q (F0 m 1010 ls [])) : W p l e room_1 s m #[Value.ref b] below meth c H locs cells slots Q (F0 m 421 ls []) := by
  obtain ⟨hx, hb, hr, hml, hown, hts0, hX, hbl, hlocks, hgv⟩ := id C0
  have hts : ∀ w ∈ wsL_law, w.before #[Value.ref b] s = true := fun w h => hts0 w (wsL_law_in w h)
  have hown : s.vm.findClass RL = some m.cls := hown
  obtain ⟨z_q, z_fh, z_hr, z_hl, z_hk, z_he, z_ht, r_q, l_hd, k_hp, e_hs, e_q, s_q, t_q, d_q, d_a, p_q, f_q, m_q, r_goes, r_told, e_steps, e_yes, s_sets, s_slots, s_count, t_ways, t_freshWays, t_leastTo, t_waiting, d_stateOf, d_kindOf, d_order, d_rooms, d_count, d_next, d_says, d_note, d_sort, d_freshSort, p_table, p_turn, p_count, f_next, f_says, f_size, m_onBy, m_toldBy, m_kindsOf, m_nextOf, m_holdsAt, m_made, m_standsFor, m_madeNext, m_madeHolds, m_stateFor, m_joined, m_joinedNow, m_firstIn, m_orderOf, m_classAt, m_sets, m_waysTo, m_waysThen, m_queue, m_leastTo, hrow, hcl, hd, hp, hP, hD⟩ := hI
  obtain ⟨o_r, o_rm, o_st, o_kd, o_od, o_rooms, o_dct, o_nx, o_sy, o_nt, o_so, o_fr, o_tb, o_tn, o_pct, o_fn, o_fs, o_fz, o_ko, o_nxo, o_ha, o_md, o_sf, o_mn, o_mh, o_sfo, o_jd, o_jn, o_fi, o_oo, o_ca, h9, h10, hcl1, hd1, hp1, hgr⟩ := op_tells (Nat.le_refl 5000) hd hp hcl hrow d_stateOf d_kindOf d_order d_next d_says d_note d_sort d_freshSort d_count p_count m_made m_standsFor m_madeNext m_madeHolds m_stateFor m_joined m_joinedNow m_firstIn m_orderOf m_classAt (xs (x3 + 1).toNatClampNeg) (xs (x3 + 2).toNatClampNeg) (xs (x3 + 3).toNatClampNeg)
  have hgl := lw_gr_le (a := d_rm) hd1.2.2
  refine lv_aload_n hx hb dL_law_421 rfl (lv_at hl 1 rfl) ?_
  refine lv_aload_n hx hb dL_law_422 rfl (lv_at hl 0 rfl) ?_
  refine lv_iload_n hx hb dL_law_423 rfl (lv_at hl 3 rfl) ?_
  refine lv_iconst (v := 1) hx hb dL_law_424 (by decide) ?_
  refine lv_iadd hx hb dL_law_425 ?_
  refine va_sld hx hb hX hbl hbA hS h1 dL_law_426 ?_
  refine lv_aload_n hx hb dL_law_427 rfl (lv_at hl 0 rfl) ?_
  refine lv_iload_n hx hb dL_law_428 rfl (lv_at hl 3 rfl) ?_
  refine lv_iconst (v := 2) hx hb dL_law_429 (by decide) ?_
  refine lv_iadd hx hb dL_law_430 ?_
  refine va_sld hx hb hX hbl hbA hS h2 dL_law_431 ?_
  refine lv_aload_n hx hb dL_law_432 rfl (lv_at hl 0 rfl) ?_
  refine lv_iload_n hx hb dL_law_433 rfl (lv_at hl 3 rfl) ?_
  refine lv_iconst (v := 3) hx hb dL_law_434 (by decide) ?_
  refine lv_iadd hx hb dL_law_435 ?_
  refine va_sld hx hb hX hbl hbA hS h3 dL_law_436 ?_
  refine k_ciL (va_runV (As := [.int (xs (x3 + 1).toNatClampNeg), .int (xs (x3 + 2).toNatClampNeg), .int (xs (x3 + 3).toNatClampNeg)]) (rest := []) ⟨hx, hb, hml, hown, hts⟩ (c_X9_tells l G 5000 z_h z_q z_fh z_hr z_hl z_hk z_he z_ht r_q l_hd k_hp e_hs e_q s_q t_q d_q d_a p_q f_q r_goes r_told e_steps e_yes s_sets s_slots s_count t_ways t_freshWays t_leastTo t_waiting d_rm d_stateOf d_kindOf d_order d_rooms d_count d_next d_says d_note d_sort d_freshSort p_table p_turn p_count f_next f_says f_size (xs (x3 + 1).toNatClampNeg) (xs (x3 + 2).toNatClampNeg) (xs (x3 + 3).toNatClampNeg) o_rm (lw_gr d_rm o_rm) (lw_gr_ok d_rm o_rm) _ o_r o_rm o_st o_kd o_od o_rooms o_dct o_nx o_sy o_nt o_so o_fr o_tb o_tn o_pct o_fn o_fs o_fz h9) (cwV 3 hts gL_law_X9_tells rfl rfl rfl ⟨rfl, eX9_tells⟩ ⟨Nat.le_of_ble_eq_true rfl, Nat.le_of_ble_eq_true rfl⟩) (preWV (ci := 9) (q0 := 0) hK hP.left hD.left rfl rfl) rfl rfl hl.1 rfl (lv_room (Nat.le_of_ble_eq_true rfl)) dL_law_437 ⟨by show cells + 5 ≤ 600000; omega, by show slots + (lw_gr d_rm o_rm) ≤ room_1.slots; omega⟩) hP hD hS hA (fun u9 H locs hP hD hS => ?_)
  have hP : va_P G.1 vwCl (((WX G z_h z_q z_fh z_hr z_hl z_hk z_he z_ht r_q l_hd k_hp e_hs e_q s_q t_q d_q u9 p_q r_goes r_told e_steps e_yes s_sets s_slots s_count t_ways t_freshWays t_leastTo t_waiting o_rm o_st o_kd o_od o_rooms o_dct o_nx o_sy o_nt o_so o_fr o_tb o_tn o_pct) ++ (WF G z_fh f_q o_fn o_fs o_fz)) ++ (WM G m_h m_q m_onBy m_toldBy m_kindsOf m_nextOf m_holdsAt m_made m_standsFor m_madeNext m_madeHolds m_stateFor m_joined m_joinedNow m_firstIn m_orderOf m_classAt m_sets m_waysTo m_waysThen m_queue m_leastTo)) H := hP
  have hD : va_D A (((WX G z_h z_q z_fh z_hr z_hl z_hk z_he z_ht r_q l_hd k_hp e_hs e_q s_q t_q d_q u9 p_q r_goes r_told e_steps e_yes s_sets s_slots s_count t_ways t_freshWays t_leastTo t_waiting o_rm o_st o_kd o_od o_rooms o_dct o_nx o_sy o_nt o_so o_fr o_tb o_tn o_pct) ++ (WF G z_fh f_q o_fn o_fs o_fz)) ++ (WM G m_h m_q m_onBy m_toldBy m_kindsOf m_nextOf m_holdsAt m_made m_standsFor m_madeNext m_madeHolds m_stateFor m_joined m_joinedNow m_firstIn m_orderOf m_classAt m_sets m_waysTo m_waysThen m_queue m_leastTo)) := hD
  refine lv_aload_n hx hb dL_law_440 rfl (lv_at hl 2 rfl) ?_
  refine lv_aload_n hx hb dL_law_441 rfl (lv_at hl 0 rfl) ?_
  refine lv_iload_n hx hb dL_law_442 rfl (lv_at hl 3 rfl) ?_
  refine lv_iconst (v := 1) hx hb dL_law_443 (by decide) ?_
  refine lv_iadd hx hb dL_law_444 ?_
  refine va_sld hx hb hX hbl hbA hS h1 dL_law_445 ?_
  refine lv_aload_n hx hb dL_law_446 rfl (lv_at hl 0 rfl) ?_
  refine lv_iload_n hx hb dL_law_447 rfl (lv_at hl 3 rfl) ?_
  refine lv_iconst (v := 2) hx hb dL_law_448 (by decide) ?_
  refine lv_iadd hx hb dL_law_449 ?_
  refine va_sld hx hb hX hbl hbA hS h2 dL_law_450 ?_
  refine lv_aload_n hx hb dL_law_451 rfl (lv_at hl 0 rfl) ?_
  refine lv_iload_n hx hb dL_law_452 rfl (lv_at hl 3 rfl) ?_
  refine lv_iconst (v := 3) hx hb dL_law_453 (by decide) ?_
  refine lv_iadd hx hb dL_law_454 ?_
  refine va_sld hx hb hX hbl hbA hS h3 dL_law_455 ?_
  refine k_ciR (va_runV (As := [.int (xs (x3 + 1).toNatClampNeg), .int (xs (x3 + 2).toNatClampNeg), .int (xs (x3 + 3).toNatClampNeg)]) (rest := [.int o_r]) ⟨hx, hb, hml, hown, hts⟩ (c_X10_tells l G 5000 m_h m_q m_onBy m_toldBy m_kindsOf m_nextOf m_holdsAt m_made m_standsFor m_madeNext m_madeHolds m_stateFor m_joined m_joinedNow m_firstIn m_orderOf m_classAt m_sets m_waysTo m_waysThen m_queue m_leastTo (xs (x3 + 1).toNatClampNeg) (xs (x3 + 2).toNatClampNeg) (xs (x3 + 3).toNatClampNeg) _ o_r o_ko o_nxo o_ha o_md o_sf o_mn o_mh o_sfo o_jd o_jn o_fi o_oo o_ca h10) (cwV 3 hts gL_law_X10_tells rfl rfl rfl ⟨rfl, eX10_tells⟩ ⟨Nat.le_of_ble_eq_true rfl, Nat.le_of_ble_eq_true rfl⟩) (preWV (ci := 10) (q0 := 0) hK hP.right hD.right rfl rfl) rfl rfl hl.1 rfl (lv_room (Nat.le_of_ble_eq_true rfl)) dL_law_456 ⟨by show cells + 5 + 0 ≤ 600000; omega, by show slots + (lw_gr d_rm o_rm) + (0) ≤ room_1.slots; omega⟩) hP hD hS hA (fun u10 H locs hP hD hS => ?_)
  have hP : va_P G.1 vwCl (((WX G z_h z_q z_fh z_hr z_hl z_hk z_he z_ht r_q l_hd k_hp e_hs e_q s_q t_q d_q u9 p_q r_goes r_told e_steps e_yes s_sets s_slots s_count t_ways t_freshWays t_leastTo t_waiting o_rm o_st o_kd o_od o_rooms o_dct o_nx o_sy o_nt o_so o_fr o_tb o_tn o_pct) ++ (WF G z_fh f_q o_fn o_fs o_fz)) ++ (WM G m_h m_q m_onBy m_toldBy o_ko o_nxo o_ha o_md o_sf o_mn o_mh o_sfo o_jd o_jn o_fi o_oo o_ca m_sets m_waysTo m_waysThen m_queue m_leastTo)) H := hP
  have hD : va_D A (((WX G z_h z_q z_fh z_hr z_hl z_hk z_he z_ht r_q l_hd k_hp e_hs e_q s_q t_q d_q u9 p_q r_goes r_told e_steps e_yes s_sets s_slots s_count t_ways t_freshWays t_leastTo t_waiting o_rm o_st o_kd o_od o_rooms o_dct o_nx o_sy o_nt o_so o_fr o_tb o_tn o_pct) ++ (WF G z_fh f_q o_fn o_fs o_fz)) ++ (WM G m_h m_q m_onBy m_toldBy o_ko o_nxo o_ha o_md o_sf o_mn o_mh o_sfo o_jd o_jn o_fi o_oo o_ca m_sets m_waysTo m_waysThen m_queue m_leastTo)) := hD
  refine lv_icmp_eq (tgt := 1010) hx hb dL_law_459 (by decide) (fun _ => ?_) (fun c9 => absurd rfl c9)
  refine W.widen (k := cells + 10) (n := slots + lw_gr d_rm o_rm) (by show cells + 5 + 0 ≤ cells + 10; omega) (by show slots + (lw_gr d_rm o_rm) + (0) ≤ slots + lw_gr d_rm o_rm; omega) ?_
  exact kk o_rm _ _ hgr ⟨z_q, z_fh, z_hr, z_hl, z_hk, z_he, z_ht, r_q, l_hd, k_hp, e_hs, e_q, s_q, t_q, d_q, u9, p_q, f_q, m_q, r_goes, r_told, e_steps, e_yes, s_sets, s_slots, s_count, t_ways, t_freshWays, t_leastTo, t_waiting, o_st, o_kd, o_od, o_rooms, o_dct, o_nx, o_sy, o_nt, o_so, o_fr, o_tb, o_tn, o_pct, o_fn, o_fs, o_fz, m_onBy, m_toldBy, o_ko, o_nxo, o_ha, o_md, o_sf, o_mn, o_mh, o_sfo, o_jd, o_jn, o_fi, o_oo, o_ca, m_sets, m_waysTo, m_waysThen, m_queue, m_leastTo, hrow, hcl1, hd1, hp1, hP, hD⟩ hS
set_option maxHeartbeats 8000000 in
set_option maxRecDepth 100000 in
theorem lc_alike {p : Program} {l : Launch} {e : Env} {s : State} {m : MethodId} {below : List Frame} {meth : Method} {c : Code} {b L : Nat} {xs : Nat → Int32} {G : GG} {A : Nat → Prop} {Q : State → Prop} (C0 : lw_At p s m meth c b L xs) (hK : KN G s) (hA : ∀ q : Nat, s.heap.size ≤ q → A q) (hbA : ¬ A b) {z_h m_h d_rm : Nat} {H : Heap} {locs : List Loc} {cells slots : Nat} {x3 : Int32} {ls : Array Slot} (hI : LI G A z_h m_h d_rm H) (hS : va_S A s.heap H locs) (hl : lv_has ls 4 [(0, .ref b), (1, .ref z_h), (2, .ref m_h), (3, .int x3)]) (h1 : vp_in (x3 + 1) L) (h2 : vp_in (x3 + 2) L) (h3 : vp_in (x3 + 3) L) (h4 : vp_in (x3 + 4) L) (hcc : cells + 10 ≤ 600000) (hss : slots + 43200 ≤ room_1.slots)
    (kk : ∀ (rm1 : Nat) (H : Heap) (locs : List Loc), rl_gr d_rm rm1 → LI G A z_h m_h rm1 H → va_S A s.heap H locs → W p l e room_1 s m #[Value.ref b] below meth c H locs (cells + 10) (slots + lw_gr d_rm rm1) Q (F0 m 1010 ls [])) : W p l e room_1 s m #[Value.ref b] below meth c H locs cells slots Q (F0 m 464 ls []) := by
  obtain ⟨hx, hb, hr, hml, hown, hts0, hX, hbl, hlocks, hgv⟩ := id C0
  have hts : ∀ w ∈ wsL_law, w.before #[Value.ref b] s = true := fun w h => hts0 w (wsL_law_in w h)
  have hown : s.vm.findClass RL = some m.cls := hown
  obtain ⟨z_q, z_fh, z_hr, z_hl, z_hk, z_he, z_ht, r_q, l_hd, k_hp, e_hs, e_q, s_q, t_q, d_q, d_a, p_q, f_q, m_q, r_goes, r_told, e_steps, e_yes, s_sets, s_slots, s_count, t_ways, t_freshWays, t_leastTo, t_waiting, d_stateOf, d_kindOf, d_order, d_rooms, d_count, d_next, d_says, d_note, d_sort, d_freshSort, p_table, p_turn, p_count, f_next, f_says, f_size, m_onBy, m_toldBy, m_kindsOf, m_nextOf, m_holdsAt, m_made, m_standsFor, m_madeNext, m_madeHolds, m_stateFor, m_joined, m_joinedNow, m_firstIn, m_orderOf, m_classAt, m_sets, m_waysTo, m_waysThen, m_queue, m_leastTo, hrow, hcl, hd, hp, hP, hD⟩ := hI
  obtain ⟨o_r, o_rm, o_st, o_kd, o_od, o_rooms, o_dct, o_nx, o_sy, o_nt, o_so, o_fr, o_tb, o_tn, o_pct, o_fn, o_fs, o_fz, o_ko, o_nxo, o_ha, o_md, o_sf, o_mn, o_mh, o_sfo, o_jd, o_jn, o_fi, o_oo, o_ca, h9, h10, hcl1, hd1, hp1, hgr⟩ := op_alike (Nat.le_refl 5000) hd hp hcl hrow d_stateOf d_kindOf d_order d_next d_says d_note d_sort d_freshSort d_count p_count m_made m_standsFor m_madeNext m_madeHolds m_stateFor m_joined m_joinedNow m_firstIn m_orderOf m_classAt (xs (x3 + 1).toNatClampNeg) (xs (x3 + 2).toNatClampNeg) (xs (x3 + 3).toNatClampNeg)
  have hgl := lw_gr_le (a := d_rm) hd1.2.2
  refine lv_aload_n hx hb dL_law_464 rfl (lv_at hl 1 rfl) ?_
  refine lv_aload_n hx hb dL_law_465 rfl (lv_at hl 0 rfl) ?_
  refine lv_iload_n hx hb dL_law_466 rfl (lv_at hl 3 rfl) ?_
  refine lv_iconst (v := 1) hx hb dL_law_467 (by decide) ?_
  refine lv_iadd hx hb dL_law_468 ?_
  refine va_sld hx hb hX hbl hbA hS h1 dL_law_469 ?_
  refine lv_aload_n hx hb dL_law_470 rfl (lv_at hl 0 rfl) ?_
  refine lv_iload_n hx hb dL_law_471 rfl (lv_at hl 3 rfl) ?_
  refine lv_iconst (v := 2) hx hb dL_law_472 (by decide) ?_
  refine lv_iadd hx hb dL_law_473 ?_
  refine va_sld hx hb hX hbl hbA hS h2 dL_law_474 ?_
  refine lv_aload_n hx hb dL_law_475 rfl (lv_at hl 0 rfl) ?_
  refine lv_iload_n hx hb dL_law_476 rfl (lv_at hl 3 rfl) ?_
  refine lv_iconst (v := 3) hx hb dL_law_477 (by decide) ?_
  refine lv_iadd hx hb dL_law_478 ?_
  refine va_sld hx hb hX hbl hbA hS h3 dL_law_479 ?_
  refine k_ciL (va_runV (As := [.int (xs (x3 + 1).toNatClampNeg), .int (xs (x3 + 2).toNatClampNeg), .int (xs (x3 + 3).toNatClampNeg)]) (rest := []) ⟨hx, hb, hml, hown, hts⟩ (c_X9_alike l G 5000 z_h z_q z_fh z_hr z_hl z_hk z_he z_ht r_q l_hd k_hp e_hs e_q s_q t_q d_q d_a p_q f_q r_goes r_told e_steps e_yes s_sets s_slots s_count t_ways t_freshWays t_leastTo t_waiting d_rm d_stateOf d_kindOf d_order d_rooms d_count d_next d_says d_note d_sort d_freshSort p_table p_turn p_count f_next f_says f_size (xs (x3 + 1).toNatClampNeg) (xs (x3 + 2).toNatClampNeg) (xs (x3 + 3).toNatClampNeg) o_rm (lw_gr d_rm o_rm) (lw_gr_ok d_rm o_rm) _ o_r o_rm o_st o_kd o_od o_rooms o_dct o_nx o_sy o_nt o_so o_fr o_tb o_tn o_pct o_fn o_fs o_fz h9) (cwV 3 hts gL_law_X9_alike rfl rfl rfl ⟨rfl, eX9_alike⟩ ⟨Nat.le_of_ble_eq_true rfl, Nat.le_of_ble_eq_true rfl⟩) (preWV (ci := 9) (q0 := 0) hK hP.left hD.left rfl rfl) rfl rfl hl.1 rfl (lv_room (Nat.le_of_ble_eq_true rfl)) dL_law_480 ⟨by show cells + 5 ≤ 600000; omega, by show slots + (lw_gr d_rm o_rm) ≤ room_1.slots; omega⟩) hP hD hS hA (fun u9 H locs hP hD hS => ?_)
  have hP : va_P G.1 vwCl (((WX G z_h z_q z_fh z_hr z_hl z_hk z_he z_ht r_q l_hd k_hp e_hs e_q s_q t_q d_q u9 p_q r_goes r_told e_steps e_yes s_sets s_slots s_count t_ways t_freshWays t_leastTo t_waiting o_rm o_st o_kd o_od o_rooms o_dct o_nx o_sy o_nt o_so o_fr o_tb o_tn o_pct) ++ (WF G z_fh f_q o_fn o_fs o_fz)) ++ (WM G m_h m_q m_onBy m_toldBy m_kindsOf m_nextOf m_holdsAt m_made m_standsFor m_madeNext m_madeHolds m_stateFor m_joined m_joinedNow m_firstIn m_orderOf m_classAt m_sets m_waysTo m_waysThen m_queue m_leastTo)) H := hP
  have hD : va_D A (((WX G z_h z_q z_fh z_hr z_hl z_hk z_he z_ht r_q l_hd k_hp e_hs e_q s_q t_q d_q u9 p_q r_goes r_told e_steps e_yes s_sets s_slots s_count t_ways t_freshWays t_leastTo t_waiting o_rm o_st o_kd o_od o_rooms o_dct o_nx o_sy o_nt o_so o_fr o_tb o_tn o_pct) ++ (WF G z_fh f_q o_fn o_fs o_fz)) ++ (WM G m_h m_q m_onBy m_toldBy m_kindsOf m_nextOf m_holdsAt m_made m_standsFor m_madeNext m_madeHolds m_stateFor m_joined m_joinedNow m_firstIn m_orderOf m_classAt m_sets m_waysTo m_waysThen m_queue m_leastTo)) := hD
  refine lv_aload_n hx hb dL_law_483 rfl (lv_at hl 2 rfl) ?_
  refine lv_aload_n hx hb dL_law_484 rfl (lv_at hl 0 rfl) ?_
  refine lv_iload_n hx hb dL_law_485 rfl (lv_at hl 3 rfl) ?_
  refine lv_iconst (v := 1) hx hb dL_law_486 (by decide) ?_
  refine lv_iadd hx hb dL_law_487 ?_
  refine va_sld hx hb hX hbl hbA hS h1 dL_law_488 ?_
  refine lv_aload_n hx hb dL_law_489 rfl (lv_at hl 0 rfl) ?_
  refine lv_iload_n hx hb dL_law_490 rfl (lv_at hl 3 rfl) ?_
  refine lv_iconst (v := 2) hx hb dL_law_491 (by decide) ?_
  refine lv_iadd hx hb dL_law_492 ?_
  refine va_sld hx hb hX hbl hbA hS h2 dL_law_493 ?_
  refine lv_aload_n hx hb dL_law_494 rfl (lv_at hl 0 rfl) ?_
  refine lv_iload_n hx hb dL_law_495 rfl (lv_at hl 3 rfl) ?_
  refine lv_iconst (v := 3) hx hb dL_law_496 (by decide) ?_
  refine lv_iadd hx hb dL_law_497 ?_
  refine va_sld hx hb hX hbl hbA hS h3 dL_law_498 ?_
  refine k_ciR (va_runV (As := [.int (xs (x3 + 1).toNatClampNeg), .int (xs (x3 + 2).toNatClampNeg), .int (xs (x3 + 3).toNatClampNeg)]) (rest := [.int o_r]) ⟨hx, hb, hml, hown, hts⟩ (c_X10_alike l G 5000 m_h m_q m_onBy m_toldBy m_kindsOf m_nextOf m_holdsAt m_made m_standsFor m_madeNext m_madeHolds m_stateFor m_joined m_joinedNow m_firstIn m_orderOf m_classAt m_sets m_waysTo m_waysThen m_queue m_leastTo (xs (x3 + 1).toNatClampNeg) (xs (x3 + 2).toNatClampNeg) (xs (x3 + 3).toNatClampNeg) _ o_r o_ko o_nxo o_ha o_md o_sf o_mn o_mh o_sfo o_jd o_jn o_fi o_oo o_ca h10) (cwV 3 hts gL_law_X10_alike rfl rfl rfl ⟨rfl, eX10_alike⟩ ⟨Nat.le_of_ble_eq_true rfl, Nat.le_of_ble_eq_true rfl⟩) (preWV (ci := 10) (q0 := 0) hK hP.right hD.right rfl rfl) rfl rfl hl.1 rfl (lv_room (Nat.le_of_ble_eq_true rfl)) dL_law_499 ⟨by show cells + 5 + 0 ≤ 600000; omega, by show slots + (lw_gr d_rm o_rm) + (0) ≤ room_1.slots; omega⟩) hP hD hS hA (fun u10 H locs hP hD hS => ?_)
  have hP : va_P G.1 vwCl (((WX G z_h z_q z_fh z_hr z_hl z_hk z_he z_ht r_q l_hd k_hp e_hs e_q s_q t_q d_q u9 p_q r_goes r_told e_steps e_yes s_sets s_slots s_count t_ways t_freshWays t_leastTo t_waiting o_rm o_st o_kd o_od o_rooms o_dct o_nx o_sy o_nt o_so o_fr o_tb o_tn o_pct) ++ (WF G z_fh f_q o_fn o_fs o_fz)) ++ (WM G m_h m_q m_onBy m_toldBy o_ko o_nxo o_ha o_md o_sf o_mn o_mh o_sfo o_jd o_jn o_fi o_oo o_ca m_sets m_waysTo m_waysThen m_queue m_leastTo)) H := hP
  have hD : va_D A (((WX G z_h z_q z_fh z_hr z_hl z_hk z_he z_ht r_q l_hd k_hp e_hs e_q s_q t_q d_q u9 p_q r_goes r_told e_steps e_yes s_sets s_slots s_count t_ways t_freshWays t_leastTo t_waiting o_rm o_st o_kd o_od o_rooms o_dct o_nx o_sy o_nt o_so o_fr o_tb o_tn o_pct) ++ (WF G z_fh f_q o_fn o_fs o_fz)) ++ (WM G m_h m_q m_onBy m_toldBy o_ko o_nxo o_ha o_md o_sf o_mn o_mh o_sfo o_jd o_jn o_fi o_oo o_ca m_sets m_waysTo m_waysThen m_queue m_leastTo)) := hD
  refine lv_icmp_eq (tgt := 1010) hx hb dL_law_502 (by decide) (fun _ => ?_) (fun c9 => absurd rfl c9)
  refine W.widen (k := cells + 10) (n := slots + lw_gr d_rm o_rm) (by show cells + 5 + 0 ≤ cells + 10; omega) (by show slots + (lw_gr d_rm o_rm) + (0) ≤ slots + lw_gr d_rm o_rm; omega) ?_
  exact kk o_rm _ _ hgr ⟨z_q, z_fh, z_hr, z_hl, z_hk, z_he, z_ht, r_q, l_hd, k_hp, e_hs, e_q, s_q, t_q, d_q, u9, p_q, f_q, m_q, r_goes, r_told, e_steps, e_yes, s_sets, s_slots, s_count, t_ways, t_freshWays, t_leastTo, t_waiting, o_st, o_kd, o_od, o_rooms, o_dct, o_nx, o_sy, o_nt, o_so, o_fr, o_tb, o_tn, o_pct, o_fn, o_fs, o_fz, m_onBy, m_toldBy, o_ko, o_nxo, o_ha, o_md, o_sf, o_mn, o_mh, o_sfo, o_jd, o_jn, o_fi, o_oo, o_ca, m_sets, m_waysTo, m_waysThen, m_queue, m_leastTo, hrow, hcl1, hd1, hp1, hP, hD⟩ hS
set_option maxHeartbeats 8000000 in
set_option maxRecDepth 100000 in
theorem lc_both {p : Program} {l : Launch} {e : Env} {s : State} {m : MethodId} {below : List Frame} {meth : Method} {c : Code} {b L : Nat} {xs : Nat → Int32} {G : GG} {A : Nat → Prop} {Q : State → Prop} (C0 : lw_At p s m meth c b L xs) (hK : KN G s) (hA : ∀ q : Nat, s.heap.size ≤ q → A q) (hbA : ¬ A b) {z_h m_h d_rm : Nat} {H : Heap} {locs : List Loc} {cells slots : Nat} {x3 : Int32} {ls : Array Slot} (hI : LI G A z_h m_h d_rm H) (hS : va_S A s.heap H locs) (hl : lv_has ls 4 [(0, .ref b), (1, .ref z_h), (2, .ref m_h), (3, .int x3)]) (h1 : vp_in (x3 + 1) L) (h2 : vp_in (x3 + 2) L) (h3 : vp_in (x3 + 3) L) (h4 : vp_in (x3 + 4) L) (hcc : cells + 10 ≤ 600000) (hss : slots + 43200 ≤ room_1.slots)
    (kk : ∀ (rm1 : Nat) (H : Heap) (locs : List Loc), rl_gr d_rm rm1 → LI G A z_h m_h rm1 H → va_S A s.heap H locs → W p l e room_1 s m #[Value.ref b] below meth c H locs (cells + 10) (slots + lw_gr d_rm rm1) Q (F0 m 1010 ls [])) : W p l e room_1 s m #[Value.ref b] below meth c H locs cells slots Q (F0 m 507 ls []) := by
  obtain ⟨hx, hb, hr, hml, hown, hts0, hX, hbl, hlocks, hgv⟩ := id C0
  have hts : ∀ w ∈ wsL_law, w.before #[Value.ref b] s = true := fun w h => hts0 w (wsL_law_in w h)
  have hown : s.vm.findClass RL = some m.cls := hown
  obtain ⟨z_q, z_fh, z_hr, z_hl, z_hk, z_he, z_ht, r_q, l_hd, k_hp, e_hs, e_q, s_q, t_q, d_q, d_a, p_q, f_q, m_q, r_goes, r_told, e_steps, e_yes, s_sets, s_slots, s_count, t_ways, t_freshWays, t_leastTo, t_waiting, d_stateOf, d_kindOf, d_order, d_rooms, d_count, d_next, d_says, d_note, d_sort, d_freshSort, p_table, p_turn, p_count, f_next, f_says, f_size, m_onBy, m_toldBy, m_kindsOf, m_nextOf, m_holdsAt, m_made, m_standsFor, m_madeNext, m_madeHolds, m_stateFor, m_joined, m_joinedNow, m_firstIn, m_orderOf, m_classAt, m_sets, m_waysTo, m_waysThen, m_queue, m_leastTo, hrow, hcl, hd, hp, hP, hD⟩ := hI
  obtain ⟨o_r, o_rm, o_st, o_kd, o_od, o_rooms, o_dct, o_nx, o_sy, o_nt, o_so, o_fr, o_tb, o_tn, o_pct, o_fn, o_fs, o_fz, o_ko, o_nxo, o_ha, o_md, o_sf, o_mn, o_mh, o_sfo, o_jd, o_jn, o_fi, o_oo, o_ca, h9, h10, hcl1, hd1, hp1, hgr⟩ := op_both (Nat.le_refl 5000) hd hp hcl d_stateOf d_kindOf d_order d_next d_says d_note d_sort d_freshSort d_count p_count m_made m_standsFor m_madeNext m_madeHolds m_stateFor m_joined m_joinedNow m_firstIn m_orderOf m_classAt (xs (x3 + 1).toNatClampNeg) (xs (x3 + 2).toNatClampNeg) (xs (x3 + 3).toNatClampNeg)
  have hgl := lw_gr_le (a := d_rm) hd1.2.2
  refine lv_aload_n hx hb dL_law_507 rfl (lv_at hl 1 rfl) ?_
  refine lv_aload_n hx hb dL_law_508 rfl (lv_at hl 0 rfl) ?_
  refine lv_iload_n hx hb dL_law_509 rfl (lv_at hl 3 rfl) ?_
  refine lv_iconst (v := 1) hx hb dL_law_510 (by decide) ?_
  refine lv_iadd hx hb dL_law_511 ?_
  refine va_sld hx hb hX hbl hbA hS h1 dL_law_512 ?_
  refine lv_aload_n hx hb dL_law_513 rfl (lv_at hl 0 rfl) ?_
  refine lv_iload_n hx hb dL_law_514 rfl (lv_at hl 3 rfl) ?_
  refine lv_iconst (v := 2) hx hb dL_law_515 (by decide) ?_
  refine lv_iadd hx hb dL_law_516 ?_
  refine va_sld hx hb hX hbl hbA hS h2 dL_law_517 ?_
  refine lv_aload_n hx hb dL_law_518 rfl (lv_at hl 0 rfl) ?_
  refine lv_iload_n hx hb dL_law_519 rfl (lv_at hl 3 rfl) ?_
  refine lv_iconst (v := 3) hx hb dL_law_520 (by decide) ?_
  refine lv_iadd hx hb dL_law_521 ?_
  refine va_sld hx hb hX hbl hbA hS h3 dL_law_522 ?_
  refine k_ciL (va_runV (As := [.int (xs (x3 + 1).toNatClampNeg), .int (xs (x3 + 2).toNatClampNeg), .int (xs (x3 + 3).toNatClampNeg)]) (rest := []) ⟨hx, hb, hml, hown, hts⟩ (c_X9_both l G 5000 z_h z_q z_fh z_hr z_hl z_hk z_he z_ht r_q l_hd k_hp e_hs e_q s_q t_q d_q d_a p_q f_q r_goes r_told e_steps e_yes s_sets s_slots s_count t_ways t_freshWays t_leastTo t_waiting d_rm d_stateOf d_kindOf d_order d_rooms d_count d_next d_says d_note d_sort d_freshSort p_table p_turn p_count f_next f_says f_size (xs (x3 + 1).toNatClampNeg) (xs (x3 + 2).toNatClampNeg) (xs (x3 + 3).toNatClampNeg) o_rm (lw_gr d_rm o_rm) (lw_gr_ok d_rm o_rm) _ o_r o_rm o_st o_kd o_od o_rooms o_dct o_nx o_sy o_nt o_so o_fr o_tb o_tn o_pct o_fn o_fs o_fz h9) (cwV 3 hts gL_law_X9_both rfl rfl rfl ⟨rfl, eX9_both⟩ ⟨Nat.le_of_ble_eq_true rfl, Nat.le_of_ble_eq_true rfl⟩) (preWV (ci := 9) (q0 := 0) hK hP.left hD.left rfl rfl) rfl rfl hl.1 rfl (lv_room (Nat.le_of_ble_eq_true rfl)) dL_law_523 ⟨by show cells + 5 ≤ 600000; omega, by show slots + (lw_gr d_rm o_rm) ≤ room_1.slots; omega⟩) hP hD hS hA (fun u9 H locs hP hD hS => ?_)
  have hP : va_P G.1 vwCl (((WX G z_h z_q z_fh z_hr z_hl z_hk z_he z_ht r_q l_hd k_hp e_hs e_q s_q t_q d_q u9 p_q r_goes r_told e_steps e_yes s_sets s_slots s_count t_ways t_freshWays t_leastTo t_waiting o_rm o_st o_kd o_od o_rooms o_dct o_nx o_sy o_nt o_so o_fr o_tb o_tn o_pct) ++ (WF G z_fh f_q o_fn o_fs o_fz)) ++ (WM G m_h m_q m_onBy m_toldBy m_kindsOf m_nextOf m_holdsAt m_made m_standsFor m_madeNext m_madeHolds m_stateFor m_joined m_joinedNow m_firstIn m_orderOf m_classAt m_sets m_waysTo m_waysThen m_queue m_leastTo)) H := hP
  have hD : va_D A (((WX G z_h z_q z_fh z_hr z_hl z_hk z_he z_ht r_q l_hd k_hp e_hs e_q s_q t_q d_q u9 p_q r_goes r_told e_steps e_yes s_sets s_slots s_count t_ways t_freshWays t_leastTo t_waiting o_rm o_st o_kd o_od o_rooms o_dct o_nx o_sy o_nt o_so o_fr o_tb o_tn o_pct) ++ (WF G z_fh f_q o_fn o_fs o_fz)) ++ (WM G m_h m_q m_onBy m_toldBy m_kindsOf m_nextOf m_holdsAt m_made m_standsFor m_madeNext m_madeHolds m_stateFor m_joined m_joinedNow m_firstIn m_orderOf m_classAt m_sets m_waysTo m_waysThen m_queue m_leastTo)) := hD
  refine lv_aload_n hx hb dL_law_526 rfl (lv_at hl 2 rfl) ?_
  refine lv_aload_n hx hb dL_law_527 rfl (lv_at hl 0 rfl) ?_
  refine lv_iload_n hx hb dL_law_528 rfl (lv_at hl 3 rfl) ?_
  refine lv_iconst (v := 1) hx hb dL_law_529 (by decide) ?_
  refine lv_iadd hx hb dL_law_530 ?_
  refine va_sld hx hb hX hbl hbA hS h1 dL_law_531 ?_
  refine lv_aload_n hx hb dL_law_532 rfl (lv_at hl 0 rfl) ?_
  refine lv_iload_n hx hb dL_law_533 rfl (lv_at hl 3 rfl) ?_
  refine lv_iconst (v := 2) hx hb dL_law_534 (by decide) ?_
  refine lv_iadd hx hb dL_law_535 ?_
  refine va_sld hx hb hX hbl hbA hS h2 dL_law_536 ?_
  refine lv_aload_n hx hb dL_law_537 rfl (lv_at hl 0 rfl) ?_
  refine lv_iload_n hx hb dL_law_538 rfl (lv_at hl 3 rfl) ?_
  refine lv_iconst (v := 3) hx hb dL_law_539 (by decide) ?_
  refine lv_iadd hx hb dL_law_540 ?_
  refine va_sld hx hb hX hbl hbA hS h3 dL_law_541 ?_
  refine k_ciR (va_runV (As := [.int (xs (x3 + 1).toNatClampNeg), .int (xs (x3 + 2).toNatClampNeg), .int (xs (x3 + 3).toNatClampNeg)]) (rest := [.int o_r]) ⟨hx, hb, hml, hown, hts⟩ (c_X10_both l G 5000 m_h m_q m_onBy m_toldBy m_kindsOf m_nextOf m_holdsAt m_made m_standsFor m_madeNext m_madeHolds m_stateFor m_joined m_joinedNow m_firstIn m_orderOf m_classAt m_sets m_waysTo m_waysThen m_queue m_leastTo (xs (x3 + 1).toNatClampNeg) (xs (x3 + 2).toNatClampNeg) (xs (x3 + 3).toNatClampNeg) _ o_r o_ko o_nxo o_ha o_md o_sf o_mn o_mh o_sfo o_jd o_jn o_fi o_oo o_ca h10) (cwV 3 hts gL_law_X10_both rfl rfl rfl ⟨rfl, eX10_both⟩ ⟨Nat.le_of_ble_eq_true rfl, Nat.le_of_ble_eq_true rfl⟩) (preWV (ci := 10) (q0 := 0) hK hP.right hD.right rfl rfl) rfl rfl hl.1 rfl (lv_room (Nat.le_of_ble_eq_true rfl)) dL_law_542 ⟨by show cells + 5 + 0 ≤ 600000; omega, by show slots + (lw_gr d_rm o_rm) + (0) ≤ room_1.slots; omega⟩) hP hD hS hA (fun u10 H locs hP hD hS => ?_)
  have hP : va_P G.1 vwCl (((WX G z_h z_q z_fh z_hr z_hl z_hk z_he z_ht r_q l_hd k_hp e_hs e_q s_q t_q d_q u9 p_q r_goes r_told e_steps e_yes s_sets s_slots s_count t_ways t_freshWays t_leastTo t_waiting o_rm o_st o_kd o_od o_rooms o_dct o_nx o_sy o_nt o_so o_fr o_tb o_tn o_pct) ++ (WF G z_fh f_q o_fn o_fs o_fz)) ++ (WM G m_h m_q m_onBy m_toldBy o_ko o_nxo o_ha o_md o_sf o_mn o_mh o_sfo o_jd o_jn o_fi o_oo o_ca m_sets m_waysTo m_waysThen m_queue m_leastTo)) H := hP
  have hD : va_D A (((WX G z_h z_q z_fh z_hr z_hl z_hk z_he z_ht r_q l_hd k_hp e_hs e_q s_q t_q d_q u9 p_q r_goes r_told e_steps e_yes s_sets s_slots s_count t_ways t_freshWays t_leastTo t_waiting o_rm o_st o_kd o_od o_rooms o_dct o_nx o_sy o_nt o_so o_fr o_tb o_tn o_pct) ++ (WF G z_fh f_q o_fn o_fs o_fz)) ++ (WM G m_h m_q m_onBy m_toldBy o_ko o_nxo o_ha o_md o_sf o_mn o_mh o_sfo o_jd o_jn o_fi o_oo o_ca m_sets m_waysTo m_waysThen m_queue m_leastTo)) := hD
  refine lv_icmp_eq (tgt := 1010) hx hb dL_law_545 (by decide) (fun _ => ?_) (fun c9 => absurd rfl c9)
  refine W.widen (k := cells + 10) (n := slots + lw_gr d_rm o_rm) (by show cells + 5 + 0 ≤ cells + 10; omega) (by show slots + (lw_gr d_rm o_rm) + (0) ≤ slots + lw_gr d_rm o_rm; omega) ?_
  exact kk o_rm _ _ hgr ⟨z_q, z_fh, z_hr, z_hl, z_hk, z_he, z_ht, r_q, l_hd, k_hp, e_hs, e_q, s_q, t_q, d_q, u9, p_q, f_q, m_q, r_goes, r_told, e_steps, e_yes, s_sets, s_slots, s_count, t_ways, t_freshWays, t_leastTo, t_waiting, o_st, o_kd, o_od, o_rooms, o_dct, o_nx, o_sy, o_nt, o_so, o_fr, o_tb, o_tn, o_pct, o_fn, o_fs, o_fz, m_onBy, m_toldBy, o_ko, o_nxo, o_ha, o_md, o_sf, o_mn, o_mh, o_sfo, o_jd, o_jn, o_fi, o_oo, o_ca, m_sets, m_waysTo, m_waysThen, m_queue, m_leastTo, hrow, hcl1, hd1, hp1, hP, hD⟩ hS
set_option maxHeartbeats 8000000 in
set_option maxRecDepth 100000 in
theorem lc_either {p : Program} {l : Launch} {e : Env} {s : State} {m : MethodId} {below : List Frame} {meth : Method} {c : Code} {b L : Nat} {xs : Nat → Int32} {G : GG} {A : Nat → Prop} {Q : State → Prop} (C0 : lw_At p s m meth c b L xs) (hK : KN G s) (hA : ∀ q : Nat, s.heap.size ≤ q → A q) (hbA : ¬ A b) {z_h m_h d_rm : Nat} {H : Heap} {locs : List Loc} {cells slots : Nat} {x3 : Int32} {ls : Array Slot} (hI : LI G A z_h m_h d_rm H) (hS : va_S A s.heap H locs) (hl : lv_has ls 4 [(0, .ref b), (1, .ref z_h), (2, .ref m_h), (3, .int x3)]) (h1 : vp_in (x3 + 1) L) (h2 : vp_in (x3 + 2) L) (h3 : vp_in (x3 + 3) L) (h4 : vp_in (x3 + 4) L) (hcc : cells + 10 ≤ 600000) (hss : slots + 43200 ≤ room_1.slots)
    (kk : ∀ (rm1 : Nat) (H : Heap) (locs : List Loc), rl_gr d_rm rm1 → LI G A z_h m_h rm1 H → va_S A s.heap H locs → W p l e room_1 s m #[Value.ref b] below meth c H locs (cells + 10) (slots + lw_gr d_rm rm1) Q (F0 m 1010 ls [])) : W p l e room_1 s m #[Value.ref b] below meth c H locs cells slots Q (F0 m 550 ls []) := by
  obtain ⟨hx, hb, hr, hml, hown, hts0, hX, hbl, hlocks, hgv⟩ := id C0
  have hts : ∀ w ∈ wsL_law, w.before #[Value.ref b] s = true := fun w h => hts0 w (wsL_law_in w h)
  have hown : s.vm.findClass RL = some m.cls := hown
  obtain ⟨z_q, z_fh, z_hr, z_hl, z_hk, z_he, z_ht, r_q, l_hd, k_hp, e_hs, e_q, s_q, t_q, d_q, d_a, p_q, f_q, m_q, r_goes, r_told, e_steps, e_yes, s_sets, s_slots, s_count, t_ways, t_freshWays, t_leastTo, t_waiting, d_stateOf, d_kindOf, d_order, d_rooms, d_count, d_next, d_says, d_note, d_sort, d_freshSort, p_table, p_turn, p_count, f_next, f_says, f_size, m_onBy, m_toldBy, m_kindsOf, m_nextOf, m_holdsAt, m_made, m_standsFor, m_madeNext, m_madeHolds, m_stateFor, m_joined, m_joinedNow, m_firstIn, m_orderOf, m_classAt, m_sets, m_waysTo, m_waysThen, m_queue, m_leastTo, hrow, hcl, hd, hp, hP, hD⟩ := hI
  obtain ⟨o_r, o_rm, o_st, o_kd, o_od, o_rooms, o_dct, o_nx, o_sy, o_nt, o_so, o_fr, o_tb, o_tn, o_pct, o_fn, o_fs, o_fz, o_ko, o_nxo, o_ha, o_md, o_sf, o_mn, o_mh, o_sfo, o_jd, o_jn, o_fi, o_oo, o_ca, h9, h10, hcl1, hd1, hp1, hgr⟩ := op_either (Nat.le_refl 5000) hd hp hcl d_stateOf d_kindOf d_order d_next d_says d_note d_sort d_freshSort d_count p_count m_made m_standsFor m_madeNext m_madeHolds m_stateFor m_joined m_joinedNow m_firstIn m_orderOf m_classAt (xs (x3 + 1).toNatClampNeg) (xs (x3 + 2).toNatClampNeg) (xs (x3 + 3).toNatClampNeg)
  have hgl := lw_gr_le (a := d_rm) hd1.2.2
  refine lv_aload_n hx hb dL_law_550 rfl (lv_at hl 1 rfl) ?_
  refine lv_aload_n hx hb dL_law_551 rfl (lv_at hl 0 rfl) ?_
  refine lv_iload_n hx hb dL_law_552 rfl (lv_at hl 3 rfl) ?_
  refine lv_iconst (v := 1) hx hb dL_law_553 (by decide) ?_
  refine lv_iadd hx hb dL_law_554 ?_
  refine va_sld hx hb hX hbl hbA hS h1 dL_law_555 ?_
  refine lv_aload_n hx hb dL_law_556 rfl (lv_at hl 0 rfl) ?_
  refine lv_iload_n hx hb dL_law_557 rfl (lv_at hl 3 rfl) ?_
  refine lv_iconst (v := 2) hx hb dL_law_558 (by decide) ?_
  refine lv_iadd hx hb dL_law_559 ?_
  refine va_sld hx hb hX hbl hbA hS h2 dL_law_560 ?_
  refine lv_aload_n hx hb dL_law_561 rfl (lv_at hl 0 rfl) ?_
  refine lv_iload_n hx hb dL_law_562 rfl (lv_at hl 3 rfl) ?_
  refine lv_iconst (v := 3) hx hb dL_law_563 (by decide) ?_
  refine lv_iadd hx hb dL_law_564 ?_
  refine va_sld hx hb hX hbl hbA hS h3 dL_law_565 ?_
  refine k_ciL (va_runV (As := [.int (xs (x3 + 1).toNatClampNeg), .int (xs (x3 + 2).toNatClampNeg), .int (xs (x3 + 3).toNatClampNeg)]) (rest := []) ⟨hx, hb, hml, hown, hts⟩ (c_X9_either l G 5000 z_h z_q z_fh z_hr z_hl z_hk z_he z_ht r_q l_hd k_hp e_hs e_q s_q t_q d_q d_a p_q f_q r_goes r_told e_steps e_yes s_sets s_slots s_count t_ways t_freshWays t_leastTo t_waiting d_rm d_stateOf d_kindOf d_order d_rooms d_count d_next d_says d_note d_sort d_freshSort p_table p_turn p_count f_next f_says f_size (xs (x3 + 1).toNatClampNeg) (xs (x3 + 2).toNatClampNeg) (xs (x3 + 3).toNatClampNeg) o_rm (lw_gr d_rm o_rm) (lw_gr_ok d_rm o_rm) _ o_r o_rm o_st o_kd o_od o_rooms o_dct o_nx o_sy o_nt o_so o_fr o_tb o_tn o_pct o_fn o_fs o_fz h9) (cwV 3 hts gL_law_X9_either rfl rfl rfl ⟨rfl, eX9_either⟩ ⟨Nat.le_of_ble_eq_true rfl, Nat.le_of_ble_eq_true rfl⟩) (preWV (ci := 9) (q0 := 0) hK hP.left hD.left rfl rfl) rfl rfl hl.1 rfl (lv_room (Nat.le_of_ble_eq_true rfl)) dL_law_566 ⟨by show cells + 5 ≤ 600000; omega, by show slots + (lw_gr d_rm o_rm) ≤ room_1.slots; omega⟩) hP hD hS hA (fun u9 H locs hP hD hS => ?_)
  have hP : va_P G.1 vwCl (((WX G z_h z_q z_fh z_hr z_hl z_hk z_he z_ht r_q l_hd k_hp e_hs e_q s_q t_q d_q u9 p_q r_goes r_told e_steps e_yes s_sets s_slots s_count t_ways t_freshWays t_leastTo t_waiting o_rm o_st o_kd o_od o_rooms o_dct o_nx o_sy o_nt o_so o_fr o_tb o_tn o_pct) ++ (WF G z_fh f_q o_fn o_fs o_fz)) ++ (WM G m_h m_q m_onBy m_toldBy m_kindsOf m_nextOf m_holdsAt m_made m_standsFor m_madeNext m_madeHolds m_stateFor m_joined m_joinedNow m_firstIn m_orderOf m_classAt m_sets m_waysTo m_waysThen m_queue m_leastTo)) H := hP
  have hD : va_D A (((WX G z_h z_q z_fh z_hr z_hl z_hk z_he z_ht r_q l_hd k_hp e_hs e_q s_q t_q d_q u9 p_q r_goes r_told e_steps e_yes s_sets s_slots s_count t_ways t_freshWays t_leastTo t_waiting o_rm o_st o_kd o_od o_rooms o_dct o_nx o_sy o_nt o_so o_fr o_tb o_tn o_pct) ++ (WF G z_fh f_q o_fn o_fs o_fz)) ++ (WM G m_h m_q m_onBy m_toldBy m_kindsOf m_nextOf m_holdsAt m_made m_standsFor m_madeNext m_madeHolds m_stateFor m_joined m_joinedNow m_firstIn m_orderOf m_classAt m_sets m_waysTo m_waysThen m_queue m_leastTo)) := hD
  refine lv_aload_n hx hb dL_law_569 rfl (lv_at hl 2 rfl) ?_
  refine lv_aload_n hx hb dL_law_570 rfl (lv_at hl 0 rfl) ?_
  refine lv_iload_n hx hb dL_law_571 rfl (lv_at hl 3 rfl) ?_
  refine lv_iconst (v := 1) hx hb dL_law_572 (by decide) ?_
  refine lv_iadd hx hb dL_law_573 ?_
  refine va_sld hx hb hX hbl hbA hS h1 dL_law_574 ?_
  refine lv_aload_n hx hb dL_law_575 rfl (lv_at hl 0 rfl) ?_
  refine lv_iload_n hx hb dL_law_576 rfl (lv_at hl 3 rfl) ?_
  refine lv_iconst (v := 2) hx hb dL_law_577 (by decide) ?_
  refine lv_iadd hx hb dL_law_578 ?_
  refine va_sld hx hb hX hbl hbA hS h2 dL_law_579 ?_
  refine lv_aload_n hx hb dL_law_580 rfl (lv_at hl 0 rfl) ?_
  refine lv_iload_n hx hb dL_law_581 rfl (lv_at hl 3 rfl) ?_
  refine lv_iconst (v := 3) hx hb dL_law_582 (by decide) ?_
  refine lv_iadd hx hb dL_law_583 ?_
  refine va_sld hx hb hX hbl hbA hS h3 dL_law_584 ?_
  refine k_ciR (va_runV (As := [.int (xs (x3 + 1).toNatClampNeg), .int (xs (x3 + 2).toNatClampNeg), .int (xs (x3 + 3).toNatClampNeg)]) (rest := [.int o_r]) ⟨hx, hb, hml, hown, hts⟩ (c_X10_either l G 5000 m_h m_q m_onBy m_toldBy m_kindsOf m_nextOf m_holdsAt m_made m_standsFor m_madeNext m_madeHolds m_stateFor m_joined m_joinedNow m_firstIn m_orderOf m_classAt m_sets m_waysTo m_waysThen m_queue m_leastTo (xs (x3 + 1).toNatClampNeg) (xs (x3 + 2).toNatClampNeg) (xs (x3 + 3).toNatClampNeg) _ o_r o_ko o_nxo o_ha o_md o_sf o_mn o_mh o_sfo o_jd o_jn o_fi o_oo o_ca h10) (cwV 3 hts gL_law_X10_either rfl rfl rfl ⟨rfl, eX10_either⟩ ⟨Nat.le_of_ble_eq_true rfl, Nat.le_of_ble_eq_true rfl⟩) (preWV (ci := 10) (q0 := 0) hK hP.right hD.right rfl rfl) rfl rfl hl.1 rfl (lv_room (Nat.le_of_ble_eq_true rfl)) dL_law_585 ⟨by show cells + 5 + 0 ≤ 600000; omega, by show slots + (lw_gr d_rm o_rm) + (0) ≤ room_1.slots; omega⟩) hP hD hS hA (fun u10 H locs hP hD hS => ?_)
  have hP : va_P G.1 vwCl (((WX G z_h z_q z_fh z_hr z_hl z_hk z_he z_ht r_q l_hd k_hp e_hs e_q s_q t_q d_q u9 p_q r_goes r_told e_steps e_yes s_sets s_slots s_count t_ways t_freshWays t_leastTo t_waiting o_rm o_st o_kd o_od o_rooms o_dct o_nx o_sy o_nt o_so o_fr o_tb o_tn o_pct) ++ (WF G z_fh f_q o_fn o_fs o_fz)) ++ (WM G m_h m_q m_onBy m_toldBy o_ko o_nxo o_ha o_md o_sf o_mn o_mh o_sfo o_jd o_jn o_fi o_oo o_ca m_sets m_waysTo m_waysThen m_queue m_leastTo)) H := hP
  have hD : va_D A (((WX G z_h z_q z_fh z_hr z_hl z_hk z_he z_ht r_q l_hd k_hp e_hs e_q s_q t_q d_q u9 p_q r_goes r_told e_steps e_yes s_sets s_slots s_count t_ways t_freshWays t_leastTo t_waiting o_rm o_st o_kd o_od o_rooms o_dct o_nx o_sy o_nt o_so o_fr o_tb o_tn o_pct) ++ (WF G z_fh f_q o_fn o_fs o_fz)) ++ (WM G m_h m_q m_onBy m_toldBy o_ko o_nxo o_ha o_md o_sf o_mn o_mh o_sfo o_jd o_jn o_fi o_oo o_ca m_sets m_waysTo m_waysThen m_queue m_leastTo)) := hD
  refine lv_icmp_eq (tgt := 1010) hx hb dL_law_588 (by decide) (fun _ => ?_) (fun c9 => absurd rfl c9)
  refine W.widen (k := cells + 10) (n := slots + lw_gr d_rm o_rm) (by show cells + 5 + 0 ≤ cells + 10; omega) (by show slots + (lw_gr d_rm o_rm) + (0) ≤ slots + lw_gr d_rm o_rm; omega) ?_
  exact kk o_rm _ _ hgr ⟨z_q, z_fh, z_hr, z_hl, z_hk, z_he, z_ht, r_q, l_hd, k_hp, e_hs, e_q, s_q, t_q, d_q, u9, p_q, f_q, m_q, r_goes, r_told, e_steps, e_yes, s_sets, s_slots, s_count, t_ways, t_freshWays, t_leastTo, t_waiting, o_st, o_kd, o_od, o_rooms, o_dct, o_nx, o_sy, o_nt, o_so, o_fr, o_tb, o_tn, o_pct, o_fn, o_fs, o_fz, m_onBy, m_toldBy, o_ko, o_nxo, o_ha, o_md, o_sf, o_mn, o_mh, o_sfo, o_jd, o_jn, o_fi, o_oo, o_ca, m_sets, m_waysTo, m_waysThen, m_queue, m_leastTo, hrow, hcl1, hd1, hp1, hP, hD⟩ hS
set_option maxHeartbeats 8000000 in
set_option maxRecDepth 100000 in
theorem lc_not {p : Program} {l : Launch} {e : Env} {s : State} {m : MethodId} {below : List Frame} {meth : Method} {c : Code} {b L : Nat} {xs : Nat → Int32} {G : GG} {A : Nat → Prop} {Q : State → Prop} (C0 : lw_At p s m meth c b L xs) (hK : KN G s) (hA : ∀ q : Nat, s.heap.size ≤ q → A q) (hbA : ¬ A b) {z_h m_h d_rm : Nat} {H : Heap} {locs : List Loc} {cells slots : Nat} {x3 : Int32} {ls : Array Slot} (hI : LI G A z_h m_h d_rm H) (hS : va_S A s.heap H locs) (hl : lv_has ls 4 [(0, .ref b), (1, .ref z_h), (2, .ref m_h), (3, .int x3)]) (h1 : vp_in (x3 + 1) L) (h2 : vp_in (x3 + 2) L) (h3 : vp_in (x3 + 3) L) (h4 : vp_in (x3 + 4) L) (hcc : cells + 10 ≤ 600000) (hss : slots + 43200 ≤ room_1.slots)
    (kk : ∀ (rm1 : Nat) (H : Heap) (locs : List Loc), rl_gr d_rm rm1 → LI G A z_h m_h rm1 H → va_S A s.heap H locs → W p l e room_1 s m #[Value.ref b] below meth c H locs (cells + 10) (slots + lw_gr d_rm rm1) Q (F0 m 1010 ls [])) : W p l e room_1 s m #[Value.ref b] below meth c H locs cells slots Q (F0 m 593 ls []) := by
  obtain ⟨hx, hb, hr, hml, hown, hts0, hX, hbl, hlocks, hgv⟩ := id C0
  have hts : ∀ w ∈ wsL_law, w.before #[Value.ref b] s = true := fun w h => hts0 w (wsL_law_in w h)
  have hown : s.vm.findClass RL = some m.cls := hown
  obtain ⟨z_q, z_fh, z_hr, z_hl, z_hk, z_he, z_ht, r_q, l_hd, k_hp, e_hs, e_q, s_q, t_q, d_q, d_a, p_q, f_q, m_q, r_goes, r_told, e_steps, e_yes, s_sets, s_slots, s_count, t_ways, t_freshWays, t_leastTo, t_waiting, d_stateOf, d_kindOf, d_order, d_rooms, d_count, d_next, d_says, d_note, d_sort, d_freshSort, p_table, p_turn, p_count, f_next, f_says, f_size, m_onBy, m_toldBy, m_kindsOf, m_nextOf, m_holdsAt, m_made, m_standsFor, m_madeNext, m_madeHolds, m_stateFor, m_joined, m_joinedNow, m_firstIn, m_orderOf, m_classAt, m_sets, m_waysTo, m_waysThen, m_queue, m_leastTo, hrow, hcl, hd, hp, hP, hD⟩ := hI
  obtain ⟨o_r, o_fn, o_fs, o_fz, o_ko, o_nxo, o_ha, o_md, o_mn, o_mh, o_jd, o_jn, o_fi, o_oo, o_ca, h9, h10, hcl1⟩ := op_not (Nat.le_refl 5000) hcl m_made m_madeNext m_madeHolds m_joined m_joinedNow m_firstIn m_orderOf m_classAt (xs (x3 + 1).toNatClampNeg) (xs (x3 + 2).toNatClampNeg)
  refine lv_aload_n hx hb dL_law_593 rfl (lv_at hl 1 rfl) ?_
  refine lv_aload_n hx hb dL_law_594 rfl (lv_at hl 0 rfl) ?_
  refine lv_iload_n hx hb dL_law_595 rfl (lv_at hl 3 rfl) ?_
  refine lv_iconst (v := 1) hx hb dL_law_596 (by decide) ?_
  refine lv_iadd hx hb dL_law_597 ?_
  refine va_sld hx hb hX hbl hbA hS h1 dL_law_598 ?_
  refine lv_aload_n hx hb dL_law_599 rfl (lv_at hl 0 rfl) ?_
  refine lv_iload_n hx hb dL_law_600 rfl (lv_at hl 3 rfl) ?_
  refine lv_iconst (v := 2) hx hb dL_law_601 (by decide) ?_
  refine lv_iadd hx hb dL_law_602 ?_
  refine va_sld hx hb hX hbl hbA hS h2 dL_law_603 ?_
  refine k_ciL (va_runV (As := [.int (xs (x3 + 1).toNatClampNeg), .int (xs (x3 + 2).toNatClampNeg)]) (rest := []) ⟨hx, hb, hml, hown, hts⟩ (c_X9_not l G 5000 z_h z_q z_fh z_hr z_hl z_hk z_he z_ht r_q l_hd k_hp e_hs e_q s_q t_q d_q d_a p_q f_q r_goes r_told e_steps e_yes s_sets s_slots s_count t_ways t_freshWays t_leastTo t_waiting d_rm d_stateOf d_kindOf d_order d_rooms d_count d_next d_says d_note d_sort d_freshSort p_table p_turn p_count f_next f_says f_size (xs (x3 + 1).toNatClampNeg) (xs (x3 + 2).toNatClampNeg) _ o_r o_fn o_fs o_fz h9) (cwV 2 hts gL_law_X9_not rfl rfl rfl ⟨rfl, eX9_not⟩ ⟨Nat.le_of_ble_eq_true rfl, Nat.le_of_ble_eq_true rfl⟩) (preWV (ci := 9) (q0 := 0) hK hP.left hD.left rfl rfl) rfl rfl hl.1 rfl (lv_room (Nat.le_of_ble_eq_true rfl)) dL_law_604 ⟨by show cells + 0 ≤ 600000; omega, by show slots + (0) ≤ room_1.slots; omega⟩) hP hD hS hA (fun u9 H locs hP hD hS => ?_)
  have hP : va_P G.1 vwCl (((WX G z_h z_q z_fh z_hr z_hl z_hk z_he z_ht r_q l_hd k_hp e_hs e_q s_q t_q d_q d_a p_q r_goes r_told e_steps e_yes s_sets s_slots s_count t_ways t_freshWays t_leastTo t_waiting d_rm d_stateOf d_kindOf d_order d_rooms d_count d_next d_says d_note d_sort d_freshSort p_table p_turn p_count) ++ (WF G z_fh f_q o_fn o_fs o_fz)) ++ (WM G m_h m_q m_onBy m_toldBy m_kindsOf m_nextOf m_holdsAt m_made m_standsFor m_madeNext m_madeHolds m_stateFor m_joined m_joinedNow m_firstIn m_orderOf m_classAt m_sets m_waysTo m_waysThen m_queue m_leastTo)) H := hP
  have hD : va_D A (((WX G z_h z_q z_fh z_hr z_hl z_hk z_he z_ht r_q l_hd k_hp e_hs e_q s_q t_q d_q d_a p_q r_goes r_told e_steps e_yes s_sets s_slots s_count t_ways t_freshWays t_leastTo t_waiting d_rm d_stateOf d_kindOf d_order d_rooms d_count d_next d_says d_note d_sort d_freshSort p_table p_turn p_count) ++ (WF G z_fh f_q o_fn o_fs o_fz)) ++ (WM G m_h m_q m_onBy m_toldBy m_kindsOf m_nextOf m_holdsAt m_made m_standsFor m_madeNext m_madeHolds m_stateFor m_joined m_joinedNow m_firstIn m_orderOf m_classAt m_sets m_waysTo m_waysThen m_queue m_leastTo)) := hD
  refine lv_aload_n hx hb dL_law_607 rfl (lv_at hl 2 rfl) ?_
  refine lv_aload_n hx hb dL_law_608 rfl (lv_at hl 0 rfl) ?_
  refine lv_iload_n hx hb dL_law_609 rfl (lv_at hl 3 rfl) ?_
  refine lv_iconst (v := 1) hx hb dL_law_610 (by decide) ?_
  refine lv_iadd hx hb dL_law_611 ?_
  refine va_sld hx hb hX hbl hbA hS h1 dL_law_612 ?_
  refine lv_aload_n hx hb dL_law_613 rfl (lv_at hl 0 rfl) ?_
  refine lv_iload_n hx hb dL_law_614 rfl (lv_at hl 3 rfl) ?_
  refine lv_iconst (v := 2) hx hb dL_law_615 (by decide) ?_
  refine lv_iadd hx hb dL_law_616 ?_
  refine va_sld hx hb hX hbl hbA hS h2 dL_law_617 ?_
  refine k_ciR (va_runV (As := [.int (xs (x3 + 1).toNatClampNeg), .int (xs (x3 + 2).toNatClampNeg)]) (rest := [.int o_r]) ⟨hx, hb, hml, hown, hts⟩ (c_X10_not l G 5000 m_h m_q m_onBy m_toldBy m_kindsOf m_nextOf m_holdsAt m_made m_standsFor m_madeNext m_madeHolds m_stateFor m_joined m_joinedNow m_firstIn m_orderOf m_classAt m_sets m_waysTo m_waysThen m_queue m_leastTo (xs (x3 + 1).toNatClampNeg) (xs (x3 + 2).toNatClampNeg) _ o_r o_ko o_nxo o_ha o_md o_mn o_mh o_jd o_jn o_fi o_oo o_ca h10) (cwV 2 hts gL_law_X10_not rfl rfl rfl ⟨rfl, eX10_not⟩ ⟨Nat.le_of_ble_eq_true rfl, Nat.le_of_ble_eq_true rfl⟩) (preWV (ci := 10) (q0 := 0) hK hP.right hD.right rfl rfl) rfl rfl hl.1 rfl (lv_room (Nat.le_of_ble_eq_true rfl)) dL_law_618 ⟨by show cells + 0 + 0 ≤ 600000; omega, by show slots + (0) + (0) ≤ room_1.slots; omega⟩) hP hD hS hA (fun u10 H locs hP hD hS => ?_)
  have hP : va_P G.1 vwCl (((WX G z_h z_q z_fh z_hr z_hl z_hk z_he z_ht r_q l_hd k_hp e_hs e_q s_q t_q d_q d_a p_q r_goes r_told e_steps e_yes s_sets s_slots s_count t_ways t_freshWays t_leastTo t_waiting d_rm d_stateOf d_kindOf d_order d_rooms d_count d_next d_says d_note d_sort d_freshSort p_table p_turn p_count) ++ (WF G z_fh f_q o_fn o_fs o_fz)) ++ (WM G m_h m_q m_onBy m_toldBy o_ko o_nxo o_ha o_md m_standsFor o_mn o_mh m_stateFor o_jd o_jn o_fi o_oo o_ca m_sets m_waysTo m_waysThen m_queue m_leastTo)) H := hP
  have hD : va_D A (((WX G z_h z_q z_fh z_hr z_hl z_hk z_he z_ht r_q l_hd k_hp e_hs e_q s_q t_q d_q d_a p_q r_goes r_told e_steps e_yes s_sets s_slots s_count t_ways t_freshWays t_leastTo t_waiting d_rm d_stateOf d_kindOf d_order d_rooms d_count d_next d_says d_note d_sort d_freshSort p_table p_turn p_count) ++ (WF G z_fh f_q o_fn o_fs o_fz)) ++ (WM G m_h m_q m_onBy m_toldBy o_ko o_nxo o_ha o_md m_standsFor o_mn o_mh m_stateFor o_jd o_jn o_fi o_oo o_ca m_sets m_waysTo m_waysThen m_queue m_leastTo)) := hD
  refine lv_icmp_eq (tgt := 1010) hx hb dL_law_621 (by decide) (fun _ => ?_) (fun c9 => absurd rfl c9)
  refine W.widen (k := cells + 10) (n := slots + lw_gr d_rm d_rm) (by show cells + 0 + 0 ≤ cells + 10; omega) (by show slots + (0) + (0) ≤ slots + lw_gr d_rm d_rm; omega) ?_
  exact kk d_rm _ _ (Or.inl rfl) ⟨z_q, z_fh, z_hr, z_hl, z_hk, z_he, z_ht, r_q, l_hd, k_hp, e_hs, e_q, s_q, t_q, d_q, d_a, p_q, f_q, m_q, r_goes, r_told, e_steps, e_yes, s_sets, s_slots, s_count, t_ways, t_freshWays, t_leastTo, t_waiting, d_stateOf, d_kindOf, d_order, d_rooms, d_count, d_next, d_says, d_note, d_sort, d_freshSort, p_table, p_turn, p_count, o_fn, o_fs, o_fz, m_onBy, m_toldBy, o_ko, o_nxo, o_ha, o_md, m_standsFor, o_mn, o_mh, m_stateFor, o_jd, o_jn, o_fi, o_oo, o_ca, m_sets, m_waysTo, m_waysThen, m_queue, m_leastTo, hrow, hcl1, hd, hp, hP, hD⟩ hS
