set_option maxHeartbeats 8000000 in
set_option maxRecDepth 100000 in
theorem lc_swap {p : Program} {l : Launch} {e : Env} {s : State} {m : MethodId} {below : List Frame} {meth : Method} {c : Code} {b L : Nat} {xs : Nat → Int32} {G : GG} {A : Nat → Prop} {Q : State → Prop} (C0 : lw_At p s m meth c b L xs) (hK : KN G s) (hA : ∀ q : Nat, s.heap.size ≤ q → A q) (hbA : ¬ A b) {z_h m_h d_rm : Nat} {H : Heap} {locs : List Loc} {cells slots : Nat} {x3 : Int32} {ls : Array Slot} (hI : LI G A z_h m_h d_rm H) (hS : va_S A s.heap H locs) (hl : lv_has ls 4 [(0, .ref b), (1, .ref z_h), (2, .ref m_h), (3, .int x3)]) (h1 : vp_in (x3 + 1) L) (h2 : vp_in (x3 + 2) L) (h3 : vp_in (x3 + 3) L) (h4 : vp_in (x3 + 4) L) (hcc : cells + 10 ≤ 600000) (hss : slots + 43200 ≤ room_1.slots)
    (kk : ∀ (rm1 : Nat) (H : Heap) (locs : List Loc), rl_gr d_rm rm1 → LI G A z_h m_h rm1 H → va_S A s.heap H locs → W p l e room_1 s m #[Value.ref b] below meth c H locs (cells + 10) (slots + lw_gr d_rm rm1) Q (F0 m 1010 ls [])) : W p l e room_1 s m #[Value.ref b] below meth c H locs cells slots Q (F0 m 626 ls []) := by
  obtain ⟨hx, hb, hr, hml, hown, hts0, hX, hbl, hlocks, hgv⟩ := id C0
  have hts : ∀ w ∈ wsL_law, w.before #[Value.ref b] s = true := fun w h => hts0 w (wsL_law_in w h)
  have hown : s.vm.findClass RL = some m.cls := hown
  obtain ⟨z_q, z_fh, z_hr, z_hl, z_hk, z_he, z_ht, r_q, l_hd, k_hp, e_hs, e_q, s_q, t_q, d_q, d_a, p_q, f_q, m_q, r_goes, r_told, e_steps, e_yes, s_sets, s_slots, s_count, t_ways, t_freshWays, t_leastTo, t_waiting, d_stateOf, d_kindOf, d_order, d_rooms, d_count, d_next, d_says, d_note, d_sort, d_freshSort, p_table, p_turn, p_count, f_next, f_says, f_size, m_onBy, m_toldBy, m_kindsOf, m_nextOf, m_holdsAt, m_made, m_standsFor, m_madeNext, m_madeHolds, m_stateFor, m_joined, m_joinedNow, m_firstIn, m_orderOf, m_classAt, m_sets, m_waysTo, m_waysThen, m_queue, m_leastTo, hrow, hcl, hd, hp, hP, hD⟩ := hI
  obtain ⟨o_r, o_rm, o_st, o_kd, o_od, o_rooms, o_dct, o_nx, o_sy, o_nt, o_so, o_fr, o_tb, o_tn, o_pct, o_fn, o_fs, o_fz, o_ko, o_nxo, o_ha, o_md, o_mn, o_mh, o_jd, o_jn, o_fi, o_oo, o_ca, h9, h10, hcl1, hd1, hp1, hgr⟩ := op_swap (Nat.le_refl 5000) hd hp hcl d_stateOf d_kindOf d_order d_next d_says d_note d_sort d_freshSort d_count p_count m_made m_madeNext m_madeHolds m_joined m_joinedNow m_firstIn m_orderOf m_classAt (xs (x3 + 1).toNatClampNeg) (xs (x3 + 2).toNatClampNeg) (xs (x3 + 3).toNatClampNeg) (xs (x3 + 4).toNatClampNeg)
  have hgl := lw_gr_le (a := d_rm) hd1.2.2
  refine lv_aload_n hx hb dL_law_626 rfl (lv_at hl 1 rfl) ?_
  refine lv_aload_n hx hb dL_law_627 rfl (lv_at hl 0 rfl) ?_
  refine lv_iload_n hx hb dL_law_628 rfl (lv_at hl 3 rfl) ?_
  refine lv_iconst (v := 1) hx hb dL_law_629 (by decide) ?_
  refine lv_iadd hx hb dL_law_630 ?_
  refine va_sld hx hb hX hbl hbA hS h1 dL_law_631 ?_
  refine lv_aload_n hx hb dL_law_632 rfl (lv_at hl 0 rfl) ?_
  refine lv_iload_n hx hb dL_law_633 rfl (lv_at hl 3 rfl) ?_
  refine lv_iconst (v := 2) hx hb dL_law_634 (by decide) ?_
  refine lv_iadd hx hb dL_law_635 ?_
  refine va_sld hx hb hX hbl hbA hS h2 dL_law_636 ?_
  refine lv_aload_n hx hb dL_law_637 rfl (lv_at hl 0 rfl) ?_
  refine lv_iload_n hx hb dL_law_638 rfl (lv_at hl 3 rfl) ?_
  refine lv_iconst (v := 3) hx hb dL_law_639 (by decide) ?_
  refine lv_iadd hx hb dL_law_640 ?_
  refine va_sld hx hb hX hbl hbA hS h3 dL_law_641 ?_
  refine lv_aload_n hx hb dL_law_642 rfl (lv_at hl 0 rfl) ?_
  refine lv_iload_n hx hb dL_law_643 rfl (lv_at hl 3 rfl) ?_
  refine lv_iconst (v := 4) hx hb dL_law_644 (by decide) ?_
  refine lv_iadd hx hb dL_law_645 ?_
  refine va_sld hx hb hX hbl hbA hS h4 dL_law_646 ?_
  refine k_ciL (va_runV (As := [.int (xs (x3 + 1).toNatClampNeg), .int (xs (x3 + 2).toNatClampNeg), .int (xs (x3 + 3).toNatClampNeg), .int (xs (x3 + 4).toNatClampNeg)]) (rest := []) ⟨hx, hb, hml, hown, hts⟩ (c_X9_swap l G 5000 z_h z_q z_fh z_hr z_hl z_hk z_he z_ht r_q l_hd k_hp e_hs e_q s_q t_q d_q d_a p_q f_q r_goes r_told e_steps e_yes s_sets s_slots s_count t_ways t_freshWays t_leastTo t_waiting d_rm d_stateOf d_kindOf d_order d_rooms d_count d_next d_says d_note d_sort d_freshSort p_table p_turn p_count f_next f_says f_size (xs (x3 + 1).toNatClampNeg) (xs (x3 + 2).toNatClampNeg) (xs (x3 + 3).toNatClampNeg) (xs (x3 + 4).toNatClampNeg) o_rm (lw_gr d_rm o_rm) (lw_gr_ok d_rm o_rm) _ o_r o_rm o_st o_kd o_od o_rooms o_dct o_nx o_sy o_nt o_so o_fr o_tb o_tn o_pct o_fn o_fs o_fz h9) (cwV 4 hts gL_law_X9_swap rfl rfl rfl ⟨rfl, eX9_swap⟩ ⟨Nat.le_of_ble_eq_true rfl, Nat.le_of_ble_eq_true rfl⟩) (preWV (ci := 9) (q0 := 0) hK hP.left hD.left rfl rfl) rfl rfl hl.1 rfl (lv_room (Nat.le_of_ble_eq_true rfl)) dL_law_647 ⟨by show cells + 5 ≤ 600000; omega, by show slots + (lw_gr d_rm o_rm) ≤ room_1.slots; omega⟩) hP hD hS hA (fun u9 H locs hP hD hS => ?_)
  have hP : va_P G.1 vwCl (((WX G z_h z_q z_fh z_hr z_hl z_hk z_he z_ht r_q l_hd k_hp e_hs e_q s_q t_q d_q u9 p_q r_goes r_told e_steps e_yes s_sets s_slots s_count t_ways t_freshWays t_leastTo t_waiting o_rm o_st o_kd o_od o_rooms o_dct o_nx o_sy o_nt o_so o_fr o_tb o_tn o_pct) ++ (WF G z_fh f_q o_fn o_fs o_fz)) ++ (WM G m_h m_q m_onBy m_toldBy m_kindsOf m_nextOf m_holdsAt m_made m_standsFor m_madeNext m_madeHolds m_stateFor m_joined m_joinedNow m_firstIn m_orderOf m_classAt m_sets m_waysTo m_waysThen m_queue m_leastTo)) H := hP
  have hD : va_D A (((WX G z_h z_q z_fh z_hr z_hl z_hk z_he z_ht r_q l_hd k_hp e_hs e_q s_q t_q d_q u9 p_q r_goes r_told e_steps e_yes s_sets s_slots s_count t_ways t_freshWays t_leastTo t_waiting o_rm o_st o_kd o_od o_rooms o_dct o_nx o_sy o_nt o_so o_fr o_tb o_tn o_pct) ++ (WF G z_fh f_q o_fn o_fs o_fz)) ++ (WM G m_h m_q m_onBy m_toldBy m_kindsOf m_nextOf m_holdsAt m_made m_standsFor m_madeNext m_madeHolds m_stateFor m_joined m_joinedNow m_firstIn m_orderOf m_classAt m_sets m_waysTo m_waysThen m_queue m_leastTo)) := hD
  refine lv_aload_n hx hb dL_law_650 rfl (lv_at hl 2 rfl) ?_
  refine lv_aload_n hx hb dL_law_651 rfl (lv_at hl 0 rfl) ?_
  refine lv_iload_n hx hb dL_law_652 rfl (lv_at hl 3 rfl) ?_
  refine lv_iconst (v := 1) hx hb dL_law_653 (by decide) ?_
  refine lv_iadd hx hb dL_law_654 ?_
  refine va_sld hx hb hX hbl hbA hS h1 dL_law_655 ?_
  refine lv_aload_n hx hb dL_law_656 rfl (lv_at hl 0 rfl) ?_
  refine lv_iload_n hx hb dL_law_657 rfl (lv_at hl 3 rfl) ?_
  refine lv_iconst (v := 2) hx hb dL_law_658 (by decide) ?_
  refine lv_iadd hx hb dL_law_659 ?_
  refine va_sld hx hb hX hbl hbA hS h2 dL_law_660 ?_
  refine lv_aload_n hx hb dL_law_661 rfl (lv_at hl 0 rfl) ?_
  refine lv_iload_n hx hb dL_law_662 rfl (lv_at hl 3 rfl) ?_
  refine lv_iconst (v := 3) hx hb dL_law_663 (by decide) ?_
  refine lv_iadd hx hb dL_law_664 ?_
  refine va_sld hx hb hX hbl hbA hS h3 dL_law_665 ?_
  refine lv_aload_n hx hb dL_law_666 rfl (lv_at hl 0 rfl) ?_
  refine lv_iload_n hx hb dL_law_667 rfl (lv_at hl 3 rfl) ?_
  refine lv_iconst (v := 4) hx hb dL_law_668 (by decide) ?_
  refine lv_iadd hx hb dL_law_669 ?_
  refine va_sld hx hb hX hbl hbA hS h4 dL_law_670 ?_
  refine k_ciR (va_runV (As := [.int (xs (x3 + 1).toNatClampNeg), .int (xs (x3 + 2).toNatClampNeg), .int (xs (x3 + 3).toNatClampNeg), .int (xs (x3 + 4).toNatClampNeg)]) (rest := [.int o_r]) ⟨hx, hb, hml, hown, hts⟩ (c_X10_swap l G 5000 m_h m_q m_onBy m_toldBy m_kindsOf m_nextOf m_holdsAt m_made m_standsFor m_madeNext m_madeHolds m_stateFor m_joined m_joinedNow m_firstIn m_orderOf m_classAt m_sets m_waysTo m_waysThen m_queue m_leastTo (xs (x3 + 1).toNatClampNeg) (xs (x3 + 2).toNatClampNeg) (xs (x3 + 3).toNatClampNeg) (xs (x3 + 4).toNatClampNeg) _ o_r o_ko o_nxo o_ha o_md o_mn o_mh o_jd o_jn o_fi o_oo o_ca h10) (cwV 4 hts gL_law_X10_swap rfl rfl rfl ⟨rfl, eX10_swap⟩ ⟨Nat.le_of_ble_eq_true rfl, Nat.le_of_ble_eq_true rfl⟩) (preWV (ci := 10) (q0 := 0) hK hP.right hD.right rfl rfl) rfl rfl hl.1 rfl (lv_room (Nat.le_of_ble_eq_true rfl)) dL_law_671 ⟨by show cells + 5 + 0 ≤ 600000; omega, by show slots + (lw_gr d_rm o_rm) + (0) ≤ room_1.slots; omega⟩) hP hD hS hA (fun u10 H locs hP hD hS => ?_)
  have hP : va_P G.1 vwCl (((WX G z_h z_q z_fh z_hr z_hl z_hk z_he z_ht r_q l_hd k_hp e_hs e_q s_q t_q d_q u9 p_q r_goes r_told e_steps e_yes s_sets s_slots s_count t_ways t_freshWays t_leastTo t_waiting o_rm o_st o_kd o_od o_rooms o_dct o_nx o_sy o_nt o_so o_fr o_tb o_tn o_pct) ++ (WF G z_fh f_q o_fn o_fs o_fz)) ++ (WM G m_h m_q m_onBy m_toldBy o_ko o_nxo o_ha o_md m_standsFor o_mn o_mh m_stateFor o_jd o_jn o_fi o_oo o_ca m_sets m_waysTo m_waysThen m_queue m_leastTo)) H := hP
  have hD : va_D A (((WX G z_h z_q z_fh z_hr z_hl z_hk z_he z_ht r_q l_hd k_hp e_hs e_q s_q t_q d_q u9 p_q r_goes r_told e_steps e_yes s_sets s_slots s_count t_ways t_freshWays t_leastTo t_waiting o_rm o_st o_kd o_od o_rooms o_dct o_nx o_sy o_nt o_so o_fr o_tb o_tn o_pct) ++ (WF G z_fh f_q o_fn o_fs o_fz)) ++ (WM G m_h m_q m_onBy m_toldBy o_ko o_nxo o_ha o_md m_standsFor o_mn o_mh m_stateFor o_jd o_jn o_fi o_oo o_ca m_sets m_waysTo m_waysThen m_queue m_leastTo)) := hD
  refine lv_icmp_eq (tgt := 1010) hx hb dL_law_674 (by decide) (fun _ => ?_) (fun c9 => absurd rfl c9)
  refine W.widen (k := cells + 10) (n := slots + lw_gr d_rm o_rm) (by show cells + 5 + 0 ≤ cells + 10; omega) (by show slots + (lw_gr d_rm o_rm) + (0) ≤ slots + lw_gr d_rm o_rm; omega) ?_
  exact kk o_rm _ _ hgr ⟨z_q, z_fh, z_hr, z_hl, z_hk, z_he, z_ht, r_q, l_hd, k_hp, e_hs, e_q, s_q, t_q, d_q, u9, p_q, f_q, m_q, r_goes, r_told, e_steps, e_yes, s_sets, s_slots, s_count, t_ways, t_freshWays, t_leastTo, t_waiting, o_st, o_kd, o_od, o_rooms, o_dct, o_nx, o_sy, o_nt, o_so, o_fr, o_tb, o_tn, o_pct, o_fn, o_fs, o_fz, m_onBy, m_toldBy, o_ko, o_nxo, o_ha, o_md, m_standsFor, o_mn, o_mh, m_stateFor, o_jd, o_jn, o_fi, o_oo, o_ca, m_sets, m_waysTo, m_waysThen, m_queue, m_leastTo, hrow, hcl1, hd1, hp1, hP, hD⟩ hS
set_option maxHeartbeats 8000000 in
set_option maxRecDepth 100000 in
theorem lc_some {p : Program} {l : Launch} {e : Env} {s : State} {m : MethodId} {below : List Frame} {meth : Method} {c : Code} {b L : Nat} {xs : Nat → Int32} {G : GG} {A : Nat → Prop} {Q : State → Prop} (C0 : lw_At p s m meth c b L xs) (hK : KN G s) (hA : ∀ q : Nat, s.heap.size ≤ q → A q) (hbA : ¬ A b) {z_h m_h d_rm : Nat} {H : Heap} {locs : List Loc} {cells slots : Nat} {x3 : Int32} {ls : Array Slot} (hI : LI G A z_h m_h d_rm H) (hS : va_S A s.heap H locs) (hl : lv_has ls 4 [(0, .ref b), (1, .ref z_h), (2, .ref m_h), (3, .int x3)]) (h1 : vp_in (x3 + 1) L) (h2 : vp_in (x3 + 2) L) (h3 : vp_in (x3 + 3) L) (h4 : vp_in (x3 + 4) L) (hcc : cells + 10 ≤ 600000) (hss : slots + 43200 ≤ room_1.slots)
    (kk : ∀ (rm1 : Nat) (H : Heap) (locs : List Loc), rl_gr d_rm rm1 → LI G A z_h m_h rm1 H → va_S A s.heap H locs → W p l e room_1 s m #[Value.ref b] below meth c H locs (cells + 10) (slots + lw_gr d_rm rm1) Q (F0 m 1010 ls [])) : W p l e room_1 s m #[Value.ref b] below meth c H locs cells slots Q (F0 m 679 ls []) := by
  obtain ⟨hx, hb, hr, hml, hown, hts0, hX, hbl, hlocks, hgv⟩ := id C0
  have hts : ∀ w ∈ wsL_law, w.before #[Value.ref b] s = true := fun w h => hts0 w (wsL_law_in w h)
  have hown : s.vm.findClass RL = some m.cls := hown
  obtain ⟨z_q, z_fh, z_hr, z_hl, z_hk, z_he, z_ht, r_q, l_hd, k_hp, e_hs, e_q, s_q, t_q, d_q, d_a, p_q, f_q, m_q, r_goes, r_told, e_steps, e_yes, s_sets, s_slots, s_count, t_ways, t_freshWays, t_leastTo, t_waiting, d_stateOf, d_kindOf, d_order, d_rooms, d_count, d_next, d_says, d_note, d_sort, d_freshSort, p_table, p_turn, p_count, f_next, f_says, f_size, m_onBy, m_toldBy, m_kindsOf, m_nextOf, m_holdsAt, m_made, m_standsFor, m_madeNext, m_madeHolds, m_stateFor, m_joined, m_joinedNow, m_firstIn, m_orderOf, m_classAt, m_sets, m_waysTo, m_waysThen, m_queue, m_leastTo, hrow, hcl, hd, hp, hP, hD⟩ := hI
  obtain ⟨o_r, o_es, o_ey, o_sets, o_slots, o_cnt, o_rm, o_st, o_kd, o_od, o_rooms, o_dct, o_nx, o_sy, o_nt, o_so, o_fr, o_tb, o_tn, o_pct, o_fn, o_fs, o_fz, o_ko, o_nxo, o_ha, o_md, o_mn, o_mh, o_jd, o_jn, o_fi, o_oo, o_ca, o_ms, h9, h10, hcl1, hd1, hp1, hgr⟩ := op_some (Nat.le_refl 5000) hd hp hcl e_steps e_yes s_sets s_slots s_count d_stateOf d_kindOf d_order d_next d_says d_note d_sort d_freshSort d_count p_count m_made m_madeNext m_madeHolds m_joined m_joinedNow m_firstIn m_orderOf m_classAt m_sets (xs (x3 + 1).toNatClampNeg) (xs (x3 + 2).toNatClampNeg) (xs (x3 + 3).toNatClampNeg)
  have hgl := lw_gr_le (a := d_rm) hd1.2.2
  refine lv_aload_n hx hb dL_law_679 rfl (lv_at hl 1 rfl) ?_
  refine lv_aload_n hx hb dL_law_680 rfl (lv_at hl 0 rfl) ?_
  refine lv_iload_n hx hb dL_law_681 rfl (lv_at hl 3 rfl) ?_
  refine lv_iconst (v := 1) hx hb dL_law_682 (by decide) ?_
  refine lv_iadd hx hb dL_law_683 ?_
  refine va_sld hx hb hX hbl hbA hS h1 dL_law_684 ?_
  refine lv_aload_n hx hb dL_law_685 rfl (lv_at hl 0 rfl) ?_
  refine lv_iload_n hx hb dL_law_686 rfl (lv_at hl 3 rfl) ?_
  refine lv_iconst (v := 2) hx hb dL_law_687 (by decide) ?_
  refine lv_iadd hx hb dL_law_688 ?_
  refine va_sld hx hb hX hbl hbA hS h2 dL_law_689 ?_
  refine lv_aload_n hx hb dL_law_690 rfl (lv_at hl 0 rfl) ?_
  refine lv_iload_n hx hb dL_law_691 rfl (lv_at hl 3 rfl) ?_
  refine lv_iconst (v := 3) hx hb dL_law_692 (by decide) ?_
  refine lv_iadd hx hb dL_law_693 ?_
  refine va_sld hx hb hX hbl hbA hS h3 dL_law_694 ?_
  refine k_ciL (va_runV (As := [.int (xs (x3 + 1).toNatClampNeg), .int (xs (x3 + 2).toNatClampNeg), .int (xs (x3 + 3).toNatClampNeg)]) (rest := []) ⟨hx, hb, hml, hown, hts⟩ (c_X9_some l G 5000 z_h z_q z_fh z_hr z_hl z_hk z_he z_ht r_q l_hd k_hp e_hs e_q s_q t_q d_q d_a p_q f_q r_goes r_told e_steps e_yes s_sets s_slots s_count t_ways t_freshWays t_leastTo t_waiting d_rm d_stateOf d_kindOf d_order d_rooms d_count d_next d_says d_note d_sort d_freshSort p_table p_turn p_count f_next f_says f_size (xs (x3 + 1).toNatClampNeg) (xs (x3 + 2).toNatClampNeg) (xs (x3 + 3).toNatClampNeg) o_rm (lw_gr d_rm o_rm) (lw_gr_ok d_rm o_rm) _ o_r o_es o_ey o_sets o_slots o_cnt o_rm o_st o_kd o_od o_rooms o_dct o_nx o_sy o_nt o_so o_fr o_tb o_tn o_pct o_fn o_fs o_fz h9) (cwV 3 hts gL_law_X9_some rfl rfl rfl ⟨rfl, eX9_some⟩ ⟨Nat.le_of_ble_eq_true rfl, Nat.le_of_ble_eq_true rfl⟩) (preWV (ci := 9) (q0 := 0) hK hP.left hD.left rfl rfl) rfl rfl hl.1 rfl (lv_room (Nat.le_of_ble_eq_true rfl)) dL_law_695 ⟨by show cells + 5 ≤ 600000; omega, by show slots + (lw_gr d_rm o_rm) ≤ room_1.slots; omega⟩) hP hD hS hA (fun u9 H locs hP hD hS => ?_)
  have hP : va_P G.1 vwCl (((WX G z_h z_q z_fh z_hr z_hl z_hk z_he z_ht r_q l_hd k_hp e_hs e_q s_q t_q d_q u9 p_q r_goes r_told o_es o_ey o_sets o_slots o_cnt t_ways t_freshWays t_leastTo t_waiting o_rm o_st o_kd o_od o_rooms o_dct o_nx o_sy o_nt o_so o_fr o_tb o_tn o_pct) ++ (WF G z_fh f_q o_fn o_fs o_fz)) ++ (WM G m_h m_q m_onBy m_toldBy m_kindsOf m_nextOf m_holdsAt m_made m_standsFor m_madeNext m_madeHolds m_stateFor m_joined m_joinedNow m_firstIn m_orderOf m_classAt m_sets m_waysTo m_waysThen m_queue m_leastTo)) H := hP
  have hD : va_D A (((WX G z_h z_q z_fh z_hr z_hl z_hk z_he z_ht r_q l_hd k_hp e_hs e_q s_q t_q d_q u9 p_q r_goes r_told o_es o_ey o_sets o_slots o_cnt t_ways t_freshWays t_leastTo t_waiting o_rm o_st o_kd o_od o_rooms o_dct o_nx o_sy o_nt o_so o_fr o_tb o_tn o_pct) ++ (WF G z_fh f_q o_fn o_fs o_fz)) ++ (WM G m_h m_q m_onBy m_toldBy m_kindsOf m_nextOf m_holdsAt m_made m_standsFor m_madeNext m_madeHolds m_stateFor m_joined m_joinedNow m_firstIn m_orderOf m_classAt m_sets m_waysTo m_waysThen m_queue m_leastTo)) := hD
  refine lv_aload_n hx hb dL_law_698 rfl (lv_at hl 2 rfl) ?_
  refine lv_aload_n hx hb dL_law_699 rfl (lv_at hl 0 rfl) ?_
  refine lv_iload_n hx hb dL_law_700 rfl (lv_at hl 3 rfl) ?_
  refine lv_iconst (v := 1) hx hb dL_law_701 (by decide) ?_
  refine lv_iadd hx hb dL_law_702 ?_
  refine va_sld hx hb hX hbl hbA hS h1 dL_law_703 ?_
  refine lv_aload_n hx hb dL_law_704 rfl (lv_at hl 0 rfl) ?_
  refine lv_iload_n hx hb dL_law_705 rfl (lv_at hl 3 rfl) ?_
  refine lv_iconst (v := 2) hx hb dL_law_706 (by decide) ?_
  refine lv_iadd hx hb dL_law_707 ?_
  refine va_sld hx hb hX hbl hbA hS h2 dL_law_708 ?_
  refine lv_aload_n hx hb dL_law_709 rfl (lv_at hl 0 rfl) ?_
  refine lv_iload_n hx hb dL_law_710 rfl (lv_at hl 3 rfl) ?_
  refine lv_iconst (v := 3) hx hb dL_law_711 (by decide) ?_
  refine lv_iadd hx hb dL_law_712 ?_
  refine va_sld hx hb hX hbl hbA hS h3 dL_law_713 ?_
  refine k_ciR (va_runV (As := [.int (xs (x3 + 1).toNatClampNeg), .int (xs (x3 + 2).toNatClampNeg), .int (xs (x3 + 3).toNatClampNeg)]) (rest := [.int o_r]) ⟨hx, hb, hml, hown, hts⟩ (c_X10_some l G 5000 m_h m_q m_onBy m_toldBy m_kindsOf m_nextOf m_holdsAt m_made m_standsFor m_madeNext m_madeHolds m_stateFor m_joined m_joinedNow m_firstIn m_orderOf m_classAt m_sets m_waysTo m_waysThen m_queue m_leastTo (xs (x3 + 1).toNatClampNeg) (xs (x3 + 2).toNatClampNeg) (xs (x3 + 3).toNatClampNeg) _ o_r o_ko o_nxo o_ha o_md o_mn o_mh o_jd o_jn o_fi o_oo o_ca o_ms h10) (cwV 3 hts gL_law_X10_some rfl rfl rfl ⟨rfl, eX10_some⟩ ⟨Nat.le_of_ble_eq_true rfl, Nat.le_of_ble_eq_true rfl⟩) (preWV (ci := 10) (q0 := 0) hK hP.right hD.right rfl rfl) rfl rfl hl.1 rfl (lv_room (Nat.le_of_ble_eq_true rfl)) dL_law_714 ⟨by show cells + 5 + 0 ≤ 600000; omega, by show slots + (lw_gr d_rm o_rm) + (0) ≤ room_1.slots; omega⟩) hP hD hS hA (fun u10 H locs hP hD hS => ?_)
  have hP : va_P G.1 vwCl (((WX G z_h z_q z_fh z_hr z_hl z_hk z_he z_ht r_q l_hd k_hp e_hs e_q s_q t_q d_q u9 p_q r_goes r_told o_es o_ey o_sets o_slots o_cnt t_ways t_freshWays t_leastTo t_waiting o_rm o_st o_kd o_od o_rooms o_dct o_nx o_sy o_nt o_so o_fr o_tb o_tn o_pct) ++ (WF G z_fh f_q o_fn o_fs o_fz)) ++ (WM G m_h m_q m_onBy m_toldBy o_ko o_nxo o_ha o_md m_standsFor o_mn o_mh m_stateFor o_jd o_jn o_fi o_oo o_ca o_ms m_waysTo m_waysThen m_queue m_leastTo)) H := hP
  have hD : va_D A (((WX G z_h z_q z_fh z_hr z_hl z_hk z_he z_ht r_q l_hd k_hp e_hs e_q s_q t_q d_q u9 p_q r_goes r_told o_es o_ey o_sets o_slots o_cnt t_ways t_freshWays t_leastTo t_waiting o_rm o_st o_kd o_od o_rooms o_dct o_nx o_sy o_nt o_so o_fr o_tb o_tn o_pct) ++ (WF G z_fh f_q o_fn o_fs o_fz)) ++ (WM G m_h m_q m_onBy m_toldBy o_ko o_nxo o_ha o_md m_standsFor o_mn o_mh m_stateFor o_jd o_jn o_fi o_oo o_ca o_ms m_waysTo m_waysThen m_queue m_leastTo)) := hD
  refine lv_icmp_eq (tgt := 1010) hx hb dL_law_717 (by decide) (fun _ => ?_) (fun c9 => absurd rfl c9)
  refine W.widen (k := cells + 10) (n := slots + lw_gr d_rm o_rm) (by show cells + 5 + 0 ≤ cells + 10; omega) (by show slots + (lw_gr d_rm o_rm) + (0) ≤ slots + lw_gr d_rm o_rm; omega) ?_
  exact kk o_rm _ _ hgr ⟨z_q, z_fh, z_hr, z_hl, z_hk, z_he, z_ht, r_q, l_hd, k_hp, e_hs, e_q, s_q, t_q, d_q, u9, p_q, f_q, m_q, r_goes, r_told, o_es, o_ey, o_sets, o_slots, o_cnt, t_ways, t_freshWays, t_leastTo, t_waiting, o_st, o_kd, o_od, o_rooms, o_dct, o_nx, o_sy, o_nt, o_so, o_fr, o_tb, o_tn, o_pct, o_fn, o_fs, o_fz, m_onBy, m_toldBy, o_ko, o_nxo, o_ha, o_md, m_standsFor, o_mn, o_mh, m_stateFor, o_jd, o_jn, o_fi, o_oo, o_ca, o_ms, m_waysTo, m_waysThen, m_queue, m_leastTo, hrow, hcl1, hd1, hp1, hP, hD⟩ hS
set_option maxHeartbeats 8000000 in
set_option maxRecDepth 100000 in
theorem lc_all {p : Program} {l : Launch} {e : Env} {s : State} {m : MethodId} {below : List Frame} {meth : Method} {c : Code} {b L : Nat} {xs : Nat → Int32} {G : GG} {A : Nat → Prop} {Q : State → Prop} (C0 : lw_At p s m meth c b L xs) (hK : KN G s) (hA : ∀ q : Nat, s.heap.size ≤ q → A q) (hbA : ¬ A b) {z_h m_h d_rm : Nat} {H : Heap} {locs : List Loc} {cells slots : Nat} {x3 : Int32} {ls : Array Slot} (hI : LI G A z_h m_h d_rm H) (hS : va_S A s.heap H locs) (hl : lv_has ls 4 [(0, .ref b), (1, .ref z_h), (2, .ref m_h), (3, .int x3)]) (h1 : vp_in (x3 + 1) L) (h2 : vp_in (x3 + 2) L) (h3 : vp_in (x3 + 3) L) (h4 : vp_in (x3 + 4) L) (hcc : cells + 10 ≤ 600000) (hss : slots + 43200 ≤ room_1.slots)
    (kk : ∀ (rm1 : Nat) (H : Heap) (locs : List Loc), rl_gr d_rm rm1 → LI G A z_h m_h rm1 H → va_S A s.heap H locs → W p l e room_1 s m #[Value.ref b] below meth c H locs (cells + 10) (slots + lw_gr d_rm rm1) Q (F0 m 1010 ls [])) : W p l e room_1 s m #[Value.ref b] below meth c H locs cells slots Q (F0 m 722 ls []) := by
  obtain ⟨hx, hb, hr, hml, hown, hts0, hX, hbl, hlocks, hgv⟩ := id C0
  have hts : ∀ w ∈ wsL_law, w.before #[Value.ref b] s = true := fun w h => hts0 w (wsL_law_in w h)
  have hown : s.vm.findClass RL = some m.cls := hown
  obtain ⟨z_q, z_fh, z_hr, z_hl, z_hk, z_he, z_ht, r_q, l_hd, k_hp, e_hs, e_q, s_q, t_q, d_q, d_a, p_q, f_q, m_q, r_goes, r_told, e_steps, e_yes, s_sets, s_slots, s_count, t_ways, t_freshWays, t_leastTo, t_waiting, d_stateOf, d_kindOf, d_order, d_rooms, d_count, d_next, d_says, d_note, d_sort, d_freshSort, p_table, p_turn, p_count, f_next, f_says, f_size, m_onBy, m_toldBy, m_kindsOf, m_nextOf, m_holdsAt, m_made, m_standsFor, m_madeNext, m_madeHolds, m_stateFor, m_joined, m_joinedNow, m_firstIn, m_orderOf, m_classAt, m_sets, m_waysTo, m_waysThen, m_queue, m_leastTo, hrow, hcl, hd, hp, hP, hD⟩ := hI
  obtain ⟨o_r, o_es, o_ey, o_sets, o_slots, o_cnt, o_rm, o_st, o_kd, o_od, o_rooms, o_dct, o_nx, o_sy, o_nt, o_so, o_fr, o_tb, o_tn, o_pct, o_fn, o_fs, o_fz, o_ko, o_nxo, o_ha, o_md, o_mn, o_mh, o_jd, o_jn, o_fi, o_oo, o_ca, o_ms, h9, h10, hcl1, hd1, hp1, hgr⟩ := op_all (Nat.le_refl 5000) hd hp hcl e_steps e_yes s_sets s_slots s_count d_stateOf d_kindOf d_order d_next d_says d_note d_sort d_freshSort d_count p_count m_made m_madeNext m_madeHolds m_joined m_joinedNow m_firstIn m_orderOf m_classAt m_sets (xs (x3 + 1).toNatClampNeg) (xs (x3 + 2).toNatClampNeg) (xs (x3 + 3).toNatClampNeg)
  have hgl := lw_gr_le (a := d_rm) hd1.2.2
  refine lv_aload_n hx hb dL_law_722 rfl (lv_at hl 1 rfl) ?_
  refine lv_aload_n hx hb dL_law_723 rfl (lv_at hl 0 rfl) ?_
  refine lv_iload_n hx hb dL_law_724 rfl (lv_at hl 3 rfl) ?_
  refine lv_iconst (v := 1) hx hb dL_law_725 (by decide) ?_
  refine lv_iadd hx hb dL_law_726 ?_
  refine va_sld hx hb hX hbl hbA hS h1 dL_law_727 ?_
  refine lv_aload_n hx hb dL_law_728 rfl (lv_at hl 0 rfl) ?_
  refine lv_iload_n hx hb dL_law_729 rfl (lv_at hl 3 rfl) ?_
  refine lv_iconst (v := 2) hx hb dL_law_730 (by decide) ?_
  refine lv_iadd hx hb dL_law_731 ?_
  refine va_sld hx hb hX hbl hbA hS h2 dL_law_732 ?_
  refine lv_aload_n hx hb dL_law_733 rfl (lv_at hl 0 rfl) ?_
  refine lv_iload_n hx hb dL_law_734 rfl (lv_at hl 3 rfl) ?_
  refine lv_iconst (v := 3) hx hb dL_law_735 (by decide) ?_
  refine lv_iadd hx hb dL_law_736 ?_
  refine va_sld hx hb hX hbl hbA hS h3 dL_law_737 ?_
  refine k_ciL (va_runV (As := [.int (xs (x3 + 1).toNatClampNeg), .int (xs (x3 + 2).toNatClampNeg), .int (xs (x3 + 3).toNatClampNeg)]) (rest := []) ⟨hx, hb, hml, hown, hts⟩ (c_X9_all l G 5000 z_h z_q z_fh z_hr z_hl z_hk z_he z_ht r_q l_hd k_hp e_hs e_q s_q t_q d_q d_a p_q f_q r_goes r_told e_steps e_yes s_sets s_slots s_count t_ways t_freshWays t_leastTo t_waiting d_rm d_stateOf d_kindOf d_order d_rooms d_count d_next d_says d_note d_sort d_freshSort p_table p_turn p_count f_next f_says f_size (xs (x3 + 1).toNatClampNeg) (xs (x3 + 2).toNatClampNeg) (xs (x3 + 3).toNatClampNeg) o_rm (lw_gr d_rm o_rm) (lw_gr_ok d_rm o_rm) _ o_r o_es o_ey o_sets o_slots o_cnt o_rm o_st o_kd o_od o_rooms o_dct o_nx o_sy o_nt o_so o_fr o_tb o_tn o_pct o_fn o_fs o_fz h9) (cwV 3 hts gL_law_X9_all rfl rfl rfl ⟨rfl, eX9_all⟩ ⟨Nat.le_of_ble_eq_true rfl, Nat.le_of_ble_eq_true rfl⟩) (preWV (ci := 9) (q0 := 0) hK hP.left hD.left rfl rfl) rfl rfl hl.1 rfl (lv_room (Nat.le_of_ble_eq_true rfl)) dL_law_738 ⟨by show cells + 5 ≤ 600000; omega, by show slots + (lw_gr d_rm o_rm) ≤ room_1.slots; omega⟩) hP hD hS hA (fun u9 H locs hP hD hS => ?_)
  have hP : va_P G.1 vwCl (((WX G z_h z_q z_fh z_hr z_hl z_hk z_he z_ht r_q l_hd k_hp e_hs e_q s_q t_q d_q u9 p_q r_goes r_told o_es o_ey o_sets o_slots o_cnt t_ways t_freshWays t_leastTo t_waiting o_rm o_st o_kd o_od o_rooms o_dct o_nx o_sy o_nt o_so o_fr o_tb o_tn o_pct) ++ (WF G z_fh f_q o_fn o_fs o_fz)) ++ (WM G m_h m_q m_onBy m_toldBy m_kindsOf m_nextOf m_holdsAt m_made m_standsFor m_madeNext m_madeHolds m_stateFor m_joined m_joinedNow m_firstIn m_orderOf m_classAt m_sets m_waysTo m_waysThen m_queue m_leastTo)) H := hP
  have hD : va_D A (((WX G z_h z_q z_fh z_hr z_hl z_hk z_he z_ht r_q l_hd k_hp e_hs e_q s_q t_q d_q u9 p_q r_goes r_told o_es o_ey o_sets o_slots o_cnt t_ways t_freshWays t_leastTo t_waiting o_rm o_st o_kd o_od o_rooms o_dct o_nx o_sy o_nt o_so o_fr o_tb o_tn o_pct) ++ (WF G z_fh f_q o_fn o_fs o_fz)) ++ (WM G m_h m_q m_onBy m_toldBy m_kindsOf m_nextOf m_holdsAt m_made m_standsFor m_madeNext m_madeHolds m_stateFor m_joined m_joinedNow m_firstIn m_orderOf m_classAt m_sets m_waysTo m_waysThen m_queue m_leastTo)) := hD
  refine lv_aload_n hx hb dL_law_741 rfl (lv_at hl 2 rfl) ?_
  refine lv_aload_n hx hb dL_law_742 rfl (lv_at hl 0 rfl) ?_
  refine lv_iload_n hx hb dL_law_743 rfl (lv_at hl 3 rfl) ?_
  refine lv_iconst (v := 1) hx hb dL_law_744 (by decide) ?_
  refine lv_iadd hx hb dL_law_745 ?_
  refine va_sld hx hb hX hbl hbA hS h1 dL_law_746 ?_
  refine lv_aload_n hx hb dL_law_747 rfl (lv_at hl 0 rfl) ?_
  refine lv_iload_n hx hb dL_law_748 rfl (lv_at hl 3 rfl) ?_
  refine lv_iconst (v := 2) hx hb dL_law_749 (by decide) ?_
  refine lv_iadd hx hb dL_law_750 ?_
  refine va_sld hx hb hX hbl hbA hS h2 dL_law_751 ?_
  refine lv_aload_n hx hb dL_law_752 rfl (lv_at hl 0 rfl) ?_
  refine lv_iload_n hx hb dL_law_753 rfl (lv_at hl 3 rfl) ?_
  refine lv_iconst (v := 3) hx hb dL_law_754 (by decide) ?_
  refine lv_iadd hx hb dL_law_755 ?_
  refine va_sld hx hb hX hbl hbA hS h3 dL_law_756 ?_
  refine k_ciR (va_runV (As := [.int (xs (x3 + 1).toNatClampNeg), .int (xs (x3 + 2).toNatClampNeg), .int (xs (x3 + 3).toNatClampNeg)]) (rest := [.int o_r]) ⟨hx, hb, hml, hown, hts⟩ (c_X10_all l G 5000 m_h m_q m_onBy m_toldBy m_kindsOf m_nextOf m_holdsAt m_made m_standsFor m_madeNext m_madeHolds m_stateFor m_joined m_joinedNow m_firstIn m_orderOf m_classAt m_sets m_waysTo m_waysThen m_queue m_leastTo (xs (x3 + 1).toNatClampNeg) (xs (x3 + 2).toNatClampNeg) (xs (x3 + 3).toNatClampNeg) _ o_r o_ko o_nxo o_ha o_md o_mn o_mh o_jd o_jn o_fi o_oo o_ca o_ms h10) (cwV 3 hts gL_law_X10_all rfl rfl rfl ⟨rfl, eX10_all⟩ ⟨Nat.le_of_ble_eq_true rfl, Nat.le_of_ble_eq_true rfl⟩) (preWV (ci := 10) (q0 := 0) hK hP.right hD.right rfl rfl) rfl rfl hl.1 rfl (lv_room (Nat.le_of_ble_eq_true rfl)) dL_law_757 ⟨by show cells + 5 + 0 ≤ 600000; omega, by show slots + (lw_gr d_rm o_rm) + (0) ≤ room_1.slots; omega⟩) hP hD hS hA (fun u10 H locs hP hD hS => ?_)
  have hP : va_P G.1 vwCl (((WX G z_h z_q z_fh z_hr z_hl z_hk z_he z_ht r_q l_hd k_hp e_hs e_q s_q t_q d_q u9 p_q r_goes r_told o_es o_ey o_sets o_slots o_cnt t_ways t_freshWays t_leastTo t_waiting o_rm o_st o_kd o_od o_rooms o_dct o_nx o_sy o_nt o_so o_fr o_tb o_tn o_pct) ++ (WF G z_fh f_q o_fn o_fs o_fz)) ++ (WM G m_h m_q m_onBy m_toldBy o_ko o_nxo o_ha o_md m_standsFor o_mn o_mh m_stateFor o_jd o_jn o_fi o_oo o_ca o_ms m_waysTo m_waysThen m_queue m_leastTo)) H := hP
  have hD : va_D A (((WX G z_h z_q z_fh z_hr z_hl z_hk z_he z_ht r_q l_hd k_hp e_hs e_q s_q t_q d_q u9 p_q r_goes r_told o_es o_ey o_sets o_slots o_cnt t_ways t_freshWays t_leastTo t_waiting o_rm o_st o_kd o_od o_rooms o_dct o_nx o_sy o_nt o_so o_fr o_tb o_tn o_pct) ++ (WF G z_fh f_q o_fn o_fs o_fz)) ++ (WM G m_h m_q m_onBy m_toldBy o_ko o_nxo o_ha o_md m_standsFor o_mn o_mh m_stateFor o_jd o_jn o_fi o_oo o_ca o_ms m_waysTo m_waysThen m_queue m_leastTo)) := hD
  refine lv_icmp_eq (tgt := 1010) hx hb dL_law_760 (by decide) (fun _ => ?_) (fun c9 => absurd rfl c9)
  refine W.widen (k := cells + 10) (n := slots + lw_gr d_rm o_rm) (by show cells + 5 + 0 ≤ cells + 10; omega) (by show slots + (lw_gr d_rm o_rm) + (0) ≤ slots + lw_gr d_rm o_rm; omega) ?_
  exact kk o_rm _ _ hgr ⟨z_q, z_fh, z_hr, z_hl, z_hk, z_he, z_ht, r_q, l_hd, k_hp, e_hs, e_q, s_q, t_q, d_q, u9, p_q, f_q, m_q, r_goes, r_told, o_es, o_ey, o_sets, o_slots, o_cnt, t_ways, t_freshWays, t_leastTo, t_waiting, o_st, o_kd, o_od, o_rooms, o_dct, o_nx, o_sy, o_nt, o_so, o_fr, o_tb, o_tn, o_pct, o_fn, o_fs, o_fz, m_onBy, m_toldBy, o_ko, o_nxo, o_ha, o_md, m_standsFor, o_mn, o_mh, m_stateFor, o_jd, o_jn, o_fi, o_oo, o_ca, o_ms, m_waysTo, m_waysThen, m_queue, m_leastTo, hrow, hcl1, hd1, hp1, hP, hD⟩ hS
set_option maxHeartbeats 8000000 in
set_option maxRecDepth 100000 in
theorem lc_holds {p : Program} {l : Launch} {e : Env} {s : State} {m : MethodId} {below : List Frame} {meth : Method} {c : Code} {b L : Nat} {xs : Nat → Int32} {G : GG} {A : Nat → Prop} {Q : State → Prop} (C0 : lw_At p s m meth c b L xs) (hK : KN G s) (hA : ∀ q : Nat, s.heap.size ≤ q → A q) (hbA : ¬ A b) {z_h m_h d_rm : Nat} {H : Heap} {locs : List Loc} {cells slots : Nat} {x3 : Int32} {ls : Array Slot} (hI : LI G A z_h m_h d_rm H) (hS : va_S A s.heap H locs) (hl : lv_has ls 4 [(0, .ref b), (1, .ref z_h), (2, .ref m_h), (3, .int x3)]) (h1 : vp_in (x3 + 1) L) (h2 : vp_in (x3 + 2) L) (h3 : vp_in (x3 + 3) L) (h4 : vp_in (x3 + 4) L) (hcc : cells + 10 ≤ 600000) (hss : slots + 43200 ≤ room_1.slots)
    (kk : ∀ (rm1 : Nat) (H : Heap) (locs : List Loc), rl_gr d_rm rm1 → LI G A z_h m_h rm1 H → va_S A s.heap H locs → W p l e room_1 s m #[Value.ref b] below meth c H locs (cells + 10) (slots + lw_gr d_rm rm1) Q (F0 m 1010 ls [])) : W p l e room_1 s m #[Value.ref b] below meth c H locs cells slots Q (F0 m 765 ls []) := by
  obtain ⟨hx, hb, hr, hml, hown, hts0, hX, hbl, hlocks, hgv⟩ := id C0
  have hts : ∀ w ∈ wsL_law, w.before #[Value.ref b] s = true := fun w h => hts0 w (wsL_law_in w h)
  have hown : s.vm.findClass RL = some m.cls := hown
  obtain ⟨z_q, z_fh, z_hr, z_hl, z_hk, z_he, z_ht, r_q, l_hd, k_hp, e_hs, e_q, s_q, t_q, d_q, d_a, p_q, f_q, m_q, r_goes, r_told, e_steps, e_yes, s_sets, s_slots, s_count, t_ways, t_freshWays, t_leastTo, t_waiting, d_stateOf, d_kindOf, d_order, d_rooms, d_count, d_next, d_says, d_note, d_sort, d_freshSort, p_table, p_turn, p_count, f_next, f_says, f_size, m_onBy, m_toldBy, m_kindsOf, m_nextOf, m_holdsAt, m_made, m_standsFor, m_madeNext, m_madeHolds, m_stateFor, m_joined, m_joinedNow, m_firstIn, m_orderOf, m_classAt, m_sets, m_waysTo, m_waysThen, m_queue, m_leastTo, hrow, hcl, hd, hp, hP, hD⟩ := hI
  obtain ⟨o_r, h9, h10⟩ := op_holds (Nat.le_refl 5000) hcl (xs (x3 + 1).toNatClampNeg) (xs (x3 + 2).toNatClampNeg) (xs (x3 + 3).toNatClampNeg) (xs (x3 + 4).toNatClampNeg)
  refine lv_aload_n hx hb dL_law_765 rfl (lv_at hl 1 rfl) ?_
  refine lv_aload_n hx hb dL_law_766 rfl (lv_at hl 0 rfl) ?_
  refine lv_iload_n hx hb dL_law_767 rfl (lv_at hl 3 rfl) ?_
  refine lv_iconst (v := 1) hx hb dL_law_768 (by decide) ?_
  refine lv_iadd hx hb dL_law_769 ?_
  refine va_sld hx hb hX hbl hbA hS h1 dL_law_770 ?_
  refine lv_aload_n hx hb dL_law_771 rfl (lv_at hl 0 rfl) ?_
  refine lv_iload_n hx hb dL_law_772 rfl (lv_at hl 3 rfl) ?_
  refine lv_iconst (v := 2) hx hb dL_law_773 (by decide) ?_
  refine lv_iadd hx hb dL_law_774 ?_
  refine va_sld hx hb hX hbl hbA hS h2 dL_law_775 ?_
  refine lv_aload_n hx hb dL_law_776 rfl (lv_at hl 0 rfl) ?_
  refine lv_iload_n hx hb dL_law_777 rfl (lv_at hl 3 rfl) ?_
  refine lv_iconst (v := 3) hx hb dL_law_778 (by decide) ?_
  refine lv_iadd hx hb dL_law_779 ?_
  refine va_sld hx hb hX hbl hbA hS h3 dL_law_780 ?_
  refine lv_aload_n hx hb dL_law_781 rfl (lv_at hl 0 rfl) ?_
  refine lv_iload_n hx hb dL_law_782 rfl (lv_at hl 3 rfl) ?_
  refine lv_iconst (v := 4) hx hb dL_law_783 (by decide) ?_
  refine lv_iadd hx hb dL_law_784 ?_
  refine va_sld hx hb hX hbl hbA hS h4 dL_law_785 ?_
  refine k_si (va_runV (As := [.int (xs (x3 + 1).toNatClampNeg), .int (xs (x3 + 2).toNatClampNeg), .int (xs (x3 + 3).toNatClampNeg), .int (xs (x3 + 4).toNatClampNeg)]) (rest := []) ⟨hx, hb, hml, hown, hts⟩ (c_X9_holds l G 5000 z_h z_q z_fh z_hr z_hl z_hk z_he z_ht r_q l_hd k_hp e_hs e_q s_q t_q d_q d_a p_q f_q r_goes r_told e_steps e_yes s_sets s_slots s_count t_ways t_freshWays t_leastTo t_waiting d_rm d_stateOf d_kindOf d_order d_rooms d_count d_next d_says d_note d_sort d_freshSort p_table p_turn p_count f_next f_says f_size (xs (x3 + 1).toNatClampNeg) (xs (x3 + 2).toNatClampNeg) (xs (x3 + 3).toNatClampNeg) (xs (x3 + 4).toNatClampNeg) o_r h9) (cwV 4 hts gL_law_X9_holds rfl rfl rfl ⟨rfl, eX9_holds⟩ ⟨Nat.le_of_ble_eq_true rfl, Nat.le_of_ble_eq_true rfl⟩) (preSV (ci := 9) (q0 := 0) hK hP.left rfl rfl) rfl rfl hl.1 rfl (lv_room (Nat.le_of_ble_eq_true rfl)) dL_law_786 ⟨by show cells + 0 ≤ 600000; omega, by show slots + (0) ≤ room_1.slots; omega⟩) ?_
  refine lv_aload_n hx hb dL_law_789 rfl (lv_at hl 2 rfl) ?_
  refine lv_aload_n hx hb dL_law_790 rfl (lv_at hl 0 rfl) ?_
  refine lv_iload_n hx hb dL_law_791 rfl (lv_at hl 3 rfl) ?_
  refine lv_iconst (v := 1) hx hb dL_law_792 (by decide) ?_
  refine lv_iadd hx hb dL_law_793 ?_
  refine va_sld hx hb hX hbl hbA hS h1 dL_law_794 ?_
  refine lv_aload_n hx hb dL_law_795 rfl (lv_at hl 0 rfl) ?_
  refine lv_iload_n hx hb dL_law_796 rfl (lv_at hl 3 rfl) ?_
  refine lv_iconst (v := 2) hx hb dL_law_797 (by decide) ?_
  refine lv_iadd hx hb dL_law_798 ?_
  refine va_sld hx hb hX hbl hbA hS h2 dL_law_799 ?_
  refine lv_aload_n hx hb dL_law_800 rfl (lv_at hl 0 rfl) ?_
  refine lv_iload_n hx hb dL_law_801 rfl (lv_at hl 3 rfl) ?_
  refine lv_iconst (v := 3) hx hb dL_law_802 (by decide) ?_
  refine lv_iadd hx hb dL_law_803 ?_
  refine va_sld hx hb hX hbl hbA hS h3 dL_law_804 ?_
  refine lv_aload_n hx hb dL_law_805 rfl (lv_at hl 0 rfl) ?_
  refine lv_iload_n hx hb dL_law_806 rfl (lv_at hl 3 rfl) ?_
  refine lv_iconst (v := 4) hx hb dL_law_807 (by decide) ?_
  refine lv_iadd hx hb dL_law_808 ?_
  refine va_sld hx hb hX hbl hbA hS h4 dL_law_809 ?_
  refine k_si (va_runV (As := [.int (xs (x3 + 1).toNatClampNeg), .int (xs (x3 + 2).toNatClampNeg), .int (xs (x3 + 3).toNatClampNeg), .int (xs (x3 + 4).toNatClampNeg)]) (rest := [.int o_r]) ⟨hx, hb, hml, hown, hts⟩ (c_X10_holds l G 5000 m_h m_q m_onBy m_toldBy m_kindsOf m_nextOf m_holdsAt m_made m_standsFor m_madeNext m_madeHolds m_stateFor m_joined m_joinedNow m_firstIn m_orderOf m_classAt m_sets m_waysTo m_waysThen m_queue m_leastTo (xs (x3 + 1).toNatClampNeg) (xs (x3 + 2).toNatClampNeg) (xs (x3 + 3).toNatClampNeg) (xs (x3 + 4).toNatClampNeg) o_r h10) (cwV 4 hts gL_law_X10_holds rfl rfl rfl ⟨rfl, eX10_holds⟩ ⟨Nat.le_of_ble_eq_true rfl, Nat.le_of_ble_eq_true rfl⟩) (preSV (ci := 10) (q0 := 0) hK hP.right rfl rfl) rfl rfl hl.1 rfl (lv_room (Nat.le_of_ble_eq_true rfl)) dL_law_810 ⟨by show cells + 0 ≤ 600000; omega, by show slots + (0) ≤ room_1.slots; omega⟩) ?_
  refine lv_icmp_eq (tgt := 1010) hx hb dL_law_813 (by decide) (fun _ => ?_) (fun c9 => absurd rfl c9)
  refine W.widen (k := cells + 10) (n := slots + lw_gr d_rm d_rm) (by show cells ≤ cells + 10; omega) (by show slots ≤ slots + lw_gr d_rm d_rm; omega) ?_
  exact kk d_rm _ _ (Or.inl rfl) ⟨z_q, z_fh, z_hr, z_hl, z_hk, z_he, z_ht, r_q, l_hd, k_hp, e_hs, e_q, s_q, t_q, d_q, d_a, p_q, f_q, m_q, r_goes, r_told, e_steps, e_yes, s_sets, s_slots, s_count, t_ways, t_freshWays, t_leastTo, t_waiting, d_stateOf, d_kindOf, d_order, d_rooms, d_count, d_next, d_says, d_note, d_sort, d_freshSort, p_table, p_turn, p_count, f_next, f_says, f_size, m_onBy, m_toldBy, m_kindsOf, m_nextOf, m_holdsAt, m_made, m_standsFor, m_madeNext, m_madeHolds, m_stateFor, m_joined, m_joinedNow, m_firstIn, m_orderOf, m_classAt, m_sets, m_waysTo, m_waysThen, m_queue, m_leastTo, hrow, hcl, hd, hp, hP, hD⟩ hS
set_option maxHeartbeats 8000000 in
set_option maxRecDepth 100000 in
theorem lc_depends {p : Program} {l : Launch} {e : Env} {s : State} {m : MethodId} {below : List Frame} {meth : Method} {c : Code} {b L : Nat} {xs : Nat → Int32} {G : GG} {A : Nat → Prop} {Q : State → Prop} (C0 : lw_At p s m meth c b L xs) (hK : KN G s) (hA : ∀ q : Nat, s.heap.size ≤ q → A q) (hbA : ¬ A b) {z_h m_h d_rm : Nat} {H : Heap} {locs : List Loc} {cells slots : Nat} {x3 : Int32} {ls : Array Slot} (hI : LI G A z_h m_h d_rm H) (hS : va_S A s.heap H locs) (hl : lv_has ls 4 [(0, .ref b), (1, .ref z_h), (2, .ref m_h), (3, .int x3)]) (h1 : vp_in (x3 + 1) L) (h2 : vp_in (x3 + 2) L) (h3 : vp_in (x3 + 3) L) (h4 : vp_in (x3 + 4) L) (hcc : cells + 10 ≤ 600000) (hss : slots + 43200 ≤ room_1.slots)
    (kk : ∀ (rm1 : Nat) (H : Heap) (locs : List Loc), rl_gr d_rm rm1 → LI G A z_h m_h rm1 H → va_S A s.heap H locs → W p l e room_1 s m #[Value.ref b] below meth c H locs (cells + 10) (slots + lw_gr d_rm rm1) Q (F0 m 1010 ls [])) : W p l e room_1 s m #[Value.ref b] below meth c H locs cells slots Q (F0 m 818 ls []) := by
  obtain ⟨hx, hb, hr, hml, hown, hts0, hX, hbl, hlocks, hgv⟩ := id C0
  have hts : ∀ w ∈ wsL_law, w.before #[Value.ref b] s = true := fun w h => hts0 w (wsL_law_in w h)
  have hown : s.vm.findClass RL = some m.cls := hown
  obtain ⟨z_q, z_fh, z_hr, z_hl, z_hk, z_he, z_ht, r_q, l_hd, k_hp, e_hs, e_q, s_q, t_q, d_q, d_a, p_q, f_q, m_q, r_goes, r_told, e_steps, e_yes, s_sets, s_slots, s_count, t_ways, t_freshWays, t_leastTo, t_waiting, d_stateOf, d_kindOf, d_order, d_rooms, d_count, d_next, d_says, d_note, d_sort, d_freshSort, p_table, p_turn, p_count, f_next, f_says, f_size, m_onBy, m_toldBy, m_kindsOf, m_nextOf, m_holdsAt, m_made, m_standsFor, m_madeNext, m_madeHolds, m_stateFor, m_joined, m_joinedNow, m_firstIn, m_orderOf, m_classAt, m_sets, m_waysTo, m_waysThen, m_queue, m_leastTo, hrow, hcl, hd, hp, hP, hD⟩ := hI
  obtain ⟨o_r, o_md, o_sf, o_sfo, h9, h10⟩ := op_depends (Nat.le_refl 5000) hcl m_made m_standsFor m_stateFor (xs (x3 + 1).toNatClampNeg)
  refine lv_aload_n hx hb dL_law_818 rfl (lv_at hl 1 rfl) ?_
  refine lv_aload_n hx hb dL_law_819 rfl (lv_at hl 0 rfl) ?_
  refine lv_iload_n hx hb dL_law_820 rfl (lv_at hl 3 rfl) ?_
  refine lv_iconst (v := 1) hx hb dL_law_821 (by decide) ?_
  refine lv_iadd hx hb dL_law_822 ?_
  refine va_sld hx hb hX hbl hbA hS h1 dL_law_823 ?_
  refine k_si (va_runV (As := [.int (xs (x3 + 1).toNatClampNeg)]) (rest := []) ⟨hx, hb, hml, hown, hts⟩ (c_X9_depends l G 5000 z_h z_q z_fh z_hr z_hl z_hk z_he z_ht r_q l_hd k_hp e_hs e_q s_q t_q d_q d_a p_q f_q r_goes r_told e_steps e_yes s_sets s_slots s_count t_ways t_freshWays t_leastTo t_waiting d_rm d_stateOf d_kindOf d_order d_rooms d_count d_next d_says d_note d_sort d_freshSort p_table p_turn p_count f_next f_says f_size (xs (x3 + 1).toNatClampNeg) o_r h9) (cwV 1 hts gL_law_X9_depends rfl rfl rfl ⟨rfl, eX9_depends⟩ ⟨Nat.le_of_ble_eq_true rfl, Nat.le_of_ble_eq_true rfl⟩) (preSV (ci := 9) (q0 := 0) hK hP.left rfl rfl) rfl rfl hl.1 rfl (lv_room (Nat.le_of_ble_eq_true rfl)) dL_law_824 ⟨by show cells + 0 ≤ 600000; omega, by show slots + (0) ≤ room_1.slots; omega⟩) ?_
  refine lv_aload_n hx hb dL_law_827 rfl (lv_at hl 2 rfl) ?_
  refine lv_aload_n hx hb dL_law_828 rfl (lv_at hl 0 rfl) ?_
  refine lv_iload_n hx hb dL_law_829 rfl (lv_at hl 3 rfl) ?_
  refine lv_iconst (v := 1) hx hb dL_law_830 (by decide) ?_
  refine lv_iadd hx hb dL_law_831 ?_
  refine va_sld hx hb hX hbl hbA hS h1 dL_law_832 ?_
  refine k_ciR (va_runV (As := [.int (xs (x3 + 1).toNatClampNeg)]) (rest := [.int o_r]) ⟨hx, hb, hml, hown, hts⟩ (c_X10_depends l G 5000 m_h m_q m_onBy m_toldBy m_kindsOf m_nextOf m_holdsAt m_made m_standsFor m_madeNext m_madeHolds m_stateFor m_joined m_joinedNow m_firstIn m_orderOf m_classAt m_sets m_waysTo m_waysThen m_queue m_leastTo (xs (x3 + 1).toNatClampNeg) _ o_r o_md o_sf o_sfo h10) (cwV 1 hts gL_law_X10_depends rfl rfl rfl ⟨rfl, eX10_depends⟩ ⟨Nat.le_of_ble_eq_true rfl, Nat.le_of_ble_eq_true rfl⟩) (preWV (ci := 10) (q0 := 0) hK hP.right hD.right rfl rfl) rfl rfl hl.1 rfl (lv_room (Nat.le_of_ble_eq_true rfl)) dL_law_833 ⟨by show cells + 0 ≤ 600000; omega, by show slots + (0) ≤ room_1.slots; omega⟩) hP hD hS hA (fun u10 H locs hP hD hS => ?_)
  have hP : va_P G.1 vwCl (((WX G z_h z_q z_fh z_hr z_hl z_hk z_he z_ht r_q l_hd k_hp e_hs e_q s_q t_q d_q d_a p_q r_goes r_told e_steps e_yes s_sets s_slots s_count t_ways t_freshWays t_leastTo t_waiting d_rm d_stateOf d_kindOf d_order d_rooms d_count d_next d_says d_note d_sort d_freshSort p_table p_turn p_count) ++ (WF G z_fh f_q f_next f_says f_size)) ++ (WM G m_h m_q m_onBy m_toldBy m_kindsOf m_nextOf m_holdsAt o_md o_sf m_madeNext m_madeHolds o_sfo m_joined m_joinedNow m_firstIn m_orderOf m_classAt m_sets m_waysTo m_waysThen m_queue m_leastTo)) H := hP
  have hD : va_D A (((WX G z_h z_q z_fh z_hr z_hl z_hk z_he z_ht r_q l_hd k_hp e_hs e_q s_q t_q d_q d_a p_q r_goes r_told e_steps e_yes s_sets s_slots s_count t_ways t_freshWays t_leastTo t_waiting d_rm d_stateOf d_kindOf d_order d_rooms d_count d_next d_says d_note d_sort d_freshSort p_table p_turn p_count) ++ (WF G z_fh f_q f_next f_says f_size)) ++ (WM G m_h m_q m_onBy m_toldBy m_kindsOf m_nextOf m_holdsAt o_md o_sf m_madeNext m_madeHolds o_sfo m_joined m_joinedNow m_firstIn m_orderOf m_classAt m_sets m_waysTo m_waysThen m_queue m_leastTo)) := hD
  refine lv_icmp_eq (tgt := 1010) hx hb dL_law_836 (by decide) (fun _ => ?_) (fun c9 => absurd rfl c9)
  refine W.widen (k := cells + 10) (n := slots + lw_gr d_rm d_rm) (by show cells + 0 ≤ cells + 10; omega) (by show slots + (0) ≤ slots + lw_gr d_rm d_rm; omega) ?_
  exact kk d_rm _ _ (Or.inl rfl) ⟨z_q, z_fh, z_hr, z_hl, z_hk, z_he, z_ht, r_q, l_hd, k_hp, e_hs, e_q, s_q, t_q, d_q, d_a, p_q, f_q, m_q, r_goes, r_told, e_steps, e_yes, s_sets, s_slots, s_count, t_ways, t_freshWays, t_leastTo, t_waiting, d_stateOf, d_kindOf, d_order, d_rooms, d_count, d_next, d_says, d_note, d_sort, d_freshSort, p_table, p_turn, p_count, f_next, f_says, f_size, m_onBy, m_toldBy, m_kindsOf, m_nextOf, m_holdsAt, o_md, o_sf, m_madeNext, m_madeHolds, o_sfo, m_joined, m_joinedNow, m_firstIn, m_orderOf, m_classAt, m_sets, m_waysTo, m_waysThen, m_queue, m_leastTo, hrow, hcl, hd, hp, hP, hD⟩ hS
set_option maxHeartbeats 8000000 in
set_option maxRecDepth 100000 in
theorem lc_kinds {p : Program} {l : Launch} {e : Env} {s : State} {m : MethodId} {below : List Frame} {meth : Method} {c : Code} {b L : Nat} {xs : Nat → Int32} {G : GG} {A : Nat → Prop} {Q : State → Prop} (C0 : lw_At p s m meth c b L xs) (hK : KN G s) (hA : ∀ q : Nat, s.heap.size ≤ q → A q) (hbA : ¬ A b) {z_h m_h d_rm : Nat} {H : Heap} {locs : List Loc} {cells slots : Nat} {x3 : Int32} {ls : Array Slot} (hI : LI G A z_h m_h d_rm H) (hS : va_S A s.heap H locs) (hl : lv_has ls 4 [(0, .ref b), (1, .ref z_h), (2, .ref m_h), (3, .int x3)]) (h1 : vp_in (x3 + 1) L) (h2 : vp_in (x3 + 2) L) (h3 : vp_in (x3 + 3) L) (h4 : vp_in (x3 + 4) L) (hcc : cells + 10 ≤ 600000) (hss : slots + 43200 ≤ room_1.slots)
    (kk : ∀ (rm1 : Nat) (H : Heap) (locs : List Loc), rl_gr d_rm rm1 → LI G A z_h m_h rm1 H → va_S A s.heap H locs → W p l e room_1 s m #[Value.ref b] below meth c H locs (cells + 10) (slots + lw_gr d_rm rm1) Q (F0 m 1010 ls [])) : W p l e room_1 s m #[Value.ref b] below meth c H locs cells slots Q (F0 m 841 ls []) := by
  obtain ⟨hx, hb, hr, hml, hown, hts0, hX, hbl, hlocks, hgv⟩ := id C0
  have hts : ∀ w ∈ wsL_law, w.before #[Value.ref b] s = true := fun w h => hts0 w (wsL_law_in w h)
  have hown : s.vm.findClass RL = some m.cls := hown
  obtain ⟨z_q, z_fh, z_hr, z_hl, z_hk, z_he, z_ht, r_q, l_hd, k_hp, e_hs, e_q, s_q, t_q, d_q, d_a, p_q, f_q, m_q, r_goes, r_told, e_steps, e_yes, s_sets, s_slots, s_count, t_ways, t_freshWays, t_leastTo, t_waiting, d_stateOf, d_kindOf, d_order, d_rooms, d_count, d_next, d_says, d_note, d_sort, d_freshSort, p_table, p_turn, p_count, f_next, f_says, f_size, m_onBy, m_toldBy, m_kindsOf, m_nextOf, m_holdsAt, m_made, m_standsFor, m_madeNext, m_madeHolds, m_stateFor, m_joined, m_joinedNow, m_firstIn, m_orderOf, m_classAt, m_sets, m_waysTo, m_waysThen, m_queue, m_leastTo, hrow, hcl, hd, hp, hP, hD⟩ := hI
  obtain ⟨o_r, h9, h10⟩ := op_kinds hcl (xs (x3 + 1).toNatClampNeg)
  refine lv_aload_n hx hb dL_law_841 rfl (lv_at hl 1 rfl) ?_
  refine lv_aload_n hx hb dL_law_842 rfl (lv_at hl 0 rfl) ?_
  refine lv_iload_n hx hb dL_law_843 rfl (lv_at hl 3 rfl) ?_
  refine lv_iconst (v := 1) hx hb dL_law_844 (by decide) ?_
  refine lv_iadd hx hb dL_law_845 ?_
  refine va_sld hx hb hX hbl hbA hS h1 dL_law_846 ?_
  refine k_si (va_runV (As := [.int (xs (x3 + 1).toNatClampNeg)]) (rest := []) ⟨hx, hb, hml, hown, hts⟩ (c_X9_kinds l G z_h z_q z_fh z_hr z_hl z_hk z_he z_ht r_q l_hd k_hp e_hs e_q s_q t_q d_q d_a p_q f_q r_goes r_told e_steps e_yes s_sets s_slots s_count t_ways t_freshWays t_leastTo t_waiting d_rm d_stateOf d_kindOf d_order d_rooms d_count d_next d_says d_note d_sort d_freshSort p_table p_turn p_count f_next f_says f_size (xs (x3 + 1).toNatClampNeg) o_r h9) (cwV 1 hts gL_law_X9_kinds rfl rfl rfl ⟨rfl, eX9_kinds⟩ ⟨Nat.le_of_ble_eq_true rfl, Nat.le_of_ble_eq_true rfl⟩) (preSV (ci := 9) (q0 := 0) hK hP.left rfl rfl) rfl rfl hl.1 rfl (lv_room (Nat.le_of_ble_eq_true rfl)) dL_law_847 ⟨by show cells + 0 ≤ 600000; omega, by show slots + (0) ≤ room_1.slots; omega⟩) ?_
  refine lv_aload_n hx hb dL_law_850 rfl (lv_at hl 2 rfl) ?_
  refine lv_aload_n hx hb dL_law_851 rfl (lv_at hl 0 rfl) ?_
  refine lv_iload_n hx hb dL_law_852 rfl (lv_at hl 3 rfl) ?_
  refine lv_iconst (v := 1) hx hb dL_law_853 (by decide) ?_
  refine lv_iadd hx hb dL_law_854 ?_
  refine va_sld hx hb hX hbl hbA hS h1 dL_law_855 ?_
  refine k_si (va_runV (As := [.int (xs (x3 + 1).toNatClampNeg)]) (rest := [.int o_r]) ⟨hx, hb, hml, hown, hts⟩ (c_X10_kinds l G m_h m_q m_onBy m_toldBy m_kindsOf m_nextOf m_holdsAt m_made m_standsFor m_madeNext m_madeHolds m_stateFor m_joined m_joinedNow m_firstIn m_orderOf m_classAt m_sets m_waysTo m_waysThen m_queue m_leastTo (xs (x3 + 1).toNatClampNeg) o_r h10) (cwV 1 hts gL_law_X10_kinds rfl rfl rfl ⟨rfl, eX10_kinds⟩ ⟨Nat.le_of_ble_eq_true rfl, Nat.le_of_ble_eq_true rfl⟩) (preSV (ci := 10) (q0 := 0) hK hP.right rfl rfl) rfl rfl hl.1 rfl (lv_room (Nat.le_of_ble_eq_true rfl)) dL_law_856 ⟨by show cells + 0 ≤ 600000; omega, by show slots + (0) ≤ room_1.slots; omega⟩) ?_
  refine lv_icmp_eq (tgt := 1010) hx hb dL_law_859 (by decide) (fun _ => ?_) (fun c9 => absurd rfl c9)
  refine W.widen (k := cells + 10) (n := slots + lw_gr d_rm d_rm) (by show cells ≤ cells + 10; omega) (by show slots ≤ slots + lw_gr d_rm d_rm; omega) ?_
  exact kk d_rm _ _ (Or.inl rfl) ⟨z_q, z_fh, z_hr, z_hl, z_hk, z_he, z_ht, r_q, l_hd, k_hp, e_hs, e_q, s_q, t_q, d_q, d_a, p_q, f_q, m_q, r_goes, r_told, e_steps, e_yes, s_sets, s_slots, s_count, t_ways, t_freshWays, t_leastTo, t_waiting, d_stateOf, d_kindOf, d_order, d_rooms, d_count, d_next, d_says, d_note, d_sort, d_freshSort, p_table, p_turn, p_count, f_next, f_says, f_size, m_onBy, m_toldBy, m_kindsOf, m_nextOf, m_holdsAt, m_made, m_standsFor, m_madeNext, m_madeHolds, m_stateFor, m_joined, m_joinedNow, m_firstIn, m_orderOf, m_classAt, m_sets, m_waysTo, m_waysThen, m_queue, m_leastTo, hrow, hcl, hd, hp, hP, hD⟩ hS
