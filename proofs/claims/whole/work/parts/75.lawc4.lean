set_option maxHeartbeats 8000000 in
set_option maxRecDepth 100000 in
theorem lc_below {p : Program} {l : Launch} {e : Env} {s : State} {m : MethodId} {below : List Frame} {meth : Method} {c : Code} {b L : Nat} {xs : Nat → Int32} {G : GG} {A : Nat → Prop} {Q : State → Prop} (C0 : lw_At p s m meth c b L xs) (hK : KN G s) (hA : ∀ q : Nat, s.heap.size ≤ q → A q) (hbA : ¬ A b) {z_h m_h d_rm : Nat} {H : Heap} {locs : List Loc} {cells slots : Nat} {x3 : Int32} {ls : Array Slot} (hI : LI G A z_h m_h d_rm H) (hS : va_S A s.heap H locs) (hl : lv_has ls 4 [(0, .ref b), (1, .ref z_h), (2, .ref m_h), (3, .int x3)]) (h1 : vp_in (x3 + 1) L) (h2 : vp_in (x3 + 2) L) (h3 : vp_in (x3 + 3) L) (h4 : vp_in (x3 + 4) L) (hcc : cells + 10 ≤ 600000) (hss : slots + 43200 ≤ 7302250)
    (kk : ∀ (rm1 : Nat) (H : Heap) (locs : List Loc), rl_gr d_rm rm1 → LI G A z_h m_h rm1 H → va_S A s.heap H locs → W p l e room_1 s m #[Value.ref b] below meth c H locs (cells + 10) (slots + lw_gr d_rm rm1) Q (F0 m 1010 ls [])) : W p l e room_1 s m #[Value.ref b] below meth c H locs cells slots Q (F0 m 864 ls []) := by
  obtain ⟨hx, hb, hr, hml, hown, hts0, hX, hbl, hlocks, hgv⟩ := id C0
  have hts : ∀ w ∈ wsL_law, w.before #[Value.ref b] s = true := fun w h => hts0 w (wsL_law_in w h)
  have hown : s.vm.findClass RL = some m.cls := hown
  obtain ⟨z_q, z_fh, z_hr, z_hl, z_hk, z_he, z_ht, r_q, l_hd, k_hp, e_hs, e_q, s_q, t_q, d_q, d_a, p_q, f_q, m_q, r_goes, r_told, e_steps, e_yes, s_sets, s_slots, s_count, t_ways, t_freshWays, t_leastTo, t_waiting, d_stateOf, d_kindOf, d_order, d_rooms, d_count, d_next, d_says, d_note, d_sort, d_freshSort, p_table, p_turn, p_count, f_next, f_says, f_size, m_onBy, m_toldBy, m_kindsOf, m_nextOf, m_holdsAt, m_made, m_standsFor, m_madeNext, m_madeHolds, m_stateFor, m_joined, m_joinedNow, m_firstIn, m_orderOf, m_classAt, m_sets, m_waysTo, m_waysThen, m_queue, m_leastTo, hrow, hcl, hd, hp, hP, hD⟩ := hI
  obtain ⟨o_r, o_wy, o_fw, o_wt, o_wn, h9, h10⟩ := op_below (Nat.le_refl 5000) hcl t_ways t_freshWays m_waysTo m_waysThen (xs (x3 + 1).toNatClampNeg) (xs (x3 + 2).toNatClampNeg)
  refine lv_aload_n hx hb dL_law_864 rfl (lv_at hl 1 rfl) ?_
  refine lv_aload_n hx hb dL_law_865 rfl (lv_at hl 0 rfl) ?_
  refine lv_iload_n hx hb dL_law_866 rfl (lv_at hl 3 rfl) ?_
  refine lv_iconst (v := 1) hx hb dL_law_867 (by decide) ?_
  refine lv_iadd hx hb dL_law_868 ?_
  refine va_sld hx hb hX hbl hbA hS h1 dL_law_869 ?_
  refine lv_aload_n hx hb dL_law_870 rfl (lv_at hl 0 rfl) ?_
  refine lv_iload_n hx hb dL_law_871 rfl (lv_at hl 3 rfl) ?_
  refine lv_iconst (v := 2) hx hb dL_law_872 (by decide) ?_
  refine lv_iadd hx hb dL_law_873 ?_
  refine va_sld hx hb hX hbl hbA hS h2 dL_law_874 ?_
  refine k_clL (va_runV (As := [.int (xs (x3 + 1).toNatClampNeg), .int (xs (x3 + 2).toNatClampNeg)]) (rest := []) ⟨hx, hb, hml, hown, hts⟩ (c_X9_below l G 5000 z_h z_q z_fh z_hr z_hl z_hk z_he z_ht r_q l_hd k_hp e_hs e_q s_q t_q d_q d_a p_q f_q r_goes r_told e_steps e_yes s_sets s_slots s_count t_ways t_freshWays t_leastTo t_waiting d_rm d_stateOf d_kindOf d_order d_rooms d_count d_next d_says d_note d_sort d_freshSort p_table p_turn p_count f_next f_says f_size (xs (x3 + 1).toNatClampNeg) (xs (x3 + 2).toNatClampNeg) _ o_r o_wy o_fw h9) (cwV 2 hts gL_law_X9_below rfl rfl rfl ⟨rfl, eX9_below⟩ ⟨Nat.le_of_ble_eq_true rfl, Nat.le_of_ble_eq_true rfl⟩) (preWV (ci := 9) (q0 := 0) hK hP.left hD.left rfl rfl) rfl rfl hl.1 rfl (lv_room (Nat.le_of_ble_eq_true rfl)) dL_law_875 ⟨by show cells + 0 ≤ 600000; omega, by show slots + (0) ≤ 7302250; omega⟩) hP hD hS hA (fun u9 H locs hP hD hS => ?_)
  have hP : va_P G.1 vwCl (((WX G z_h z_q z_fh z_hr z_hl z_hk z_he z_ht r_q l_hd k_hp e_hs e_q s_q t_q d_q d_a p_q r_goes r_told e_steps e_yes s_sets s_slots s_count o_wy o_fw t_leastTo t_waiting d_rm d_stateOf d_kindOf d_order d_rooms d_count d_next d_says d_note d_sort d_freshSort p_table p_turn p_count) ++ (WF G z_fh f_q f_next f_says f_size)) ++ (WM G m_h m_q m_onBy m_toldBy m_kindsOf m_nextOf m_holdsAt m_made m_standsFor m_madeNext m_madeHolds m_stateFor m_joined m_joinedNow m_firstIn m_orderOf m_classAt m_sets m_waysTo m_waysThen m_queue m_leastTo)) H := hP
  have hD : va_D A (((WX G z_h z_q z_fh z_hr z_hl z_hk z_he z_ht r_q l_hd k_hp e_hs e_q s_q t_q d_q d_a p_q r_goes r_told e_steps e_yes s_sets s_slots s_count o_wy o_fw t_leastTo t_waiting d_rm d_stateOf d_kindOf d_order d_rooms d_count d_next d_says d_note d_sort d_freshSort p_table p_turn p_count) ++ (WF G z_fh f_q f_next f_says f_size)) ++ (WM G m_h m_q m_onBy m_toldBy m_kindsOf m_nextOf m_holdsAt m_made m_standsFor m_madeNext m_madeHolds m_stateFor m_joined m_joinedNow m_firstIn m_orderOf m_classAt m_sets m_waysTo m_waysThen m_queue m_leastTo)) := hD
  refine lv_aload_n hx hb dL_law_878 rfl (lv_at hl 2 rfl) ?_
  refine lv_aload_n hx hb dL_law_879 rfl (lv_at hl 0 rfl) ?_
  refine lv_iload_n hx hb dL_law_880 rfl (lv_at hl 3 rfl) ?_
  refine lv_iconst (v := 1) hx hb dL_law_881 (by decide) ?_
  refine lv_iadd hx hb dL_law_882 ?_
  refine va_sld hx hb hX hbl hbA hS h1 dL_law_883 ?_
  refine lv_aload_n hx hb dL_law_884 rfl (lv_at hl 0 rfl) ?_
  refine lv_iload_n hx hb dL_law_885 rfl (lv_at hl 3 rfl) ?_
  refine lv_iconst (v := 2) hx hb dL_law_886 (by decide) ?_
  refine lv_iadd hx hb dL_law_887 ?_
  refine va_sld hx hb hX hbl hbA hS h2 dL_law_888 ?_
  refine k_clR (va_runV (As := [.int (xs (x3 + 1).toNatClampNeg), .int (xs (x3 + 2).toNatClampNeg)]) (rest := [.long o_r]) ⟨hx, hb, hml, hown, hts⟩ (c_X10_below l G 5000 m_h m_q m_onBy m_toldBy m_kindsOf m_nextOf m_holdsAt m_made m_standsFor m_madeNext m_madeHolds m_stateFor m_joined m_joinedNow m_firstIn m_orderOf m_classAt m_sets m_waysTo m_waysThen m_queue m_leastTo (xs (x3 + 1).toNatClampNeg) (xs (x3 + 2).toNatClampNeg) _ o_r o_wt o_wn h10) (cwV 2 hts gL_law_X10_below rfl rfl rfl ⟨rfl, eX10_below⟩ ⟨Nat.le_of_ble_eq_true rfl, Nat.le_of_ble_eq_true rfl⟩) (preWV (ci := 10) (q0 := 0) hK hP.right hD.right rfl rfl) rfl rfl hl.1 rfl (lv_room (Nat.le_of_ble_eq_true rfl)) dL_law_889 ⟨by show cells + 0 + 0 ≤ 600000; omega, by show slots + (0) + (0) ≤ 7302250; omega⟩) hP hD hS hA (fun u10 H locs hP hD hS => ?_)
  have hP : va_P G.1 vwCl (((WX G z_h z_q z_fh z_hr z_hl z_hk z_he z_ht r_q l_hd k_hp e_hs e_q s_q t_q d_q d_a p_q r_goes r_told e_steps e_yes s_sets s_slots s_count o_wy o_fw t_leastTo t_waiting d_rm d_stateOf d_kindOf d_order d_rooms d_count d_next d_says d_note d_sort d_freshSort p_table p_turn p_count) ++ (WF G z_fh f_q f_next f_says f_size)) ++ (WM G m_h m_q m_onBy m_toldBy m_kindsOf m_nextOf m_holdsAt m_made m_standsFor m_madeNext m_madeHolds m_stateFor m_joined m_joinedNow m_firstIn m_orderOf m_classAt m_sets o_wt o_wn m_queue m_leastTo)) H := hP
  have hD : va_D A (((WX G z_h z_q z_fh z_hr z_hl z_hk z_he z_ht r_q l_hd k_hp e_hs e_q s_q t_q d_q d_a p_q r_goes r_told e_steps e_yes s_sets s_slots s_count o_wy o_fw t_leastTo t_waiting d_rm d_stateOf d_kindOf d_order d_rooms d_count d_next d_says d_note d_sort d_freshSort p_table p_turn p_count) ++ (WF G z_fh f_q f_next f_says f_size)) ++ (WM G m_h m_q m_onBy m_toldBy m_kindsOf m_nextOf m_holdsAt m_made m_standsFor m_madeNext m_madeHolds m_stateFor m_joined m_joinedNow m_firstIn m_orderOf m_classAt m_sets o_wt o_wn m_queue m_leastTo)) := hD
  refine W.lcmp hx hb dL_law_892 ?_
  refine lv_if_eq (tgt := 1010) hx hb dL_law_893 (by decide) (fun _ => ?_) (fun c9 => absurd (lw_cmp_self _) c9)
  refine W.widen (k := cells + 10) (n := slots + lw_gr d_rm d_rm) (by show cells + 0 + 0 ≤ cells + 10; omega) (by show slots + (0) + (0) ≤ slots + lw_gr d_rm d_rm; omega) ?_
  exact kk d_rm _ _ (Or.inl rfl) ⟨z_q, z_fh, z_hr, z_hl, z_hk, z_he, z_ht, r_q, l_hd, k_hp, e_hs, e_q, s_q, t_q, d_q, d_a, p_q, f_q, m_q, r_goes, r_told, e_steps, e_yes, s_sets, s_slots, s_count, o_wy, o_fw, t_leastTo, t_waiting, d_stateOf, d_kindOf, d_order, d_rooms, d_count, d_next, d_says, d_note, d_sort, d_freshSort, p_table, p_turn, p_count, f_next, f_says, f_size, m_onBy, m_toldBy, m_kindsOf, m_nextOf, m_holdsAt, m_made, m_standsFor, m_madeNext, m_madeHolds, m_stateFor, m_joined, m_joinedNow, m_firstIn, m_orderOf, m_classAt, m_sets, o_wt, o_wn, m_queue, m_leastTo, hrow, hcl, hd, hp, hP, hD⟩ hS
set_option maxHeartbeats 8000000 in
set_option maxRecDepth 100000 in
theorem lc_least {p : Program} {l : Launch} {e : Env} {s : State} {m : MethodId} {below : List Frame} {meth : Method} {c : Code} {b L : Nat} {xs : Nat → Int32} {G : GG} {A : Nat → Prop} {Q : State → Prop} (C0 : lw_At p s m meth c b L xs) (hK : KN G s) (hA : ∀ q : Nat, s.heap.size ≤ q → A q) (hbA : ¬ A b) {z_h m_h d_rm : Nat} {H : Heap} {locs : List Loc} {cells slots : Nat} {x3 : Int32} {ls : Array Slot} (hI : LI G A z_h m_h d_rm H) (hS : va_S A s.heap H locs) (hl : lv_has ls 4 [(0, .ref b), (1, .ref z_h), (2, .ref m_h), (3, .int x3)]) (h1 : vp_in (x3 + 1) L) (h2 : vp_in (x3 + 2) L) (h3 : vp_in (x3 + 3) L) (h4 : vp_in (x3 + 4) L) (hcc : cells + 10 ≤ 600000) (hss : slots + 43200 ≤ 7302250)
    (kk : ∀ (rm1 : Nat) (H : Heap) (locs : List Loc), rl_gr d_rm rm1 → LI G A z_h m_h rm1 H → va_S A s.heap H locs → W p l e room_1 s m #[Value.ref b] below meth c H locs (cells + 10) (slots + lw_gr d_rm rm1) Q (F0 m 1010 ls [])) : W p l e room_1 s m #[Value.ref b] below meth c H locs cells slots Q (F0 m 898 ls []) := by
  obtain ⟨hx, hb, hr, hml, hown, hts0, hX, hbl, hlocks, hgv⟩ := id C0
  have hts : ∀ w ∈ wsL_law, w.before #[Value.ref b] s = true := fun w h => hts0 w (wsL_law_in w h)
  have hown : s.vm.findClass RL = some m.cls := hown
  obtain ⟨z_q, z_fh, z_hr, z_hl, z_hk, z_he, z_ht, r_q, l_hd, k_hp, e_hs, e_q, s_q, t_q, d_q, d_a, p_q, f_q, m_q, r_goes, r_told, e_steps, e_yes, s_sets, s_slots, s_count, t_ways, t_freshWays, t_leastTo, t_waiting, d_stateOf, d_kindOf, d_order, d_rooms, d_count, d_next, d_says, d_note, d_sort, d_freshSort, p_table, p_turn, p_count, f_next, f_says, f_size, m_onBy, m_toldBy, m_kindsOf, m_nextOf, m_holdsAt, m_made, m_standsFor, m_madeNext, m_madeHolds, m_stateFor, m_joined, m_joinedNow, m_firstIn, m_orderOf, m_classAt, m_sets, m_waysTo, m_waysThen, m_queue, m_leastTo, hrow, hcl, hd, hp, hP, hD⟩ := hI
  obtain ⟨o_r, o_es, o_ey, o_sets, o_slots, o_cnt, o_lt, o_wt, o_rm, o_st, o_kd, o_od, o_rooms, o_dct, o_nx, o_sy, o_nt, o_so, o_fr, o_tb, o_tn, o_pct, o_fn, o_fs, o_fz, o_ko, o_nxo, o_ha, o_md, o_mn, o_mh, o_jd, o_jn, o_fi, o_oo, o_ca, o_ms, o_qu, o_ltm, h9, h10, hcl1, hd1, hp1, hgr⟩ := op_least (Nat.le_refl 5000) hd hp hcl e_steps e_yes s_sets s_slots s_count t_leastTo t_waiting d_stateOf d_kindOf d_order d_next d_says d_note d_sort d_freshSort d_count p_count m_made m_madeNext m_madeHolds m_joined m_joinedNow m_firstIn m_orderOf m_classAt m_sets m_queue m_leastTo (xs (x3 + 1).toNatClampNeg) (xs (x3 + 2).toNatClampNeg)
  have hgl := lw_gr_le (a := d_rm) hd1.2.2
  refine lv_aload_n hx hb dL_law_898 rfl (lv_at hl 1 rfl) ?_
  refine lv_aload_n hx hb dL_law_899 rfl (lv_at hl 0 rfl) ?_
  refine lv_iload_n hx hb dL_law_900 rfl (lv_at hl 3 rfl) ?_
  refine lv_iconst (v := 1) hx hb dL_law_901 (by decide) ?_
  refine lv_iadd hx hb dL_law_902 ?_
  refine va_sld hx hb hX hbl hbA hS h1 dL_law_903 ?_
  refine lv_aload_n hx hb dL_law_904 rfl (lv_at hl 0 rfl) ?_
  refine lv_iload_n hx hb dL_law_905 rfl (lv_at hl 3 rfl) ?_
  refine lv_iconst (v := 2) hx hb dL_law_906 (by decide) ?_
  refine lv_iadd hx hb dL_law_907 ?_
  refine va_sld hx hb hX hbl hbA hS h2 dL_law_908 ?_
  refine k_ciL (va_runV (As := [.int (xs (x3 + 1).toNatClampNeg), .int (xs (x3 + 2).toNatClampNeg)]) (rest := []) ⟨hx, hb, hml, hown, hts⟩ (c_X9_least l G 5000 z_h z_q z_fh z_hr z_hl z_hk z_he z_ht r_q l_hd k_hp e_hs e_q s_q t_q d_q d_a p_q f_q r_goes r_told e_steps e_yes s_sets s_slots s_count t_ways t_freshWays t_leastTo t_waiting d_rm d_stateOf d_kindOf d_order d_rooms d_count d_next d_says d_note d_sort d_freshSort p_table p_turn p_count f_next f_says f_size (xs (x3 + 1).toNatClampNeg) (xs (x3 + 2).toNatClampNeg) o_rm (lw_gr d_rm o_rm) (lw_gr_ok d_rm o_rm) o_rm 0 (Or.inl rfl) _ o_r o_es o_ey o_sets o_slots o_cnt o_lt o_wt o_rm o_st o_kd o_od o_rooms o_dct o_nx o_sy o_nt o_so o_fr o_tb o_tn o_pct o_fn o_fs o_fz h9) (cwV 2 hts gL_law_X9_least rfl rfl rfl ⟨rfl, eX9_least⟩ ⟨Nat.le_of_ble_eq_true rfl, Nat.le_of_ble_eq_true rfl⟩) (preWV (ci := 9) (q0 := 0) hK hP.left hD.left rfl rfl) rfl rfl hl.1 rfl (lv_room (Nat.le_of_ble_eq_true rfl)) dL_law_909 ⟨by show cells + 10 ≤ 600000; omega, by show slots + (lw_gr d_rm o_rm + 0) ≤ 7302250; omega⟩) hP hD hS hA (fun u9 H locs hP hD hS => ?_)
  have hP : va_P G.1 vwCl (((WX G z_h z_q z_fh z_hr z_hl z_hk z_he z_ht r_q l_hd k_hp e_hs e_q s_q t_q d_q u9 p_q r_goes r_told o_es o_ey o_sets o_slots o_cnt t_ways t_freshWays o_lt o_wt o_rm o_st o_kd o_od o_rooms o_dct o_nx o_sy o_nt o_so o_fr o_tb o_tn o_pct) ++ (WF G z_fh f_q o_fn o_fs o_fz)) ++ (WM G m_h m_q m_onBy m_toldBy m_kindsOf m_nextOf m_holdsAt m_made m_standsFor m_madeNext m_madeHolds m_stateFor m_joined m_joinedNow m_firstIn m_orderOf m_classAt m_sets m_waysTo m_waysThen m_queue m_leastTo)) H := hP
  have hD : va_D A (((WX G z_h z_q z_fh z_hr z_hl z_hk z_he z_ht r_q l_hd k_hp e_hs e_q s_q t_q d_q u9 p_q r_goes r_told o_es o_ey o_sets o_slots o_cnt t_ways t_freshWays o_lt o_wt o_rm o_st o_kd o_od o_rooms o_dct o_nx o_sy o_nt o_so o_fr o_tb o_tn o_pct) ++ (WF G z_fh f_q o_fn o_fs o_fz)) ++ (WM G m_h m_q m_onBy m_toldBy m_kindsOf m_nextOf m_holdsAt m_made m_standsFor m_madeNext m_madeHolds m_stateFor m_joined m_joinedNow m_firstIn m_orderOf m_classAt m_sets m_waysTo m_waysThen m_queue m_leastTo)) := hD
  refine lv_aload_n hx hb dL_law_912 rfl (lv_at hl 2 rfl) ?_
  refine lv_aload_n hx hb dL_law_913 rfl (lv_at hl 0 rfl) ?_
  refine lv_iload_n hx hb dL_law_914 rfl (lv_at hl 3 rfl) ?_
  refine lv_iconst (v := 1) hx hb dL_law_915 (by decide) ?_
  refine lv_iadd hx hb dL_law_916 ?_
  refine va_sld hx hb hX hbl hbA hS h1 dL_law_917 ?_
  refine lv_aload_n hx hb dL_law_918 rfl (lv_at hl 0 rfl) ?_
  refine lv_iload_n hx hb dL_law_919 rfl (lv_at hl 3 rfl) ?_
  refine lv_iconst (v := 2) hx hb dL_law_920 (by decide) ?_
  refine lv_iadd hx hb dL_law_921 ?_
  refine va_sld hx hb hX hbl hbA hS h2 dL_law_922 ?_
  refine k_ciR (va_runV (As := [.int (xs (x3 + 1).toNatClampNeg), .int (xs (x3 + 2).toNatClampNeg)]) (rest := [.int o_r]) ⟨hx, hb, hml, hown, hts⟩ (c_X10_least l G 5000 m_h m_q m_onBy m_toldBy m_kindsOf m_nextOf m_holdsAt m_made m_standsFor m_madeNext m_madeHolds m_stateFor m_joined m_joinedNow m_firstIn m_orderOf m_classAt m_sets m_waysTo m_waysThen m_queue m_leastTo (xs (x3 + 1).toNatClampNeg) (xs (x3 + 2).toNatClampNeg) _ o_r o_ko o_nxo o_ha o_md o_mn o_mh o_jd o_jn o_fi o_oo o_ca o_ms o_qu o_ltm h10) (cwV 2 hts gL_law_X10_least rfl rfl rfl ⟨rfl, eX10_least⟩ ⟨Nat.le_of_ble_eq_true rfl, Nat.le_of_ble_eq_true rfl⟩) (preWV (ci := 10) (q0 := 0) hK hP.right hD.right rfl rfl) rfl rfl hl.1 rfl (lv_room (Nat.le_of_ble_eq_true rfl)) dL_law_923 ⟨by show cells + 10 + 0 ≤ 600000; omega, by show slots + (lw_gr d_rm o_rm + 0) + (0) ≤ 7302250; omega⟩) hP hD hS hA (fun u10 H locs hP hD hS => ?_)
  have hP : va_P G.1 vwCl (((WX G z_h z_q z_fh z_hr z_hl z_hk z_he z_ht r_q l_hd k_hp e_hs e_q s_q t_q d_q u9 p_q r_goes r_told o_es o_ey o_sets o_slots o_cnt t_ways t_freshWays o_lt o_wt o_rm o_st o_kd o_od o_rooms o_dct o_nx o_sy o_nt o_so o_fr o_tb o_tn o_pct) ++ (WF G z_fh f_q o_fn o_fs o_fz)) ++ (WM G m_h m_q m_onBy m_toldBy o_ko o_nxo o_ha o_md m_standsFor o_mn o_mh m_stateFor o_jd o_jn o_fi o_oo o_ca o_ms m_waysTo m_waysThen o_qu o_ltm)) H := hP
  have hD : va_D A (((WX G z_h z_q z_fh z_hr z_hl z_hk z_he z_ht r_q l_hd k_hp e_hs e_q s_q t_q d_q u9 p_q r_goes r_told o_es o_ey o_sets o_slots o_cnt t_ways t_freshWays o_lt o_wt o_rm o_st o_kd o_od o_rooms o_dct o_nx o_sy o_nt o_so o_fr o_tb o_tn o_pct) ++ (WF G z_fh f_q o_fn o_fs o_fz)) ++ (WM G m_h m_q m_onBy m_toldBy o_ko o_nxo o_ha o_md m_standsFor o_mn o_mh m_stateFor o_jd o_jn o_fi o_oo o_ca o_ms m_waysTo m_waysThen o_qu o_ltm)) := hD
  refine lv_icmp_eq (tgt := 1010) hx hb dL_law_926 (by decide) (fun _ => ?_) (fun c9 => absurd rfl c9)
  refine W.widen (k := cells + 10) (n := slots + lw_gr d_rm o_rm) (by show cells + 10 + 0 ≤ cells + 10; omega) (by show slots + (lw_gr d_rm o_rm + 0) + (0) ≤ slots + lw_gr d_rm o_rm; omega) ?_
  exact kk o_rm _ _ hgr ⟨z_q, z_fh, z_hr, z_hl, z_hk, z_he, z_ht, r_q, l_hd, k_hp, e_hs, e_q, s_q, t_q, d_q, u9, p_q, f_q, m_q, r_goes, r_told, o_es, o_ey, o_sets, o_slots, o_cnt, t_ways, t_freshWays, o_lt, o_wt, o_st, o_kd, o_od, o_rooms, o_dct, o_nx, o_sy, o_nt, o_so, o_fr, o_tb, o_tn, o_pct, o_fn, o_fs, o_fz, m_onBy, m_toldBy, o_ko, o_nxo, o_ha, o_md, m_standsFor, o_mn, o_mh, m_stateFor, o_jd, o_jn, o_fi, o_oo, o_ca, o_ms, m_waysTo, m_waysThen, o_qu, o_ltm, hrow, hcl1, hd1, hp1, hP, hD⟩ hS
set_option maxHeartbeats 8000000 in
set_option maxRecDepth 100000 in
theorem lc_same {p : Program} {l : Launch} {e : Env} {s : State} {m : MethodId} {below : List Frame} {meth : Method} {c : Code} {b L : Nat} {xs : Nat → Int32} {G : GG} {A : Nat → Prop} {Q : State → Prop} (C0 : lw_At p s m meth c b L xs) (hK : KN G s) (hA : ∀ q : Nat, s.heap.size ≤ q → A q) (hbA : ¬ A b) {z_h m_h d_rm : Nat} {H : Heap} {locs : List Loc} {cells slots : Nat} {x3 : Int32} {ls : Array Slot} (hI : LI G A z_h m_h d_rm H) (hS : va_S A s.heap H locs) (hl : lv_has ls 4 [(0, .ref b), (1, .ref z_h), (2, .ref m_h), (3, .int x3)]) (h1 : vp_in (x3 + 1) L) (h2 : vp_in (x3 + 2) L) (h3 : vp_in (x3 + 3) L) (h4 : vp_in (x3 + 4) L) (hcc : cells + 10 ≤ 600000) (hss : slots + 43200 ≤ 7302250)
    (kk : ∀ (rm1 : Nat) (H : Heap) (locs : List Loc), rl_gr d_rm rm1 → LI G A z_h m_h rm1 H → va_S A s.heap H locs → W p l e room_1 s m #[Value.ref b] below meth c H locs (cells + 10) (slots + lw_gr d_rm rm1) Q (F0 m 1010 ls [])) : W p l e room_1 s m #[Value.ref b] below meth c H locs cells slots Q (F0 m 931 ls []) := by
  obtain ⟨hx, hb, hr, hml, hown, hts0, hX, hbl, hlocks, hgv⟩ := id C0
  have hts : ∀ w ∈ wsL_law, w.before #[Value.ref b] s = true := fun w h => hts0 w (wsL_law_in w h)
  have hown : s.vm.findClass RL = some m.cls := hown
  obtain ⟨z_q, z_fh, z_hr, z_hl, z_hk, z_he, z_ht, r_q, l_hd, k_hp, e_hs, e_q, s_q, t_q, d_q, d_a, p_q, f_q, m_q, r_goes, r_told, e_steps, e_yes, s_sets, s_slots, s_count, t_ways, t_freshWays, t_leastTo, t_waiting, d_stateOf, d_kindOf, d_order, d_rooms, d_count, d_next, d_says, d_note, d_sort, d_freshSort, p_table, p_turn, p_count, f_next, f_says, f_size, m_onBy, m_toldBy, m_kindsOf, m_nextOf, m_holdsAt, m_made, m_standsFor, m_madeNext, m_madeHolds, m_stateFor, m_joined, m_joinedNow, m_firstIn, m_orderOf, m_classAt, m_sets, m_waysTo, m_waysThen, m_queue, m_leastTo, hrow, hcl, hd, hp, hP, hD⟩ := hI
  obtain ⟨o_r, h9, h10⟩ := op_same (Nat.le_refl 5000) hcl (xs (x3 + 1).toNatClampNeg) (xs (x3 + 2).toNatClampNeg)
  refine lv_aload_n hx hb dL_law_931 rfl (lv_at hl 1 rfl) ?_
  refine lv_aload_n hx hb dL_law_932 rfl (lv_at hl 0 rfl) ?_
  refine lv_iload_n hx hb dL_law_933 rfl (lv_at hl 3 rfl) ?_
  refine lv_iconst (v := 1) hx hb dL_law_934 (by decide) ?_
  refine lv_iadd hx hb dL_law_935 ?_
  refine va_sld hx hb hX hbl hbA hS h1 dL_law_936 ?_
  refine lv_aload_n hx hb dL_law_937 rfl (lv_at hl 0 rfl) ?_
  refine lv_iload_n hx hb dL_law_938 rfl (lv_at hl 3 rfl) ?_
  refine lv_iconst (v := 2) hx hb dL_law_939 (by decide) ?_
  refine lv_iadd hx hb dL_law_940 ?_
  refine va_sld hx hb hX hbl hbA hS h2 dL_law_941 ?_
  refine k_si (va_runV (As := [.int (xs (x3 + 1).toNatClampNeg), .int (xs (x3 + 2).toNatClampNeg)]) (rest := []) ⟨hx, hb, hml, hown, hts⟩ (c_X9_same l G 5000 z_h z_q z_fh z_hr z_hl z_hk z_he z_ht r_q l_hd k_hp e_hs e_q s_q t_q d_q d_a p_q f_q r_goes r_told e_steps e_yes s_sets s_slots s_count t_ways t_freshWays t_leastTo t_waiting d_rm d_stateOf d_kindOf d_order d_rooms d_count d_next d_says d_note d_sort d_freshSort p_table p_turn p_count f_next f_says f_size (xs (x3 + 1).toNatClampNeg) (xs (x3 + 2).toNatClampNeg) o_r h9) (cwV 2 hts gL_law_X9_same rfl rfl rfl ⟨rfl, eX9_same⟩ ⟨Nat.le_of_ble_eq_true rfl, Nat.le_of_ble_eq_true rfl⟩) (preSV (ci := 9) (q0 := 0) hK hP.left rfl rfl) rfl rfl hl.1 rfl (lv_room (Nat.le_of_ble_eq_true rfl)) dL_law_942 ⟨by show cells + 0 ≤ 600000; omega, by show slots + (0) ≤ 7302250; omega⟩) ?_
  refine lv_aload_n hx hb dL_law_945 rfl (lv_at hl 2 rfl) ?_
  refine lv_aload_n hx hb dL_law_946 rfl (lv_at hl 0 rfl) ?_
  refine lv_iload_n hx hb dL_law_947 rfl (lv_at hl 3 rfl) ?_
  refine lv_iconst (v := 1) hx hb dL_law_948 (by decide) ?_
  refine lv_iadd hx hb dL_law_949 ?_
  refine va_sld hx hb hX hbl hbA hS h1 dL_law_950 ?_
  refine lv_aload_n hx hb dL_law_951 rfl (lv_at hl 0 rfl) ?_
  refine lv_iload_n hx hb dL_law_952 rfl (lv_at hl 3 rfl) ?_
  refine lv_iconst (v := 2) hx hb dL_law_953 (by decide) ?_
  refine lv_iadd hx hb dL_law_954 ?_
  refine va_sld hx hb hX hbl hbA hS h2 dL_law_955 ?_
  refine k_si (va_runV (As := [.int (xs (x3 + 1).toNatClampNeg), .int (xs (x3 + 2).toNatClampNeg)]) (rest := [.int o_r]) ⟨hx, hb, hml, hown, hts⟩ (c_X10_same l G 5000 m_h m_q m_onBy m_toldBy m_kindsOf m_nextOf m_holdsAt m_made m_standsFor m_madeNext m_madeHolds m_stateFor m_joined m_joinedNow m_firstIn m_orderOf m_classAt m_sets m_waysTo m_waysThen m_queue m_leastTo (xs (x3 + 1).toNatClampNeg) (xs (x3 + 2).toNatClampNeg) o_r h10) (cwV 2 hts gL_law_X10_same rfl rfl rfl ⟨rfl, eX10_same⟩ ⟨Nat.le_of_ble_eq_true rfl, Nat.le_of_ble_eq_true rfl⟩) (preSV (ci := 10) (q0 := 0) hK hP.right rfl rfl) rfl rfl hl.1 rfl (lv_room (Nat.le_of_ble_eq_true rfl)) dL_law_956 ⟨by show cells + 0 ≤ 600000; omega, by show slots + (0) ≤ 7302250; omega⟩) ?_
  refine lv_icmp_eq (tgt := 1010) hx hb dL_law_959 (by decide) (fun _ => ?_) (fun c9 => absurd rfl c9)
  refine W.widen (k := cells + 10) (n := slots + lw_gr d_rm d_rm) (by show cells ≤ cells + 10; omega) (by show slots ≤ slots + lw_gr d_rm d_rm; omega) ?_
  exact kk d_rm _ _ (Or.inl rfl) ⟨z_q, z_fh, z_hr, z_hl, z_hk, z_he, z_ht, r_q, l_hd, k_hp, e_hs, e_q, s_q, t_q, d_q, d_a, p_q, f_q, m_q, r_goes, r_told, e_steps, e_yes, s_sets, s_slots, s_count, t_ways, t_freshWays, t_leastTo, t_waiting, d_stateOf, d_kindOf, d_order, d_rooms, d_count, d_next, d_says, d_note, d_sort, d_freshSort, p_table, p_turn, p_count, f_next, f_says, f_size, m_onBy, m_toldBy, m_kindsOf, m_nextOf, m_holdsAt, m_made, m_standsFor, m_madeNext, m_madeHolds, m_stateFor, m_joined, m_joinedNow, m_firstIn, m_orderOf, m_classAt, m_sets, m_waysTo, m_waysThen, m_queue, m_leastTo, hrow, hcl, hd, hp, hP, hD⟩ hS
set_option maxHeartbeats 8000000 in
set_option maxRecDepth 100000 in
theorem lc_drop {p : Program} {l : Launch} {e : Env} {s : State} {m : MethodId} {below : List Frame} {meth : Method} {c : Code} {b L : Nat} {xs : Nat → Int32} {G : GG} {A : Nat → Prop} {Q : State → Prop} (C0 : lw_At p s m meth c b L xs) (hK : KN G s) (hA : ∀ q : Nat, s.heap.size ≤ q → A q) (hbA : ¬ A b) {z_h m_h d_rm : Nat} {H : Heap} {locs : List Loc} {cells slots : Nat} {x3 : Int32} {ls : Array Slot} (hI : LI G A z_h m_h d_rm H) (hS : va_S A s.heap H locs) (hl : lv_has ls 4 [(0, .ref b), (1, .ref z_h), (2, .ref m_h), (3, .int x3)]) (h1 : vp_in (x3 + 1) L) (h2 : vp_in (x3 + 2) L) (h3 : vp_in (x3 + 3) L) (h4 : vp_in (x3 + 4) L) (hcc : cells + 10 ≤ 600000) (hss : slots + 43200 ≤ 7302250)
    (kk : ∀ (rm1 : Nat) (H : Heap) (locs : List Loc), rl_gr d_rm rm1 → LI G A z_h m_h rm1 H → va_S A s.heap H locs → W p l e room_1 s m #[Value.ref b] below meth c H locs (cells + 10) (slots + lw_gr d_rm rm1) Q (F0 m 1010 ls [])) : W p l e room_1 s m #[Value.ref b] below meth c H locs cells slots Q (F0 m 964 ls []) := by
  obtain ⟨hx, hb, hr, hml, hown, hts0, hX, hbl, hlocks, hgv⟩ := id C0
  have hts : ∀ w ∈ wsL_law, w.before #[Value.ref b] s = true := fun w h => hts0 w (wsL_law_in w h)
  have hown : s.vm.findClass RL = some m.cls := hown
  obtain ⟨z_q, z_fh, z_hr, z_hl, z_hk, z_he, z_ht, r_q, l_hd, k_hp, e_hs, e_q, s_q, t_q, d_q, d_a, p_q, f_q, m_q, r_goes, r_told, e_steps, e_yes, s_sets, s_slots, s_count, t_ways, t_freshWays, t_leastTo, t_waiting, d_stateOf, d_kindOf, d_order, d_rooms, d_count, d_next, d_says, d_note, d_sort, d_freshSort, p_table, p_turn, p_count, f_next, f_says, f_size, m_onBy, m_toldBy, m_kindsOf, m_nextOf, m_holdsAt, m_made, m_standsFor, m_madeNext, m_madeHolds, m_stateFor, m_joined, m_joinedNow, m_firstIn, m_orderOf, m_classAt, m_sets, m_waysTo, m_waysThen, m_queue, m_leastTo, hrow, hcl, hd, hp, hP, hD⟩ := hI
  obtain ⟨o_r, o_fz, o_ko, h9, h10, hcl1⟩ := op_drop hcl (xs (x3 + 1).toNatClampNeg)
  refine lv_aload_n hx hb dL_law_964 rfl (lv_at hl 1 rfl) ?_
  refine lv_aload_n hx hb dL_law_965 rfl (lv_at hl 0 rfl) ?_
  refine lv_iload_n hx hb dL_law_966 rfl (lv_at hl 3 rfl) ?_
  refine lv_iconst (v := 1) hx hb dL_law_967 (by decide) ?_
  refine lv_iadd hx hb dL_law_968 ?_
  refine va_sld hx hb hX hbl hbA hS h1 dL_law_969 ?_
  refine k_ciL (va_runV (As := [.int (xs (x3 + 1).toNatClampNeg)]) (rest := []) ⟨hx, hb, hml, hown, hts⟩ (c_X9_drop l G z_h z_q z_fh z_hr z_hl z_hk z_he z_ht r_q l_hd k_hp e_hs e_q s_q t_q d_q d_a p_q f_q r_goes r_told e_steps e_yes s_sets s_slots s_count t_ways t_freshWays t_leastTo t_waiting d_rm d_stateOf d_kindOf d_order d_rooms d_count d_next d_says d_note d_sort d_freshSort p_table p_turn p_count f_next f_says f_size (xs (x3 + 1).toNatClampNeg) _ o_r o_fz h9) (cwV 1 hts gL_law_X9_drop rfl rfl rfl ⟨rfl, eX9_drop⟩ ⟨Nat.le_of_ble_eq_true rfl, Nat.le_of_ble_eq_true rfl⟩) (preWV (ci := 9) (q0 := 0) hK hP.left hD.left rfl rfl) rfl rfl hl.1 rfl (lv_room (Nat.le_of_ble_eq_true rfl)) dL_law_970 ⟨by show cells + 0 ≤ 600000; omega, by show slots + (0) ≤ 7302250; omega⟩) hP hD hS hA (fun u9 H locs hP hD hS => ?_)
  have hP : va_P G.1 vwCl (((WX G z_h z_q z_fh z_hr z_hl z_hk z_he z_ht r_q l_hd k_hp e_hs e_q s_q t_q d_q d_a p_q r_goes r_told e_steps e_yes s_sets s_slots s_count t_ways t_freshWays t_leastTo t_waiting d_rm d_stateOf d_kindOf d_order d_rooms d_count d_next d_says d_note d_sort d_freshSort p_table p_turn p_count) ++ (WF G z_fh f_q f_next f_says o_fz)) ++ (WM G m_h m_q m_onBy m_toldBy m_kindsOf m_nextOf m_holdsAt m_made m_standsFor m_madeNext m_madeHolds m_stateFor m_joined m_joinedNow m_firstIn m_orderOf m_classAt m_sets m_waysTo m_waysThen m_queue m_leastTo)) H := hP
  have hD : va_D A (((WX G z_h z_q z_fh z_hr z_hl z_hk z_he z_ht r_q l_hd k_hp e_hs e_q s_q t_q d_q d_a p_q r_goes r_told e_steps e_yes s_sets s_slots s_count t_ways t_freshWays t_leastTo t_waiting d_rm d_stateOf d_kindOf d_order d_rooms d_count d_next d_says d_note d_sort d_freshSort p_table p_turn p_count) ++ (WF G z_fh f_q f_next f_says o_fz)) ++ (WM G m_h m_q m_onBy m_toldBy m_kindsOf m_nextOf m_holdsAt m_made m_standsFor m_madeNext m_madeHolds m_stateFor m_joined m_joinedNow m_firstIn m_orderOf m_classAt m_sets m_waysTo m_waysThen m_queue m_leastTo)) := hD
  refine lv_aload_n hx hb dL_law_973 rfl (lv_at hl 2 rfl) ?_
  refine lv_aload_n hx hb dL_law_974 rfl (lv_at hl 0 rfl) ?_
  refine lv_iload_n hx hb dL_law_975 rfl (lv_at hl 3 rfl) ?_
  refine lv_iconst (v := 1) hx hb dL_law_976 (by decide) ?_
  refine lv_iadd hx hb dL_law_977 ?_
  refine va_sld hx hb hX hbl hbA hS h1 dL_law_978 ?_
  refine k_ciR (va_runV (As := [.int (xs (x3 + 1).toNatClampNeg)]) (rest := [.int o_r]) ⟨hx, hb, hml, hown, hts⟩ (c_X10_drop l G m_h m_q m_onBy m_toldBy m_kindsOf m_nextOf m_holdsAt m_made m_standsFor m_madeNext m_madeHolds m_stateFor m_joined m_joinedNow m_firstIn m_orderOf m_classAt m_sets m_waysTo m_waysThen m_queue m_leastTo (xs (x3 + 1).toNatClampNeg) _ o_r o_ko h10) (cwV 1 hts gL_law_X10_drop rfl rfl rfl ⟨rfl, eX10_drop⟩ ⟨Nat.le_of_ble_eq_true rfl, Nat.le_of_ble_eq_true rfl⟩) (preWV (ci := 10) (q0 := 0) hK hP.right hD.right rfl rfl) rfl rfl hl.1 rfl (lv_room (Nat.le_of_ble_eq_true rfl)) dL_law_979 ⟨by show cells + 0 + 0 ≤ 600000; omega, by show slots + (0) + (0) ≤ 7302250; omega⟩) hP hD hS hA (fun u10 H locs hP hD hS => ?_)
  have hP : va_P G.1 vwCl (((WX G z_h z_q z_fh z_hr z_hl z_hk z_he z_ht r_q l_hd k_hp e_hs e_q s_q t_q d_q d_a p_q r_goes r_told e_steps e_yes s_sets s_slots s_count t_ways t_freshWays t_leastTo t_waiting d_rm d_stateOf d_kindOf d_order d_rooms d_count d_next d_says d_note d_sort d_freshSort p_table p_turn p_count) ++ (WF G z_fh f_q f_next f_says o_fz)) ++ (WM G m_h m_q m_onBy m_toldBy o_ko m_nextOf m_holdsAt m_made m_standsFor m_madeNext m_madeHolds m_stateFor m_joined m_joinedNow m_firstIn m_orderOf m_classAt m_sets m_waysTo m_waysThen m_queue m_leastTo)) H := hP
  have hD : va_D A (((WX G z_h z_q z_fh z_hr z_hl z_hk z_he z_ht r_q l_hd k_hp e_hs e_q s_q t_q d_q d_a p_q r_goes r_told e_steps e_yes s_sets s_slots s_count t_ways t_freshWays t_leastTo t_waiting d_rm d_stateOf d_kindOf d_order d_rooms d_count d_next d_says d_note d_sort d_freshSort p_table p_turn p_count) ++ (WF G z_fh f_q f_next f_says o_fz)) ++ (WM G m_h m_q m_onBy m_toldBy o_ko m_nextOf m_holdsAt m_made m_standsFor m_madeNext m_madeHolds m_stateFor m_joined m_joinedNow m_firstIn m_orderOf m_classAt m_sets m_waysTo m_waysThen m_queue m_leastTo)) := hD
  refine lv_icmp_eq (tgt := 1010) hx hb dL_law_982 (by decide) (fun _ => ?_) (fun c9 => absurd rfl c9)
  refine W.widen (k := cells + 10) (n := slots + lw_gr d_rm d_rm) (by show cells + 0 + 0 ≤ cells + 10; omega) (by show slots + (0) + (0) ≤ slots + lw_gr d_rm d_rm; omega) ?_
  exact kk d_rm _ _ (Or.inl rfl) ⟨z_q, z_fh, z_hr, z_hl, z_hk, z_he, z_ht, r_q, l_hd, k_hp, e_hs, e_q, s_q, t_q, d_q, d_a, p_q, f_q, m_q, r_goes, r_told, e_steps, e_yes, s_sets, s_slots, s_count, t_ways, t_freshWays, t_leastTo, t_waiting, d_stateOf, d_kindOf, d_order, d_rooms, d_count, d_next, d_says, d_note, d_sort, d_freshSort, p_table, p_turn, p_count, f_next, f_says, o_fz, m_onBy, m_toldBy, o_ko, m_nextOf, m_holdsAt, m_made, m_standsFor, m_madeNext, m_madeHolds, m_stateFor, m_joined, m_joinedNow, m_firstIn, m_orderOf, m_classAt, m_sets, m_waysTo, m_waysThen, m_queue, m_leastTo, hrow, hcl1, hd, hp, hP, hD⟩ hS
set_option maxHeartbeats 8000000 in
set_option maxRecDepth 100000 in
theorem lc_many {p : Program} {l : Launch} {e : Env} {s : State} {m : MethodId} {below : List Frame} {meth : Method} {c : Code} {b L : Nat} {xs : Nat → Int32} {G : GG} {A : Nat → Prop} {Q : State → Prop} (C0 : lw_At p s m meth c b L xs) (hK : KN G s) (hA : ∀ q : Nat, s.heap.size ≤ q → A q) (hbA : ¬ A b) {z_h m_h d_rm : Nat} {H : Heap} {locs : List Loc} {cells slots : Nat} {x3 : Int32} {ls : Array Slot} (hI : LI G A z_h m_h d_rm H) (hS : va_S A s.heap H locs) (hl : lv_has ls 4 [(0, .ref b), (1, .ref z_h), (2, .ref m_h), (3, .int x3)]) (h1 : vp_in (x3 + 1) L) (h2 : vp_in (x3 + 2) L) (h3 : vp_in (x3 + 3) L) (h4 : vp_in (x3 + 4) L) (hcc : cells + 10 ≤ 600000) (hss : slots + 43200 ≤ 7302250)
    (kk : ∀ (rm1 : Nat) (H : Heap) (locs : List Loc), rl_gr d_rm rm1 → LI G A z_h m_h rm1 H → va_S A s.heap H locs → W p l e room_1 s m #[Value.ref b] below meth c H locs (cells + 10) (slots + lw_gr d_rm rm1) Q (F0 m 1010 ls [])) : W p l e room_1 s m #[Value.ref b] below meth c H locs cells slots Q (F0 m 987 ls []) := by
  obtain ⟨hx, hb, hr, hml, hown, hts0, hX, hbl, hlocks, hgv⟩ := id C0
  have hts : ∀ w ∈ wsL_law, w.before #[Value.ref b] s = true := fun w h => hts0 w (wsL_law_in w h)
  have hown : s.vm.findClass RL = some m.cls := hown
  obtain ⟨z_q, z_fh, z_hr, z_hl, z_hk, z_he, z_ht, r_q, l_hd, k_hp, e_hs, e_q, s_q, t_q, d_q, d_a, p_q, f_q, m_q, r_goes, r_told, e_steps, e_yes, s_sets, s_slots, s_count, t_ways, t_freshWays, t_leastTo, t_waiting, d_stateOf, d_kindOf, d_order, d_rooms, d_count, d_next, d_says, d_note, d_sort, d_freshSort, p_table, p_turn, p_count, f_next, f_says, f_size, m_onBy, m_toldBy, m_kindsOf, m_nextOf, m_holdsAt, m_made, m_standsFor, m_madeNext, m_madeHolds, m_stateFor, m_joined, m_joinedNow, m_firstIn, m_orderOf, m_classAt, m_sets, m_waysTo, m_waysThen, m_queue, m_leastTo, hrow, hcl, hd, hp, hP, hD⟩ := hI
  obtain ⟨o_r, h9, h10⟩ := op_many (Nat.le_refl 5000) hcl (xs (x3 + 1).toNatClampNeg)
  refine lv_aload_n hx hb dL_law_987 rfl (lv_at hl 1 rfl) ?_
  refine lv_aload_n hx hb dL_law_988 rfl (lv_at hl 0 rfl) ?_
  refine lv_iload_n hx hb dL_law_989 rfl (lv_at hl 3 rfl) ?_
  refine lv_iconst (v := 1) hx hb dL_law_990 (by decide) ?_
  refine lv_iadd hx hb dL_law_991 ?_
  refine va_sld hx hb hX hbl hbA hS h1 dL_law_992 ?_
  refine k_si (va_runV (As := [.int (xs (x3 + 1).toNatClampNeg)]) (rest := []) ⟨hx, hb, hml, hown, hts⟩ (c_X9_many l G 5000 z_h z_q z_fh z_hr z_hl z_hk z_he z_ht r_q l_hd k_hp e_hs e_q s_q t_q d_q d_a p_q f_q r_goes r_told e_steps e_yes s_sets s_slots s_count t_ways t_freshWays t_leastTo t_waiting d_rm d_stateOf d_kindOf d_order d_rooms d_count d_next d_says d_note d_sort d_freshSort p_table p_turn p_count f_next f_says f_size (xs (x3 + 1).toNatClampNeg) o_r h9) (cwV 1 hts gL_law_X9_many rfl rfl rfl ⟨rfl, eX9_many⟩ ⟨Nat.le_of_ble_eq_true rfl, Nat.le_of_ble_eq_true rfl⟩) (preSV (ci := 9) (q0 := 0) hK hP.left rfl rfl) rfl rfl hl.1 rfl (lv_room (Nat.le_of_ble_eq_true rfl)) dL_law_993 ⟨by show cells + 0 ≤ 600000; omega, by show slots + (0) ≤ 7302250; omega⟩) ?_
  refine lv_aload_n hx hb dL_law_996 rfl (lv_at hl 2 rfl) ?_
  refine lv_aload_n hx hb dL_law_997 rfl (lv_at hl 0 rfl) ?_
  refine lv_iload_n hx hb dL_law_998 rfl (lv_at hl 3 rfl) ?_
  refine lv_iconst (v := 1) hx hb dL_law_999 (by decide) ?_
  refine lv_iadd hx hb dL_law_1000 ?_
  refine va_sld hx hb hX hbl hbA hS h1 dL_law_1001 ?_
  refine k_si (va_runV (As := [.int (xs (x3 + 1).toNatClampNeg)]) (rest := [.int o_r]) ⟨hx, hb, hml, hown, hts⟩ (c_X10_many l G 5000 m_h m_q m_onBy m_toldBy m_kindsOf m_nextOf m_holdsAt m_made m_standsFor m_madeNext m_madeHolds m_stateFor m_joined m_joinedNow m_firstIn m_orderOf m_classAt m_sets m_waysTo m_waysThen m_queue m_leastTo (xs (x3 + 1).toNatClampNeg) o_r h10) (cwV 1 hts gL_law_X10_many rfl rfl rfl ⟨rfl, eX10_many⟩ ⟨Nat.le_of_ble_eq_true rfl, Nat.le_of_ble_eq_true rfl⟩) (preSV (ci := 10) (q0 := 0) hK hP.right rfl rfl) rfl rfl hl.1 rfl (lv_room (Nat.le_of_ble_eq_true rfl)) dL_law_1002 ⟨by show cells + 0 ≤ 600000; omega, by show slots + (0) ≤ 7302250; omega⟩) ?_
  refine lv_icmp_eq (tgt := 1010) hx hb dL_law_1005 (by decide) (fun _ => ?_) (fun c9 => absurd rfl c9)
  refine W.widen (k := cells + 10) (n := slots + lw_gr d_rm d_rm) (by show cells ≤ cells + 10; omega) (by show slots ≤ slots + lw_gr d_rm d_rm; omega) ?_
  exact kk d_rm _ _ (Or.inl rfl) ⟨z_q, z_fh, z_hr, z_hl, z_hk, z_he, z_ht, r_q, l_hd, k_hp, e_hs, e_q, s_q, t_q, d_q, d_a, p_q, f_q, m_q, r_goes, r_told, e_steps, e_yes, s_sets, s_slots, s_count, t_ways, t_freshWays, t_leastTo, t_waiting, d_stateOf, d_kindOf, d_order, d_rooms, d_count, d_next, d_says, d_note, d_sort, d_freshSort, p_table, p_turn, p_count, f_next, f_says, f_size, m_onBy, m_toldBy, m_kindsOf, m_nextOf, m_holdsAt, m_made, m_standsFor, m_madeNext, m_madeHolds, m_stateFor, m_joined, m_joinedNow, m_firstIn, m_orderOf, m_classAt, m_sets, m_waysTo, m_waysThen, m_queue, m_leastTo, hrow, hcl, hd, hp, hP, hD⟩ hS
