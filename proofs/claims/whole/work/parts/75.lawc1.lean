set_option maxHeartbeats 8000000 in
set_option maxRecDepth 100000 in
theorem lc_place {p : Program} {l : Launch} {e : Env} {s : State} {m : MethodId} {below : List Frame} {meth : Method} {c : Code} {b L : Nat} {xs : Nat → Int32} {G : GG} {A : Nat → Prop} {Q : State → Prop} (C0 : lw_At p s m meth c b L xs) (hK : KN G s) (hA : ∀ q : Nat, s.heap.size ≤ q → A q) (hbA : ¬ A b) {z_h m_h d_rm : Nat} {H : Heap} {locs : List Loc} {cells slots : Nat} {x3 : Int32} {ls : Array Slot} (hI : LI G A z_h m_h d_rm H) (hS : va_S A s.heap H locs) (hl : lv_has ls 4 [(0, .ref b), (1, .ref z_h), (2, .ref m_h), (3, .int x3)]) (h1 : vp_in (x3 + 1) L) (h2 : vp_in (x3 + 2) L) (h3 : vp_in (x3 + 3) L) (h4 : vp_in (x3 + 4) L) (hcc : cells + 10 ≤ 600000) (hss : slots + 43200 ≤ room_1.slots)
    (kk : ∀ (rm1 : Nat) (H : Heap) (locs : List Loc), rl_gr d_rm rm1 → LI G A z_h m_h rm1 H → va_S A s.heap H locs → W p l e room_1 s m #[Value.ref b] below meth c H locs (cells + 10) (slots + lw_gr d_rm rm1) Q (F0 m 1010 ls [])) : W p l e room_1 s m #[Value.ref b] below meth c H locs cells slots Q (F0 m 140 ls []) := by
  obtain ⟨hx, hb, hr, hml, hown, hts0, hX, hbl, hlocks, hgv⟩ := id C0
  have hts : ∀ w ∈ wsL_law, w.before #[Value.ref b] s = true := fun w h => hts0 w (wsL_law_in w h)
  have hown : s.vm.findClass RL = some m.cls := hown
  obtain ⟨z_q, z_fh, z_hr, z_hl, z_hk, z_he, z_ht, r_q, l_hd, k_hp, e_hs, e_q, s_q, t_q, d_q, d_a, p_q, f_q, m_q, r_goes, r_told, e_steps, e_yes, s_sets, s_slots, s_count, t_ways, t_freshWays, t_leastTo, t_waiting, d_stateOf, d_kindOf, d_order, d_rooms, d_count, d_next, d_says, d_note, d_sort, d_freshSort, p_table, p_turn, p_count, f_next, f_says, f_size, m_onBy, m_toldBy, m_kindsOf, m_nextOf, m_holdsAt, m_made, m_standsFor, m_madeNext, m_madeHolds, m_stateFor, m_joined, m_joinedNow, m_firstIn, m_orderOf, m_classAt, m_sets, m_waysTo, m_waysThen, m_queue, m_leastTo, hrow, hcl, hd, hp, hP, hD⟩ := hI
  obtain ⟨o_r, o_goes, o_told, o_onBy, o_toldBy, h9, h10, hrow1⟩ := op_place hrow (xs (x3 + 1).toNatClampNeg) (xs (x3 + 2).toNatClampNeg) (xs (x3 + 3).toNatClampNeg) (xs (x3 + 4).toNatClampNeg)
  refine lv_aload_n hx hb dL_law_140 rfl (lv_at hl 1 rfl) ?_
  refine lv_aload_n hx hb dL_law_141 rfl (lv_at hl 0 rfl) ?_
  refine lv_iload_n hx hb dL_law_142 rfl (lv_at hl 3 rfl) ?_
  refine lv_iconst (v := 1) hx hb dL_law_143 (by decide) ?_
  refine lv_iadd hx hb dL_law_144 ?_
  refine va_sld hx hb hX hbl hbA hS h1 dL_law_145 ?_
  refine lv_aload_n hx hb dL_law_146 rfl (lv_at hl 0 rfl) ?_
  refine lv_iload_n hx hb dL_law_147 rfl (lv_at hl 3 rfl) ?_
  refine lv_iconst (v := 2) hx hb dL_law_148 (by decide) ?_
  refine lv_iadd hx hb dL_law_149 ?_
  refine va_sld hx hb hX hbl hbA hS h2 dL_law_150 ?_
  refine lv_aload_n hx hb dL_law_151 rfl (lv_at hl 0 rfl) ?_
  refine lv_iload_n hx hb dL_law_152 rfl (lv_at hl 3 rfl) ?_
  refine lv_iconst (v := 3) hx hb dL_law_153 (by decide) ?_
  refine lv_iadd hx hb dL_law_154 ?_
  refine va_sld hx hb hX hbl hbA hS h3 dL_law_155 ?_
  refine lv_aload_n hx hb dL_law_156 rfl (lv_at hl 0 rfl) ?_
  refine lv_iload_n hx hb dL_law_157 rfl (lv_at hl 3 rfl) ?_
  refine lv_iconst (v := 4) hx hb dL_law_158 (by decide) ?_
  refine lv_iadd hx hb dL_law_159 ?_
  refine va_sld hx hb hX hbl hbA hS h4 dL_law_160 ?_
  refine k_ciL (va_runV (As := [.int (xs (x3 + 1).toNatClampNeg), .int (xs (x3 + 2).toNatClampNeg), .int (xs (x3 + 3).toNatClampNeg), .int (xs (x3 + 4).toNatClampNeg)]) (rest := []) ⟨hx, hb, hml, hown, hts⟩ (c_X9_place l G z_h z_q z_fh z_hr z_hl z_hk z_he z_ht r_q l_hd k_hp e_hs e_q s_q t_q d_q d_a p_q f_q r_goes r_told e_steps e_yes s_sets s_slots s_count t_ways t_freshWays t_leastTo t_waiting d_rm d_stateOf d_kindOf d_order d_rooms d_count d_next d_says d_note d_sort d_freshSort p_table p_turn p_count f_next f_says f_size (xs (x3 + 1).toNatClampNeg) (xs (x3 + 2).toNatClampNeg) (xs (x3 + 3).toNatClampNeg) (xs (x3 + 4).toNatClampNeg) _ o_r o_goes o_told h9) (cwV 4 hts gL_law_X9_place rfl rfl rfl ⟨rfl, eX9_place⟩ ⟨Nat.le_of_ble_eq_true rfl, Nat.le_of_ble_eq_true rfl⟩) (preWV (ci := 9) (q0 := 0) hK hP.left hD.left rfl rfl) rfl rfl hl.1 rfl (lv_room (Nat.le_of_ble_eq_true rfl)) dL_law_161 ⟨by show cells + 0 ≤ 600000; omega, by show slots + (0) ≤ room_1.slots; omega⟩) hP hD hS hA (fun u9 H locs hP hD hS => ?_)
  have hP : va_P G.1 vwCl (((WX G z_h z_q z_fh z_hr z_hl z_hk z_he z_ht r_q l_hd k_hp e_hs e_q s_q t_q d_q d_a p_q o_goes o_told e_steps e_yes s_sets s_slots s_count t_ways t_freshWays t_leastTo t_waiting d_rm d_stateOf d_kindOf d_order d_rooms d_count d_next d_says d_note d_sort d_freshSort p_table p_turn p_count) ++ (WF G z_fh f_q f_next f_says f_size)) ++ (WM G m_h m_q m_onBy m_toldBy m_kindsOf m_nextOf m_holdsAt m_made m_standsFor m_madeNext m_madeHolds m_stateFor m_joined m_joinedNow m_firstIn m_orderOf m_classAt m_sets m_waysTo m_waysThen m_queue m_leastTo)) H := hP
  have hD : va_D A (((WX G z_h z_q z_fh z_hr z_hl z_hk z_he z_ht r_q l_hd k_hp e_hs e_q s_q t_q d_q d_a p_q o_goes o_told e_steps e_yes s_sets s_slots s_count t_ways t_freshWays t_leastTo t_waiting d_rm d_stateOf d_kindOf d_order d_rooms d_count d_next d_says d_note d_sort d_freshSort p_table p_turn p_count) ++ (WF G z_fh f_q f_next f_says f_size)) ++ (WM G m_h m_q m_onBy m_toldBy m_kindsOf m_nextOf m_holdsAt m_made m_standsFor m_madeNext m_madeHolds m_stateFor m_joined m_joinedNow m_firstIn m_orderOf m_classAt m_sets m_waysTo m_waysThen m_queue m_leastTo)) := hD
  refine lv_aload_n hx hb dL_law_164 rfl (lv_at hl 2 rfl) ?_
  refine lv_aload_n hx hb dL_law_165 rfl (lv_at hl 0 rfl) ?_
  refine lv_iload_n hx hb dL_law_166 rfl (lv_at hl 3 rfl) ?_
  refine lv_iconst (v := 1) hx hb dL_law_167 (by decide) ?_
  refine lv_iadd hx hb dL_law_168 ?_
  refine va_sld hx hb hX hbl hbA hS h1 dL_law_169 ?_
  refine lv_aload_n hx hb dL_law_170 rfl (lv_at hl 0 rfl) ?_
  refine lv_iload_n hx hb dL_law_171 rfl (lv_at hl 3 rfl) ?_
  refine lv_iconst (v := 2) hx hb dL_law_172 (by decide) ?_
  refine lv_iadd hx hb dL_law_173 ?_
  refine va_sld hx hb hX hbl hbA hS h2 dL_law_174 ?_
  refine lv_aload_n hx hb dL_law_175 rfl (lv_at hl 0 rfl) ?_
  refine lv_iload_n hx hb dL_law_176 rfl (lv_at hl 3 rfl) ?_
  refine lv_iconst (v := 3) hx hb dL_law_177 (by decide) ?_
  refine lv_iadd hx hb dL_law_178 ?_
  refine va_sld hx hb hX hbl hbA hS h3 dL_law_179 ?_
  refine lv_aload_n hx hb dL_law_180 rfl (lv_at hl 0 rfl) ?_
  refine lv_iload_n hx hb dL_law_181 rfl (lv_at hl 3 rfl) ?_
  refine lv_iconst (v := 4) hx hb dL_law_182 (by decide) ?_
  refine lv_iadd hx hb dL_law_183 ?_
  refine va_sld hx hb hX hbl hbA hS h4 dL_law_184 ?_
  refine k_ciR (va_runV (As := [.int (xs (x3 + 1).toNatClampNeg), .int (xs (x3 + 2).toNatClampNeg), .int (xs (x3 + 3).toNatClampNeg), .int (xs (x3 + 4).toNatClampNeg)]) (rest := [.int o_r]) ⟨hx, hb, hml, hown, hts⟩ (c_X10_place l G m_h m_q m_onBy m_toldBy m_kindsOf m_nextOf m_holdsAt m_made m_standsFor m_madeNext m_madeHolds m_stateFor m_joined m_joinedNow m_firstIn m_orderOf m_classAt m_sets m_waysTo m_waysThen m_queue m_leastTo (xs (x3 + 1).toNatClampNeg) (xs (x3 + 2).toNatClampNeg) (xs (x3 + 3).toNatClampNeg) (xs (x3 + 4).toNatClampNeg) _ o_r o_onBy o_toldBy h10) (cwV 4 hts gL_law_X10_place rfl rfl rfl ⟨rfl, eX10_place⟩ ⟨Nat.le_of_ble_eq_true rfl, Nat.le_of_ble_eq_true rfl⟩) (preWV (ci := 10) (q0 := 0) hK hP.right hD.right rfl rfl) rfl rfl hl.1 rfl (lv_room (Nat.le_of_ble_eq_true rfl)) dL_law_185 ⟨by show cells + 0 + 0 ≤ 600000; omega, by show slots + (0) + (0) ≤ room_1.slots; omega⟩) hP hD hS hA (fun u10 H locs hP hD hS => ?_)
  have hP : va_P G.1 vwCl (((WX G z_h z_q z_fh z_hr z_hl z_hk z_he z_ht r_q l_hd k_hp e_hs e_q s_q t_q d_q d_a p_q o_goes o_told e_steps e_yes s_sets s_slots s_count t_ways t_freshWays t_leastTo t_waiting d_rm d_stateOf d_kindOf d_order d_rooms d_count d_next d_says d_note d_sort d_freshSort p_table p_turn p_count) ++ (WF G z_fh f_q f_next f_says f_size)) ++ (WM G m_h m_q o_onBy o_toldBy m_kindsOf m_nextOf m_holdsAt m_made m_standsFor m_madeNext m_madeHolds m_stateFor m_joined m_joinedNow m_firstIn m_orderOf m_classAt m_sets m_waysTo m_waysThen m_queue m_leastTo)) H := hP
  have hD : va_D A (((WX G z_h z_q z_fh z_hr z_hl z_hk z_he z_ht r_q l_hd k_hp e_hs e_q s_q t_q d_q d_a p_q o_goes o_told e_steps e_yes s_sets s_slots s_count t_ways t_freshWays t_leastTo t_waiting d_rm d_stateOf d_kindOf d_order d_rooms d_count d_next d_says d_note d_sort d_freshSort p_table p_turn p_count) ++ (WF G z_fh f_q f_next f_says f_size)) ++ (WM G m_h m_q o_onBy o_toldBy m_kindsOf m_nextOf m_holdsAt m_made m_standsFor m_madeNext m_madeHolds m_stateFor m_joined m_joinedNow m_firstIn m_orderOf m_classAt m_sets m_waysTo m_waysThen m_queue m_leastTo)) := hD
  refine lv_icmp_eq (tgt := 1010) hx hb dL_law_188 (by decide) (fun _ => ?_) (fun c9 => absurd rfl c9)
  refine W.widen (k := cells + 10) (n := slots + lw_gr d_rm d_rm) (by show cells + 0 + 0 ≤ cells + 10; omega) (by show slots + (0) + (0) ≤ slots + lw_gr d_rm d_rm; omega) ?_
  exact kk d_rm _ _ (Or.inl rfl) ⟨z_q, z_fh, z_hr, z_hl, z_hk, z_he, z_ht, r_q, l_hd, k_hp, e_hs, e_q, s_q, t_q, d_q, d_a, p_q, f_q, m_q, o_goes, o_told, e_steps, e_yes, s_sets, s_slots, s_count, t_ways, t_freshWays, t_leastTo, t_waiting, d_stateOf, d_kindOf, d_order, d_rooms, d_count, d_next, d_says, d_note, d_sort, d_freshSort, p_table, p_turn, p_count, f_next, f_says, f_size, o_onBy, o_toldBy, m_kindsOf, m_nextOf, m_holdsAt, m_made, m_standsFor, m_madeNext, m_madeHolds, m_stateFor, m_joined, m_joinedNow, m_firstIn, m_orderOf, m_classAt, m_sets, m_waysTo, m_waysThen, m_queue, m_leastTo, hrow1, hcl, hd, hp, hP, hD⟩ hS
set_option maxHeartbeats 8000000 in
set_option maxRecDepth 100000 in
theorem lc_ofPlace {p : Program} {l : Launch} {e : Env} {s : State} {m : MethodId} {below : List Frame} {meth : Method} {c : Code} {b L : Nat} {xs : Nat → Int32} {G : GG} {A : Nat → Prop} {Q : State → Prop} (C0 : lw_At p s m meth c b L xs) (hK : KN G s) (hA : ∀ q : Nat, s.heap.size ≤ q → A q) (hbA : ¬ A b) {z_h m_h d_rm : Nat} {H : Heap} {locs : List Loc} {cells slots : Nat} {x3 : Int32} {ls : Array Slot} (hI : LI G A z_h m_h d_rm H) (hS : va_S A s.heap H locs) (hl : lv_has ls 4 [(0, .ref b), (1, .ref z_h), (2, .ref m_h), (3, .int x3)]) (h1 : vp_in (x3 + 1) L) (h2 : vp_in (x3 + 2) L) (h3 : vp_in (x3 + 3) L) (h4 : vp_in (x3 + 4) L) (hcc : cells + 10 ≤ 600000) (hss : slots + 43200 ≤ room_1.slots)
    (kk : ∀ (rm1 : Nat) (H : Heap) (locs : List Loc), rl_gr d_rm rm1 → LI G A z_h m_h rm1 H → va_S A s.heap H locs → W p l e room_1 s m #[Value.ref b] below meth c H locs (cells + 10) (slots + lw_gr d_rm rm1) Q (F0 m 1010 ls [])) : W p l e room_1 s m #[Value.ref b] below meth c H locs cells slots Q (F0 m 193 ls []) := by
  obtain ⟨hx, hb, hr, hml, hown, hts0, hX, hbl, hlocks, hgv⟩ := id C0
  have hts : ∀ w ∈ wsL_law, w.before #[Value.ref b] s = true := fun w h => hts0 w (wsL_law_in w h)
  have hown : s.vm.findClass RL = some m.cls := hown
  obtain ⟨z_q, z_fh, z_hr, z_hl, z_hk, z_he, z_ht, r_q, l_hd, k_hp, e_hs, e_q, s_q, t_q, d_q, d_a, p_q, f_q, m_q, r_goes, r_told, e_steps, e_yes, s_sets, s_slots, s_count, t_ways, t_freshWays, t_leastTo, t_waiting, d_stateOf, d_kindOf, d_order, d_rooms, d_count, d_next, d_says, d_note, d_sort, d_freshSort, p_table, p_turn, p_count, f_next, f_says, f_size, m_onBy, m_toldBy, m_kindsOf, m_nextOf, m_holdsAt, m_made, m_standsFor, m_madeNext, m_madeHolds, m_stateFor, m_joined, m_joinedNow, m_firstIn, m_orderOf, m_classAt, m_sets, m_waysTo, m_waysThen, m_queue, m_leastTo, hrow, hcl, hd, hp, hP, hD⟩ := hI
  obtain ⟨o_r, h9, h10⟩ := op_ofPlace hrow (xs (x3 + 1).toNatClampNeg) (xs (x3 + 2).toNatClampNeg)
  refine lv_aload_n hx hb dL_law_193 rfl (lv_at hl 1 rfl) ?_
  refine lv_aload_n hx hb dL_law_194 rfl (lv_at hl 0 rfl) ?_
  refine lv_iload_n hx hb dL_law_195 rfl (lv_at hl 3 rfl) ?_
  refine lv_iconst (v := 1) hx hb dL_law_196 (by decide) ?_
  refine lv_iadd hx hb dL_law_197 ?_
  refine va_sld hx hb hX hbl hbA hS h1 dL_law_198 ?_
  refine lv_aload_n hx hb dL_law_199 rfl (lv_at hl 0 rfl) ?_
  refine lv_iload_n hx hb dL_law_200 rfl (lv_at hl 3 rfl) ?_
  refine lv_iconst (v := 2) hx hb dL_law_201 (by decide) ?_
  refine lv_iadd hx hb dL_law_202 ?_
  refine va_sld hx hb hX hbl hbA hS h2 dL_law_203 ?_
  refine k_si (va_runV (As := [.int (xs (x3 + 1).toNatClampNeg), .int (xs (x3 + 2).toNatClampNeg)]) (rest := []) ⟨hx, hb, hml, hown, hts⟩ (c_X9_ofPlace l G z_h z_q z_fh z_hr z_hl z_hk z_he z_ht r_q l_hd k_hp e_hs e_q s_q t_q d_q d_a p_q f_q r_goes r_told e_steps e_yes s_sets s_slots s_count t_ways t_freshWays t_leastTo t_waiting d_rm d_stateOf d_kindOf d_order d_rooms d_count d_next d_says d_note d_sort d_freshSort p_table p_turn p_count f_next f_says f_size (xs (x3 + 1).toNatClampNeg) (xs (x3 + 2).toNatClampNeg) o_r h9) (cwV 2 hts gL_law_X9_ofPlace rfl rfl rfl ⟨rfl, eX9_ofPlace⟩ ⟨Nat.le_of_ble_eq_true rfl, Nat.le_of_ble_eq_true rfl⟩) (preSV (ci := 9) (q0 := 0) hK hP.left rfl rfl) rfl rfl hl.1 rfl (lv_room (Nat.le_of_ble_eq_true rfl)) dL_law_204 ⟨by show cells + 0 ≤ 600000; omega, by show slots + (0) ≤ room_1.slots; omega⟩) ?_
  refine lv_aload_n hx hb dL_law_207 rfl (lv_at hl 2 rfl) ?_
  refine lv_aload_n hx hb dL_law_208 rfl (lv_at hl 0 rfl) ?_
  refine lv_iload_n hx hb dL_law_209 rfl (lv_at hl 3 rfl) ?_
  refine lv_iconst (v := 1) hx hb dL_law_210 (by decide) ?_
  refine lv_iadd hx hb dL_law_211 ?_
  refine va_sld hx hb hX hbl hbA hS h1 dL_law_212 ?_
  refine lv_aload_n hx hb dL_law_213 rfl (lv_at hl 0 rfl) ?_
  refine lv_iload_n hx hb dL_law_214 rfl (lv_at hl 3 rfl) ?_
  refine lv_iconst (v := 2) hx hb dL_law_215 (by decide) ?_
  refine lv_iadd hx hb dL_law_216 ?_
  refine va_sld hx hb hX hbl hbA hS h2 dL_law_217 ?_
  refine k_si (va_runV (As := [.int (xs (x3 + 1).toNatClampNeg), .int (xs (x3 + 2).toNatClampNeg)]) (rest := [.int o_r]) ⟨hx, hb, hml, hown, hts⟩ (c_X10_ofPlace l G m_h m_q m_onBy m_toldBy m_kindsOf m_nextOf m_holdsAt m_made m_standsFor m_madeNext m_madeHolds m_stateFor m_joined m_joinedNow m_firstIn m_orderOf m_classAt m_sets m_waysTo m_waysThen m_queue m_leastTo (xs (x3 + 1).toNatClampNeg) (xs (x3 + 2).toNatClampNeg) o_r h10) (cwV 2 hts gL_law_X10_ofPlace rfl rfl rfl ⟨rfl, eX10_ofPlace⟩ ⟨Nat.le_of_ble_eq_true rfl, Nat.le_of_ble_eq_true rfl⟩) (preSV (ci := 10) (q0 := 0) hK hP.right rfl rfl) rfl rfl hl.1 rfl (lv_room (Nat.le_of_ble_eq_true rfl)) dL_law_218 ⟨by show cells + 0 ≤ 600000; omega, by show slots + (0) ≤ room_1.slots; omega⟩) ?_
  refine lv_icmp_eq (tgt := 1010) hx hb dL_law_221 (by decide) (fun _ => ?_) (fun c9 => absurd rfl c9)
  refine W.widen (k := cells + 10) (n := slots + lw_gr d_rm d_rm) (by show cells ≤ cells + 10; omega) (by show slots ≤ slots + lw_gr d_rm d_rm; omega) ?_
  exact kk d_rm _ _ (Or.inl rfl) ⟨z_q, z_fh, z_hr, z_hl, z_hk, z_he, z_ht, r_q, l_hd, k_hp, e_hs, e_q, s_q, t_q, d_q, d_a, p_q, f_q, m_q, r_goes, r_told, e_steps, e_yes, s_sets, s_slots, s_count, t_ways, t_freshWays, t_leastTo, t_waiting, d_stateOf, d_kindOf, d_order, d_rooms, d_count, d_next, d_says, d_note, d_sort, d_freshSort, p_table, p_turn, p_count, f_next, f_says, f_size, m_onBy, m_toldBy, m_kindsOf, m_nextOf, m_holdsAt, m_made, m_standsFor, m_madeNext, m_madeHolds, m_stateFor, m_joined, m_joinedNow, m_firstIn, m_orderOf, m_classAt, m_sets, m_waysTo, m_waysThen, m_queue, m_leastTo, hrow, hcl, hd, hp, hP, hD⟩ hS
set_option maxHeartbeats 8000000 in
set_option maxRecDepth 100000 in
theorem lc_row {p : Program} {l : Launch} {e : Env} {s : State} {m : MethodId} {below : List Frame} {meth : Method} {c : Code} {b L : Nat} {xs : Nat → Int32} {G : GG} {A : Nat → Prop} {Q : State → Prop} (C0 : lw_At p s m meth c b L xs) (hK : KN G s) (hA : ∀ q : Nat, s.heap.size ≤ q → A q) (hbA : ¬ A b) {z_h m_h d_rm : Nat} {H : Heap} {locs : List Loc} {cells slots : Nat} {x3 : Int32} {ls : Array Slot} (hI : LI G A z_h m_h d_rm H) (hS : va_S A s.heap H locs) (hl : lv_has ls 4 [(0, .ref b), (1, .ref z_h), (2, .ref m_h), (3, .int x3)]) (h1 : vp_in (x3 + 1) L) (h2 : vp_in (x3 + 2) L) (h3 : vp_in (x3 + 3) L) (h4 : vp_in (x3 + 4) L) (hcc : cells + 10 ≤ 600000) (hss : slots + 43200 ≤ room_1.slots)
    (kk : ∀ (rm1 : Nat) (H : Heap) (locs : List Loc), rl_gr d_rm rm1 → LI G A z_h m_h rm1 H → va_S A s.heap H locs → W p l e room_1 s m #[Value.ref b] below meth c H locs (cells + 10) (slots + lw_gr d_rm rm1) Q (F0 m 1010 ls [])) : W p l e room_1 s m #[Value.ref b] below meth c H locs cells slots Q (F0 m 226 ls []) := by
  obtain ⟨hx, hb, hr, hml, hown, hts0, hX, hbl, hlocks, hgv⟩ := id C0
  have hts : ∀ w ∈ wsL_law, w.before #[Value.ref b] s = true := fun w h => hts0 w (wsL_law_in w h)
  have hown : s.vm.findClass RL = some m.cls := hown
  obtain ⟨z_q, z_fh, z_hr, z_hl, z_hk, z_he, z_ht, r_q, l_hd, k_hp, e_hs, e_q, s_q, t_q, d_q, d_a, p_q, f_q, m_q, r_goes, r_told, e_steps, e_yes, s_sets, s_slots, s_count, t_ways, t_freshWays, t_leastTo, t_waiting, d_stateOf, d_kindOf, d_order, d_rooms, d_count, d_next, d_says, d_note, d_sort, d_freshSort, p_table, p_turn, p_count, f_next, f_says, f_size, m_onBy, m_toldBy, m_kindsOf, m_nextOf, m_holdsAt, m_made, m_standsFor, m_madeNext, m_madeHolds, m_stateFor, m_joined, m_joinedNow, m_firstIn, m_orderOf, m_classAt, m_sets, m_waysTo, m_waysThen, m_queue, m_leastTo, hrow, hcl, hd, hp, hP, hD⟩ := hI
  obtain ⟨o_r, h9, h10⟩ := op_row (Nat.le_refl 5000) hrow (xs (x3 + 1).toNatClampNeg)
  refine lv_aload_n hx hb dL_law_226 rfl (lv_at hl 1 rfl) ?_
  refine lv_aload_n hx hb dL_law_227 rfl (lv_at hl 0 rfl) ?_
  refine lv_iload_n hx hb dL_law_228 rfl (lv_at hl 3 rfl) ?_
  refine lv_iconst (v := 1) hx hb dL_law_229 (by decide) ?_
  refine lv_iadd hx hb dL_law_230 ?_
  refine va_sld hx hb hX hbl hbA hS h1 dL_law_231 ?_
  refine k_si (va_runV (As := [.int (xs (x3 + 1).toNatClampNeg)]) (rest := []) ⟨hx, hb, hml, hown, hts⟩ (c_X9_row l G 5000 z_h z_q z_fh z_hr z_hl z_hk z_he z_ht r_q l_hd k_hp e_hs e_q s_q t_q d_q d_a p_q f_q r_goes r_told e_steps e_yes s_sets s_slots s_count t_ways t_freshWays t_leastTo t_waiting d_rm d_stateOf d_kindOf d_order d_rooms d_count d_next d_says d_note d_sort d_freshSort p_table p_turn p_count f_next f_says f_size (xs (x3 + 1).toNatClampNeg) o_r h9) (cwV 1 hts gL_law_X9_row rfl rfl rfl ⟨rfl, eX9_row⟩ ⟨Nat.le_of_ble_eq_true rfl, Nat.le_of_ble_eq_true rfl⟩) (preSV (ci := 9) (q0 := 0) hK hP.left rfl rfl) rfl rfl hl.1 rfl (lv_room (Nat.le_of_ble_eq_true rfl)) dL_law_232 ⟨by show cells + 0 ≤ 600000; omega, by show slots + (0) ≤ room_1.slots; omega⟩) ?_
  refine lv_aload_n hx hb dL_law_235 rfl (lv_at hl 2 rfl) ?_
  refine lv_aload_n hx hb dL_law_236 rfl (lv_at hl 0 rfl) ?_
  refine lv_iload_n hx hb dL_law_237 rfl (lv_at hl 3 rfl) ?_
  refine lv_iconst (v := 1) hx hb dL_law_238 (by decide) ?_
  refine lv_iadd hx hb dL_law_239 ?_
  refine va_sld hx hb hX hbl hbA hS h1 dL_law_240 ?_
  refine k_si (va_runV (As := [.int (xs (x3 + 1).toNatClampNeg)]) (rest := [.int o_r]) ⟨hx, hb, hml, hown, hts⟩ (c_X10_row l G 5000 m_h m_q m_onBy m_toldBy m_kindsOf m_nextOf m_holdsAt m_made m_standsFor m_madeNext m_madeHolds m_stateFor m_joined m_joinedNow m_firstIn m_orderOf m_classAt m_sets m_waysTo m_waysThen m_queue m_leastTo (xs (x3 + 1).toNatClampNeg) o_r h10) (cwV 1 hts gL_law_X10_row rfl rfl rfl ⟨rfl, eX10_row⟩ ⟨Nat.le_of_ble_eq_true rfl, Nat.le_of_ble_eq_true rfl⟩) (preSV (ci := 10) (q0 := 0) hK hP.right rfl rfl) rfl rfl hl.1 rfl (lv_room (Nat.le_of_ble_eq_true rfl)) dL_law_241 ⟨by show cells + 0 ≤ 600000; omega, by show slots + (0) ≤ room_1.slots; omega⟩) ?_
  refine lv_icmp_eq (tgt := 1010) hx hb dL_law_244 (by decide) (fun _ => ?_) (fun c9 => absurd rfl c9)
  refine W.widen (k := cells + 10) (n := slots + lw_gr d_rm d_rm) (by show cells ≤ cells + 10; omega) (by show slots ≤ slots + lw_gr d_rm d_rm; omega) ?_
  exact kk d_rm _ _ (Or.inl rfl) ⟨z_q, z_fh, z_hr, z_hl, z_hk, z_he, z_ht, r_q, l_hd, k_hp, e_hs, e_q, s_q, t_q, d_q, d_a, p_q, f_q, m_q, r_goes, r_told, e_steps, e_yes, s_sets, s_slots, s_count, t_ways, t_freshWays, t_leastTo, t_waiting, d_stateOf, d_kindOf, d_order, d_rooms, d_count, d_next, d_says, d_note, d_sort, d_freshSort, p_table, p_turn, p_count, f_next, f_says, f_size, m_onBy, m_toldBy, m_kindsOf, m_nextOf, m_holdsAt, m_made, m_standsFor, m_madeNext, m_madeHolds, m_stateFor, m_joined, m_joinedNow, m_firstIn, m_orderOf, m_classAt, m_sets, m_waysTo, m_waysThen, m_queue, m_leastTo, hrow, hcl, hd, hp, hP, hD⟩ hS
set_option maxHeartbeats 8000000 in
set_option maxRecDepth 100000 in
theorem lc_equal {p : Program} {l : Launch} {e : Env} {s : State} {m : MethodId} {below : List Frame} {meth : Method} {c : Code} {b L : Nat} {xs : Nat → Int32} {G : GG} {A : Nat → Prop} {Q : State → Prop} (C0 : lw_At p s m meth c b L xs) (hK : KN G s) (hA : ∀ q : Nat, s.heap.size ≤ q → A q) (hbA : ¬ A b) {z_h m_h d_rm : Nat} {H : Heap} {locs : List Loc} {cells slots : Nat} {x3 : Int32} {ls : Array Slot} (hI : LI G A z_h m_h d_rm H) (hS : va_S A s.heap H locs) (hl : lv_has ls 4 [(0, .ref b), (1, .ref z_h), (2, .ref m_h), (3, .int x3)]) (h1 : vp_in (x3 + 1) L) (h2 : vp_in (x3 + 2) L) (h3 : vp_in (x3 + 3) L) (h4 : vp_in (x3 + 4) L) (hcc : cells + 10 ≤ 600000) (hss : slots + 43200 ≤ room_1.slots)
    (kk : ∀ (rm1 : Nat) (H : Heap) (locs : List Loc), rl_gr d_rm rm1 → LI G A z_h m_h rm1 H → va_S A s.heap H locs → W p l e room_1 s m #[Value.ref b] below meth c H locs (cells + 10) (slots + lw_gr d_rm rm1) Q (F0 m 1010 ls [])) : W p l e room_1 s m #[Value.ref b] below meth c H locs cells slots Q (F0 m 249 ls []) := by
  obtain ⟨hx, hb, hr, hml, hown, hts0, hX, hbl, hlocks, hgv⟩ := id C0
  have hts : ∀ w ∈ wsL_law, w.before #[Value.ref b] s = true := fun w h => hts0 w (wsL_law_in w h)
  have hown : s.vm.findClass RL = some m.cls := hown
  obtain ⟨z_q, z_fh, z_hr, z_hl, z_hk, z_he, z_ht, r_q, l_hd, k_hp, e_hs, e_q, s_q, t_q, d_q, d_a, p_q, f_q, m_q, r_goes, r_told, e_steps, e_yes, s_sets, s_slots, s_count, t_ways, t_freshWays, t_leastTo, t_waiting, d_stateOf, d_kindOf, d_order, d_rooms, d_count, d_next, d_says, d_note, d_sort, d_freshSort, p_table, p_turn, p_count, f_next, f_says, f_size, m_onBy, m_toldBy, m_kindsOf, m_nextOf, m_holdsAt, m_made, m_standsFor, m_madeNext, m_madeHolds, m_stateFor, m_joined, m_joinedNow, m_firstIn, m_orderOf, m_classAt, m_sets, m_waysTo, m_waysThen, m_queue, m_leastTo, hrow, hcl, hd, hp, hP, hD⟩ := hI
  obtain ⟨o_r, o_rm, o_st, o_kd, o_od, o_rooms, o_dct, o_nx, o_sy, o_nt, o_so, o_fr, o_tb, o_tn, o_pct, o_fn, o_fs, o_fz, o_ko, o_nxo, o_ha, o_md, o_mn, o_mh, o_jd, o_jn, o_fi, o_oo, o_ca, h9, h10, hcl1, hd1, hp1, hgr⟩ := op_equal (Nat.le_refl 5000) hd hp hcl d_stateOf d_kindOf d_order d_next d_says d_note d_sort d_freshSort d_count p_count m_made m_madeNext m_madeHolds m_joined m_joinedNow m_firstIn m_orderOf m_classAt (xs (x3 + 1).toNatClampNeg) (xs (x3 + 2).toNatClampNeg) (xs (x3 + 3).toNatClampNeg)
  have hgl := lw_gr_le (a := d_rm) hd1.2.2
  refine lv_aload_n hx hb dL_law_249 rfl (lv_at hl 1 rfl) ?_
  refine lv_aload_n hx hb dL_law_250 rfl (lv_at hl 0 rfl) ?_
  refine lv_iload_n hx hb dL_law_251 rfl (lv_at hl 3 rfl) ?_
  refine lv_iconst (v := 1) hx hb dL_law_252 (by decide) ?_
  refine lv_iadd hx hb dL_law_253 ?_
  refine va_sld hx hb hX hbl hbA hS h1 dL_law_254 ?_
  refine lv_aload_n hx hb dL_law_255 rfl (lv_at hl 0 rfl) ?_
  refine lv_iload_n hx hb dL_law_256 rfl (lv_at hl 3 rfl) ?_
  refine lv_iconst (v := 2) hx hb dL_law_257 (by decide) ?_
  refine lv_iadd hx hb dL_law_258 ?_
  refine va_sld hx hb hX hbl hbA hS h2 dL_law_259 ?_
  refine lv_aload_n hx hb dL_law_260 rfl (lv_at hl 0 rfl) ?_
  refine lv_iload_n hx hb dL_law_261 rfl (lv_at hl 3 rfl) ?_
  refine lv_iconst (v := 3) hx hb dL_law_262 (by decide) ?_
  refine lv_iadd hx hb dL_law_263 ?_
  refine va_sld hx hb hX hbl hbA hS h3 dL_law_264 ?_
  refine k_ciL (va_runV (As := [.int (xs (x3 + 1).toNatClampNeg), .int (xs (x3 + 2).toNatClampNeg), .int (xs (x3 + 3).toNatClampNeg)]) (rest := []) ⟨hx, hb, hml, hown, hts⟩ (c_X9_equal l G 5000 z_h z_q z_fh z_hr z_hl z_hk z_he z_ht r_q l_hd k_hp e_hs e_q s_q t_q d_q d_a p_q f_q r_goes r_told e_steps e_yes s_sets s_slots s_count t_ways t_freshWays t_leastTo t_waiting d_rm d_stateOf d_kindOf d_order d_rooms d_count d_next d_says d_note d_sort d_freshSort p_table p_turn p_count f_next f_says f_size (xs (x3 + 1).toNatClampNeg) (xs (x3 + 2).toNatClampNeg) (xs (x3 + 3).toNatClampNeg) o_rm (lw_gr d_rm o_rm) (lw_gr_ok d_rm o_rm) _ o_r o_rm o_st o_kd o_od o_rooms o_dct o_nx o_sy o_nt o_so o_fr o_tb o_tn o_pct o_fn o_fs o_fz h9) (cwV 3 hts gL_law_X9_equal rfl rfl rfl ⟨rfl, eX9_equal⟩ ⟨Nat.le_of_ble_eq_true rfl, Nat.le_of_ble_eq_true rfl⟩) (preWV (ci := 9) (q0 := 0) hK hP.left hD.left rfl rfl) rfl rfl hl.1 rfl (lv_room (Nat.le_of_ble_eq_true rfl)) dL_law_265 ⟨by show cells + 5 ≤ 600000; omega, by show slots + (lw_gr d_rm o_rm) ≤ room_1.slots; omega⟩) hP hD hS hA (fun u9 H locs hP hD hS => ?_)
  have hP : va_P G.1 vwCl (((WX G z_h z_q z_fh z_hr z_hl z_hk z_he z_ht r_q l_hd k_hp e_hs e_q s_q t_q d_q u9 p_q r_goes r_told e_steps e_yes s_sets s_slots s_count t_ways t_freshWays t_leastTo t_waiting o_rm o_st o_kd o_od o_rooms o_dct o_nx o_sy o_nt o_so o_fr o_tb o_tn o_pct) ++ (WF G z_fh f_q o_fn o_fs o_fz)) ++ (WM G m_h m_q m_onBy m_toldBy m_kindsOf m_nextOf m_holdsAt m_made m_standsFor m_madeNext m_madeHolds m_stateFor m_joined m_joinedNow m_firstIn m_orderOf m_classAt m_sets m_waysTo m_waysThen m_queue m_leastTo)) H := hP
  have hD : va_D A (((WX G z_h z_q z_fh z_hr z_hl z_hk z_he z_ht r_q l_hd k_hp e_hs e_q s_q t_q d_q u9 p_q r_goes r_told e_steps e_yes s_sets s_slots s_count t_ways t_freshWays t_leastTo t_waiting o_rm o_st o_kd o_od o_rooms o_dct o_nx o_sy o_nt o_so o_fr o_tb o_tn o_pct) ++ (WF G z_fh f_q o_fn o_fs o_fz)) ++ (WM G m_h m_q m_onBy m_toldBy m_kindsOf m_nextOf m_holdsAt m_made m_standsFor m_madeNext m_madeHolds m_stateFor m_joined m_joinedNow m_firstIn m_orderOf m_classAt m_sets m_waysTo m_waysThen m_queue m_leastTo)) := hD
  refine lv_aload_n hx hb dL_law_268 rfl (lv_at hl 2 rfl) ?_
  refine lv_aload_n hx hb dL_law_269 rfl (lv_at hl 0 rfl) ?_
  refine lv_iload_n hx hb dL_law_270 rfl (lv_at hl 3 rfl) ?_
  refine lv_iconst (v := 1) hx hb dL_law_271 (by decide) ?_
  refine lv_iadd hx hb dL_law_272 ?_
  refine va_sld hx hb hX hbl hbA hS h1 dL_law_273 ?_
  refine lv_aload_n hx hb dL_law_274 rfl (lv_at hl 0 rfl) ?_
  refine lv_iload_n hx hb dL_law_275 rfl (lv_at hl 3 rfl) ?_
  refine lv_iconst (v := 2) hx hb dL_law_276 (by decide) ?_
  refine lv_iadd hx hb dL_law_277 ?_
  refine va_sld hx hb hX hbl hbA hS h2 dL_law_278 ?_
  refine lv_aload_n hx hb dL_law_279 rfl (lv_at hl 0 rfl) ?_
  refine lv_iload_n hx hb dL_law_280 rfl (lv_at hl 3 rfl) ?_
  refine lv_iconst (v := 3) hx hb dL_law_281 (by decide) ?_
  refine lv_iadd hx hb dL_law_282 ?_
  refine va_sld hx hb hX hbl hbA hS h3 dL_law_283 ?_
  refine k_ciR (va_runV (As := [.int (xs (x3 + 1).toNatClampNeg), .int (xs (x3 + 2).toNatClampNeg), .int (xs (x3 + 3).toNatClampNeg)]) (rest := [.int o_r]) ⟨hx, hb, hml, hown, hts⟩ (c_X10_equal l G 5000 m_h m_q m_onBy m_toldBy m_kindsOf m_nextOf m_holdsAt m_made m_standsFor m_madeNext m_madeHolds m_stateFor m_joined m_joinedNow m_firstIn m_orderOf m_classAt m_sets m_waysTo m_waysThen m_queue m_leastTo (xs (x3 + 1).toNatClampNeg) (xs (x3 + 2).toNatClampNeg) (xs (x3 + 3).toNatClampNeg) _ o_r o_ko o_nxo o_ha o_md o_mn o_mh o_jd o_jn o_fi o_oo o_ca h10) (cwV 3 hts gL_law_X10_equal rfl rfl rfl ⟨rfl, eX10_equal⟩ ⟨Nat.le_of_ble_eq_true rfl, Nat.le_of_ble_eq_true rfl⟩) (preWV (ci := 10) (q0 := 0) hK hP.right hD.right rfl rfl) rfl rfl hl.1 rfl (lv_room (Nat.le_of_ble_eq_true rfl)) dL_law_284 ⟨by show cells + 5 + 0 ≤ 600000; omega, by show slots + (lw_gr d_rm o_rm) + (0) ≤ room_1.slots; omega⟩) hP hD hS hA (fun u10 H locs hP hD hS => ?_)
  have hP : va_P G.1 vwCl (((WX G z_h z_q z_fh z_hr z_hl z_hk z_he z_ht r_q l_hd k_hp e_hs e_q s_q t_q d_q u9 p_q r_goes r_told e_steps e_yes s_sets s_slots s_count t_ways t_freshWays t_leastTo t_waiting o_rm o_st o_kd o_od o_rooms o_dct o_nx o_sy o_nt o_so o_fr o_tb o_tn o_pct) ++ (WF G z_fh f_q o_fn o_fs o_fz)) ++ (WM G m_h m_q m_onBy m_toldBy o_ko o_nxo o_ha o_md m_standsFor o_mn o_mh m_stateFor o_jd o_jn o_fi o_oo o_ca m_sets m_waysTo m_waysThen m_queue m_leastTo)) H := hP
  have hD : va_D A (((WX G z_h z_q z_fh z_hr z_hl z_hk z_he z_ht r_q l_hd k_hp e_hs e_q s_q t_q d_q u9 p_q r_goes r_told e_steps e_yes s_sets s_slots s_count t_ways t_freshWays t_leastTo t_waiting o_rm o_st o_kd o_od o_rooms o_dct o_nx o_sy o_nt o_so o_fr o_tb o_tn o_pct) ++ (WF G z_fh f_q o_fn o_fs o_fz)) ++ (WM G m_h m_q m_onBy m_toldBy o_ko o_nxo o_ha o_md m_standsFor o_mn o_mh m_stateFor o_jd o_jn o_fi o_oo o_ca m_sets m_waysTo m_waysThen m_queue m_leastTo)) := hD
  refine lv_icmp_eq (tgt := 1010) hx hb dL_law_287 (by decide) (fun _ => ?_) (fun c9 => absurd rfl c9)
  refine W.widen (k := cells + 10) (n := slots + lw_gr d_rm o_rm) (by show cells + 5 + 0 ≤ cells + 10; omega) (by show slots + (lw_gr d_rm o_rm) + (0) ≤ slots + lw_gr d_rm o_rm; omega) ?_
  exact kk o_rm _ _ hgr ⟨z_q, z_fh, z_hr, z_hl, z_hk, z_he, z_ht, r_q, l_hd, k_hp, e_hs, e_q, s_q, t_q, d_q, u9, p_q, f_q, m_q, r_goes, r_told, e_steps, e_yes, s_sets, s_slots, s_count, t_ways, t_freshWays, t_leastTo, t_waiting, o_st, o_kd, o_od, o_rooms, o_dct, o_nx, o_sy, o_nt, o_so, o_fr, o_tb, o_tn, o_pct, o_fn, o_fs, o_fz, m_onBy, m_toldBy, o_ko, o_nxo, o_ha, o_md, m_standsFor, o_mn, o_mh, m_stateFor, o_jd, o_jn, o_fi, o_oo, o_ca, m_sets, m_waysTo, m_waysThen, m_queue, m_leastTo, hrow, hcl1, hd1, hp1, hP, hD⟩ hS
set_option maxHeartbeats 8000000 in
set_option maxRecDepth 100000 in
theorem lc_less {p : Program} {l : Launch} {e : Env} {s : State} {m : MethodId} {below : List Frame} {meth : Method} {c : Code} {b L : Nat} {xs : Nat → Int32} {G : GG} {A : Nat → Prop} {Q : State → Prop} (C0 : lw_At p s m meth c b L xs) (hK : KN G s) (hA : ∀ q : Nat, s.heap.size ≤ q → A q) (hbA : ¬ A b) {z_h m_h d_rm : Nat} {H : Heap} {locs : List Loc} {cells slots : Nat} {x3 : Int32} {ls : Array Slot} (hI : LI G A z_h m_h d_rm H) (hS : va_S A s.heap H locs) (hl : lv_has ls 4 [(0, .ref b), (1, .ref z_h), (2, .ref m_h), (3, .int x3)]) (h1 : vp_in (x3 + 1) L) (h2 : vp_in (x3 + 2) L) (h3 : vp_in (x3 + 3) L) (h4 : vp_in (x3 + 4) L) (hcc : cells + 10 ≤ 600000) (hss : slots + 43200 ≤ room_1.slots)
    (kk : ∀ (rm1 : Nat) (H : Heap) (locs : List Loc), rl_gr d_rm rm1 → LI G A z_h m_h rm1 H → va_S A s.heap H locs → W p l e room_1 s m #[Value.ref b] below meth c H locs (cells + 10) (slots + lw_gr d_rm rm1) Q (F0 m 1010 ls [])) : W p l e room_1 s m #[Value.ref b] below meth c H locs cells slots Q (F0 m 292 ls []) := by
  obtain ⟨hx, hb, hr, hml, hown, hts0, hX, hbl, hlocks, hgv⟩ := id C0
  have hts : ∀ w ∈ wsL_law, w.before #[Value.ref b] s = true := fun w h => hts0 w (wsL_law_in w h)
  have hown : s.vm.findClass RL = some m.cls := hown
  obtain ⟨z_q, z_fh, z_hr, z_hl, z_hk, z_he, z_ht, r_q, l_hd, k_hp, e_hs, e_q, s_q, t_q, d_q, d_a, p_q, f_q, m_q, r_goes, r_told, e_steps, e_yes, s_sets, s_slots, s_count, t_ways, t_freshWays, t_leastTo, t_waiting, d_stateOf, d_kindOf, d_order, d_rooms, d_count, d_next, d_says, d_note, d_sort, d_freshSort, p_table, p_turn, p_count, f_next, f_says, f_size, m_onBy, m_toldBy, m_kindsOf, m_nextOf, m_holdsAt, m_made, m_standsFor, m_madeNext, m_madeHolds, m_stateFor, m_joined, m_joinedNow, m_firstIn, m_orderOf, m_classAt, m_sets, m_waysTo, m_waysThen, m_queue, m_leastTo, hrow, hcl, hd, hp, hP, hD⟩ := hI
  obtain ⟨o_r, o_rm, o_st, o_kd, o_od, o_rooms, o_dct, o_nx, o_sy, o_nt, o_so, o_fr, o_tb, o_tn, o_pct, o_fn, o_fs, o_fz, o_ko, o_nxo, o_ha, o_md, o_mn, o_mh, o_jd, o_jn, o_fi, o_oo, o_ca, h9, h10, hcl1, hd1, hp1, hgr⟩ := op_less (Nat.le_refl 5000) hd hp hcl d_stateOf d_kindOf d_order d_next d_says d_note d_sort d_freshSort d_count p_count m_made m_madeNext m_madeHolds m_joined m_joinedNow m_firstIn m_orderOf m_classAt (xs (x3 + 1).toNatClampNeg) (xs (x3 + 2).toNatClampNeg) (xs (x3 + 3).toNatClampNeg)
  have hgl := lw_gr_le (a := d_rm) hd1.2.2
  refine lv_aload_n hx hb dL_law_292 rfl (lv_at hl 1 rfl) ?_
  refine lv_aload_n hx hb dL_law_293 rfl (lv_at hl 0 rfl) ?_
  refine lv_iload_n hx hb dL_law_294 rfl (lv_at hl 3 rfl) ?_
  refine lv_iconst (v := 1) hx hb dL_law_295 (by decide) ?_
  refine lv_iadd hx hb dL_law_296 ?_
  refine va_sld hx hb hX hbl hbA hS h1 dL_law_297 ?_
  refine lv_aload_n hx hb dL_law_298 rfl (lv_at hl 0 rfl) ?_
  refine lv_iload_n hx hb dL_law_299 rfl (lv_at hl 3 rfl) ?_
  refine lv_iconst (v := 2) hx hb dL_law_300 (by decide) ?_
  refine lv_iadd hx hb dL_law_301 ?_
  refine va_sld hx hb hX hbl hbA hS h2 dL_law_302 ?_
  refine lv_aload_n hx hb dL_law_303 rfl (lv_at hl 0 rfl) ?_
  refine lv_iload_n hx hb dL_law_304 rfl (lv_at hl 3 rfl) ?_
  refine lv_iconst (v := 3) hx hb dL_law_305 (by decide) ?_
  refine lv_iadd hx hb dL_law_306 ?_
  refine va_sld hx hb hX hbl hbA hS h3 dL_law_307 ?_
  refine k_ciL (va_runV (As := [.int (xs (x3 + 1).toNatClampNeg), .int (xs (x3 + 2).toNatClampNeg), .int (xs (x3 + 3).toNatClampNeg)]) (rest := []) ⟨hx, hb, hml, hown, hts⟩ (c_X9_less l G 5000 z_h z_q z_fh z_hr z_hl z_hk z_he z_ht r_q l_hd k_hp e_hs e_q s_q t_q d_q d_a p_q f_q r_goes r_told e_steps e_yes s_sets s_slots s_count t_ways t_freshWays t_leastTo t_waiting d_rm d_stateOf d_kindOf d_order d_rooms d_count d_next d_says d_note d_sort d_freshSort p_table p_turn p_count f_next f_says f_size (xs (x3 + 1).toNatClampNeg) (xs (x3 + 2).toNatClampNeg) (xs (x3 + 3).toNatClampNeg) o_rm (lw_gr d_rm o_rm) (lw_gr_ok d_rm o_rm) _ o_r o_rm o_st o_kd o_od o_rooms o_dct o_nx o_sy o_nt o_so o_fr o_tb o_tn o_pct o_fn o_fs o_fz h9) (cwV 3 hts gL_law_X9_less rfl rfl rfl ⟨rfl, eX9_less⟩ ⟨Nat.le_of_ble_eq_true rfl, Nat.le_of_ble_eq_true rfl⟩) (preWV (ci := 9) (q0 := 0) hK hP.left hD.left rfl rfl) rfl rfl hl.1 rfl (lv_room (Nat.le_of_ble_eq_true rfl)) dL_law_308 ⟨by show cells + 5 ≤ 600000; omega, by show slots + (lw_gr d_rm o_rm) ≤ room_1.slots; omega⟩) hP hD hS hA (fun u9 H locs hP hD hS => ?_)
  have hP : va_P G.1 vwCl (((WX G z_h z_q z_fh z_hr z_hl z_hk z_he z_ht r_q l_hd k_hp e_hs e_q s_q t_q d_q u9 p_q r_goes r_told e_steps e_yes s_sets s_slots s_count t_ways t_freshWays t_leastTo t_waiting o_rm o_st o_kd o_od o_rooms o_dct o_nx o_sy o_nt o_so o_fr o_tb o_tn o_pct) ++ (WF G z_fh f_q o_fn o_fs o_fz)) ++ (WM G m_h m_q m_onBy m_toldBy m_kindsOf m_nextOf m_holdsAt m_made m_standsFor m_madeNext m_madeHolds m_stateFor m_joined m_joinedNow m_firstIn m_orderOf m_classAt m_sets m_waysTo m_waysThen m_queue m_leastTo)) H := hP
  have hD : va_D A (((WX G z_h z_q z_fh z_hr z_hl z_hk z_he z_ht r_q l_hd k_hp e_hs e_q s_q t_q d_q u9 p_q r_goes r_told e_steps e_yes s_sets s_slots s_count t_ways t_freshWays t_leastTo t_waiting o_rm o_st o_kd o_od o_rooms o_dct o_nx o_sy o_nt o_so o_fr o_tb o_tn o_pct) ++ (WF G z_fh f_q o_fn o_fs o_fz)) ++ (WM G m_h m_q m_onBy m_toldBy m_kindsOf m_nextOf m_holdsAt m_made m_standsFor m_madeNext m_madeHolds m_stateFor m_joined m_joinedNow m_firstIn m_orderOf m_classAt m_sets m_waysTo m_waysThen m_queue m_leastTo)) := hD
  refine lv_aload_n hx hb dL_law_311 rfl (lv_at hl 2 rfl) ?_
  refine lv_aload_n hx hb dL_law_312 rfl (lv_at hl 0 rfl) ?_
  refine lv_iload_n hx hb dL_law_313 rfl (lv_at hl 3 rfl) ?_
  refine lv_iconst (v := 1) hx hb dL_law_314 (by decide) ?_
  refine lv_iadd hx hb dL_law_315 ?_
  refine va_sld hx hb hX hbl hbA hS h1 dL_law_316 ?_
  refine lv_aload_n hx hb dL_law_317 rfl (lv_at hl 0 rfl) ?_
  refine lv_iload_n hx hb dL_law_318 rfl (lv_at hl 3 rfl) ?_
  refine lv_iconst (v := 2) hx hb dL_law_319 (by decide) ?_
  refine lv_iadd hx hb dL_law_320 ?_
  refine va_sld hx hb hX hbl hbA hS h2 dL_law_321 ?_
  refine lv_aload_n hx hb dL_law_322 rfl (lv_at hl 0 rfl) ?_
  refine lv_iload_n hx hb dL_law_323 rfl (lv_at hl 3 rfl) ?_
  refine lv_iconst (v := 3) hx hb dL_law_324 (by decide) ?_
  refine lv_iadd hx hb dL_law_325 ?_
  refine va_sld hx hb hX hbl hbA hS h3 dL_law_326 ?_
  refine k_ciR (va_runV (As := [.int (xs (x3 + 1).toNatClampNeg), .int (xs (x3 + 2).toNatClampNeg), .int (xs (x3 + 3).toNatClampNeg)]) (rest := [.int o_r]) ⟨hx, hb, hml, hown, hts⟩ (c_X10_less l G 5000 m_h m_q m_onBy m_toldBy m_kindsOf m_nextOf m_holdsAt m_made m_standsFor m_madeNext m_madeHolds m_stateFor m_joined m_joinedNow m_firstIn m_orderOf m_classAt m_sets m_waysTo m_waysThen m_queue m_leastTo (xs (x3 + 1).toNatClampNeg) (xs (x3 + 2).toNatClampNeg) (xs (x3 + 3).toNatClampNeg) _ o_r o_ko o_nxo o_ha o_md o_mn o_mh o_jd o_jn o_fi o_oo o_ca h10) (cwV 3 hts gL_law_X10_less rfl rfl rfl ⟨rfl, eX10_less⟩ ⟨Nat.le_of_ble_eq_true rfl, Nat.le_of_ble_eq_true rfl⟩) (preWV (ci := 10) (q0 := 0) hK hP.right hD.right rfl rfl) rfl rfl hl.1 rfl (lv_room (Nat.le_of_ble_eq_true rfl)) dL_law_327 ⟨by show cells + 5 + 0 ≤ 600000; omega, by show slots + (lw_gr d_rm o_rm) + (0) ≤ room_1.slots; omega⟩) hP hD hS hA (fun u10 H locs hP hD hS => ?_)
  have hP : va_P G.1 vwCl (((WX G z_h z_q z_fh z_hr z_hl z_hk z_he z_ht r_q l_hd k_hp e_hs e_q s_q t_q d_q u9 p_q r_goes r_told e_steps e_yes s_sets s_slots s_count t_ways t_freshWays t_leastTo t_waiting o_rm o_st o_kd o_od o_rooms o_dct o_nx o_sy o_nt o_so o_fr o_tb o_tn o_pct) ++ (WF G z_fh f_q o_fn o_fs o_fz)) ++ (WM G m_h m_q m_onBy m_toldBy o_ko o_nxo o_ha o_md m_standsFor o_mn o_mh m_stateFor o_jd o_jn o_fi o_oo o_ca m_sets m_waysTo m_waysThen m_queue m_leastTo)) H := hP
  have hD : va_D A (((WX G z_h z_q z_fh z_hr z_hl z_hk z_he z_ht r_q l_hd k_hp e_hs e_q s_q t_q d_q u9 p_q r_goes r_told e_steps e_yes s_sets s_slots s_count t_ways t_freshWays t_leastTo t_waiting o_rm o_st o_kd o_od o_rooms o_dct o_nx o_sy o_nt o_so o_fr o_tb o_tn o_pct) ++ (WF G z_fh f_q o_fn o_fs o_fz)) ++ (WM G m_h m_q m_onBy m_toldBy o_ko o_nxo o_ha o_md m_standsFor o_mn o_mh m_stateFor o_jd o_jn o_fi o_oo o_ca m_sets m_waysTo m_waysThen m_queue m_leastTo)) := hD
  refine lv_icmp_eq (tgt := 1010) hx hb dL_law_330 (by decide) (fun _ => ?_) (fun c9 => absurd rfl c9)
  refine W.widen (k := cells + 10) (n := slots + lw_gr d_rm o_rm) (by show cells + 5 + 0 ≤ cells + 10; omega) (by show slots + (lw_gr d_rm o_rm) + (0) ≤ slots + lw_gr d_rm o_rm; omega) ?_
  exact kk o_rm _ _ hgr ⟨z_q, z_fh, z_hr, z_hl, z_hk, z_he, z_ht, r_q, l_hd, k_hp, e_hs, e_q, s_q, t_q, d_q, u9, p_q, f_q, m_q, r_goes, r_told, e_steps, e_yes, s_sets, s_slots, s_count, t_ways, t_freshWays, t_leastTo, t_waiting, o_st, o_kd, o_od, o_rooms, o_dct, o_nx, o_sy, o_nt, o_so, o_fr, o_tb, o_tn, o_pct, o_fn, o_fs, o_fz, m_onBy, m_toldBy, o_ko, o_nxo, o_ha, o_md, m_standsFor, o_mn, o_mh, m_stateFor, o_jd, o_jn, o_fi, o_oo, o_ca, m_sets, m_waysTo, m_waysThen, m_queue, m_leastTo, hrow, hcl1, hd1, hp1, hP, hD⟩ hS
set_option maxHeartbeats 8000000 in
set_option maxRecDepth 100000 in
theorem lc_sum {p : Program} {l : Launch} {e : Env} {s : State} {m : MethodId} {below : List Frame} {meth : Method} {c : Code} {b L : Nat} {xs : Nat → Int32} {G : GG} {A : Nat → Prop} {Q : State → Prop} (C0 : lw_At p s m meth c b L xs) (hK : KN G s) (hA : ∀ q : Nat, s.heap.size ≤ q → A q) (hbA : ¬ A b) {z_h m_h d_rm : Nat} {H : Heap} {locs : List Loc} {cells slots : Nat} {x3 : Int32} {ls : Array Slot} (hI : LI G A z_h m_h d_rm H) (hS : va_S A s.heap H locs) (hl : lv_has ls 4 [(0, .ref b), (1, .ref z_h), (2, .ref m_h), (3, .int x3)]) (h1 : vp_in (x3 + 1) L) (h2 : vp_in (x3 + 2) L) (h3 : vp_in (x3 + 3) L) (h4 : vp_in (x3 + 4) L) (hcc : cells + 10 ≤ 600000) (hss : slots + 43200 ≤ room_1.slots)
    (kk : ∀ (rm1 : Nat) (H : Heap) (locs : List Loc), rl_gr d_rm rm1 → LI G A z_h m_h rm1 H → va_S A s.heap H locs → W p l e room_1 s m #[Value.ref b] below meth c H locs (cells + 10) (slots + lw_gr d_rm rm1) Q (F0 m 1010 ls [])) : W p l e room_1 s m #[Value.ref b] below meth c H locs cells slots Q (F0 m 335 ls []) := by
  obtain ⟨hx, hb, hr, hml, hown, hts0, hX, hbl, hlocks, hgv⟩ := id C0
  have hts : ∀ w ∈ wsL_law, w.before #[Value.ref b] s = true := fun w h => hts0 w (wsL_law_in w h)
  have hown : s.vm.findClass RL = some m.cls := hown
  obtain ⟨z_q, z_fh, z_hr, z_hl, z_hk, z_he, z_ht, r_q, l_hd, k_hp, e_hs, e_q, s_q, t_q, d_q, d_a, p_q, f_q, m_q, r_goes, r_told, e_steps, e_yes, s_sets, s_slots, s_count, t_ways, t_freshWays, t_leastTo, t_waiting, d_stateOf, d_kindOf, d_order, d_rooms, d_count, d_next, d_says, d_note, d_sort, d_freshSort, p_table, p_turn, p_count, f_next, f_says, f_size, m_onBy, m_toldBy, m_kindsOf, m_nextOf, m_holdsAt, m_made, m_standsFor, m_madeNext, m_madeHolds, m_stateFor, m_joined, m_joinedNow, m_firstIn, m_orderOf, m_classAt, m_sets, m_waysTo, m_waysThen, m_queue, m_leastTo, hrow, hcl, hd, hp, hP, hD⟩ := hI
  obtain ⟨o_r, o_rm, o_st, o_kd, o_od, o_rooms, o_dct, o_nx, o_sy, o_nt, o_so, o_fr, o_tb, o_tn, o_pct, o_fn, o_fs, o_fz, o_ko, o_nxo, o_ha, o_md, o_mn, o_mh, o_jd, o_jn, o_fi, o_oo, o_ca, h9, h10, hcl1, hd1, hp1, hgr⟩ := op_sum (Nat.le_refl 5000) hd hp hcl d_stateOf d_kindOf d_order d_next d_says d_note d_sort d_freshSort d_count p_count m_made m_madeNext m_madeHolds m_joined m_joinedNow m_firstIn m_orderOf m_classAt (xs (x3 + 1).toNatClampNeg) (xs (x3 + 2).toNatClampNeg) (xs (x3 + 3).toNatClampNeg)
  have hgl := lw_gr_le (a := d_rm) hd1.2.2
  refine lv_aload_n hx hb dL_law_335 rfl (lv_at hl 1 rfl) ?_
  refine lv_aload_n hx hb dL_law_336 rfl (lv_at hl 0 rfl) ?_
  refine lv_iload_n hx hb dL_law_337 rfl (lv_at hl 3 rfl) ?_
  refine lv_iconst (v := 1) hx hb dL_law_338 (by decide) ?_
  refine lv_iadd hx hb dL_law_339 ?_
  refine va_sld hx hb hX hbl hbA hS h1 dL_law_340 ?_
  refine lv_aload_n hx hb dL_law_341 rfl (lv_at hl 0 rfl) ?_
  refine lv_iload_n hx hb dL_law_342 rfl (lv_at hl 3 rfl) ?_
  refine lv_iconst (v := 2) hx hb dL_law_343 (by decide) ?_
  refine lv_iadd hx hb dL_law_344 ?_
  refine va_sld hx hb hX hbl hbA hS h2 dL_law_345 ?_
  refine lv_aload_n hx hb dL_law_346 rfl (lv_at hl 0 rfl) ?_
  refine lv_iload_n hx hb dL_law_347 rfl (lv_at hl 3 rfl) ?_
  refine lv_iconst (v := 3) hx hb dL_law_348 (by decide) ?_
  refine lv_iadd hx hb dL_law_349 ?_
  refine va_sld hx hb hX hbl hbA hS h3 dL_law_350 ?_
  refine k_ciL (va_runV (As := [.int (xs (x3 + 1).toNatClampNeg), .int (xs (x3 + 2).toNatClampNeg), .int (xs (x3 + 3).toNatClampNeg)]) (rest := []) ⟨hx, hb, hml, hown, hts⟩ (c_X9_sum l G 5000 z_h z_q z_fh z_hr z_hl z_hk z_he z_ht r_q l_hd k_hp e_hs e_q s_q t_q d_q d_a p_q f_q r_goes r_told e_steps e_yes s_sets s_slots s_count t_ways t_freshWays t_leastTo t_waiting d_rm d_stateOf d_kindOf d_order d_rooms d_count d_next d_says d_note d_sort d_freshSort p_table p_turn p_count f_next f_says f_size (xs (x3 + 1).toNatClampNeg) (xs (x3 + 2).toNatClampNeg) (xs (x3 + 3).toNatClampNeg) o_rm (lw_gr d_rm o_rm) (lw_gr_ok d_rm o_rm) _ o_r o_rm o_st o_kd o_od o_rooms o_dct o_nx o_sy o_nt o_so o_fr o_tb o_tn o_pct o_fn o_fs o_fz h9) (cwV 3 hts gL_law_X9_sum rfl rfl rfl ⟨rfl, eX9_sum⟩ ⟨Nat.le_of_ble_eq_true rfl, Nat.le_of_ble_eq_true rfl⟩) (preWV (ci := 9) (q0 := 0) hK hP.left hD.left rfl rfl) rfl rfl hl.1 rfl (lv_room (Nat.le_of_ble_eq_true rfl)) dL_law_351 ⟨by show cells + 5 ≤ 600000; omega, by show slots + (lw_gr d_rm o_rm) ≤ room_1.slots; omega⟩) hP hD hS hA (fun u9 H locs hP hD hS => ?_)
  have hP : va_P G.1 vwCl (((WX G z_h z_q z_fh z_hr z_hl z_hk z_he z_ht r_q l_hd k_hp e_hs e_q s_q t_q d_q u9 p_q r_goes r_told e_steps e_yes s_sets s_slots s_count t_ways t_freshWays t_leastTo t_waiting o_rm o_st o_kd o_od o_rooms o_dct o_nx o_sy o_nt o_so o_fr o_tb o_tn o_pct) ++ (WF G z_fh f_q o_fn o_fs o_fz)) ++ (WM G m_h m_q m_onBy m_toldBy m_kindsOf m_nextOf m_holdsAt m_made m_standsFor m_madeNext m_madeHolds m_stateFor m_joined m_joinedNow m_firstIn m_orderOf m_classAt m_sets m_waysTo m_waysThen m_queue m_leastTo)) H := hP
  have hD : va_D A (((WX G z_h z_q z_fh z_hr z_hl z_hk z_he z_ht r_q l_hd k_hp e_hs e_q s_q t_q d_q u9 p_q r_goes r_told e_steps e_yes s_sets s_slots s_count t_ways t_freshWays t_leastTo t_waiting o_rm o_st o_kd o_od o_rooms o_dct o_nx o_sy o_nt o_so o_fr o_tb o_tn o_pct) ++ (WF G z_fh f_q o_fn o_fs o_fz)) ++ (WM G m_h m_q m_onBy m_toldBy m_kindsOf m_nextOf m_holdsAt m_made m_standsFor m_madeNext m_madeHolds m_stateFor m_joined m_joinedNow m_firstIn m_orderOf m_classAt m_sets m_waysTo m_waysThen m_queue m_leastTo)) := hD
  refine lv_aload_n hx hb dL_law_354 rfl (lv_at hl 2 rfl) ?_
  refine lv_aload_n hx hb dL_law_355 rfl (lv_at hl 0 rfl) ?_
  refine lv_iload_n hx hb dL_law_356 rfl (lv_at hl 3 rfl) ?_
  refine lv_iconst (v := 1) hx hb dL_law_357 (by decide) ?_
  refine lv_iadd hx hb dL_law_358 ?_
  refine va_sld hx hb hX hbl hbA hS h1 dL_law_359 ?_
  refine lv_aload_n hx hb dL_law_360 rfl (lv_at hl 0 rfl) ?_
  refine lv_iload_n hx hb dL_law_361 rfl (lv_at hl 3 rfl) ?_
  refine lv_iconst (v := 2) hx hb dL_law_362 (by decide) ?_
  refine lv_iadd hx hb dL_law_363 ?_
  refine va_sld hx hb hX hbl hbA hS h2 dL_law_364 ?_
  refine lv_aload_n hx hb dL_law_365 rfl (lv_at hl 0 rfl) ?_
  refine lv_iload_n hx hb dL_law_366 rfl (lv_at hl 3 rfl) ?_
  refine lv_iconst (v := 3) hx hb dL_law_367 (by decide) ?_
  refine lv_iadd hx hb dL_law_368 ?_
  refine va_sld hx hb hX hbl hbA hS h3 dL_law_369 ?_
  refine k_ciR (va_runV (As := [.int (xs (x3 + 1).toNatClampNeg), .int (xs (x3 + 2).toNatClampNeg), .int (xs (x3 + 3).toNatClampNeg)]) (rest := [.int o_r]) ⟨hx, hb, hml, hown, hts⟩ (c_X10_sum l G 5000 m_h m_q m_onBy m_toldBy m_kindsOf m_nextOf m_holdsAt m_made m_standsFor m_madeNext m_madeHolds m_stateFor m_joined m_joinedNow m_firstIn m_orderOf m_classAt m_sets m_waysTo m_waysThen m_queue m_leastTo (xs (x3 + 1).toNatClampNeg) (xs (x3 + 2).toNatClampNeg) (xs (x3 + 3).toNatClampNeg) _ o_r o_ko o_nxo o_ha o_md o_mn o_mh o_jd o_jn o_fi o_oo o_ca h10) (cwV 3 hts gL_law_X10_sum rfl rfl rfl ⟨rfl, eX10_sum⟩ ⟨Nat.le_of_ble_eq_true rfl, Nat.le_of_ble_eq_true rfl⟩) (preWV (ci := 10) (q0 := 0) hK hP.right hD.right rfl rfl) rfl rfl hl.1 rfl (lv_room (Nat.le_of_ble_eq_true rfl)) dL_law_370 ⟨by show cells + 5 + 0 ≤ 600000; omega, by show slots + (lw_gr d_rm o_rm) + (0) ≤ room_1.slots; omega⟩) hP hD hS hA (fun u10 H locs hP hD hS => ?_)
  have hP : va_P G.1 vwCl (((WX G z_h z_q z_fh z_hr z_hl z_hk z_he z_ht r_q l_hd k_hp e_hs e_q s_q t_q d_q u9 p_q r_goes r_told e_steps e_yes s_sets s_slots s_count t_ways t_freshWays t_leastTo t_waiting o_rm o_st o_kd o_od o_rooms o_dct o_nx o_sy o_nt o_so o_fr o_tb o_tn o_pct) ++ (WF G z_fh f_q o_fn o_fs o_fz)) ++ (WM G m_h m_q m_onBy m_toldBy o_ko o_nxo o_ha o_md m_standsFor o_mn o_mh m_stateFor o_jd o_jn o_fi o_oo o_ca m_sets m_waysTo m_waysThen m_queue m_leastTo)) H := hP
  have hD : va_D A (((WX G z_h z_q z_fh z_hr z_hl z_hk z_he z_ht r_q l_hd k_hp e_hs e_q s_q t_q d_q u9 p_q r_goes r_told e_steps e_yes s_sets s_slots s_count t_ways t_freshWays t_leastTo t_waiting o_rm o_st o_kd o_od o_rooms o_dct o_nx o_sy o_nt o_so o_fr o_tb o_tn o_pct) ++ (WF G z_fh f_q o_fn o_fs o_fz)) ++ (WM G m_h m_q m_onBy m_toldBy o_ko o_nxo o_ha o_md m_standsFor o_mn o_mh m_stateFor o_jd o_jn o_fi o_oo o_ca m_sets m_waysTo m_waysThen m_queue m_leastTo)) := hD
  refine lv_icmp_eq (tgt := 1010) hx hb dL_law_373 (by decide) (fun _ => ?_) (fun c9 => absurd rfl c9)
  refine W.widen (k := cells + 10) (n := slots + lw_gr d_rm o_rm) (by show cells + 5 + 0 ≤ cells + 10; omega) (by show slots + (lw_gr d_rm o_rm) + (0) ≤ slots + lw_gr d_rm o_rm; omega) ?_
  exact kk o_rm _ _ hgr ⟨z_q, z_fh, z_hr, z_hl, z_hk, z_he, z_ht, r_q, l_hd, k_hp, e_hs, e_q, s_q, t_q, d_q, u9, p_q, f_q, m_q, r_goes, r_told, e_steps, e_yes, s_sets, s_slots, s_count, t_ways, t_freshWays, t_leastTo, t_waiting, o_st, o_kd, o_od, o_rooms, o_dct, o_nx, o_sy, o_nt, o_so, o_fr, o_tb, o_tn, o_pct, o_fn, o_fs, o_fz, m_onBy, m_toldBy, o_ko, o_nxo, o_ha, o_md, m_standsFor, o_mn, o_mh, m_stateFor, o_jd, o_jn, o_fi, o_oo, o_ca, m_sets, m_waysTo, m_waysThen, m_queue, m_leastTo, hrow, hcl1, hd1, hp1, hP, hD⟩ hS
