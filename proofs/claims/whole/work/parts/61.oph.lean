/-! depends -/
theorem flip_fin : ∀ u, u < 3 → ∀ d, d < 8 → nI d ^^^ ((1 : Int32) <<< (nI u &&& (31 : Int32))) = nI (d ^^^ 2 ^ u) ∧ d ^^^ 2 ^ u < 8 := by decide +kernel
theorem au_can.reach {n : Nat} {N : Nat → Nat → Nat} {S : Nat → Bool} (h : au_can n N S) : au_reach n N := by
  intro s
  induction s using Nat.strongRecOn with
  | ind s ih =>
    intro hs
    by_cases h0 : s = 0
    · subst h0
      exact ⟨[], au_ok_nil, rfl⟩
    · have key : ∀ t, t ≤ 8 * s → s < au_M N t → ∃ u, u < t ∧ N (u / 8) (u % 8) = s := by
        intro t
        induction t with
        | zero =>
          intro _ q
          have q : s < 1 := q
          omega
        | succ t iht =>
          intro ht q
          by_cases q2 : s < au_M N t
          · obtain ⟨u, u1, u2⟩ := iht (by omega) q2
            exact ⟨u, by omega, u2⟩
          · have q : s < max (au_M N t) (N (t / 8) (t % 8) + 1) := q
            have a := h.2.2.2.1 t (by omega)
            exact ⟨t, by omega, by omega⟩
      obtain ⟨u, u1, u2⟩ := key (8 * s) (Nat.le_refl _) (h.2.2.2.2.1 s hs)
      obtain ⟨w, w1, w2⟩ := ih (u / 8) (by omega) (by omega)
      refine ⟨w ++ [u % 8], au_ok_app w1 (au_ok_cons (Nat.mod_lt _ (by omega)) au_ok_nil), ?_⟩
      rw [au_run_app, w2]
      exact u2
section HEED
variable {m u : Nat} {N : Nat → Nat → Nat} {S : Nat → Bool} {cn cs : AI}
theorem heeds_columns (h : ct_at m N S cn cs) (hm : m ≤ 60) (hN : ∀ s, s < m → ∀ c, c < 8 → N s c < m) (hu : u < 3) {x : Nat} (hx : x < m) : ∀ (f l : Nat), l ≤ 8 → 9 ≤ f + l → (p_X0_heeds_L12 cn (nI m) (nI x) (nI u) f (nI l) = some (.inr ()) ∧ ∀ d, l ≤ d → d < 8 → N x d = N x (d ^^^ 2 ^ u)) ∨ (p_X0_heeds_L12 cn (nI m) (nI x) (nI u) f (nI l) = some (.inl 1) ∧ ∃ d, d < 8 ∧ N x d ≠ N x (d ^^^ 2 ^ u)) := by
  intro f
  induction f with
  | zero => intro l h1 h2; omega
  | succ f ih =>
    intro l hl hf
    rw [p_X0_heeds_L12, k_8, ite_le (by omega) (by omega)]
    by_cases h8 : 8 ≤ l
    · rw [if_pos h8]
      exact Or.inl ⟨rfl, fun d h1 h2 => by omega⟩
    · obtain ⟨e, e2⟩ := flip_fin u hu l (by omega)
      have b1 := hN x hx l (by omega)
      have b2 := hN x hx _ e2
      rw [if_neg h8, e, after_is h hm hx (by omega), ob1_some, after_is h hm hx e2, ob1_some, ite_eq (by omega) (by omega)]
      by_cases q : N x l = N x (l ^^^ 2 ^ u)
      · rw [if_pos q, nI_1]
        rcases ih (l + 1) (by omega) (by omega) with ⟨a, b⟩ | ⟨a, b⟩
        · refine Or.inl ⟨a, fun d h1 h2 => ?_⟩
          by_cases hdl : d = l
          · rw [hdl]; exact q
          · exact b d (by omega) h2
        · exact Or.inr ⟨a, b⟩
      · rw [if_neg q, gb_in _ (by decide)]
        exact Or.inr ⟨rfl, l, by omega, q⟩
theorem heeds_loop {F : Nat} (hF : 5000 ≤ F) (h : ct_at m N S cn cs) (hm : m ≤ 60) (hN : ∀ s, s < m → ∀ c, c < 8 → N s c < m) (hu : u < 3) : ∀ (f x : Nat), x ≤ m → m + 1 ≤ f + x → (p_X0_heeds_L2 F (nI m) cn (nI u) f (nI x) = some (.inr ()) ∧ ∀ y, x ≤ y → y < m → ∀ d, d < 8 → N y d = N y (d ^^^ 2 ^ u)) ∨ (p_X0_heeds_L2 F (nI m) cn (nI u) f (nI x) = some (.inl 1) ∧ ∃ y, y < m ∧ ∃ d, d < 8 ∧ N y d ≠ N y (d ^^^ 2 ^ u)) := by
  intro f
  induction f with
  | zero => intro x h1 h2; omega
  | succ f ih =>
    intro x hx hf
    rw [p_X0_heeds_L2, ite_le (by omega) (by omega)]
    by_cases hmx : m ≤ x
    · rw [if_pos hmx]
      exact Or.inl ⟨rfl, fun y h1 h2 => by omega⟩
    · rw [if_neg hmx, k_0]
      rcases heeds_columns h hm hN hu (show x < m by omega) F 0 (by omega) (by omega) with ⟨a, b⟩ | ⟨a, b⟩
      · rw [a, nI_1]
        simp only [obS0]
        rcases ih (x + 1) (by omega) (by omega) with ⟨a2, b2⟩ | ⟨a2, b2⟩
        · refine Or.inl ⟨a2, fun y h1 h2 => ?_⟩
          by_cases hyx : y = x
          · rw [hyx]; exact fun d hd => b d (Nat.zero_le _) hd
          · exact b2 y (by omega) h2
        · exact Or.inr ⟨a2, b2⟩
      · rw [a]
        exact Or.inr ⟨rfl, x, by omega, b⟩
theorem heeds_is {F : Nat} (hF : 5000 ≤ F) (h : ct_at m N S cn cs) (hm : m ≤ 60) (hN : ∀ s, s < m → ∀ c, c < 8 → N s c < m) (hu : u < 3) : ∃ b, p_X0_heeds F cn (nI m) (nI u) = some (bI b) ∧ (b = false ↔ ∀ y, y < m → ∀ d, d < 8 → N y d = N y (d ^^^ 2 ^ u)) := by
  unfold p_X0_heeds
  rw [k_0]
  rcases heeds_loop hF h hm hN hu F 0 (by omega) (by omega) with ⟨a, b⟩ | ⟨a, y, hy, d, hd, b⟩
  · rw [a]
    exact ⟨false, rfl, fun _ y hy => b y (Nat.zero_le _) hy, fun _ => rfl⟩
  · rw [a]
    exact ⟨true, rfl, fun q => (by cases q), fun q => absurd (q y hy d hd) b⟩
end HEED
def bx (b b' : bf_T) : Prop := b.2.2 ≤ b'.2.2 ∧ (∀ x, x < b.2.2 → b'.2.1 x = b.2.1 x) ∧ ∀ i, b.1 i ≠ 0 → b'.1 i ≠ 0
theorem bx.rf (b : bf_T) : bx b b := ⟨Nat.le_refl _, fun _ _ => rfl, fun _ h => h⟩
theorem bx.tr {a b c : bf_T} (h : bx a b) (h2 : bx b c) : bx a c := ⟨Nat.le_trans h.1 h2.1, fun x hx => by rw [h2.2.1 x (Nat.lt_of_lt_of_le hx h.1)]; exact h.2.1 x hx, fun i hi => h2.2.2 i (h.2.2 i hi)⟩
theorem bx.new (j : Nat) (b : bf_T) : bx b (bf_new j b) := ⟨bf_new_many, fun x hx => bf_new_cls hx, fun i hi => by rw [bf_new_ord hi]; exact hi⟩
section DEP
variable {m u k : Nat} {N : Nat → Nat → Nat} {S : Nat → Bool} {nxo ha : AI} {P : Nat → Prop}
def dp_q (N : Nat → Nat → Nat) (u j l : Nat) : Nat := 60 * N (j / 60) l + N (j % 60) (l ^^^ 2 ^ u)
def dp_ok (P : Nat → Prop) (b : bf_T) (sf sfo : AI) : Prop := bf_ok b ∧ (∀ x, x < b.2.2 → P (b.2.1 x)) ∧ bo b 3600 sfo ∧ bc b sf
theorem dp_new {b : bf_T} {j : Nat} {sf sfo : AI} (h36 : ∀ j, P j → j < 3600) (h : dp_ok P b sf sfo) (hj : P j) : ∃ r sf' sfo', p_X10_stateOf (nI b.2.2) sf sfo (nI j) = some (r, nI (bf_new j b).2.2, sf', sfo') ∧ dp_ok P (bf_new j b) sf' sfo' := by
  obtain ⟨h1, h2, h3, h4⟩ := h
  obtain ⟨sf', sfo', e, q1, q2⟩ := stateOf_is h1 (fun x hx => h36 _ (h2 x hx)) (Nat.le_refl _) (h36 j hj) h3 h4
  exact ⟨_, sf', sfo', e, bf_new_ok h1, bf_newP h2 hj, q1, q2⟩
theorem dep_letters (hk : k < 8) (hm : m ≤ 60) (hu : u < 3) (h : mt_at k m N S nxo ha) (hP : ∀ j, P j → jnP m m j) (hQ : ∀ j, P j → ∀ l, l < 8 → P (jnN N N j l) ∧ P (dp_q N u j l)) {sf0 : AI} {x jx : Nat} (hx : x < 3600) (hj : P jx) (hs : sf0 x = nI jx) :
    ∀ (f l : Nat) (b : bf_T) (sf sfo : AI), l ≤ 8 → 9 ≤ f + l → dp_ok P b sf sfo → ∃ b' sf' sfo', p_X10_dependsOn_L78 nxo (nI k) sf0 (nI x) (nI u) f (nI l) (nI b.2.2) sf sfo = some (nI b'.2.2, sf', sfo') ∧ dp_ok P b' sf' sfo' ∧ bx b b' ∧ ∀ d, l ≤ d → d < 8 → b'.1 (jnN N N jx d) ≠ 0 ∧ b'.1 (dp_q N u jx d) ≠ 0 := by
  have hj36 := jnP_lt hm (hP jx hj)
  obtain ⟨hj1, hj2⟩ := hP jx hj
  intro f
  induction f with
  | zero => intro l b sf sfo h1 h2; omega
  | succ f ih =>
    intro l b sf sfo hl hf hb
    rw [p_X10_dependsOn_L78, k_8, ite_le (by omega) (by omega)]
    by_cases h8 : 8 ≤ l
    · rw [if_pos h8]
      exact ⟨b, sf, sfo, rfl, hb, bx.rf b, fun d h1 h2 => by omega⟩
    · obtain ⟨e, e2⟩ := flip_fin u hu l (by omega)
      obtain ⟨p1, p2⟩ := hQ jx hj l (by omega)
      have hcl : (sf0 (nI x).toNatClampNeg) = nI jx := by rw [nI_clamp (by omega)]; exact hs
      rw [if_neg h8, hcl, k_60, pk_rem (a := jx) (d := 60) (by omega) (by omega) (by omega), pk_div (by omega) (by omega) (by omega), next_is h hk hm hj1 (by omega), ob1_some, next_is h hk hm hj2 (by omega), ob1_some, pk_mul, nI_add, e, next_is h hk hm hj2 e2]
      obtain ⟨r1, sf1, sfo1, e3, q1⟩ := dp_new (fun j hj => jnP_lt hm (hP j hj)) hb p1
      have e3' : p_X10_stateOf (nI b.2.2) sf sfo (nI (60 * N (jx / 60) l + N (jx % 60) l)) = _ := e3
      rw [e3']
      simp only [ob4, ob1_some]
      obtain ⟨r2, sf2, sfo2, e4, q2⟩ := dp_new (fun j hj => jnP_lt hm (hP j hj)) q1 p2
      have e4' : p_X10_stateOf (nI (bf_new (jnN N N jx l) b).2.2) sf1 sfo1 (nI (60 * N (jx / 60) l + N (jx % 60) (l ^^^ 2 ^ u))) = _ := e4
      rw [pk_mul, nI_add, e4', nI_1]
      simp only []
      obtain ⟨b', sf', sfo', e5, q3, q4, q5⟩ := ih (l + 1) _ sf2 sfo2 (by omega) (by omega) q2
      refine ⟨b', sf', sfo', e5, q3, ((bx.new _ _).tr (bx.new _ _)).tr q4, fun d h1 h2 => ?_⟩
      by_cases hdl : d = l
      · subst hdl
        exact ⟨((bx.new (dp_q N u jx d) _).tr q4).2.2 _ bf_new_has, q4.2.2 _ bf_new_has⟩
      · exact q5 d (by omega) h2
theorem dep_loop {F : Nat} (hF : 5000 ≤ F) (hk : k < 8) (hm : m ≤ 60) (hu : u < 3) (h : mt_at k m N S nxo ha) (hP : ∀ j, P j → jnP m m j) (hQ : ∀ j, P j → ∀ l, l < 8 → P (jnN N N j l) ∧ P (dp_q N u j l)) :
    ∀ (f s : Nat) (b : bf_T) (sf sfo : AI), 3602 ≤ f + s → s ≤ b.2.2 → dp_ok P b sf sfo → (∀ y, y < s → S (b.2.1 y / 60) = S (b.2.1 y % 60) ∧ ∀ d, d < 8 → b.1 (jnN N N (b.2.1 y) d) ≠ 0 ∧ b.1 (dp_q N u (b.2.1 y) d) ≠ 0) → b.1 0 ≠ 0 →
      ∃ dz md' sf' sfo', p_X10_dependsOn_L15 F ha (nI k) nxo (nI u) f (0 : Int32) (nI s) (nI b.2.2) sf sfo = some (bI dz, md', sf', sfo') ∧ (dz = true → ∃ j, P j ∧ S (j / 60) ≠ S (j % 60)) ∧ (dz = false → ∃ V : Nat → Prop, V 0 ∧ ∀ j, V j → P j ∧ S (j / 60) = S (j % 60) ∧ ∀ d, d < 8 → V (jnN N N j d) ∧ V (dp_q N u j d)) := by
  intro f
  induction f with
  | zero =>
    intro s b sf sfo hfu hs hb
    have := bf_fit hb.1 (fun x hx => jnP_lt hm (hP _ (hb.2.1 x hx)))
    omega
  | succ f ih =>
    intro s b sf sfo hfu hs hb hp h0
    have hfit := bf_fit hb.1 (fun x hx => jnP_lt hm (hP _ (hb.2.1 x hx)))
    rw [p_X10_dependsOn_L15, ite_le (by omega) (by omega)]
    by_cases hmx : b.2.2 ≤ s
    · rw [if_pos hmx]
      refine ⟨false, _, _, _, rfl, fun q => (by cases q), fun _ => ⟨fun j => b.1 j ≠ 0, h0, fun j hj => ?_⟩⟩
      obtain ⟨v1, v2⟩ := (hb.1.2 j).resolve_left hj
      have := hp (b.1 j - 1) (by omega)
      rw [v2] at this
      have hPj := hb.2.1 _ v1
      rw [v2] at hPj
      exact ⟨hPj, this⟩
    · have hsl : s < b.2.2 := by omega
      have hPj := hb.2.1 s hsl
      have hj36 := jnP_lt hm (hP _ hPj)
      obtain ⟨hj1, hj2⟩ := hP _ hPj
      have hsf := hb.2.2.2 s hsl
      rw [if_neg hmx, if_pos rfl]
      simp (disch := omega) only [gi_nI, nI_clamp, hsf]
      obtain ⟨b', sf', sfo', e, q1, q2, q3⟩ := dep_letters hk hm hu h hP hQ (show s < 3600 by omega) hPj hsf F 0 b sf sfo (by omega) (by omega) hb
      have e' : p_X10_dependsOn_L78 nxo (nI k) sf (nI s) (nI u) F (0 : Int32) (nI b.2.2) sf sfo = some (nI b'.2.2, sf', sfo') := e
      have hmn := q2.1
      rw [k_60, pk_rem (d := 60) (by omega) (by omega) (by omega), pk_div (by omega) (by omega) (by omega), holdsIn_is h hk hm hj1, ob1_some, holdsIn_is h hk hm hj2, ob1_some, ob1_ft, e']
      simp only [ob3]
      rw [nI_1]
      by_cases hS : S (b.2.1 s / 60) = S (b.2.1 s % 60)
      · rw [hS, decide_eq_true rfl]
        refine ih (s + 1) b' sf' sfo' (by omega) (by omega) q1 (fun y hy => ?_) (q2.2.2 0 h0)
        rw [q2.2.1 y (by omega)]
        by_cases hys : y = s
        · subst hys
          exact ⟨hS, fun d hd => q3 d (Nat.zero_le _) hd⟩
        · exact ⟨(hp y (by omega)).1, fun d hd => ⟨q2.2.2 _ ((hp y (by omega)).2 d hd).1, q2.2.2 _ ((hp y (by omega)).2 d hd).2⟩⟩
      · rw [decide_eq_false (fun q => hS (bI_inj q))]
        have hend : p_X10_dependsOn_L15 F ha (nI k) nxo (nI u) f (bI (!false)) (nI (s + 1)) (nI b'.2.2) sf' sfo' = some (bI true, nI b'.2.2, sf', sfo') := by
          rw [show f = (f - 1) + 1 by omega, p_X10_dependsOn_L15]
          split
          · rfl
          · rw [if_neg (by decide)]; rfl
        exact ⟨true, _, _, _, hend, fun _ => ⟨_, hPj, hS⟩, fun q => by cases q⟩
theorem dependsOn_is {F : Nat} (hF : 5000 ≤ F) (hk : k < 8) (hm : m ≤ 60) (hu : u < 3) (hc : au_can m N S) (h : mt_at k m N S nxo ha) (sf sfo : AI) : ∃ dz md' sf' sfo', p_X10_dependsOn F nxo ha sf sfo (nI k) (nI u) = some (bI dz, md', sf', sfo') ∧ (dz = false ↔ ∀ y, y < m → ∀ d, d < 8 → N y d = N y (d ^^^ 2 ^ u)) := by
  have hN := hc.2.1
  obtain ⟨sf1, sfo0, sfo1, w1, w2, w3, w4⟩ := begun_is hF (show 0 < 3600 by omega) (by omega) (jnN N N) sf sfo
  have w2' : p_X10_stateOf (nI 0) sf sfo0 (0 : Int32) = some (nI 0, nI 1, sf1, sfo1) := w2
  have go : ∀ P : Nat → Prop, P 0 → (∀ j, P j → jnP m m j) → (∀ j, P j → ∀ l, l < 8 → P (jnN N N j l) ∧ P (dp_q N u j l)) → ∃ dz md' sf' sfo', p_X10_dependsOn F nxo ha sf sfo (nI k) (nI u) = some (bI dz, md', sf', sfo') ∧ (dz = true → ∃ j, P j ∧ S (j / 60) ≠ S (j % 60)) ∧ (dz = false → ∃ V : Nat → Prop, V 0 ∧ ∀ j, V j → P j ∧ S (j / 60) = S (j % 60) ∧ ∀ d, d < 8 → V (jnN N N j d) ∧ V (dp_q N u j d)) := by
    intro P p0 hP hQ
    obtain ⟨dz, md', sf', sfo', e, q1, q2⟩ := dep_loop (P := P) hF hk hm hu h hP hQ F 0 (bf (jnN N N) 0 0) sf1 sfo1 (by omega) (Nat.zero_le _) ⟨bf_all_ok 0, fun x hx => by
      rw [bf_zero.1] at hx
      rw [show x = 0 by omega, bf_zero.2.1]
      exact p0, w3, w4⟩ (fun y hy => by omega) (by rw [bf_zero.2.2]; omega)
    refine ⟨dz, md', sf', sfo', ?_, q1, q2⟩
    unfold p_X10_dependsOn
    rw [w1]
    simp only [ob2]
    rw [w2']
    simp only [ob4]
    have e' : p_X10_dependsOn_L15 F ha (nI k) nxo (nI u) F (0 : Int32) (0 : Int32) (nI 1) sf1 sfo1 = some (bI dz, md', sf', sfo') := e
    rw [e']
    exact gb_bI _ _
  have hjq : ∀ j, jnP m m j → ∀ l, l < 8 → (dp_q N u j l / 60 = N (j / 60) l ∧ dp_q N u j l % 60 = N (j % 60) (l ^^^ 2 ^ u)) ∧ jnP m m (dp_q N u j l) := by
    intro j hj l hl
    have a := hN _ hj.1 l hl
    have b := hN _ hj.2 _ (flip_fin u hu l hl).2
    have e1 : dp_q N u j l / 60 = N (j / 60) l := by unfold dp_q; omega
    have e2 : dp_q N u j l % 60 = N (j % 60) (l ^^^ 2 ^ u) := by unfold dp_q; omega
    exact ⟨⟨e1, e2⟩, ⟨by omega, by omega⟩⟩
  have h00 : jnP m m 0 := ⟨hc.1, hc.1⟩
  by_cases hall : ∀ y, y < m → ∀ d, d < 8 → N y d = N y (d ^^^ 2 ^ u)
  · obtain ⟨dz, md', sf', sfo', e, q1, q2⟩ := go (fun j => jnP m m j ∧ j / 60 = j % 60) ⟨h00, rfl⟩ (fun j hj => hj.1) (fun j hj l hl => by
      obtain ⟨p1, p2, p3⟩ := jnN_P hm hN hN hj.1 hl
      obtain ⟨⟨p4, p5⟩, p6⟩ := hjq j hj.1 l hl
      refine ⟨⟨p1, ?_⟩, ⟨p6, ?_⟩⟩
      · rw [p2, p3, hj.2]
      · rw [p4, p5, hj.2]; exact hall _ hj.1.2 l hl)
    refine ⟨dz, md', sf', sfo', e, fun _ => hall, fun _ => ?_⟩
    cases hd : dz
    · rfl
    · obtain ⟨j, hj, hS⟩ := q1 hd
      rw [hj.2] at hS
      exact absurd rfl hS
  · obtain ⟨dz, md', sf', sfo', e, q1, q2⟩ := go (jnP m m) h00 (fun j hj => hj) (fun j hj l hl => ⟨(jnN_P hm hN hN hj hl).1, (hjq j hj l hl).2⟩)
    refine ⟨dz, md', sf', sfo', e, fun hd => ?_, fun q => absurd q hall⟩
    obtain ⟨V, v0, hV⟩ := q2 hd
    have hV2 : ∀ a b, V (60 * a + b) → a < m → b < m → ∀ d, d < 8 → V (60 * N a d + N b d) ∧ V (60 * N a d + N b (d ^^^ 2 ^ u)) := by
      intro a b hab ha hb d hd
      have := (hV _ hab).2.2 d hd
      unfold jnN dp_q at this
      rw [show (60 * a + b) / 60 = a by omega, show (60 * a + b) % 60 = b by omega] at this
      exact this
    have hdiag : ∀ (w : List Nat) (s : Nat), au_ok w → s < m → V (60 * s + s) → V (60 * au_run N s w + au_run N s w) := by
      intro w
      induction w with
      | nil => intro s _ _ hs; exact hs
      | cons c w ihw =>
        intro s hw hs hvs
        have hc8 : c < 8 := hw c (by simp)
        exact ihw (N s c) (fun d hd => hw d (by simp [hd])) (hN s hs c hc8) (hV2 s s hvs hs hs c hc8).1
    have hbis : ∀ a b, V (60 * a + b) → a < m → b < m → au_eq N S a N S b := by
      intro a b hab ha hb
      refine au_bisim (fun a b => V (60 * a + b) ∧ a < m ∧ b < m) (fun a b hr => ?_) ⟨hab, ha, hb⟩
      obtain ⟨r1, r2, r3⟩ := hr
      refine ⟨?_, fun c hc8 => ⟨(hV2 a b r1 r2 r3 c hc8).1, hN a r2 c hc8, hN b r3 c hc8⟩⟩
      have := (hV _ r1).2.1
      rw [show (60 * a + b) / 60 = a by omega, show (60 * a + b) % 60 = b by omega] at this
      exact this
    exact absurd (fun y hy d hd => by
      obtain ⟨w, w1, w2⟩ := hc.reach y hy
      have v1 := hdiag w 0 w1 hc.1 v0
      rw [w2] at v1
      have hfl := (flip_fin u hu d hd).2
      exact hc.2.2.1 _ _ (hN y hy d hd) (hN y hy _ hfl) (hbis _ _ (hV2 y y v1 hy hy d hd).2 (hN y hy d hd) (hN y hy _ hfl))) hall
end DEP
theorem dep_or : ∀ b : Bool, ∀ s, s < 3 → ∀ r, r < 8 → (if bI b = 0 then some (nI r) else some (nI r ||| ((1 : Int32) <<< (nI s &&& (31 : Int32))))) = some (nI r ||| nI (if b then 2 ^ s else 0)) ∧ (if bI b = 0 then some (0 : Int32) else some ((1 : Int32) <<< (nI s &&& (31 : Int32)))) = some (nI (if b then 2 ^ s else 0)) ∧ ∃ r', r' < 8 ∧ nI r ||| nI (if b then 2 ^ s else 0) = nI r' := by decide +kernel
theorem depends_loop {F k m : Nat} {N : Nat → Nat → Nat} {S : Nat → Bool} {nxo ha : AI} {fn fs : AF} {fz : AI} (hF : 5000 ≤ F) (hk : k < 6) (hm : m ≤ 60) (hz : fz k = nI m) (hc : au_can m N S) (h1 : ct_at m N S (fn k) (fs k)) (h2 : mt_at k m N S nxo ha) :
    ∀ (f u r : Nat) (md : Int32) (sf sfo : AI), u ≤ 3 → 4 ≤ f + u → r < 8 → ∃ z md' sf' sfo', p_X9_depends_L24 F (nI k) fn fz f (nI r) (nI u) = some z ∧ p_X10_depends_L24 F nxo ha (nI k) f (nI r) (nI u) md sf sfo = some (z, md', sf', sfo') := by
  intro f
  induction f with
  | zero => intro u r md sf sfo h1 h2; omega
  | succ f ih =>
    intro u r md sf sfo hu hf hr
    rw [p_X9_depends_L24, p_X10_depends_L24, k_3]
    rw [ite_le (by omega) (by omega)]
    by_cases h3 : 3 ≤ u
    · rw [if_pos h3]
      refine ⟨nI r, md, sf, sfo, rfl, ?_⟩
      rw [if_pos (nI_le h3 (by omega))]
    · rw [if_neg h3]
      obtain ⟨b, e1, q1⟩ := heeds_is hF h1 hm hc.2.1 (show u < 3 by omega)
      obtain ⟨dz, md', sf', sfo', e2, q2⟩ := dependsOn_is hF (show k < 8 by omega) hm (show u < 3 by omega) hc h2 sf sfo
      have hbd : dz = b := by
        cases hb : b <;> cases hd : dz
        · rfl
        · have := q2.mpr (q1.mp hb); rw [hd] at this; cases this
        · have := q1.mpr (q2.mp hd); rw [hb] at this; cases this
        · rfl
      subst hbd
      obtain ⟨o1, o2, r', hr', o3⟩ := dep_or dz u (by omega) r hr
      simp (disch := omega) only [gi_nI, nI_clamp, hz]
      rw [e1, ob1_some, o1, ob1_some, o3, nI_1]
      obtain ⟨z, md2, sf2, sfo2, d1, d2⟩ := ih (u + 1) r' md' sf' sfo' (by omega) (by omega) hr'
      refine ⟨z, md2, sf2, sfo2, d1, ?_⟩
      rw [if_neg (nI_ge (by omega) (by omega)), e2]
      simp only [ob4]
      rw [o2, ob1_some, o3]
      exact d2
theorem op_depends {F : Nat} (hF : 5000 ≤ F) {fn fs : AF} {fz ko nxo ha : AI} (hcl : rl_cls fn fs fz ko nxo ha) (md : Int32) (sf sfo : AI) (v1 : Int32) : ∃ r md' sf' sfo', p_X9_depends F fn fz v1 = some r ∧ p_X10_depends F ko nxo ha md sf sfo v1 = some (r, md', sf', sfo') := by
  unfold p_X9_depends p_X10_depends
  rcases isClaim_dec v1 with ⟨a1, a2⟩ | ⟨k, hk, rfl, a1, a2⟩
  · rw [a1, a2]
    exact ⟨-1, md, sf, sfo, rfl, rfl⟩
  rcases there_dec hcl hk with ⟨e1, e2, e3, e4⟩ | ⟨m, N, S, hm, h60, e1, e2, e3, e4, e5, e6, e7⟩
  · rw [a1, a2, e1, e2]
    exact ⟨-3, md, sf, sfo, rfl, rfl⟩
  obtain ⟨z, md', sf', sfo', d1, d2⟩ := depends_loop hF hk h60 e3 e5 e6 e7 F 0 0 md sf sfo (by omega) (by omega) (by omega)
  refine ⟨z, md', sf', sfo', ?_, ?_⟩
  · rw [a1, ob1_some, if_neg (by decide), e1, ob1_some, if_neg (by decide), k_0, d1]
    rfl
  · rw [a2, ob1_some, if_neg (by decide), e2, ob1_some, if_neg (by decide), k_0, d2]
    rfl
