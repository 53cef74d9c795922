/-! the class: a draft's states told apart -/
def dm_N (n : Nat) (N : Nat → Nat → Nat) (d_next : AI) : Prop := ∀ s, s < n → ∀ c, c < 8 → d_next (s * 8 + c) = nI (N s c)
/-- states below s numbered by their keys -/
def nb_inv (key : Nat → Nat) (s cnt : Nat) (ks K : Nat → Nat) : Prop := (∀ u, u < s → K u < cnt ∧ ks (K u) = key u) ∧ ∀ i, i < cnt → ∃ u, u < s ∧ K u = i
theorem nb_step {key : Nat → Nat} {s cnt cnt' j : Nat} {ks ks' K : Nat → Nat} (h : nb_inv key s cnt ks K) (hj : j < cnt') (hk : ks' j = key s) (hks : ∀ i, i < cnt → ks' i = ks i) (hc : cnt' = cnt ∨ (cnt' = cnt + 1 ∧ j = cnt ∧ ∀ i, i < cnt → ks i ≠ key s)) : nb_inv key (s + 1) cnt' ks' (va_up K s j) := by
  refine ⟨fun u hu => ?_, fun i hi => ?_⟩
  · by_cases hus : u = s
    · rw [hus, va_up_self]; exact ⟨hj, hk⟩
    · rw [va_up_ne _ _ hus]
      obtain ⟨a, b⟩ := h.1 u (by omega)
      exact ⟨by omega, by rw [hks _ a]; exact b⟩
  · by_cases hic : i < cnt
    · obtain ⟨u, a, b⟩ := h.2 i hic
      exact ⟨u, by omega, by rw [va_up_ne _ _ (by omega)]; exact b⟩
    · exact ⟨s, by omega, by rw [va_up_self]; omega⟩
theorem nb_iff {key : Nat → Nat} {s t cnt : Nat} {ks K : Nat → Nat} {table : AI} (h : nb_inv key s cnt ks K) (hp : pn_in table t cnt ks) {u v : Nat} (hu : u < s) (hv : v < s) : K u = K v ↔ key u = key v := by
  obtain ⟨a1, a2⟩ := h.1 u hu
  obtain ⟨b1, b2⟩ := h.1 v hv
  constructor
  · intro e; rw [← a2, ← b2, e]
  · intro e; exact hp.inj a1 b1 (by rw [a2, b2, e])
section TELL
variable {n rm : Nat} {N : Nat → Nat → Nat} {S : Nat → Bool} {d_next d_says : AI}
theorem sortAfter_is (hnr : n ≤ rm) (hr : rm ≤ 3600) (hN : ∀ s, s < n → ∀ c, c < 8 → N s c < n) (hm : dm_N n N d_next) {J : Nat → Nat} {d_sort : AI} (hJ : ∀ s, s < n → d_sort s = nI (J s)) {s c : Nat} (hs : s < n) (hc : c < 8) :
    p_X1_sortAfter rm (nI n) d_next d_sort (nI s) (nI c) = some (nI (J (N s c))) := by
  unfold p_X1_sortAfter
  have h1 := hm s hs c hc
  have h2 := hN s hs c hc
  rw [k_8, if_neg (nI_pos (by omega)), ite_le (by omega) (by omega), if_neg (by omega), if_neg (nI_pos (by omega)), ite_lt (by omega) (by omega), if_pos hc]
  simp (disch := omega) only [pk_mul, nI_add, gi_nI, nI_clamp, h1]
  rw [if_neg (nI_pos (by omega)), ite_le (by omega) (by omega), if_neg (by omega), hJ _ h2]
theorem sortBySays_loop (hnr : n ≤ rm) (hr : rm ≤ 3600) (hS : mm_S n S d_says) {t : Nat} :
    ∀ (f s cnt : Nat) (d_sort table : AI) (ks K : Nat → Nat), s ≤ n → n + 1 ≤ f + s → cnt ≤ s → pn_in table t cnt ks → nb_inv (fun u => if S u then 1 else 0) s cnt ks K → (∀ u, u < s → d_sort u = nI (K u)) →
      ∃ d_sort' table' cnt' ks' K', p_X1_sortBySays_L9 (nI n) rm d_says (nI t) f (nI s) d_sort table (nI cnt) = some (d_sort', table', nI cnt') ∧ pn_in table' t cnt' ks' ∧ nb_inv (fun u => if S u then 1 else 0) n cnt' ks' K' ∧ ∀ u, u < n → d_sort' u = nI (K' u) := by
  intro f
  induction f with
  | zero => intro s cnt so tb ks K h1 h2; omega
  | succ f ih =>
    intro s cnt d_sort table ks K hs hf hcs hp hb hso
    rw [p_X1_sortBySays_L9, ite_le (by omega) (by omega)]
    by_cases hns : n ≤ s
    · rw [if_pos hns]
      have : s = n := by omega
      subst this
      exact ⟨d_sort, table, cnt, ks, K, rfl, hp, hb, hso⟩
    · rw [if_neg hns]
      have hss := hS s (by omega)
      simp (disch := omega) only [gi_nI, nI_1, nI_clamp, hss]
      rw [ob1_ft, show bI (!decide (bI (S s) = 0)) = bI (S s) by cases S s <;> rfl, bI_n, k_0]
      obtain ⟨j, tb', cnt', ks', e, q1, q2, q3, q4, q5⟩ := numberOf_is (a := 0) (b := if S s then 1 else 0) hp (by omega) (by omega) (by split <;> omega)
      rw [e]
      simp only [ob3]
      have hk : ks' j = (fun u => if S u then 1 else 0) s := by rw [q3]; show 0 * 64 + (if S s then 1 else 0) = (if S s then 1 else 0); omega
      refine ih (s + 1) cnt' _ tb' ks' (va_up K s j) (by omega) (by omega) (by omega) q1 (nb_step hb q2 hk q4 ?_) (fun u hu => ?_)
      · rcases q5 with q | ⟨a1, a2, a3⟩
        · exact Or.inl q
        · exact Or.inr ⟨a1, a2, fun i hi z => a3 i hi (by rw [z]; show (if S s then 1 else 0) = 0 * 64 + (if S s then 1 else 0); omega)⟩
      · by_cases hus : u = s
        · rw [hus, upd_self, va_up_self]
        · rw [upd_ne _ _ hus, va_up_ne _ _ hus]; exact hso u (by omega)
theorem sortBySays_is (hnr : n ≤ rm) (hr : rm ≤ 3600) (hS : mm_S n S d_says) {F : Nat} (hF : 5000 ≤ F) {table : AI} {turn : Int32} (hp : pn_ok table turn) (d_sort : AI) :
    ∃ c K d_sort' table' t, p_X1_sortBySays F rm (nI n) d_says d_sort table turn = some (nI c, d_sort', table', nI t, nI c) ∧ pn_ok table' (nI t) ∧ sg_part n K c ∧ (∀ s u, s < n → u < n → (K s = K u ↔ S s = S u)) ∧ (∀ u, u < n → d_sort' u = nI (K u)) ∧ c ≤ 2 := by
  unfold p_X1_sortBySays
  obtain ⟨tb, t, e1, q1⟩ := forget_is hF hp (fun _ => 0)
  rw [e1]
  simp only [ob3]
  obtain ⟨so, tb2, cnt, ks, K, e2, r1, r2, r3⟩ := sortBySays_loop hnr hr hS F 0 0 d_sort tb (fun _ => 0) (fun _ => 0) (Nat.zero_le _) (by omega) (Nat.le_refl _) q1 ⟨fun u h => by omega, fun i h => by omega⟩ (fun u h => by omega)
  rw [k_0, e2]
  have hcnt : cnt ≤ 2 := ph_surj_le (c := 2) (d := cnt) (g := fun b => if h : ∃ i, i < cnt ∧ ks i = b then Classical.choose h else 0) (fun j hj => by
    obtain ⟨u, u1, u2⟩ := r2.2 j hj
    have hk := (r2.1 u u1).2
    rw [u2] at hk
    refine ⟨if S u then 1 else 0, by split <;> omega, ?_⟩
    have hex : ∃ i, i < cnt ∧ ks i = (if S u then 1 else 0) := ⟨j, hj, hk⟩
    show (if h : ∃ i, i < cnt ∧ ks i = (if S u then 1 else 0) then Classical.choose h else 0) = j
    rw [dif_pos hex]
    obtain ⟨c1, c2⟩ := Classical.choose_spec hex
    exact r1.inj c1 hj (by rw [c2]; exact hk.symm))
  refine ⟨cnt, K, so, tb2, t, rfl, r1.ok, ⟨fun s hs => (r2.1 s hs).1, r2.2⟩, fun s u hs hu => ?_, r3, hcnt⟩
  rw [nb_iff r2 r1 hs hu]
  show (if S s then 1 else 0) = (if S u then 1 else 0) ↔ _
  cases S s <;> cases S u <;> simp
/-- too many unlike keys -/
def nb_many (n : Nat) (key : Nat → Nat) : Prop := ∃ f : Nat → Nat, (∀ i, i < 61 → f i < n) ∧ ∀ i j, i < 61 → j < 61 → i ≠ j → key (f i) ≠ key (f j)
theorem nb_many_of {key : Nat → Nat} {s cnt n t : Nat} {ks K : Nat → Nat} {table : AI} (h : nb_inv key s cnt ks K) (hp : pn_in table t cnt ks) (hs : s ≤ n) (hc : 60 < cnt) : nb_many n key := by
  obtain ⟨g, hg⟩ := ph_sec (c := s) (d := cnt) (g := K) h.2
  refine ⟨g, fun i hi => ?_, fun i j hi hj hij e => ?_⟩
  · have := (hg i (by omega)).1; omega
  · have a := hg i (by omega)
    have b := hg j (by omega)
    have := (nb_iff h hp a.1 b.1).mpr e
    rw [a.2, b.2] at this
    exact hij this
theorem splitBy_loop (hnr : n ≤ rm) (hr : rm ≤ 3600) (hN : ∀ s, s < n → ∀ c, c < 8 → N s c < n) (hm : dm_N n N d_next) {J : Nat → Nat} {d_sort : AI} (hJ : ∀ s, s < n → d_sort s = nI (J s)) (hJb : ∀ s, s < n → J s < 64) {c t : Nat} (hc : c < 8) :
    ∀ (f s cnt : Nat) (fr table : AI) (ks K : Nat → Nat), s ≤ n → n + 1 ≤ f + s → cnt ≤ 61 → pn_in table t cnt ks → nb_inv (fun u => J u * 64 + J (N u c)) s cnt ks K → (∀ u, u < s → fr u = nI (K u)) →
      ∃ fr' table' cnt' ks' K' s', p_X1_splitBy_L9 (nI n) rm d_next d_sort (nI c) (nI t) f (nI s) fr table (nI cnt) = some (fr', table', nI cnt') ∧ cnt' ≤ 61 ∧ pn_in table' t cnt' ks' ∧ nb_inv (fun u => J u * 64 + J (N u c)) s' cnt' ks' K' ∧ (∀ u, u < s' → fr' u = nI (K' u)) ∧ s' ≤ n ∧ (s' = n ∨ 60 < cnt') := by
  intro f
  induction f with
  | zero => intro s cnt fr tb ks K h1 h2; omega
  | succ f ih =>
    intro s cnt fr table ks K hs hf hc61 hp hb hfr
    rw [p_X1_splitBy_L9, ite_le (by omega) (by omega)]
    by_cases hns : n ≤ s
    · rw [if_pos hns]
      exact ⟨fr, table, cnt, ks, K, s, rfl, hc61, hp, hb, hfr, hs, Or.inl (by omega)⟩
    · rw [if_neg hns]
      show ∃ fr' table' cnt' ks' K' s', (if (60 : Int32) < nI cnt then _ else _) = _ ∧ _
      rw [k_60, ite_lt (by omega) (by omega)]
      by_cases h60 : 60 < cnt
      · rw [if_pos h60]
        exact ⟨fr, table, cnt, ks, K, s, rfl, hc61, hp, hb, hfr, hs, Or.inr h60⟩
      · rw [if_neg h60]
        have hsa := sortAfter_is hnr hr hN hm hJ (show s < n by omega) hc
        have hJs := hJ s (by omega)
        simp (disch := omega) only [gi_nI, nI_clamp, hsa, hJs, ob1_some]
        obtain ⟨j, tb', cnt', ks', e, q1, q2, q3, q4, q5⟩ := numberOf_is (a := J s) (b := J (N s c)) hp (by omega) (hJb s (by omega)) (hJb _ (hN s (by omega) c hc))
        rw [e]
        simp only [ob3]
        simp (disch := omega) only [gi_nI, nI_1, nI_clamp]
        refine ih (s + 1) cnt' _ tb' ks' (va_up K s j) (by omega) (by omega) (by omega) q1 (nb_step hb q2 q3 q4 q5) (fun u hu => ?_)
        by_cases hus : u = s
        · rw [hus, upd_self, va_up_self]
        · rw [upd_ne _ _ hus, va_up_ne _ _ hus]; exact hfr u (by omega)
/-- one column: the sorts told apart by where it leads, or too many -/
theorem splitBy_is (hnr : n ≤ rm) (hr : rm ≤ 3600) (hN : ∀ s, s < n → ∀ c, c < 8 → N s c < n) (hm : dm_N n N d_next) {J : Nat → Nat} {d_sort : AI} (hJ : ∀ s, s < n → d_sort s = nI (J s)) (hJb : ∀ s, s < n → J s < 64) {c F : Nat} (hc : c < 8) (hF : 5000 ≤ F) {table : AI} {turn : Int32} (hp : pn_ok table turn) (fr : AI) :
    ∃ cnt fr' tb t, p_X1_splitBy F rm (nI n) d_next d_sort fr table turn (nI c) = some (nI cnt, fr', d_sort, tb, nI t, nI cnt) ∧ pn_ok tb (nI t) ∧
      ((∃ K, cnt ≤ 60 ∧ sg_part n K cnt ∧ (∀ s u, s < n → u < n → (K s = K u ↔ (J s = J u ∧ J (N s c) = J (N u c)))) ∧ ∀ u, u < n → fr' u = nI (K u)) ∨ (cnt = 61 ∧ nb_many n (fun u => J u * 64 + J (N u c)))) := by
  unfold p_X1_splitBy
  obtain ⟨tb, t, e1, q1⟩ := forget_is hF hp (fun _ => 0)
  rw [e1]
  simp only [ob3]
  obtain ⟨fr', tb2, cnt, ks, K, s', e2, r0, r1, r2, r3, r4, r5⟩ := splitBy_loop hnr hr hN hm hJ hJb hc F 0 0 fr tb (fun _ => 0) (fun _ => 0) (Nat.zero_le _) (by omega) (by omega) q1 ⟨fun u h => by omega, fun i h => by omega⟩ (fun u h => by omega)
  rw [k_0, e2]
  refine ⟨cnt, fr', tb2, t, rfl, r1.ok, ?_⟩
  rcases Nat.lt_or_ge 60 cnt with q | q
  · exact Or.inr ⟨by omega, nb_many_of r2 r1 r4 q⟩
  · have hs : s' = n := by omega
    subst hs
    refine Or.inl ⟨K, q, ⟨fun s hs => (r2.1 s hs).1, r2.2⟩, fun s u hs hu => ?_, r3⟩
    rw [nb_iff r2 r1 hs hu]
    have a := hJb _ (hN s hs c hc)
    have b := hJb _ (hN u hu c hc)
    show J s * 64 + J (N s c) = J u * 64 + J (N u c) ↔ _
    omega
/-- sorts that are just what the machine accepts -/
def cf_fin (n : Nat) (N : Nat → Nat → Nat) (S : Nat → Bool) (c : Nat) (K : Nat → Nat) : Prop :=
  c ≤ 60 ∧ sg_part n K c ∧ sg_sy n S K ∧ sg_co n N S K ∧ ∀ s t, s < n → t < n → K s = K t → ∀ c, c < 8 → K (N s c) = K (N t c)
theorem nb_many_au (hN : ∀ s, s < n → ∀ c, c < 8 → N s c < n) {J : Nat → Nat} (hJ : sg_co n N S J) {c : Nat} (hc : c < 8) (h : nb_many n (fun u => J u * 64 + J (N u c))) : au_many n N S := by
  obtain ⟨f, h1, h2⟩ := h
  refine ⟨f, h1, fun i j hi hj hij e => h2 i j hi hj hij ?_⟩
  show J (f i) * 64 + J (N (f i) c) = J (f j) * 64 + J (N (f j) c)
  rw [hJ _ _ (h1 i hi) (h1 j hj) e, hJ _ _ (hN _ (h1 i hi) c hc) (hN _ (h1 j hj) c hc) (e.step hc)]
/-- the eight columns of a round: from J's sorts to K's -/
theorem columns_loop (hnr : n ≤ rm) (hr : rm ≤ 3600) (hN : ∀ s, s < n → ∀ c, c < 8 → N s c < n) (hm : dm_N n N d_next) {J : Nat → Nat} {F : Nat} (hF : 5000 ≤ F) :
    ∀ (f c a : Nat) (so fr tb : AI) (tn ct : Int32) (K : Nat → Nat), c ≤ 8 → 9 ≤ f + c → pn_ok tb tn → a ≤ 60 → sg_part n K a → sg_co n N S K → (∀ s u, s < n → u < n → K s = K u → J s = J u ∧ ∀ d, d < c → J (N s d) = J (N u d)) → (∀ s, s < n → so s = nI (K s)) →
      (∃ a' so' fr' tb' tn' ct' K', p_X1_tellApart_L18 F rm (nI n) d_next f (nI a) (nI c) so fr tb tn ct = some (nI a', so', fr', tb', tn', ct') ∧ pn_ok tb' tn' ∧ a' ≤ 60 ∧ sg_part n K' a' ∧ sg_co n N S K' ∧ (∀ s u, s < n → u < n → K' s = K' u → mm_al N J s u) ∧ ∀ s, s < n → so' s = nI (K' s)) ∨
      (∃ so' fr' tb' tn' ct', p_X1_tellApart_L18 F rm (nI n) d_next f (nI a) (nI c) so fr tb tn ct = some (nI 61, so', fr', tb', tn', ct') ∧ pn_ok tb' tn' ∧ au_many n N S) := by
  intro f
  induction f with
  | zero => intro c a so fr tb tn ct K h1 h2; omega
  | succ f ih =>
    intro c a so fr tb tn ct K hc hf hp ha hKp hKc hKJ hso
    rw [p_X1_tellApart_L18, k_8, ite_le (by omega) (by omega)]
    by_cases h8 : 8 ≤ c
    · rw [if_pos h8]
      exact Or.inl ⟨a, so, fr, tb, tn, ct, K, rfl, hp, ha, hKp, hKc, fun s u hs hu e => ⟨(hKJ s u hs hu e).1, fun d hd => (hKJ s u hs hu e).2 d (by omega)⟩, hso⟩
    · rw [if_neg h8, k_60, ite_lt (by omega) (by omega), if_neg (by omega)]
      obtain ⟨cnt, fr', tb', t, e, q1, q2⟩ := splitBy_is hnr hr hN hm hso (fun s hs => by have := hKp.1 s hs; omega) (show c < 8 by omega) hF hp fr
      rw [e]
      simp only [ob6]
      rw [nI_1]
      rcases q2 with ⟨K', r1, r2, r3, r4⟩ | ⟨r1, r2⟩
      · refine ih (c + 1) cnt fr' so tb' (nI t) (nI cnt) K' (by omega) (by omega) q1 r1 r2 (fun s u hs hu z => (r3 s u hs hu).mpr ⟨hKc s u hs hu z, hKc _ _ (hN s hs c (by omega)) (hN u hu c (by omega)) (z.step (by omega))⟩) (fun s u hs hu z => ?_) r4
        obtain ⟨z1, z2⟩ := (r3 s u hs hu).mp z
        obtain ⟨y1, y2⟩ := hKJ s u hs hu z1
        refine ⟨y1, fun d hd => ?_⟩
        by_cases hdc : d = c
        · rw [hdc]; exact (hKJ _ _ (hN s hs c (by omega)) (hN u hu c (by omega)) z2).1
        · exact y2 d (by omega)
      · subst r1
        right
        obtain ⟨G, rfl⟩ : ∃ G, f = G + 1 := ⟨f - 1, by omega⟩
        refine ⟨fr', so, tb', nI t, nI 61, ?_, q1, nb_many_au hN hKc (by omega) r2⟩
        rw [p_X1_tellApart_L18, k_8, ite_le (by omega) (by omega), k_60]
        by_cases h9 : 8 ≤ c + 1
        · rw [if_pos h9]
        · rw [if_neg h9, ite_lt (by omega) (by omega), if_pos (by omega)]
/-- the rounds -/
theorem rounds_loop (hnr : n ≤ rm) (hr : rm ≤ 3600) (hN : ∀ s, s < n → ∀ c, c < 8 → N s c < n) (hm : dm_N n N d_next) {F : Nat} (hF : 5000 ≤ F) :
    ∀ (f i a : Nat) (so fr tb : AI) (tn ct : Int32) (K : Nat → Nat), 62 ≤ f + i → i + 1 ≤ a → pn_ok tb tn → a ≤ 60 → sg_part n K a → sg_co n N S K → sg_sy n S K → (∀ s, s < n → so s = nI (K s)) →
      (∃ a' so' fr' tb' tn' ct' K', p_X1_tellApart_L7 F rm (nI n) d_next f (nI a) (nI i) so fr tb tn ct = some (.inr (nI a', so', fr', tb', tn', ct')) ∧ pn_ok tb' tn' ∧ cf_fin n N S a' K' ∧ ∀ s, s < n → so' s = nI (K' s)) ∨
      (∃ so' fr' tb' tn' ct', p_X1_tellApart_L7 F rm (nI n) d_next f (nI a) (nI i) so fr tb tn ct = some (.inr (nI 61, so', fr', tb', tn', ct')) ∧ pn_ok tb' tn' ∧ au_many n N S) := by
  intro f
  induction f with
  | zero => intro i a so fr tb tn ct K h1 h2 _ h3; omega
  | succ f ih =>
    intro i a so fr tb tn ct K hf hi hp ha hKp hKc hKs hso
    rw [p_X1_tellApart_L7, k_60, ite_lt (by omega) (by omega), if_neg (by omega), k_0]
    rcases columns_loop hnr hr hN hm (J := K) hF F 0 a so fr tb tn ct K (by omega) (by omega) hp ha hKp hKc (fun s u hs hu e => ⟨e, fun d hd => by omega⟩) hso with ⟨a', so', fr', tb', tn', ct', K', e, q1, q2, q3, q4, q5, q6⟩ | ⟨so', fr', tb', tn', ct', e, q1, q2⟩
    · rw [e]
      simp only [ob6]
      rw [ite_eq (by omega) (by omega), ite_le (by omega) (by omega)]
      have hf' : ∀ s u, s < n → u < n → K' s = K' u → K s = K u := fun s u hs hu z => (q5 s u hs hu z).1
      have hle := sg_le hKp q3 hf'
      have hKs' : sg_sy n S K' := fun s u hs hu z => hKs s u hs hu (hf' s u hs hu z)
      by_cases haa : a' = a
      · rw [if_pos haa]
        subst haa
        refine Or.inl ⟨a', so', fr', tb', tn', ct', K', rfl, q1, ⟨q2, q3, hKs', q4, fun s u hs hu z c hc => ?_⟩, q6⟩
        exact sg_same hKp q3 hf' (hN s hs c hc) (hN u hu c hc) ((q5 s u hs hu z).2 c hc)
      · rw [if_neg haa, if_pos q2, nI_1]
        exact ih (i + 1) a' so' fr' tb' tn' ct' K' (by omega) (by omega) q1 q2 q3 q4 hKs' q6
    · rw [e]
      simp only [ob6]
      rw [ite_eq (by omega) (by omega), if_neg (by omega), ite_le (by omega) (by omega), if_neg (by omega)]
      exact Or.inr ⟨so', fr', tb', tn', ct', rfl, q1, q2⟩
/-- the draft's states told apart, or too many sorts -/
theorem tellApart_is (hn0 : 0 < n) (hnr : n ≤ rm) (hr : rm ≤ 3600) (hN : ∀ s, s < n → ∀ c, c < 8 → N s c < n) (hm : dm_N n N d_next) (hS : mm_S n S d_says) {F : Nat} (hF : 5000 ≤ F) {table : AI} {turn : Int32} (hp : pn_ok table turn) (so fr : AI) :
    (∃ c K so' fr' tb' tn' ct', p_X1_tellApart F rm (nI n) d_next d_says so fr table turn = some (1, so', fr', tb', tn', ct') ∧ pn_ok tb' tn' ∧ cf_fin n N S c K ∧ ∀ s, s < n → so' s = nI (K s)) ∨
    (∃ so' fr' tb' tn' ct', p_X1_tellApart F rm (nI n) d_next d_says so fr table turn = some (0, so', fr', tb', tn', ct') ∧ pn_ok tb' tn' ∧ au_many n N S) := by
  unfold p_X1_tellApart
  obtain ⟨c, K, so1, tb1, t1, e1, q1, q2, q3, q4, q5⟩ := sortBySays_is hnr hr hS hF hp so
  rw [e1]
  simp only [ob5]
  have hc1 : 0 + 1 ≤ c := by have := q2.1 0 hn0; omega
  rcases rounds_loop hnr hr hN hm (S := S) hF F 0 c so1 fr tb1 (nI t1) (nI c) K (by omega) hc1 q1 (by omega) q2 (fun s u hs hu z => (q3 s u hs hu).mpr z.says) (fun s u hs hu z => (q3 s u hs hu).mp z) q4 with ⟨a', so', fr', tb', tn', ct', K', e, r1, r2, r3⟩ | ⟨so', fr', tb', tn', ct', e, r1, r2⟩
  · rw [k_0, e]
    simp only [obS6]
    have := r2.1
    rw [k_60, ite_lt (by omega) (by omega), if_neg (by omega), gb_in _ (by decide)]
    exact Or.inl ⟨a', K', so', fr', tb', tn', ct', rfl, r1, r2, r3⟩
  · rw [k_0, e]
    simp only [obS6]
    rw [k_60, ite_lt (by omega) (by omega), if_pos (by omega), gb_in _ (by decide)]
    exact Or.inr ⟨so', fr', tb', tn', ct', rfl, r1, r2⟩
end TELL
