/-! tells and alike -/
theorem row_of {goes told onBy toldBy : AI} (h : rl_row goes told onBy toldBy) : ∃ G T : Nat → Nat, (∀ i, i < 10 → goes i = nI (G i) ∧ onBy i = nI (G i) ∧ G i < 5) ∧ ∀ i, i < 5 → told i = nI (T i) ∧ toldBy i = nI (T i) ∧ T i < 3 := by
  refine ⟨fun i => (onBy i).toNatClampNeg, fun i => (toldBy i).toNatClampNeg, fun i hi => ?_, fun i hi => ?_⟩
  · obtain ⟨a, x, hx, e⟩ := h.1 i hi
    have : (onBy i).toNatClampNeg = x := by rw [e, nI_clamp (by omega)]
    show goes i = nI (onBy i).toNatClampNeg ∧ onBy i = nI (onBy i).toNatClampNeg ∧ (onBy i).toNatClampNeg < 5
    rw [this, a]
    exact ⟨e, e, hx⟩
  · obtain ⟨a, x, hx, e⟩ := h.2.1 i hi
    have : (toldBy i).toNatClampNeg = x := by rw [e, nI_clamp (by omega)]
    show told i = nI (toldBy i).toNatClampNeg ∧ toldBy i = nI (toldBy i).toNatClampNeg ∧ (toldBy i).toNatClampNeg < 3
    rw [this, a]
    exact ⟨e, e, hx⟩
def tlN (G : Nat → Nat) (u p l : Nat) : Nat := G (2 * p + dg l u)
def akN (G : Nat → Nat) (u v s l : Nat) : Nat := 5 * G (2 * (s / 5) + dg l u) + G (2 * (s % 5) + dg l v)
section TELLS
variable {G T : Nat → Nat} {goes told onBy toldBy : AI}
theorem tlN_lt (hG : ∀ i, i < 10 → goes i = nI (G i) ∧ onBy i = nI (G i) ∧ G i < 5) {u p l : Nat} (hp : p < 5) : tlN G u p l < 5 := (hG _ (by have := dg_lt l u; omega)).2.2
theorem akN_lt (hG : ∀ i, i < 10 → goes i = nI (G i) ∧ onBy i = nI (G i) ∧ G i < 5) {u v s l : Nat} (hs : s < 25) : akN G u v s l < 25 := by
  have a := (hG (2 * (s / 5) + dg l u) (by have := dg_lt l u; omega)).2.2
  have b := (hG (2 * (s % 5) + dg l v) (by have := dg_lt l v; omega)).2.2
  unfold akN
  omega
theorem tells_columns (hG : ∀ i, i < 10 → goes i = nI (G i) ∧ onBy i = nI (G i) ∧ G i < 5) {rm u p : Nat} (hr : rm ≤ 3600) (h2 : 5 ≤ rm) (hu : u < 3) (hp : p < 5) : ∀ (f l : Nat) (nx : AI), l ≤ 8 → 9 ≤ f + l → (∀ d, d < l → nx (p * 8 + d) = nI (tlN G u p d)) → ∃ nx', p_X4_makeTells_L17 (nI u) goes (nI p) rm (nI 5) f (nI l) nx = some nx' ∧ (∀ d, d < 8 → nx' (p * 8 + d) = nI (tlN G u p d)) ∧ ∀ i, i < p * 8 → nx' i = nx i := by
  intro f
  induction f with
  | zero => intro l nx h1 h2; omega
  | succ f ih =>
    intro l nx hl hf hq
    rw [p_X4_makeTells_L17, k_8, ite_le (by omega) (by omega)]
    by_cases h8 : 8 ≤ l
    · rw [if_pos h8]
      exact ⟨nx, rfl, fun d hd => hq d (by omega), fun _ _ => rfl⟩
    · have hd := dg_lt l u
      rw [if_neg h8, digitOf_is (by omega) (by omega), ob1_some, goesOn_is hp hd, ob1_some, dwrite_is h2 hr hp (by omega), ob1_some, nI_1, (hG (2 * p + dg l u) (by omega)).1]
      obtain ⟨nx', e, q1, q2⟩ := ih (l + 1) (upd nx (p * 8 + l) (nI (G (2 * p + dg l u)))) (by omega) (by omega) (fun d hd => by
        by_cases hdl : d = l
        · rw [hdl, upd_self]; rfl
        · rw [upd_ne _ _ (by omega)]; exact hq d (by omega))
      exact ⟨nx', e, q1, fun i hi => by rw [q2 i hi, upd_ne _ _ (by omega)]⟩
theorem tells_loop (hG : ∀ i, i < 10 → goes i = nI (G i) ∧ onBy i = nI (G i) ∧ G i < 5) (hT : ∀ i, i < 5 → told i = nI (T i) ∧ toldBy i = nI (T i) ∧ T i < 3) {rm u v F : Nat} (hF : 5000 ≤ F) (hr : rm ≤ 3600) (h2 : 5 ≤ rm) (hu : u < 3) (hv : v < 3) : ∀ (f p : Nat) (nx sy : AI), p ≤ 5 → 6 ≤ f + p → (∀ s d, s < p → d < 8 → nx (s * 8 + d) = nI (tlN G u s d)) → (∀ s, s < p → sy s = bI (decide (T s = v))) → ∃ nx' sy', p_X4_makeTells_L8 F (nI u) goes rm (nI 5) told (nI v) f (nI p) nx sy = some (nx', sy') ∧ dm_N 5 (tlN G u) nx' ∧ mm_S 5 (fun s => decide (T s = v)) sy' := by
  intro f
  induction f with
  | zero => intro p nx sy h1 h2; omega
  | succ f ih =>
    intro p nx sy hp hf h1 h3
    rw [p_X4_makeTells_L8, k_5, ite_le (by omega) (by omega)]
    by_cases h5 : 5 ≤ p
    · rw [if_pos h5]
      exact ⟨nx, sy, rfl, fun s hs d hd => h1 s d (by omega) hd, fun s hs => h3 s (by omega)⟩
    · obtain ⟨nx', e, q1, q2⟩ := tells_columns hG hr h2 hu (show p < 5 by omega) F 0 nx (by omega) (by omega) (fun d hd => by omega)
      have ht := hT p (by omega)
      rw [if_neg h5, k_0, ← k_5, k_5, e, ob1_some, toldAt_is (by omega), ob1_some, ht.1, ← k_0, ob1_tf, show decide (nI (T p) = nI v) = decide (T p = v) from decide_eq_decide.mpr (nI_eq (by omega) (by omega)), dwriteSays_is h2 hr (by omega), ob1_some, nI_1]
      refine ih (p + 1) nx' _ (by omega) (by omega) (fun s d hs hd => ?_) (fun s hs => ?_)
      · by_cases hsp : s = p
        · rw [hsp]; exact q1 d hd
        · rw [q2 _ (by omega)]; exact h1 s d (by omega) hd
      · by_cases hsp : s = p
        · rw [hsp, upd_self]
        · rw [upd_ne _ _ hsp]; exact h3 s (by omega)

theorem makeTells_is {rm F : Nat} (hr : rm ≤ 3600) (h32 : 32 ≤ rm) (hF : 5000 ≤ F) (hG : ∀ i, i < 10 → goes i = nI (G i) ∧ onBy i = nI (G i) ∧ G i < 5) (hT : ∀ i, i < 5 → told i = nI (T i) ∧ toldBy i = nI (T i) ∧ T i < 3) {u v : Nat} (hu : u < 3) (hv : v < 3) (st kd od nx sy nt so fr tb cn cs : AI) (tn cz : Int32) :
    ∃ nx' sy' nt' so' fr', dm_N 5 (tlN G u) nx' ∧ mm_S 5 (fun s => decide (T s = v)) sy' ∧ ∀ r st' kd' od' so2 fr2 tb' tn' ct' cn' cs' cz', p_X1_reduceInto F (rm_of rm 5) st kd od (nI 5) nx' sy' so' fr' tb tn cn cs cz = some (r, st', kd', od', so2, fr2, tb', tn', ct', cn', cs', cz') → p_X4_makeTells F rm st kd od (nI rm) nx sy nt so fr tb tn goes told cn cs cz (rm_of rm 5) (nI u) (nI v) = some (r, rm_of rm 5, st', kd', od', nI (rm_of rm 5), nI 5, nx', sy', nt', so2, fr2, tb', tn', ct', cn', cs', cz') := by
  unfold p_X4_makeTells
  obtain ⟨nx1, sy1, nt1, so1, fr1, e⟩ := start_is hr h32 (show 5 ≤ 3600 by omega) nx sy nt so fr
  obtain ⟨a1, a2, a3, a4⟩ := rm_of_le hr h32 (show 5 ≤ 3600 by omega)
  rw [k_5, e]
  simp only [ob8]
  obtain ⟨nx2, sy2, e2, q, q2⟩ := tells_loop hG hT hF a3 a1 hu hv F 0 nx1 sy1 (by omega) (by omega) (fun s d h => by omega) (fun s h => by omega)
  rw [k_0, e2]
  simp only [ob2]
  refine ⟨nx2, sy2, nt1, so1, fr1, q, q2, fun r st' kd' od' so2 fr2 tb' tn' ct' cn' cs' cz' h => ?_⟩
  rw [h]
  rfl
theorem tells_walk (hG : ∀ i, i < 10 → goes i = nI (G i) ∧ onBy i = nI (G i) ∧ G i < 5) (hT : ∀ i, i < 5 → told i = nI (T i) ∧ toldBy i = nI (T i) ∧ T i < 3) {u v F : Nat} (hF : 5000 ≤ F) (hu : u < 3) (hv : v < 3) {sf sfo : AI} (h1 : bo (bf (tlN G u) 0 0) 5 sfo) (h2 : bc (bf (tlN G u) 0 0) sf) (mn mh : AI) :
    ∃ m sf' mn' mh' sfo', p_X10_tells_L41 F (nI u) onBy toldBy (nI v) F (nI 0) (nI 1) sf mn mh sfo = some (nI m, sf', mn', mh', sfo') ∧ m ≤ 5 ∧ bf_end (tlN G u) 0 m ∧ mm_N m (bf_next (tlN G u) 0 m) mn' ∧ mm_S m (fun y => decide (T ((bf (tlN G u) 0 (8 * m)).2.1 y) = v)) mh' := by
  refine walk_is (S := fun y => decide (T y = v)) (P := fun j => j < 5) (L := fun x _ f l md sf mn sfo => p_X10_tells_L53 (nI x) (nI u) onBy f l md sf mn sfo) (by omega) (fun _ h => h) (by omega) hF (fun j hj l hl => tlN_lt hG hj) ?_ ?_ ?_ ?_ h1 h2 mn mh
  · intro x sf0 f md sf mn sfo
    show p_X10_tells_L53 _ _ _ _ _ _ _ _ _ = _
    rw [p_X10_tells_L53, k_8, ite_le (by omega) (by omega), if_pos (Nat.le_refl _)]
  · intro x sf0 jx f l md sf mn sfo hx hj _ hs hl
    show p_X10_tells_L53 _ _ _ _ _ _ _ _ _ = _
    have hd := dg_lt l u
    have hg := (hG (2 * jx + dg l u) (by omega)).2.1
    rw [p_X10_tells_L53, k_8, ite_le (by omega) (by omega), if_neg (by omega), digit_is (by omega) (by omega), k_2]
    simp (disch := omega) only [gi_nI, nI_clamp, hs, ob1_some, pk_mul, nI_add, hg, nI_1]
    rfl
  · intro f x md sf mn mh sfo h3 h4
    rw [p_X10_tells_L41, ite_le (by omega) (by omega), if_pos h3]
  · intro f x md sf mn mh sfo jx md' sf' mn' sfo' h3 h4 hj hs he hs'
    have he : p_X10_tells_L53 (nI x) (nI u) onBy F (nI 0) (nI md) sf mn sfo = some (nI md', sf', mn', sfo') := he
    have ht := hT jx hj
    rw [p_X10_tells_L41, ite_le (by omega) (by omega), if_neg (by omega), k_0, he]
    simp (disch := omega) only [ob4, gi_nI, nI_clamp, hs', ht.2.1, nI_1]
    rw [← k_0, ob1_tf, show decide (nI (T jx) = nI v) = decide (T jx = v) from decide_eq_decide.mpr (nI_eq (by omega) (by omega)), bI_and]

theorem op_tells {F rm : Nat} {rooms : Int32} (hF : 5000 ≤ F) (hd : rl_dr rm rooms) {tb : AI} {tn : Int32} (hp : pn_ok tb tn) {fn fs : AF} {fz ko nxo ha : AI} (hcl : rl_cls fn fs fz ko nxo ha) (hrow : rl_row goes told onBy toldBy) (st kd od nx sy nt so fr : AI) (dct pct : Int32) (md : Int32) (sf mn mh sfo jd jn fi oo ca : AI) (v1 v2 v3 : Int32) :
    ∃ r rm' st' kd' od' rooms' dct' nx' sy' nt' so' fr' tb' tn' pct' fn' fs' fz' ko' nxo' ha' md' sf' mn' mh' sfo' jd' jn' fi' oo' ca', p_X9_tells F goes told rm st kd od rooms dct nx sy nt so fr tb tn pct fn fs fz rm' v1 v2 v3 = some (r, rm', st', kd', od', rooms', dct', nx', sy', nt', so', fr', tb', tn', pct', fn', fs', fz') ∧ p_X10_tells F onBy toldBy ko nxo ha md sf mn mh sfo jd jn fi oo ca v1 v2 v3 = some (r, ko', nxo', ha', md', sf', mn', mh', sfo', jd', jn', fi', oo', ca') ∧ rl_cls fn' fs' fz' ko' nxo' ha' ∧ rl_dr rm' rooms' ∧ pn_ok tb' tn' ∧ rl_gr rm rm' := by
  obtain ⟨rfl, h32, hr⟩ := hd
  unfold p_X9_tells p_X10_tells
  obtain ⟨G, T, hG, hT⟩ := row_of hrow
  rcases isClaim_dec v1 with ⟨a1, a2⟩ | ⟨k, hk, rfl, a1, a2⟩
  · rw [a1, a2]
    exact ⟨-1, rm, st, kd, od, nI rm, dct, nx, sy, nt, so, fr, tb, tn, pct, fn, fs, fz, ko, nxo, ha, md, sf, mn, mh, sfo, jd, jn, fi, oo, ca, rfl, rfl, hcl, ⟨rfl, h32, hr⟩, hp, Or.inl rfl⟩
  rcases isNumber_dec v2 with ⟨b1, b2⟩ | ⟨u, hu, rfl, b1, b2⟩
  · rw [a1, a2, b1, b2]
    exact ⟨-1, rm, st, kd, od, nI rm, dct, nx, sy, nt, so, fr, tb, tn, pct, fn, fs, fz, ko, nxo, ha, md, sf, mn, mh, sfo, jd, jn, fi, oo, ca, rfl, rfl, hcl, ⟨rfl, h32, hr⟩, hp, Or.inl rfl⟩
  rcases isTelling_dec v3 with ⟨c1, c2⟩ | ⟨v, hv, rfl, c1, c2⟩
  · rw [a1, a2, b1, b2, c1, c2]
    exact ⟨-2, rm, st, kd, od, nI rm, dct, nx, sy, nt, so, fr, tb, tn, pct, fn, fs, fz, ko, nxo, ha, md, sf, mn, mh, sfo, jd, jn, fi, oo, ca, rfl, rfl, hcl, ⟨rfl, h32, hr⟩, hp, Or.inl rfl⟩
  obtain ⟨g1, g2, g3, g4⟩ := rm_of_le hr h32 (show 5 ≤ 3600 by omega)
  obtain ⟨nx', sy', nt', so', fr', q1, q2, q3⟩ := makeTells_is hr h32 hF hG hT hu hv st kd od nx sy nt so fr tb (fn k) (fs k) tn (fz k)
  obtain ⟨sf1, sfo0, sfo1, w1, w2, w3, w4⟩ := begun_is hF (show 0 < 5 by omega) (by omega) (tlN G u) sf sfo
  obtain ⟨m, sf2, mn', mh', sfo2, w5, hm5, hend, r1, r2⟩ := tells_walk hG hT hF hu hv w3 w4 mn mh
  obtain ⟨r, st', kd', od', so2, fr2, tb', tn', ct', cn', cs', cz', ko', nxo', ha', jd', jn', fi', oo', ca', e1, e2, s1, s2⟩ := made_glue (by omega) g1 g3 (fun s hs c _ => tlN_lt hG hs) q1 q2 hend.pos (by omega) hend.lt r1 r2 hk hF hp (bf_eq (S := fun s => decide (T s = v)) hend).sy ⟨fun h => absurd h (au_few (by omega)), fun h => absurd h (au_few (by omega))⟩ hcl st kd od so' fr' jd jn fi oo ca
  have e3 := q3 _ _ _ _ _ _ _ _ _ _ _ _ e1
  refine ⟨r, rm_of rm 5, st', kd', od', nI (rm_of rm 5), nI 5, nx', sy', nt', so2, fr2, tb', tn', ct', _, _, _, ko', nxo', ha', nI m, sf2, mn', mh', sfo2, jd', jn', fi', oo', ca', ?_, ?_, s2, ⟨rfl, by omega, g3⟩, s1, g4⟩
  · rw [a1, ob1_some, if_neg (by decide), b1, ob1_some, if_neg (by decide), c1, ob1_some, if_neg (by decide)]
    simp (disch := omega) only [gi_nI, nI_clamp]
    rw [e3]
    rfl
  · rw [a2, ob1_some, if_neg (by decide), b2, ob1_some, if_neg (by decide), c2, ob1_some, if_neg (by decide), w1]
    simp only [ob2]
    rw [k_0, w2]
    simp only [ob4]
    rw [w5]
    simp only [ob5]
    rw [e2]
    rfl

theorem alike_columns (hG : ∀ i, i < 10 → goes i = nI (G i) ∧ onBy i = nI (G i) ∧ G i < 5) {rm u v p q : Nat} (hr : rm ≤ 3600) (h2 : 25 ≤ rm) (hu : u < 3) (hv : v < 3) (hp : p < 5) (hq : q < 5) : ∀ (f l : Nat) (nx : AI), l ≤ 8 → 9 ≤ f + l → (∀ d, d < l → nx ((p * 5 + q) * 8 + d) = nI (akN G u v (p * 5 + q) d)) → ∃ nx', p_X4_makeAlike_L36 (nI u) goes (nI p) (nI v) (nI q) rm (nI 25) f (nI l) nx = some nx' ∧ (∀ d, d < 8 → nx' ((p * 5 + q) * 8 + d) = nI (akN G u v (p * 5 + q) d)) ∧ ∀ i, i < (p * 5 + q) * 8 → nx' i = nx i := by
  intro f
  induction f with
  | zero => intro l nx h1 h2; omega
  | succ f ih =>
    intro l nx hl hf h
    rw [p_X4_makeAlike_L36, k_8, ite_le (by omega) (by omega)]
    by_cases h8 : 8 ≤ l
    · rw [if_pos h8]
      exact ⟨nx, rfl, fun d hd => h d (by omega), fun _ _ => rfl⟩
    · have hd := dg_lt l u
      have hd2 := dg_lt l v
      have ha := (hG (2 * p + dg l u) (by omega))
      have hb := (hG (2 * q + dg l v) (by omega))
      rw [if_neg h8, digitOf_is (by omega) (by omega), ob1_some, goesOn_is hp hd, ob1_some, digitOf_is (by omega) (by omega), ob1_some, goesOn_is hq hd2, ob1_some, ha.1, hb.1, k_5, pk_mul, nI_add, pk_mul, nI_add, dwrite_is h2 hr (by omega) (by omega), ob1_some, nI_1]
      have ev : G (2 * p + dg l u) * 5 + G (2 * q + dg l v) = akN G u v (p * 5 + q) l := by
        unfold akN
        rw [show (p * 5 + q) / 5 = p by omega, show (p * 5 + q) % 5 = q by omega]
        omega
      obtain ⟨nx', e, q1, q2⟩ := ih (l + 1) (upd nx ((p * 5 + q) * 8 + l) (nI (G (2 * p + dg l u) * 5 + G (2 * q + dg l v)))) (by omega) (by omega) (fun d hd => by
        by_cases hdl : d = l
        · rw [hdl, upd_self, ev]
        · rw [upd_ne _ _ (by omega)]; exact h d (by omega))
      exact ⟨nx', e, q1, fun i hi => by rw [q2 i hi, upd_ne _ _ (by omega)]⟩
theorem alike_inner (hG : ∀ i, i < 10 → goes i = nI (G i) ∧ onBy i = nI (G i) ∧ G i < 5) (hT : ∀ i, i < 5 → told i = nI (T i) ∧ toldBy i = nI (T i) ∧ T i < 3) {rm u v p F : Nat} (hF : 5000 ≤ F) (hr : rm ≤ 3600) (h2 : 25 ≤ rm) (hu : u < 3) (hv : v < 3) (hp : p < 5) : ∀ (f q : Nat) (nx sy : AI), q ≤ 5 → 6 ≤ f + q → (∀ s d, s < p * 5 + q → d < 8 → nx (s * 8 + d) = nI (akN G u v s d)) → (∀ s, s < p * 5 + q → sy s = bI (decide (T (s / 5) = T (s % 5)))) → ∃ nx' sy', p_X4_makeAlike_L18 F (nI u) goes (nI p) (nI v) rm (nI 25) told f (nI q) nx sy = some (nx', sy') ∧ (∀ s d, s < p * 5 + 5 → d < 8 → nx' (s * 8 + d) = nI (akN G u v s d)) ∧ (∀ s, s < p * 5 + 5 → sy' s = bI (decide (T (s / 5) = T (s % 5)))) := by
  intro f
  induction f with
  | zero => intro q nx sy h1 h2; omega
  | succ f ih =>
    intro q nx sy hq hf h1 h3
    rw [p_X4_makeAlike_L18, k_5, ite_le (by omega) (by omega)]
    by_cases h5 : 5 ≤ q
    · rw [if_pos h5]
      exact ⟨nx, sy, rfl, fun s d hs hd => h1 s d (by omega) hd, fun s hs => h3 s (by omega)⟩
    · obtain ⟨nx', e, q1, q2⟩ := alike_columns hG hr h2 hu hv hp (show q < 5 by omega) F 0 nx (by omega) (by omega) (fun d hd => by omega)
      have ht := hT p (by omega)
      have ht2 := hT q (by omega)
      rw [if_neg h5, k_0, e, ob1_some, toldAt_is (by omega), ob1_some, toldAt_is (by omega), ob1_some, ht.1, ht2.1, ← k_0, ob1_tf, show decide (nI (T p) = nI (T q)) = decide (T p = T q) from decide_eq_decide.mpr (nI_eq (by omega) (by omega)), pk_mul, nI_add, dwriteSays_is h2 hr (by omega), ob1_some, nI_1]
      refine ih (q + 1) nx' _ (by omega) (by omega) (fun s d hs hd => ?_) (fun s hs => ?_)
      · by_cases hsp : s = p * 5 + q
        · rw [hsp]; exact q1 d hd
        · rw [q2 _ (by omega)]; exact h1 s d (by omega) hd
      · by_cases hsp : s = p * 5 + q
        · rw [hsp, upd_self, show (p * 5 + q) / 5 = p by omega, show (p * 5 + q) % 5 = q by omega]
        · rw [upd_ne _ _ hsp]; exact h3 s (by omega)
theorem alike_loop (hG : ∀ i, i < 10 → goes i = nI (G i) ∧ onBy i = nI (G i) ∧ G i < 5) (hT : ∀ i, i < 5 → told i = nI (T i) ∧ toldBy i = nI (T i) ∧ T i < 3) {rm u v F : Nat} (hF : 5000 ≤ F) (hr : rm ≤ 3600) (h2 : 25 ≤ rm) (hu : u < 3) (hv : v < 3) : ∀ (f p : Nat) (nx sy : AI), p ≤ 5 → 6 ≤ f + p → (∀ s d, s < p * 5 → d < 8 → nx (s * 8 + d) = nI (akN G u v s d)) → (∀ s, s < p * 5 → sy s = bI (decide (T (s / 5) = T (s % 5)))) → ∃ nx' sy', p_X4_makeAlike_L9 F (nI u) goes (nI v) rm (nI 25) told f (nI p) nx sy = some (nx', sy') ∧ dm_N 25 (akN G u v) nx' ∧ mm_S 25 (fun s => decide (T (s / 5) = T (s % 5))) sy' := by
  intro f
  induction f with
  | zero => intro p nx sy h1 h2; omega
  | succ f ih =>
    intro p nx sy hp hf h1 h3
    rw [p_X4_makeAlike_L9, k_5, ite_le (by omega) (by omega)]
    by_cases h5 : 5 ≤ p
    · rw [if_pos h5]
      exact ⟨nx, sy, rfl, fun s hs d hd => h1 s d (by omega) hd, fun s hs => h3 s (by omega)⟩
    · obtain ⟨nx', sy', e, q1, q2⟩ := alike_inner hG hT hF hr h2 hu hv (show p < 5 by omega) F 0 nx sy (by omega) (by omega) h1 h3
      rw [if_neg h5, k_0, e]
      simp only [ob2]
      rw [nI_1]
      exact ih (p + 1) nx' sy' (by omega) (by omega) (fun s d hs hd => q1 s d (by omega) hd) (fun s hs => q2 s (by omega))

theorem makeAlike_is {rm F : Nat} (hr : rm ≤ 3600) (h32 : 32 ≤ rm) (hF : 5000 ≤ F) (hG : ∀ i, i < 10 → goes i = nI (G i) ∧ onBy i = nI (G i) ∧ G i < 5) (hT : ∀ i, i < 5 → told i = nI (T i) ∧ toldBy i = nI (T i) ∧ T i < 3) {u v : Nat} (hu : u < 3) (hv : v < 3) (st kd od nx sy nt so fr tb cn cs : AI) (tn cz : Int32) :
    ∃ nx' sy' nt' so' fr', dm_N 25 (akN G u v) nx' ∧ mm_S 25 (fun s => decide (T (s / 5) = T (s % 5))) sy' ∧ ∀ r st' kd' od' so2 fr2 tb' tn' ct' cn' cs' cz', p_X1_reduceInto F (rm_of rm 25) st kd od (nI 25) nx' sy' so' fr' tb tn cn cs cz = some (r, st', kd', od', so2, fr2, tb', tn', ct', cn', cs', cz') → p_X4_makeAlike F rm st kd od (nI rm) nx sy nt so fr tb tn goes told cn cs cz (rm_of rm 25) (nI u) (nI v) = some (r, rm_of rm 25, st', kd', od', nI (rm_of rm 25), nI 25, nx', sy', nt', so2, fr2, tb', tn', ct', cn', cs', cz') := by
  unfold p_X4_makeAlike
  obtain ⟨nx1, sy1, nt1, so1, fr1, e⟩ := start_is hr h32 (show 25 ≤ 3600 by omega) nx sy nt so fr
  obtain ⟨a1, a2, a3, a4⟩ := rm_of_le hr h32 (show 25 ≤ 3600 by omega)
  rw [show (25 : Int32) = nI 25 from rfl, e]
  simp only [ob8]
  obtain ⟨nx2, sy2, e2, q, q2⟩ := alike_loop hG hT hF a3 a1 hu hv F 0 nx1 sy1 (by omega) (by omega) (fun s d h => by omega) (fun s h => by omega)
  rw [k_0, e2]
  simp only [ob2]
  refine ⟨nx2, sy2, nt1, so1, fr1, q, q2, fun r st' kd' od' so2 fr2 tb' tn' ct' cn' cs' cz' h => ?_⟩
  rw [h]
  rfl
theorem alike_walk (hG : ∀ i, i < 10 → goes i = nI (G i) ∧ onBy i = nI (G i) ∧ G i < 5) (hT : ∀ i, i < 5 → told i = nI (T i) ∧ toldBy i = nI (T i) ∧ T i < 3) {u v F : Nat} (hF : 5000 ≤ F) (hu : u < 3) (hv : v < 3) {sf sfo : AI} (h1 : bo (bf (akN G u v) 0 0) 25 sfo) (h2 : bc (bf (akN G u v) 0 0) sf) (mn mh : AI) :
    ∃ m sf' mn' mh' sfo', p_X10_alike_L30 F (nI u) (nI v) onBy toldBy F (nI 0) (nI 1) sf mn mh sfo = some (nI m, sf', mn', mh', sfo') ∧ m ≤ 25 ∧ bf_end (akN G u v) 0 m ∧ mm_N m (bf_next (akN G u v) 0 m) mn' ∧ mm_S m (fun y => (fun s => decide (T (s / 5) = T (s % 5))) ((bf (akN G u v) 0 (8 * m)).2.1 y)) mh' := by
  refine walk_is (S := fun s => decide (T (s / 5) = T (s % 5))) (L := fun x sf0 f l md sf mn sfo => p_X10_alike_L64 (nI u) sf0 (nI x) (nI v) onBy f l md sf mn sfo) (P := fun j => j < 25) (by omega) (fun _ h => h) (by omega) hF (fun j hj l hl => akN_lt hG hj) ?_ ?_ ?_ ?_ h1 h2 mn mh
  · intro x sf0 f md sf mn sfo
    show p_X10_alike_L64 _ _ _ _ _ _ _ _ _ _ _ = _
    rw [p_X10_alike_L64, k_8, ite_le (by omega) (by omega), if_pos (Nat.le_refl _)]
  · intro x sf0 jx f l md sf mn sfo hx hj hs0 _ hl
    show p_X10_alike_L64 _ _ _ _ _ _ _ _ _ _ _ = _
    have hd := dg_lt l u
    have hd2 := dg_lt l v
    have hg := (hG (2 * (jx / 5) + dg l u) (by omega)).2.1
    have hg2 := (hG (2 * (jx % 5) + dg l v) (by omega)).2.1
    rw [p_X10_alike_L64, k_8, ite_le (by omega) (by omega), if_neg (by omega), digit_is (by omega) (by omega), ob1_some, digit_is (by omega) (by omega), k_2, k_5]
    simp (disch := omega) only [nI_clamp, hs0]
    rw [pk_rem (a := jx) (d := 5) (by omega) (by omega) (by omega)]
    simp (disch := omega) only [nI_clamp, pk_div, gi_nI, ob1_some, pk_mul, nI_add, hg, hg2, nI_1]
    rfl
  · intro f x md sf mn mh sfo h3 h4
    rw [p_X10_alike_L30, ite_le (by omega) (by omega), if_pos h3]
  · intro f x md sf mn mh sfo jx md' sf' mn' sfo' h3 h4 hj hs he hs'
    have he : p_X10_alike_L64 (nI u) sf (nI x) (nI v) onBy F (nI 0) (nI md) sf mn sfo = some (nI md', sf', mn', sfo') := he
    have ht := hT (jx / 5) (by omega)
    have ht2 := hT (jx % 5) (by omega)
    rw [p_X10_alike_L30, ite_le (by omega) (by omega), if_neg (by omega), k_0, he, k_5]
    simp (disch := omega) only [nI_clamp, hs]
    rw [pk_rem (a := jx) (d := 5) (by omega) (by omega) (by omega)]
    simp (disch := omega) only [nI_clamp, pk_div, gi_nI, ob4, ht.2.1, ht2.2.1, nI_1]
    rw [← k_0, ob1_tf, show decide (nI (T (jx / 5)) = nI (T (jx % 5))) = decide (T (jx / 5) = T (jx % 5)) from decide_eq_decide.mpr (nI_eq (by omega) (by omega)), bI_and]

theorem op_alike {F rm : Nat} {rooms : Int32} (hF : 5000 ≤ F) (hd : rl_dr rm rooms) {tb : AI} {tn : Int32} (hp : pn_ok tb tn) {fn fs : AF} {fz ko nxo ha : AI} (hcl : rl_cls fn fs fz ko nxo ha) (hrow : rl_row goes told onBy toldBy) (st kd od nx sy nt so fr : AI) (dct pct : Int32) (md : Int32) (sf mn mh sfo jd jn fi oo ca : AI) (v1 v2 v3 : Int32) :
    ∃ r rm' st' kd' od' rooms' dct' nx' sy' nt' so' fr' tb' tn' pct' fn' fs' fz' ko' nxo' ha' md' sf' mn' mh' sfo' jd' jn' fi' oo' ca', p_X9_alike F goes told rm st kd od rooms dct nx sy nt so fr tb tn pct fn fs fz rm' v1 v2 v3 = some (r, rm', st', kd', od', rooms', dct', nx', sy', nt', so', fr', tb', tn', pct', fn', fs', fz') ∧ p_X10_alike F onBy toldBy ko nxo ha md sf mn mh sfo jd jn fi oo ca v1 v2 v3 = some (r, ko', nxo', ha', md', sf', mn', mh', sfo', jd', jn', fi', oo', ca') ∧ rl_cls fn' fs' fz' ko' nxo' ha' ∧ rl_dr rm' rooms' ∧ pn_ok tb' tn' ∧ rl_gr rm rm' := by
  obtain ⟨rfl, h32, hr⟩ := hd
  unfold p_X9_alike p_X10_alike
  obtain ⟨G, T, hG, hT⟩ := row_of hrow
  rcases isClaim_dec v1 with ⟨a1, a2⟩ | ⟨k, hk, rfl, a1, a2⟩
  · rw [a1, a2]
    exact ⟨-1, rm, st, kd, od, nI rm, dct, nx, sy, nt, so, fr, tb, tn, pct, fn, fs, fz, ko, nxo, ha, md, sf, mn, mh, sfo, jd, jn, fi, oo, ca, rfl, rfl, hcl, ⟨rfl, h32, hr⟩, hp, Or.inl rfl⟩
  rcases areTwo_dec v2 v3 with ⟨b1, b2⟩ | ⟨u, v, hu, hv, huv, rfl, rfl, b1, b2⟩
  · rw [a1, a2, b1, b2]
    exact ⟨-1, rm, st, kd, od, nI rm, dct, nx, sy, nt, so, fr, tb, tn, pct, fn, fs, fz, ko, nxo, ha, md, sf, mn, mh, sfo, jd, jn, fi, oo, ca, rfl, rfl, hcl, ⟨rfl, h32, hr⟩, hp, Or.inl rfl⟩
  obtain ⟨g1, g2, g3, g4⟩ := rm_of_le hr h32 (show 25 ≤ 3600 by omega)
  obtain ⟨nx', sy', nt', so', fr', q1, q2, q3⟩ := makeAlike_is hr h32 hF hG hT hu hv st kd od nx sy nt so fr tb (fn k) (fs k) tn (fz k)
  obtain ⟨sf1, sfo0, sfo1, w1, w2, w3, w4⟩ := begun_is hF (show 0 < 25 by omega) (by omega) (akN G u v) sf sfo
  obtain ⟨m, sf2, mn', mh', sfo2, w5, hm5, hend, r1, r2⟩ := alike_walk hG hT hF hu hv w3 w4 mn mh
  obtain ⟨r, st', kd', od', so2, fr2, tb', tn', ct', cn', cs', cz', ko', nxo', ha', jd', jn', fi', oo', ca', e1, e2, s1, s2⟩ := made_glue (by omega) g1 g3 (fun s hs c _ => akN_lt hG hs) q1 q2 hend.pos (by omega) hend.lt r1 r2 hk hF hp (bf_eq (S := fun s => decide (T (s / 5) = T (s % 5))) hend).sy ⟨fun h => absurd h (au_few (by omega)), fun h => absurd h (au_few (by omega))⟩ hcl st kd od so' fr' jd jn fi oo ca
  have e3 := q3 _ _ _ _ _ _ _ _ _ _ _ _ e1
  refine ⟨r, rm_of rm 25, st', kd', od', nI (rm_of rm 25), nI 25, nx', sy', nt', so2, fr2, tb', tn', ct', _, _, _, ko', nxo', ha', nI m, sf2, mn', mh', sfo2, jd', jn', fi', oo', ca', ?_, ?_, s2, ⟨rfl, by omega, g3⟩, s1, g4⟩
  · rw [a1, ob1_some, if_neg (by decide), b1, ob1_some, if_neg (by decide)]
    simp (disch := omega) only [gi_nI, nI_clamp]
    rw [e3]
    rfl
  · rw [a2, ob1_some, if_neg (by decide), b2, ob1_some, if_neg (by decide), w1]
    simp only [ob2]
    rw [k_0, w2]
    simp only [ob4]
    rw [w5]
    simp only [ob5]
    rw [e2]
    rfl
end TELLS
