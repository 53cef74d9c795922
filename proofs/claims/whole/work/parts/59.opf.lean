/-! sum and is -/
def smv (s a b c : Nat) : Nat := if s = 2 then 2 else if b + c ≤ 2 * s + a ∧ 2 * s + a ≤ b + c + 1 then 2 * s + a - b - c else 2
def smN (u v s d : Nat) : Nat := smv s (dg d (3 - u - v)) (dg d u) (dg d v)
theorem smv_lt {s a b c : Nat} : smv s a b c < 3 := by
  unfold smv
  split
  · omega
  · split <;> omega
theorem sum_cf : ∀ s, s < 2 → ∀ a, a < 2 → ∀ b, b < 2 → ∀ c, c < 2 → (if (((2 : Int32) * nI s) + ((nI a - nI b) - nI c)) = 0 then some (((2 : Int32) * nI s) + ((nI a - nI b) - nI c)) else (if (((2 : Int32) * nI s) + ((nI a - nI b) - nI c)) = (1 : Int32) then some (((2 : Int32) * nI s) + ((nI a - nI b) - nI c)) else some (2 : Int32))) = some (nI (smv s a b c)) := by decide +kernel
theorem sum_mf : ∀ s, s < 3 → ∀ a, a < 2 → ∀ b, b < 2 → ∀ c, c < 2 → (if nI s = (2 : Int32) then some (2 : Int32) else ob1 (p_X10_within (((((2 : Int32) * nI s) + nI a) - nI b) - nI c) (0 : Int32) (1 : Int32)) (fun r_87 => (if r_87 = 0 then some (2 : Int32) else some (((((2 : Int32) * nI s) + nI a) - nI b) - nI c)))) = some (nI (smv s a b c)) := by decide +kernel
theorem third_is {u v : Nat} (hu : u < 3) (hv : v < 3) (huv : u ≠ v) : ((3 : Int32) - nI u) - nI v = nI (3 - u - v) := by
  rw [k_3, pk_sub (by omega), pk_sub (by omega)]
theorem sum_leads {rm u v l : Nat} (hr : rm ≤ 3600) (h2 : 3 ≤ rm) (hl : l < 8) {a b c : Nat} (ha : a < 2) (hb : b < 2) (hc : c < 2) : ∀ (f s : Nat) (nx : AI), s ≤ 2 → 3 ≤ f + s → (∀ t, t < s → nx (t * 8 + l) = nI (smv t a b c)) → ∃ nx', p_X4_makeSum_L48 (nI a) (nI b) (nI c) rm (nI 3) (nI l) f (nI s) nx = some nx' ∧ (∀ t, t < 2 → nx' (t * 8 + l) = nI (smv t a b c)) ∧ ∀ t d, d < 8 → d ≠ l → nx' (t * 8 + d) = nx (t * 8 + d) := by
  intro f
  induction f with
  | zero => intro s nx h1 h2; omega
  | succ f ih =>
    intro s nx hs hf h
    rw [p_X4_makeSum_L48]
    simp only [show ((2 : Int32) ≤ nI s) = (nI 2 ≤ nI s) from rfl]
    rw [ite_le (by omega) (by omega)]
    by_cases h8 : 2 ≤ s
    · rw [if_pos h8]
      exact ⟨nx, rfl, fun t ht => h t (by omega), fun _ _ _ _ => rfl⟩
    · rw [if_neg h8, sum_cf s (by omega) a ha b hb c hc, ob1_some, dwrite_is h2 hr (by omega) hl, ob1_some, nI_1]
      obtain ⟨nx', e, q1, q2⟩ := ih (s + 1) (upd nx (s * 8 + l) (nI (smv s a b c))) (by omega) (by omega) (fun t ht => by
        by_cases hts : t = s
        · rw [hts, upd_self]
        · rw [upd_ne _ _ (by omega)]; exact h t (by omega))
      exact ⟨nx', e, q1, fun t d hd hdl => by rw [q2 t d hd hdl, upd_ne _ _ (by omega)]⟩
theorem sum_columns {rm u v F : Nat} (hF : 5000 ≤ F) (hr : rm ≤ 3600) (h2 : 3 ≤ rm) (hu : u < 3) (hv : v < 3) (huv : u ≠ v) : ∀ (f l : Nat) (nx : AI), l ≤ 8 → 9 ≤ f + l → (∀ s d, s < 3 → d < l → nx (s * 8 + d) = nI (smN u v s d)) → ∃ nx', p_X4_makeSum_L15 F (nI u) (nI v) rm (nI 3) f (nI l) nx = some nx' ∧ dm_N 3 (smN u v) nx' := by
  intro f
  induction f with
  | zero => intro l nx h1 h2; omega
  | succ f ih =>
    intro l nx hl hf h
    rw [p_X4_makeSum_L15, third_is hu hv huv, k_8, ite_le (by omega) (by omega)]
    by_cases h8 : 8 ≤ l
    · rw [if_pos h8]
      exact ⟨nx, rfl, fun s hs d hd => h s d hs (by omega)⟩
    · obtain ⟨nx', e, q1, q2⟩ := sum_leads (u := u) (v := v) hr h2 (show l < 8 by omega) (dg_lt l (3 - u - v)) (dg_lt l u) (dg_lt l v) F 0 nx (by omega) (by omega) (fun t ht => by omega)
      rw [if_neg h8, digitOf_is (by omega) (by omega), ob1_some, digitOf_is (by omega) (by omega), ob1_some, digitOf_is (by omega) (by omega), ob1_some, k_0, e, ob1_some, k_2, dwrite_is h2 hr (by omega) (by omega), ob1_some, nI_1]
      refine ih (l + 1) _ (by omega) (by omega) (fun s d hs hd => ?_)
      by_cases hdl : d = l
      · subst hdl
        by_cases hs2 : s = 2
        · subst hs2
          rw [upd_self]; rfl
        · rw [upd_ne _ _ (by omega)]; exact q1 s (by omega)
      · rw [upd_ne _ _ (by omega), q2 s d (by omega) hdl]; exact h s d hs (by omega)
theorem sum_says {rm : Nat} (hr : rm ≤ 3600) (h2 : 3 ≤ rm) : ∀ (f s : Nat) (sy : AI), s ≤ 3 → 4 ≤ f + s → (∀ t, t < s → sy t = bI (decide (t = 0))) → ∃ sy', p_X4_makeSum_L117 rm (nI 3) f (nI s) sy = some sy' ∧ mm_S 3 (fun t => decide (t = 0)) sy' := by
  intro f
  induction f with
  | zero => intro s sy h1 h2; omega
  | succ f ih =>
    intro s sy hs hf h
    rw [p_X4_makeSum_L117, k_3, ite_le (by omega) (by omega)]
    by_cases h3 : 3 ≤ s
    · rw [if_pos h3]
      exact ⟨sy, rfl, fun t ht => h t (by omega)⟩
    · rw [if_neg h3, ob1_tf, show decide (nI s = (0 : Int32)) = decide (s = 0) from by
        rw [show (0 : Int32) = nI 0 from rfl]
        exact decide_eq_decide.mpr (nI_eq (by omega) (by omega)), dwriteSays_is h2 hr (by omega), ob1_some, nI_1]
      refine ih (s + 1) _ (by omega) (by omega) (fun t ht => ?_)
      by_cases hts : t = s
      · rw [hts, upd_self]
      · rw [upd_ne _ _ hts]; exact h t (by omega)

theorem makeSum_is {rm F : Nat} (hr : rm ≤ 3600) (h32 : 32 ≤ rm) (hF : 5000 ≤ F) {u v : Nat} (hu : u < 3) (hv : v < 3) (huv : u ≠ v) (st kd od nx sy nt so fr tb cn cs : AI) (tn cz : Int32) :
    ∃ nx' sy' nt' so' fr', dm_N 3 (smN u v) nx' ∧ mm_S 3 (fun s => decide (s = 0)) sy' ∧ ∀ r st' kd' od' so2 fr2 tb' tn' ct' cn' cs' cz', p_X1_reduceInto F (rm_of rm 3) st kd od (nI 3) nx' sy' so' fr' tb tn cn cs cz = some (r, st', kd', od', so2, fr2, tb', tn', ct', cn', cs', cz') → p_X4_makeSum F rm st kd od (nI rm) nx sy nt so fr tb tn cn cs cz (rm_of rm 3) (nI u) (nI v) = some (r, rm_of rm 3, st', kd', od', nI (rm_of rm 3), nI 3, nx', sy', nt', so2, fr2, tb', tn', ct', cn', cs', cz') := by
  unfold p_X4_makeSum
  obtain ⟨nx1, sy1, nt1, so1, fr1, e⟩ := start_is hr h32 (show 3 ≤ 3600 by omega) nx sy nt so fr
  obtain ⟨a1, a2, a3, a4⟩ := rm_of_le hr h32 (show 3 ≤ 3600 by omega)
  rw [k_3, e]
  simp only [ob8]
  obtain ⟨nx2, e2, q⟩ := sum_columns hF a3 a1 hu hv huv F 0 nx1 (by omega) (by omega) (fun s d _ h => by omega)
  obtain ⟨sy2, e3, q2⟩ := sum_says a3 a1 F 0 sy1 (by omega) (by omega) (fun s h => by omega)
  rw [k_0, e2, ob1_some, e3, ob1_some]
  refine ⟨nx2, sy2, nt1, so1, fr1, q, q2, fun r st' kd' od' so2 fr2 tb' tn' ct' cn' cs' cz' h => ?_⟩
  rw [h]
  rfl
theorem msum_letters {u v s : Nat} (hu : u < 3) (hv : v < 3) (huv : u ≠ v) (hs : s < 3) : ∀ (f l : Nat) (mn : AI), l ≤ 8 → 9 ≤ f + l → (∀ d, d < l → mn (8 * s + d) = nI (smN u v s d)) → ∃ mn', p_X10_sum_L34 (nI u) (nI v) (nI s) f (nI l) mn = some mn' ∧ (∀ d, d < 8 → mn' (8 * s + d) = nI (smN u v s d)) ∧ ∀ i, i < 8 * s → mn' i = mn i := by
  intro f
  induction f with
  | zero => intro l mn h1 h2; omega
  | succ f ih =>
    intro l mn hl hf hq
    rw [p_X10_sum_L34, third_is hu hv huv, k_8, ite_le (by omega) (by omega)]
    by_cases h8 : 8 ≤ l
    · rw [if_pos h8]
      exact ⟨mn, rfl, fun d hd => hq d (by omega), fun _ _ => rfl⟩
    · rw [if_neg h8, digit_is (by omega) (by omega), ob1_some, digit_is (by omega) (by omega), ob1_some, digit_is (by omega) (by omega), ob1_some, sum_mf s hs _ (dg_lt l (3 - u - v)) _ (dg_lt l u) _ (dg_lt l v), ob1_some, leads_is (by omega) (by omega), ob1_some, nI_1]
      obtain ⟨mn', e, q1, q2⟩ := ih (l + 1) (upd mn (8 * s + l) (nI (smN u v s l))) (by omega) (by omega) (fun d hd => by
        by_cases hdl : d = l
        · rw [hdl, upd_self]
        · rw [upd_ne _ _ (by omega)]; exact hq d (by omega))
      exact ⟨mn', e, q1, fun i hi => by rw [q2 i hi, upd_ne _ _ (by omega)]⟩
theorem msum_loop {u v F : Nat} (hF : 5000 ≤ F) (hu : u < 3) (hv : v < 3) (huv : u ≠ v) : ∀ (f s : Nat) (mn mh : AI), s ≤ 3 → 4 ≤ f + s → (∀ t d, t < s → d < 8 → mn (8 * t + d) = nI (smN u v t d)) → (∀ t, t < s → mh t = bI (decide (t = 0))) → ∃ mn' mh', p_X10_sum_L25 F (nI u) (nI v) f (nI s) mn mh = some (mn', mh') ∧ mm_N 3 (smN u v) mn' ∧ mm_S 3 (fun t => decide (t = 0)) mh' := by
  intro f
  induction f with
  | zero => intro s mn mh h1 h2; omega
  | succ f ih =>
    intro s mn mh hs hf h1 h2
    rw [p_X10_sum_L25, k_3, ite_le (by omega) (by omega)]
    by_cases hms : 3 ≤ s
    · rw [if_pos hms]
      exact ⟨mn, mh, rfl, fun t ht d hd => h1 t d (by omega) hd, fun t ht => h2 t (by omega)⟩
    · obtain ⟨mn', e, q1, q2⟩ := msum_letters hu hv huv (show s < 3 by omega) F 0 mn (by omega) (by omega) (fun d hd => by omega)
      have e' : p_X10_sum_L34 (nI u) (nI v) (nI s) F (0 : Int32) mn = some mn' := e
      rw [if_neg hms, e', ob1_some, ob1_tf, show decide (nI s = (0 : Int32)) = decide (s = 0) from by
        rw [show (0 : Int32) = nI 0 from rfl]
        exact decide_eq_decide.mpr (nI_eq (by omega) (by omega))]
      simp (disch := omega) only [gi_nI, nI_clamp, nI_1, bI_and]
      refine ih (s + 1) mn' _ (by omega) (by omega) (fun t d ht hd => ?_) (fun t ht => ?_)
      · by_cases hts : t = s
        · rw [hts]; exact q1 d hd
        · rw [q2 _ (by omega)]; exact h1 t d (by omega) hd
      · by_cases hts : t = s
        · rw [hts, upd_self]
        · rw [upd_ne _ _ hts]; exact h2 t (by omega)

theorem op_sum {F rm : Nat} {rooms : Int32} (hF : 5000 ≤ F) (hd : rl_dr rm rooms) {tb : AI} {tn : Int32} (hp : pn_ok tb tn) {fn fs : AF} {fz ko nxo ha : AI} (hcl : rl_cls fn fs fz ko nxo ha)  (st kd od nx sy nt so fr : AI) (dct pct : Int32) (md : Int32) (mn mh jd jn fi oo ca : AI) (v1 v2 v3 : Int32) :
    ∃ r rm' st' kd' od' rooms' dct' nx' sy' nt' so' fr' tb' tn' pct' fn' fs' fz' ko' nxo' ha' md' mn' mh' jd' jn' fi' oo' ca', p_X9_sum F rm st kd od rooms dct nx sy nt so fr tb tn pct fn fs fz rm' v1 v2 v3 = some (r, rm', st', kd', od', rooms', dct', nx', sy', nt', so', fr', tb', tn', pct', fn', fs', fz') ∧ p_X10_sum F ko nxo ha md mn mh jd jn fi oo ca v1 v2 v3 = some (r, ko', nxo', ha', md', mn', mh', jd', jn', fi', oo', ca') ∧ rl_cls fn' fs' fz' ko' nxo' ha' ∧ rl_dr rm' rooms' ∧ pn_ok tb' tn' ∧ rl_gr rm rm' := by
  obtain ⟨rfl, h32, hr⟩ := hd
  unfold p_X9_sum p_X10_sum
  rcases isClaim_dec v1 with ⟨a1, a2⟩ | ⟨k, hk, rfl, a1, a2⟩
  · rw [a1, a2]
    exact ⟨-1, rm, st, kd, od, nI rm, dct, nx, sy, nt, so, fr, tb, tn, pct, fn, fs, fz, ko, nxo, ha, md, mn, mh, jd, jn, fi, oo, ca, rfl, rfl, hcl, ⟨rfl, h32, hr⟩, hp, Or.inl rfl⟩
  rcases areTwo_dec v2 v3 with ⟨b1, b2⟩ | ⟨u, v, hu, hv, huv, rfl, rfl, b1, b2⟩
  · rw [a1, a2, b1, b2]
    exact ⟨-1, rm, st, kd, od, nI rm, dct, nx, sy, nt, so, fr, tb, tn, pct, fn, fs, fz, ko, nxo, ha, md, mn, mh, jd, jn, fi, oo, ca, rfl, rfl, hcl, ⟨rfl, h32, hr⟩, hp, Or.inl rfl⟩
  obtain ⟨g1, g2, g3, g4⟩ := rm_of_le hr h32 (show 3 ≤ 3600 by omega)
  obtain ⟨nx', sy', nt', so', fr', q1, q2, q3⟩ := makeSum_is hr h32 hF hu hv huv st kd od nx sy nt so fr tb (fn k) (fs k) tn (fz k)
  obtain ⟨mn', mh', w1, r1, r2⟩ := msum_loop hF hu hv huv F 0 mn mh (by omega) (by omega) (fun t d h => by omega) (fun t h => by omega)
  obtain ⟨r, st', kd', od', so2, fr2, tb', tn', ct', cn', cs', cz', ko', nxo', ha', jd', jn', fi', oo', ca', e1, e2, s1, s2⟩ := made_glue (by omega) g1 g3 (fun s hs c _ => smv_lt) q1 q2 (by omega) (by omega) (fun s hs c _ => smv_lt) r1 r2 hk hF hp au_eq.rf ⟨fun h => h, fun h => h⟩ hcl st kd od so' fr' jd jn fi oo ca
  have e3 := q3 _ _ _ _ _ _ _ _ _ _ _ _ e1
  refine ⟨r, rm_of rm 3, st', kd', od', nI (rm_of rm 3), nI 3, nx', sy', nt', so2, fr2, tb', tn', ct', _, _, _, ko', nxo', ha', nI 3, mn', mh', jd', jn', fi', oo', ca', ?_, ?_, s2, ⟨rfl, by omega, g3⟩, s1, g4⟩
  · rw [a1, ob1_some, if_neg (by decide), b1, ob1_some, if_neg (by decide)]
    simp (disch := omega) only [gi_nI, nI_clamp]
    rw [e3]
    rfl
  · rw [a2, ob1_some, if_neg (by decide), b2, ob1_some, if_neg (by decide), k_0, w1]
    simp only [ob2]
    rw [k_3, e2]
    rfl
def fx (c z s b : Nat) : Nat := if s < z ∧ b = c / 2 ^ (z - 1 - s) % 2 then s + 1 else if s = 0 ∧ b = 0 then 0 else z + 1
def sz_ok (c z : Nat) : Prop := c / 2 ^ z = 0 ∧ ∀ e, e < z → c / 2 ^ e ≠ 0
theorem sz_ok.uniq {c z z' : Nat} (h : sz_ok c z) (h' : sz_ok c z') : z = z' := by
  rcases Nat.lt_trichotomy z z' with q | q | q
  · exact absurd h.1 (h'.2 z q)
  · exact q
  · exact absurd h'.1 (h.2 z' q)
theorem sz_half (c e : Nat) : c / 2 ^ (e + 1) = c / 2 ^ e / 2 := by rw [Nat.pow_succ, Nat.div_div_eq_div_mul]
theorem sz_ok.top {c z : Nat} (h : sz_ok c z) (hz : 0 < z) : c / 2 ^ (z - 1) % 2 = 1 := by
  have a := h.2 (z - 1) (by omega)
  have b := sz_half c (z - 1)
  rw [show z - 1 + 1 = z by omega, h.1] at b
  omega
theorem fx_lt {c z s b : Nat} (hs : s < z + 2) : fx c z s b < z + 2 := by
  unfold fx
  split
  · omega
  · split <;> omega
theorem digitsOf_loop {c : Nat} (hc : c ≤ 1000000) : ∀ (f d : Nat), d ≤ 20 → 21 ≤ f + d → (∀ e, e < d → c / 2 ^ e ≠ 0) → ∃ z, z ≤ 20 ∧ p_X4_digitsOf_L2 (nI c) f (nI d) = some (nI z) ∧ sz_ok c z := by
  intro f
  induction f with
  | zero => intro d h1 h2; omega
  | succ f ih =>
    intro d hd hf h
    have hle : c / 2 ^ d ≤ c := Nat.div_le_self _ _
    rw [p_X4_digitsOf_L2, shr_u (by omega) (by omega), show (20 : Int32) = nI 20 from rfl, k_0, ite_le (by omega) (by omega), ite_eq (by omega) (by omega)]
    by_cases h20 : 20 ≤ d
    · have : d = 20 := by omega
      subst this
      rw [if_pos h20]
      exact ⟨20, by omega, rfl, Nat.div_eq_of_lt (by omega), h⟩
    · rw [if_neg h20]
      by_cases hz : c / 2 ^ d = 0
      · rw [if_pos hz]
        exact ⟨d, hd, rfl, hz, h⟩
      · rw [if_neg hz, nI_1]
        refine ih (d + 1) (by omega) (by omega) (fun e he => ?_)
        by_cases hed : e = d
        · rw [hed]; exact hz
        · exact h e (by omega)
theorem size_loop {c : Nat} (hc : c ≤ 1000000) : ∀ (f d : Nat), d ≤ 20 → 21 ≤ f + d → (∀ e, e < d → c / 2 ^ e ≠ 0) → ∃ z, z ≤ 20 ∧ p_X10_is_L35 f (nI d) (nI (c / 2 ^ d)) = some (nI z) ∧ sz_ok c z := by
  intro f
  induction f with
  | zero => intro d h1 h2; omega
  | succ f ih =>
    intro d hd hf h
    have hle : c / 2 ^ d ≤ c := Nat.div_le_self _ _
    rw [p_X10_is_L35, k_0, ite_le (by omega) (by omega)]
    by_cases hz : c / 2 ^ d ≤ 0
    · rw [if_pos hz]
      exact ⟨d, hd, rfl, Nat.le_zero.mp hz, h⟩
    · have h20 : d ≠ 20 := fun q => by
        rw [q, Nat.div_eq_of_lt (by omega)] at hz
        omega
      rw [if_neg hz, nI_1, k_2, pk_div (by omega) (by omega) (by omega), ← sz_half]
      refine ih (d + 1) (by omega) (by omega) (fun e he => ?_)
      by_cases hed : e = d
      · rw [hed]; omega
      · exact h e (by omega)
section FIXED
variable {c z u : Nat}
theorem fx_bit (hc : c ≤ 1000000) (hz : z ≤ 20) {s : Nat} (hs : s < z) : ((nI c >>> (((nI z - (1 : Int32)) - nI s) &&& (31 : Int32))) &&& (1 : Int32)) = nI (c / 2 ^ (z - 1 - s) % 2) := by
  have hle : c / 2 ^ (z - 1 - s) ≤ c := Nat.div_le_self _ _
  rw [show (1 : Int32) = nI 1 from rfl, pk_sub (by omega), pk_sub (by omega), shr_u (by omega) (by omega), show nI 1 = (1 : Int32) from rfl, and_1 (by omega)]
theorem afterDigit_is (hc : c ≤ 1000000) (hz : z ≤ 20) (hs0 : sz_ok c z) {s b : Nat} (hs : s ≤ z) (hb : b < 2) : p_X4_afterDigit (nI s) (nI b) (nI c) (nI z) = some (nI (fx c z s b)) := by
  unfold p_X4_afterDigit fx
  have hm := Nat.mod_lt (c / 2 ^ (z - 1 - s)) (show 0 < 2 by omega)
  have key : ob1 ((if nI z ≤ nI s then some (0 : Int32) else (if ((nI c >>> (((nI z - (1 : Int32)) - nI s) &&& (31 : Int32))) &&& (1 : Int32)) = nI b then some (1 : Int32) else some (0 : Int32)))) (fun j0_12 => (if j0_12 = 0 then some (nI z + (1 : Int32)) else some (nI s + (1 : Int32)))) = some (nI (if s < z ∧ b = c / 2 ^ (z - 1 - s) % 2 then s + 1 else z + 1)) := by
    rw [ite_le (by omega) (by omega)]
    by_cases hzs : z ≤ s
    · rw [if_pos hzs, ob1_some, if_pos rfl, if_neg (by omega), nI_1]
    · rw [if_neg hzs, fx_bit hc hz (by omega), ite_eq (by omega) (by omega)]
      by_cases hbb : c / 2 ^ (z - 1 - s) % 2 = b
      · rw [if_pos hbb, ob1_some, if_neg (by decide), if_pos ⟨by omega, hbb.symm⟩, nI_1]
      · rw [if_neg hbb, ob1_some, if_pos rfl, if_neg (fun q => hbb q.2.symm), nI_1]
  rw [key]
  by_cases h0 : s = 0
  · subst h0
    rw [if_pos (show nI 0 = (0 : Int32) from rfl)]
    by_cases hb0 : b = 0
    · subst hb0
      rw [if_pos (show nI 0 = (0 : Int32) from rfl)]
      have : ¬ (0 < z ∧ 0 = c / 2 ^ (z - 1 - 0) % 2) := fun q => by
        have := hs0.top q.1
        rw [Nat.sub_zero] at q
        omega
      rw [if_neg this, if_pos ⟨rfl, rfl⟩]
      rfl
    · rw [if_neg (nI_ne0 (by omega) (by omega)), if_neg (show ¬ (0 = 0 ∧ b = 0) from fun q => hb0 q.2)]
  · rw [if_neg (nI_ne0 (by omega) (by omega)), if_neg (show ¬ (s = 0 ∧ b = 0) from fun q => h0 q.1)]
theorem onstay_is (hc : c ≤ 1000000) (hz : z ≤ 20) {s b : Nat} (hs : s ≤ z + 1) (hb : b < 2) {γ : Type} (k : Int32 → Option γ) : ob1 ((if nI z ≤ nI s then some (0 : Int32) else (if nI b = ((nI c >>> (((nI z - (1 : Int32)) - nI s) &&& (31 : Int32))) &&& (1 : Int32)) then some (1 : Int32) else some (0 : Int32)))) (fun j0_94 => ob1 ((if nI s = 0 then (if nI b = 0 then some (1 : Int32) else some (0 : Int32)) else some (0 : Int32))) (fun j0_122 => ob1 ((if j0_94 = 0 then (if j0_122 = 0 then some (nI z + (1 : Int32)) else some (0 : Int32)) else some (nI s + (1 : Int32)))) k)) = k (nI (fx c z s b)) := by
  unfold fx
  have hm := Nat.mod_lt (c / 2 ^ (z - 1 - s)) (show 0 < 2 by omega)
  have k2 : (if nI s = 0 then (if nI b = 0 then some (1 : Int32) else some (0 : Int32)) else some (0 : Int32)) = some (bI (decide (s = 0 ∧ b = 0))) := by
    by_cases h0 : s = 0
    · subst h0
      rw [if_pos (show nI 0 = (0 : Int32) from rfl)]
      by_cases hb0 : b = 0
      · subst hb0; rfl
      · rw [if_neg (nI_ne0 (by omega) (by omega)), decide_eq_false (fun q => hb0 q.2)]; rfl
    · rw [if_neg (nI_ne0 (by omega) (by omega)), decide_eq_false (fun q => h0 q.1)]; rfl
  have k1 : (if nI z ≤ nI s then some (0 : Int32) else (if nI b = ((nI c >>> (((nI z - (1 : Int32)) - nI s) &&& (31 : Int32))) &&& (1 : Int32)) then some (1 : Int32) else some (0 : Int32))) = some (bI (decide (s < z ∧ b = c / 2 ^ (z - 1 - s) % 2))) := by
    rw [ite_le (by omega) (by omega)]
    by_cases hzs : z ≤ s
    · rw [if_pos hzs, decide_eq_false (fun q => by omega)]; rfl
    · rw [if_neg hzs, fx_bit hc hz (by omega), ite_eq (by omega) (by omega)]
      by_cases hbb : b = c / 2 ^ (z - 1 - s) % 2
      · rw [if_pos hbb, decide_eq_true ⟨by omega, hbb⟩]; rfl
      · rw [if_neg hbb, decide_eq_false (fun q => hbb q.2)]; rfl
  rw [k1, k2, ob1_some, ob1_some]
  by_cases p1 : s < z ∧ b = c / 2 ^ (z - 1 - s) % 2
  · rw [if_pos p1, decide_eq_true p1, if_neg (by decide), ob1_some, nI_1]
  · rw [if_neg p1, decide_eq_false p1, if_pos (by decide)]
    by_cases p2 : s = 0 ∧ b = 0
    · rw [if_pos p2, decide_eq_true p2, if_neg (by decide)]; rfl
    · rw [if_neg p2, decide_eq_false p2, if_pos (by decide), ob1_some, nI_1]
theorem fixed_columns {rm s : Nat} (hr : rm ≤ 3600) (h2 : z + 2 ≤ rm) (hu : u < 3) (hc : c ≤ 1000000) (hz : z ≤ 20) (hs0 : sz_ok c z) (hs : s ≤ z) : ∀ (f l : Nat) (nx : AI), l ≤ 8 → 9 ≤ f + l → (∀ d, d < l → nx (s * 8 + d) = nI (fx c z s (dg d u))) → ∃ nx', p_X4_makeFixed_L33 (nI u) (nI s) (nI c) (nI z) rm (nI (z + 2)) f (nI l) nx = some nx' ∧ (∀ d, d < 8 → nx' (s * 8 + d) = nI (fx c z s (dg d u))) ∧ ∀ i, i < s * 8 → nx' i = nx i := by
  intro f
  induction f with
  | zero => intro l nx h1 h2; omega
  | succ f ih =>
    intro l nx hl hf hq
    rw [p_X4_makeFixed_L33, k_8, ite_le (by omega) (by omega)]
    by_cases h8 : 8 ≤ l
    · rw [if_pos h8]
      exact ⟨nx, rfl, fun d hd => hq d (by omega), fun _ _ => rfl⟩
    · rw [if_neg h8, digitOf_is (by omega) (by omega), ob1_some, afterDigit_is hc hz hs0 hs (dg_lt l u), ob1_some, dwrite_is h2 hr (by omega) (by omega), ob1_some, nI_1]
      obtain ⟨nx', e, q1, q2⟩ := ih (l + 1) (upd nx (s * 8 + l) (nI (fx c z s (dg l u)))) (by omega) (by omega) (fun d hd => by
        by_cases hdl : d = l
        · rw [hdl, upd_self]
        · rw [upd_ne _ _ (by omega)]; exact hq d (by omega))
      exact ⟨nx', e, q1, fun i hi => by rw [q2 i hi, upd_ne _ _ (by omega)]⟩
theorem fixed_loop {rm F : Nat} (hF : 5000 ≤ F) (hr : rm ≤ 3600) (h2 : z + 2 ≤ rm) (hu : u < 3) (hc : c ≤ 1000000) (hz : z ≤ 20) (hs0 : sz_ok c z) : ∀ (f s : Nat) (nx sy : AI), s ≤ z + 1 → z + 2 ≤ f + s → (∀ t d, t < s → d < 8 → nx (t * 8 + d) = nI (fx c z t (dg d u))) → (∀ t, t < s → sy t = bI (decide (t = z))) → ∃ nx' sy', p_X4_makeFixed_L23 F (nI z) (nI u) (nI c) rm (nI (z + 2)) f (nI s) nx sy = some (nx', sy') ∧ (∀ t d, t ≤ z → d < 8 → nx' (t * 8 + d) = nI (fx c z t (dg d u))) ∧ (∀ t, t ≤ z → sy' t = bI (decide (t = z))) := by
  intro f
  induction f with
  | zero => intro s nx sy h1 h2; omega
  | succ f ih =>
    intro s nx sy hs hf h1 h3
    rw [p_X4_makeFixed_L23, ite_lt (by omega) (by omega)]
    by_cases h5 : z < s
    · rw [if_pos h5]
      exact ⟨nx, sy, rfl, fun t d ht hd => h1 t d (by omega) hd, fun t ht => h3 t (by omega)⟩
    · obtain ⟨nx', e, q1, q2⟩ := fixed_columns hr h2 hu hc hz hs0 (show s ≤ z by omega) F 0 nx (by omega) (by omega) (fun d hd => by omega)
      have e' : p_X4_makeFixed_L33 (nI u) (nI s) (nI c) (nI z) rm (nI (z + 2)) F (0 : Int32) nx = some nx' := e
      rw [if_neg h5, e', ob1_some, ob1_tf, show decide (nI s = nI z) = decide (s = z) from decide_eq_decide.mpr (nI_eq (by omega) (by omega)), dwriteSays_is h2 hr (by omega), ob1_some, nI_1]
      refine ih (s + 1) nx' _ (by omega) (by omega) (fun t d ht hd => ?_) (fun t ht => ?_)
      · by_cases htp : t = s
        · rw [htp]; exact q1 d hd
        · rw [q2 _ (by omega)]; exact h1 t d (by omega) hd
      · by_cases htp : t = s
        · rw [htp, upd_self]
        · rw [upd_ne _ _ htp]; exact h3 t (by omega)
theorem fixed_other {rm : Nat} (hr : rm ≤ 3600) (h2 : z + 2 ≤ rm) (hz : z ≤ 20) : ∀ (f l : Nat) (nx : AI), l ≤ 8 → 9 ≤ f + l → (∀ d, d < l → nx ((z + 1) * 8 + d) = nI (z + 1)) → ∃ nx', p_X4_makeFixed_L101 rm (nI (z + 2)) (nI z) f (nI l) nx = some nx' ∧ (∀ d, d < 8 → nx' ((z + 1) * 8 + d) = nI (z + 1)) ∧ ∀ i, i < (z + 1) * 8 → nx' i = nx i := by
  intro f
  induction f with
  | zero => intro l nx h1 h2; omega
  | succ f ih =>
    intro l nx hl hf hq
    rw [p_X4_makeFixed_L101, k_8, ite_le (by omega) (by omega)]
    by_cases h8 : 8 ≤ l
    · rw [if_pos h8]
      exact ⟨nx, rfl, fun d hd => hq d (by omega), fun _ _ => rfl⟩
    · rw [if_neg h8, nI_1, dwrite_is h2 hr (by omega) (by omega), ob1_some, nI_1]
      obtain ⟨nx', e, q1, q2⟩ := ih (l + 1) (upd nx ((z + 1) * 8 + l) (nI (z + 1))) (by omega) (by omega) (fun d hd => by
        by_cases hdl : d = l
        · rw [hdl, upd_self]
        · rw [upd_ne _ _ (by omega)]; exact hq d (by omega))
      exact ⟨nx', e, q1, fun i hi => by rw [q2 i hi, upd_ne _ _ (by omega)]⟩
theorem mis_letters {s : Nat} (hu : u < 3) (hc : c ≤ 1000000) (hz : z ≤ 20) (hs : s < z + 2) : ∀ (f l : Nat) (mn : AI), l ≤ 8 → 9 ≤ f + l → (∀ d, d < l → mn (8 * s + d) = nI (fx c z s (dg d u))) → ∃ mn', p_X10_is_L75 (nI u) (nI z) (nI s) (nI c) f (nI l) mn = some mn' ∧ (∀ d, d < 8 → mn' (8 * s + d) = nI (fx c z s (dg d u))) ∧ ∀ i, i < 8 * s → mn' i = mn i := by
  intro f
  induction f with
  | zero => intro l mn h1 h2; omega
  | succ f ih =>
    intro l mn hl hf hq
    rw [p_X10_is_L75, k_8, ite_le (by omega) (by omega)]
    by_cases h8 : 8 ≤ l
    · rw [if_pos h8]
      exact ⟨mn, rfl, fun d hd => hq d (by omega), fun _ _ => rfl⟩
    · rw [if_neg h8, digit_is (by omega) (by omega), ob1_some, onstay_is hc hz (by omega) (dg_lt l u), leads_is (by omega) (by omega), ob1_some, nI_1]
      obtain ⟨mn', e, q1, q2⟩ := ih (l + 1) (upd mn (8 * s + l) (nI (fx c z s (dg l u)))) (by omega) (by omega) (fun d hd => by
        by_cases hdl : d = l
        · rw [hdl, upd_self]
        · rw [upd_ne _ _ (by omega)]; exact hq d (by omega))
      exact ⟨mn', e, q1, fun i hi => by rw [q2 i hi, upd_ne _ _ (by omega)]⟩
theorem mis_loop {F : Nat} (hF : 5000 ≤ F) (hu : u < 3) (hc : c ≤ 1000000) (hz : z ≤ 20) : ∀ (f s : Nat) (mn mh : AI), s ≤ z + 2 → z + 3 ≤ f + s → (∀ t d, t < s → d < 8 → mn (8 * t + d) = nI (fx c z t (dg d u))) → (∀ t, t < s → mh t = bI (decide (t = z))) → ∃ mn' mh', p_X10_is_L63 F (nI z) (nI u) (nI c) f (nI s) mn mh = some (mn', mh') ∧ mm_N (z + 2) (fun t d => fx c z t (dg d u)) mn' ∧ mm_S (z + 2) (fun t => decide (t = z)) mh' := by
  intro f
  induction f with
  | zero => intro s mn mh h1 h2; omega
  | succ f ih =>
    intro s mn mh hs hf h1 h2
    rw [p_X10_is_L63, k_2, nI_add, ite_le (by omega) (by omega)]
    by_cases hms : z + 2 ≤ s
    · rw [if_pos hms]
      exact ⟨mn, mh, rfl, fun t ht d hd => h1 t d (by omega) hd, fun t ht => h2 t (by omega)⟩
    · obtain ⟨mn', e, q1, q2⟩ := mis_letters hu hc hz (show s < z + 2 by omega) F 0 mn (by omega) (by omega) (fun d hd => by omega)
      have e' : p_X10_is_L75 (nI u) (nI z) (nI s) (nI c) F (0 : Int32) mn = some mn' := e
      rw [if_neg hms, e', ob1_some, ob1_tf, show decide (nI s = nI z) = decide (s = z) from decide_eq_decide.mpr (nI_eq (by omega) (by omega))]
      simp (disch := omega) only [gi_nI, nI_clamp, nI_1, bI_and]
      refine ih (s + 1) mn' _ (by omega) (by omega) (fun t d ht hd => ?_) (fun t ht => ?_)
      · by_cases hts : t = s
        · rw [hts]; exact q1 d hd
        · rw [q2 _ (by omega)]; exact h1 t d (by omega) hd
      · by_cases hts : t = s
        · rw [hts, upd_self]
        · rw [upd_ne _ _ hts]; exact h2 t (by omega)
end FIXED

theorem makeFixed_is {rm F : Nat} (hr : rm ≤ 3600) (h32 : 32 ≤ rm) (hF : 5000 ≤ F) {c z u : Nat} (hu : u < 3) (hc : c ≤ 1000000) (hz : z ≤ 20) (hs0 : sz_ok c z) (st kd od nx sy nt so fr tb cn cs : AI) (tn cz : Int32) :
    ∃ nx' sy' nt' so' fr', dm_N (z + 2) (fun t d => fx c z t (dg d u)) nx' ∧ mm_S (z + 2) (fun s => decide (s = z)) sy' ∧ ∀ r st' kd' od' so2 fr2 tb' tn' ct' cn' cs' cz', p_X1_reduceInto F (rm_of rm (z + 2)) st kd od (nI (z + 2)) nx' sy' so' fr' tb tn cn cs cz = some (r, st', kd', od', so2, fr2, tb', tn', ct', cn', cs', cz') → p_X4_makeFixed F rm st kd od (nI rm) nx sy nt so fr tb tn cn cs cz (rm_of rm (z + 2)) (nI u) (nI c) = some (r, rm_of rm (z + 2), st', kd', od', nI (rm_of rm (z + 2)), nI (z + 2), nx', sy', nt', so2, fr2, tb', tn', ct', cn', cs', cz') := by
  unfold p_X4_makeFixed p_X4_digitsOf
  obtain ⟨z', hz', e0, hs0'⟩ := digitsOf_loop hc F 0 (by omega) (by omega) (fun e h => by omega)
  have hzz := hs0'.uniq hs0
  subst hzz
  obtain ⟨nx1, sy1, nt1, so1, fr1, e⟩ := start_is hr h32 (show z' + 2 ≤ 3600 by omega) nx sy nt so fr
  obtain ⟨a1, a2, a3, a4⟩ := rm_of_le hr h32 (show z' + 2 ≤ 3600 by omega)
  have e0' : p_X4_digitsOf_L2 (nI c) F (0 : Int32) = some (nI z') := e0
  rw [e0', ob1_some, ob1_some, k_2, nI_add, e]
  simp only [ob8]
  obtain ⟨nx2, sy2, e2, q, q2⟩ := fixed_loop hF a3 a1 hu hc hz hs0 F 0 nx1 sy1 (by omega) (by omega) (fun t d h => by omega) (fun s h => by omega)
  obtain ⟨nx3, e3, q3, q4⟩ := fixed_other a3 a1 hz F 0 nx2 (by omega) (by omega) (fun d h => by omega)
  have e2' : p_X4_makeFixed_L23 F (nI z') (nI u) (nI c) (rm_of rm (z' + 2)) (nI (z' + 2)) F (0 : Int32) nx1 sy1 = some (nx2, sy2) := e2
  have e3' : p_X4_makeFixed_L101 (rm_of rm (z' + 2)) (nI (z' + 2)) (nI z') F (0 : Int32) nx2 = some nx3 := e3
  rw [e2']
  simp only [ob2]
  have w2 := dwriteSays_is a1 a3 (show z' + 1 < z' + 2 by omega) sy2 false
  have w2' : p_X1_writeSays (rm_of rm (z' + 2)) (nI (z' + 2)) sy2 (nI (z' + 1)) (0 : Int32) = some (upd sy2 (z' + 1) (bI false)) := w2
  rw [e3', ob1_some, nI_1, w2', ob1_some]
  refine ⟨nx3, upd sy2 (z' + 1) (bI false), nt1, so1, fr1, fun s hs d hd => ?_, fun s hs => ?_, fun r st' kd' od' so2 fr2 tb' tn' ct' cn' cs' cz' h => ?_⟩
  · by_cases hsz : s = z' + 1
    · rw [hsz, q3 d hd]
      show _ = nI (fx c z' (z' + 1) (dg d u))
      unfold fx
      rw [if_neg (by omega), if_neg (by omega)]
    · rw [q4 _ (by omega)]; exact q s d (by omega) hd
  · by_cases hsz : s = z' + 1
    · rw [hsz, upd_self]
      show bI false = bI (decide (z' + 1 = z'))
      rw [decide_eq_false (by omega)]
    · rw [upd_ne _ _ hsz]; exact q2 s (by omega)
  · rw [h]
    rfl
theorem op_is {F rm : Nat} {rooms : Int32} (hF : 5000 ≤ F) (hd : rl_dr rm rooms) {tb : AI} {tn : Int32} (hp : pn_ok tb tn) {fn fs : AF} {fz ko nxo ha : AI} (hcl : rl_cls fn fs fz ko nxo ha)  (st kd od nx sy nt so fr : AI) (dct pct : Int32) (md : Int32) (mn mh jd jn fi oo ca : AI) (v1 v2 v3 : Int32) :
    ∃ r rm' st' kd' od' rooms' dct' nx' sy' nt' so' fr' tb' tn' pct' fn' fs' fz' ko' nxo' ha' md' mn' mh' jd' jn' fi' oo' ca', p_X9_is F rm st kd od rooms dct nx sy nt so fr tb tn pct fn fs fz rm' v1 v2 v3 = some (r, rm', st', kd', od', rooms', dct', nx', sy', nt', so', fr', tb', tn', pct', fn', fs', fz') ∧ p_X10_is F ko nxo ha md mn mh jd jn fi oo ca v1 v2 v3 = some (r, ko', nxo', ha', md', mn', mh', jd', jn', fi', oo', ca') ∧ rl_cls fn' fs' fz' ko' nxo' ha' ∧ rl_dr rm' rooms' ∧ pn_ok tb' tn' ∧ rl_gr rm rm' := by
  obtain ⟨rfl, h32, hr⟩ := hd
  unfold p_X9_is p_X10_is
  rcases isClaim_dec v1 with ⟨a1, a2⟩ | ⟨k, hk, rfl, a1, a2⟩
  · rw [a1, a2]
    exact ⟨-1, rm, st, kd, od, nI rm, dct, nx, sy, nt, so, fr, tb, tn, pct, fn, fs, fz, ko, nxo, ha, md, mn, mh, jd, jn, fi, oo, ca, rfl, rfl, hcl, ⟨rfl, h32, hr⟩, hp, Or.inl rfl⟩
  rcases isNumber_dec v2 with ⟨b1, b2⟩ | ⟨u, hu, rfl, b1, b2⟩
  · rw [a1, a2, b1, b2]
    exact ⟨-1, rm, st, kd, od, nI rm, dct, nx, sy, nt, so, fr, tb, tn, pct, fn, fs, fz, ko, nxo, ha, md, mn, mh, jd, jn, fi, oo, ca, rfl, rfl, hcl, ⟨rfl, h32, hr⟩, hp, Or.inl rfl⟩
  rcases within_is v3 (n := 1000000) (by omega) with ⟨c1, c2⟩ | ⟨c, hc, rfl, c1⟩
  · have c1' : p_X10_within v3 0 (1000000 : Int32) = some 0 := c1
    rw [a1, a2, b1, b2, c1']
    have q3 : v3 < 0 ∨ ¬ v3 ≤ (1000000 : Int32) := by
      rcases c2 with q | q
      · exact Or.inl q
      · refine Or.inr (fun z => ?_)
        have a : v3.toInt ≤ (nI 1000000).toInt := Int32.le_iff_toInt_le.mp z
        have b : (nI 1000000).toInt < v3.toInt := Int32.lt_iff_toInt_lt.mp q
        omega
    refine ⟨-2, rm, st, kd, od, nI rm, dct, nx, sy, nt, so, fr, tb, tn, pct, fn, fs, fz, ko, nxo, ha, md, mn, mh, jd, jn, fi, oo, ca, ?_, rfl, hcl, ⟨rfl, h32, hr⟩, hp, Or.inl rfl⟩
    show (if v3 < 0 then _ else if v3 ≤ (1000000 : Int32) then _ else _) = _
    by_cases h0 : v3 < 0
    · rw [if_pos h0]
    · rw [if_neg h0, if_neg (q3.resolve_left h0)]
  have c1' : p_X10_within (nI c) 0 (1000000 : Int32) = some 1 := c1
  obtain ⟨z, hz, w1, hs0⟩ := size_loop hc F 0 (by omega) (by omega) (fun e h => by omega)
  rw [Nat.pow_zero, Nat.div_one] at w1
  have w1' : p_X10_is_L35 F (0 : Int32) (nI c) = some (nI z) := w1
  obtain ⟨g1, g2, g3, g4⟩ := rm_of_le hr h32 (show z + 2 ≤ 3600 by omega)
  obtain ⟨nx', sy', nt', so', fr', q1, q2, q3⟩ := makeFixed_is hr h32 hF hu hc hz hs0 st kd od nx sy nt so fr tb (fn k) (fs k) tn (fz k)
  obtain ⟨mn', mh', w2, r1, r2⟩ := mis_loop hF hu hc hz F 0 mn mh (by omega) (by omega) (fun t d h => by omega) (fun t h => by omega)
  have w2' : p_X10_is_L63 F (nI z) (nI u) (nI c) F (0 : Int32) mn mh = some (mn', mh') := w2
  obtain ⟨r, st', kd', od', so2, fr2, tb', tn', ct', cn', cs', cz', ko', nxo', ha', jd', jn', fi', oo', ca', e1, e2, s1, s2⟩ := made_glue (by omega) g1 g3 (fun s hs c _ => fx_lt hs) q1 q2 (by omega) (by omega) (fun s hs c _ => fx_lt hs) r1 r2 hk hF hp au_eq.rf ⟨fun h => h, fun h => h⟩ hcl st kd od so' fr' jd jn fi oo ca
  have e3 := q3 _ _ _ _ _ _ _ _ _ _ _ _ e1
  refine ⟨r, rm_of rm (z + 2), st', kd', od', nI (rm_of rm (z + 2)), nI (z + 2), nx', sy', nt', so2, fr2, tb', tn', ct', _, _, _, ko', nxo', ha', nI (z + 2), mn', mh', jd', jn', fi', oo', ca', ?_, ?_, s2, ⟨rfl, by omega, g3⟩, s1, g4⟩
  · rw [a1, ob1_some, if_neg (by decide), b1, ob1_some, if_neg (by decide), if_neg (nI_pos (by omega)), show (1000000 : Int32) = nI 1000000 from rfl, ite_le (by omega) (by omega), if_pos hc]
    simp (disch := omega) only [gi_nI, nI_clamp]
    rw [e3]
    rfl
  · rw [a2, ob1_some, if_neg (by decide), b2, ob1_some, if_neg (by decide), c1', ob1_some, if_neg (by decide), w1', ob1_some, w2']
    simp only [ob2]
    rw [k_2, nI_add, e2]
    rfl

