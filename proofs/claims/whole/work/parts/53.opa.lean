/-! equal and less, class and model -/
theorem op_equal {F rm : Nat} {rooms : Int32} (hF : 5000 ≤ F) (hd : rl_dr rm rooms) {tb : AI} {tn : Int32} (hp : pn_ok tb tn) {fn fs : AF} {fz ko nxo ha : AI} (hcl : rl_cls fn fs fz ko nxo ha)  (st kd od nx sy nt so fr : AI) (dct pct : Int32) (md : Int32) (mn mh jd jn fi oo ca : AI) (v1 v2 v3 : Int32) :
    ∃ r rm' st' kd' od' rooms' dct' nx' sy' nt' so' fr' tb' tn' pct' fn' fs' fz' ko' nxo' ha' md' mn' mh' jd' jn' fi' oo' ca', p_X9_equal F rm st kd od rooms dct nx sy nt so fr tb tn pct fn fs fz rm' v1 v2 v3 = some (r, rm', st', kd', od', rooms', dct', nx', sy', nt', so', fr', tb', tn', pct', fn', fs', fz') ∧ p_X10_equal F ko nxo ha md mn mh jd jn fi oo ca v1 v2 v3 = some (r, ko', nxo', ha', md', mn', mh', jd', jn', fi', oo', ca') ∧ rl_cls fn' fs' fz' ko' nxo' ha' ∧ rl_dr rm' rooms' ∧ pn_ok tb' tn' ∧ rl_gr rm rm' := by
  obtain ⟨rfl, h32, hr⟩ := hd
  unfold p_X9_equal p_X10_equal
  rcases isClaim_dec v1 with ⟨a1, a2⟩ | ⟨k, hk, rfl, a1, a2⟩
  · rw [a1, a2]
    exact ⟨-1, rm, st, kd, od, nI rm, dct, nx, sy, nt, so, fr, tb, tn, pct, fn, fs, fz, ko, nxo, ha, md, mn, mh, jd, jn, fi, oo, ca, rfl, rfl, hcl, ⟨rfl, h32, hr⟩, hp, Or.inl rfl⟩
  rcases areTwo_dec v2 v3 with ⟨b1, b2⟩ | ⟨u, v, hu, hv, huv, rfl, rfl, b1, b2⟩
  · rw [a1, a2, b1, b2]
    exact ⟨-1, rm, st, kd, od, nI rm, dct, nx, sy, nt, so, fr, tb, tn, pct, fn, fs, fz, ko, nxo, ha, md, mn, mh, jd, jn, fi, oo, ca, rfl, rfl, hcl, ⟨rfl, h32, hr⟩, hp, Or.inl rfl⟩
  obtain ⟨g1, g2, g3, g4⟩ := rm_of_le hr h32 (show 2 ≤ 3600 by omega)
  obtain ⟨nx', sy', nt', so', fr', q1, q2, q3⟩ := makeEqual_is hr h32 hF hu hv st kd od nx sy nt so fr tb (fn k) (fs k) tn (fz k)
  obtain ⟨mn', mh', r1, r2, r3⟩ := compares_is hu hv (show 0 < 3 by omega) hF mn mh
  obtain ⟨r, st', kd', od', so2, fr2, tb', tn', ct', cn', cs', cz', ko', nxo', ha', jd', jn', fi', oo', ca', e1, e2, s1, s2⟩ := made_glue (by omega) g1 g3 (fun s hs c _ => eqN_lt) q1 q2 (by omega) (by omega) (fun s hs c _ => cmpN_lt hs) r1 r2 hk hF hp (eq_cmp) ⟨fun h => absurd h (au_few (by omega)), fun h => absurd h (au_few (by omega))⟩ hcl st kd od so' fr' jd jn fi oo ca
  have e3 := q3 _ _ _ _ _ _ _ _ _ _ _ _ e1
  have e4 := r3 _ _ _ _ _ _ _ _ _ _ _ _ _ _ _ _ _ _ e2
  refine ⟨r, rm_of rm 2, st', kd', od', nI (rm_of rm 2), nI 2, nx', sy', nt', so2, fr2, tb', tn', ct', _, _, _, ko', nxo', ha', nI 3, mn', mh', jd', jn', fi', oo', ca', ?_, ?_, s2, ⟨rfl, by omega, g3⟩, s1, g4⟩
  · rw [a1, ob1_some, if_neg (by decide), b1, ob1_some, if_neg (by decide)]
    simp (disch := omega) only [gi_nI, nI_clamp]
    rw [e3]
    rfl
  · rw [a2, ob1_some, if_neg (by decide), b2, ob1_some, if_neg (by decide), show (0 : Int32) = nI 0 from rfl, e4]
    rfl
theorem op_less {F rm : Nat} {rooms : Int32} (hF : 5000 ≤ F) (hd : rl_dr rm rooms) {tb : AI} {tn : Int32} (hp : pn_ok tb tn) {fn fs : AF} {fz ko nxo ha : AI} (hcl : rl_cls fn fs fz ko nxo ha)  (st kd od nx sy nt so fr : AI) (dct pct : Int32) (md : Int32) (mn mh jd jn fi oo ca : AI) (v1 v2 v3 : Int32) :
    ∃ r rm' st' kd' od' rooms' dct' nx' sy' nt' so' fr' tb' tn' pct' fn' fs' fz' ko' nxo' ha' md' mn' mh' jd' jn' fi' oo' ca', p_X9_less F rm st kd od rooms dct nx sy nt so fr tb tn pct fn fs fz rm' v1 v2 v3 = some (r, rm', st', kd', od', rooms', dct', nx', sy', nt', so', fr', tb', tn', pct', fn', fs', fz') ∧ p_X10_less F ko nxo ha md mn mh jd jn fi oo ca v1 v2 v3 = some (r, ko', nxo', ha', md', mn', mh', jd', jn', fi', oo', ca') ∧ rl_cls fn' fs' fz' ko' nxo' ha' ∧ rl_dr rm' rooms' ∧ pn_ok tb' tn' ∧ rl_gr rm rm' := by
  obtain ⟨rfl, h32, hr⟩ := hd
  unfold p_X9_less p_X10_less
  rcases isClaim_dec v1 with ⟨a1, a2⟩ | ⟨k, hk, rfl, a1, a2⟩
  · rw [a1, a2]
    exact ⟨-1, rm, st, kd, od, nI rm, dct, nx, sy, nt, so, fr, tb, tn, pct, fn, fs, fz, ko, nxo, ha, md, mn, mh, jd, jn, fi, oo, ca, rfl, rfl, hcl, ⟨rfl, h32, hr⟩, hp, Or.inl rfl⟩
  rcases areTwo_dec v2 v3 with ⟨b1, b2⟩ | ⟨u, v, hu, hv, huv, rfl, rfl, b1, b2⟩
  · rw [a1, a2, b1, b2]
    exact ⟨-1, rm, st, kd, od, nI rm, dct, nx, sy, nt, so, fr, tb, tn, pct, fn, fs, fz, ko, nxo, ha, md, mn, mh, jd, jn, fi, oo, ca, rfl, rfl, hcl, ⟨rfl, h32, hr⟩, hp, Or.inl rfl⟩
  obtain ⟨g1, g2, g3, g4⟩ := rm_of_le hr h32 (show 3 ≤ 3600 by omega)
  obtain ⟨nx', sy', nt', so', fr', q1, q2, q3⟩ := makeLess_is hr h32 hF hu hv st kd od nx sy nt so fr tb (fn k) (fs k) tn (fz k)
  obtain ⟨mn', mh', r1, r2, r3⟩ := compares_is hu hv (show 1 < 3 by omega) hF mn mh
  obtain ⟨r, st', kd', od', so2, fr2, tb', tn', ct', cn', cs', cz', ko', nxo', ha', jd', jn', fi', oo', ca', e1, e2, s1, s2⟩ := made_glue (by omega) g1 g3 (fun s hs c _ => cmpN_lt hs) q1 q2 (by omega) (by omega) (fun s hs c _ => cmpN_lt hs) r1 r2 hk hF hp (au_eq.rf) ⟨fun h => absurd h (au_few (by omega)), fun h => absurd h (au_few (by omega))⟩ hcl st kd od so' fr' jd jn fi oo ca
  have e3 := q3 _ _ _ _ _ _ _ _ _ _ _ _ e1
  have e4 := r3 _ _ _ _ _ _ _ _ _ _ _ _ _ _ _ _ _ _ e2
  refine ⟨r, rm_of rm 3, st', kd', od', nI (rm_of rm 3), nI 3, nx', sy', nt', so2, fr2, tb', tn', ct', _, _, _, ko', nxo', ha', nI 3, mn', mh', jd', jn', fi', oo', ca', ?_, ?_, s2, ⟨rfl, by omega, g3⟩, s1, g4⟩
  · rw [a1, ob1_some, if_neg (by decide), b1, ob1_some, if_neg (by decide)]
    simp (disch := omega) only [gi_nI, nI_clamp]
    rw [e3]
    rfl
  · rw [a2, ob1_some, if_neg (by decide), b2, ob1_some, if_neg (by decide), show (1 : Int32) = nI 1 from rfl, e4]
    rfl
