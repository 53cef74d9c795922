/-! not and swap -/
def xc (u v d : Nat) : Nat := if dg d u = dg d v then d else d ^^^ 2 ^ u ^^^ 2 ^ v
theorem xc_fin : ∀ u, u < 3 → ∀ v, v < 3 → ∀ d, d < 8 → xc u v d < 8 ∧ xc u v (xc u v d) = d := by decide +kernel
theorem exchanged_fin : ∀ u, u < 3 → ∀ v, v < 3 → ∀ d, d < 8 → p_X2_exchanged (nI d) (nI u) (nI v) = some (nI (xc u v d)) := by decide +kernel
theorem by_fin : ∀ u, u < 3 → ∀ v, v < 3 → ∀ d, d < 8 → ((((nI d &&& (((1 : Int32) <<< (nI u &&& (31 : Int32))) ^^^ (-1 : Int32))) &&& (((1 : Int32) <<< (nI v &&& (31 : Int32))) ^^^ (-1 : Int32))) ||| (nI (dg d u) <<< (nI v &&& (31 : Int32)))) ||| (nI (dg d v) <<< (nI u &&& (31 : Int32)))) = nI (xc u v d) := by decide +kernel
section COPIES
variable {k m : Nat} {N : Nat → Nat → Nat} {S : Nat → Bool} {ko nxo ha : AI}
theorem copies_letters (hk : k < 8) (hm : m ≤ 60) (h : mt_at k m N S nxo ha) {u v : Nat} (hu : u < 3) (hv : v < 3) {s : Nat} (hs : s < m) : ∀ (f l : Nat) (mn : AI), l ≤ 8 → 9 ≤ f + l → (∀ d, d < l → mn (8 * s + d) = nI (N s (xc u v d))) → ∃ mn', p_X10_copies_L25 (nI u) (nI v) nxo (nI k) (nI s) f (nI l) mn = some mn' ∧ (∀ d, d < 8 → mn' (8 * s + d) = nI (N s (xc u v d))) ∧ ∀ i, i < 8 * s → mn' i = mn i := by
  intro f
  induction f with
  | zero => intro l mn h1 h2; omega
  | succ f ih =>
    intro l mn hl hf hq
    rw [p_X10_copies_L25, k_8, ite_le (by omega) (by omega)]
    by_cases h8 : 8 ≤ l
    · rw [if_pos h8]
      exact ⟨mn, rfl, fun d hd => hq d (by omega), fun _ _ => rfl⟩
    · rw [if_neg h8, digit_is (by omega) (by omega), ob1_some, digit_is (by omega) (by omega), ob1_some, by_fin u hu v hv l (by omega)]
      obtain ⟨x1, x2⟩ := xc_fin u hu v hv l (by omega)
      rw [next_is h hk hm hs x1, ob1_some, leads_is (by omega) (by omega), ob1_some, nI_1]
      obtain ⟨mn', e, q1, q2⟩ := ih (l + 1) (upd mn (8 * s + l) (nI (N s (xc u v l)))) (by omega) (by omega) (fun d hd => by
        by_cases hdl : d = l
        · rw [hdl, upd_self]
        · rw [upd_ne _ _ (by omega)]; exact hq d (by omega))
      exact ⟨mn', e, q1, fun i hi => by rw [q2 i hi, upd_ne _ _ (by omega)]⟩
theorem copies_loop {F : Nat} (hF : 5000 ≤ F) (hz : ko k = nI m) (hk : k < 6) (hm : m ≤ 60) (h : mt_at k m N S nxo ha) {u v : Nat} (hu : u < 3) (hv : v < 3) (nt : Bool) : ∀ (f s : Nat) (mn mh : AI), s ≤ m → m + 1 ≤ f + s → (∀ t d, t < s → d < 8 → mn (8 * t + d) = nI (N t (xc u v d))) → (∀ t, t < s → mh t = bI (S t != nt)) → ∃ mn' mh', p_X10_copies_L13 F ko (nI k) (nI u) (nI v) nxo ha (bI nt) f (nI s) mn mh = some (mn', mh') ∧ mm_N m (fun t d => N t (xc u v d)) mn' ∧ mm_S m (fun t => S t != nt) mh' := by
  intro f
  induction f with
  | zero => intro s mn mh h1 h2; omega
  | succ f ih =>
    intro s mn mh hs hf h1 h2
    rw [p_X10_copies_L13, nI_clamp (by omega), hz, ite_le (by omega) (by omega)]
    by_cases hms : m ≤ s
    · rw [if_pos hms]
      exact ⟨mn, mh, rfl, fun t ht d hd => h1 t d (by omega) hd, fun t ht => h2 t (by omega)⟩
    · rw [if_neg hms, k_0]
      obtain ⟨mn', e, q1, q2⟩ := copies_letters (by omega) hm h hu hv (show s < m by omega) F 0 mn (by omega) (by omega) (fun d hd => by omega)
      rw [e, ob1_some, holdsIn_is h (by omega) hm (by omega), ob1_some, ← k_0, ob1_ft, show bI (!decide (bI (S s) = bI nt)) = bI (S s != nt) by cases S s <;> cases nt <;> rfl]
      simp (disch := omega) only [gi_nI, nI_clamp, nI_1, bI_and]
      refine ih (s + 1) mn' _ (by omega) (by omega) (fun t d ht hd => ?_) (fun t ht => ?_)
      · by_cases hts : t = s
        · rw [hts]; exact q1 d hd
        · rw [q2 _ (by omega)]; exact h1 t d (by omega) hd
      · by_cases hts : t = s
        · rw [hts, upd_self]
        · rw [upd_ne _ _ hts]; exact h2 t (by omega)
theorem copies_is {F : Nat} (hF : 5000 ≤ F) (hz : ko k = nI m) (hk : k < 6) (hm : m ≤ 60) (h : mt_at k m N S nxo ha) {u v : Nat} (hu : u < 3) (hv : v < 3) (nt : Bool) (mn mh : AI) : ∃ mn' mh', mm_N m (fun t d => N t (xc u v d)) mn' ∧ mm_S m (fun t => S t != nt) mh' ∧ ∀ k' jd jn fi oo ca r ko' nx' ha' jd' jn' fi' oo' ca', p_X10_comes F ko nxo ha (nI m) mn' mh' jd jn fi oo ca (nI k') = some (r, ko', nx', ha', jd', jn', fi', oo', ca') → p_X10_copies F ko nxo ha mn mh jd jn fi oo ca (nI k') (nI k) (nI u) (nI v) (bI nt) = some (r, ko', nx', ha', nI m, mn', mh', jd', jn', fi', oo', ca') := by
  obtain ⟨mn', mh', e, q1, q2⟩ := copies_loop hF hz hk hm h hu hv nt F 0 mn mh (by omega) (by omega) (fun t d ht => by omega) (fun t ht => by omega)
  refine ⟨mn', mh', q1, q2, fun k' jd jn fi oo ca r ko' nx' ha' jd' jn' fi' oo' ca' hc => ?_⟩
  unfold p_X10_copies
  rw [k_0, e]
  simp (disch := omega) only [gi_nI, nI_clamp, hz, ob2_some]
  rw [hc]
  rfl
end COPIES
theorem au_can.not {m : Nat} {N : Nat → Nat → Nat} {S : Nat → Bool} (h : au_can m N S) : au_can m N (fun s => !S s) := by
  refine ⟨h.1, h.2.1, fun x y hx hy e => h.2.2.1 x y hx hy (fun w hw => ?_), h.2.2.2⟩
  have := e w hw
  have e2 : (!S (au_run N x w)) = (!S (au_run N y w)) := this
  cases ha : S (au_run N x w) <;> cases hb : S (au_run N y w) <;> simp [ha, hb] at e2 ⊢
theorem not_loop {m k0 k1 : Nat} {fz : AI} {S : Nat → Bool} (hz : fz k1 = nI m) (hm : m ≤ 60) : ∀ (f x : Nat) (fs : AF), x ≤ m → m + 1 ≤ f + x → (∀ y, y < x → fs k0 y = bI (!S y)) → (∀ y, x ≤ y → y < m → fs k1 y = bI (S y)) → ∃ fs', p_X0_becomeNot_L30 fz k0 k1 f (nI x) fs = some fs' ∧ (∀ y, y < m → fs' k0 y = bI (!S y)) ∧ ∀ k, k ≠ k0 → fs' k = fs k := by
  intro f
  induction f with
  | zero => intro x fs h1 h2; omega
  | succ f ih =>
    intro x fs hx hf h1 h2
    rw [p_X0_becomeNot_L30, va_up_self, hz, ite_le (by omega) (by omega)]
    by_cases hmx : m ≤ x
    · rw [if_pos hmx]
      exact ⟨fs, rfl, fun y hy => h1 y (by omega), fun _ _ => rfl⟩
    · rw [if_neg hmx]
      have e := h2 x (Nat.le_refl _) (by omega)
      simp (disch := omega) only [gi_nI, nI_clamp, e, nI_1]
      rw [ob1_tf, show bI (decide (bI (S x) = 0)) = bI (!S x) by cases S x <;> rfl, bI_and]
      obtain ⟨fs', e2, q1, q2⟩ := ih (x + 1) (va_up fs k0 (upd (fs k0) x (bI (!S x)))) (by omega) (by omega) (fun y hy => by
        rw [va_up_self]
        by_cases hyx : y = x
        · rw [hyx, upd_self]
        · rw [upd_ne _ _ hyx]; exact h1 y (by omega)) (fun y hy1 hy2 => by
        by_cases hk : k1 = k0
        · rw [hk, va_up_self, upd_ne _ _ (by omega), ← hk]; exact h2 y (by omega) hy2
        · rw [va_up_ne _ _ hk]; exact h2 y (by omega) hy2)
      exact ⟨fs', e2, q1, fun k hk => by rw [q2 k hk, va_up_ne _ _ hk]⟩
theorem gcp_0 {α : Type} {n n0 n1 : Nat} {k : Option α} (hn : n < 2147483648) (h0 : n ≤ n0) (h1 : n ≤ n1) : gcp 0 0 (nI n) n0 n1 k = k := by
  unfold gcp
  have z : (0 : Int32).toNatClampNeg = 0 := by decide
  rw [if_pos ⟨by decide, by decide, nI_pos hn, by rw [nI_clamp hn, z]; omega, by rw [nI_clamp hn, z]; omega⟩]
theorem op_not {F : Nat} (hF : 5000 ≤ F) {fn fs : AF} {fz ko nxo ha : AI} (hcl : rl_cls fn fs fz ko nxo ha) (md : Int32) (mn mh jd jn fi oo ca : AI) (v1 v2 : Int32) :
    ∃ r fn' fs' fz' ko' nxo' ha' md' mn' mh' jd' jn' fi' oo' ca', p_X9_not F fn fs fz v1 v2 = some (r, fn', fs', fz') ∧ p_X10_not F ko nxo ha md mn mh jd jn fi oo ca v1 v2 = some (r, ko', nxo', ha', md', mn', mh', jd', jn', fi', oo', ca') ∧ rl_cls fn' fs' fz' ko' nxo' ha' := by
  unfold p_X9_not p_X10_not
  rcases isClaim_dec v1 with ⟨a1, a2⟩ | ⟨k, hk, rfl, a1, a2⟩
  · rw [a1, a2]
    exact ⟨-1, fn, fs, fz, ko, nxo, ha, md, mn, mh, jd, jn, fi, oo, ca, rfl, rfl, hcl⟩
  rcases isClaim_dec v2 with ⟨b1, b2⟩ | ⟨i, hi, rfl, b1, b2⟩
  · rw [a1, a2, b1, b2]
    exact ⟨-1, fn, fs, fz, ko, nxo, ha, md, mn, mh, jd, jn, fi, oo, ca, rfl, rfl, hcl⟩
  rcases there_dec hcl hi with ⟨e1, e2, e3, e4⟩ | ⟨m, N, S, hm, h60, e1, e2, e3, e4, e5, e6, e7⟩
  · rw [a1, a2, b1, b2, e1, e2]
    exact ⟨-3, fn, fs, fz, ko, nxo, ha, md, mn, mh, jd, jn, fi, oo, ca, rfl, rfl, hcl⟩
  obtain ⟨fs', f1, f2, f3⟩ := not_loop (k0 := k) (S := S) e3 h60 F 0 fs (by omega) (by omega) (fun y hy => by omega) (fun y _ hy => e6.2 y hy)
  obtain ⟨mn', mh', r1, r2, r3⟩ := copies_is hF e4 hi h60 e7 (u := 0) (v := 0) (by omega) (by omega) true mn mh
  have hN2 : ∀ s, s < m → ∀ c, c < 8 → (fun t d => N t (xc 0 0 d)) s c < m := fun s hs c hc => e5.2.1 s hs _ (xc_fin 0 (by omega) 0 (by omega) c hc).1
  have hxe : ∀ d, xc 0 0 d = d := fun d => by unfold xc; rw [if_pos rfl]
  have hNe : (fun t d => N t (xc 0 0 d)) = N := by funext t d; rw [hxe]
  have hSe : (fun t => S t != true) = (fun t => !S t) := by funext t; cases S t <;> rfl
  rcases comes_is hm (by omega) hN2 r1 r2 (show k < 8 by omega) (show 3700 ≤ F by omega) (kindsOf := ko) (nextOf := nxo) (holdsAt := ha) (orderOf := oo) (classAt := ca) jd jn fi with ⟨m2, UN, US, nx', ha', jd', jn', fi', oo', ca', g1, g2, g3, g4, g5, g6, g7⟩ | ⟨jd', jn', fi', oo', ca', g1, g2⟩
  · rw [hNe, hSe] at g4
    obtain ⟨z1, z2⟩ := mt_glue e5.not g3 g4.sy g5
    subst z1
    have g8 := r3 _ _ _ _ _ _ _ _ _ _ _ _ _ _ _ g1
    refine ⟨nI m, va_up fn k (va_cpy (fn i) (fn k) 0 0 (m * 8)), fs', va_up fz k (nI m), upd ko k (nI m), nx', ha', nI m, mn', mh', jd', jn', fi', oo', ca', ?_, ?_, ?_⟩
    · rw [a1, ob1_some, if_neg (by decide), b1, ob1_some, if_neg (by decide), e1, ob1_some, if_neg (by decide)]
      unfold p_X0_becomeNot p_X0_size
      simp (disch := omega) only [gi_nI, nI_clamp, va_up_self, e3]
      rw [k_8, pk_mul, gcp_0 (by omega) (by omega) (by omega), k_0, f1, ob1_some]
      simp (disch := omega) only [ob3, nI_clamp, gi_nI, ob1_some, va_up_self]
    · rw [a2, ob1_some, if_neg (by decide), b2, ob1_some, if_neg (by decide), e2, ob1_some, if_neg (by decide)]
      have g9 : p_X10_copies F ko nxo ha mn mh jd jn fi oo ca (nI k) (nI i) 0 0 1 = some (nI m, upd ko k (nI m), nx', ha', nI m, mn', mh', jd', jn', fi', oo', ca') := g8
      rw [g9]
      rfl
    · have hfs : fs' = va_up fs k (fs' k) := by
        funext j
        by_cases hj : j = k
        · rw [hj, va_up_self]
        · rw [va_up_ne _ _ hj]; exact f3 j hj
      rw [hfs]
      refine rl_put hcl h60 g6 (fun _ => ⟨e5.not, ⟨fun x c hx hc => ?_, fun x hx => ?_⟩, z2⟩)
      · show va_cpy _ _ _ _ _ _ = _
        unfold va_cpy
        rw [if_pos ⟨Nat.zero_le _, by omega⟩, Nat.zero_add, Nat.sub_zero]
        exact e6.1 x c hx hc
      · exact f2 x hx
  · exact absurd g2 (au_few h60)
section EXCH
variable {k m rm : Nat} {N : Nat → Nat → Nat} {S : Nat → Bool} {fn fs : AF} {fz : AI}
theorem exchange_columns (hm : m ≤ 60) (hmr : m ≤ rm) (hr : rm ≤ 3600) (hz : fz k = nI m) (h : ct_at m N S (fn k) (fs k)) {u v : Nat} (hu : u < 3) (hv : v < 3) {s : Nat} (hs : s < m) : ∀ (f l : Nat) (nx : AI), l ≤ 8 → 9 ≤ f + l → (∀ d, d < l → nx (s * 8 + xc u v d) = nI (N s d)) → ∃ nx', p_X2_exchange_L30 (nI u) (nI v) fn k fz (nI s) rm (nI m) f (nI l) nx = some nx' ∧ (∀ d, d < 8 → nx' (s * 8 + xc u v d) = nI (N s d)) ∧ ∀ i, i < s * 8 → nx' i = nx i := by
  intro f
  induction f with
  | zero => intro l nx h1 h2; omega
  | succ f ih =>
    intro l nx hl hf hq
    rw [p_X2_exchange_L30, k_8, ite_le (by omega) (by omega)]
    by_cases h8 : 8 ≤ l
    · rw [if_pos h8]
      exact ⟨nx, rfl, fun d hd => hq d (by omega), fun _ _ => rfl⟩
    · obtain ⟨x1, x2⟩ := xc_fin u hu v hv l (by omega)
      rw [if_neg h8, exchanged_fin u hu v hv l (by omega), ob1_some, hz, after_is h hm hs (by omega), ob1_some, dwrite_is hmr hr hs x1, ob1_some, nI_1]
      obtain ⟨nx', e, q1, q2⟩ := ih (l + 1) (upd nx (s * 8 + xc u v l) (nI (N s l))) (by omega) (by omega) (fun d hd => by
        by_cases hdl : d = l
        · rw [hdl, upd_self]
        · rw [upd_ne _ _ (fun q => hdl (by
            have y1 := (xc_fin u hu v hv d (by omega)).2
            rw [show xc u v d = xc u v l by omega, x2] at y1
            exact y1.symm))]; exact hq d (by omega))
      exact ⟨nx', e, q1, fun i hi => by rw [q2 i hi, upd_ne _ _ (by omega)]⟩
theorem exchange_loop {F : Nat} (hF : 5000 ≤ F) (hm : m ≤ 60) (hmr : m ≤ rm) (hr : rm ≤ 3600) (hz : fz k = nI m) (h : ct_at m N S (fn k) (fs k)) {u v : Nat} (hu : u < 3) (hv : v < 3) : ∀ (f s : Nat) (nx sy : AI), s ≤ m → m + 1 ≤ f + s → (∀ t d, t < s → d < 8 → nx (t * 8 + xc u v d) = nI (N t d)) → (∀ t, t < s → sy t = bI (S t)) → ∃ nx' sy', p_X2_exchange_L18 F fz k (nI u) (nI v) fn rm (nI m) fs f (nI s) nx sy = some (nx', sy') ∧ dm_N m (fun t d => N t (xc u v d)) nx' ∧ mm_S m S sy' := by
  intro f
  induction f with
  | zero => intro s nx sy h1 h2; omega
  | succ f ih =>
    intro s nx sy hs hf h1 h2
    have hsz : p_X0_size (fz k) = some (nI m) := by unfold p_X0_size; rw [hz]
    rw [p_X2_exchange_L18, hsz, ob1_some, ite_le (by omega) (by omega)]
    by_cases hms : m ≤ s
    · rw [if_pos hms]
      refine ⟨nx, sy, rfl, fun t ht d hd => ?_, fun t ht => h2 t (by omega)⟩
      obtain ⟨x1, x2⟩ := xc_fin u hu v hv d hd
      have := h1 t (xc u v d) (by omega) x1
      rw [x2] at this
      exact this
    · rw [if_neg hms, k_0]
      obtain ⟨nx', e, q1, q2⟩ := exchange_columns hm hmr hr hz h hu hv (show s < m by omega) F 0 nx (by omega) (by omega) (fun d hd => by omega)
      rw [e, ob1_some, hz, saysAt_is h hm (by omega), ob1_some, dwriteSays_is hmr hr (by omega), ob1_some, nI_1]
      refine ih (s + 1) nx' _ (by omega) (by omega) (fun t d ht hd => ?_) (fun t ht => ?_)
      · by_cases hts : t = s
        · rw [hts]; exact q1 d hd
        · have x1 := (xc_fin u hu v hv d hd).1
          rw [q2 _ (by omega)]; exact h1 t d (by omega) hd
      · by_cases hts : t = s
        · rw [hts, upd_self]
        · rw [upd_ne _ _ hts]; exact h2 t (by omega)
end EXCH

theorem op_swap {F rm : Nat} {rooms : Int32} (hF : 5000 ≤ F) (hd : rl_dr rm rooms) {tb : AI} {tn : Int32} (hp : pn_ok tb tn) {fn fs : AF} {fz ko nxo ha : AI} (hcl : rl_cls fn fs fz ko nxo ha)  (st kd od nx sy nt so fr : AI) (dct pct : Int32) (md : Int32) (mn mh jd jn fi oo ca : AI) (v1 v2 v3 v4 : Int32) :
    ∃ r rm' st' kd' od' rooms' dct' nx' sy' nt' so' fr' tb' tn' pct' fn' fs' fz' ko' nxo' ha' md' mn' mh' jd' jn' fi' oo' ca', p_X9_swap F rm st kd od rooms dct nx sy nt so fr tb tn pct fn fs fz rm' v1 v2 v3 v4 = some (r, rm', st', kd', od', rooms', dct', nx', sy', nt', so', fr', tb', tn', pct', fn', fs', fz') ∧ p_X10_swap F ko nxo ha md mn mh jd jn fi oo ca v1 v2 v3 v4 = some (r, ko', nxo', ha', md', mn', mh', jd', jn', fi', oo', ca') ∧ rl_cls fn' fs' fz' ko' nxo' ha' ∧ rl_dr rm' rooms' ∧ pn_ok tb' tn' ∧ rl_gr rm rm' := by
  obtain ⟨rfl, h32, hr⟩ := hd
  unfold p_X9_swap p_X10_swap
  rcases isClaim_dec v1 with ⟨a1, a2⟩ | ⟨k, hk, rfl, a1, a2⟩
  · rw [a1, a2]
    exact ⟨-1, rm, st, kd, od, nI rm, dct, nx, sy, nt, so, fr, tb, tn, pct, fn, fs, fz, ko, nxo, ha, md, mn, mh, jd, jn, fi, oo, ca, rfl, rfl, hcl, ⟨rfl, h32, hr⟩, hp, Or.inl rfl⟩
  rcases isClaim_dec v2 with ⟨b1, b2⟩ | ⟨i, hi, rfl, b1, b2⟩
  · rw [a1, a2, b1, b2]
    exact ⟨-1, rm, st, kd, od, nI rm, dct, nx, sy, nt, so, fr, tb, tn, pct, fn, fs, fz, ko, nxo, ha, md, mn, mh, jd, jn, fi, oo, ca, rfl, rfl, hcl, ⟨rfl, h32, hr⟩, hp, Or.inl rfl⟩
  rcases areTwo_dec v3 v4 with ⟨c1, c2⟩ | ⟨u, v, hu, hv, huv, rfl, rfl, c1, c2⟩
  · rw [a1, a2, b1, b2, c1, c2]
    exact ⟨-1, rm, st, kd, od, nI rm, dct, nx, sy, nt, so, fr, tb, tn, pct, fn, fs, fz, ko, nxo, ha, md, mn, mh, jd, jn, fi, oo, ca, rfl, rfl, hcl, ⟨rfl, h32, hr⟩, hp, Or.inl rfl⟩
  rcases there_dec hcl hi with ⟨e1, e2, e3, e4⟩ | ⟨m, N, S, hm, h60, e1, e2, e3, e4, e5, e6, e7⟩
  · rw [a1, a2, b1, b2, c1, c2, e1, e2]
    exact ⟨-3, rm, st, kd, od, nI rm, dct, nx, sy, nt, so, fr, tb, tn, pct, fn, fs, fz, ko, nxo, ha, md, mn, mh, jd, jn, fi, oo, ca, rfl, rfl, hcl, ⟨rfl, h32, hr⟩, hp, Or.inl rfl⟩
  obtain ⟨g1, g2, g3, g4⟩ := rm_of_le hr h32 (show m ≤ 3600 by omega)
  obtain ⟨nx1, sy1, nt1, so1, fr1, hb⟩ := begin_dr hr h32 (show m ≤ 3600 by omega) (Nat.le_refl m) nx sy nt so fr
  obtain ⟨nx2, sy2, hx, q1, q2⟩ := exchange_loop (fs := fs) hF h60 g1 g3 e3 e6 hu hv F 0 nx1 sy1 (by omega) (by omega) (fun t d ht => by omega) (fun t ht => by omega)
  obtain ⟨mn', mh', r1, r2, r3⟩ := copies_is hF e4 hi h60 e7 hu hv false mn mh
  have hN2 : ∀ s, s < m → ∀ c, c < 8 → (fun t d => N t (xc u v d)) s c < m := fun s hs c hc => e5.2.1 s hs _ (xc_fin u hu v hv c hc).1
  have hSe : (fun t => S t != false) = S := by funext t; cases S t <;> rfl
  rw [hSe] at r2
  obtain ⟨r, st', kd', od', so2, fr2, tb', tn', ct', cn', cs', cz', ko', nxo', ha', jd', jn', fi', oo', ca', d1, d2, s1, s2⟩ := made_glue hm g1 g3 hN2 q1 q2 hm (by omega) hN2 r1 r2 hk hF hp au_eq.rf ⟨fun h => h, fun h => h⟩ hcl st kd od so1 fr1 jd jn fi oo ca
  have d4 := r3 _ _ _ _ _ _ _ _ _ _ _ _ _ _ _ d2
  refine ⟨r, rm_of rm m, st', kd', od', nI (rm_of rm m), nI m, nx2, sy2, nt1, so2, fr2, tb', tn', ct', _, _, _, ko', nxo', ha', nI m, mn', mh', jd', jn', fi', oo', ca', ?_, ?_, s2, ⟨rfl, by omega, g3⟩, s1, g4⟩
  · rw [a1, ob1_some, if_neg (by decide), b1, ob1_some, if_neg (by decide), c1, ob1_some, if_neg (by decide), e1, ob1_some, if_neg (by decide)]
    simp (disch := omega) only [gi_nI, nI_clamp]
    unfold p_X2_exchange p_X0_size
    rw [e3, ob1_some, ob1_some, hb]
    simp only [ob8]
    rw [k_0, hx]
    simp only [ob2]
    rw [d1]
    rfl
  · rw [a2, ob1_some, if_neg (by decide), b2, ob1_some, if_neg (by decide), c2, ob1_some, if_neg (by decide), e2, ob1_some, if_neg (by decide)]
    have d5 : p_X10_copies F ko nxo ha mn mh jd jn fi oo ca (nI k) (nI i) (nI u) (nI v) 0 = some (r, ko', nxo', ha', nI m, mn', mh', jd', jn', fi', oo', ca') := d4
    rw [d5]
    rfl
