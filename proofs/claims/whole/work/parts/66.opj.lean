/-! said of some number, of all: class and model together -/
theorem sn_none {sets : AL} {slots : AI} (h : ∀ i, i < 1024 → slots i = nI 0) : sn_ok ((fun _ => 0, fun _ => 0, 0) : bf_T) sets slots := ⟨fun x hx => absurd hx (Nat.not_lt_zero x), fun i hi => Or.inl (h i hi), fun _ _ x _ _ hx => absurd hx (Nat.not_lt_zero x), fun x hx => absurd hx (Nat.not_lt_zero x)⟩
/-- what comes: nothing changed, or a claim's table in class and model -/
def sy_ok (r : Int32) (k0 kt : Nat) (fn fs : AF) (fz ko nxo ha : AI) (fn' fs' : AF) (fz' ko' nxo' ha' : AI) : Prop :=
  (r = -6 ∧ fn' = fn ∧ fs' = fs ∧ fz' = fz ∧ ko' = ko ∧ nxo' = nxo ∧ ha' = ha) ∨ ∃ m TN TS cn cs, r = nI m ∧ m ≤ 60 ∧ au_can m TN TS ∧ fn' = va_up fn k0 cn ∧ fs' = va_up fs k0 cs ∧ fz' = va_up fz k0 (nI m) ∧ ct_at m TN TS cn cs ∧ ko' = upd ko kt (nI m) ∧ mt_at kt m TN TS nxo' ha' ∧ mt_fr kt nxo ha nxo' ha'
theorem say_is {F rm m u k0 k1 i kt : Nat} {N : Nat → Nat → Nat} {S : Nat → Bool} {fn fs : AF} {fz ko nxo ha tb : AI} {tn : Int32} (hF : 5000 ≤ F) (h32 : 32 ≤ rm) (hr : rm ≤ 3600) (hp : pn_ok tb tn) (hc : au_can m N S) (hm : m ≤ 60) (hu : u < 3) (hz : fz k1 = nI m) (h1 : ct_at m N S (fn k1) (fs k1)) (hi : i < 8) (hzm : ko i = nI m) (h2 : mt_at i m N S nxo ha) (hkt : kt < 8) (all : Bool)
    (es : AL) (sets : AL) (slots st kd od nx sy nt so fr : AI) (pct : Int32) (mn mh jd jn fi oo ca : AI) (ms : AL) :
    ∃ r es' ey' sets' slots' cnt' st' kd' od' dc' nx' sy' nt' so' fr' tb' tn' pct' fn' fs' fz' ko' nxo' ha' md' mn' mh' jd' jn' fi' oo' ca' ms', p_X6_say F es sets slots rm st kd od (nI rm) nx sy nt so fr tb tn pct fn fs fz k0 k1 (rm_of rm 300) (nI u) (bI all) = some (r, es', ey', sets', slots', cnt', rm_of rm 300, st', kd', od', nI (rm_of rm 300), dc', nx', sy', nt', so', fr', tb', tn', pct', fn', fs', fz') ∧
      p_X10_quantifies F ko nxo ha mn mh jd jn fi oo ca ms (nI kt) (nI i) (nI u) (bI all) = some (r, ko', nxo', ha', md', mn', mh', jd', jn', fi', oo', ca', ms') ∧ pn_ok tb' tn' ∧ sy_ok r k0 kt fn fs fz ko nxo ha fn' fs' fz' ko' nxo' ha' := by
  have hN := hc.2.1
  have hm0 := hc.1
  obtain ⟨g1, g2, g3, g4⟩ := rm_of_le hr h32 (show 300 ≤ 3600 by omega)
  obtain ⟨es1, ep, hst⟩ := prepare_is hF hm hN hz h1 hu es
  obtain ⟨sl1, ef, hsl, _⟩ := fill_is (N := 1024) (F := F) (by omega) (by omega) (0 : Int32) slots
  obtain ⟨nx1, sy1, nt1, so1, fr1, eb⟩ := begin_dr hr h32 (show 300 ≤ 3600 by omega) (Nat.zero_le 300) nx sy nt so fr
  obtain ⟨n, e1, hn⟩ := firstSet_is hF hm0 hm hN hu hst
  obtain ⟨n', e2, hn'⟩ := mfirst_loop hF hi hm0 hm hN hzm h2 hu F 0 (by omega) (by show 1 ≤ pc 1; rw [pc_1]; omega) (fun y hy => by omega)
  have hnn := hn'.uniq hn
  subst hnn
  have hj0 := fsI_lt hm0 hN hu n'
  generalize hj : fsI m N u n' = j0 at *
  have hY := p2_60 hm (yB_lt (S := S) m (Nat.le_refl m))
  have ok0 : bf_ok ((fun _ => 0, fun _ => 0, 0) : bf_T) := ⟨fun x hx => absurd hx (Nat.not_lt_zero x), fun j => Or.inl rfl⟩
  have b0 : bf_new j0 ((fun _ => 0, fun _ => 0, 0) : bf_T) = bf (sqN m N u) j0 0 := rfl
  have c0 : (bf (sqN m N u) j0 0).2.2 = 1 := bf_zero.1
  have c1 : (bf (sqN m N u) j0 0).1 j0 = 1 := bf_zero.2.2
  obtain ⟨sets1, sl2, es2, hs1⟩ : ∃ sets1 sl2, p_X6_stateFor F sets sl1 (nI 0) (nI (rm_of rm 300)) (nI 0) (lN j0) = some (nI 0, sets1, sl2, nI 1, nI 1) ∧ sn_ok (bf (sqN m N u) j0 0) sets1 sl2 := by
    rcases xstateFor_is (rm := rm_of rm 300) hF ok0 (sn_none (sets := sets) hsl) (Nat.zero_le _) (p2_60 hm hj0) g1 g3 with ⟨a1, sets', slots', e, q⟩ | ⟨a1, e⟩
    · rw [b0, c0, c1] at e
      exact ⟨sets', slots', e, q⟩
    · rw [b0, c0] at a1; omega
  obtain ⟨ms1, em2, hs2⟩ : ∃ ms1, p_X10_setOf F (nI 0) ms (lN j0) = some (nI 0, nI 1, ms1) ∧ sn_at (bf (sqN m N u) j0 0) ms1 := by
    rcases msetOf_is (sets := ms) hF ok0 (fun x hx => absurd hx (Nat.not_lt_zero x)) (Nat.zero_le _) (p2_60 hm hj0) with ⟨a1, sets', e, q⟩ | ⟨a1, e⟩
    · rw [b0, c0, c1] at e
      exact ⟨sets', e, q⟩
    · rw [b0, c0] at a1; omega
  have eg := mgoesOn_is (j := 1) (l := 0) hF hi hm hN hzm h2 hu (by decide) (by omega)
  have eg' : p_X10_goesOn F ko nxo (nI i) (1 : Int64) (0 : Int32) (nI u) = some (lN (sqN m N u 1 0)) := eg
  have e2' : p_X10_quantifies_L19 F ko nxo (nI i) (nI u) F (1 : Int64) (lN (sqN m N u 1 0)) = some (lN j0) := e2
  have em2' : p_X10_setOf F (0 : Int32) ms (lN j0) = some (nI 0, nI 1, ms1) := em2
  have hsz : p_X0_size (fz k1) = some (nI m) := by unfold p_X0_size; rw [hz]
  have eb' : p_X1_begin rm (nI rm) nx sy nt so fr (rm_of rm 300) (0 : Int32) (300 : Int32) = some (rm_of rm 300, nI (rm_of rm 300), nI 0, nx1, sy1, nt1, so1, fr1) := eb
  have efo : p_X7_forget F slots = some (sl1, (0 : Int32)) := by unfold p_X7_forget; rw [ef]; rfl
  have es2' : p_X6_stateFor F sets sl1 (0 : Int32) (nI (rm_of rm 300)) (nI 0) (lN j0) = some (nI 0, sets1, sl2, nI 1, nI 1) := es2
  have hx0 : (bf (sqN m N u) j0 (8 * 0)).2.2 = 1 := c0
  rcases say_loop (fn := fn) (fs := fs) (fz := fz) (k := k1) (rm := rm_of rm 300) hF hm0 hm hN hu hj0 hst g1 g3 hz all hY st kd od nt1 so1 fr1 tb tn pct F 0 sets1 sl2 nx1 sy1 (by omega) (by omega) (by omega) (fun y hy => by omega) hs1 (fun v hv => by omega) (fun v hv => by omega) with ⟨mm, sets2, sl3, nx2, sy2, l1, l2, l3, l4, l5⟩ | ⟨hov, sets2, sl3, c, c', nx2, sy2, l1⟩
  · rcases quant_loop hF hi hm0 hm hN hzm h2 hu hj0 mh jd jn fi oo ca F 0 mn ms1 (by omega) (by omega) (by omega) (fun y hy => by omega) hs2 (fun v hv => by omega) with ⟨mm', mn2, ms2, k1', k2, k3, k4, k5⟩ | ⟨⟨t, hov⟩, _⟩
    · have hmm := k3.uniq l3
      subst hmm
      have hJ : ∀ x, x < mm' → ms2 x = lN ((bf (sqN m N u) j0 (8 * mm')).2.1 x) ∧ (bf (sqN m N u) j0 (8 * mm')).2.1 x < 2 ^ m := fun x hx => by
        have hx2 : x < (bf (sqN m N u) j0 (8 * mm')).2.2 := by rw [l3.1]; exact hx
        exact ⟨(k5 x hx2).1, qw_P hm0 hN hu hj0 (fun v hv => l3.at hv) x hx2⟩
      obtain ⟨mh2, k6, k7⟩ := quant_says hF hi hm hzm h2 all k2 hJ F 0 mh (by omega) (by omega) (fun y hy => by omega)
      have l1' : p_X6_say_L40 F (bI all) (lN (yB S m)) (rm_of rm 300) fz k1 es1 (nI (rm_of rm 300)) (nI u) st kd od nt1 so1 fr1 tb tn pct fn fs F (0 : Int32) sets1 sl2 (nI 1) (nI 1) nx1 sy1 = some (.inr (sets2, sl3, nI mm', nI mm', nx2, sy2)) := l1
      have k1'' : p_X10_quantifies_L64 F ko nxo (nI i) (nI u) ha mh jd jn fi oo ca F (0 : Int32) (nI 1) mn ms1 = some (.inr (nI mm', mn2, ms2)) := k1'
      have k6' : p_X10_quantifies_L139 F (nI mm') ko ha (nI i) ms2 (bI all) F (0 : Int32) mh = some mh2 := k6
      rcases reduceInto_is l3.pos (show mm' ≤ rm_of rm 300 by omega) g3 l3.lt l4 l5 hF hp st kd od so1 fr1 (fn k0) (fs k0) (fz k0) with ⟨q, TN, TS, st', kd', od', so', fr', tb', tn', ct', cn', cs', d1, d2, d3, d4, d5, d6, d7⟩ | ⟨so', fr', tb', tn', ct', d1, d2, d3⟩
      · rcases comes_is l3.pos (show mm' ≤ 3600 by omega) l3.lt k4 k7 hkt (show 3700 ≤ F by omega) (kindsOf := ko) (nextOf := nxo) (holdsAt := ha) (orderOf := oo) (classAt := ca) jd jn fi with ⟨q2, UN, US, nx', ha', jd', jn', fi', oo', ca', f1, f2, f3, f4, f5, f6, f7⟩ | ⟨jd', jn', fi', oo', ca', f1, f2⟩
        · obtain ⟨z1, z2⟩ := mt_glue d4 f3 (d5.tr f4.sy) f5
          subst z1
          refine ⟨nI q, es1, lN (yB S m), sets2, sl3, nI mm', st', kd', od', nI mm', nx2, sy2, nt1, so', fr', tb', tn', ct', va_up fn k0 cn', va_up fs k0 cs', va_up fz k0 (nI q), upd ko kt (nI q), nx', ha', nI mm', mn2, mh2, jd', jn', fi', oo', ca', ms2, ?_, ?_, d2, Or.inr ⟨q, TN, TS, cn', cs', rfl, d3, d4, rfl, rfl, rfl, d6, rfl, z2, f6⟩⟩
          · unfold p_X6_say
            rw [ep]
            simp only [ob2]
            rw [efo]
            simp only [ob8]
            rw [eb']
            simp only []
            rw [hsz, ob1_some, e1, ob1_some, es2']
            simp only [ob5]
            rw [l1']
            simp only [obS6]
            rw [d1]
            rfl
          · unfold p_X10_quantifies
            rw [eg', ob1_some, e2', ob1_some, em2']
            simp only [ob3]
            rw [k1'']
            simp only [obS3]
            rw [k6', ob1_some, f1]
            rfl
        · exact absurd f2 d7
      · rcases comes_is l3.pos (show mm' ≤ 3600 by omega) l3.lt k4 k7 hkt (show 3700 ≤ F by omega) (kindsOf := ko) (nextOf := nxo) (holdsAt := ha) (orderOf := oo) (classAt := ca) jd jn fi with ⟨q2, UN, US, nx', ha', jd', jn', fi', oo', ca', f1, f2, f3, f4, f5, f6, f7⟩ | ⟨jd', jn', fi', oo', ca', f1, f2⟩
        · exact absurd d3 f7
        · refine ⟨-6, es1, lN (yB S m), sets2, sl3, nI mm', st, kd, od, nI mm', nx2, sy2, nt1, so', fr', tb', tn', ct', va_up fn k0 (fn k0), va_up fs k0 (fs k0), va_up fz k0 (fz k0), ko, nxo, ha, nI mm', mn2, mh2, jd', jn', fi', oo', ca', ms2, ?_, ?_, d2, Or.inl ⟨rfl, va_upid _ _, va_upid _ _, va_upid _ _, rfl, rfl, rfl⟩⟩
          · unfold p_X6_say
            rw [ep]
            simp only [ob2]
            rw [efo]
            simp only [ob8]
            rw [eb']
            simp only []
            rw [hsz, ob1_some, e1, ob1_some, es2']
            simp only [ob5]
            rw [l1']
            simp only [obS6]
            rw [d1]
            rfl
          · unfold p_X10_quantifies
            rw [eg', ob1_some, e2', ob1_some, em2']
            simp only [ob3]
            rw [k1'']
            simp only [obS3]
            rw [k6', ob1_some, f1]
            rfl
    · exact absurd l2 (fun q => hov.no l3 q)
  · rcases quant_loop hF hi hm0 hm hN hzm h2 hu hj0 mh jd jn fi oo ca F 0 mn ms1 (by omega) (by omega) (by omega) (fun y hy => by omega) hs2 (fun v hv => by omega) with ⟨mm', mn2, ms2, k1', k2, k3, k4, k5⟩ | ⟨_, md', mn2, ms2, k1'⟩
    · obtain ⟨t, hov⟩ := hov
      exact absurd k2 (fun q => hov.no k3 q)
    · have l1' : p_X6_say_L40 F (bI all) (lN (yB S m)) (rm_of rm 300) fz k1 es1 (nI (rm_of rm 300)) (nI u) st kd od nt1 so1 fr1 tb tn pct fn fs F (0 : Int32) sets1 sl2 (nI 1) (nI 1) nx1 sy1 = _ := l1
      have k1'' : p_X10_quantifies_L64 F ko nxo (nI i) (nI u) ha mh jd jn fi oo ca F (0 : Int32) (nI 1) mn ms1 = _ := k1'
      refine ⟨-6, es1, lN (yB S m), sets2, sl3, c, st, kd, od, c', nx2, sy2, nt1, so1, fr1, tb, tn, pct, fn, fs, fz, ko, nxo, ha, md', mn2, mh, jd, jn, fi, oo, ca, ms2, ?_, ?_, hp, Or.inl ⟨rfl, rfl, rfl, rfl, rfl, rfl, rfl⟩⟩
      · unfold p_X6_say
        rw [ep]
        simp only [ob2]
        rw [efo]
        simp only [ob8]
        rw [eb']
        simp only []
        rw [hsz, ob1_some, e1, ob1_some, es2']
        simp only [ob5]
        rw [l1']
        rfl
      · unfold p_X10_quantifies
        rw [eg', ob1_some, e2', ob1_some, em2']
        simp only [ob3]
        rw [k1'']
        rfl
theorem sy_cls {r : Int32} {k : Nat} {fn fs : AF} {fz ko nxo ha : AI} {fn' fs' : AF} {fz' ko' nxo' ha' : AI} (hcl : rl_cls fn fs fz ko nxo ha) (h : sy_ok r k k fn fs fz ko nxo ha fn' fs' fz' ko' nxo' ha') : rl_cls fn' fs' fz' ko' nxo' ha' := by
  rcases h with ⟨_, rfl, rfl, rfl, rfl, rfl, rfl⟩ | ⟨m, TN, TS, cn, cs, rfl, h60, hc, rfl, rfl, rfl, h1, rfl, h2, h3⟩
  · exact hcl
  · exact rl_put hcl h60 h3 (fun _ => ⟨hc, h1, h2⟩)

theorem op_some {F rm : Nat} {rooms : Int32} (hF : 5000 ≤ F) (hd : rl_dr rm rooms) {tb : AI} {tn : Int32} (hp : pn_ok tb tn) {fn fs : AF} {fz ko nxo ha : AI} (hcl : rl_cls fn fs fz ko nxo ha) (es : AL) (ey : Int64) (sets : AL) (slots : AI) (cnt : Int32) (st kd od nx sy nt so fr : AI) (dct pct : Int32) (md : Int32) (mn mh jd jn fi oo ca : AI) (ms : AL) (v1 v2 v3 : Int32) :
    ∃ r es' ey' sets' slots' cnt' rm' st' kd' od' rooms' dct' nx' sy' nt' so' fr' tb' tn' pct' fn' fs' fz' ko' nxo' ha' md' mn' mh' jd' jn' fi' oo' ca' ms', p_X9_some F es ey sets slots cnt rm st kd od rooms dct nx sy nt so fr tb tn pct fn fs fz rm' v1 v2 v3 = some (r, es', ey', sets', slots', cnt', rm', st', kd', od', rooms', dct', nx', sy', nt', so', fr', tb', tn', pct', fn', fs', fz') ∧ p_X10_some F ko nxo ha md mn mh jd jn fi oo ca ms v1 v2 v3 = some (r, ko', nxo', ha', md', mn', mh', jd', jn', fi', oo', ca', ms') ∧ rl_cls fn' fs' fz' ko' nxo' ha' ∧ rl_dr rm' rooms' ∧ pn_ok tb' tn' ∧ rl_gr rm rm' := by
  obtain ⟨rfl, h32, hr⟩ := hd
  unfold p_X9_some p_X9_sayOf p_X10_some
  rcases isClaim_dec v1 with ⟨a1, a2⟩ | ⟨k, hk, rfl, a1, a2⟩
  · rw [a1, a2]
    exact ⟨-1, es, ey, sets, slots, cnt, rm, st, kd, od, nI rm, dct, nx, sy, nt, so, fr, tb, tn, pct, fn, fs, fz, ko, nxo, ha, md, mn, mh, jd, jn, fi, oo, ca, ms, rfl, rfl, hcl, ⟨rfl, h32, hr⟩, hp, Or.inl rfl⟩
  rcases isClaim_dec v2 with ⟨b1, b2⟩ | ⟨i, hi, rfl, b1, b2⟩
  · rw [a1, a2, b1, b2]
    exact ⟨-1, es, ey, sets, slots, cnt, rm, st, kd, od, nI rm, dct, nx, sy, nt, so, fr, tb, tn, pct, fn, fs, fz, ko, nxo, ha, md, mn, mh, jd, jn, fi, oo, ca, ms, rfl, rfl, hcl, ⟨rfl, h32, hr⟩, hp, Or.inl rfl⟩
  rcases isNumber_dec v3 with ⟨c1, c2⟩ | ⟨u, hu, rfl, c1, c2⟩
  · rw [a1, a2, b1, b2, c1, c2]
    exact ⟨-1, es, ey, sets, slots, cnt, rm, st, kd, od, nI rm, dct, nx, sy, nt, so, fr, tb, tn, pct, fn, fs, fz, ko, nxo, ha, md, mn, mh, jd, jn, fi, oo, ca, ms, rfl, rfl, hcl, ⟨rfl, h32, hr⟩, hp, Or.inl rfl⟩
  rcases there_dec hcl hi with ⟨e1, e2, e3, e4⟩ | ⟨m, N, S, hm, h60, e1, e2, e3, e4, e5, e6, e7⟩
  · rw [a1, a2, b1, b2, c1, c2, e1, e2]
    exact ⟨-3, es, ey, sets, slots, cnt, rm, st, kd, od, nI rm, dct, nx, sy, nt, so, fr, tb, tn, pct, fn, fs, fz, ko, nxo, ha, md, mn, mh, jd, jn, fi, oo, ca, ms, rfl, rfl, hcl, ⟨rfl, h32, hr⟩, hp, Or.inl rfl⟩
  obtain ⟨g1, g2, g3, g4⟩ := rm_of_le hr h32 (show 300 ≤ 3600 by omega)
  obtain ⟨r, es', ey', sets', slots', cnt', st', kd', od', dc', nx', sy', nt', so', fr', tb', tn', pct', fn', fs', fz', ko', nxo', ha', md', mn', mh', jd', jn', fi', oo', ca', ms', d1, d2, d3, d4⟩ := say_is (k0 := k) (kt := k) hF h32 hr hp e5 h60 hu e3 e6 (show i < 8 by omega) e4 e7 (show k < 8 by omega) false es sets slots st kd od nx sy nt so fr pct mn mh jd jn fi oo ca ms
  refine ⟨r, es', ey', sets', slots', cnt', rm_of rm 300, st', kd', od', nI (rm_of rm 300), dc', nx', sy', nt', so', fr', tb', tn', pct', fn', fs', fz', ko', nxo', ha', md', mn', mh', jd', jn', fi', oo', ca', ms', ?_, ?_, sy_cls hcl d4, ⟨rfl, by omega, g3⟩, d3, g4⟩
  · rw [a1, ob1_some, if_neg (by decide), b1, ob1_some, if_neg (by decide), c1, ob1_some, if_neg (by decide), e1, ob1_some, if_neg (by decide)]
    simp (disch := omega) only [gi_nI, nI_clamp]
    have d1' : p_X6_say F es sets slots rm st kd od (nI rm) nx sy nt so fr tb tn pct fn fs fz k i (rm_of rm 300) (nI u) (0 : Int32) = _ := d1
    rw [d1']
    rfl
  · rw [a2, ob1_some, if_neg (by decide), b2, ob1_some, if_neg (by decide), c2, ob1_some, if_neg (by decide), e2, ob1_some, if_neg (by decide)]
    have d2' : p_X10_quantifies F ko nxo ha mn mh jd jn fi oo ca ms (nI k) (nI i) (nI u) (0 : Int32) = _ := d2
    rw [d2']
    rfl

theorem op_all {F rm : Nat} {rooms : Int32} (hF : 5000 ≤ F) (hd : rl_dr rm rooms) {tb : AI} {tn : Int32} (hp : pn_ok tb tn) {fn fs : AF} {fz ko nxo ha : AI} (hcl : rl_cls fn fs fz ko nxo ha) (es : AL) (ey : Int64) (sets : AL) (slots : AI) (cnt : Int32) (st kd od nx sy nt so fr : AI) (dct pct : Int32) (md : Int32) (mn mh jd jn fi oo ca : AI) (ms : AL) (v1 v2 v3 : Int32) :
    ∃ r es' ey' sets' slots' cnt' rm' st' kd' od' rooms' dct' nx' sy' nt' so' fr' tb' tn' pct' fn' fs' fz' ko' nxo' ha' md' mn' mh' jd' jn' fi' oo' ca' ms', p_X9_all F es ey sets slots cnt rm st kd od rooms dct nx sy nt so fr tb tn pct fn fs fz rm' v1 v2 v3 = some (r, es', ey', sets', slots', cnt', rm', st', kd', od', rooms', dct', nx', sy', nt', so', fr', tb', tn', pct', fn', fs', fz') ∧ p_X10_all F ko nxo ha md mn mh jd jn fi oo ca ms v1 v2 v3 = some (r, ko', nxo', ha', md', mn', mh', jd', jn', fi', oo', ca', ms') ∧ rl_cls fn' fs' fz' ko' nxo' ha' ∧ rl_dr rm' rooms' ∧ pn_ok tb' tn' ∧ rl_gr rm rm' := by
  obtain ⟨rfl, h32, hr⟩ := hd
  unfold p_X9_all p_X9_sayOf p_X10_all
  rcases isClaim_dec v1 with ⟨a1, a2⟩ | ⟨k, hk, rfl, a1, a2⟩
  · rw [a1, a2]
    exact ⟨-1, es, ey, sets, slots, cnt, rm, st, kd, od, nI rm, dct, nx, sy, nt, so, fr, tb, tn, pct, fn, fs, fz, ko, nxo, ha, md, mn, mh, jd, jn, fi, oo, ca, ms, rfl, rfl, hcl, ⟨rfl, h32, hr⟩, hp, Or.inl rfl⟩
  rcases isClaim_dec v2 with ⟨b1, b2⟩ | ⟨i, hi, rfl, b1, b2⟩
  · rw [a1, a2, b1, b2]
    exact ⟨-1, es, ey, sets, slots, cnt, rm, st, kd, od, nI rm, dct, nx, sy, nt, so, fr, tb, tn, pct, fn, fs, fz, ko, nxo, ha, md, mn, mh, jd, jn, fi, oo, ca, ms, rfl, rfl, hcl, ⟨rfl, h32, hr⟩, hp, Or.inl rfl⟩
  rcases isNumber_dec v3 with ⟨c1, c2⟩ | ⟨u, hu, rfl, c1, c2⟩
  · rw [a1, a2, b1, b2, c1, c2]
    exact ⟨-1, es, ey, sets, slots, cnt, rm, st, kd, od, nI rm, dct, nx, sy, nt, so, fr, tb, tn, pct, fn, fs, fz, ko, nxo, ha, md, mn, mh, jd, jn, fi, oo, ca, ms, rfl, rfl, hcl, ⟨rfl, h32, hr⟩, hp, Or.inl rfl⟩
  rcases there_dec hcl hi with ⟨e1, e2, e3, e4⟩ | ⟨m, N, S, hm, h60, e1, e2, e3, e4, e5, e6, e7⟩
  · rw [a1, a2, b1, b2, c1, c2, e1, e2]
    exact ⟨-3, es, ey, sets, slots, cnt, rm, st, kd, od, nI rm, dct, nx, sy, nt, so, fr, tb, tn, pct, fn, fs, fz, ko, nxo, ha, md, mn, mh, jd, jn, fi, oo, ca, ms, rfl, rfl, hcl, ⟨rfl, h32, hr⟩, hp, Or.inl rfl⟩
  obtain ⟨g1, g2, g3, g4⟩ := rm_of_le hr h32 (show 300 ≤ 3600 by omega)
  obtain ⟨r, es', ey', sets', slots', cnt', st', kd', od', dc', nx', sy', nt', so', fr', tb', tn', pct', fn', fs', fz', ko', nxo', ha', md', mn', mh', jd', jn', fi', oo', ca', ms', d1, d2, d3, d4⟩ := say_is (k0 := k) (kt := k) hF h32 hr hp e5 h60 hu e3 e6 (show i < 8 by omega) e4 e7 (show k < 8 by omega) true es sets slots st kd od nx sy nt so fr pct mn mh jd jn fi oo ca ms
  refine ⟨r, es', ey', sets', slots', cnt', rm_of rm 300, st', kd', od', nI (rm_of rm 300), dc', nx', sy', nt', so', fr', tb', tn', pct', fn', fs', fz', ko', nxo', ha', md', mn', mh', jd', jn', fi', oo', ca', ms', ?_, ?_, sy_cls hcl d4, ⟨rfl, by omega, g3⟩, d3, g4⟩
  · rw [a1, ob1_some, if_neg (by decide), b1, ob1_some, if_neg (by decide), c1, ob1_some, if_neg (by decide), e1, ob1_some, if_neg (by decide)]
    simp (disch := omega) only [gi_nI, nI_clamp]
    have d1' : p_X6_say F es sets slots rm st kd od (nI rm) nx sy nt so fr tb tn pct fn fs fz k i (rm_of rm 300) (nI u) (1 : Int32) = _ := d1
    rw [d1']
    rfl
  · rw [a2, ob1_some, if_neg (by decide), b2, ob1_some, if_neg (by decide), c2, ob1_some, if_neg (by decide), e2, ob1_some, if_neg (by decide)]
    have d2' : p_X10_quantifies F ko nxo ha mn mh jd jn fi oo ca ms (nI k) (nI i) (nI u) (1 : Int32) = _ := d2
    rw [d2']
    rfl

