/-! least -/
theorem fillL_loop {N : Nat} (hN : N < 2 ^ 31) (v : Int64) : ∀ (f i : Nat) (arr : AL), i ≤ N → N + 1 ≤ f + i → (∀ j, j < i → arr j = v) → ∃ arr', p_J7_fill_d0a16_L6 N v f (nI i) arr = some arr' ∧ ∀ j, j < N → arr' j = v := by
  intro f
  induction f with
  | zero => intro i arr h1 h2; omega
  | succ f ih =>
    intro i arr hi hf h
    rw [p_J7_fill_d0a16_L6, show Int32.ofNat N = nI N from rfl, ite_le (by omega) (by omega)]
    by_cases hni : N ≤ i
    · rw [if_pos hni]
      exact ⟨arr, rfl, fun j hj => h j (by omega)⟩
    · rw [if_neg hni]
      simp (disch := omega) only [gi_nI, nI_clamp, nI_1]
      refine ih (i + 1) _ (by omega) (by omega) (fun j hj => ?_)
      by_cases hji : j = i
      · rw [hji, pk_uLs]
      · rw [pk_uLn hji]; exact h j (by omega)
theorem mnone_loop : ∀ (f i : Nat) (arr : AL), i ≤ 60 → 61 ≤ f + i → (∀ j, j < i → arr j = -9) → ∃ arr', p_X10_leastBy_L2 f (nI i) arr = some arr' ∧ ∀ j, j < 60 → arr' j = -9 := by
  intro f
  induction f with
  | zero => intro i arr h1 h2; omega
  | succ f ih =>
    intro i arr hi hf h
    rw [p_X10_leastBy_L2, k_60, ite_le (by omega) (by omega)]
    by_cases hni : 60 ≤ i
    · rw [if_pos hni]
      exact ⟨arr, rfl, fun j hj => h j (by omega)⟩
    · rw [if_neg hni]
      simp (disch := omega) only [gi_nI, nI_clamp, nI_1]
      refine ih (i + 1) _ (by omega) (by omega) (fun j hj => ?_)
      by_cases hji : j = i
      · rw [hji, pk_uLs]
      · rw [pk_uLn hji]; exact h j (by omega)
theorem shl_fin : ∀ u, u < 3 → ((1 : Int32) <<< (nI u &&& (31 : Int32))) = nI (1 * 2 ^ u) ∧ ∀ b, b < 2 → (nI b <<< (nI u &&& (31 : Int32))) = nI (b * 2 ^ u) ∧ b * 2 ^ u < 8 := by decide +kernel
theorem cmp_pos {v : Nat} (h : v < 2 ^ 60) : ¬ lg_cmp (lN v) (0 : Int64) < 0 := by
  unfold lg_cmp
  split
  · decide
  · rename_i h1
    split
    · decide
    · rename_i h2
      exfalso
      have a : ¬ lN 0 < lN v := h1
      rw [pk_lLT (by decide) (by omega)] at a
      exact h2 (by rw [show v = 0 by omega]; rfl)
theorem cmp_m1 : lg_cmp (-1 : Int64) (0 : Int64) < 0 := by decide
theorem lN_m9 {v : Nat} (h : v < 2 ^ 60) : ¬ lN v = (-9 : Int64) := by
  intro q
  have := congrArg Int64.toInt q
  rw [pk_lT (by omega)] at this
  have e : (-9 : Int64).toInt = -9 := by decide
  omega
section LEAST
variable {m u : Nat} {N : Nat → Nat → Nat} {S : Nat → Bool}
/-- the kinds come to and the least numbers that come to them; e: what stands at others -/
def ls_ok (m : Nat) (e : Int64) (b : bf_T) (V : Nat → Nat) (lt : AL) (wt : AI) : Prop := bc b wt ∧ ∀ y, y < m → lt y = if b.1 y = 0 then e else lN (V y)
def ls_V (b : bf_T) (V : Nat → Nat) : Prop := ∀ x, x < b.2.2 → V (b.2.1 x) < 2 ^ x
theorem ls_V.lt {b : bf_T} {V : Nat → Nat} (h : ls_V b V) (hok : bf_ok b) (hb : b.2.2 ≤ 60) {y : Nat} (hy : b.1 y ≠ 0) : V y < 2 ^ 60 := by
  obtain ⟨a1, a2⟩ := (hok.2 y).resolve_left hy
  have := h _ a1
  rw [a2] at this
  exact p2_60 (by omega) this
def ls_up (b : bf_T) (V : Nat → Nat) (y w : Nat) : Nat → Nat := if b.1 y = 0 then va_up V y w else V
theorem ls_V.up {b : bf_T} {V : Nat → Nat} (h : ls_V b V) {y w : Nat} (hok : bf_ok b) (hw : w < 2 ^ b.2.2) : ls_V (bf_new y b) (ls_up b V y w) := by
  intro x hx
  unfold ls_up
  by_cases hz : b.1 y = 0
  · have en : bf_new y b = (va_up b.1 y (b.2.2 + 1), va_up b.2.1 b.2.2 y, b.2.2 + 1) := by unfold bf_new; rw [if_pos hz]
    rw [if_pos hz]
    rw [en] at hx
    have hx : x < b.2.2 + 1 := hx
    by_cases hxx : x = b.2.2
    · have oc : (bf_new y b).2.1 b.2.2 = y := by rw [en]; exact va_up_self _ _ _
      rw [hxx, oc, va_up_self]; exact hw
    · rw [bf_new_cls (by omega), va_up_ne]
      · exact h x (by omega)
      · intro q
        have := hok.1 x (by omega)
        rw [q, hz] at this
        omega
  · rw [if_neg hz]
    have en : bf_new y b = b := by unfold bf_new; rw [if_neg hz]
    rw [en] at hx ⊢
    exact h x hx
theorem ls_new {e : Int64} {b : bf_T} {V : Nat → Nat} {lt : AL} {wt : AI} {y w : Nat} (h : ls_ok m e b V lt wt) (hz : b.1 y = 0) : ls_ok m e (bf_new y b) (ls_up b V y w) (vp_updL lt y (lN w)) (upd wt b.2.2 (nI y)) := by
  have en : bf_new y b = (va_up b.1 y (b.2.2 + 1), va_up b.2.1 b.2.2 y, b.2.2 + 1) := by unfold bf_new; rw [if_pos hz]
  have em : (bf_new y b).2.2 = b.2.2 + 1 := by rw [en]
  have o : (bf_new y b).1 y = b.2.2 + 1 := by rw [en]; exact va_up_self _ _ _
  have oc : (bf_new y b).2.1 b.2.2 = y := by rw [en]; exact va_up_self _ _ _
  unfold ls_up
  rw [if_pos hz]
  refine ⟨fun x hx => ?_, fun z hz2 => ?_⟩
  · rw [em] at hx
    by_cases hxx : x = b.2.2
    · rw [hxx, upd_self, oc]
    · rw [upd_ne _ _ hxx, bf_new_cls (by omega)]; exact h.1 x (by omega)
  · by_cases hzy : z = y
    · rw [hzy, pk_uLs, o, if_neg (by omega), va_up_self]
    · have o2 : (bf_new y b).1 z = b.1 z := by rw [en]; exact va_up_ne _ _ hzy
      rw [pk_uLn hzy, o2, va_up_ne _ _ hzy]; exact h.2 z hz2
theorem ls_old {b : bf_T} {V : Nat → Nat} {y w : Nat} (hz : b.1 y ≠ 0) : bf_new y b = b ∧ ls_up b V y w = V := by
  unfold bf_new ls_up
  rw [if_neg hz, if_neg hz]
  exact ⟨rfl, rfl⟩
theorem comeTo_is {b : bf_T} {V : Nat → Nat} {lt : AL} {wt : AI} {y w : Nat} (hm : m ≤ 60) (hok : bf_ok b) (hP : ∀ x, x < b.2.2 → b.2.1 x < m) (h : ls_ok m (-1) b V lt wt) (hV : ls_V b V) (hy : y < m) :
    ∃ lt' wt', p_X8_comeTo lt wt (nI y) (lN w) (nI b.2.2) = some (nI (bf_new y b).2.2, lt', wt') ∧ ls_ok m (-1) (bf_new y b) (ls_up b V y w) lt' wt' := by
  have hfit := bf_fit hok hP
  have hy2 := h.2 y hy
  unfold p_X8_comeTo
  rw [if_neg (nI_pos (by omega)), k_60, ite_le (by omega) (by omega), if_neg (by omega), if_neg (nI_pos (by omega)), ite_le (by omega) (by omega)]
  by_cases hz : b.1 y = 0
  · have hroom := bf_room hok hP hy hz
    have em : (bf_new y b).2.2 = b.2.2 + 1 := by unfold bf_new; rw [if_pos hz]
    rw [if_pos hz] at hy2
    rw [if_neg (by omega)]
    simp (disch := omega) only [gi_nI, nI_clamp, nI_1, hy2]
    rw [if_pos cmp_m1, em]
    exact ⟨_, _, rfl, ls_new h hz⟩
  · obtain ⟨en, eu⟩ := ls_old (V := V) (w := w) hz
    rw [if_neg hz] at hy2
    rw [en, eu]
    by_cases h6 : 60 ≤ b.2.2
    · rw [if_pos h6]
      exact ⟨lt, wt, rfl, h⟩
    · rw [if_neg h6]
      simp (disch := omega) only [gi_nI, nI_clamp, hy2]
      rw [if_neg (cmp_pos (hV.lt hok (by omega) hz))]
      exact ⟨lt, wt, rfl, h⟩
theorem leastBits {k : Nat} {nxo ha : AI} (hk : k < 8) (hm : m ≤ 60) (hu : u < 3) (hN : ∀ s, s < m → ∀ c, c < 8 → N s c < m) (h : mt_at k m N S nxo ha) {b : bf_T} {V : Nat → Nat} {x y w bit : Nat} {qu0 qu : AI} {lt : AL} (hok : bf_ok b) (hP : ∀ x, x < b.2.2 → b.2.1 x < m) (hl : ls_ok m (-9) b V lt qu) (hV : ls_V b V) (hx : x < 60) (hq : qu0 x = nI y) (hy : y < m) (hvy : b.1 y ≠ 0) (hVy : V y = w) (hb : bit < 2) (f : Nat) :
    ∃ lt' qu', p_X10_leastBy_L78 nxo (nI k) qu0 (nI x) (nI u) (f + 1) (nI b.2.2) (nI bit) qu lt = p_X10_leastBy_L78 nxo (nI k) qu0 (nI x) (nI u) f (nI (bf_new (N y (bit * 2 ^ u)) b).2.2) (nI (bit + 1)) qu' lt' ∧ ls_ok m (-9) (bf_new (N y (bit * 2 ^ u)) b) (ls_up b V (N y (bit * 2 ^ u)) (2 * w + bit)) lt' qu' := by
  have hfit := bf_fit hok hP
  obtain ⟨s1, s2⟩ := shl_fin u hu
  obtain ⟨s3, s4⟩ := s2 bit hb
  have hto := hN y hy _ s4
  have hyv := hl.2 y hy
  rw [if_neg hvy, hVy] at hyv
  have hy2 := hl.2 _ hto
  rw [p_X10_leastBy_L78]
  simp only [show ((2 : Int32) ≤ nI bit) = (nI 2 ≤ nI bit) from rfl]
  rw [ite_le (by omega) (by omega), if_neg (by omega), nI_clamp (by omega), hq, s3, next_is h hk hm hy s4, ob1_some]
  by_cases hz : b.1 (N y (bit * 2 ^ u)) = 0
  · have hroom := bf_room hok hP hto hz
    have em : (bf_new (N y (bit * 2 ^ u)) b).2.2 = b.2.2 + 1 := by unfold bf_new; rw [if_pos hz]
    rw [if_pos hz] at hy2
    simp (disch := omega) only [gi_nI, nI_clamp, nI_1, hy2, hyv]
    rw [if_pos ((cmp0 _ _).mpr rfl), nI_l (by omega), show (2 : Int64) = lN 2 from rfl, lN_mul, lN_add, em]
    simp only [ob3]
    exact ⟨_, _, rfl, ls_new hl hz⟩
  · obtain ⟨en, eu⟩ := ls_old (V := V) (w := 2 * w + bit) hz
    rw [if_neg hz] at hy2
    rw [en, eu]
    simp (disch := omega) only [gi_nI, nI_clamp, nI_1, hy2]
    rw [if_neg (fun q => lN_m9 (hV.lt hok (by omega) hz) ((cmp0 _ _).mp q))]
    simp only [ob3]
    exact ⟨lt, qu, rfl, hl⟩
theorem least_loop {k k0 F : Nat} {nxo ha : AI} {fn fs : AF} {fz : AI} (hF : 5000 ≤ F) (hk : k < 8) (hm : m ≤ 60) (hu : u < 3) (hN : ∀ s, s < m → ∀ c, c < 8 → N s c < m) (hz : fz k0 = nI m) (h1 : ct_at m N S (fn k0) (fs k0)) (h2 : mt_at k m N S nxo ha) :
    ∀ (f x : Nat) (b : bf_T) (V : Nat → Nat) (lt : AL) (wt : AI) (ltm : AL) (qu : AI), 61 ≤ f + x → x ≤ b.2.2 → bf_ok b → (∀ x, x < b.2.2 → b.2.1 x < m) → ls_V b V → ls_ok m (-1) b V lt wt → ls_ok m (-9) b V ltm qu →
      (∃ r lt' wt' ltm' qu', p_X8_leastOf_L21 fs k0 fz fn (nI u) f (nI b.2.2) (nI x) lt wt = some (.inl (r, lt', wt')) ∧ p_X10_leastBy_L42 F ha (nI k) nxo (nI u) f (nI b.2.2) (nI x) qu ltm = some (.inl (r, qu', ltm'))) ∨
      (∃ lt' wt' ltm' qu', p_X8_leastOf_L21 fs k0 fz fn (nI u) f (nI b.2.2) (nI x) lt wt = some (.inr (lt', wt')) ∧ p_X10_leastBy_L42 F ha (nI k) nxo (nI u) f (nI b.2.2) (nI x) qu ltm = some (.inr (qu', ltm'))) := by
  intro f
  induction f with
  | zero =>
    intro x b V lt wt ltm qu hf hx hok hP
    have := bf_fit hok hP
    omega
  | succ f ih =>
    intro x b V lt wt ltm qu hf hx hok hP hV hl hlm
    have hfit := bf_fit hok hP
    rw [p_X8_leastOf_L21, p_X10_leastBy_L42, k_60, ite_le (by omega) (by omega)]
    by_cases hmx : b.2.2 ≤ x
    · rw [if_pos hmx]
      simp only [if_pos (nI_le hmx (show x < 2 ^ 31 by omega))]
      exact Or.inr ⟨lt, wt, ltm, qu, rfl, rfl⟩
    · have hxl : x < b.2.2 := by omega
      have hwx := hl.1 x hxl
      have hqx := hlm.1 x hxl
      have hkm := hP x hxl
      have hbx : b.1 (b.2.1 x) ≠ 0 := by rw [hok.1 x hxl]; omega
      generalize hkk : b.2.1 x = kd at *
      have hlk := hl.2 kd hkm
      have hlmk := hlm.2 kd hkm
      rw [if_neg hbx] at hlk hlmk
      have hVk : V kd < 2 ^ x := by rw [← hkk]; exact hV x hxl
      rw [if_neg hmx, ite_le (by omega) (by omega), if_neg (by omega)]
      simp only [if_neg (nI_ge hxl (show b.2.2 < 2 ^ 31 by omega))]
      have hln : p_X8_leastNumberTo lt (nI kd) = some (lN (V kd)) := by
        unfold p_X8_leastNumberTo
        rw [if_neg (nI_pos (by omega)), k_60, ite_le (by omega) (by omega), if_neg (by omega)]
        simp (disch := omega) only [gi_nI, nI_clamp, hlk]
      simp (disch := omega) only [gi_nI, nI_clamp, hwx, hqx, hlmk]
      rw [hln, ob1_some, hz, saysAt_is h1 hm hkm, ob1_some, holdsIn_is h2 hk hm hkm, ob1_some, ite_b0]
      simp only [ite_b0]
      cases hS : S kd
      · have hfalse : ¬ (false = true) := by decide
        simp only [if_neg hfalse]
        obtain ⟨s1, s2⟩ := shl_fin u hu
        have n0 := hN kd hkm 0 (by omega)
        have n1 := hN kd hkm (1 * 2 ^ u) (s2 1 (by omega)).2
        have a0 := after_is h1 hm hkm (show 0 < 8 by omega)
        have a0' : p_X0_after (fn k0) (nI m) (nI kd) (0 : Int32) = some (nI (N kd 0)) := a0
        rw [a0', ob1_some, s1, after_is h1 hm hkm (s2 1 (by omega)).2, show (2 : Int64) = lN 2 from rfl, lN_mul]
        have hw0 : 2 * V kd < 2 ^ b.2.2 := Nat.lt_of_lt_of_le (show 2 * V kd < 2 ^ (x + 1) by rw [Nat.pow_succ]; omega) (Nat.pow_le_pow_right (by decide) (by omega))
        obtain ⟨lt1, wt1, c1, q1⟩ := comeTo_is (w := 2 * V kd) hm hok hP hl hV n0
        have hok1 := bf_new_ok (j := N kd 0) hok
        have hP1 : ∀ x, x < (bf_new (N kd 0) b).2.2 → (bf_new (N kd 0) b).2.1 x < m := bf_newP (P := fun j => j < m) hP n0
        have hV1 := hV.up (y := N kd 0) (w := 2 * V kd) hok hw0
        have hmn1 : b.2.2 ≤ (bf_new (N kd 0) b).2.2 := bf_new_many
        have hw1 : 2 * V kd + 1 < 2 ^ (bf_new (N kd 0) b).2.2 := Nat.lt_of_lt_of_le (show 2 * V kd + 1 < 2 ^ (x + 1) by rw [Nat.pow_succ]; omega) (Nat.pow_le_pow_right (by decide) (by omega))
        obtain ⟨lt2, wt2, c2, q2⟩ := comeTo_is (w := 2 * V kd + 1) hm hok1 hP1 q1 hV1 n1
        rw [c1]
        simp only [ob3, ob1_some]
        rw [lN_1, c2]
        have zx : (0 : Nat) * 2 ^ u = 0 := Nat.zero_mul _
        obtain ⟨ltm1, qu1, d1, e1⟩ := leastBits (bit := 0) hk hm hu hN h2 hok hP hlm hV (show x < 60 by omega) hqx hkm hbx rfl (by omega) (F - 1)
        rw [zx] at d1 e1
        have hbx1 : (bf_new (N kd 0) b).1 kd ≠ 0 := by rw [bf_new_ord hbx]; exact hbx
        have hVk1 : ls_up b V (N kd 0) (2 * V kd) kd = V kd := by
          unfold ls_up
          by_cases hz2 : b.1 (N kd 0) = 0
          · rw [if_pos hz2, va_up_ne]
            intro q
            rw [← q] at hz2
            exact hbx hz2
          · rw [if_neg hz2]
        obtain ⟨ltm2, qu2, d2, e2⟩ := leastBits (bit := 1) hk hm hu hN h2 hok1 hP1 e1 hV1 (show x < 60 by omega) hqx hkm hbx1 hVk1 (by omega) (F - 2)
        have dend : p_X10_leastBy_L78 nxo (nI k) qu (nI x) (nI u) (F - 2) (nI (bf_new (N kd (1 * 2 ^ u)) (bf_new (N kd 0) b)).2.2) (nI (1 + 1)) qu2 ltm2 = some (nI (bf_new (N kd (1 * 2 ^ u)) (bf_new (N kd 0) b)).2.2, qu2, ltm2) := by
          rw [show F - 2 = (F - 3) + 1 by omega, p_X10_leastBy_L78, if_pos (by decide)]
        have d1' : p_X10_leastBy_L78 nxo (nI k) qu (nI x) (nI u) F (nI b.2.2) (0 : Int32) qu ltm = some (nI (bf_new (N kd (1 * 2 ^ u)) (bf_new (N kd 0) b)).2.2, qu2, ltm2) := by
          have t1 : p_X10_leastBy_L78 nxo (nI k) qu (nI x) (nI u) F (nI b.2.2) (0 : Int32) qu ltm = p_X10_leastBy_L78 nxo (nI k) qu (nI x) (nI u) (F - 1) (nI (bf_new (N kd 0) b).2.2) (nI (0 + 1)) qu1 ltm1 := by
            rw [show F - 1 + 1 = F by omega] at d1
            exact d1
          rw [t1]
          have t2 : p_X10_leastBy_L78 nxo (nI k) qu (nI x) (nI u) (F - 1) (nI (bf_new (N kd 0) b).2.2) (nI (0 + 1)) qu1 ltm1 = p_X10_leastBy_L78 nxo (nI k) qu (nI x) (nI u) (F - 2) (nI (bf_new (N kd (1 * 2 ^ u)) (bf_new (N kd 0) b)).2.2) (nI (1 + 1)) qu2 ltm2 := by
            rw [show F - 2 + 1 = F - 1 by omega] at d2
            exact d2
          rw [t2, dend]
        rw [d1']
        simp only []
        rw [nI_1]
        have hmn2 : (bf_new (N kd 0) b).2.2 ≤ (bf_new (N kd (1 * 2 ^ u)) (bf_new (N kd 0) b)).2.2 := bf_new_many
        exact ih (x + 1) _ _ lt2 wt2 ltm2 qu2 (by omega) (by omega) (bf_new_ok hok1) (bf_newP (P := fun j => j < m) hP1 n1) (hV1.up hok1 hw1) q2 e2
      · simp only [if_pos rfl]
        exact Or.inl ⟨lN (V kd), lt, wt, ltm, qu, rfl, rfl⟩
theorem least_pair {k k0 F : Nat} {nxo ha : AI} {fn fs : AF} {fz : AI} (hF : 5000 ≤ F) (hk : k < 8) (hm0 : 0 < m) (hm : m ≤ 60) (hu : u < 3) (hN : ∀ s, s < m → ∀ c, c < 8 → N s c < m) (hz : fz k0 = nI m) (h1 : ct_at m N S (fn k0) (fs k0)) (h2 : mt_at k m N S nxo ha) (lt : AL) (wt : AI) (ltm : AL) (qu : AI) :
    ∃ r lt' wt' ltm' qu', p_X8_leastOf F lt wt fn fs fz k0 (nI u) = some (r, lt', wt') ∧ p_X10_leastBy F nxo ha qu ltm (nI k) (nI u) = some (r, qu', ltm') := by
  obtain ⟨lt1, e1, q1⟩ := fillL_loop (N := 60) (by omega) (-1) F 0 lt (by omega) (by omega) (fun j hj => by omega)
  obtain ⟨ltm1, e2, q2⟩ := mnone_loop F 0 ltm (by omega) (by omega) (fun j hj => by omega)
  have ok0 : bf_ok ((fun _ => 0, fun _ => 0, 0) : bf_T) := ⟨fun x hx => absurd hx (Nat.not_lt_zero x), fun j => Or.inl rfl⟩
  have hV0 : ls_V ((fun _ => 0, fun _ => 0, 0) : bf_T) (fun _ => 0) := fun x hx => absurd hx (Nat.not_lt_zero x)
  have hlc : ls_ok m (-1) ((fun _ => 0, fun _ => 0, 0) : bf_T) (fun _ => 0) lt1 wt := ⟨fun x hx => absurd hx (Nat.not_lt_zero x), fun y hy => by rw [if_pos rfl]; exact q1 y (by omega)⟩
  have hlm : ls_ok m (-9) ((fun _ => 0, fun _ => 0, 0) : bf_T) (fun _ => 0) ltm1 qu := ⟨fun x hx => absurd hx (Nat.not_lt_zero x), fun y hy => by rw [if_pos rfl]; exact q2 y (by omega)⟩
  obtain ⟨lt2, wt2, c1, q3⟩ := comeTo_is (w := 0) hm ok0 (fun x hx => absurd hx (Nat.not_lt_zero x)) hlc hV0 hm0
  have q4 := ls_new (w := 0) (y := 0) hlm rfl
  have hn1 : (bf_new 0 ((fun _ => 0, fun _ => 0, 0) : bf_T)).2.2 = 1 := rfl
  have loop := least_loop hF hk hm hu hN hz h1 h2 F 0 (bf_new 0 ((fun _ => 0, fun _ => 0, 0) : bf_T)) _ lt2 wt2 (vp_updL ltm1 0 (lN 0)) (upd qu 0 (nI 0)) (by omega) (by omega) (bf_new_ok ok0) (bf_newP (P := fun j => j < m) (fun x hx => absurd hx (Nat.not_lt_zero x)) hm0) (hV0.up ok0 (by decide)) q3 q4
  rw [hn1] at loop c1
  have e1' : p_J7_fill_d0a16_L6 60 (-1) F (0 : Int32) lt = some lt1 := e1
  have e2' : p_X10_leastBy_L2 F (0 : Int32) ltm = some ltm1 := e2
  have c1' : p_X8_comeTo lt1 wt (0 : Int32) (0 : Int64) (0 : Int32) = some (nI 1, lt2, wt2) := c1
  unfold p_X8_leastOf p_J7_fill_d0a16 p_X10_leastBy
  rw [e1', ob1_some, ob1_some, c1', e2', ob1_some]
  simp only [ob3]
  have g0 : ∀ {α : Type} (k : Option α), gi (0 : Int32) 60 k = k := fun k => gi_nI (j := 0) k (by omega) (by omega)
  simp only [g0]
  rcases loop with ⟨r, lt', wt', ltm', qu', d1, d2⟩ | ⟨lt', wt', ltm', qu', d1, d2⟩
  · have d1' : p_X8_leastOf_L21 fs k0 fz fn (nI u) F (nI 1) (0 : Int32) lt2 wt2 = _ := d1
    have d2' : p_X10_leastBy_L42 F ha (nI k) nxo (nI u) F (1 : Int32) (0 : Int32) (upd qu (0 : Int32).toNatClampNeg (0 : Int32)) (vp_updL ltm1 (0 : Int32).toNatClampNeg (0 : Int64)) = _ := d2
    rw [d1', d2']
    exact ⟨r, lt', wt', ltm', qu', rfl, rfl⟩
  · have d1' : p_X8_leastOf_L21 fs k0 fz fn (nI u) F (nI 1) (0 : Int32) lt2 wt2 = _ := d1
    have d2' : p_X10_leastBy_L42 F ha (nI k) nxo (nI u) F (1 : Int32) (0 : Int32) (upd qu (0 : Int32).toNatClampNeg (0 : Int32)) (vp_updL ltm1 (0 : Int32).toNatClampNeg (0 : Int64)) = _ := d2
    rw [d1', d2']
    exact ⟨-9, lt', wt', ltm', qu', rfl, rfl⟩
end LEAST
theorem rl_far {k kt m : Nat} {fn fs : AF} {fz ko nxo ha : AI} {cn cs : AI} {z zt : Int32} {nxo' ha' : AI} (hcl : rl_cls fn fs fz ko nxo ha) (hk : 6 ≤ k) (hkt : 6 ≤ kt) (hf : mt_fr kt nxo ha nxo' ha') : rl_cls (va_up fn k cn) (va_up fs k cs) (va_up fz k z) (upd ko kt zt) nxo' ha' := by
  intro k' hk'
  obtain ⟨m', N', S', a1, a2, a3, a4⟩ := hcl k' hk'
  refine ⟨m', N', S', by rw [va_up_ne _ _ (by omega)]; exact a1, by rw [upd_ne _ _ (by omega)]; exact a2, a3, fun h0 => ?_⟩
  rw [va_up_ne _ _ (by omega), va_up_ne _ _ (by omega)]
  obtain ⟨b1, b2, b3⟩ := a4 h0
  exact ⟨b1, b2, b3.fr hf (by omega) a3⟩
theorem rm_of_2 {rm : Nat} (h : 300 ≤ rm_of rm 300) : rm_of (rm_of rm 300) 300 = rm_of rm 300 := if_pos h
theorem least_u (u : Nat) (hu : u < 3) : ∃ a b, a < 3 ∧ b < 3 ∧ (if nI u = 0 then some (1 : Int32) else some (0 : Int32)) = some (nI a) ∧ ((3 : Int32) - nI u) - nI a = nI b ∧ (if nI u = (2 : Int32) then some (1 : Int32) else some (2 : Int32)) = some (nI b) := by
  rcases (show u = 0 ∨ u = 1 ∨ u = 2 by omega) with rfl | rfl | rfl
  · exact ⟨1, 2, by decide⟩
  · exact ⟨0, 2, by decide⟩
  · exact ⟨0, 1, by decide⟩

theorem op_least {F rm : Nat} {rooms : Int32} (hF : 5000 ≤ F) (hd : rl_dr rm rooms) {tb : AI} {tn : Int32} (hp : pn_ok tb tn) {fn fs : AF} {fz ko nxo ha : AI} (hcl : rl_cls fn fs fz ko nxo ha) (es : AL) (ey : Int64) (sets : AL) (slots : AI) (cnt : Int32) (lt : AL) (wt st kd od nx sy nt so fr : AI) (dct pct : Int32) (md : Int32) (mn mh jd jn fi oo ca : AI) (ms : AL) (qu : AI) (ltm : AL) (v1 v2 : Int32) :
    ∃ r es' ey' sets' slots' cnt' lt' wt' rm' st' kd' od' rooms' dct' nx' sy' nt' so' fr' tb' tn' pct' fn' fs' fz' ko' nxo' ha' md' mn' mh' jd' jn' fi' oo' ca' ms' qu' ltm', p_X9_least F es ey sets slots cnt lt wt rm st kd od rooms dct nx sy nt so fr tb tn pct fn fs fz rm' rm' v1 v2 = some (r, es', ey', sets', slots', cnt', lt', wt', rm', st', kd', od', rooms', dct', nx', sy', nt', so', fr', tb', tn', pct', fn', fs', fz') ∧ p_X10_least F ko nxo ha md mn mh jd jn fi oo ca ms qu ltm v1 v2 = some (r, ko', nxo', ha', md', mn', mh', jd', jn', fi', oo', ca', ms', qu', ltm') ∧ rl_cls fn' fs' fz' ko' nxo' ha' ∧ rl_dr rm' rooms' ∧ pn_ok tb' tn' ∧ rl_gr rm rm' := by
  obtain ⟨rfl, h32, hr⟩ := hd
  unfold p_X9_least p_X10_least
  rcases isClaim_dec v1 with ⟨a1, a2⟩ | ⟨k, hk, rfl, a1, a2⟩
  · rw [a1, a2]
    exact ⟨-1, es, ey, sets, slots, cnt, lt, wt, rm, st, kd, od, nI rm, dct, nx, sy, nt, so, fr, tb, tn, pct, fn, fs, fz, ko, nxo, ha, md, mn, mh, jd, jn, fi, oo, ca, ms, qu, ltm, rfl, rfl, hcl, ⟨rfl, h32, hr⟩, hp, Or.inl rfl⟩
  rcases isNumber_dec v2 with ⟨b1, b2⟩ | ⟨u, hu, rfl, b1, b2⟩
  · rw [a1, a2, b1, b2]
    exact ⟨-1, es, ey, sets, slots, cnt, lt, wt, rm, st, kd, od, nI rm, dct, nx, sy, nt, so, fr, tb, tn, pct, fn, fs, fz, ko, nxo, ha, md, mn, mh, jd, jn, fi, oo, ca, ms, qu, ltm, rfl, rfl, hcl, ⟨rfl, h32, hr⟩, hp, Or.inl rfl⟩
  rcases there_dec hcl hk with ⟨e1, e2, e3, e4⟩ | ⟨m, N, S, hm, h60, e1, e2, e3, e4, e5, e6, e7⟩
  · rw [a1, a2, b1, b2, e1, e2]
    exact ⟨-3, es, ey, sets, slots, cnt, lt, wt, rm, st, kd, od, nI rm, dct, nx, sy, nt, so, fr, tb, tn, pct, fn, fs, fz, ko, nxo, ha, md, mn, mh, jd, jn, fi, oo, ca, ms, qu, ltm, rfl, rfl, hcl, ⟨rfl, h32, hr⟩, hp, Or.inl rfl⟩
  obtain ⟨a, b, ha3, hb3, u1, u2, u3⟩ := least_u u hu
  obtain ⟨g1, g2, g3, g4⟩ := rm_of_le hr h32 (show 300 ≤ 3600 by omega)
  obtain ⟨r, es1, ey1, sets1, slots1, cnt1, st1, kd1, od1, dc1, nx1, sy1, nt1, so1, fr1, tb1, tn1, pct1, fn1, fs1, fz1, ko1, nxo1, ha1, md1, mn1, mh1, jd1, jn1, fi1, oo1, ca1, ms1, d1, d2, d3, d4⟩ := say_is (k0 := 6) (kt := 6) hF h32 hr hp e5 h60 ha3 e3 e6 (show k < 8 by omega) e4 e7 (show 6 < 8 by omega) false es sets slots st kd od nx sy nt so fr pct mn mh jd jn fi oo ca ms
  have d1' : p_X6_say F es sets slots rm st kd od (nI rm) nx sy nt so fr tb tn pct fn fs fz 6 k (rm_of rm 300) (nI a) (0 : Int32) = _ := d1
  have d2' : p_X10_quantifies F ko nxo ha mn mh jd jn fi oo ca ms (6 : Int32) (nI k) (nI a) (0 : Int32) = _ := d2
  have m6 : ∀ {n : Nat}, n ≤ 60 → ¬ nI n = (-6 : Int32) := fun hn q => by
    have q2 := congrArg Int32.toInt q
    rw [nI_toInt (by omega)] at q2
    have : (-6 : Int32).toInt = -6 := by decide
    omega
  rcases d4 with ⟨rfl, rfl, rfl, rfl, rfl, rfl, rfl⟩ | ⟨m1, N1, S1, cn1, cs1, rfl, m60, can1, rfl, rfl, rfl, t1, rfl, t2, t3⟩
  · refine ⟨-6, es1, ey1, sets1, slots1, cnt1, lt, wt, rm_of rm 300, st1, kd1, od1, nI (rm_of rm 300), dc1, nx1, sy1, nt1, so1, fr1, tb1, tn1, pct1, fn1, fs1, fz1, ko1, nxo1, ha1, md1, mn1, mh1, jd1, jn1, fi1, oo1, ca1, ms1, qu, ltm, ?_, ?_, hcl, ⟨rfl, by omega, g3⟩, d3, g4⟩
    · rw [a1, ob1_some, if_neg (by decide), b1, ob1_some, if_neg (by decide), e1, ob1_some, if_neg (by decide), u1, ob1_some]
      simp (disch := omega) only [gi_nI, nI_clamp]
      rw [d1']
      simp only [ob23]
      rw [if_pos trivial]
    · rw [a2, ob1_some, if_neg (by decide), b2, ob1_some, if_neg (by decide), e2, ob1_some, if_neg (by decide), u1, ob1_some, u3, ob1_some, d2']
      simp only [ob13]
      rw [if_pos trivial]
  · have hcl1 := rl_far (m := m1) (k := 6) (kt := 6) (cn := cn1) (cs := cs1) (z := nI m1) (zt := nI m1) hcl (by omega) (by omega) t3
    obtain ⟨r2, es2, ey2, sets2, slots2, cnt2, st2, kd2, od2, dc2, nx2, sy2, nt2, so2, fr2, tb2, tn2, pct2, fn2, fs2, fz2, ko2, nxo2, ha2, md2, mn2, mh2, jd2, jn2, fi2, oo2, ca2, ms2, f1, f2, f3, f4⟩ := say_is (fn := va_up fn 6 cn1) (fs := va_up fs 6 cs1) (fz := va_up fz 6 (nI m1)) (ko := upd ko 6 (nI m1)) (k0 := 6) (k1 := 6) (i := 6) (kt := 7) hF (show 32 ≤ rm_of rm 300 by omega) g3 d3 can1 m60 hb3 (va_up_self _ _ _) (by rw [va_up_self, va_up_self]; exact t1) (show 6 < 8 by omega) (upd_self _ _ _) t2 (show 7 < 8 by omega) false es1 sets1 slots1 st1 kd1 od1 nx1 sy1 nt1 so1 fr1 pct1 mn1 mh1 jd1 jn1 fi1 oo1 ca1 ms1
    rw [rm_of_2 g1] at f1
    have f1' : p_X6_say F es1 sets1 slots1 (rm_of rm 300) st1 kd1 od1 (nI (rm_of rm 300)) nx1 sy1 nt1 so1 fr1 tb1 tn1 pct1 (va_up fn 6 cn1) (va_up fs 6 cs1) (va_up fz 6 (nI m1)) 6 6 (rm_of rm 300) (nI b) (0 : Int32) = _ := f1
    have f2' : p_X10_quantifies F (upd ko 6 (nI m1)) nxo1 ha1 mn1 mh1 jd1 jn1 fi1 oo1 ca1 ms1 (7 : Int32) (6 : Int32) (nI b) (0 : Int32) = _ := f2
    have gqt : ∀ {α : Type} (k : Option α), gq (rm_of rm 300) (rm_of rm 300) k = k := fun k => by unfold gq; rw [if_pos rfl]
    rcases f4 with ⟨rfl, rfl, rfl, rfl, rfl, rfl, rfl⟩ | ⟨m2, N2, S2, cn2, cs2, rfl, m60b, can2, rfl, rfl, rfl, w1, rfl, w2, w3⟩
    · refine ⟨-6, es2, ey2, sets2, slots2, cnt2, lt, wt, rm_of rm 300, st2, kd2, od2, nI (rm_of rm 300), dc2, nx2, sy2, nt2, so2, fr2, tb2, tn2, pct2, _, _, _, _, _, _, md2, mn2, mh2, jd2, jn2, fi2, oo2, ca2, ms2, qu, ltm, ?_, ?_, hcl1, ⟨rfl, by omega, g3⟩, f3, g4⟩
      · rw [a1, ob1_some, if_neg (by decide), b1, ob1_some, if_neg (by decide), e1, ob1_some, if_neg (by decide), u1, ob1_some]
        simp (disch := omega) only [gi_nI, nI_clamp]
        rw [d1']
        simp only [ob23]
        rw [if_neg (m6 m60), gqt, u2, f1']
        simp only []
        rw [if_pos trivial]
      · rw [a2, ob1_some, if_neg (by decide), b2, ob1_some, if_neg (by decide), e2, ob1_some, if_neg (by decide), u1, ob1_some, u3, ob1_some, d2']
        simp only [ob13]
        rw [if_neg (m6 m60), f2']
        simp only []
        rw [if_pos trivial]
    · have hcl2 := rl_far (m := m2) (k := 6) (kt := 7) (cn := cn2) (cs := cs2) (z := nI m2) (zt := nI m2) hcl1 (by omega) (by omega) w3
      obtain ⟨r3, lt3, wt3, ltm3, qu3, l1, l2⟩ := least_pair (k := 7) (k0 := 6) (fn := va_up (va_up fn 6 cn1) 6 cn2) (fs := va_up (va_up fs 6 cs1) 6 cs2) (fz := va_up (va_up fz 6 (nI m1)) 6 (nI m2)) hF (by omega) can2.1 m60b hu can2.2.1 (va_up_self _ _ _) (by rw [va_up_self, va_up_self]; exact w1) w2 lt wt ltm qu
      have l2' : p_X10_leastBy F nxo2 ha2 qu ltm (7 : Int32) (nI u) = _ := l2
      refine ⟨if lg_cmp r3 (1000000000 : Int64) ≤ 0 then r3.toInt32 else -5, es2, ey2, sets2, slots2, cnt2, lt3, wt3, rm_of rm 300, st2, kd2, od2, nI (rm_of rm 300), dc2, nx2, sy2, nt2, so2, fr2, tb2, tn2, pct2, _, _, _, _, _, _, md2, mn2, mh2, jd2, jn2, fi2, oo2, ca2, ms2, qu3, ltm3, ?_, ?_, hcl2, ⟨rfl, by omega, g3⟩, f3, g4⟩
      · rw [a1, ob1_some, if_neg (by decide), b1, ob1_some, if_neg (by decide), e1, ob1_some, if_neg (by decide), u1, ob1_some]
        simp (disch := omega) only [gi_nI, nI_clamp]
        rw [d1']
        simp only [ob23]
        rw [if_neg (m6 m60), gqt, u2, f1']
        simp only []
        rw [if_neg (m6 m60b), l1]
        simp only [ob3]
        split <;> rfl
      · rw [a2, ob1_some, if_neg (by decide), b2, ob1_some, if_neg (by decide), e2, ob1_some, if_neg (by decide), u1, ob1_some, u3, ob1_some, d2']
        simp only [ob13]
        rw [if_neg (m6 m60), f2']
        simp only []
        rw [if_neg (m6 m60b), l2']
        simp only [ob3]
        split <;> rfl

