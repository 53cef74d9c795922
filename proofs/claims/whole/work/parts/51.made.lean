/-! a draft begun, written; what class and model make of machines that accept the same -/
/-- the rooms that come for w states -/
def rm_of (rm w : Nat) : Nat := if w ≤ rm then rm else min 3600 (max w (2 * rm))
theorem rm_of_le {rm w : Nat} (h : rm ≤ 3600) (h0 : 32 ≤ rm) (hw : w ≤ 3600) : w ≤ rm_of rm w ∧ rm ≤ rm_of rm w ∧ rm_of rm w ≤ 3600 ∧ rl_gr rm (rm_of rm w) := by
  unfold rm_of rl_gr
  split <;> omega
theorem begin_dr {rm w c : Nat} (h : rm ≤ 3600) (h0 : 32 ≤ rm) (hw : w ≤ 3600) (hc : c ≤ w) (nx sy nt so fr : AI) :
    ∃ nx' sy' nt' so' fr', p_X1_begin rm (nI rm) nx sy nt so fr (rm_of rm w) (nI c) (nI w) = some (rm_of rm w, nI (rm_of rm w), nI c, nx', sy', nt', so', fr') := by
  obtain ⟨a1, a2, a3, a4⟩ := rm_of_le h h0 hw
  have key : ∃ nx' sy' nt' so' fr', p_X1_makeRoom rm (nI rm) nx sy nt so fr (rm_of rm w) (nI w) = some (rm_of rm w, nI (rm_of rm w), nx', sy', nt', so', fr') := by
    unfold p_X1_makeRoom
    rw [ite_lt (by omega) (by omega)]
    by_cases hl : rm < w
    · rw [if_pos hl]
      have e1 : (if nI w < (2 : Int32) * nI rm then (2 : Int32) * nI rm else nI w) = nI (max w (2 * rm)) := by
        rw [k_2, pk_mul, ite_lt (by omega) (by omega)]
        split
        · rw [Nat.max_eq_right (by omega)]
        · rw [Nat.max_eq_left (by omega)]
      have e2 : (if nI (max w (2 * rm)) < (3600 : Int32) then nI (max w (2 * rm)) else (3600 : Int32)) = nI (rm_of rm w) := by
        have e3 : rm_of rm w = min 3600 (max w (2 * rm)) := by unfold rm_of; rw [if_neg (by omega)]
        rw [e3, k_3600, ite_lt (by omega) (by omega)]
        split
        · rw [Nat.min_eq_right (by omega)]
        · rw [Nat.min_eq_left (by omega)]
      rw [e1, e2]
      have hgt : rm < rm_of rm w := by omega
      unfold gm
      rw [nI_clamp (by omega), if_pos ⟨nI_pos' (by omega), by rw [k_3600]; exact nI_le a3 (by omega), hgt, rfl⟩]
      exact ⟨_, _, _, _, _, rfl⟩
    · rw [if_neg hl]
      have : rm_of rm w = rm := by unfold rm_of; rw [if_pos (by omega)]
      rw [this]
      exact ⟨nx, sy, nt, so, fr, rfl⟩
  obtain ⟨nx', sy', nt', so', fr', e⟩ := key
  unfold p_X1_begin
  rw [e]
  simp only [ob7]
  refine ⟨nx', sy', nt', so', fr', ?_⟩
  have e1 : (if nI (rm_of rm w) < nI c then nI (rm_of rm w) else nI c) = nI c := by rw [ite_lt (by omega) (by omega), if_neg (by omega)]
  rw [e1, k_0, ite_lt (by omega) (by omega)]
  by_cases hc0 : 0 < c
  · rw [if_pos hc0]
  · rw [if_neg hc0, show c = 0 by omega]
theorem dwrite_is {n rm s c : Nat} (hnr : n ≤ rm) (hr : rm ≤ 3600) (hs : s < n) (hc : c < 8) (nx : AI) (v : Int32) : p_X1_write rm (nI n) nx (nI s) (nI c) v = some (upd nx (s * 8 + c) v) := by
  unfold p_X1_write
  rw [isState_is (by omega) hs, ob1_some, if_neg (by decide), isColumn_is hc, ob1_some, if_neg (by decide), k_8]
  simp (disch := omega) only [pk_mul, nI_add, gi_nI, nI_clamp]
theorem dwriteSays_is {n rm s : Nat} (hnr : n ≤ rm) (hr : rm ≤ 3600) (hs : s < n) (sy : AI) (b : Bool) : p_X1_writeSays rm (nI n) sy (nI s) (bI b) = some (upd sy s (bI b)) := by
  unfold p_X1_writeSays
  rw [isState_is (by omega) hs, ob1_some, if_neg (by decide)]
  simp (disch := omega) only [gi_nI, nI_clamp, bI_and]
theorem leads_is {s c : Nat} (hs : s < 3600) (hc : c < 8) (nx : AI) (v : Int32) : p_X10_leads nx (nI s) (nI c) v = some (upd nx (8 * s + c) v) := by
  unfold p_X10_leads
  rw [k_8]
  simp (disch := omega) only [pk_mul, nI_add, gi_nI, nI_clamp]
theorem au_few {n : Nat} {N : Nat → Nat → Nat} {S : Nat → Bool} (hn : n ≤ 60) : ¬ au_many n N S := by
  rintro ⟨f, h1, h2⟩
  have : 61 ≤ n := ph_le (h := f) h1 (fun i j hi hj e => by
    by_cases hij : i = j
    · exact hij
    · exact absurd (by rw [e]; exact au_eq.rf) (h2 i j hi hj hij))
  omega
theorem made_glue {n1 n2 rm k F : Nat} {N1 N2 : Nat → Nat → Nat} {S1 S2 : Nat → Bool} {d_next d_says madeNext madeHolds : AI} (h10 : 0 < n1) (h1r : n1 ≤ rm) (hr : rm ≤ 3600) (hN1 : ∀ s, s < n1 → ∀ c, c < 8 → N1 s c < n1) (hd1 : dm_N n1 N1 d_next) (hS1 : mm_S n1 S1 d_says)
    (h20 : 0 < n2) (h23 : n2 ≤ 3600) (hN2 : ∀ s, s < n2 → ∀ c, c < 8 → N2 s c < n2) (hm2 : mm_N n2 N2 madeNext) (hS2 : mm_S n2 S2 madeHolds) (hk : k < 6) (hF : 5000 ≤ F) {table : AI} {turn : Int32} (hp : pn_ok table turn) (heq : au_eq N1 S1 0 N2 S2 0) (hmy : au_many n1 N1 S1 ↔ au_many n2 N2 S2)
    {fn fs : AF} {fz kindsOf nextOf holdsAt : AI} (hcl : rl_cls fn fs fz kindsOf nextOf holdsAt) (st kd od so fr jd0 jn0 fi0 oo0 ca0 : AI) :
    ∃ r st' kd' od' so' fr' tb' tn' ct' cn' cs' cz' ko' nx' ha' jd jn fi oo ca, p_X1_reduceInto F rm st kd od (nI n1) d_next d_says so fr table turn (fn k) (fs k) (fz k) = some (r, st', kd', od', so', fr', tb', tn', ct', cn', cs', cz') ∧
      p_X10_comes F kindsOf nextOf holdsAt (nI n2) madeNext madeHolds jd0 jn0 fi0 oo0 ca0 (nI k) = some (r, ko', nx', ha', jd, jn, fi, oo, ca) ∧ pn_ok tb' tn' ∧ rl_cls (va_up fn k cn') (va_up fs k cs') (va_up fz k cz') ko' nx' ha' := by
  rcases reduceInto_is h10 h1r hr hN1 hd1 hS1 hF hp st kd od so fr (fn k) (fs k) (fz k) with ⟨m, TN, TS, st', kd', od', so', fr', tb', tn', ct', cn', cs', e, q1, q2, q3, q4, q5, q6⟩ | ⟨so', fr', tb', tn', ct', e, q1, q2⟩
  · rcases comes_is h20 h23 hN2 hm2 hS2 (show k < 8 by omega) (show 3700 ≤ F by omega) (kindsOf := kindsOf) (nextOf := nextOf) (holdsAt := holdsAt) (orderOf := oo0) (classAt := ca0) jd0 jn0 fi0 with ⟨m2, UN, US, nx', ha', jd, jn, fi, oo, ca, e2, r1, r2, r3, r4, r5, r6⟩ | ⟨jd, jn, fi, oo, ca, e2, r1⟩
    · obtain ⟨g1, g2⟩ := mt_glue q3 r2 ((q4.tr heq).tr r3.sy) r4
      subst g1
      exact ⟨_, st', kd', od', so', fr', tb', tn', ct', cn', cs', _, _, nx', ha', jd, jn, fi, oo, ca, e, e2, q1, rl_put hcl q2 r5 (fun _ => ⟨q3, q5, g2⟩)⟩
    · exact absurd (hmy.mpr r1) q6
  · rcases comes_is h20 h23 hN2 hm2 hS2 (show k < 8 by omega) (show 3700 ≤ F by omega) (kindsOf := kindsOf) (nextOf := nextOf) (holdsAt := holdsAt) (orderOf := oo0) (classAt := ca0) jd0 jn0 fi0 with ⟨m2, UN, US, nx', ha', jd, jn, fi, oo, ca, e2, r1, r2, r3, r4, r5, r6⟩ | ⟨jd, jn, fi, oo, ca, e2, r1⟩
    · exact absurd (hmy.mp q2) r6
    · refine ⟨_, st, kd, od, so', fr', tb', tn', ct', _, _, _, _, _, _, jd, jn, fi, oo, ca, e, e2, q1, ?_⟩
      rw [va_upid, va_upid, va_upid]
      exact hcl
/-! digits -/
def dg (c u : Nat) : Nat := c / 2 ^ u % 2
theorem dg_lt (c u : Nat) : dg c u < 2 := Nat.mod_lt _ (by omega)
theorem shr_u {c u : Nat} (hc : c < 2 ^ 31) (hu : u < 31) : nI c >>> (nI u &&& (31 : Int32)) = nI (c / 2 ^ u) := by
  refine pk_shrN hc _ u ?_
  have : ∀ u, u < 31 → ((nI u &&& (31 : Int32)).toBitVec.smod 32).toNat = u := by decide
  exact this u hu
theorem and_1 {c : Nat} (hc : c < 2 ^ 31) : nI c &&& (1 : Int32) = nI (c % 2) := pk_andN (by omega) 1 (by decide)
theorem digitOf_is {c u : Nat} (hc : c < 2 ^ 31) (hu : u < 31) : p_X9_digitOf (nI c) (nI u) = some (nI (dg c u)) := by
  unfold p_X9_digitOf dg
  rw [shr_u hc hu, and_1 (Nat.lt_of_le_of_lt (Nat.div_le_self _ _) hc)]
theorem digit_is {c u : Nat} (hc : c < 2 ^ 31) (hu : u < 31) : p_X10_digit (nI c) (nI u) = some (nI (dg c u)) := by
  unfold p_X10_digit dg
  rw [shr_u hc hu, and_1 (Nat.lt_of_le_of_lt (Nat.div_le_self _ _) hc)]
