/-! which numbers are there: class and model alike -/
theorem within_is (v : Int32) {n : Nat} (hn : n < 2 ^ 31 - 1) : (p_X10_within v 0 (nI n) = some 0 ∧ (v < 0 ∨ nI n < v)) ∨ ∃ j, j ≤ n ∧ v = nI j ∧ p_X10_within v 0 (nI n) = some 1 := by
  unfold p_X10_within
  rcases pk_ix v (n := n + 1) (by omega) with h | h | ⟨j, hj, rfl⟩
  · left
    rw [if_pos h, gb_in _ (by decide)]
    exact ⟨rfl, Or.inl h⟩
  · left
    have h0 : ¬ v < 0 := fun q => by
      have a := Int32.lt_iff_toInt_lt.mp q
      have b := Int32.le_iff_toInt_le.mp h
      rw [nI_toInt (by omega)] at b
      have z : (0 : Int32).toInt = 0 := by decide
      omega
    have h1 : nI n < v := by
      have b := Int32.le_iff_toInt_le.mp h
      rw [nI_toInt (by omega)] at b
      exact Int32.lt_iff_toInt_lt.mpr (by rw [nI_toInt (by omega)]; omega)
    rw [if_neg h0, if_pos h1, gb_in _ (by decide)]
    exact ⟨rfl, Or.inr h1⟩
  · right
    rw [if_neg (nI_pos (by omega)), if_neg (nI_nlt (by omega) (by omega)), gb_in _ (by decide)]
    exact ⟨j, by omega, rfl, rfl⟩
/-- a check of the class by 'less than 0' and 'not less than n' -/
theorem chk_is (v : Int32) {n : Nat} (hn : n < 2 ^ 31) : ((if v < 0 then gb 0 (some 0) else (if nI n ≤ v then gb 0 (some 0) else gb 1 (some 1))) = some (0 : Int32) ∧ (v < 0 ∨ nI n ≤ v)) ∨ ∃ j, j < n ∧ v = nI j ∧ (if v < 0 then gb 0 (some 0) else (if nI n ≤ v then gb 0 (some 0) else gb 1 (some 1))) = some (1 : Int32) := by
  rcases pk_ix v (n := n) hn with h | h | ⟨j, hj, rfl⟩
  · left
    rw [if_pos h, gb_in _ (by decide)]
    exact ⟨rfl, Or.inl h⟩
  · left
    by_cases h0 : v < 0
    · rw [if_pos h0, gb_in _ (by decide)]
      exact ⟨rfl, Or.inr h⟩
    · rw [if_neg h0, if_pos h, gb_in _ (by decide)]
      exact ⟨rfl, Or.inr h⟩
  · right
    rw [if_neg (nI_pos (by omega)), if_neg (nI_ge hj (by omega)), gb_in _ (by decide)]
    exact ⟨j, hj, rfl, rfl⟩
theorem two_ways {v : Int32} {n j : Nat} (h : v < 0 ∨ nI (n + 1) ≤ v) (hj : j ≤ n) (hn : n < 2 ^ 31 - 1) (e : v = nI j) : False := by
  subst e
  rcases h with h | h
  · exact nI_pos (by omega) h
  · exact nI_ge (show j < n + 1 by omega) (by omega) h
/-- one check of both: they say no, or it is a number below n + 1 and both say yes -/
theorem both_chk (v : Int32) {n : Nat} (hn : n < 2 ^ 31 - 1) : ((if v < 0 then gb 0 (some 0) else (if nI (n + 1) ≤ v then gb 0 (some 0) else gb 1 (some 1))) = some (0 : Int32) ∧ p_X10_within v 0 (nI n) = some 0) ∨ ∃ j, j ≤ n ∧ v = nI j ∧ (if v < 0 then gb 0 (some 0) else (if nI (n + 1) ≤ v then gb 0 (some 0) else gb 1 (some 1))) = some (1 : Int32) ∧ p_X10_within v 0 (nI n) = some 1 := by
  rcases chk_is v (n := n + 1) (by omega) with ⟨a, a2⟩ | ⟨j, hj, e, a⟩
  · rcases within_is v hn with ⟨b, _⟩ | ⟨j, hj, e, b⟩
    · exact Or.inl ⟨a, b⟩
    · exact absurd (two_ways a2 hj hn e) id
  · rcases within_is v hn with ⟨b, b2⟩ | ⟨j', hj', e', b⟩
    · exfalso
      subst e
      rcases b2 with q | q
      · exact nI_pos (by omega) q
      · exact nI_nlt (show j ≤ n by omega) (by omega) q
    · exact Or.inr ⟨j, by omega, e, a, b⟩
theorem isClaim_dec (v : Int32) : (p_X9_isClaim v = some 0 ∧ p_X10_isClaim v = some 0) ∨ ∃ j, j < 6 ∧ v = nI j ∧ p_X9_isClaim v = some 1 ∧ p_X10_isClaim v = some 1 := by
  rcases both_chk v (n := 5) (by omega) with ⟨a, b⟩ | ⟨j, hj, e, a, b⟩
  · refine Or.inl ⟨a, ?_⟩
    unfold p_X10_isClaim
    rw [show (5 : Int32) = nI 5 from rfl, b]
    rfl
  · refine Or.inr ⟨j, by omega, e, a, ?_⟩
    unfold p_X10_isClaim
    rw [show (5 : Int32) = nI 5 from rfl, b]
    rfl
theorem isNumber_dec (v : Int32) : (p_X9_isNumber v = some 0 ∧ p_X10_isNumber v = some 0) ∨ ∃ j, j < 3 ∧ v = nI j ∧ p_X9_isNumber v = some 1 ∧ p_X10_isNumber v = some 1 := by
  rcases both_chk v (n := 2) (by omega) with ⟨a, b⟩ | ⟨j, hj, e, a, b⟩
  · refine Or.inl ⟨a, ?_⟩
    unfold p_X10_isNumber
    rw [show (2 : Int32) = nI 2 from rfl, b]
    rfl
  · refine Or.inr ⟨j, by omega, e, a, ?_⟩
    unfold p_X10_isNumber
    rw [show (2 : Int32) = nI 2 from rfl, b]
    rfl
theorem isPlace_dec (v : Int32) : (p_X9_isPlace v = some 0 ∧ p_X10_isPlace v = some 0) ∨ ∃ j, j < 5 ∧ v = nI j ∧ p_X9_isPlace v = some 1 ∧ p_X10_isPlace v = some 1 := by
  rcases both_chk v (n := 4) (by omega) with ⟨a, b⟩ | ⟨j, hj, e, a, b⟩
  · refine Or.inl ⟨a, ?_⟩
    unfold p_X10_isPlace
    rw [show (4 : Int32) = nI 4 from rfl, b]
    rfl
  · refine Or.inr ⟨j, by omega, e, a, ?_⟩
    unfold p_X10_isPlace
    rw [show (4 : Int32) = nI 4 from rfl, b]
    rfl
theorem isTelling_dec (v : Int32) : (p_X9_isTelling v = some 0 ∧ p_X10_within v 0 2 = some 0) ∨ ∃ j, j < 3 ∧ v = nI j ∧ p_X9_isTelling v = some 1 ∧ p_X10_within v 0 2 = some 1 := by
  rcases both_chk v (n := 2) (by omega) with ⟨a, b⟩ | ⟨j, hj, e, a, b⟩
  · exact Or.inl ⟨a, b⟩
  · exact Or.inr ⟨j, by omega, e, a, b⟩
theorem isTold_dec (v : Int32) : (p_X9_isTold v = some 0 ∧ p_X10_within v 0 1000000000 = some 0) ∨ ∃ j, j ≤ 1000000000 ∧ v = nI j ∧ p_X9_isTold v = some 1 ∧ p_X10_within v 0 1000000000 = some 1 := by
  unfold p_X9_isTold
  rcases within_is v (n := 1000000000) (by omega) with ⟨b, b2⟩ | ⟨j, hj, e, b⟩
  · refine Or.inl ⟨?_, b⟩
    rcases b2 with q | q
    · rw [if_pos q, gb_in _ (by decide)]
    · by_cases h0 : v < 0
      · rw [if_pos h0, gb_in _ (by decide)]
      · rw [if_neg h0, show (1000000000 : Int32) = nI 1000000000 from rfl, if_pos q, gb_in _ (by decide)]
  · refine Or.inr ⟨j, hj, e, ?_, b⟩
    subst e
    rw [if_neg (nI_pos (by omega)), show (1000000000 : Int32) = nI 1000000000 from rfl, if_neg (nI_nlt hj (by omega)), gb_in _ (by decide)]
theorem areTwo_dec (u v : Int32) : (p_X9_areTwoNumbers u v = some 0 ∧ p_X10_areTwo u v = some 0) ∨ ∃ a b, a < 3 ∧ b < 3 ∧ a ≠ b ∧ u = nI a ∧ v = nI b ∧ p_X9_areTwoNumbers u v = some 1 ∧ p_X10_areTwo u v = some 1 := by
  unfold p_X9_areTwoNumbers p_X10_areTwo
  rcases isNumber_dec u with ⟨a1, a2⟩ | ⟨a, ha, rfl, a1, a2⟩
  · rw [a1, a2]
    exact Or.inl ⟨rfl, rfl⟩
  · rw [a1, a2]
    rcases isNumber_dec v with ⟨b1, b2⟩ | ⟨b, hb, rfl, b1, b2⟩
    · rw [b1, b2]
      exact Or.inl ⟨rfl, rfl⟩
    · rw [b1, b2]
      simp only [ob1_some]
      rw [if_neg (by decide), if_neg (by decide), ite_eq (by omega) (by omega)]
      by_cases hab : a = b
      · rw [if_pos hab]
        exact Or.inl ⟨rfl, rfl⟩
      · rw [if_neg hab]
        exact Or.inr ⟨a, b, ha, hb, hab, rfl, rfl, rfl, rfl⟩
/-! the relation of class and model -/
def rl_row (goes told onBy toldBy : AI) : Prop := (∀ i, i < 10 → goes i = onBy i ∧ ∃ x, x < 5 ∧ onBy i = nI x) ∧ (∀ i, i < 5 → told i = toldBy i ∧ ∃ x, x < 3 ∧ toldBy i = nI x) ∧ onBy 0 = nI 0
def rl_cl (k : Nat) (fn fs : AF) (fz kindsOf nextOf holdsAt : AI) : Prop := ∃ m N S, fz k = nI m ∧ kindsOf k = nI m ∧ m ≤ 60 ∧ (0 < m → au_can m N S ∧ ct_at m N S (fn k) (fs k) ∧ mt_at k m N S nextOf holdsAt)
def rl_cls (fn fs : AF) (fz kindsOf nextOf holdsAt : AI) : Prop := ∀ k, k < 6 → rl_cl k fn fs fz kindsOf nextOf holdsAt
def rl_dr (rm : Nat) (rooms : Int32) : Prop := rooms = nI rm ∧ 32 ≤ rm ∧ rm ≤ 3600
def rl_gr (rm rm' : Nat) : Prop := rm' = rm ∨ (2 * rm ≤ rm' ∧ rm' ≤ 3600) ∨ (rm < 3600 ∧ rm' = 3600)
theorem mt_at.fr {k k' m : Nat} {N : Nat → Nat → Nat} {S : Nat → Bool} {nextOf holdsAt nextOf' holdsAt' : AI} (h : mt_at k' m N S nextOf holdsAt) (hf : mt_fr k nextOf holdsAt nextOf' holdsAt') (hk : k' ≠ k) (hm : m ≤ 60) : mt_at k' m N S nextOf' holdsAt' := by
  refine ⟨fun x c hx hc => ?_, fun x hx => ?_⟩
  · rw [hf.1 _ (by omega)]; exact h.1 x c hx hc
  · rw [hf.2 _ (by omega)]; exact h.2 x hx
/-- one claim put, the others as they were -/
theorem rl_put {fn fs : AF} {fz kindsOf nextOf holdsAt nextOf' holdsAt' : AI} (h : rl_cls fn fs fz kindsOf nextOf holdsAt) {k m : Nat} {nx sy : AI} {N : Nat → Nat → Nat} {S : Nat → Bool} (hm : m ≤ 60) (hf : mt_fr k nextOf holdsAt nextOf' holdsAt') (hc : 0 < m → au_can m N S ∧ ct_at m N S nx sy ∧ mt_at k m N S nextOf' holdsAt') : rl_cls (va_up fn k nx) (va_up fs k sy) (va_up fz k (nI m)) (upd kindsOf k (nI m)) nextOf' holdsAt' := by
  intro k' hk'
  by_cases hkk : k' = k
  · subst hkk
    refine ⟨m, N, S, va_up_self _ _ _, upd_self _ _ _, hm, fun h0 => ?_⟩
    rw [va_up_self, va_up_self]
    exact hc h0
  · obtain ⟨m', N', S', a1, a2, a3, a4⟩ := h k' hk'
    refine ⟨m', N', S', by rw [va_up_ne _ _ hkk]; exact a1, by rw [upd_ne _ _ hkk]; exact a2, a3, fun h0 => ?_⟩
    rw [va_up_ne _ _ hkk, va_up_ne _ _ hkk]
    obtain ⟨b1, b2, b3⟩ := a4 h0
    exact ⟨b1, b2, b3.fr hf hkk a3⟩
/-- two least machines that accept the same are one -/
theorem mt_glue {k m1 m2 : Nat} {N1 N2 : Nat → Nat → Nat} {S1 S2 : Nat → Bool} {nextOf holdsAt : AI} (h1 : au_can m1 N1 S1) (h2 : au_can m2 N2 S2) (h0 : au_eq N1 S1 0 N2 S2 0) (h : mt_at k m2 N2 S2 nextOf holdsAt) : m1 = m2 ∧ mt_at k m1 N1 S1 nextOf holdsAt := by
  obtain ⟨e, a, b⟩ := au_uniq h1 h2 h0
  subst e
  exact ⟨rfl, fun x c hx hc => by rw [h.1 x c hx hc, a x hx c hc], fun x hx => by rw [h.2 x hx, b x hx]⟩
