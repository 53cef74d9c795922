/-! the class: numbers of pairs -/
/-- between two uses: the turn, and no entry of a later turn -/
def pn_ok (table : AI) (turn : Int32) : Prop := ∃ t, turn = nI t ∧ 1 ≤ t ∧ t ≤ 524287 ∧ ∀ i, i < 4096 → ∃ w, table i = nI w ∧ w < 2 ^ 31 ∧ w / 4096 ≤ t
/-- in turn t: cnt keys are numbered, ks in their order -/
def pn_in (table : AI) (t cnt : Nat) (ks : Nat → Nat) : Prop :=
  1 ≤ t ∧ t ≤ 524287 ∧ cnt ≤ 4096 ∧ (∀ i, i < 4096 → ∃ w, table i = nI w ∧ w < 2 ^ 31 ∧ w / 4096 ≤ t ∧ (w / 4096 = t → ∃ j, j < cnt ∧ ks j = i ∧ w = t * 4096 + j)) ∧ ∀ j, j < cnt → ks j < 4096 ∧ table (ks j) = nI (t * 4096 + j)
theorem pn_in.ok {table : AI} {t cnt : Nat} {ks : Nat → Nat} (h : pn_in table t cnt ks) : pn_ok table (nI t) := ⟨t, rfl, h.1, h.2.1, fun i hi => by
  obtain ⟨w, a, b, c, _⟩ := h.2.2.2.1 i hi
  exact ⟨w, a, b, c⟩⟩
theorem pn_in.inj {table : AI} {t cnt : Nat} {ks : Nat → Nat} (h : pn_in table t cnt ks) {i j : Nat} (hi : i < cnt) (hj : j < cnt) (e : ks i = ks j) : i = j := by
  obtain ⟨h1, h2, h3, h4, h5⟩ := h
  have a := (h5 i hi).2
  have b := (h5 j hj).2
  rw [e, b] at a
  have := (nI_eq (by omega) (by omega)).mp a
  omega
theorem fill_loop {N : Nat} (hN : N < 2 ^ 31) (v : Int32) : ∀ (f i : Nat) (arr : AI), i ≤ N → N + 1 ≤ f + i → (∀ j, j < i → arr j = v) → ∃ arr', p_J7_fill_53178_L5 N v f (nI i) arr = some arr' ∧ (∀ j, j < N → arr' j = v) ∧ ∀ j, N ≤ j → arr' j = arr j := by
  intro f
  induction f with
  | zero => intro i arr h1 h2; omega
  | succ f ih =>
    intro i arr hi hf h
    have e : p_J7_fill_53178_L5 N v (f + 1) (nI i) arr = if nI N ≤ nI i then some arr else gi (nI i) N (p_J7_fill_53178_L5 N v f (nI i + 1) (upd arr (nI i).toNatClampNeg v)) := by rw [p_J7_fill_53178_L5]; rfl
    rw [e, ite_le hN (by omega)]
    by_cases hni : N ≤ i
    · rw [if_pos hni]
      exact ⟨arr, rfl, fun j hj => h j (by omega), fun _ _ => rfl⟩
    · rw [if_neg hni]
      simp (disch := omega) only [gi_nI, nI_1, nI_clamp]
      obtain ⟨arr', e1, q1, q2⟩ := ih (i + 1) (upd arr i v) (by omega) (by omega) (fun j hj => by
        rcases Nat.lt_or_ge j i with q | q
        · rw [upd_ne _ _ (show j ≠ i by omega)]; exact h j q
        · rw [show j = i by omega, upd_self])
      exact ⟨arr', e1, q1, fun j hj => by rw [q2 j hj, upd_ne _ _ (show j ≠ i by omega)]⟩
theorem fill_is {N F : Nat} (hN : N < 2 ^ 31) (hF : N + 1 ≤ F) (v : Int32) (arr : AI) : ∃ arr', p_J7_fill_53178 F N arr v = some arr' ∧ (∀ j, j < N → arr' j = v) ∧ ∀ j, N ≤ j → arr' j = arr j := by
  unfold p_J7_fill_53178
  obtain ⟨arr', e, q⟩ := fill_loop hN v F 0 arr (Nat.zero_le _) (by omega) (fun j h => by omega)
  rw [k_0, e]
  exact ⟨arr', rfl, q⟩
theorem forget_is {table : AI} {turn : Int32} {F : Nat} (hF : 5000 ≤ F) (h : pn_ok table turn) (ks : Nat → Nat) : ∃ table' t, p_X3_forget F table turn = some (table', nI t, nI 0) ∧ pn_in table' t 0 ks := by
  obtain ⟨t, rfl, h1, h2, h3⟩ := h
  unfold p_X3_forget
  rw [show (524287 : Int32) = nI 524287 from rfl, ite_lt (by omega) (by omega)]
  by_cases hl : t < 524287
  · rw [if_pos hl]
    simp only [ob2]
    rw [nI_1]
    refine ⟨table, t + 1, rfl, by omega, by omega, by omega, fun i hi => ?_, fun j hj => by omega⟩
    obtain ⟨w, a, b, c⟩ := h3 i hi
    exact ⟨w, a, b, by omega, fun q => by omega⟩
  · rw [if_neg hl]
    obtain ⟨arr', e, q, _⟩ := fill_is (N := 4096) (F := F) (by omega) (by omega) 0 table
    rw [e]
    refine ⟨arr', 1, rfl, by omega, by omega, by omega, fun i hi => ⟨0, q i hi, by omega, by omega, fun z => by omega⟩, fun j hj => by omega⟩
theorem pn_shr {w : Nat} (h : w < 2 ^ 31) : nI w >>> ((12 : Int32) &&& (31 : Int32)) = nI (w / 4096) := pk_shrN h _ 12 (by decide)
theorem pn_shl {t : Nat} (h : t ≤ 524287) : nI t <<< ((12 : Int32) &&& (31 : Int32)) = nI (4096 * t) := by
  rw [pk_shlN (n := t) _ 12 (by decide) (by omega)]
  rw [show t * 2 ^ 12 = 4096 * t by omega]
theorem pn_or {t c : Nat} (hc : c < 4096) : nI (4096 * t) ||| nI c = nI (t * 4096 + c) := by
  have := fa_or_sum (k := 12) t (a := c) (by omega)
  rw [show 2 ^ 12 * t = 4096 * t by omega] at this
  rw [this, show 4096 * t + c = t * 4096 + c by omega]
theorem pn_and {w : Nat} (h : w < 2 ^ 31) : nI w &&& (4095 : Int32) = nI (w % 4096) := pk_andN (by omega) 12 (by decide)
/-- the number of a pair: the one it has, or the next -/
theorem numberOf_is {table : AI} {t cnt a b : Nat} {ks : Nat → Nat} (h : pn_in table t cnt ks) (hc : cnt < 4096) (ha : a < 64) (hb : b < 64) :
    ∃ j table' cnt' ks', p_X3_numberOf table (nI t) (nI cnt) (nI a) (nI b) = some (nI j, table', nI cnt') ∧ pn_in table' t cnt' ks' ∧ j < cnt' ∧ ks' j = a * 64 + b ∧ (∀ i, i < cnt → ks' i = ks i) ∧ (cnt' = cnt ∨ (cnt' = cnt + 1 ∧ j = cnt ∧ ∀ i, i < cnt → ks i ≠ a * 64 + b)) := by
  obtain ⟨h1, h2, h3, h4, h5⟩ := id h
  unfold p_X3_numberOf
  obtain ⟨w, w1, w2, w3, w4⟩ := h4 (a * 64 + b) (by omega)
  rw [show (64 : Int32) = nI 64 from rfl, k_0, if_neg (by rw [← k_0]; exact nI_pos (by omega)), ite_le (by omega) (by omega), if_neg (by omega), if_neg (by rw [← k_0]; exact nI_pos (by omega)), ite_lt (by omega) (by omega), if_pos hb]
  simp (disch := omega) only [pk_mul, nI_add, gi_nI, nI_clamp, w1, pn_shr w2, pn_shl h2, pn_or hc]
  rw [ite_eq (by omega) (by omega)]
  by_cases hw : w / 4096 = t
  · rw [if_pos hw]
    simp only [ob2]
    obtain ⟨j, j1, j2, j3⟩ := w4 hw
    rw [w1, pn_and w2]
    refine ⟨j, table, cnt, ks, ?_, h, j1, j2, fun _ _ => rfl, Or.inl rfl⟩
    rw [show w % 4096 = j by omega]
  · rw [if_neg hw]
    simp only [ob2]
    rw [upd_self, pn_and (by omega), show (t * 4096 + cnt) % 4096 = cnt by omega, nI_1]
    have hno : ∀ i, i < cnt → ks i ≠ a * 64 + b := fun i hi e => by
      have := (h5 i hi).2
      rw [e, w1] at this
      have := (nI_eq w2 (by omega)).mp this
      omega
    refine ⟨cnt, _, cnt + 1, va_up ks cnt (a * 64 + b), rfl, ⟨h1, h2, by omega, fun i hi => ?_, fun j hj => ?_⟩, by omega, va_up_self _ _ _, fun i hi => va_up_ne _ _ (by omega), Or.inr ⟨rfl, rfl, hno⟩⟩
    · by_cases hia : i = a * 64 + b
      · rw [hia]
        exact ⟨t * 4096 + cnt, upd_self _ _ _, by omega, by omega, fun _ => ⟨cnt, by omega, va_up_self _ _ _, rfl⟩⟩
      · obtain ⟨v, v1, v2, v3, v4⟩ := h4 i hi
        refine ⟨v, by rw [upd_ne _ _ hia]; exact v1, v2, v3, fun q => ?_⟩
        obtain ⟨j, j1, j2, j3⟩ := v4 q
        exact ⟨j, by omega, by rw [va_up_ne _ _ (by omega)]; exact j2, j3⟩
    · by_cases hjc : j = cnt
      · rw [hjc, va_up_self]
        exact ⟨by omega, upd_self _ _ _⟩
      · rw [va_up_ne _ _ hjc]
        obtain ⟨q1, q2⟩ := h5 j (by omega)
        exact ⟨q1, by rw [upd_ne _ _ (hno j (by omega))]; exact q2⟩
