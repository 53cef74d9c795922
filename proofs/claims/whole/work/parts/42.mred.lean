/-! the model's machine that is made, joined round after round -/
/-- what the model's rows hold of a machine of n states -/
def mm_N (n : Nat) (N : Nat → Nat → Nat) (madeNext : AI) : Prop := ∀ s, s < n → ∀ c, c < 8 → madeNext (8 * s + c) = nI (N s c)
def mm_S (n : Nat) (S : Nat → Bool) (madeHolds : AI) : Prop := ∀ s, s < n → madeHolds s = bI (S s)
def mm_J (n : Nat) (J : Nat → Nat) (joined : AI) : Prop := ∀ s, s < n → joined s = nI (J s)
def mm_al (N : Nat → Nat → Nat) (J : Nat → Nat) (a b : Nat) : Prop := J a = J b ∧ ∀ c, c < 8 → J (N a c) = J (N b c)
section MRED
variable {n : Nat} {N : Nat → Nat → Nat} {J : Nat → Nat} {madeNext joined : AI}
theorem areAlike_loop (hn : n ≤ 3600) (hN : ∀ s, s < n → ∀ c, c < 8 → N s c < n) (hm : mm_N n N madeNext) (hJ : mm_J n J joined) (hJb : ∀ s, s < n → J s < 2 ^ 31) {a b : Nat} (ha : a < n) (hb : b < n) :
    ∀ (f l : Nat) (al : Bool), l ≤ 8 → 9 ≤ f + l → ∃ r : Bool, p_X10_areAlike_L24 (nI a) madeNext (nI b) joined f (bI al) (nI l) = some (bI r) ∧ (r = true ↔ (al = true ∧ ∀ c, l ≤ c → c < 8 → J (N a c) = J (N b c))) := by
  intro f
  induction f with
  | zero => intro l al h1 h2; omega
  | succ f ih =>
    intro l al hl hf
    rw [p_X10_areAlike_L24, k_8, ite_le (by omega) (by omega)]
    by_cases h8 : 8 ≤ l
    · rw [if_pos h8]
      exact ⟨al, rfl, ⟨fun q => ⟨q, fun c h1 h2 => by omega⟩, fun q => q.1⟩⟩
    · rw [if_neg h8, ite_b0]
      cases al with
      | false =>
        rw [if_neg (by decide)]
        exact ⟨false, rfl, ⟨fun q => (by cases q), fun q => (by cases q.1)⟩⟩
      | true =>
        rw [if_pos rfl]
        have hac := hN a ha l (by omega)
        have hbc := hN b hb l (by omega)
        simp (disch := omega) only [pk_mul, nI_add, nI_clamp, gi_nI, hm a ha l, hm b hb l, hJ _ hac, hJ _ hbc, nI_1]
        rw [ob1_tf]
        obtain ⟨r, e, q⟩ := ih (l + 1) (decide (nI (J (N a l)) = nI (J (N b l)))) (by omega) (by omega)
        refine ⟨r, e, q.trans ?_⟩
        have hx : (decide (nI (J (N a l)) = nI (J (N b l))) = true) ↔ J (N a l) = J (N b l) := by
          rw [decide_eq_true_iff]
          exact nI_eq (hJb _ hac) (hJb _ hbc)
        rw [hx]
        constructor
        · rintro ⟨q1, q2⟩
          refine ⟨trivial, fun c h1 h2 => ?_⟩
          rcases Nat.lt_or_ge l c with h3 | h3
          · exact q2 c (by omega) h2
          · rw [show c = l by omega]; exact q1
        · rintro ⟨-, q2⟩
          exact ⟨q2 l (Nat.le_refl _) (by omega), fun c h1 h2 => q2 c (by omega) h2⟩
theorem areAlike_is (hn : n ≤ 3600) (hN : ∀ s, s < n → ∀ c, c < 8 → N s c < n) (hm : mm_N n N madeNext) (hJ : mm_J n J joined) (hJb : ∀ s, s < n → J s < 2 ^ 31) {a b F : Nat} (ha : a < n) (hb : b < n) (hF : 9 ≤ F) :
    ∃ r : Bool, p_X10_areAlike F madeNext joined (nI a) (nI b) = some (bI r) ∧ (r = true ↔ mm_al N J a b) := by
  unfold p_X10_areAlike
  simp (disch := omega) only [gi_nI, nI_clamp, hJ a ha, hJ b hb]
  rw [ob1_tf, k_0]
  obtain ⟨r, e, q⟩ := areAlike_loop hn hN hm hJ hJb ha hb F 0 (decide (nI (J a) = nI (J b))) (by omega) (by omega)
  rw [e, ob1_some, gb_bI]
  refine ⟨r, rfl, q.trans ?_⟩
  rw [decide_eq_true_iff, nI_eq (hJb _ ha) (hJb _ hb)]
  exact ⟨fun z => ⟨z.1, fun c h => z.2 c (Nat.zero_le _) h⟩, fun z => ⟨z.1, fun c _ h => z.2 c h⟩⟩
theorem mm_al.rf (a : Nat) : mm_al N J a a := ⟨rfl, fun _ _ => rfl⟩
theorem mm_al.sy {a b : Nat} (h : mm_al N J a b) : mm_al N J b a := ⟨h.1.symm, fun c hc => (h.2 c hc).symm⟩
theorem mm_al.tr {a b d : Nat} (h : mm_al N J a b) (h2 : mm_al N J b d) : mm_al N J a d := ⟨h.1.trans h2.1, fun c hc => (h.2 c hc).trans (h2.2 c hc)⟩
/-- the first of c states that is alike to s, or c -/
theorem joins_while (hn : n ≤ 3600) (hN : ∀ s, s < n → ∀ c, c < 8 → N s c < n) (hm : mm_N n N madeNext) (hJ : mm_J n J joined) (hJb : ∀ s, s < n → J s < 2 ^ 31) {c s F : Nat} {firstIn : AI} {Fi : Nat → Nat} (hc : c ≤ 60) (hs : s < n) (hF : 9 ≤ F) (hfi : ∀ i, i < c → firstIn i = nI (Fi i) ∧ Fi i < n) :
    ∀ (f i : Nat), i ≤ c → c + 1 ≤ f + i → ∃ k, p_X10_joins_L14 F (nI c) madeNext joined firstIn (nI s) f (nI i) = some (nI k) ∧ i ≤ k ∧ k ≤ c ∧ (∀ j, i ≤ j → j < k → ¬ mm_al N J (Fi j) s) ∧ (k < c → mm_al N J (Fi k) s) := by
  intro f
  induction f with
  | zero => intro i h1 h2; omega
  | succ f ih =>
    intro i hi hf
    rw [p_X10_joins_L14, ite_le (by omega) (by omega)]
    by_cases hci : c ≤ i
    · rw [if_pos hci]
      exact ⟨i, rfl, Nat.le_refl _, hi, fun j h1 h2 => by omega, fun h => by omega⟩
    · rw [if_neg hci]
      obtain ⟨e1, e2⟩ := hfi i (by omega)
      obtain ⟨r, er, hr⟩ := areAlike_is hn hN hm hJ hJb e2 hs hF
      simp (disch := omega) only [gi_nI, nI_clamp, e1, er, ob1_some, ite_b0, nI_1]
      cases r with
      | true =>
        rw [if_pos rfl]
        exact ⟨i, rfl, Nat.le_refl _, hi, fun j h1 h2 => by omega, fun _ => hr.mp rfl⟩
      | false =>
        rw [if_neg (by decide)]
        obtain ⟨k, ek, a1, a2, a3, a4⟩ := ih (i + 1) (by omega) (by omega)
        refine ⟨k, ek, by omega, a2, fun j h1 h2 => ?_, a4⟩
        rcases Nat.lt_or_ge i j with q | q
        · exact a3 j (by omega) h2
        · rw [show j = i by omega]
          exact fun z => by have := hr.mpr z; cases this
/-- c sorts of the states below s, each with its first state -/
def mm_inv (N : Nat → Nat → Nat) (J : Nat → Nat) (c s : Nat) (K Fi : Nat → Nat) : Prop :=
  c ≤ 60 ∧ (∀ t, t < s → K t < c ∧ mm_al N J (Fi (K t)) t) ∧ (∀ i, i < c → Fi i < s ∧ K (Fi i) = i) ∧ ∀ i j, i < c → j < c → mm_al N J (Fi i) (Fi j) → i = j
def mm_many (N : Nat → Nat → Nat) (J : Nat → Nat) (n : Nat) : Prop := ∃ f : Nat → Nat, (∀ i, i < 61 → f i < n) ∧ ∀ i j, i < 61 → j < 61 → i ≠ j → ¬ mm_al N J (f i) (f j)
theorem joins_loop (hn : n ≤ 3600) (hN : ∀ s, s < n → ∀ c, c < 8 → N s c < n) (hm : mm_N n N madeNext) (hJ : mm_J n J joined) (hJb : ∀ s, s < n → J s < 2 ^ 31) {F : Nat} (hF : 3700 ≤ F) :
    ∀ (f c s : Nat) (joinedNow firstIn : AI) (K Fi : Nat → Nat), s ≤ n → n + 1 ≤ f + s → mm_inv N J c s K Fi → (∀ t, t < s → joinedNow t = nI (K t)) → (∀ i, i < c → firstIn i = nI (Fi i)) →
      (∃ c' jn fi K' Fi', p_X10_joins_L4 F (nI n) madeNext joined f (nI c) (nI s) joinedNow firstIn = some (.inr (nI c', jn, fi)) ∧ mm_inv N J c' n K' Fi' ∧ (∀ t, t < n → jn t = nI (K' t)) ∧ (∀ i, i < c' → fi i = nI (Fi' i))) ∨
      (∃ jn fi, p_X10_joins_L4 F (nI n) madeNext joined f (nI c) (nI s) joinedNow firstIn = some (.inl (nI 61, joined, jn, fi)) ∧ mm_many N J n) := by
  intro f
  induction f with
  | zero => intro c s jn fi K Fi h1 h2; omega
  | succ f ih =>
    intro c s joinedNow firstIn K Fi hs hf hinv hjn hfi
    obtain ⟨i1, i2, i3, i4⟩ := id hinv
    rw [p_X10_joins_L4, ite_le (by omega) (by omega)]
    by_cases hns : n ≤ s
    · rw [if_pos hns]
      have : s = n := by omega
      subst this
      exact Or.inl ⟨c, joinedNow, firstIn, K, Fi, rfl, hinv, hjn, hfi⟩
    · rw [if_neg hns]
      obtain ⟨k, ek, -, k2, k3, k4⟩ := joins_while hn hN hm hJ hJb (F := F) (firstIn := firstIn) (Fi := Fi) i1 (show s < n by omega) (by omega) (fun i hi => ⟨hfi i hi, by have := (i3 i hi).1; omega⟩) F 0 (Nat.zero_le _) (by omega)
      rw [k_0, ek, ob1_some, ite_eq (by omega) (by omega)]
      by_cases hkc : k = c
      · subst hkc
        rw [if_pos rfl, k_60, ite_eq (by omega) (by omega)]
        by_cases h60 : k = 60
        · subst h60
          rw [if_pos rfl]
          refine Or.inr ⟨joinedNow, firstIn, rfl, fun i => if i < 60 then Fi i else s, fun i hi => ?_, fun i j hi hj hij => ?_⟩
          · show (if i < 60 then Fi i else s) < n
            split
            · have := (i3 i (by assumption)).1; omega
            · omega
          · show ¬ mm_al N J (if i < 60 then Fi i else s) (if j < 60 then Fi j else s)
            by_cases hi6 : i < 60
            · by_cases hj6 : j < 60
              · rw [if_pos hi6, if_pos hj6]
                exact fun z => hij (i4 i j hi6 hj6 z)
              · rw [if_pos hi6, if_neg hj6]
                exact k3 i (Nat.zero_le _) hi6
            · by_cases hj6 : j < 60
              · rw [if_neg hi6, if_pos hj6]
                exact fun z => k3 j (Nat.zero_le _) hj6 z.sy
              · omega
        · rw [if_neg h60]
          simp (disch := omega) only [gi_nI, nI_1, nI_clamp]
          have hinv' : mm_inv N J (k + 1) (s + 1) (va_up K s k) (va_up Fi k s) := by
            refine ⟨by omega, fun t ht => ?_, fun i hi => ?_, fun i j hi hj z => ?_⟩
            · rcases Nat.lt_or_ge t s with q | q
              · rw [va_up_ne _ _ (show t ≠ s by omega)]
                obtain ⟨q1, q2⟩ := i2 t q
                rw [va_up_ne _ _ (show K t ≠ k by omega)]
                exact ⟨by omega, q2⟩
              · rw [show t = s by omega, va_up_self, va_up_self]
                exact ⟨by omega, mm_al.rf s⟩
            · rcases Nat.lt_or_ge i k with q | q
              · rw [va_up_ne _ _ (show i ≠ k by omega)]
                obtain ⟨q1, q2⟩ := i3 i q
                rw [va_up_ne _ _ (show Fi i ≠ s by omega)]
                exact ⟨by omega, q2⟩
              · rw [show i = k by omega, va_up_self, va_up_self]
                exact ⟨by omega, rfl⟩
            · rcases Nat.lt_or_ge i k with q | q
              · rcases Nat.lt_or_ge j k with r | r
                · rw [va_up_ne _ _ (show i ≠ k by omega), va_up_ne _ _ (show j ≠ k by omega)] at z
                  exact i4 i j q r z
                · rw [va_up_ne _ _ (show i ≠ k by omega), show j = k by omega, va_up_self] at z
                  exact absurd z (k3 i (Nat.zero_le _) q)
              · rcases Nat.lt_or_ge j k with r | r
                · rw [show i = k by omega, va_up_self, va_up_ne _ _ (show j ≠ k by omega)] at z
                  exact absurd z.sy (k3 j (Nat.zero_le _) r)
                · omega
          exact ih (k + 1) (s + 1) _ _ _ _ (by omega) (by omega) hinv' (fun t ht => by
            rcases Nat.lt_or_ge t s with q | q
            · rw [upd_ne _ _ (show t ≠ s by omega), va_up_ne _ _ (show t ≠ s by omega)]; exact hjn t q
            · rw [show t = s by omega, upd_self, va_up_self]) (fun i hi => by
            rcases Nat.lt_or_ge i k with q | q
            · rw [upd_ne _ _ (show i ≠ k by omega), va_up_ne _ _ (show i ≠ k by omega)]; exact hfi i q
            · rw [show i = k by omega, upd_self, va_up_self])
      · rw [if_neg hkc]
        simp (disch := omega) only [gi_nI, nI_1, nI_clamp]
        have hkl : k < c := by omega
        have hinv' : mm_inv N J c (s + 1) (va_up K s k) Fi := by
          refine ⟨i1, fun t ht => ?_, fun i hi => ?_, i4⟩
          · rcases Nat.lt_or_ge t s with q | q
            · rw [va_up_ne _ _ (show t ≠ s by omega)]; exact i2 t q
            · rw [show t = s by omega, va_up_self]
              exact ⟨hkl, k4 hkl⟩
          · obtain ⟨q1, q2⟩ := i3 i hi
            rw [va_up_ne _ _ (show Fi i ≠ s by omega)]
            exact ⟨by omega, q2⟩
        exact ih c (s + 1) _ _ _ _ (by omega) (by omega) hinv' (fun t ht => by
          rcases Nat.lt_or_ge t s with q | q
          · rw [upd_ne _ _ (show t ≠ s by omega), va_up_ne _ _ (show t ≠ s by omega)]; exact hjn t q
          · rw [show t = s by omega, upd_self, va_up_self]) hfi
theorem joins_copy {jn : AI} {K : Nat → Nat} (hn : n ≤ 3600) (hjn : ∀ t, t < n → jn t = nI (K t)) :
    ∀ (f s : Nat) (jd : AI), s ≤ n → n + 1 ≤ f + s → (∀ t, t < s → jd t = nI (K t)) → ∃ jd', p_X10_joins_L78 (nI n) jn f (nI s) jd = some jd' ∧ ∀ t, t < n → jd' t = nI (K t) := by
  intro f
  induction f with
  | zero => intro s jd h1 h2; omega
  | succ f ih =>
    intro s jd hs hf h
    rw [p_X10_joins_L78, ite_le (by omega) (by omega)]
    by_cases hns : n ≤ s
    · rw [if_pos hns]
      exact ⟨jd, rfl, fun t ht => h t (by omega)⟩
    · rw [if_neg hns]
      simp (disch := omega) only [gi_nI, nI_1, nI_clamp]
      refine ih (s + 1) _ (by omega) (by omega) (fun t ht => ?_)
      rcases Nat.lt_or_ge t s with q | q
      · rw [upd_ne _ _ (show t ≠ s by omega)]; exact h t q
      · rw [show t = s by omega, upd_self]; exact hjn s (by omega)
/-- the model's joins: the sorts told apart once more, or too many -/
theorem joins_is (hn : n ≤ 3600) (hN : ∀ s, s < n → ∀ c, c < 8 → N s c < n) (hm : mm_N n N madeNext) (hJ : mm_J n J joined) (hJb : ∀ s, s < n → J s < 2 ^ 31) {F : Nat} (hF : 3700 ≤ F) (joinedNow firstIn : AI) :
    (∃ c jd jn fi K Fi, p_X10_joins F (nI n) madeNext joined joinedNow firstIn = some (nI c, jd, jn, fi) ∧ mm_inv N J c n K Fi ∧ mm_J n K jd ∧ (∀ i, i < c → fi i = nI (Fi i))) ∨
    (∃ jn fi, p_X10_joins F (nI n) madeNext joined joinedNow firstIn = some (nI 61, joined, jn, fi) ∧ mm_many N J n) := by
  unfold p_X10_joins
  rw [k_0]
  rcases joins_loop hn hN hm hJ hJb hF F 0 0 joinedNow firstIn (fun _ => 0) (fun _ => 0) (Nat.zero_le _) (by omega) ⟨by omega, fun t h => by omega, fun i h => by omega, fun i j h => by omega⟩ (fun t h => by omega) (fun i h => by omega) with ⟨c, jn, fi, K, Fi, e, q1, q2, q3⟩ | ⟨jn, fi, e, q⟩
  · rw [e]
    obtain ⟨jd, e2, q4⟩ := joins_copy hn q2 F 0 joined (Nat.zero_le _) (by omega) (fun t h => by omega)
    refine Or.inl ⟨c, jd, jn, fi, K, Fi, ?_, q1, q4, q3⟩
    show ob1 (p_X10_joins_L78 (nI n) jn F (nI 0) joined) _ = _
    rw [e2]
    rfl
  · rw [e]
    exact Or.inr ⟨jn, fi, rfl, q⟩
end MRED
