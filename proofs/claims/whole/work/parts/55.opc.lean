/-! holds and same -/
theorem after_is {m x c : Nat} {N : Nat → Nat → Nat} {S : Nat → Bool} {cn cs : AI} (h : ct_at m N S cn cs) (hm : m ≤ 60) (hx : x < m) (hc : c < 8) : p_X0_after cn (nI m) (nI x) (nI c) = some (nI (N x c)) := by
  unfold p_X0_after
  have e := h.1 x c hx hc
  rw [isKind_is (by omega) hx, ob1_some, if_neg (by decide), isColumn_is hc, ob1_some, if_neg (by decide), k_8]
  simp (disch := omega) only [pk_mul, nI_add, gi_nI, nI_clamp, e]
theorem saysAt_is {m x : Nat} {N : Nat → Nat → Nat} {S : Nat → Bool} {cn cs : AI} (h : ct_at m N S cn cs) (hm : m ≤ 60) (hx : x < m) : p_X0_saysAt cs (nI m) (nI x) = some (bI (S x)) := by
  unfold p_X0_saysAt
  have e := h.2 x hx
  rw [isKind_is (by omega) hx, ob1_some, if_neg (by decide)]
  simp (disch := omega) only [gi_nI, nI_clamp, e]
  cases S x <;> rfl
theorem next_is {k m x c : Nat} {N : Nat → Nat → Nat} {S : Nat → Bool} {nxo ha : AI} (h : mt_at k m N S nxo ha) (hk : k < 8) (hm : m ≤ 60) (hx : x < m) (hc : c < 8) : p_X10_next nxo (nI k) (nI x) (nI c) = some (nI (N x c)) := by
  unfold p_X10_next
  have e := h.1 x c hx hc
  rw [k_8, k_60]
  simp (disch := omega) only [pk_mul, nI_add, gi_nI, nI_clamp, e]
theorem holdsIn_is {k m x : Nat} {N : Nat → Nat → Nat} {S : Nat → Bool} {nxo ha : AI} (h : mt_at k m N S nxo ha) (hk : k < 8) (hm : m ≤ 60) (hx : x < m) : p_X10_holdsIn ha (nI k) (nI x) = some (bI (S x)) := by
  unfold p_X10_holdsIn
  have e := h.2 x hx
  rw [k_60]
  simp (disch := omega) only [pk_mul, nI_add, gi_nI, nI_clamp, e, gb_bI]
theorem col_is {a b c : Nat} (ha : a < 2) (hb : b < 2) (hc : c < 2) : (nI a ||| (nI b <<< ((1 : Int32) &&& (31 : Int32)))) ||| (nI c <<< ((2 : Int32) &&& (31 : Int32))) = nI (a + 2 * b + 4 * c) := by
  rcases (show a = 0 ∨ a = 1 by omega) with rfl | rfl <;> rcases (show b = 0 ∨ b = 1 by omega) with rfl | rfl <;> rcases (show c = 0 ∨ c = 1 by omega) with rfl | rfl <;> rfl
theorem holds_loop {k m : Nat} {N : Nat → Nat → Nat} {S : Nat → Bool} {cn cs nxo ha : AI} (h1 : ct_at m N S cn cs) (h2 : mt_at k m N S nxo ha) (hk : k < 8) (hm : m ≤ 60) (hN : ∀ s, s < m → ∀ c, c < 8 → N s c < m) {x y z : Nat} (hx : x < 2 ^ 31) (hy : y < 2 ^ 31) (hz : z < 2 ^ 31) :
    ∀ (f b p : Nat), b ≤ 30 → b + 1 ≤ f → p < m → ∃ q, q < m ∧ p_X0_saysOf_L7 cn (nI m) (nI x) (nI y) (nI z) f (nI p) (nI b + (-1)) = some (nI q) ∧ p_X10_holds_L61 nxo (nI k) (nI x) (nI y) (nI z) f (nI p) (nI b + (-1)) = some (nI q) := by
  intro f
  induction f with
  | zero => intro b p h1 h2; omega
  | succ f ih =>
    intro b p hb hf hp
    rw [p_X0_saysOf_L7, p_X10_holds_L61]
    by_cases hb0 : b = 0
    · subst hb0
      rw [if_pos (by decide), if_pos (by decide)]
      exact ⟨p, hp, rfl, rfl⟩
    · obtain ⟨e, rfl⟩ : ∃ e, b = e + 1 := ⟨b - 1, by omega⟩
      have hdx : x / 2 ^ e % 2 < 2 := Nat.mod_lt _ (by omega)
      have hdy : y / 2 ^ e % 2 < 2 := Nat.mod_lt _ (by omega)
      have hdz : z / 2 ^ e % 2 < 2 := Nat.mod_lt _ (by omega)
      rw [pk_m1, if_neg (nI_pos (by omega)), if_neg (nI_pos (by omega)), shr_u hx (by omega), and_1 (Nat.lt_of_le_of_lt (Nat.div_le_self _ _) hx), shr_u hy (by omega), and_1 (Nat.lt_of_le_of_lt (Nat.div_le_self _ _) hy), shr_u hz (by omega), and_1 (Nat.lt_of_le_of_lt (Nat.div_le_self _ _) hz), col_is hdx hdy hdz, after_is h1 hm hp (by omega), ob1_some, next_is h2 hk hm hp (by omega), ob1_some]
      exact ih e _ (by omega) (by omega) (hN p hp _ (by omega))
theorem op_holds {fn fs : AF} {fz ko nxo ha : AI} {F : Nat} (hF : 5000 ≤ F) (hcl : rl_cls fn fs fz ko nxo ha) (v1 v2 v3 v4 : Int32) : ∃ r, p_X9_holds F fn fs fz v1 v2 v3 v4 = some r ∧ p_X10_holds F ko nxo ha v1 v2 v3 v4 = some r := by
  unfold p_X9_holds p_X10_holds
  rcases isClaim_dec v1 with ⟨a1, a2⟩ | ⟨k, hk, rfl, a1, a2⟩
  · rw [a1, a2]; exact ⟨-1, rfl, rfl⟩
  rcases isTold_dec v2 with ⟨b1, b2⟩ | ⟨x, hx, rfl, b1, b2⟩
  · rw [a1, a2, b1, b2]; exact ⟨-2, rfl, rfl⟩
  rcases isTold_dec v3 with ⟨c1, c2⟩ | ⟨y, hy, rfl, c1, c2⟩
  · rw [a1, a2, b1, b2, c1, c2]; exact ⟨-2, rfl, rfl⟩
  rcases isTold_dec v4 with ⟨d1, d2⟩ | ⟨z, hz, rfl, d1, d2⟩
  · rw [a1, a2, b1, b2, c1, c2, d1, d2]; exact ⟨-2, rfl, rfl⟩
  rcases there_dec hcl hk with ⟨e1, e2, e3, e4⟩ | ⟨m, N, S, hm, h60, e1, e2, e3, e4, e5, e6, e7⟩
  · rw [a1, a2, b1, b2, c1, c2, d1, d2, e1, e2]; exact ⟨-3, rfl, rfl⟩
  rw [a1, a2, b1, b2, c1, c2, d1, d2, e1, e2]
  simp (disch := omega) only [ob1_some, if_neg (show ¬ (1 : Int32) = 0 by decide), gi_nI, nI_clamp, e3]
  obtain ⟨q, hq, f1, f2⟩ := holds_loop e6 e7 (by omega) h60 e5.2.1 (x := x) (y := y) (z := z) (by omega) (by omega) (by omega) F 30 0 (by omega) (by omega) hm
  have f1' : p_X0_saysOf_L7 (fn k) (nI m) (nI x) (nI y) (nI z) F 0 29 = some (nI q) := f1
  have f2' : p_X10_holds_L61 nxo (nI k) (nI x) (nI y) (nI z) F 0 29 = some (nI q) := f2
  unfold p_X0_saysOf
  rw [f1', f2', ob1_some, ob1_some, saysAt_is e6 h60 hq, holdsIn_is e7 (by omega) h60 hq, ob1_some, ob1_some, gb_bI, ob1_some]
  cases S q
  · exact ⟨0, rfl, rfl⟩
  · exact ⟨1, rfl, rfl⟩
/-! same -/
section SAME
variable {m k0 k1 : Nat} {fn fs : AF} {fz : AI} {N1 N2 : Nat → Nat → Nat} {S1 S2 : Nat → Bool}
theorem same_says (hz : fz k0 = nI m) (hm : m ≤ 60) (h1 : ∀ x, x < m → fs k0 x = bI (S1 x)) (h2 : ∀ x, x < m → fs k1 x = bI (S2 x)) : ∀ (f x : Nat), x ≤ m → m + 1 ≤ f + x → (p_X0_isAsOther_L15 fz k0 fs k1 f (nI x) = some (.inr ()) ∧ ∀ y, x ≤ y → y < m → S1 y = S2 y) ∨ (p_X0_isAsOther_L15 fz k0 fs k1 f (nI x) = some (.inl 0) ∧ ∃ y, y < m ∧ S1 y ≠ S2 y) := by
  intro f
  induction f with
  | zero => intro x h1 h2; omega
  | succ f ih =>
    intro x hx hf
    rw [p_X0_isAsOther_L15, hz, ite_le (by omega) (by omega)]
    by_cases hmx : m ≤ x
    · rw [if_pos hmx]
      exact Or.inl ⟨rfl, fun y h1 h2 => by omega⟩
    · rw [if_neg hmx]
      have e1 := h1 x (by omega)
      have e2 := h2 x (by omega)
      simp (disch := omega) only [gi_nI, nI_clamp, e1, e2, nI_1]
      by_cases q : S1 x = S2 x
      · rw [q, if_pos rfl]
        rcases ih (x + 1) (by omega) (by omega) with ⟨a, b⟩ | ⟨a, b⟩
        · refine Or.inl ⟨a, fun y h1 h2 => ?_⟩
          by_cases hyx : y = x
          · rw [hyx]; exact q
          · exact b y (by omega) h2
        · exact Or.inr ⟨a, b⟩
      · rw [if_neg (fun z => q (bI_inj z)), gb_in _ (by decide)]
        exact Or.inr ⟨rfl, x, by omega, q⟩
theorem same_next (hz : fz k0 = nI m) (hm : m ≤ 60) (h1 : ∀ x c, x < m → c < 8 → fn k0 (x * 8 + c) = nI (N1 x c)) (h2 : ∀ x c, x < m → c < 8 → fn k1 (x * 8 + c) = nI (N2 x c)) (hb1 : ∀ x c, x < m → c < 8 → N1 x c < 60) (hb2 : ∀ x c, x < m → c < 8 → N2 x c < 60) : ∀ (f t : Nat), t ≤ 8 * m → 8 * m + 1 ≤ f + t → (p_X0_isAsOther_L48 fz k0 fn k1 f (nI t) = some (.inr ()) ∧ ∀ y c, y < m → c < 8 → t ≤ y * 8 + c → N1 y c = N2 y c) ∨ (p_X0_isAsOther_L48 fz k0 fn k1 f (nI t) = some (.inl 0) ∧ ∃ y c, y < m ∧ c < 8 ∧ N1 y c ≠ N2 y c) := by
  intro f
  induction f with
  | zero => intro x h1 h2; omega
  | succ f ih =>
    intro t ht hf
    rw [p_X0_isAsOther_L48, hz, k_8, pk_mul, ite_le (by omega) (by omega)]
    by_cases hmt : m * 8 ≤ t
    · rw [if_pos hmt]
      exact Or.inl ⟨rfl, fun y c h1 h2 h3 => by omega⟩
    · rw [if_neg hmt]
      have hx : t / 8 < m := by omega
      have hc : t % 8 < 8 := by omega
      have e1 := h1 (t / 8) (t % 8) hx hc
      have e2 := h2 (t / 8) (t % 8) hx hc
      rw [show t / 8 * 8 + t % 8 = t by omega] at e1 e2
      have b1 := hb1 _ _ hx hc
      have b2 := hb2 _ _ hx hc
      simp (disch := omega) only [gi_nI, nI_clamp, e1, e2, nI_1]
      rw [ite_eq (by omega) (by omega)]
      by_cases q : N1 (t / 8) (t % 8) = N2 (t / 8) (t % 8)
      · rw [if_pos q]
        rcases ih (t + 1) (by omega) (by omega) with ⟨a, b⟩ | ⟨a, b⟩
        · refine Or.inl ⟨a, fun y c h1 h2 h3 => ?_⟩
          by_cases hyx : y * 8 + c = t
          · have e3 : y = t / 8 := by omega
            have e4 : c = t % 8 := by omega
            rw [e3, e4]; exact q
          · exact b y c h1 h2 (by omega)
        · exact Or.inr ⟨a, b⟩
      · rw [if_neg q, gb_in _ (by decide)]
        exact Or.inr ⟨rfl, t / 8, t % 8, hx, hc, q⟩
end SAME
section SAMEM
variable {m k0 k1 : Nat} {ko nxo ha : AI} {N1 N2 : Nat → Nat → Nat} {S1 S2 : Nat → Bool}
theorem same_letters (hk0 : k0 < 6) (hk1 : k1 < 6) (hm : m ≤ 60) (h1 : mt_at k0 m N1 S1 nxo ha) (h2 : mt_at k1 m N2 S2 nxo ha) (hb1 : ∀ x c, x < m → c < 8 → N1 x c < 60) (hb2 : ∀ x c, x < m → c < 8 → N2 x c < 60) {x : Nat} (hx : x < m) : ∀ (f l : Nat) (al : Bool), l ≤ 8 → 9 ≤ f + l → ∃ b : Bool, p_X10_same_L100 nxo (nI k0) (nI x) (nI k1) f (bI al) (nI l) = some (bI b) ∧ (b = true ↔ (al = true ∧ ∀ c, l ≤ c → c < 8 → N1 x c = N2 x c)) := by
  intro f
  induction f with
  | zero => intro l al h1 h2; omega
  | succ f ih =>
    intro l al hl hf
    rw [p_X10_same_L100, k_8, ite_le (by omega) (by omega)]
    by_cases h8 : 8 ≤ l
    · rw [if_pos h8]
      exact ⟨al, rfl, ⟨fun q => ⟨q, fun c h1 h2 => by omega⟩, fun q => q.1⟩⟩
    · rw [if_neg h8, ite_b0, nI_1]
      cases al with
      | false =>
        rw [if_neg (by decide), ob1_some]
        obtain ⟨b, e, q⟩ := ih (l + 1) false (by omega) (by omega)
        exact ⟨b, e, ⟨fun z => (by have := (q.mp z).1; cases this), fun z => (by cases z.1)⟩⟩
      | true =>
        rw [if_pos rfl, next_is h1 (by omega) hm hx (by omega), ob1_some, next_is h2 (by omega) hm hx (by omega), ob1_some, ob1_tf]
        have b1 := hb1 x l hx (by omega)
        have b2 := hb2 x l hx (by omega)
        obtain ⟨b, e, q⟩ := ih (l + 1) (decide (nI (N1 x l) = nI (N2 x l))) (by omega) (by omega)
        refine ⟨b, e, q.trans ?_⟩
        rw [decide_eq_true_iff, nI_eq (by omega) (by omega)]
        constructor
        · rintro ⟨q1, q2⟩
          refine ⟨rfl, fun c h1 h2 => ?_⟩
          by_cases hcl : c = l
          · rw [hcl]; exact q1
          · exact q2 c (by omega) h2
        · rintro ⟨-, q2⟩
          exact ⟨q2 l (Nat.le_refl _) (by omega), fun c h1 h2 => q2 c (by omega) h2⟩
theorem same_kinds {F : Nat} (hF : 5000 ≤ F) (hz : ko k0 = nI m) (hk0 : k0 < 6) (hk1 : k1 < 6) (hm : m ≤ 60) (h1 : mt_at k0 m N1 S1 nxo ha) (h2 : mt_at k1 m N2 S2 nxo ha) (hb1 : ∀ x c, x < m → c < 8 → N1 x c < 60) (hb2 : ∀ x c, x < m → c < 8 → N2 x c < 60) : ∀ (f x : Nat) (al : Bool), x ≤ m → m + 1 ≤ f + x → ∃ b : Bool, p_X10_same_L59 F (nI k0) ko ha (nI k1) nxo f (bI al) (nI x) = some (bI b) ∧ (b = true ↔ (al = true ∧ ∀ y, x ≤ y → y < m → S1 y = S2 y ∧ ∀ c, c < 8 → N1 y c = N2 y c)) := by
  intro f
  induction f with
  | zero => intro x al h1 h2; omega
  | succ f ih =>
    intro x al hx hf
    rw [p_X10_same_L59]
    simp (disch := omega) only [gi_nI, nI_clamp, hz, nI_1]
    rw [ite_le (by omega) (by omega)]
    by_cases hmx : m ≤ x
    · rw [if_pos hmx]
      exact ⟨al, rfl, ⟨fun q => ⟨q, fun y h1 h2 => by omega⟩, fun q => q.1⟩⟩
    · rw [if_neg hmx, ite_b0]
      cases al with
      | false =>
        rw [if_neg (by decide)]
        exact ⟨false, rfl, ⟨fun z => (by cases z), fun z => (by cases z.1)⟩⟩
      | true =>
        rw [if_pos rfl, holdsIn_is h1 (by omega) hm (by omega), ob1_some, holdsIn_is h2 (by omega) hm (by omega), ob1_some, ob1_tf, show (0 : Int32) = nI 0 from rfl]
        obtain ⟨b, e, q⟩ := same_letters hk0 hk1 hm h1 h2 hb1 hb2 (show x < m by omega) F 0 (decide (bI (S1 x) = bI (S2 x))) (by omega) (by omega)
        rw [e, ob1_some]
        obtain ⟨b', e', q'⟩ := ih (x + 1) b (by omega) (by omega)
        refine ⟨b', e', q'.trans ?_⟩
        rw [q, decide_eq_true_iff]
        constructor
        · rintro ⟨⟨q1, q2⟩, q3⟩
          refine ⟨rfl, fun y h1 h2 => ?_⟩
          by_cases hyx : y = x
          · rw [hyx]; exact ⟨bI_inj q1, fun c hc => q2 c (Nat.zero_le _) hc⟩
          · exact q3 y (by omega) h2
        · rintro ⟨-, q2⟩
          obtain ⟨z1, z2⟩ := q2 x (Nat.le_refl _) (by omega)
          exact ⟨⟨by rw [z1], fun c _ hc => z2 c hc⟩, fun y h1 h2 => q2 y (by omega) h2⟩
end SAMEM
theorem op_same {fn fs : AF} {fz ko nxo ha : AI} {F : Nat} (hF : 5000 ≤ F) (hcl : rl_cls fn fs fz ko nxo ha) (v1 v2 : Int32) : ∃ r, p_X9_same F fn fs fz v1 v2 = some r ∧ p_X10_same F ko nxo ha v1 v2 = some r := by
  unfold p_X9_same p_X10_same
  rcases isClaim_dec v1 with ⟨a1, a2⟩ | ⟨k0, hk0, rfl, a1, a2⟩
  · rw [a1, a2]; exact ⟨-1, rfl, rfl⟩
  rcases isClaim_dec v2 with ⟨b1, b2⟩ | ⟨k1, hk1, rfl, b1, b2⟩
  · rw [a1, a2, b1, b2]; exact ⟨-1, rfl, rfl⟩
  rcases there_dec hcl hk0 with ⟨e1, e2, e3, e4⟩ | ⟨m, N, S, hm, h60, e1, e2, e3, e4, e5, e6, e7⟩
  · rw [a1, a2, b1, b2, e1, e2]; exact ⟨-3, rfl, rfl⟩
  rcases there_dec hcl hk1 with ⟨f1, f2, f3, f4⟩ | ⟨m', N', S', hm', h60', f1, f2, f3, f4, f5, f6, f7⟩
  · rw [a1, a2, b1, b2, e1, e2, f1, f2]; exact ⟨-3, rfl, rfl⟩
  rw [a1, a2, b1, b2, e1, e2, f1, f2]
  simp (disch := omega) only [ob1_some, if_neg (show ¬ (1 : Int32) = 0 by decide), gi_nI, nI_clamp, e4, f4]
  have hbd : ∀ x c, x < m → c < 8 → N x c < 60 := fun x c hx hc => by have := e5.2.1 x hx c hc; omega
  have hbd' : ∀ x c, x < m' → c < 8 → N' x c < 60 := fun x c hx hc => by have := f5.2.1 x hx c hc; omega
  unfold p_X0_isAsOther
  rw [e3, f3, ob1_tf, ite_eq (by omega) (by omega)]
  by_cases hmm : m = m'
  · subst hmm
    rw [if_pos rfl, show (0 : Int32) = nI 0 from rfl]
    obtain ⟨b, eb, qb⟩ := same_kinds hF e4 hk0 hk1 h60 e7 f7 hbd hbd' F 0 (decide (nI m = nI m)) (by omega) (by omega)
    rw [eb, ob1_some]
    rcases same_says (fz := fz) (fs := fs) e3 h60 e6.2 f6.2 F 0 (by omega) (by omega) with ⟨g1, g2⟩ | ⟨g1, y, g2, g3⟩
    · rw [g1]
      simp only [obS0]
      rcases same_next (fz := fz) (fn := fn) e3 h60 e6.1 f6.1 hbd hbd' F 0 (by omega) (by omega) with ⟨i1, i2⟩ | ⟨i1, y, c, i2, i3, i4⟩
      · rw [i1]
        have hb : b = true := qb.mpr ⟨decide_eq_true rfl, fun y _ hy => ⟨g2 y (by omega) hy, fun c hc => i2 y c hy hc (by omega)⟩⟩
        rw [hb]
        exact ⟨_, rfl, rfl⟩
      · rw [i1]
        have hb : b = false := by
          cases hb : b with
          | false => rfl
          | true => exact absurd (((qb.mp hb).2 y (by omega) i2).2 c i3) i4
        rw [hb]
        exact ⟨_, rfl, rfl⟩
    · rw [g1]
      simp only [obS0]
      have hb : b = false := by
        cases hb : b with
        | false => rfl
        | true => exact absurd ((qb.mp hb).2 y (by omega) g2).1 g3
      rw [hb]
      exact ⟨_, rfl, rfl⟩
  · rw [if_neg hmm, decide_eq_false (fun z => hmm ((nI_eq (by omega) (by omega)).mp z))]
    refine ⟨_, rfl, ?_⟩
    obtain ⟨G, rfl⟩ : ∃ G, F = G + 1 := ⟨F - 1, by omega⟩
    rw [p_X10_same_L59]
    simp (disch := omega) only [gi_nI, nI_clamp, e4]
    rw [show (0 : Int32) = nI 0 from rfl, ite_le (by omega) (by omega), if_neg (by omega)]
    rfl
