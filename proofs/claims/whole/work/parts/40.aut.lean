/-! MACHINES THAT READ COLUMNS: what a state accepts, the least machine in the order of a walk, and that it is the only one. -/
def au_run (N : Nat → Nat → Nat) : Nat → List Nat → Nat
  | s, [] => s
  | s, c :: w => au_run N (N s c) w
def au_ok (w : List Nat) : Prop := ∀ c ∈ w, c < 8
def au_eq (N1 : Nat → Nat → Nat) (S1 : Nat → Bool) (s1 : Nat) (N2 : Nat → Nat → Nat) (S2 : Nat → Bool) (s2 : Nat) : Prop := ∀ w, au_ok w → S1 (au_run N1 s1 w) = S2 (au_run N2 s2 w)
theorem au_ok_nil : au_ok [] := fun c h => by cases h
theorem au_ok_cons {c : Nat} {w : List Nat} (hc : c < 8) (hw : au_ok w) : au_ok (c :: w) := fun d hd => by
  rcases List.mem_cons.mp hd with h | h
  · rw [h]; exact hc
  · exact hw d h
theorem au_ok_app {v w : List Nat} (hv : au_ok v) (hw : au_ok w) : au_ok (v ++ w) := fun d hd => by
  rcases List.mem_append.mp hd with h | h
  · exact hv d h
  · exact hw d h
theorem au_run_app (N : Nat → Nat → Nat) (v w : List Nat) : ∀ s, au_run N s (v ++ w) = au_run N (au_run N s v) w := by
  induction v with
  | nil => intro s; rfl
  | cons c v ih => intro s; exact ih (N s c)
theorem au_run_lt {N : Nat → Nat → Nat} {n : Nat} (hN : ∀ s, s < n → ∀ c, c < 8 → N s c < n) : ∀ (w : List Nat) (s : Nat), s < n → au_ok w → au_run N s w < n := by
  intro w
  induction w with
  | nil => intro s hs _; exact hs
  | cons c w ih => intro s hs hw; exact ih _ (hN s hs c (hw c List.mem_cons_self)) (fun d hd => hw d (List.mem_cons_of_mem _ hd))
section AUEQ
variable {N1 N2 N3 : Nat → Nat → Nat} {S1 S2 S3 : Nat → Bool} {s1 s2 s3 : Nat}
theorem au_eq.step (h : au_eq N1 S1 s1 N2 S2 s2) {c : Nat} (hc : c < 8) : au_eq N1 S1 (N1 s1 c) N2 S2 (N2 s2 c) := fun w hw => h (c :: w) (au_ok_cons hc hw)
theorem au_eq.says (h : au_eq N1 S1 s1 N2 S2 s2) : S1 s1 = S2 s2 := h [] au_ok_nil
theorem au_eq.rf : au_eq N1 S1 s1 N1 S1 s1 := fun _ _ => rfl
theorem au_eq.sy (h : au_eq N1 S1 s1 N2 S2 s2) : au_eq N2 S2 s2 N1 S1 s1 := fun w hw => (h w hw).symm
theorem au_eq.tr (h : au_eq N1 S1 s1 N2 S2 s2) (h2 : au_eq N2 S2 s2 N3 S3 s3) : au_eq N1 S1 s1 N3 S3 s3 := fun w hw => (h w hw).trans (h2 w hw)
theorem au_eq.run (h : au_eq N1 S1 s1 N2 S2 s2) {v : List Nat} (hv : au_ok v) : au_eq N1 S1 (au_run N1 s1 v) N2 S2 (au_run N2 s2 v) := fun w hw => by
  rw [← au_run_app, ← au_run_app]; exact h _ (au_ok_app hv hw)
theorem au_bisim (R : Nat → Nat → Prop) (hR : ∀ a b, R a b → S1 a = S2 b ∧ ∀ c, c < 8 → R (N1 a c) (N2 b c)) {a b : Nat} (h : R a b) : au_eq N1 S1 a N2 S2 b := by
  intro w
  induction w generalizing a b with
  | nil => intro _; exact (hR a b h).1
  | cons c w ih => intro hw; exact ih ((hR a b h).2 c (hw c List.mem_cons_self)) (fun d hd => hw d (List.mem_cons_of_mem _ hd))
end AUEQ
/-- how many states are met before the t-th step of the walk -/
def au_M (N : Nat → Nat → Nat) : Nat → Nat
  | 0 => 1
  | t + 1 => max (au_M N t) (N (t / 8) (t % 8) + 1)
theorem au_M_le (N : Nat → Nat → Nat) (t : Nat) : au_M N t ≤ au_M N (t + 1) := Nat.le_max_left _ _
theorem au_M_mono (N : Nat → Nat → Nat) {a b : Nat} (h : a ≤ b) : au_M N a ≤ au_M N b := by
  induction b with
  | zero => rw [Nat.le_zero.mp h]; exact Nat.le_refl _
  | succ b ih =>
    rcases Nat.lt_or_ge a (b + 1) with q | q
    · exact Nat.le_trans (ih (by omega)) (au_M_le N b)
    · rw [show a = b + 1 by omega]; exact Nat.le_refl _
/-- the least machine, its states in the order of the walk -/
def au_can (n : Nat) (N : Nat → Nat → Nat) (S : Nat → Bool) : Prop :=
  0 < n ∧ (∀ s, s < n → ∀ c, c < 8 → N s c < n) ∧ (∀ x y, x < n → y < n → au_eq N S x N S y → x = y) ∧ (∀ t, t < 8 * n → N (t / 8) (t % 8) ≤ au_M N t) ∧ (∀ y, y < n → y < au_M N (8 * y)) ∧ au_M N (8 * n) = n
theorem au_can.Mle {n : Nat} {N : Nat → Nat → Nat} {S : Nat → Bool} (h : au_can n N S) {t : Nat} (ht : t ≤ 8 * n) : au_M N t ≤ n := by
  have := au_M_mono N ht
  rw [h.2.2.2.2.2] at this
  exact this
theorem au_uniq_t {n1 n2 : Nat} {N1 N2 : Nat → Nat → Nat} {S1 S2 : Nat → Bool} (h1 : au_can n1 N1 S1) (h2 : au_can n2 N2 S2) (h0 : au_eq N1 S1 0 N2 S2 0) :
    ∀ t, t ≤ 8 * n1 → t ≤ 8 * n2 → (∀ t', t' < t → N1 (t' / 8) (t' % 8) = N2 (t' / 8) (t' % 8)) ∧ au_M N1 t = au_M N2 t ∧ ∀ x, x < au_M N1 t → au_eq N1 S1 x N2 S2 x := by
  intro t
  induction t with
  | zero =>
    intro _ _
    refine ⟨fun t' h => by omega, rfl, fun x hx => ?_⟩
    have hx : x < 1 := hx
    rw [show x = 0 by omega]
    exact h0
  | succ t ih =>
    intro l1 l2
    obtain ⟨a1, a2, a3⟩ := ih (by omega) (by omega)
    have hc : t % 8 < 8 := Nat.mod_lt _ (by omega)
    have hy1 : t / 8 < n1 := by omega
    have hy2 : t / 8 < n2 := by omega
    have hm1 : t / 8 < au_M N1 t := Nat.lt_of_lt_of_le (h1.2.2.2.2.1 _ hy1) (au_M_mono N1 (by omega))
    have e := (a3 _ hm1).step hc
    have ha := h1.2.2.2.1 t (by omega)
    have hb := h2.2.2.2.1 t (by omega)
    have wa := h1.2.1 _ hy1 _ hc
    have wb := h2.2.1 _ hy2 _ hc
    have key : N1 (t / 8) (t % 8) = N2 (t / 8) (t % 8) := by
      rcases Nat.lt_or_ge (N1 (t / 8) (t % 8)) (au_M N1 t) with q | q
      · have e2 := (a3 _ q).sy.tr e
        have q2 : N1 (t / 8) (t % 8) < n2 := by rw [a2] at q; exact Nat.lt_of_lt_of_le q (h2.Mle (by omega))
        exact h2.2.2.1 _ _ q2 wb e2
      · rcases Nat.lt_or_ge (N2 (t / 8) (t % 8)) (au_M N2 t) with r | r
        · rw [← a2] at r
          have e2 := (a3 _ r).tr e.sy
          have q2 : N2 (t / 8) (t % 8) < n1 := Nat.lt_of_lt_of_le r (h1.Mle (by omega))
          exact (h1.2.2.1 _ _ q2 wa e2).symm
        · omega
    refine ⟨fun t' h => ?_, ?_, fun x hx => ?_⟩
    · rcases Nat.lt_or_ge t' t with q | q
      · exact a1 t' q
      · rw [show t' = t by omega]; exact key
    · show max _ _ = max _ _
      rw [a2, key]
    · rcases Nat.lt_or_ge x (au_M N1 t) with q | q
      · exact a3 x q
      · have hx : x < max (au_M N1 t) (N1 (t / 8) (t % 8) + 1) := hx
        have : x = N1 (t / 8) (t % 8) := by omega
        rw [this]
        have e3 := e
        rw [← key] at e3
        exact e3
theorem au_uniq {n1 n2 : Nat} {N1 N2 : Nat → Nat → Nat} {S1 S2 : Nat → Bool} (h1 : au_can n1 N1 S1) (h2 : au_can n2 N2 S2) (h0 : au_eq N1 S1 0 N2 S2 0) :
    n1 = n2 ∧ (∀ s, s < n1 → ∀ c, c < 8 → N1 s c = N2 s c) ∧ ∀ s, s < n1 → S1 s = S2 s := by
  have hn : n1 = n2 := by
    rcases Nat.lt_trichotomy n1 n2 with q | q | q
    · obtain ⟨-, a2, -⟩ := au_uniq_t h1 h2 h0 (8 * n1) (Nat.le_refl _) (by omega)
      have := h2.2.2.2.2.1 n1 q
      rw [← a2, h1.2.2.2.2.2] at this
      omega
    · exact q
    · obtain ⟨-, a2, -⟩ := au_uniq_t h1 h2 h0 (8 * n2) (by omega) (Nat.le_refl _)
      have := h1.2.2.2.2.1 n2 q
      rw [a2, h2.2.2.2.2.2] at this
      omega
  subst hn
  obtain ⟨a1, a2, a3⟩ := au_uniq_t h1 h2 h0 (8 * n1) (Nat.le_refl _) (Nat.le_refl _)
  refine ⟨rfl, fun s hs c hc => ?_, fun s hs => ?_⟩
  · have := a1 (8 * s + c) (by omega)
    rw [show (8 * s + c) / 8 = s by omega, show (8 * s + c) % 8 = c by omega] at this
    exact this
  · exact (a3 s (by rw [h1.2.2.2.2.2]; exact hs)).says
/-! the walk that numbers: what is met, in its order -/
abbrev bf_T : Type := (Nat → Nat) × (Nat → Nat) × Nat
def bf_new (j : Nat) (b : bf_T) : bf_T := if b.1 j = 0 then (va_up b.1 j (b.2.2 + 1), va_up b.2.1 b.2.2 j, b.2.2 + 1) else b
def bf (Q : Nat → Nat → Nat) (j0 : Nat) : Nat → bf_T
  | 0 => bf_new j0 (fun _ => 0, fun _ => 0, 0)
  | t + 1 => bf_new (Q ((bf Q j0 t).2.1 (t / 8)) (t % 8)) (bf Q j0 t)
def bf_ok (b : bf_T) : Prop := (∀ x, x < b.2.2 → b.1 (b.2.1 x) = x + 1) ∧ ∀ j, b.1 j = 0 ∨ (b.1 j - 1 < b.2.2 ∧ b.2.1 (b.1 j - 1) = j)
theorem bf_new_ok {j : Nat} {b : bf_T} (h : bf_ok b) : bf_ok (bf_new j b) := by
  unfold bf_new
  split
  · rename_i hj
    refine ⟨fun x hx => ?_, fun i => ?_⟩
    · show va_up b.1 j (b.2.2 + 1) (va_up b.2.1 b.2.2 j x) = x + 1
      rcases Nat.lt_or_ge x b.2.2 with q | q
      · rw [va_up_ne _ _ (by omega : x ≠ b.2.2)]
        have e := h.1 x q
        rw [va_up_ne _ _ (fun z => by rw [z] at e; omega)]
        exact e
      · have hx : x < b.2.2 + 1 := hx
        rw [show x = b.2.2 by omega, va_up_self, va_up_self]
    · show va_up b.1 j (b.2.2 + 1) i = 0 ∨ (va_up b.1 j (b.2.2 + 1) i - 1 < b.2.2 + 1 ∧ va_up b.2.1 b.2.2 j (va_up b.1 j (b.2.2 + 1) i - 1) = i)
      by_cases hi : i = j
      · subst hi
        rw [va_up_self]
        right
        rw [Nat.add_sub_cancel]
        exact ⟨by omega, va_up_self _ _ _⟩
      · rw [va_up_ne _ _ hi]
        rcases h.2 i with q | ⟨q1, q2⟩
        · exact Or.inl q
        · right
          exact ⟨by omega, by rw [va_up_ne _ _ (by omega : b.1 i - 1 ≠ b.2.2)]; exact q2⟩
  · exact h
theorem bf_new_many {j : Nat} {b : bf_T} : b.2.2 ≤ (bf_new j b).2.2 := by
  unfold bf_new
  split
  · exact Nat.le_succ _
  · exact Nat.le_refl _
theorem bf_new_ord {i j : Nat} {b : bf_T} (h : b.1 i ≠ 0) : (bf_new j b).1 i = b.1 i := by
  unfold bf_new
  split
  · rename_i hj
    exact va_up_ne _ _ (fun e => h (by rw [e]; exact hj))
  · rfl
theorem bf_new_cls {x j : Nat} {b : bf_T} (h : x < b.2.2) : (bf_new j b).2.1 x = b.2.1 x := by
  unfold bf_new
  split
  · exact va_up_ne _ _ (by omega)
  · rfl
theorem bf_new_has {j : Nat} {b : bf_T} : (bf_new j b).1 j ≠ 0 := by
  unfold bf_new
  split
  · show va_up b.1 j (b.2.2 + 1) j ≠ 0
    rw [va_up_self]; omega
  · assumption
section BF
variable {Q : Nat → Nat → Nat} {j0 : Nat}
theorem bf_all_ok (t : Nat) : bf_ok (bf Q j0 t) := by
  induction t with
  | zero => exact bf_new_ok ⟨fun x hx => absurd hx (Nat.not_lt_zero x), fun j => Or.inl rfl⟩
  | succ t ih => exact bf_new_ok ih
theorem bf_many {a b : Nat} (h : a ≤ b) : (bf Q j0 a).2.2 ≤ (bf Q j0 b).2.2 := by
  induction b with
  | zero => rw [Nat.le_zero.mp h]; exact Nat.le_refl _
  | succ b ih =>
    rcases Nat.lt_or_ge a (b + 1) with q | q
    · exact Nat.le_trans (ih (by omega)) bf_new_many
    · rw [show a = b + 1 by omega]; exact Nat.le_refl _
theorem bf_ord {a b i : Nat} (h : a ≤ b) (hi : (bf Q j0 a).1 i ≠ 0) : (bf Q j0 b).1 i = (bf Q j0 a).1 i := by
  induction b with
  | zero => rw [Nat.le_zero.mp h]
  | succ b ih =>
    rcases Nat.lt_or_ge a (b + 1) with q | q
    · have e := ih (by omega)
      show (bf_new _ _).1 i = _
      rw [bf_new_ord (by rw [e]; exact hi), e]
    · rw [show a = b + 1 by omega]
theorem bf_cls {a b x : Nat} (h : a ≤ b) (hx : x < (bf Q j0 a).2.2) : (bf Q j0 b).2.1 x = (bf Q j0 a).2.1 x := by
  induction b with
  | zero => rw [Nat.le_zero.mp h]
  | succ b ih =>
    rcases Nat.lt_or_ge a (b + 1) with q | q
    · have e := ih (by omega)
      show (bf_new _ _).2.1 x = _
      rw [bf_new_cls (Nat.lt_of_lt_of_le hx (bf_many (by omega))), e]
    · rw [show a = b + 1 by omega]
theorem bf_zero : (bf Q j0 0).2.2 = 1 ∧ (bf Q j0 0).2.1 0 = j0 ∧ (bf Q j0 0).1 j0 = 1 := by
  have e : bf Q j0 0 = (va_up (fun _ => 0) j0 1, va_up (fun _ => 0) 0 j0, 1) := rfl
  rw [e]
  exact ⟨rfl, va_up_self (fun _ => 0) 0 j0, va_up_self (fun _ => 0) j0 1⟩
theorem bf_pos (t : Nat) : 0 < (bf Q j0 t).2.2 := Nat.lt_of_lt_of_le (by rw [bf_zero.1]; exact Nat.one_pos) (bf_many (Nat.zero_le t))
/-- all that is met has what holds at the start and goes on -/
theorem bf_all (P : Nat → Prop) (h0 : P j0) (hQ : ∀ j, P j → ∀ c, c < 8 → P (Q j c)) (t : Nat) (ht : ∀ u, u < t → u / 8 < (bf Q j0 u).2.2) : ∀ x, x < (bf Q j0 t).2.2 → P ((bf Q j0 t).2.1 x) := by
  induction t with
  | zero =>
    intro x hx
    rw [bf_zero.1] at hx
    rw [show x = 0 by omega, bf_zero.2.1]
    exact h0
  | succ t ih =>
    have ih := ih (fun u hu => ht u (by omega))
    intro x hx
    have hj : P (Q ((bf Q j0 t).2.1 (t / 8)) (t % 8)) := hQ _ (ih _ (ht t (by omega))) _ (Nat.mod_lt _ (by omega))
    change x < (bf_new _ _).2.2 at hx
    change P ((bf_new _ _).2.1 x)
    rcases Nat.lt_or_ge x (bf Q j0 t).2.2 with q | q
    · rw [bf_new_cls q]; exact ih x q
    · unfold bf_new at hx ⊢
      split at hx
      · rename_i hz
        rw [if_pos hz]
        have hx : x < (bf Q j0 t).2.2 + 1 := hx
        show P (va_up _ _ _ x)
        rw [show x = (bf Q j0 t).2.2 by omega, va_up_self]
        exact hj
      · omega
/-- what the walk comes to: T steps, m met, each gone on from -/
def bf_end (Q : Nat → Nat → Nat) (j0 m : Nat) : Prop := (bf Q j0 (8 * m)).2.2 = m ∧ ∀ x, x < m → x < (bf Q j0 (8 * x)).2.2
def bf_next (Q : Nat → Nat → Nat) (j0 m : Nat) (x c : Nat) : Nat := (bf Q j0 (8 * m)).1 (Q ((bf Q j0 (8 * m)).2.1 x) c) - 1
theorem bf_end.at {m : Nat} (h : bf_end Q j0 m) {t : Nat} (ht : t < 8 * m) : t / 8 < (bf Q j0 t).2.2 := Nat.lt_of_lt_of_le (h.2 _ (by omega)) (bf_many (by omega))
theorem bf_next_t {m : Nat} (h : bf_end Q j0 m) {t : Nat} (ht : t < 8 * m) : bf_next Q j0 m (t / 8) (t % 8) + 1 = (bf Q j0 (t + 1)).1 (Q ((bf Q j0 t).2.1 (t / 8)) (t % 8)) := by
  unfold bf_next
  rw [bf_cls (a := t) (by omega) (h.at ht)]
  have h1 : (bf Q j0 (t + 1)).1 (Q ((bf Q j0 t).2.1 (t / 8)) (t % 8)) ≠ 0 := bf_new_has
  rw [bf_ord (a := t + 1) (by omega) h1]
  omega
theorem bf_next_le {m : Nat} (h : bf_end Q j0 m) {t : Nat} (ht : t < 8 * m) : bf_next Q j0 m (t / 8) (t % 8) ≤ (bf Q j0 t).2.2 ∧ max (bf Q j0 t).2.2 (bf_next Q j0 m (t / 8) (t % 8) + 1) = (bf Q j0 (t + 1)).2.2 := by
  have e := bf_next_t h ht
  have hok := bf_all_ok (Q := Q) (j0 := j0) t
  have hs : bf Q j0 (t + 1) = bf_new (Q ((bf Q j0 t).2.1 (t / 8)) (t % 8)) (bf Q j0 t) := rfl
  rw [hs] at e ⊢
  unfold bf_new at e ⊢
  split
  · rename_i hz
    rw [if_pos hz] at e
    have e : _ = va_up _ _ _ _ := e
    rw [va_up_self] at e
    show _ ∧ _ = (bf Q j0 t).2.2 + 1
    omega
  · rename_i hz
    rw [if_neg hz] at e
    rcases hok.2 (Q ((bf Q j0 t).2.1 (t / 8)) (t % 8)) with q | ⟨q1, q2⟩
    · exact absurd q hz
    · omega
theorem bf_M {m : Nat} (h : bf_end Q j0 m) : ∀ t, t ≤ 8 * m → au_M (bf_next Q j0 m) t = (bf Q j0 t).2.2 := by
  intro t
  induction t with
  | zero => intro _; exact bf_zero.1.symm
  | succ t ih =>
    intro ht
    show max _ _ = _
    rw [ih (by omega)]
    exact (bf_next_le h (by omega)).2
theorem bf_next_cls {m : Nat} (h : bf_end Q j0 m) {x c : Nat} (hx : x < m) (hc : c < 8) : bf_next Q j0 m x c < m ∧ (bf Q j0 (8 * m)).2.1 (bf_next Q j0 m x c) = Q ((bf Q j0 (8 * m)).2.1 x) c := by
  have ht : 8 * x + c < 8 * m := by omega
  have e := bf_next_t h ht
  rw [show (8 * x + c) / 8 = x by omega, show (8 * x + c) % 8 = c by omega] at e
  have hx2 : x < (bf Q j0 (8 * x + c)).2.2 := by
    have := h.at ht
    rw [show (8 * x + c) / 8 = x by omega] at this
    exact this
  rw [← bf_cls (b := 8 * m) (by omega) hx2] at e
  have h1 : (bf Q j0 (8 * x + c + 1)).1 (Q ((bf Q j0 (8 * m)).2.1 x) c) ≠ 0 := by rw [← e]; omega
  rw [← bf_ord (b := 8 * m) (by omega) h1] at e
  rcases (bf_all_ok (Q := Q) (j0 := j0) (8 * m)).2 (Q ((bf Q j0 (8 * m)).2.1 x) c) with q | ⟨q1, q2⟩
  · omega
  · rw [← e, Nat.add_sub_cancel] at q1 q2
    rw [h.1] at q1
    exact ⟨q1, q2⟩
end BF
/-- a machine whose states are told apart by sg, its sorts walked: the least machine, and it accepts the same -/
theorem au_quot {n m : Nat} {N : Nat → Nat → Nat} {S : Nat → Bool} {sg rp : Nat → Nat} (hn : 0 < n) (hN : ∀ s, s < n → ∀ c, c < 8 → N s c < n)
    (ha : ∀ s t, s < n → t < n → sg s = sg t → S s = S t) (hb : ∀ s t, s < n → t < n → sg s = sg t → ∀ c, c < 8 → sg (N s c) = sg (N t c)) (hc : ∀ s t, s < n → t < n → au_eq N S s N S t → sg s = sg t)
    (hr : ∀ s, s < n → rp (sg s) < n ∧ sg (rp (sg s)) = sg s) (he : bf_end (fun j c => sg (N (rp j) c)) (sg 0) m) :
    au_can m (bf_next (fun j c => sg (N (rp j) c)) (sg 0) m) (fun x => S (rp ((bf (fun j c => sg (N (rp j) c)) (sg 0) (8 * m)).2.1 x))) ∧
    au_eq (bf_next (fun j c => sg (N (rp j) c)) (sg 0) m) (fun x => S (rp ((bf (fun j c => sg (N (rp j) c)) (sg 0) (8 * m)).2.1 x))) 0 N S 0 := by
  generalize hQ : (fun j c => sg (N (rp j) c)) = Q at he ⊢
  have hm : 0 < m := by have := bf_pos (Q := Q) (j0 := sg 0) (8 * m); rw [he.1] at this; exact this
  have hQe : ∀ j c, Q j c = sg (N (rp j) c) := fun j c => by rw [← hQ]
  have h0 : (bf Q (sg 0) (8 * m)).2.1 0 = sg 0 := by rw [bf_cls (a := 0) (by omega) (by rw [bf_zero.1]; exact Nat.one_pos)]; exact bf_zero.2.1
  have himg : ∀ x, x < m → ∃ s, s < n ∧ (bf Q (sg 0) (8 * m)).2.1 x = sg s := by
    intro x hx
    refine bf_all (fun j => ∃ s, s < n ∧ j = sg s) ⟨0, hn, rfl⟩ ?_ (8 * m) (fun u hu => he.at hu) x (by rw [he.1]; exact hx)
    rintro j ⟨s, hs, rfl⟩ c hc8
    exact ⟨N (rp (sg s)) c, hN _ (hr s hs).1 c hc8, hQe _ _⟩
  have hbis : ∀ x s, x < m → s < n → (bf Q (sg 0) (8 * m)).2.1 x = sg s → au_eq (bf_next Q (sg 0) m) (fun x => S (rp ((bf Q (sg 0) (8 * m)).2.1 x))) x N S s := by
    intro x s hx hs hxs
    refine au_bisim (fun x s => x < m ∧ s < n ∧ (bf Q (sg 0) (8 * m)).2.1 x = sg s) ?_ ⟨hx, hs, hxs⟩
    rintro x s ⟨hx, hs, hxs⟩
    obtain ⟨r1, r2⟩ := hr s hs
    refine ⟨?_, fun c hc8 => ?_⟩
    · show S (rp ((bf Q (sg 0) (8 * m)).2.1 x)) = S s
      rw [hxs]
      exact ha _ _ r1 hs r2
    · obtain ⟨b1, b2⟩ := bf_next_cls he hx hc8
      refine ⟨b1, hN s hs c hc8, ?_⟩
      rw [b2, hxs, hQe]
      exact hb _ _ r1 hs r2 c hc8
  refine ⟨⟨hm, fun s hs c hc8 => (bf_next_cls he hs hc8).1, fun x y hx hy hxy => ?_, fun t ht => ?_, fun y hy => ?_, ?_⟩, hbis 0 0 hm hn h0⟩
  · obtain ⟨s, hs, es⟩ := himg x hx
    obtain ⟨t, ht, et⟩ := himg y hy
    have e := hc s t hs ht (((hbis x s hx hs es).sy.tr hxy).tr (hbis y t hy ht et))
    have hok := bf_all_ok (Q := Q) (j0 := sg 0) (8 * m)
    have e1 := hok.1 x (by rw [he.1]; exact hx)
    have e2 := hok.1 y (by rw [he.1]; exact hy)
    rw [es, e] at e1
    rw [et] at e2
    omega
  · rw [bf_M he t (by omega)]
    exact (bf_next_le he ht).1
  · rw [bf_M he _ (by omega)]
    exact he.2 y hy
  · rw [bf_M he _ (Nat.le_refl _)]
    exact he.1
/-! too many sorts -/
def au_many (n : Nat) (N : Nat → Nat → Nat) (S : Nat → Bool) : Prop := ∃ f : Nat → Nat, (∀ i, i < 61 → f i < n) ∧ ∀ i j, i < 61 → j < 61 → i ≠ j → ¬ au_eq N S (f i) N S (f j)
def au_reach (n : Nat) (N : Nat → Nat → Nat) : Prop := ∀ s, s < n → ∃ w, au_ok w ∧ au_run N 0 w = s
theorem au_many_of {n1 n2 : Nat} {N1 N2 : Nat → Nat → Nat} {S1 S2 : Nat → Bool} (hr : au_reach n1 N1) (hn2 : 0 < n2) (hN2 : ∀ s, s < n2 → ∀ c, c < 8 → N2 s c < n2) (h0 : au_eq N1 S1 0 N2 S2 0) (h : au_many n1 N1 S1) : au_many n2 N2 S2 := by
  obtain ⟨f, h1, h2⟩ := h
  have hw : ∀ i, ∃ w, au_ok w ∧ (i < 61 → au_run N1 0 w = f i) := fun i => by
    by_cases hi : i < 61
    · obtain ⟨w, a, b⟩ := hr _ (h1 i hi)
      exact ⟨w, a, fun _ => b⟩
    · exact ⟨[], au_ok_nil, fun q => absurd q hi⟩
  refine ⟨fun i => au_run N2 0 (Classical.choose (hw i)), fun i hi => au_run_lt hN2 _ _ hn2 (Classical.choose_spec (hw i)).1, fun i j hi hj hij e => ?_⟩
  obtain ⟨a1, a2⟩ := Classical.choose_spec (hw i)
  obtain ⟨b1, b2⟩ := Classical.choose_spec (hw j)
  have e1 := h0.run a1
  have e2 := h0.run b1
  rw [a2 hi] at e1
  rw [b2 hj] at e2
  exact h2 i j hi hj hij ((e1.tr e).tr e2.sy)
