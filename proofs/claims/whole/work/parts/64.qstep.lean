/-! what a set of kinds goes on to; the first set; where a set says yes -/
def sqA (N : Nat → Nat → Nat) (u j l : Nat) : Nat → Nat
  | 0 => 0
  | n + 1 => if j.testBit n then sqA N u j l n ||| (2 ^ N n l ||| 2 ^ N n (l ^^^ 2 ^ u)) else sqA N u j l n
def sqN (m : Nat) (N : Nat → Nat → Nat) (u j l : Nat) : Nat := sqA N u j l m
def yB (S : Nat → Bool) : Nat → Nat
  | 0 => 0
  | n + 1 => if S n then yB S n ||| 2 ^ n else yB S n
def qS (all : Bool) (Y j : Nat) : Bool := if all then decide (Y ||| j = Y) else !decide (j &&& Y = 0)
theorem flip2_fin : ∀ u, u < 3 → ∀ d, d < 8 → (d ^^^ 2 ^ u) ^^^ 2 ^ u = d ∧ (dg d u = 0 → d < d ^^^ 2 ^ u) ∧ (dg d u ≠ 0 → d ^^^ 2 ^ u < d ∧ dg (d ^^^ 2 ^ u) u = 0) := by decide +kernel
section QSTEP
variable {m u : Nat} {N : Nat → Nat → Nat} {S : Nat → Bool}
theorem p2_lt {a : Nat} (h : a < m) : 2 ^ a < 2 ^ m := Nat.pow_lt_pow_right (by decide) h
theorem p2_60 {a : Nat} (hm : m ≤ 60) (h : a < 2 ^ m) : a < 2 ^ 60 := Nat.lt_of_lt_of_le h (Nat.pow_le_pow_right (by decide) hm)
theorem sqA_lt (hN : ∀ s, s < m → ∀ c, c < 8 → N s c < m) (hu : u < 3) {j l : Nat} (hl : l < 8) : ∀ n, n ≤ m → sqA N u j l n < 2 ^ m := by
  intro n
  induction n with
  | zero => intro _; exact Nat.two_pow_pos m
  | succ n ih =>
    intro hn
    show (if j.testBit n then sqA N u j l n ||| (2 ^ N n l ||| 2 ^ N n (l ^^^ 2 ^ u)) else sqA N u j l n) < 2 ^ m
    split
    · exact Nat.or_lt_two_pow (ih (by omega)) (Nat.or_lt_two_pow (p2_lt (hN n (by omega) l hl)) (p2_lt (hN n (by omega) _ (flip_fin u hu l hl).2)))
    · exact ih (by omega)
theorem sqA_flip (hu : u < 3) {j l : Nat} (hl : l < 8) : ∀ n, sqA N u j (l ^^^ 2 ^ u) n = sqA N u j l n := by
  intro n
  induction n with
  | zero => rfl
  | succ n ih =>
    show (if j.testBit n then sqA N u j (l ^^^ 2 ^ u) n ||| (2 ^ N n (l ^^^ 2 ^ u) ||| 2 ^ N n ((l ^^^ 2 ^ u) ^^^ 2 ^ u)) else sqA N u j (l ^^^ 2 ^ u) n) = (if j.testBit n then sqA N u j l n ||| (2 ^ N n l ||| 2 ^ N n (l ^^^ 2 ^ u)) else sqA N u j l n)
    rw [ih, (flip2_fin u hu l hl).1, Nat.or_comm (2 ^ N n (l ^^^ 2 ^ u))]
theorem yB_lt : ∀ n, n ≤ m → yB S n < 2 ^ m := by
  intro n
  induction n with
  | zero => intro _; exact Nat.two_pow_pos m
  | succ n ih =>
    intro hn
    show (if S n then yB S n ||| 2 ^ n else yB S n) < 2 ^ m
    split
    · exact Nat.or_lt_two_pow (ih (by omega)) (p2_lt (by omega))
    · exact ih (by omega)
theorem yB_bit : ∀ n x, (yB S n).testBit x = (decide (x < n) && S x) := by
  intro n
  induction n with
  | zero =>
    intro x
    show Nat.testBit 0 x = _
    simp
  | succ n ih =>
    intro x
    show (if S n then yB S n ||| 2 ^ n else yB S n).testBit x = _
    by_cases hS : S n = true
    · rw [if_pos hS, fb_bit_set, ih]
      by_cases hx : x = n
      · subst hx; simp [hS]
      · have : decide (x < n + 1) = decide (x < n) := decide_eq_decide.mpr (by omega)
        rw [this]; simp [hx]
    · rw [if_neg hS, ih]
      by_cases hx : x = n
      · subst hx; simp [hS]
      · have : decide (x < n + 1) = decide (x < n) := decide_eq_decide.mpr (by omega)
        rw [this]
theorem or_sub {a b : Nat} : b ||| a = b ↔ ∀ x, a.testBit x = true → b.testBit x = true := by
  constructor
  · intro h x hx
    rw [← h, Nat.testBit_or, hx]; simp
  · intro h
    apply Nat.eq_of_testBit_eq
    intro x
    rw [Nat.testBit_or]
    cases ha : a.testBit x
    · simp
    · rw [h x ha]; rfl
theorem and_zero {a b : Nat} : a &&& b = 0 ↔ ∀ x, a.testBit x = true → b.testBit x = false := by
  constructor
  · intro h x hx
    have : (a &&& b).testBit x = false := by rw [h]; simp
    rw [Nat.testBit_and, hx] at this
    simpa using this
  · intro h
    apply Nat.eq_of_testBit_eq
    intro x
    rw [Nat.testBit_and]
    cases ha : a.testBit x
    · simp
    · rw [h x ha]; simp
theorem q_sub {a b : Nat} (ha : a < 2 ^ 60) : (lN a &&& (lN b ^^^ (-1 : Int64))) = (0 : Int64) ↔ b ||| a = b := by
  rw [show (-1 : Int64) = lN (2 ^ 64 - 1) from by decide, fb_xorL, fb_andL, show (0 : Int64) = lN 0 from rfl, fb_lN_inj (Nat.lt_of_le_of_lt Nat.and_le_left (by omega)) (by decide), and_zero, or_sub]
  constructor
  · intro h x hx
    have h1 := h x hx
    have hx64 : x < 64 := by
      rcases Nat.lt_or_ge x 64 with q | q
      · exact q
      · have := Nat.testBit_lt_two_pow (Nat.lt_of_lt_of_le ha (Nat.pow_le_pow_right (by decide) (show 60 ≤ x by omega)))
        rw [hx] at this; cases this
    rw [Nat.testBit_xor, Nat.testBit_two_pow_sub_one, decide_eq_true hx64] at h1
    simpa using h1
  · intro h x hx
    have h1 := h x hx
    have hx64 : x < 64 := by
      rcases Nat.lt_or_ge x 64 with q | q
      · exact q
      · have := Nat.testBit_lt_two_pow (Nat.lt_of_lt_of_le ha (Nat.pow_le_pow_right (by decide) (show 60 ≤ x by omega)))
        rw [hx] at this; cases this
    rw [Nat.testBit_xor, Nat.testBit_two_pow_sub_one, decide_eq_true hx64, h1]
    rfl
theorem qS_c {Y j : Nat} (hY : Y < 2 ^ 60) (hj : j < 2 ^ 60) (all : Bool) : (if bI all = 0 then (if lg_cmp (lN j &&& lN Y) (0 : Int64) = 0 then some (0 : Int32) else some (1 : Int32)) else (if lg_cmp (lN j &&& (lN Y ^^^ (-1 : Int64))) (0 : Int64) = 0 then some (1 : Int32) else some (0 : Int32))) = some (bI (qS all Y j)) := by
  unfold qS
  cases all
  · rw [if_pos (show bI false = 0 from rfl), ite_cmp, fb_andL, show (0 : Int64) = lN 0 from rfl]
    by_cases h : j &&& Y = 0
    · rw [h, if_pos rfl]; rfl
    · rw [if_neg (fun q => h ((lN60 (Nat.lt_of_le_of_lt Nat.and_le_left hj) (by decide)).mp q)), if_neg (by decide), decide_eq_false h]; rfl
  · rw [if_neg (by decide), ite_cmp]
    by_cases h : Y ||| j = Y
    · rw [if_pos ((q_sub hj).mpr h), if_pos rfl, decide_eq_true h]; rfl
    · rw [if_neg (fun q => h ((q_sub hj).mp q)), if_pos rfl, decide_eq_false h]; rfl
/-! the class -/
def st_ok (m : Nat) (N : Nat → Nat → Nat) (u : Nat) (steps : AL) : Prop := ∀ x, x < m → ∀ l, l < 8 → steps (x * 8 + l) = lN (2 ^ N x l ||| 2 ^ N x (l ^^^ 2 ^ u))
variable {k : Nat} {fn fs : AF} {fz : AI}
theorem prep_columns (hm : m ≤ 60) (hN : ∀ s, s < m → ∀ c, c < 8 → N s c < m) (hz : fz k = nI m) (h : ct_at m N S (fn k) (fs k)) (hu : u < 3) {x : Nat} (hx : x < m) : ∀ (f l : Nat) (st : AL), l ≤ 8 → 9 ≤ f + l → (∀ d, d < l → st (x * 8 + d) = lN (2 ^ N x d ||| 2 ^ N x (d ^^^ 2 ^ u))) → ∃ st', p_X6_prepare_L44 fn k fz (nI x) (nI u) f (nI l) st = some st' ∧ (∀ d, d < 8 → st' (x * 8 + d) = lN (2 ^ N x d ||| 2 ^ N x (d ^^^ 2 ^ u))) ∧ ∀ i, i < x * 8 → st' i = st i := by
  intro f
  induction f with
  | zero => intro l st h1 h2; omega
  | succ f ih =>
    intro l st hl hf hq
    rw [p_X6_prepare_L44, k_8, ite_le (by omega) (by omega)]
    by_cases h8 : 8 ≤ l
    · rw [if_pos h8]
      exact ⟨st, rfl, fun d hd => hq d (by omega), fun _ _ => rfl⟩
    · obtain ⟨e, e2⟩ := flip_fin u hu l (by omega)
      have b1 := hN x hx l (by omega)
      have b2 := hN x hx _ e2
      rw [if_neg h8, hz, e, after_is h hm hx (by omega), ob1_some, after_is h hm hx e2, ob1_some, one_shl _ (by omega), one_shl _ (by omega), fb_orL]
      simp (disch := omega) only [pk_mul, nI_add, gi_nI, nI_clamp, nI_1]
      obtain ⟨st', e3, q1, q2⟩ := ih (l + 1) (vp_updL st (x * 8 + l) (lN (2 ^ N x l ||| 2 ^ N x (l ^^^ 2 ^ u)))) (by omega) (by omega) (fun d hd => by
        by_cases hdl : d = l
        · rw [hdl, pk_uLs]
        · rw [pk_uLn (by omega)]; exact hq d (by omega))
      exact ⟨st', e3, q1, fun i hi => by rw [q2 i hi, pk_uLn (by omega)]⟩
theorem prep_loop {F : Nat} (hF : 5000 ≤ F) (hm : m ≤ 60) (hN : ∀ s, s < m → ∀ c, c < 8 → N s c < m) (hz : fz k = nI m) (h : ct_at m N S (fn k) (fs k)) (hu : u < 3) : ∀ (f x : Nat) (st : AL), x ≤ m → m + 1 ≤ f + x → st_ok x N u st → ∃ st', p_X6_prepare_L7 F fz k fs fn (nI u) f (nI x) st (lN (yB S x)) = some (st', lN (yB S m)) ∧ st_ok m N u st' := by
  intro f
  induction f with
  | zero => intro x st h1 h2; omega
  | succ f ih =>
    intro x st hx hf hq
    have hsz : p_X0_size (fz k) = some (nI m) := by unfold p_X0_size; rw [hz]
    rw [p_X6_prepare_L7, hsz, ob1_some, k_60, ite_le (by omega) (by omega), ite_le (by omega) (by omega)]
    by_cases hmx : m ≤ x
    · rw [if_pos hmx, show x = m by omega]
      rw [show x = m by omega] at hq
      exact ⟨st, rfl, hq⟩
    · obtain ⟨st', e, q1, q2⟩ := prep_columns hm hN hz h hu (show x < m by omega) F 0 st (by omega) (by omega) (fun d hd => by omega)
      have e' : p_X6_prepare_L44 fn k fz (nI x) (nI u) F (0 : Int32) st = some st' := e
      have ey : (if bI (S x) = 0 then some (lN (yB S x)) else some (lN (yB S x) ||| ((1 : Int64) <<< ((nI x).toInt64 &&& (63 : Int64))))) = some (lN (yB S (x + 1))) := by
        rw [one_shl _ (by omega), fb_orL]
        show _ = some (lN (if S x then yB S x ||| 2 ^ x else yB S x))
        cases S x <;> rfl
      rw [if_neg hmx, if_neg (by omega), hz, saysAt_is h hm (by omega), ob1_some, ey, ob1_some, e', ob1_some, nI_1]
      refine ih (x + 1) st' (by omega) (by omega) (fun y hy l hl => ?_)
      by_cases hyx : y = x
      · rw [hyx]; exact q1 l hl
      · rw [q2 _ (by omega)]; exact hq y (by omega) l hl
theorem prepare_is {F : Nat} (hF : 5000 ≤ F) (hm : m ≤ 60) (hN : ∀ s, s < m → ∀ c, c < 8 → N s c < m) (hz : fz k = nI m) (h : ct_at m N S (fn k) (fs k)) (hu : u < 3) (st : AL) : ∃ st', p_X6_prepare F st fn fs fz k (nI u) = some (st', lN (yB S m)) ∧ st_ok m N u st' := by
  obtain ⟨st', e, q⟩ := prep_loop hF hm hN hz h hu F 0 st (by omega) (by omega) (fun x hx => by omega)
  refine ⟨st', ?_, q⟩
  have e' : p_X6_prepare_L7 F fz k fs fn (nI u) F (0 : Int32) st (0 : Int64) = some (st', lN (yB S m)) := e
  unfold p_X6_prepare
  rw [e']
  rfl
theorem ite_bit {α : Type} {b : Bool} {x y : α} : (if lN (if b = true then 1 else 0) = (0 : Int64) then x else y) = if b = true then y else x := by cases b <;> rfl
theorem after_loop (hm : m ≤ 60) {st : AL} (hst : st_ok m N u st) {j l : Nat} (hj : j < 2 ^ 60) (hl : l < 8) : ∀ (f x : Nat), x ≤ m → m + 1 ≤ f + x → p_X6_afterSet_L6 (nI m) (lN j) (nI l) st f (lN (sqA N u j l x)) (nI x) = some (lN (sqN m N u j l)) := by
  intro f
  induction f with
  | zero => intro x h1 h2; omega
  | succ f ih =>
    intro x hx hf
    rw [p_X6_afterSet_L6, k_60, ite_le (by omega) (by omega), ite_le (by omega) (by omega)]
    by_cases hmx : m ≤ x
    · rw [if_pos hmx, show x = m by omega]; rfl
    · rw [if_neg hmx, if_neg (by omega), ite_cmp, q_bit hj (by omega), ite_bit, isColumn_is hl]
      simp (disch := omega) only [ob1_some, k_8, pk_mul, nI_add, gi_nI, nI_clamp, hst x (by omega) l hl, fb_orL, nI_1]
      have e : (if j.testBit x = true then (if (1 : Int32) = 0 then some (lN (sqA N u j l x)) else some (lN (sqA N u j l x ||| (2 ^ N x l ||| 2 ^ N x (l ^^^ 2 ^ u))))) else some (lN (sqA N u j l x))) = some (lN (sqA N u j l (x + 1))) := by
        show _ = some (lN (if j.testBit x then _ else _))
        cases j.testBit x <;> rfl
      rw [e, ob1_some]
      exact ih (x + 1) (by omega) (by omega)
theorem afterSet_is {F : Nat} (hF : 5000 ≤ F) (hm : m ≤ 60) {st : AL} (hst : st_ok m N u st) {j l : Nat} (hj : j < 2 ^ 60) (hl : l < 8) : p_X6_afterSet F st (lN j) (nI m) (nI l) = some (lN (sqN m N u j l)) := by
  have e := after_loop hm hst hj hl F 0 (by omega) (by omega)
  have e' : p_X6_afterSet_L6 (nI m) (lN j) (nI l) st F (0 : Int64) (0 : Int32) = some (lN (sqN m N u j l)) := e
  unfold p_X6_afterSet
  rw [e']
  rfl
/-! the first set -/
def fsI (m : Nat) (N : Nat → Nat → Nat) (u : Nat) : Nat → Nat
  | 0 => 1
  | i + 1 => fsI m N u i ||| sqN m N u (fsI m N u i) 0
def fs_st (m : Nat) (N : Nat → Nat → Nat) (u i : Nat) : Prop := fsI m N u (i + 1) = fsI m N u i
def fs_n (m : Nat) (N : Nat → Nat → Nat) (u n : Nat) : Prop := fs_st m N u n ∧ ∀ i, i < n → ¬ fs_st m N u i
theorem fs_n.uniq {n n' : Nat} (h : fs_n m N u n) (h' : fs_n m N u n') : n = n' := by
  rcases Nat.lt_trichotomy n n' with q | q | q
  · exact absurd h.1 (h'.2 n q)
  · exact q
  · exact absurd h'.1 (h.2 n' q)
theorem fsI_lt (hm0 : 0 < m) (hN : ∀ s, s < m → ∀ c, c < 8 → N s c < m) (hu : u < 3) : ∀ i, fsI m N u i < 2 ^ m := by
  intro i
  induction i with
  | zero =>
    show 1 < 2 ^ m
    exact p2_lt (a := 0) hm0
  | succ i ih => exact Nat.or_lt_two_pow ih (sqA_lt hN hu (by omega) m (Nat.le_refl _))
def pc (j : Nat) : Nat := sm (fun x => if j.testBit x then 1 else 0) 60
theorem sm_le {f g : Nat → Nat} : ∀ n, (∀ i, i < n → f i ≤ g i) → sm f n ≤ sm g n := by
  intro n
  induction n with
  | zero => intro _; exact Nat.le_refl _
  | succ n ih =>
    intro h
    show sm f n + f n ≤ sm g n + g n
    have a := ih (fun i hi => h i (by omega))
    have b := h n (by omega)
    omega
theorem sm_lt {f g : Nat → Nat} : ∀ n, (∀ i, i < n → f i ≤ g i) → (∃ i, i < n ∧ f i < g i) → sm f n < sm g n := by
  intro n
  induction n with
  | zero => rintro _ ⟨i, hi, _⟩; omega
  | succ n ih =>
    rintro h ⟨i, hi, hlt⟩
    show sm f n + f n < sm g n + g n
    have b := h n (by omega)
    by_cases hin : i = n
    · subst hin
      have a := sm_le (f := f) (g := g) i (fun i hi => h i (by omega))
      omega
    · have a := ih (fun i hi => h i (by omega)) ⟨i, by omega, hlt⟩
      omega
theorem pc_le (j : Nat) : pc j ≤ 60 := by
  have := sm_le (f := fun x => if j.testBit x then 1 else 0) (g := fun _ => 1) 60 (fun i _ => by show (if _ then 1 else 0) ≤ 1; split <;> omega)
  exact this
theorem pc_lt {j a : Nat} (ha : a < 2 ^ 60) (h : ¬ j ||| a = j) : pc j < pc (j ||| a) := by
  refine sm_lt 60 (fun x _ => ?_) ?_
  · show (if j.testBit x then 1 else 0) ≤ (if (j ||| a).testBit x then 1 else 0)
    rw [Nat.testBit_or]
    cases j.testBit x
    · simp
    · simp
  · refine Classical.byContradiction (fun hc => h (or_sub.mpr (fun x hx => ?_)))
    have hx60 : x < 60 := by
      rcases Nat.lt_or_ge x 60 with q | q
      · exact q
      · have := Nat.testBit_lt_two_pow (Nat.lt_of_lt_of_le ha (Nat.pow_le_pow_right (by decide) q))
        rw [hx] at this; cases this
    refine Classical.byContradiction (fun hj => hc ⟨x, hx60, ?_⟩)
    show (if j.testBit x then 1 else 0) < (if (j ||| a).testBit x then 1 else 0)
    rw [Nat.testBit_or, hx, if_neg hj]
    simp
theorem pc_1 : pc 1 = 1 := by decide +kernel
theorem first_loop {F : Nat} (hF : 5000 ≤ F) (hm0 : 0 < m) (hm : m ≤ 60) (hN : ∀ s, s < m → ∀ c, c < 8 → N s c < m) (hu : u < 3) {st : AL} (hst : st_ok m N u st) : ∀ (f i : Nat), i ≤ 60 → 61 ≤ f + i → i + 1 ≤ pc (fsI m N u i) → (∀ y, y < i → ¬ fs_st m N u y) → ∃ n, p_X6_firstSet_L5 F st (nI m) f (lN (fsI m N u i)) (nI i) = some (.inr (lN (fsI m N u n))) ∧ fs_n m N u n := by
  intro f
  induction f with
  | zero =>
    intro i h1 h2 h3
    have := pc_le (fsI m N u i)
    omega
  | succ f ih =>
    intro i hi hf hp hq
    have hpl := pc_le (fsI m N u i)
    have hlt := p2_60 hm (fsI_lt hm0 hN hu i)
    have hlt2 := p2_60 hm (fsI_lt hm0 hN hu (i + 1))
    have ha := afterSet_is (l := 0) hF hm hst hlt (by omega)
    have ha' : p_X6_afterSet F st (lN (fsI m N u i)) (nI m) (0 : Int32) = _ := ha
    rw [p_X6_firstSet_L5, k_60, ite_le (by omega) (by omega), if_neg (by omega), ha', ob1_some, fb_orL, ite_cmp]
    have e1 : fsI m N u i ||| sqN m N u (fsI m N u i) 0 = fsI m N u (i + 1) := rfl
    rw [e1]
    by_cases hs : fsI m N u (i + 1) = fsI m N u i
    · rw [if_pos (by rw [hs])]
      exact ⟨i, rfl, hs, hq⟩
    · rw [if_neg (fun q => hs ((lN60 hlt2 hlt).mp q)), nI_1]
      refine ih (i + 1) (by omega) (by omega) ?_ (fun y hy => ?_)
      · have := pc_lt (j := fsI m N u i) (a := sqN m N u (fsI m N u i) 0) (p2_60 hm (sqA_lt hN hu (by omega) m (Nat.le_refl _))) hs
        rw [e1] at this
        omega
      · by_cases hyi : y = i
        · rw [hyi]; exact hs
        · exact hq y (by omega)
theorem firstSet_is {F : Nat} (hF : 5000 ≤ F) (hm0 : 0 < m) (hm : m ≤ 60) (hN : ∀ s, s < m → ∀ c, c < 8 → N s c < m) (hu : u < 3) {st : AL} (hst : st_ok m N u st) : ∃ n, p_X6_firstSet F st (nI m) = some (lN (fsI m N u n)) ∧ fs_n m N u n := by
  obtain ⟨n, e, q⟩ := first_loop hF hm0 hm hN hu hst F 0 (by omega) (by omega) (by show 1 ≤ pc 1; rw [pc_1]; omega) (fun y hy => by omega)
  refine ⟨n, ?_, q⟩
  have e' : p_X6_firstSet_L5 F st (nI m) F (1 : Int64) (0 : Int32) = some (.inr (lN (fsI m N u n))) := e
  unfold p_X6_firstSet
  rw [e']
  rfl
/-! the model -/
variable {i : Nat} {ko nxo ha : AI}
theorem isIn_is {j x : Nat} (hj : j < 2 ^ 60) (hx : x < 60) : p_X10_isIn (lN j) (nI x) = some (bI (j.testBit x)) := by
  unfold p_X10_isIn
  rw [ite_cmp, q_bit hj hx]
  cases j.testBit x <;> rfl
theorem goes_loop (hi : i < 8) (hm : m ≤ 60) (hN : ∀ s, s < m → ∀ c, c < 8 → N s c < m) (hz : ko i = nI m) (h : mt_at i m N S nxo ha) (hu : u < 3) {j l : Nat} (hj : j < 2 ^ 60) (hl : l < 8) : ∀ (f x : Nat), x ≤ m → m + 1 ≤ f + x → p_X10_goesOn_L6 (nI i) ko (lN j) nxo (nI l) (nI u) f (lN (sqA N u j l x)) (nI x) = some (lN (sqN m N u j l)) := by
  intro f
  induction f with
  | zero => intro x h1 h2; omega
  | succ f ih =>
    intro x hx hf
    rw [p_X10_goesOn_L6, gi_nI _ (by omega) (by omega), nI_clamp (by omega), hz, ite_le (by omega) (by omega)]
    by_cases hmx : m ≤ x
    · rw [if_pos hmx, show x = m by omega]; rfl
    · obtain ⟨e, e2⟩ := flip_fin u hu l hl
      have b1 := hN x (by omega) l hl
      have b2 := hN x (by omega) _ e2
      rw [if_neg hmx, isIn_is hj (by omega), ob1_some, e, next_is h hi hm (by omega) hl, ob1_some, next_is h hi hm (by omega) e2, ob1_some, one_shl _ (by omega), one_shl _ (by omega), fb_orL, fb_orL, Nat.or_assoc, nI_1]
      have e3 : (if bI (j.testBit x) = 0 then some (lN (sqA N u j l x)) else some (lN (sqA N u j l x ||| (2 ^ N x l ||| 2 ^ N x (l ^^^ 2 ^ u))))) = some (lN (sqA N u j l (x + 1))) := by
        show _ = some (lN (if j.testBit x then _ else _))
        cases j.testBit x <;> rfl
      rw [e3, ob1_some]
      exact ih (x + 1) (by omega) (by omega)
theorem mgoesOn_is {F : Nat} (hF : 5000 ≤ F) (hi : i < 8) (hm : m ≤ 60) (hN : ∀ s, s < m → ∀ c, c < 8 → N s c < m) (hz : ko i = nI m) (h : mt_at i m N S nxo ha) (hu : u < 3) {j l : Nat} (hj : j < 2 ^ 60) (hl : l < 8) : p_X10_goesOn F ko nxo (nI i) (lN j) (nI l) (nI u) = some (lN (sqN m N u j l)) := by
  have e := goes_loop hi hm hN hz h hu hj hl F 0 (by omega) (by omega)
  have e' : p_X10_goesOn_L6 (nI i) ko (lN j) nxo (nI l) (nI u) F (0 : Int64) (0 : Int32) = some (lN (sqN m N u j l)) := e
  unfold p_X10_goesOn
  rw [e']
  rfl
theorem mfirst_loop {F : Nat} (hF : 5000 ≤ F) (hi : i < 8) (hm0 : 0 < m) (hm : m ≤ 60) (hN : ∀ s, s < m → ∀ c, c < 8 → N s c < m) (hz : ko i = nI m) (h : mt_at i m N S nxo ha) (hu : u < 3) : ∀ (f n : Nat), 62 ≤ f + n → n + 1 ≤ pc (fsI m N u n) → (∀ y, y < n → ¬ fs_st m N u y) → ∃ n', p_X10_quantifies_L19 F ko nxo (nI i) (nI u) f (lN (fsI m N u n)) (lN (sqN m N u (fsI m N u n) 0)) = some (lN (fsI m N u n')) ∧ fs_n m N u n' := by
  intro f
  induction f with
  | zero =>
    intro n h1 h2
    have := pc_le (fsI m N u n)
    omega
  | succ f ih =>
    intro n hf hp hq
    have hlt2 := p2_60 hm (fsI_lt hm0 hN hu (n + 1))
    have hsq : sqN m N u (fsI m N u n) 0 < 2 ^ 60 := p2_60 hm (sqA_lt (u := u) (j := fsI m N u n) hN hu (show 0 < 8 by omega) m (Nat.le_refl _))
    have e1 : fsI m N u n ||| sqN m N u (fsI m N u n) 0 = fsI m N u (n + 1) := rfl
    rw [p_X10_quantifies_L19, ite_cmp]
    by_cases hs : fsI m N u (n + 1) = fsI m N u n
    · rw [if_pos ((q_sub hsq).mpr hs)]
      exact ⟨n, rfl, hs, hq⟩
    · have hg := mgoesOn_is (l := 0) hF hi hm hN hz h hu hlt2 (by omega)
      have hg' : p_X10_goesOn F ko nxo (nI i) (lN (fsI m N u (n + 1))) (0 : Int32) (nI u) = _ := hg
      rw [if_neg (fun q => hs ((q_sub hsq).mp q)), fb_orL, e1, hg', ob1_some]
      refine ih (n + 1) (by omega) ?_ (fun y hy => ?_)
      · have := pc_lt (j := fsI m N u n) (a := sqN m N u (fsI m N u n) 0) hsq hs
        rw [e1] at this
        omega
      · by_cases hyi : y = n
        · rw [hyi]; exact hs
        · exact hq y (by omega)
theorem hset_loop (hi : i < 8) (hm : m ≤ 60) (hz : ko i = nI m) (h : mt_at i m N S nxo ha) {j : Nat} (hj : j < 2 ^ 60) : ∀ (f x : Nat) (sb eb : Bool), x ≤ m → m + 1 ≤ f + x → (sb = true ↔ ∃ y, y < x ∧ j.testBit y = true ∧ S y = true) → (eb = true ↔ ∀ y, y < x → j.testBit y = true → S y = true) → ∃ sb' eb', p_X10_holdsInSet_L9 (nI i) ko (lN j) ha f (bI sb) (bI eb) (nI x) = some (bI sb', bI eb') ∧ (sb' = true ↔ ∃ y, y < m ∧ j.testBit y = true ∧ S y = true) ∧ (eb' = true ↔ ∀ y, y < m → j.testBit y = true → S y = true) := by
  intro f
  induction f with
  | zero => intro x sb eb h1 h2; omega
  | succ f ih =>
    intro x sb eb hx hf q1 q2
    rw [p_X10_holdsInSet_L9, gi_nI _ (by omega) (by omega), nI_clamp (by omega), hz, ite_le (by omega) (by omega)]
    by_cases hmx : m ≤ x
    · rw [if_pos hmx]
      rw [show x = m by omega] at q1 q2
      exact ⟨sb, eb, rfl, q1, q2⟩
    · rw [if_neg hmx, isIn_is hj (by omega), ob1_some, holdsIn_is h hi hm (by omega)]
      have e : (if bI (j.testBit x) = 0 then some (bI sb, bI eb) else ob1 (if bI sb = 0 then ob1 (some (bI (S x))) (fun r_38 => (if r_38 = 0 then some (0 : Int32) else some (1 : Int32))) else some (1 : Int32)) (fun j0_31 => ob1 (if bI eb = 0 then some (0 : Int32) else ob1 (some (bI (S x))) (fun r_60 => (if r_60 = 0 then some (0 : Int32) else some (1 : Int32)))) (fun j0_53 => some (j0_31, j0_53)))) = some (bI (if j.testBit x then sb || S x else sb), bI (if j.testBit x then eb && S x else eb)) := by
        cases j.testBit x <;> cases sb <;> cases eb <;> cases S x <;> rfl
      rw [e, ob2_some, nI_1]
      refine ih (x + 1) _ _ (by omega) (by omega) ?_ ?_
      · constructor
        · intro hh
          by_cases hb : j.testBit x = true
          · rw [if_pos hb] at hh
            rcases Bool.or_eq_true_iff.mp hh with hh | hh
            · obtain ⟨y, y1, y2⟩ := q1.mp hh
              exact ⟨y, by omega, y2⟩
            · exact ⟨x, by omega, hb, hh⟩
          · rw [if_neg hb] at hh
            obtain ⟨y, y1, y2⟩ := q1.mp hh
            exact ⟨y, by omega, y2⟩
        · rintro ⟨y, y1, y2, y3⟩
          by_cases hyx : y = x
          · subst hyx
            rw [if_pos y2, y3]; simp
          · have := q1.mpr ⟨y, by omega, y2, y3⟩
            rw [this]; split <;> simp
      · constructor
        · intro hh y hy hyb
          by_cases hb : j.testBit x = true
          · rw [if_pos hb] at hh
            obtain ⟨a, b⟩ := Bool.and_eq_true_iff.mp hh
            by_cases hyx : y = x
            · rw [hyx]; exact b
            · exact q2.mp a y (by omega) hyb
          · rw [if_neg hb] at hh
            by_cases hyx : y = x
            · rw [hyx] at hyb; exact absurd hyb hb
            · exact q2.mp hh y (by omega) hyb
        · intro hh
          have a := q2.mpr (fun y hy => hh y (by omega))
          rw [a]
          split
          · rename_i hb
            rw [hh x (by omega) hb]; rfl
          · rfl
theorem holdsInSet_is {F : Nat} (hF : 5000 ≤ F) (hi : i < 8) (hm : m ≤ 60) (hz : ko i = nI m) (h : mt_at i m N S nxo ha) {j : Nat} (hj : j < 2 ^ m) (all : Bool) : p_X10_holdsInSet F ko ha (nI i) (lN j) (bI all) = some (bI (qS all (yB S m) j)) := by
  obtain ⟨sb, eb, e, q1, q2⟩ := hset_loop hi hm hz h (p2_60 hm hj) F 0 false true (by omega) (by omega) ⟨fun q => (by cases q), fun ⟨y, hy, _⟩ => (by omega)⟩ ⟨fun _ y hy => by omega, fun _ => rfl⟩
  have e' : p_X10_holdsInSet_L9 (nI i) ko (lN j) ha F (0 : Int32) (1 : Int32) (0 : Int32) = some (bI sb, bI eb) := e
  have hbit : ∀ y, j.testBit y = true → y < m := fun y hy => by
    rcases Nat.lt_or_ge y m with q | q
    · exact q
    · have := Nat.testBit_lt_two_pow (Nat.lt_of_lt_of_le hj (Nat.pow_le_pow_right (by decide) q))
      rw [hy] at this; cases this
  unfold p_X10_holdsInSet qS
  rw [e']
  simp only [ob2]
  cases all
  · rw [if_pos (show bI false = 0 from rfl), gb_bI, if_neg (by decide)]
    congr 2
    have : (sb = true) ↔ ¬ (j &&& yB S m = 0) := by
      rw [q1, and_zero]
      constructor
      · rintro ⟨y, y1, y2, y3⟩ hh
        have := hh y y2
        rw [yB_bit, decide_eq_true y1, y3] at this
        cases this
      · intro hh
        refine Classical.byContradiction (fun hc => hh (fun y hy => ?_))
        rw [yB_bit]
        cases hS : S y
        · simp
        · exact absurd ⟨y, hbit y hy, hy, hS⟩ hc
    by_cases hz : j &&& yB S m = 0
    · rw [decide_eq_true hz]
      cases hsb : sb
      · rfl
      · exact absurd hz (this.mp hsb)
    · rw [decide_eq_false hz, this.mpr hz]; rfl
  · rw [if_neg (by decide), gb_bI, if_pos rfl]
    congr 2
    have : (eb = true) ↔ yB S m ||| j = yB S m := by
      rw [q2, or_sub]
      constructor
      · intro hh y hy
        rw [yB_bit, decide_eq_true (hbit y hy), hh y (hbit y hy) hy]; rfl
      · intro hh y hy1 hy2
        have := hh y hy2
        rw [yB_bit] at this
        exact (Bool.and_eq_true_iff.mp this).2
    by_cases hz : yB S m ||| j = yB S m
    · rw [decide_eq_true hz, this.mpr hz]
    · rw [decide_eq_false hz]
      cases heb : eb
      · rfl
      · exact absurd (this.mp heb) hz
end QSTEP
