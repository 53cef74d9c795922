/-! below -/
def sm (f : Nat → Nat) : Nat → Nat
  | 0 => 0
  | n + 1 => sm f n + f n
theorem sm_congr {f g : Nat → Nat} : ∀ n, (∀ i, i < n → f i = g i) → sm f n = sm g n := by
  intro n
  induction n with
  | zero => intro _; rfl
  | succ n ih =>
    intro h
    show sm f n + f n = sm g n + g n
    rw [ih (fun i hi => h i (by omega)), h n (by omega)]
theorem sm_mul (v : Nat) (f : Nat → Nat) : ∀ n, sm (fun i => v * f i) n = v * sm f n := by
  intro n
  induction n with
  | zero => rfl
  | succ n ih =>
    show sm _ n + v * f n = v * (sm f n + f n)
    rw [ih, Nat.mul_add]
theorem sm_up {a v : Nat} (f G : Nat → Nat) : ∀ m, sm (fun y => va_up f a (f a + v) y * G y) m = sm (fun y => f y * G y) m + if a < m then v * G a else 0 := by
  intro m
  induction m with
  | zero => rfl
  | succ m ih =>
    show sm _ m + va_up f a (f a + v) m * G m = sm _ m + f m * G m + _
    rw [ih]
    by_cases h : m = a
    · subst h
      rw [if_neg (Nat.lt_irrefl m), if_pos (Nat.lt_succ_self m), va_up_self, Nat.add_mul]
      omega
    · rw [va_up_ne _ _ h]
      by_cases h2 : a < m
      · rw [if_pos h2, if_pos (by omega)]; omega
      · rw [if_neg h2, if_neg (by omega)]; omega
theorem sm_8 (f : Nat → Nat) : ∀ n, sm f (8 * n) = sm (fun x => sm (fun c => f (8 * x + c)) 8) n := by
  intro n
  induction n with
  | zero => rfl
  | succ n ih =>
    show sm f (8 * n) + f (8 * n) + f (8 * n + 1) + f (8 * n + 2) + f (8 * n + 3) + f (8 * n + 4) + f (8 * n + 5) + f (8 * n + 6) + f (8 * n + 7) = sm _ n + (0 + f (8 * n) + f (8 * n + 1) + f (8 * n + 2) + f (8 * n + 3) + f (8 * n + 4) + f (8 * n + 5) + f (8 * n + 6) + f (8 * n + 7))
    rw [ih]
    omega
theorem sm_at (f : Nat → Nat) : ∀ n, 0 < n → (∀ i, 0 < i → i < n → f i = 0) → sm f n = f 0 := by
  intro n
  induction n with
  | zero => intro h; omega
  | succ n ih =>
    intro _ h
    show sm f n + f n = f 0
    by_cases h0 : n = 0
    · subst h0; show 0 + f 0 = f 0; omega
    · rw [ih (by omega) (fun i h1 h2 => h i h1 (by omega)), h n (by omega) (by omega)]; rfl
section BELOW
variable {m k : Nat} {N : Nat → Nat → Nat} {S : Nat → Bool}
/-- ways on from a kind by i columns to where it holds -/
def wyW (N : Nat → Nat → Nat) (S : Nat → Bool) : Nat → Nat → Nat
  | 0, x => if S x then 1 else 0
  | i + 1, x => sm (fun c => wyW N S i (N x c)) 8
/-- t steps of a round -/
def wyT (N : Nat → Nat → Nat) (V : Nat → Nat) : Nat → Nat → Nat
  | 0 => fun _ => 0
  | t + 1 => va_up (wyT N V t) (N (t / 8) (t % 8)) (wyT N V t (N (t / 8) (t % 8)) + V (t / 8))
/-- ways to a kind by i columns -/
def wyV (m : Nat) (N : Nat → Nat → Nat) : Nat → Nat → Nat
  | 0 => fun y => if y = 0 then 1 else 0
  | i + 1 => wyT N (wyV m N i) (8 * m)
theorem wyT_sum (hN : ∀ s, s < m → ∀ c, c < 8 → N s c < m) (V G : Nat → Nat) : ∀ t, t ≤ 8 * m → sm (fun y => wyT N V t y * G y) m = sm (fun u => V (u / 8) * G (N (u / 8) (u % 8))) t := by
  intro t
  induction t with
  | zero =>
    intro _
    show sm (fun y => 0 * G y) m = 0
    rw [sm_mul, Nat.zero_mul]
  | succ t ih =>
    intro ht
    show sm (fun y => va_up (wyT N V t) (N (t / 8) (t % 8)) (wyT N V t (N (t / 8) (t % 8)) + V (t / 8)) y * G y) m = sm _ t + _
    rw [sm_up, ih (by omega), if_pos (hN _ (by omega) _ (Nat.mod_lt _ (by omega)))]
theorem wy_step (hN : ∀ s, s < m → ∀ c, c < 8 → N s c < m) (i : Nat) (G : Nat → Nat) : sm (fun y => wyV m N (i + 1) y * G y) m = sm (fun x => wyV m N i x * sm (fun c => G (N x c)) 8) m := by
  show sm (fun y => wyT N (wyV m N i) (8 * m) y * G y) m = _
  rw [wyT_sum hN _ _ _ (Nat.le_refl _), sm_8]
  refine sm_congr m (fun x hx => ?_)
  rw [← sm_mul]
  refine sm_congr 8 (fun c hc => ?_)
  rw [show (8 * x + c) / 8 = x by omega, show (8 * x + c) % 8 = c by omega]
theorem wy_all (hm : 0 < m) (hN : ∀ s, s < m → ∀ c, c < 8 → N s c < m) : ∀ (i j : Nat), sm (fun y => wyV m N i y * wyW N S j y) m = wyW N S (i + j) 0 := by
  intro i
  induction i with
  | zero =>
    intro j
    rw [sm_at _ m hm (fun i h1 h2 => by show (if i = 0 then 1 else 0) * _ = 0; rw [if_neg (by omega), Nat.zero_mul]), Nat.zero_add]
    show 1 * wyW N S j 0 = _
    rw [Nat.one_mul]
  | succ i ih =>
    intro j
    rw [wy_step hN]
    have := ih (j + 1)
    rw [show i + 1 + j = i + (j + 1) by omega]
    exact this
theorem ite_64 (b : Bool) : (if bI b = 0 then some (0 : Int64) else some (1 : Int64)) = some (lN (if b then 1 else 0)) := by cases b <;> rfl
theorem sz_min (hm : m ≤ 60) : (if (60 : Int32) < nI m then (60 : Int32) else nI m) = nI m := by
  rw [k_60, ite_lt (by omega) (by omega), if_neg (by omega)]
variable {fn fs : AF} {fz : AI}
theorem cb_first (hm : m ≤ 60) (hz : fz k = nI m) (h : ct_at m N S (fn k) (fs k)) : ∀ (f x : Nat) (wy : AL), x ≤ m → m + 1 ≤ f + x → (∀ y, y < x → wy y = lN (wyW N S 0 y)) → ∃ wy', p_X8_countBelow_L13 (nI m) fs k fz f (nI x) wy = some wy' ∧ ∀ y, y < m → wy' y = lN (wyW N S 0 y) := by
  intro f
  induction f with
  | zero => intro x wy h1 h2; omega
  | succ f ih =>
    intro x wy hx hf hw
    rw [p_X8_countBelow_L13, sz_min hm, ite_le (by omega) (by omega)]
    by_cases hmx : m ≤ x
    · rw [if_pos hmx]
      exact ⟨wy, rfl, fun y hy => hw y (by omega)⟩
    · rw [if_neg hmx, hz, saysAt_is h hm (by omega), ob1_some, ite_64, ob1_some]
      simp (disch := omega) only [gi_nI, nI_clamp, nI_1]
      refine ih (x + 1) _ (by omega) (by omega) (fun y hy => ?_)
      by_cases hyx : y = x
      · rw [hyx, pk_uLs]; rfl
      · rw [pk_uLn hyx]; exact hw y (by omega)
theorem cb_on (hm : m ≤ 60) (hN : ∀ s, s < m → ∀ c, c < 8 → N s c < m) (hz : fz k = nI m) (h : ct_at m N S (fn k) (fs k)) {i : Nat} {wy : AL} (hw : ∀ y, y < m → wy y = lN (wyW N S i y)) {x : Nat} (hx : x < m) : ∀ (f l : Nat), l ≤ 8 → 9 ≤ f + l → p_X8_waysOn_L5 fn k fz (nI x) wy f (lN (sm (fun c => wyW N S i (N x c)) l)) (nI l) = some (lN (wyW N S (i + 1) x)) := by
  intro f
  induction f with
  | zero => intro l h1 h2; omega
  | succ f ih =>
    intro l hl hf
    rw [p_X8_waysOn_L5, k_8, ite_le (by omega) (by omega)]
    by_cases h8 : 8 ≤ l
    · rw [if_pos h8, show l = 8 by omega]; rfl
    · have hb := hN x hx l (by omega)
      rw [if_neg h8, hz, after_is h hm hx (by omega), ob1_some, if_neg (nI_pos (by omega)), k_60, ite_le (by omega) (by omega), if_neg (by omega)]
      simp (disch := omega) only [gi_nI, nI_clamp, nI_1, ob1_some, hw _ hb, lN_add]
      exact ih (l + 1) (by omega) (by omega)
theorem cb_row {F : Nat} (hF : 5000 ≤ F) (hm : m ≤ 60) (hN : ∀ s, s < m → ∀ c, c < 8 → N s c < m) (hz : fz k = nI m) (h : ct_at m N S (fn k) (fs k)) {i : Nat} {wy : AL} (hw : ∀ y, y < m → wy y = lN (wyW N S i y)) : ∀ (f x : Nat) (fw : AL), x ≤ m → m + 1 ≤ f + x → (∀ y, y < x → fw y = lN (wyW N S (i + 1) y)) → ∃ fw', p_X8_countBelow_L58 F (nI m) wy fn fz k f (nI x) fw = some fw' ∧ ∀ y, y < m → fw' y = lN (wyW N S (i + 1) y) := by
  intro f
  induction f with
  | zero => intro x fw h1 h2; omega
  | succ f ih =>
    intro x fw hx hf hq
    rw [p_X8_countBelow_L58, sz_min hm, ite_le (by omega) (by omega)]
    by_cases hmx : m ≤ x
    · rw [if_pos hmx]
      exact ⟨fw, rfl, fun y hy => hq y (by omega)⟩
    · have e : p_X8_waysOn F wy fn fz k (nI x) = some (lN (wyW N S (i + 1) x)) := by
        unfold p_X8_waysOn
        have := cb_on hm hN hz h hw (show x < m by omega) F 0 (by omega) (by omega)
        have this2 : p_X8_waysOn_L5 fn k fz (nI x) wy F (0 : Int64) (0 : Int32) = some (lN (wyW N S (i + 1) x)) := this
        rw [this2]; rfl
      rw [if_neg hmx, e, ob1_some]
      simp (disch := omega) only [gi_nI, nI_clamp, nI_1]
      refine ih (x + 1) _ (by omega) (by omega) (fun y hy => ?_)
      by_cases hyx : y = x
      · rw [hyx, pk_uLs]
      · rw [pk_uLn hyx]; exact hq y (by omega)
theorem cb_rounds {F : Nat} (hF : 5000 ≤ F) (hm : m ≤ 60) (hN : ∀ s, s < m → ∀ c, c < 8 → N s c < m) (hz : fz k = nI m) (h : ct_at m N S (fn k) (fs k)) {n : Nat} (hn : n ≤ 12) : ∀ (f i : Nat) (wy fw : AL), i ≤ n → n + 1 ≤ f + i → (∀ y, y < m → wy y = lN (wyW N S i y)) → ∃ wy' fw', p_X8_countBelow_L49 F (nI n) (nI m) fn fz k f (nI i) wy fw = some (wy', fw') ∧ ∀ y, y < m → wy' y = lN (wyW N S n y) := by
  intro f
  induction f with
  | zero => intro i wy fw h1 h2; omega
  | succ f ih =>
    intro i wy fw hi hf hw
    rw [p_X8_countBelow_L49, sz_min hm, ite_le (by omega) (by omega)]
    by_cases hni : n ≤ i
    · rw [if_pos hni]
      have : i = n := by omega
      subst this
      exact ⟨wy, fw, rfl, hw⟩
    · obtain ⟨fw', e, q⟩ := cb_row hF hm hN hz h hw F 0 fw (by omega) (by omega) (fun y hy => by omega)
      have e' : p_X8_countBelow_L58 F (nI m) wy fn fz k F (0 : Int32) fw = some fw' := e
      rw [if_neg hni, e', ob1_some, gcp_0 (by omega) (by omega) (by omega), nI_1, nI_clamp (by omega), show (0 : Int32).toNatClampNeg = 0 from rfl]
      refine ih (i + 1) _ fw' (by omega) (by omega) (fun y hy => ?_)
      rw [pk_cpy_in (Nat.zero_le _) (by omega), Nat.zero_add, Nat.sub_zero]
      exact q y hy
theorem countBelow_is {F : Nat} (hF : 5000 ≤ F) (hm0 : 0 < m) (hm : m ≤ 60) (hN : ∀ s, s < m → ∀ c, c < 8 → N s c < m) (hz : fz k = nI m) (h : ct_at m N S (fn k) (fs k)) {n : Nat} (hn : n ≤ 12) (wy fw : AL) : ∃ wy' fw', p_X8_countBelow F wy fw fn fs fz k (nI n) = some (lN (wyW N S n 0), wy', fw') := by
  obtain ⟨wy1, e1, q1⟩ := cb_first hm hz h F 0 wy (by omega) (by omega) (fun y hy => by omega)
  obtain ⟨wy2, fw2, e2, q2⟩ := cb_rounds hF hm hN hz h hn F 0 wy1 fw (by omega) (by omega) q1
  refine ⟨wy2, fw2, ?_⟩
  have e1' : p_X8_countBelow_L13 (nI m) fs k fz F (0 : Int32) wy = some wy1 := e1
  have e2' : p_X8_countBelow_L49 F (nI n) (nI m) fn fz k F (0 : Int32) wy1 fw = some (wy2, fw2) := e2
  unfold p_X8_countBelow p_X0_size
  rw [hz, ob1_some, e1', ob1_some, e2']
  simp only [ob2]
  rw [k_0, gi_nI _ (by omega) (by omega), nI_clamp (by omega), q2 0 hm0]
variable {ko nxo ha : AI}
theorem mb_first : ∀ (f x : Nat) (wt : AL), x ≤ 60 → 61 ≤ f + x → (∀ y, y < x → wt y = lN (if y = 0 then 1 else 0)) → ∃ wt', p_X10_below_L31 f (nI x) wt = some wt' ∧ ∀ y, y < 60 → wt' y = lN (if y = 0 then 1 else 0) := by
  intro f
  induction f with
  | zero => intro x wt h1 h2; omega
  | succ f ih =>
    intro x wt hx hf hw
    rw [p_X10_below_L31, k_60, ite_le (by omega) (by omega)]
    by_cases hmx : 60 ≤ x
    · rw [if_pos hmx]
      exact ⟨wt, rfl, fun y hy => hw y (by omega)⟩
    · have e : (if nI x = 0 then some (1 : Int64) else some (0 : Int64)) = some (lN (if x = 0 then 1 else 0)) := by
        by_cases h0 : x = 0
        · subst h0; rfl
        · rw [if_neg (nI_ne0 (by omega) (by omega)), if_neg h0]; rfl
      rw [if_neg hmx, e, ob1_some]
      simp (disch := omega) only [gi_nI, nI_clamp, nI_1]
      refine ih (x + 1) _ (by omega) (by omega) (fun y hy => ?_)
      by_cases hyx : y = x
      · rw [hyx, pk_uLs]
      · rw [pk_uLn hyx]; exact hw y (by omega)
theorem mb_zero : ∀ (f x : Nat) (wt : AL), x ≤ 60 → 61 ≤ f + x → (∀ y, y < x → wt y = lN 0) → ∃ wt', p_X10_below_L68 f (nI x) wt = some wt' ∧ ∀ y, y < 60 → wt' y = lN 0 := by
  intro f
  induction f with
  | zero => intro x wt h1 h2; omega
  | succ f ih =>
    intro x wt hx hf hw
    rw [p_X10_below_L68, k_60, ite_le (by omega) (by omega)]
    by_cases hmx : 60 ≤ x
    · rw [if_pos hmx]
      exact ⟨wt, rfl, fun y hy => hw y (by omega)⟩
    · rw [if_neg hmx]
      simp (disch := omega) only [gi_nI, nI_clamp, nI_1]
      refine ih (x + 1) _ (by omega) (by omega) (fun y hy => ?_)
      by_cases hyx : y = x
      · rw [hyx, pk_uLs]; rfl
      · rw [pk_uLn hyx]; exact hw y (by omega)
theorem mb_copy {wn : AL} : ∀ (f x : Nat) (wt : AL), x ≤ 60 → 61 ≤ f + x → (∀ y, y < x → wt y = wn y) → ∃ wt', p_X10_below_L148 wn f (nI x) wt = some wt' ∧ ∀ y, y < 60 → wt' y = wn y := by
  intro f
  induction f with
  | zero => intro x wt h1 h2; omega
  | succ f ih =>
    intro x wt hx hf hw
    rw [p_X10_below_L148, k_60, ite_le (by omega) (by omega)]
    by_cases hmx : 60 ≤ x
    · rw [if_pos hmx]
      exact ⟨wt, rfl, fun y hy => hw y (by omega)⟩
    · rw [if_neg hmx]
      simp (disch := omega) only [gi_nI, nI_clamp, nI_1]
      refine ih (x + 1) _ (by omega) (by omega) (fun y hy => ?_)
      by_cases hyx : y = x
      · rw [hyx, pk_uLs]
      · rw [pk_uLn hyx]; exact hw y (by omega)
theorem mb_steps (hk : k < 8) (hm : m ≤ 60) (hN : ∀ s, s < m → ∀ c, c < 8 → N s c < m) (hz : ko k = nI m) (h : mt_at k m N S nxo ha) {V : Nat → Nat} {wt : AL} (hw : ∀ y, y < m → wt y = lN (V y)) : ∀ (f t : Nat) (wn : AL), t ≤ 8 * m → 8 * m + 1 ≤ f + t → (∀ y, y < m → wn y = lN (wyT N V t y)) → ∃ wn', p_X10_below_L92 (nI k) ko nxo wt f (nI t) wn = some wn' ∧ ∀ y, y < m → wn' y = lN (wyT N V (8 * m) y) := by
  intro f
  induction f with
  | zero => intro t wn h1 h2; omega
  | succ f ih =>
    intro t wn ht hf hq
    rw [p_X10_below_L92, gi_nI _ (by omega) (by omega), nI_clamp (by omega), hz, k_8, pk_mul, ite_le (by omega) (by omega)]
    by_cases hmx : 8 * m ≤ t
    · rw [if_pos hmx]
      have : t = 8 * m := by omega
      subst this
      exact ⟨wn, rfl, hq⟩
    · have hb := hN (t / 8) (by omega) (t % 8) (by omega)
      rw [if_neg hmx, pk_rem (a := t) (d := 8) (by omega) (by omega) (by omega), pk_div (by omega) (by omega) (by omega), next_is h hk hm (by omega) (by omega), ob1_some]
      simp (disch := omega) only [gi_nI, nI_clamp, nI_1, hw (t / 8) (by omega), hq _ hb, lN_add]
      refine ih (t + 1) _ (by omega) (by omega) (fun y hy => ?_)
      show _ = lN (va_up (wyT N V t) (N (t / 8) (t % 8)) (wyT N V t (N (t / 8) (t % 8)) + V (t / 8)) y)
      by_cases hyx : y = N (t / 8) (t % 8)
      · rw [hyx, pk_uLs, va_up_self]
      · rw [pk_uLn hyx, va_up_ne _ _ hyx]; exact hq y hy
theorem mb_rounds {F : Nat} (hF : 5000 ≤ F) (hk : k < 8) (hm : m ≤ 60) (hN : ∀ s, s < m → ∀ c, c < 8 → N s c < m) (hz : ko k = nI m) (h : mt_at k m N S nxo ha) {n : Nat} (hn : n ≤ 12) : ∀ (f i : Nat) (wt wn : AL), i ≤ n → n + 1 ≤ f + i → (∀ y, y < m → wt y = lN (wyV m N i y)) → ∃ wt' wn', p_X10_below_L60 F (nI n) (nI k) ko nxo f (nI i) wt wn = some (wt', wn') ∧ ∀ y, y < m → wt' y = lN (wyV m N n y) := by
  intro f
  induction f with
  | zero => intro i wt wn h1 h2; omega
  | succ f ih =>
    intro i wt wn hi hf hw
    rw [p_X10_below_L60, ite_le (by omega) (by omega)]
    by_cases hni : n ≤ i
    · rw [if_pos hni]
      have : i = n := by omega
      subst this
      exact ⟨wt, wn, rfl, hw⟩
    · obtain ⟨wn1, e1, q1⟩ := mb_zero F 0 wn (by omega) (by omega) (fun y hy => by omega)
      obtain ⟨wn2, e2, q2⟩ := mb_steps hk hm hN hz h hw F 0 wn1 (by omega) (by omega) (fun y hy => q1 y (by omega))
      obtain ⟨wt2, e3, q3⟩ := mb_copy (wn := wn2) F 0 wt (by omega) (by omega) (fun y hy => by omega)
      rw [if_neg hni, k_0, e1, ob1_some, e2, ob1_some, e3, ob1_some, nI_1]
      refine ih (i + 1) wt2 wn2 (by omega) (by omega) (fun y hy => ?_)
      rw [q3 y (by omega)]
      exact q2 y hy
theorem mb_last (hk : k < 8) (hm : m ≤ 60) (hz : ko k = nI m) (h : mt_at k m N S nxo ha) {V : Nat → Nat} {wt : AL} (hw : ∀ y, y < m → wt y = lN (V y)) : ∀ (f x : Nat), x ≤ m → m + 1 ≤ f + x → p_X10_below_L186 (nI k) ko ha wt f (lN (sm (fun y => V y * wyW N S 0 y) x)) (nI x) = some (lN (sm (fun y => V y * wyW N S 0 y) m)) := by
  intro f
  induction f with
  | zero => intro x h1 h2; omega
  | succ f ih =>
    intro x hx hf
    rw [p_X10_below_L186, gi_nI _ (by omega) (by omega), nI_clamp (by omega), hz, ite_le (by omega) (by omega)]
    by_cases hmx : m ≤ x
    · rw [if_pos hmx, show x = m by omega]
    · have e : (if bI (S x) = 0 then some (0 : Int64) else gi (nI x) 60 (some (wt (nI x).toNatClampNeg))) = some (lN (V x * wyW N S 0 x)) := by
        rw [gi_nI _ (by omega) (by omega), nI_clamp (by omega), hw x (by omega)]
        show _ = some (lN (V x * (if S x then 1 else 0)))
        cases S x
        · rw [if_pos (show bI false = 0 from rfl), if_neg (by decide), Nat.mul_zero]; rfl
        · rw [if_neg (by decide), if_pos rfl, Nat.mul_one]
      rw [if_neg hmx, holdsIn_is h hk hm (by omega), ob1_some, e, ob1_some, lN_add, nI_1]
      exact ih (x + 1) (by omega) (by omega)
end BELOW
theorem op_below {F : Nat} (hF : 5000 ≤ F) {fn fs : AF} {fz ko nxo ha : AI} (hcl : rl_cls fn fs fz ko nxo ha) (wy fw wt wn : AL) (v1 v2 : Int32) : ∃ r wy' fw' wt' wn', p_X9_below F wy fw fn fs fz v1 v2 = some (r, wy', fw') ∧ p_X10_below F ko nxo ha wt wn v1 v2 = some (r, wt', wn') := by
  unfold p_X9_below p_X10_below
  rcases isClaim_dec v1 with ⟨a1, a2⟩ | ⟨k, hk, rfl, a1, a2⟩
  · rw [a1, a2]
    exact ⟨_, wy, fw, wt, wn, rfl, rfl⟩
  rcases within_is v2 (n := 12) (by omega) with ⟨c1, c2⟩ | ⟨n, hn, rfl, c1⟩
  · have c1' : p_X10_within v2 0 (12 : Int32) = some 0 := c1
    have q3 : v2 < 0 ∨ (12 : Int32) < v2 := c2
    rw [a1, a2, c1']
    refine ⟨_, wy, fw, wt, wn, ?_, rfl⟩
    show (if v2 < 0 then _ else if (12 : Int32) < v2 then _ else _) = _
    by_cases h0 : v2 < 0
    · rw [if_pos h0]
    · rw [if_neg h0, if_pos (q3.resolve_left h0)]
  have c1' : p_X10_within (nI n) 0 (12 : Int32) = some 1 := c1
  have n1 : ¬ nI n < 0 := nI_pos (by omega)
  have n2 : ¬ (12 : Int32) < nI n := by
    rw [show (12 : Int32) = nI 12 from rfl]
    exact nI_nlt hn (by omega)
  rcases there_dec hcl hk with ⟨e1, e2, e3, e4⟩ | ⟨m, N, S, hm, h60, e1, e2, e3, e4, e5, e6, e7⟩
  · rw [a1, a2, c1', e1, e2]
    refine ⟨_, wy, fw, wt, wn, ?_, rfl⟩
    show (if nI n < 0 then _ else if (12 : Int32) < nI n then _ else _) = _
    rw [if_neg n1, if_neg n2]
    rfl
  obtain ⟨wy', fw', d1⟩ := countBelow_is hF hm h60 e5.2.1 e3 e6 hn wy fw
  obtain ⟨wt1, f1, q1⟩ := mb_first F 0 wt (by omega) (by omega) (fun y hy => by omega)
  obtain ⟨wt2, wn2, f2, q2⟩ := mb_rounds hF (show k < 8 by omega) h60 e5.2.1 e4 e7 hn F 0 wt1 wn (by omega) (by omega) (fun y hy => q1 y (by omega))
  have f3 := mb_last (show k < 8 by omega) h60 e4 e7 q2 F 0 (by omega) (by omega)
  have hall := wy_all (S := S) hm e5.2.1 n 0
  rw [Nat.add_zero] at hall
  rw [hall] at f3
  have f1' : p_X10_below_L31 F (0 : Int32) wt = some wt1 := f1
  have f2' : p_X10_below_L60 F (nI n) (nI k) ko nxo F (0 : Int32) wt1 wn = some (wt2, wn2) := f2
  have f3' : p_X10_below_L186 (nI k) ko ha wt2 F (0 : Int64) (0 : Int32) = some (lN (wyW N S n 0)) := f3
  refine ⟨lN (wyW N S n 0), wy', fw', wt2, wn2, ?_, ?_⟩
  · rw [a1, ob1_some, if_neg (by decide), if_neg n1, if_neg n2, e1, ob1_some, if_neg (by decide)]
    simp (disch := omega) only [gi_nI, nI_clamp]
    rw [d1]
    rfl
  · rw [a2, ob1_some, if_neg (by decide), c1', ob1_some, if_neg (by decide), e2, ob1_some, if_neg (by decide), f1', ob1_some, f2']
    simp only [ob2]
    rw [f3', ob1_some]
