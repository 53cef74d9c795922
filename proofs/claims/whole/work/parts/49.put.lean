/-! the class: the sorts walked, and the draft put in a claim's place -/
def ko (b : bf_T) (c : Nat) (kindOf : AI) : Prop := ∀ j, j < c → kindOf j = if b.1 j = 0 then (-1 : Int32) else nI (b.1 j - 1)
def ct_at (m : Nat) (N : Nat → Nat → Nat) (S : Nat → Bool) (c_next c_says : AI) : Prop := (∀ x c, x < m → c < 8 → c_next (x * 8 + c) = nI (N x c)) ∧ ∀ x, x < m → c_says x = bI (S x)
theorem bf_fit {b : bf_T} {c : Nat} (h : bf_ok b) (hc : ∀ x, x < b.2.2 → b.2.1 x < c) : b.2.2 ≤ c := ph_le (h := b.2.1) hc (fun i j hi hj e => by
  have e1 := h.1 i hi
  have e2 := h.1 j hj
  rw [e] at e1
  omega)
theorem bf_room {b : bf_T} {c j : Nat} (h : bf_ok b) (hc : ∀ x, x < b.2.2 → b.2.1 x < c) (hj : j < c) (hz : b.1 j = 0) : b.2.2 + 1 ≤ c := by
  have e : bf_new j b = (va_up b.1 j (b.2.2 + 1), va_up b.2.1 b.2.2 j, b.2.2 + 1) := by unfold bf_new; rw [if_pos hz]
  have h1 := bf_fit (bf_new_ok (j := j) h) (c := c) (fun x hx => by
    rw [e] at hx ⊢
    show va_up b.2.1 b.2.2 j x < c
    by_cases hxx : x = b.2.2
    · rw [hxx, va_up_self]; exact hj
    · rw [va_up_ne _ _ hxx]
      have hx : x < b.2.2 + 1 := hx
      exact hc x (by omega))
  rw [e] at h1
  exact h1
theorem meet_is {b : bf_T} {c j : Nat} {kindOf order : AI} (hok : bf_ok b) (hcl : ∀ x, x < b.2.2 → b.2.1 x < c) (hc : c ≤ 60) (hj : j < c) (h1 : ko b c kindOf) (h2 : bc b order) :
    ∃ ko' od', p_X1_meet kindOf order (nI j) (nI b.2.2) = some (nI (bf_new j b).2.2, ko', od') ∧ ko (bf_new j b) c ko' ∧ bc (bf_new j b) od' := by
  have hfit := bf_fit hok hcl
  unfold p_X1_meet
  rw [k_60, if_neg (nI_pos (by omega)), ite_le (by omega) (by omega), if_neg (by omega), if_neg (nI_pos (by omega)), ite_le (by omega) (by omega)]
  have hkj := h1 j hj
  by_cases hz : b.1 j = 0
  · have hroom := bf_room hok hcl hj hz
    have e : bf_new j b = (va_up b.1 j (b.2.2 + 1), va_up b.2.1 b.2.2 j, b.2.2 + 1) := by unfold bf_new; rw [if_pos hz]
    rw [if_pos hz] at hkj
    rw [if_neg (by omega)]
    simp (disch := omega) only [gi_nI, nI_clamp, hkj, nI_1]
    rw [if_pos (by decide)]
    have em : (bf_new j b).2.2 = b.2.2 + 1 := by rw [e]
    rw [em]
    refine ⟨_, _, rfl, fun i hi => ?_, fun x hx => ?_⟩
    · by_cases hij : i = j
      · have o : (bf_new j b).1 j = b.2.2 + 1 := by rw [e]; exact va_up_self _ _ _
        rw [hij, upd_self, o, if_neg (by omega), Nat.add_sub_cancel]
      · have o : (bf_new j b).1 i = b.1 i := by rw [e]; exact va_up_ne _ _ hij
        rw [upd_ne _ _ hij, o]; exact h1 i hi
    · rw [em] at hx
      by_cases hxx : x = b.2.2
      · have o : (bf_new j b).2.1 b.2.2 = j := by rw [e]; exact va_up_self _ _ _
        rw [hxx, upd_self, o]
      · rw [upd_ne _ _ hxx, bf_new_cls (by omega)]; exact h2 x (by omega)
  · have e : bf_new j b = b := by unfold bf_new; rw [if_neg hz]
    rw [if_neg hz] at hkj
    rw [e]
    by_cases h60 : 60 ≤ b.2.2
    · rw [if_pos h60]
      exact ⟨kindOf, order, rfl, h1, h2⟩
    · rw [if_neg h60]
      have hb := hok.2 j
      simp (disch := omega) only [gi_nI, nI_clamp, hkj]
      rw [if_neg (nI_pos (by omega))]
      exact ⟨kindOf, order, rfl, h1, h2⟩
section PUT
variable {n rm c : Nat} {N : Nat → Nat → Nat} {S : Nat → Bool} {K : Nat → Nat} {d_next d_says d_sort : AI}
theorem states_loop (hnr : n ≤ rm) (hr : rm ≤ 3600) (hc : c ≤ 60) (hK : sg_part n K c) (hso : ∀ s, s < n → d_sort s = nI (K s)) :
    ∀ (f s : Nat) (st : AI) (R : Nat → Nat), s ≤ n → n + 1 ≤ f + s → (∀ u, u < s → st (K u) = nI (R (K u)) ∧ R (K u) < n ∧ K (R (K u)) = K u) → ∃ (st' : AI) (R' : Nat → Nat), p_X1_putInOrder_L2 (nI n) rm d_sort f (nI s) st = some st' ∧ ∀ u, u < n → st' (K u) = nI (R' (K u)) ∧ R' (K u) < n ∧ K (R' (K u)) = K u := by
  intro f
  induction f with
  | zero => intro s st R h1 h2; omega
  | succ f ih =>
    intro s st R hs hf h
    rw [p_X1_putInOrder_L2, ite_le (by omega) (by omega)]
    by_cases hns : n ≤ s
    · rw [if_pos hns]
      exact ⟨st, R, rfl, fun u hu => h u (by omega)⟩
    · rw [if_neg hns]
      have hss := hso s (by omega)
      have hks := hK.1 s (by omega)
      simp (disch := omega) only [gi_nI, nI_clamp, hss, nI_1]
      rw [if_neg (nI_pos (by omega)), k_60, ite_le (by omega) (by omega), if_neg (by omega), ob1_some]
      refine ih (s + 1) _ (va_up R (K s) s) (by omega) (by omega) (fun u hu => ?_)
      by_cases hku : K u = K s
      · rw [hku, upd_self, va_up_self]
        exact ⟨rfl, by omega, rfl⟩
      · rw [upd_ne _ _ hku, va_up_ne _ _ hku]
        have hne : u ≠ s := fun q => hku (by rw [q])
        exact h u (by omega)
/-- the walk's columns from the x-th sort met -/
theorem meets_loop (hn0 : 0 < n) (hnr : n ≤ rm) (hr : rm ≤ 3600) (hN : ∀ s, s < n → ∀ c, c < 8 → N s c < n) (hm : dm_N n N d_next) (hc : c ≤ 60) (hK : sg_part n K c) (hso : ∀ s, s < n → d_sort s = nI (K s)) {Fi : Nat → Nat} (hFi : ∀ j, j < c → Fi j < n ∧ K (Fi j) = j) {x : Nat}
    (hx : ∀ y, y ≤ x → y < (bf (fun j l => K (N (Fi j) l)) (K 0) (8 * y)).2.2) :
    ∀ (f l : Nat) (kd od : AI), l ≤ 8 → 9 ≤ f + l → ko (bf (fun j l => K (N (Fi j) l)) (K 0) (8 * x + l)) c kd → bc (bf (fun j l => K (N (Fi j) l)) (K 0) (8 * x + l)) od →
      ∃ kd' od', p_X1_putInOrder_L95 rm (nI n) d_next d_sort (nI (Fi ((bf (fun j l => K (N (Fi j) l)) (K 0) (8 * x)).2.1 x))) f (nI (bf (fun j l => K (N (Fi j) l)) (K 0) (8 * x + l)).2.2) (nI l) kd od = some (nI (bf (fun j l => K (N (Fi j) l)) (K 0) (8 * x + 8)).2.2, kd', od') ∧ ko (bf (fun j l => K (N (Fi j) l)) (K 0) (8 * x + 8)) c kd' ∧ bc (bf (fun j l => K (N (Fi j) l)) (K 0) (8 * x + 8)) od' := by
  generalize hQ : (fun j l => K (N (Fi j) l)) = Q at hx ⊢
  have hQe : ∀ j l, Q j l = K (N (Fi j) l) := fun j l => by rw [← hQ]
  have hQl : ∀ j, j < c → ∀ l, l < 8 → Q j l < c := fun j hj l hl => by rw [hQe]; exact hK.1 _ (hN _ (hFi j hj).1 l hl)
  have hx8 := hx x (Nat.le_refl _)
  have htl : ∀ t, t ≤ 8 * x + 8 → ∀ u, u < t → u / 8 < (bf Q (K 0) u).2.2 := fun t ht u hu => Nat.lt_of_lt_of_le (hx (u / 8) (by omega)) (bf_many (by omega))
  have hb0 := bf_lt (hK.1 0 hn0) hQl (htl (8 * x) (by omega))
  generalize hjx : (bf Q (K 0) (8 * x)).2.1 x = jx
  have hjxc : jx < c := by rw [← hjx]; exact hb0.1 x hx8
  intro f
  induction f with
  | zero => intro l kd od h1 h2; omega
  | succ f ih =>
    intro l kd od hl hf hk ho
    rw [p_X1_putInOrder_L95, k_8, ite_le (by omega) (by omega)]
    by_cases h8 : 8 ≤ l
    · rw [if_pos h8]
      have : l = 8 := by omega
      subst this
      exact ⟨kd, od, rfl, hk, ho⟩
    · rw [if_neg h8]
      have hjn := hFi jx hjxc
      have hto := hN (Fi jx) hjn.1 l (by omega)
      have hbt := bf_lt (hK.1 0 hn0) hQl (htl (8 * x + l) (by omega))
      have hcx : (bf Q (K 0) (8 * x + l)).2.1 x = jx := by rw [bf_cls (a := 8 * x) (by omega) hx8]; exact hjx
      have hst : bf Q (K 0) (8 * x + (l + 1)) = bf_new (K (N (Fi jx) l)) (bf Q (K 0) (8 * x + l)) := by
        show bf_new (Q ((bf Q (K 0) (8 * x + l)).2.1 ((8 * x + l) / 8)) ((8 * x + l) % 8)) _ = _
        rw [show (8 * x + l) / 8 = x by omega, show (8 * x + l) % 8 = l by omega, hcx, hQe]
        rfl
      rw [sortAfter_is hnr hr hN hm hso hjn.1 (show l < 8 by omega), ob1_some]
      obtain ⟨kd', od', e, q1, q2⟩ := meet_is (bf_all_ok (Q := Q) (j0 := K 0) (8 * x + l)) hbt.1 hc (hK.1 _ hto) hk ho
      rw [e]
      simp only [ob3]
      rw [nI_1, ← hst]
      rw [← hst] at q1 q2
      exact ih (l + 1) kd' od' (by omega) (by omega) q1 q2
theorem order_loop (hn0 : 0 < n) (hnr : n ≤ rm) (hr : rm ≤ 3600) (hN : ∀ s, s < n → ∀ c, c < 8 → N s c < n) (hm : dm_N n N d_next) (hc : c ≤ 60) (hK : sg_part n K c) (hso : ∀ s, s < n → d_sort s = nI (K s)) {Fi : Nat → Nat} (hFi : ∀ j, j < c → Fi j < n ∧ K (Fi j) = j) {st : AI} (hst : ∀ j, j < c → st j = nI (Fi j)) {F : Nat} (hF : 5000 ≤ F) :
    ∀ (f x : Nat) (kd od : AI), 62 ≤ f + x → x ≤ (bf (fun j l => K (N (Fi j) l)) (K 0) (8 * x)).2.2 → (∀ y, y < x → y < (bf (fun j l => K (N (Fi j) l)) (K 0) (8 * y)).2.2) → ko (bf (fun j l => K (N (Fi j) l)) (K 0) (8 * x)) c kd → bc (bf (fun j l => K (N (Fi j) l)) (K 0) (8 * x)) od →
      ∃ m kd' od', p_X1_putInOrder_L70 F st rm (nI n) d_next d_sort f (nI (bf (fun j l => K (N (Fi j) l)) (K 0) (8 * x)).2.2) (nI x) kd od = some (nI m, kd', od') ∧ m ≤ 60 ∧ bf_end (fun j l => K (N (Fi j) l)) (K 0) m ∧ ko (bf (fun j l => K (N (Fi j) l)) (K 0) (8 * m)) c kd' ∧ bc (bf (fun j l => K (N (Fi j) l)) (K 0) (8 * m)) od' := by
  have hlet := @meets_loop n rm c N K d_next d_sort hn0 hnr hr hN hm hc hK hso Fi hFi
  generalize hQ : (fun j l => K (N (Fi j) l)) = Q at hlet ⊢
  have hQe : ∀ j l, Q j l = K (N (Fi j) l) := fun j l => by rw [← hQ]
  have hQl : ∀ j, j < c → ∀ l, l < 8 → Q j l < c := fun j hj l hl => by rw [hQe]; exact hK.1 _ (hN _ (hFi j hj).1 l hl)
  intro f
  induction f with
  | zero =>
    intro x kd od hfu hx hy
    have hb := bf_lt (hK.1 0 hn0) hQl (t := 8 * x) (fun u hu => Nat.lt_of_lt_of_le (hy (u / 8) (by omega)) (bf_many (by omega)))
    omega
  | succ f ih =>
    intro x kd od hfu hx hy hk ho
    have hb := bf_lt (hK.1 0 hn0) hQl (t := 8 * x) (fun u hu => Nat.lt_of_lt_of_le (hy (u / 8) (by omega)) (bf_many (by omega)))
    rw [p_X1_putInOrder_L70, ite_le (by omega) (by omega)]
    by_cases hmx : (bf Q (K 0) (8 * x)).2.2 ≤ x
    · rw [if_pos hmx]
      have hxe : (bf Q (K 0) (8 * x)).2.2 = x := by omega
      rw [hxe]
      exact ⟨x, kd, od, rfl, by omega, ⟨hxe, hy⟩, hk, ho⟩
    · have hxl : x < (bf Q (K 0) (8 * x)).2.2 := by omega
      have hjc := hb.1 x hxl
      have hox := ho x hxl
      have hsx := hst _ hjc
      rw [if_neg hmx, k_60, ite_le (by omega) (by omega), if_neg (by omega)]
      have hso2 : p_X1_stateOfSort st (nI ((bf Q (K 0) (8 * x)).2.1 x)) = some (nI (Fi ((bf Q (K 0) (8 * x)).2.1 x))) := by
        unfold p_X1_stateOfSort
        rw [if_neg (nI_pos (by omega)), k_60, ite_le (by omega) (by omega), if_neg (by omega)]
        simp (disch := omega) only [gi_nI, nI_clamp, hsx]
      simp (disch := omega) only [gi_nI, nI_clamp, hox, hso2, ob1_some]
      obtain ⟨kd', od', e, q1, q2⟩ := hlet (x := x) (fun y hy2 => by
        rcases Nat.lt_or_ge y x with q | q
        · exact hy y q
        · rw [show y = x by omega]; exact hxl) F 0 kd od (by omega) (by omega) hk ho
      rw [show 8 * x + 0 = 8 * x from rfl] at e
      rw [k_0, e]
      simp only [ob3]
      rw [show 8 * x + 8 = 8 * (x + 1) by omega] at q1 q2 ⊢
      have hmm : (bf Q (K 0) (8 * x)).2.2 ≤ (bf Q (K 0) (8 * (x + 1))).2.2 := bf_many (by omega)
      rw [nI_1]
      refine ih (x + 1) kd' od' (by omega) (by omega) (fun y hy2 => ?_) q1 q2
      rcases Nat.lt_or_ge y x with q | q
      · exact hy y q
      · rw [show y = x by omega]; exact hxl
theorem putInOrder_is (hn0 : 0 < n) (hnr : n ≤ rm) (hr : rm ≤ 3600) (hN : ∀ s, s < n → ∀ c, c < 8 → N s c < n) (hm : dm_N n N d_next) (hc : c ≤ 60) (hK : sg_part n K c) (hso : ∀ s, s < n → d_sort s = nI (K s)) {F : Nat} (hF : 5000 ≤ F) (st0 kd0 od0 : AI) :
    ∃ (m : Nat) (st kd od : AI) (Fi : Nat → Nat), p_X1_putInOrder F rm st0 kd0 od0 (nI n) d_next d_sort = some (nI m, st, kd, od) ∧ m ≤ 60 ∧ (∀ j, j < c → Fi j < n ∧ K (Fi j) = j) ∧ (∀ j, j < c → st j = nI (Fi j)) ∧ bf_end (fun j l => K (N (Fi j) l)) (K 0) m ∧ ko (bf (fun j l => K (N (Fi j) l)) (K 0) (8 * m)) c kd ∧ bc (bf (fun j l => K (N (Fi j) l)) (K 0) (8 * m)) od := by
  unfold p_X1_putInOrder
  obtain ⟨st, Fi, e1, q1⟩ := states_loop hnr hr hc hK hso F 0 st0 (fun _ => 0) (Nat.zero_le _) (by omega) (fun u h => by omega)
  have hFi : ∀ j, j < c → Fi j < n ∧ K (Fi j) = j := fun j hj => by
    obtain ⟨u, u1, u2⟩ := hK.2 j hj
    have := q1 u u1
    rw [u2] at this
    exact this.2
  have hst : ∀ j, j < c → st j = nI (Fi j) := fun j hj => by
    obtain ⟨u, u1, u2⟩ := hK.2 j hj
    have := q1 u u1
    rw [u2] at this
    exact this.1
  rw [k_0, e1, ob1_some]
  obtain ⟨kd, e2, q2, -⟩ := fill_is (N := 60) (F := F) (by omega) (by omega) (-1) kd0
  rw [e2, ob1_some]
  have h0 := hso 0 hn0
  have hK0 := hK.1 0 hn0
  simp (disch := omega) only [gi_nI, nI_clamp, h0]
  obtain ⟨kd1, od1, e3, q3, q4⟩ := meet_is (b := (fun _ => 0, fun _ => 0, 0)) (c := c) (j := K 0) (kindOf := kd) (order := od0) ⟨fun x hx => absurd hx (Nat.not_lt_zero x), fun j => Or.inl rfl⟩ (fun x hx => absurd hx (Nat.not_lt_zero x)) hc hK0 (fun j hj => by rw [if_pos rfl]; exact q2 j (by omega)) (fun x hx => absurd hx (Nat.not_lt_zero x))
  rw [e3]
  simp only [ob3]
  obtain ⟨m, kd2, od2, e4, r1, r2, r3, r4⟩ := order_loop hn0 hnr hr hN hm hc hK hso hFi hst hF F 0 kd1 od1 (by omega) (Nat.zero_le _) (fun y h => by omega) q3 q4
  have e5 : p_X1_putInOrder_L70 F st rm (nI n) d_next d_sort F (nI (bf_new (K 0) (fun _ => 0, fun _ => 0, 0)).2.2) (nI 0) kd1 od1 = some (nI m, kd2, od2) := e4
  rw [e5]
  exact ⟨m, st, kd2, od2, Fi, rfl, r1, hFi, hst, r2, r3, r4⟩
theorem isKind_is {m x : Nat} (hm : m < 2 ^ 31) (hx : x < m) : p_X0_isKind (nI m) (nI x) = some 1 := by
  unfold p_X0_isKind
  rw [if_neg (nI_pos (by omega)), ite_le (by omega) (by omega), if_neg (by omega), gb_in _ (by decide)]
theorem isColumn_is {x : Nat} (hx : x < 8) : p_X9_isColumn (nI x) = some 1 := by
  unfold p_X9_isColumn
  rw [if_neg (nI_pos (by omega)), k_8, ite_le (by omega) (by omega), if_neg (by omega), gb_in _ (by decide)]
theorem cwrite_is {m x l y : Nat} (hm : m ≤ 60) (hx : x < m) (hl : l < 8) (hy : y < m) (cn : AI) : p_X0_write cn (nI m) (nI x) (nI l) (nI y) = some (upd cn (x * 8 + l) (nI y)) := by
  unfold p_X0_write
  rw [isKind_is (by omega) hx, ob1_some, if_neg (by decide), isColumn_is hl, ob1_some, if_neg (by decide), isKind_is (by omega) hy, ob1_some, if_neg (by decide), k_8]
  simp (disch := omega) only [pk_mul, nI_add, gi_nI, nI_clamp]
theorem cwriteSays_is {m x : Nat} (hm : m ≤ 60) (hx : x < m) (b : Bool) (cs : AI) : p_X0_writeSays cs (nI m) (nI x) (bI b) = some (upd cs x (bI b)) := by
  unfold p_X0_writeSays
  rw [isKind_is (by omega) hx, ob1_some, if_neg (by decide)]
  simp (disch := omega) only [gi_nI, nI_clamp, bI_and]
theorem kindOfSort_is {b : bf_T} {kd : AI} {j : Nat} (hk : ko b c kd) (hc : c ≤ 60) (hj : j < c) (hz : b.1 j ≠ 0) : p_X1_kindOfSort kd (nI j) = some (nI (b.1 j - 1)) := by
  unfold p_X1_kindOfSort
  have := hk j hj
  rw [if_neg hz] at this
  rw [if_neg (nI_pos (by omega)), k_60, ite_le (by omega) (by omega), if_neg (by omega)]
  simp (disch := omega) only [gi_nI, nI_clamp, this]
theorem begin_is {m : Nat} (hm : m ≤ 60) : p_X0_begin (nI m) = some (nI m) := by
  unfold p_X0_begin
  rw [k_60, k_0]
  have e : (if nI 60 < nI m then nI 60 else nI m) = nI m := by rw [ite_lt (by omega) (by omega), if_neg (by omega)]
  rw [e, ite_lt (by omega) (by omega)]
  by_cases h : 0 < m
  · rw [if_pos h]
  · rw [if_neg h, show m = 0 by omega]
theorem isState_is (hnr : n ≤ 3600) {s : Nat} (hs : s < n) : p_X1_isState (nI n) (nI s) = some 1 := by
  unfold p_X1_isState
  rw [if_neg (nI_pos (by omega)), ite_le (by omega) (by omega), if_neg (by omega), gb_in _ (by decide)]
variable {m : Nat} {kd od st : AI} {Fi : Nat → Nat}
theorem copy_columns (hnr : n ≤ rm) (hr : rm ≤ 3600) (hN : ∀ s, s < n → ∀ c, c < 8 → N s c < n) (hm : dm_N n N d_next) (hc : c ≤ 60) (hK : sg_part n K c) (hso : ∀ s, s < n → d_sort s = nI (K s)) (hFi : ∀ j, j < c → Fi j < n ∧ K (Fi j) = j) (hm60 : m ≤ 60) (he : bf_end (fun j l => K (N (Fi j) l)) (K 0) m) (hkd : ko (bf (fun j l => K (N (Fi j) l)) (K 0) (8 * m)) c kd) {x : Nat} (hx : x < m) (hjx : (bf (fun j l => K (N (Fi j) l)) (K 0) (8 * m)).2.1 x < c) :
    ∀ (f l : Nat) (cn : AI), l ≤ 8 → 9 ≤ f + l → (∀ d, d < l → cn (x * 8 + d) = nI (bf_next (fun j l => K (N (Fi j) l)) (K 0) m x d)) →
      ∃ cn', p_X1_copyInto_L62 rm (nI n) d_next d_sort (nI (Fi ((bf (fun j l => K (N (Fi j) l)) (K 0) (8 * m)).2.1 x))) kd (nI m) (nI x) f (nI l) cn = some cn' ∧ (∀ d, d < 8 → cn' (x * 8 + d) = nI (bf_next (fun j l => K (N (Fi j) l)) (K 0) m x d)) ∧ ∀ i, i < x * 8 → cn' i = cn i := by
  intro f
  induction f with
  | zero => intro l cn h1 h2; omega
  | succ f ih =>
    intro l cn hl hf h
    rw [p_X1_copyInto_L62, k_8, ite_le (by omega) (by omega)]
    by_cases h8 : 8 ≤ l
    · rw [if_pos h8]
      exact ⟨cn, rfl, fun d hd => h d (by omega), fun _ _ => rfl⟩
    · rw [if_neg h8]
      have hjn := hFi _ hjx
      have hto := hN _ hjn.1 l (by omega)
      rw [sortAfter_is hnr hr hN hm hso hjn.1 (show l < 8 by omega), ob1_some]
      obtain ⟨b1, b2⟩ := bf_next_cls he hx (show l < 8 by omega)
      have hok := bf_all_ok (Q := fun j l => K (N (Fi j) l)) (j0 := K 0) (8 * m)
      have hz := hok.1 _ (by rw [he.1]; exact b1)
      rw [b2] at hz
      have hz2 : (bf (fun j l => K (N (Fi j) l)) (K 0) (8 * m)).1 (K (N (Fi ((bf (fun j l => K (N (Fi j) l)) (K 0) (8 * m)).2.1 x)) l)) = bf_next (fun j l => K (N (Fi j) l)) (K 0) m x l + 1 := hz
      rw [kindOfSort_is hkd hc (hK.1 _ hto) (by rw [hz2]; omega), ob1_some, hz2, Nat.add_sub_cancel, cwrite_is hm60 hx (show l < 8 by omega) b1, ob1_some, nI_1]
      obtain ⟨cn', e, q1, q2⟩ := ih (l + 1) (upd cn (x * 8 + l) (nI (bf_next (fun j l => K (N (Fi j) l)) (K 0) m x l))) (by omega) (by omega) (fun d hd => by
        by_cases hdl : d = l
        · rw [hdl, upd_self]
        · rw [upd_ne _ _ (show x * 8 + d ≠ x * 8 + l by omega)]; exact h d (by omega))
      exact ⟨cn', e, q1, fun i hi => by rw [q2 i hi, upd_ne _ _ (by omega)]⟩
theorem copy_loop (hn0 : 0 < n) (hnr : n ≤ rm) (hr : rm ≤ 3600) (hN : ∀ s, s < n → ∀ c, c < 8 → N s c < n) (hm : dm_N n N d_next) (hS : mm_S n S d_says) (hc : c ≤ 60) (hK : sg_part n K c) (hso : ∀ s, s < n → d_sort s = nI (K s)) (hFi : ∀ j, j < c → Fi j < n ∧ K (Fi j) = j) (hst : ∀ j, j < c → st j = nI (Fi j)) (hm60 : m ≤ 60) (he : bf_end (fun j l => K (N (Fi j) l)) (K 0) m) (hkd : ko (bf (fun j l => K (N (Fi j) l)) (K 0) (8 * m)) c kd) (hod : bc (bf (fun j l => K (N (Fi j) l)) (K 0) (8 * m)) od) {F : Nat} (hF : 5000 ≤ F) :
    ∀ (f x : Nat) (cn cs : AI), x ≤ m → m + 1 ≤ f + x → (∀ y d, y < x → d < 8 → cn (y * 8 + d) = nI (bf_next (fun j l => K (N (Fi j) l)) (K 0) m y d)) → (∀ y, y < x → cs y = bI (S (Fi ((bf (fun j l => K (N (Fi j) l)) (K 0) (8 * m)).2.1 y)))) →
      ∃ cn' cs', p_X1_copyInto_L7 F (nI m) st od (nI n) rm d_says (nI m) d_next d_sort kd f (nI x) cn cs = some (cn', cs') ∧ (∀ y d, y < m → d < 8 → cn' (y * 8 + d) = nI (bf_next (fun j l => K (N (Fi j) l)) (K 0) m y d)) ∧ ∀ y, y < m → cs' y = bI (S (Fi ((bf (fun j l => K (N (Fi j) l)) (K 0) (8 * m)).2.1 y))) := by
  have hQl : ∀ j, j < c → ∀ l, l < 8 → (fun j l => K (N (Fi j) l)) j l < c := fun j hj l hl => hK.1 _ (hN _ (hFi j hj).1 l hl)
  have hbl := bf_lt (hK.1 0 hn0) hQl (t := 8 * m) (fun u hu => he.at hu)
  have hcols := @copy_columns n rm c N K d_next d_sort m kd Fi hnr hr hN hm hc hK hso hFi hm60 he hkd
  intro f
  induction f with
  | zero => intro x cn cs h1 h2; omega
  | succ f ih =>
    intro x cn cs hx hf h1 h2
    rw [p_X1_copyInto_L7, ite_le (by omega) (by omega)]
    by_cases hmx : m ≤ x
    · rw [if_pos hmx]
      exact ⟨cn, cs, rfl, fun y d hy hd => h1 y d (by omega) hd, fun y hy => h2 y (by omega)⟩
    · have hxl : x < (bf (fun j l => K (N (Fi j) l)) (K 0) (8 * m)).2.2 := by rw [he.1]; omega
      have hjx := hbl.1 x hxl
      have hox := hod x hxl
      have hsx := hst _ hjx
      have hFx := (hFi _ hjx).1
      have hSx := hS _ hFx
      rw [if_neg hmx, k_60, ite_le (by omega) (by omega), if_neg (by omega)]
      have hso2 : p_X1_stateOfSort st (nI ((bf (fun j l => K (N (Fi j) l)) (K 0) (8 * m)).2.1 x)) = some (nI (Fi ((bf (fun j l => K (N (Fi j) l)) (K 0) (8 * m)).2.1 x))) := by
        unfold p_X1_stateOfSort
        rw [if_neg (nI_pos (by omega)), k_60, ite_le (by omega) (by omega), if_neg (by omega)]
        simp (disch := omega) only [gi_nI, nI_clamp, hsx]
      simp (disch := omega) only [gi_nI, nI_clamp, hox, hso2, ob1_some]
      rw [isState_is (by omega) hFx, ob1_some, if_neg (by decide)]
      simp (disch := omega) only [gi_nI, nI_clamp, hSx]
      rw [ob1_ft, show ∀ b : Bool, bI (!decide (bI b = 0)) = bI b from fun b => by cases b <;> rfl, cwriteSays_is hm60 (by omega), ob1_some, k_0]
      obtain ⟨cn', e, q1, q2⟩ := hcols (x := x) (by omega) hjx F 0 cn (by omega) (by omega) (fun d hd => by omega)
      rw [e, ob1_some, nI_1]
      refine ih (x + 1) cn' _ (by omega) (by omega) (fun y d hy hd => ?_) (fun y hy => ?_)
      · by_cases hyx : y = x
        · rw [hyx]; exact q1 d hd
        · rw [q2 _ (by omega)]; exact h1 y d (by omega) hd
      · by_cases hyx : y = x
        · rw [hyx, upd_self]
        · rw [upd_ne _ _ hyx]; exact h2 y (by omega)
end PUT
theorem cf_fin.few {n c : Nat} {N : Nat → Nat → Nat} {S : Nat → Bool} {K : Nat → Nat} (h : cf_fin n N S c K) (hN : ∀ s, s < n → ∀ c, c < 8 → N s c < n) : ¬ au_many n N S := by
  obtain ⟨f1, f2, f3, f4, f5⟩ := h
  obtain ⟨g, hg⟩ := ph_sec (c := n) (d := c) (g := K) f2.2
  exact mm_fin.few (Fi := g) (K := K) ⟨f1, f2, f3, f4, f5, hg⟩ hN
/-- the draft put in a claim's place, or SPENT with the claim as it was -/
theorem reduceInto_is {n rm : Nat} {N : Nat → Nat → Nat} {S : Nat → Bool} {d_next d_says : AI} (hn0 : 0 < n) (hnr : n ≤ rm) (hr : rm ≤ 3600) (hN : ∀ s, s < n → ∀ c, c < 8 → N s c < n) (hm : dm_N n N d_next) (hS : mm_S n S d_says) {F : Nat} (hF : 5000 ≤ F) {table : AI} {turn : Int32} (hp : pn_ok table turn) (st kd od so fr cn cs : AI) (cz : Int32) :
    (∃ m TN TS st' kd' od' so' fr' tb' tn' ct' cn' cs', p_X1_reduceInto F rm st kd od (nI n) d_next d_says so fr table turn cn cs cz = some (nI m, st', kd', od', so', fr', tb', tn', ct', cn', cs', nI m) ∧ pn_ok tb' tn' ∧ m ≤ 60 ∧ au_can m TN TS ∧ au_eq TN TS 0 N S 0 ∧ ct_at m TN TS cn' cs' ∧ ¬ au_many n N S) ∨
    (∃ so' fr' tb' tn' ct', p_X1_reduceInto F rm st kd od (nI n) d_next d_says so fr table turn cn cs cz = some ((-6 : Int32), st, kd, od, so', fr', tb', tn', ct', cn, cs, cz) ∧ pn_ok tb' tn' ∧ au_many n N S) := by
  unfold p_X1_reduceInto
  rcases tellApart_is hn0 hnr hr hN hm hS hF hp so fr with ⟨c, K, so', fr', tb', tn', ct', e, q1, q2, q3⟩ | ⟨so', fr', tb', tn', ct', e, q1, q2⟩
  · rw [e]
    simp only [ob6]
    rw [if_neg (by decide)]
    obtain ⟨m, st', kd', od', Fi, e2, r1, r2, r3, r4, r5, r6⟩ := putInOrder_is hn0 hnr hr hN hm q2.1 q2.2.1 q3 hF st kd od
    rw [e2]
    simp only [ob4]
    unfold p_X1_copyInto
    rw [begin_is r1, ob1_some]
    obtain ⟨cn', cs', e3, s1, s2⟩ := copy_loop hn0 hnr hr hN hm hS q2.1 q2.2.1 q3 r2 r3 r1 r4 r5 r6 hF F 0 cn cs (Nat.zero_le _) (by omega) (fun y d h => by omega) (fun y h => by omega)
    rw [k_0, e3]
    obtain ⟨a1, a2⟩ := au_quot (rp := Fi) hn0 hN q2.2.2.1 q2.2.2.2.2 q2.2.2.2.1 (fun s hs => r2 _ (q2.2.1.1 s hs)) r4
    exact Or.inl ⟨m, _, _, st', kd', od', so', fr', tb', tn', ct', cn', cs', rfl, q1, r1, a1, a2, ⟨s1, s2⟩, q2.few hN⟩
  · rw [e]
    simp only [ob6]
    rw [if_pos trivial]
    exact Or.inr ⟨so', fr', tb', tn', ct', rfl, q1, q2⟩
