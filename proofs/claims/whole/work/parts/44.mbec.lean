/-! the model: the sorts walked, and what is made becomes a claim -/
theorem nI_m9 {a : Nat} (h : a < 2 ^ 31) : ¬ nI a = (-9 : Int32) := by
  intro q
  have := congrArg Int32.toInt q
  rw [nI_toInt h] at this
  have e : (-9 : Int32).toInt = -9 := by decide
  omega
def bo (b : bf_T) (c : Nat) (orderOf : AI) : Prop := ∀ j, j < c → orderOf j = if b.1 j = 0 then (-9 : Int32) else nI (b.1 j - 1)
def bc (b : bf_T) (classAt : AI) : Prop := ∀ x, x < b.2.2 → classAt x = nI (b.2.1 x)
/-- the number that the t-th step of the walk tells -/
def bf_nx (Q : Nat → Nat → Nat) (j0 t : Nat) : Nat := (bf Q j0 (t + 1)).1 (Q ((bf Q j0 t).2.1 (t / 8)) (t % 8)) - 1
theorem bf_nx_is {Q : Nat → Nat → Nat} {j0 m : Nat} (h : bf_end Q j0 m) {x c : Nat} (hx : x < m) (hc : c < 8) : bf_nx Q j0 (8 * x + c) = bf_next Q j0 m x c := by
  have e := bf_next_t h (t := 8 * x + c) (by omega)
  unfold bf_nx
  rw [← e, show (8 * x + c) / 8 = x by omega, show (8 * x + c) % 8 = c by omega]
  omega
theorem bf_lt {Q : Nat → Nat → Nat} {j0 c t : Nat} (h0 : j0 < c) (hQ : ∀ j, j < c → ∀ l, l < 8 → Q j l < c) (ht : ∀ u, u < t → u / 8 < (bf Q j0 u).2.2) : (∀ x, x < (bf Q j0 t).2.2 → (bf Q j0 t).2.1 x < c) ∧ (bf Q j0 t).2.2 ≤ c := by
  have h := bf_all (fun j => j < c) h0 hQ t ht
  refine ⟨h, ph_le (h := (bf Q j0 t).2.1) h (fun i j hi hj e => ?_)⟩
  have hok := bf_all_ok (Q := Q) (j0 := j0) t
  have e1 := hok.1 i hi
  have e2 := hok.1 j hj
  rw [e] at e1
  omega
section MBEC
variable {n c k : Nat} {N : Nat → Nat → Nat} {S : Nat → Bool} {K Fi : Nat → Nat} {madeNext madeHolds joined firstIn : AI}
/-- the walk's state behind t steps, in the model's rows -/
def mb_inv (Q : Nat → Nat → Nat) (j0 c k t : Nat) (nx0 nextOf orderOf classAt : AI) : Prop :=
  bo (bf Q j0 t) c orderOf ∧ bc (bf Q j0 t) classAt ∧ (∀ u, u < t → nextOf (480 * k + u) = nI (bf_nx Q j0 u)) ∧ ∀ i, (i < 480 * k ∨ 480 * k + 480 ≤ i) → nextOf i = nx0 i
theorem mb_letters (hn : n ≤ 3600) (hN : ∀ s, s < n → ∀ c, c < 8 → N s c < n) (hm : mm_N n N madeNext) (hf : mm_fin n N S c K Fi) (hn0 : 0 < n) (hjd : mm_J n K joined) (hfi : ∀ i, i < c → firstIn i = nI (Fi i)) (hk : k < 8) {x : Nat} {cl : AI} {nx0 : AI}
    (hx : ∀ y, y ≤ x → y < (bf (fun j l => K (N (Fi j) l)) (K 0) (8 * y)).2.2) (hcl : bc (bf (fun j l => K (N (Fi j) l)) (K 0) (8 * x)) cl) :
    ∀ (f l : Nat) (nextOf orderOf classAt : AI), l ≤ 8 → 9 ≤ f + l → mb_inv (fun j l => K (N (Fi j) l)) (K 0) c k (8 * x + l) nx0 nextOf orderOf classAt →
      ∃ nextOf' orderOf' classAt', p_X10_becomes_L142 firstIn cl (nI x) madeNext joined (nI k) f (nI (bf (fun j l => K (N (Fi j) l)) (K 0) (8 * x + l)).2.2) (nI l) nextOf orderOf classAt = some (nI (bf (fun j l => K (N (Fi j) l)) (K 0) (8 * x + 8)).2.2, nextOf', orderOf', classAt') ∧ mb_inv (fun j l => K (N (Fi j) l)) (K 0) c k (8 * x + 8) nx0 nextOf' orderOf' classAt' := by
  generalize hQ : (fun j l => K (N (Fi j) l)) = Q at hx hcl ⊢
  have hQe : ∀ j l, Q j l = K (N (Fi j) l) := fun j l => by rw [← hQ]
  obtain ⟨f1, f2, f3, f4, f5, f6⟩ := hf
  have hQl : ∀ j, j < c → ∀ l, l < 8 → Q j l < c := fun j hj l hl => by rw [hQe]; exact f2.1 _ (hN _ (f6 j hj).1 l hl)
  have hx8 := hx x (Nat.le_refl _)
  have htl : ∀ t, t ≤ 8 * x + 8 → ∀ u, u < t → u / 8 < (bf Q (K 0) u).2.2 := fun t ht u hu => Nat.lt_of_lt_of_le (hx (u / 8) (by omega)) (bf_many (by omega))
  have hb0 := bf_lt (f2.1 0 hn0) hQl (htl (8 * x) (by omega))
  have hxc : x < c := by omega
  generalize hjx : (bf Q (K 0) (8 * x)).2.1 x = jx
  have hjxc : jx < c := by rw [← hjx]; exact hb0.1 x hx8
  have hclx : cl x = nI jx := by rw [← hjx]; exact hcl x hx8
  intro f
  induction f with
  | zero => intro l nx oo ca h1 h2; omega
  | succ f ih =>
    intro l nextOf orderOf classAt hl hfu hinv
    rw [p_X10_becomes_L142, k_8, ite_le (by omega) (by omega)]
    by_cases h8 : 8 ≤ l
    · rw [if_pos h8]
      have : l = 8 := by omega
      subst this
      exact ⟨nextOf, orderOf, classAt, rfl, hinv⟩
    · rw [if_neg h8]
      obtain ⟨i1, i2, i3, i4⟩ := hinv
      have hjn := f6 jx hjxc
      have hto := hN (Fi jx) hjn.1 l (by omega)
      have hjc := f2.1 _ hto
      have hbt := bf_lt (f2.1 0 hn0) hQl (htl (8 * x + l) (by omega))
      have hcx : (bf Q (K 0) (8 * x + l)).2.1 x = jx := by rw [bf_cls (a := 8 * x) (by omega) hx8]; exact hjx
      have hst : bf Q (K 0) (8 * x + (l + 1)) = bf_new (K (N (Fi jx) l)) (bf Q (K 0) (8 * x + l)) := by
        show bf_new (Q ((bf Q (K 0) (8 * x + l)).2.1 ((8 * x + l) / 8)) ((8 * x + l) % 8)) _ = _
        rw [show (8 * x + l) / 8 = x by omega, show (8 * x + l) % 8 = l by omega, hcx, hQe]
        rfl
      have hnx : bf_nx Q (K 0) (8 * x + l) = (bf Q (K 0) (8 * x + (l + 1))).1 (K (N (Fi jx) l)) - 1 := by
        unfold bf_nx
        rw [show (8 * x + l) / 8 = x by omega, show (8 * x + l) % 8 = l by omega, hcx, hQe]
        rfl
      have hbs := bf_lt (f2.1 0 hn0) hQl (htl (8 * x + (l + 1)) (by omega))
      generalize hj : K (N (Fi jx) l) = j at hjc hst hnx
      have hjd' : joined (N (Fi jx) l) = nI j := by rw [← hj]; exact hjd _ hto
      have hm' := hm (Fi jx) hjn.1 l (by omega)
      have hfi' := hfi jx hjxc
      rw [k_60]
      simp (disch := omega) only [nI_clamp, hclx, hfi', pk_mul, nI_add, gi_nI, hm', hjd', nI_1, i1 j hjc]
      by_cases hz : (bf Q (K 0) (8 * x + l)).1 j = 0
      · have hs2 : bf Q (K 0) (8 * x + (l + 1)) = (va_up (bf Q (K 0) (8 * x + l)).1 j ((bf Q (K 0) (8 * x + l)).2.2 + 1), va_up (bf Q (K 0) (8 * x + l)).2.1 (bf Q (K 0) (8 * x + l)).2.2 j, (bf Q (K 0) (8 * x + l)).2.2 + 1) := by rw [hst]; unfold bf_new; rw [if_pos hz]
        have hm2 : (bf Q (K 0) (8 * x + (l + 1))).2.2 = (bf Q (K 0) (8 * x + l)).2.2 + 1 := by rw [hs2]
        rw [if_pos hz, if_pos rfl]
        simp only [ob3]
        rw [upd_self, ← hm2]
        refine ih (l + 1) _ _ _ (by omega) (by omega) ⟨fun i hi => ?_, fun y hy => ?_, fun u hu => ?_, fun i hi => ?_⟩
        · by_cases hij : i = j
          · have o : (bf Q (K 0) (8 * x + (l + 1))).1 j = (bf Q (K 0) (8 * x + l)).2.2 + 1 := by rw [hs2]; exact va_up_self _ _ _
            rw [hij, upd_self, o, if_neg (by omega), Nat.add_sub_cancel]
          · have o : (bf Q (K 0) (8 * x + (l + 1))).1 i = (bf Q (K 0) (8 * x + l)).1 i := by rw [hs2]; exact va_up_ne _ _ hij
            rw [upd_ne _ _ hij, o]; exact i1 i hi
        · rw [hm2] at hy
          rw [hs2]
          show upd classAt _ _ y = nI (va_up _ _ _ y)
          by_cases hyy : y = (bf Q (K 0) (8 * x + l)).2.2
          · rw [hyy, upd_self, va_up_self]
          · rw [upd_ne _ _ hyy, va_up_ne _ _ hyy]; exact i2 y (by omega)
        · by_cases hu2 : u = 8 * x + l
          · rw [hu2, show 480 * k + (8 * x + l) = 8 * (60 * k + x) + l by omega, upd_self, hnx, hs2]
            show nI _ = nI (va_up _ j _ j - 1)
            rw [va_up_self, Nat.add_sub_cancel]
          · rw [upd_ne _ _ (by omega)]; exact i3 u (by omega)
        · rw [upd_ne _ _ (by omega)]; exact i4 i hi
      · have hs2 : bf Q (K 0) (8 * x + (l + 1)) = bf Q (K 0) (8 * x + l) := by rw [hst]; unfold bf_new; rw [if_neg hz]
        rw [if_neg hz, if_neg (nI_m9 (by have := (bf_all_ok (Q := Q) (j0 := K 0) (8 * x + l)).2 j; omega))]
        simp only [ob3]
        rw [i1 j hjc, if_neg hz]
        have e : nI (bf Q (K 0) (8 * x + l)).2.2 = nI (bf Q (K 0) (8 * x + (l + 1))).2.2 := by rw [hs2]
        rw [e]
        refine ih (l + 1) _ _ _ (by omega) (by omega) ⟨fun i hi => ?_, fun y hy => ?_, fun u hu => ?_, fun i hi => ?_⟩
        · rw [hs2]; exact i1 i hi
        · rw [hs2] at hy ⊢; exact i2 y hy
        · by_cases hu2 : u = 8 * x + l
          · rw [hu2, show 480 * k + (8 * x + l) = 8 * (60 * k + x) + l by omega, upd_self, hnx, hs2]
          · rw [upd_ne _ _ (by omega)]; exact i3 u (by omega)
        · rw [upd_ne _ _ (by omega)]; exact i4 i hi
/-- the outer loop of the walk -/
theorem mb_walk (hn : n ≤ 3600) (hN : ∀ s, s < n → ∀ c, c < 8 → N s c < n) (hm : mm_N n N madeNext) (hS : mm_S n S madeHolds) (hf : mm_fin n N S c K Fi) (hn0 : 0 < n) (hjd : mm_J n K joined) (hfi : ∀ i, i < c → firstIn i = nI (Fi i)) (hk : k < 8) {nx0 ha0 : AI} {F : Nat} (hF : 3700 ≤ F) :
    ∀ (f x : Nat) (nextOf holdsAt orderOf classAt : AI), 62 ≤ f + x → x ≤ (bf (fun j l => K (N (Fi j) l)) (K 0) (8 * x)).2.2 → (∀ y, y < x → y < (bf (fun j l => K (N (Fi j) l)) (K 0) (8 * y)).2.2) → mb_inv (fun j l => K (N (Fi j) l)) (K 0) c k (8 * x) nx0 nextOf orderOf classAt →
      (∀ y, y < x → holdsAt (60 * k + y) = bI (S (Fi ((bf (fun j l => K (N (Fi j) l)) (K 0) (8 * x)).2.1 y)))) → (∀ i, (i < 60 * k ∨ 60 * k + 60 ≤ i) → holdsAt i = ha0 i) →
      ∃ m nextOf' holdsAt' orderOf' classAt', p_X10_becomes_L118 F firstIn madeNext joined (nI k) madeHolds f (nI (bf (fun j l => K (N (Fi j) l)) (K 0) (8 * x)).2.2) (nI x) nextOf holdsAt orderOf classAt = some (nI m, nextOf', holdsAt', orderOf', classAt') ∧ m ≤ 60 ∧ bf_end (fun j l => K (N (Fi j) l)) (K 0) m ∧
        (∀ x c, x < m → c < 8 → nextOf' (8 * (60 * k + x) + c) = nI (bf_next (fun j l => K (N (Fi j) l)) (K 0) m x c)) ∧ (∀ y, y < m → holdsAt' (60 * k + y) = bI (S (Fi ((bf (fun j l => K (N (Fi j) l)) (K 0) (8 * m)).2.1 y)))) ∧ (∀ i, (i < 480 * k ∨ 480 * k + 480 ≤ i) → nextOf' i = nx0 i) ∧ (∀ i, (i < 60 * k ∨ 60 * k + 60 ≤ i) → holdsAt' i = ha0 i) := by
  have hlet := @mb_letters n c k N S K Fi madeNext joined firstIn hn hN hm hf hn0 hjd hfi hk
  generalize hQ : (fun j l => K (N (Fi j) l)) = Q at hlet ⊢
  have hQe : ∀ j l, Q j l = K (N (Fi j) l) := fun j l => by rw [← hQ]
  obtain ⟨f1, f2, f3, f4, f5, f6⟩ := hf
  have hQl : ∀ j, j < c → ∀ l, l < 8 → Q j l < c := fun j hj l hl => by rw [hQe]; exact f2.1 _ (hN _ (f6 j hj).1 l hl)
  intro f
  induction f with
  | zero =>
    intro x nx ha oo ca hfu hx hy hinv
    have hb := bf_lt (f2.1 0 hn0) hQl (t := 8 * x) (fun u hu => Nat.lt_of_lt_of_le (hy (u / 8) (by omega)) (bf_many (by omega)))
    omega
  | succ f ih =>
    intro x nextOf holdsAt orderOf classAt hfu hx hy hinv hha hha0
    have hb := bf_lt (f2.1 0 hn0) hQl (t := 8 * x) (fun u hu => Nat.lt_of_lt_of_le (hy (u / 8) (by omega)) (bf_many (by omega)))
    rw [p_X10_becomes_L118, ite_le (by omega) (by omega)]
    by_cases hmx : (bf Q (K 0) (8 * x)).2.2 ≤ x
    · rw [if_pos hmx]
      have hxe : (bf Q (K 0) (8 * x)).2.2 = x := by omega
      rw [hxe]
      have he : bf_end Q (K 0) x := ⟨hxe, hy⟩
      refine ⟨x, nextOf, holdsAt, orderOf, classAt, rfl, by omega, he, fun y c hy2 hc => ?_, hha, hinv.2.2.2, hha0⟩
      rw [show 8 * (60 * k + y) + c = 480 * k + (8 * y + c) by omega, hinv.2.2.1 _ (by omega), bf_nx_is he hy2 hc]
    · rw [if_neg hmx]
      have hxl : x < (bf Q (K 0) (8 * x)).2.2 := by omega
      have hjc := hb.1 x hxl
      have hcx := hinv.2.1 x hxl
      have hfx := hfi _ hjc
      have hSx := hS _ (f6 _ hjc).1
      have hFn := (f6 _ hjc).1
      obtain ⟨nx', oo', ca', e, hinv'⟩ := hlet (x := x) (cl := classAt) (nx0 := nx0) (fun y hy2 => by
        rcases Nat.lt_or_ge y x with q | q
        · exact hy y q
        · rw [show y = x by omega]; exact hxl) hinv.2.1 F 0 nextOf orderOf classAt (by omega) (by omega) hinv
      rw [show 8 * x + 0 = 8 * x from rfl] at e
      rw [k_0, k_60]
      simp (disch := omega) only [nI_clamp, hcx, hfx, gi_nI]
      rw [e]
      simp only [ob4]
      simp (disch := omega) only [nI_clamp, pk_mul, nI_add, gi_nI, hSx, bI_and, nI_1]
      rw [show 8 * x + 8 = 8 * (x + 1) by omega] at hinv' ⊢
      have hmm : (bf Q (K 0) (8 * x)).2.2 ≤ (bf Q (K 0) (8 * (x + 1))).2.2 := bf_many (by omega)
      refine ih (x + 1) nx' _ oo' ca' (by omega) (by omega) (fun y hy2 => ?_) hinv' (fun y hy2 => ?_) (fun i hi => ?_)
      · rcases Nat.lt_or_ge y x with q | q
        · exact hy y q
        · rw [show y = x by omega]; exact hxl
      · rw [bf_cls (a := 8 * x) (by omega) (show y < (bf Q (K 0) (8 * x)).2.2 by omega)]
        by_cases hyx : y = x
        · rw [hyx, upd_self]
        · rw [upd_ne _ _ (by omega)]
          exact hha y (by omega)
      · rw [upd_ne _ _ (by omega)]; exact hha0 i hi
theorem mb_holds (hn : n ≤ 3600) (hS : mm_S n S madeHolds) :
    ∀ (f s : Nat) (jd : AI), s ≤ n → n + 1 ≤ f + s → (∀ t, t < s → jd t = bI (S t)) → ∃ jd', p_X10_becomes_L7 (nI n) madeHolds f (nI s) jd = some jd' ∧ ∀ t, t < n → jd' t = bI (S t) := by
  intro f
  induction f with
  | zero => intro s jd h1 h2; omega
  | succ f ih =>
    intro s jd hs hf h
    rw [p_X10_becomes_L7, ite_le (by omega) (by omega)]
    by_cases hns : n ≤ s
    · rw [if_pos hns]
      exact ⟨jd, rfl, fun t ht => h t (by omega)⟩
    · rw [if_neg hns]
      have hss := hS s (by omega)
      simp (disch := omega) only [gi_nI, nI_1, nI_clamp, hss]
      rw [ob1_ft]
      have e : bI (!decide (bI (S s) = 0)) = bI (S s) := by cases S s <;> rfl
      rw [e]
      refine ih (s + 1) _ (by omega) (by omega) (fun t ht => ?_)
      rcases Nat.lt_or_ge t s with q | q
      · rw [upd_ne _ _ (show t ≠ s by omega)]; exact h t q
      · rw [show t = s by omega, upd_self]
theorem mb_order (hc : c ≤ 60) : ∀ (f x : Nat) (oo : AI), x ≤ c → c + 1 ≤ f + x → (∀ j, j < x → oo j = (-9 : Int32)) → ∃ oo', p_X10_becomes_L67 (nI c) f (nI x) oo = some oo' ∧ ∀ j, j < c → oo' j = (-9 : Int32) := by
  intro f
  induction f with
  | zero => intro x oo h1 h2; omega
  | succ f ih =>
    intro x oo hx hf h
    rw [p_X10_becomes_L67, ite_le (by omega) (by omega)]
    by_cases hcx : c ≤ x
    · rw [if_pos hcx]
      exact ⟨oo, rfl, fun j hj => h j (by omega)⟩
    · rw [if_neg hcx]
      simp (disch := omega) only [gi_nI, nI_1, nI_clamp]
      refine ih (x + 1) _ (by omega) (by omega) (fun t ht => ?_)
      rcases Nat.lt_or_ge t x with q | q
      · rw [upd_ne _ _ (show t ≠ x by omega)]; exact h t q
      · rw [show t = x by omega, upd_self]
end MBEC
/-- the model's rows of claim k hold a machine -/
def mt_at (k m : Nat) (N : Nat → Nat → Nat) (S : Nat → Bool) (nextOf holdsAt : AI) : Prop := (∀ x c, x < m → c < 8 → nextOf (8 * (60 * k + x) + c) = nI (N x c)) ∧ ∀ x, x < m → holdsAt (60 * k + x) = bI (S x)
/-- nothing of the other claims' rows has changed -/
def mt_fr (k : Nat) (nextOf holdsAt nextOf' holdsAt' : AI) : Prop := (∀ i, (i < 480 * k ∨ 480 * k + 480 ≤ i) → nextOf' i = nextOf i) ∧ ∀ i, (i < 60 * k ∨ 60 * k + 60 ≤ i) → holdsAt' i = holdsAt i
