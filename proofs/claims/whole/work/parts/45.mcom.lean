/-! the model: becomes and comes -/
theorem mm_fin.few {n c : Nat} {N : Nat → Nat → Nat} {S : Nat → Bool} {K Fi : Nat → Nat} (h : mm_fin n N S c K Fi) (hN : ∀ s, s < n → ∀ c, c < 8 → N s c < n) : ¬ au_many n N S := by
  rintro ⟨f, h1, h2⟩
  obtain ⟨f1, f2, f3, f4, f5, f6⟩ := h
  have hle : 61 ≤ c := ph_le (h := fun i => K (f i)) (fun j hj => f2.1 _ (h1 j hj)) (fun i j hi hj e => by
    by_cases hij : i = j
    · exact hij
    · exfalso
      refine h2 i j hi hj hij (au_bisim (fun a b => a < n ∧ b < n ∧ K a = K b) ?_ ⟨h1 i hi, h1 j hj, e⟩)
      rintro a b ⟨ha, hb, hab⟩
      exact ⟨f3 a b ha hb hab, fun c hc => ⟨hN a ha c hc, hN b hb c hc, f5 a b ha hb hab c hc⟩⟩)
  omega
section MCOM
variable {n k : Nat} {N : Nat → Nat → Nat} {S : Nat → Bool} {madeNext madeHolds kindsOf nextOf holdsAt orderOf classAt : AI}
theorem becomes_first (hn0 : 0 < n) (hn : n ≤ 3600) (hN : ∀ s, s < n → ∀ c, c < 8 → N s c < n) (hm : mm_N n N madeNext) {F : Nat} (hF : 3700 ≤ F) {jd : AI} (hjd : ∀ t, t < n → jd t = bI (S t)) (jn fi : AI) :
      (∃ c' jd' jn' fi' K' Fi', p_X10_becomes_L44 F (nI n) madeNext kindsOf nextOf holdsAt orderOf classAt F (nI 0) (-1 : Int32) jd jn fi = some (.inr (nI c', jd', jn', fi')) ∧ mm_fin n N S c' K' Fi' ∧ mm_J n K' jd' ∧ (∀ i, i < c' → fi' i = nI (Fi' i))) ∨
      (∃ jd' jn' fi', p_X10_becomes_L44 F (nI n) madeNext kindsOf nextOf holdsAt orderOf classAt F (nI 0) (-1 : Int32) jd jn fi = some (.inl (0, kindsOf, nextOf, holdsAt, jd', jn', fi', orderOf, classAt)) ∧ au_many n N S) := by
  obtain ⟨G, rfl⟩ : ∃ G, F = G + 1 + 1 := ⟨F - 2, by omega⟩
  generalize hF2 : G + 1 + 1 = F2 at hF
  have e1 : p_X10_becomes_L44 F2 (nI n) madeNext kindsOf nextOf holdsAt orderOf classAt (G + 1 + 1) (nI 0) (-1 : Int32) jd jn fi = p_X10_becomes_L44 F2 (nI n) madeNext kindsOf nextOf holdsAt orderOf classAt F2 (nI 0) (-1 : Int32) jd jn fi := by rw [hF2]
  rw [← e1]
  have hJ0 : mm_J n (fun s => if S s then 1 else 0) jd := fun s hs => by rw [hjd s hs, bI_n]
  have hJb : ∀ s, s < n → (fun s => if S s then 1 else 0) s < 2 ^ 31 := fun s _ => by
    show (if S s then 1 else 0) < 2 ^ 31
    split <;> omega
  have hJc : sg_co n N S (fun s => if S s then 1 else 0) := fun s t _ _ e => by
    show (if S s then 1 else 0) = (if S t then 1 else 0)
    rw [e.says]
  have hJs : sg_sy n S (fun s => if S s then 1 else 0) := fun s t _ _ e => by
    have e : (if S s then 1 else 0) = (if S t then 1 else 0) := e
    cases hs : S s <;> cases ht : S t <;> simp [hs, ht] at e ⊢
  generalize (fun s => if S s then 1 else 0) = J0 at hJ0 hJb hJc hJs
  rw [p_X10_becomes_L44, if_neg (by decide)]
  rcases joins_is hn hN hm hJ0 hJb hF jn fi with ⟨c, jd1, jn1, fi1, K, Fi, e, q1, q2, q3⟩ | ⟨jn1, fi1, e, q⟩
  · rw [e]
    simp only [ob4]
    have hc := q1.1
    have hKp := q1.part
    have hKc := q1.co hN hJc
    have hKs : sg_sy n S K := fun s t hs ht e => hJs s t hs ht ((q1.iff hs ht).mp e).1
    have hc0 : 0 < c := Nat.lt_of_le_of_lt (Nat.zero_le _) (hKp.1 0 hn0)
    rw [k_60, ite_le (by omega) (by omega), if_pos hc, p_X10_becomes_L44, ite_eq (by omega) (by omega), if_neg (by omega)]
    rcases joins_is hn hN hm q2 (fun s hs => by have := hKp.1 s hs; omega) hF jn1 fi1 with ⟨c2, jd2, jn2, fi2, K2, Fi2, e2, r1, r2, r3⟩ | ⟨jn2, fi2, e2, r⟩
    · rw [e2]
      simp only [ob4]
      have hc2 := r1.1
      rw [k_60, ite_le (by omega) (by omega), if_pos hc2]
      exact becomes_rounds hn0 hn hN hm hF G c2 c jd2 jn2 fi2 K2 Fi2 K r1 hKp hKc hKs r2 r3 (fun _ => by omega) (by omega)
    · rw [e2]
      simp only [ob4]
      refine Or.inr ⟨jd1, jn2, fi2, ?_, r.au hN hKc⟩
      rw [k_60, ite_le (by omega) (by omega), if_neg (by omega)]
      rfl
  · rw [e]
    simp only [ob4]
    refine Or.inr ⟨jd, jn1, fi1, ?_, q.au hN hJc⟩
    rw [k_60, ite_le (by omega) (by omega), if_neg (by omega)]
    rfl
theorem becomes_is (hn0 : 0 < n) (hn : n ≤ 3600) (hN : ∀ s, s < n → ∀ c, c < 8 → N s c < n) (hm : mm_N n N madeNext) (hS : mm_S n S madeHolds) (hk : k < 8) {F : Nat} (hF : 3700 ≤ F) (jd0 jn0 fi0 : AI) :
    (∃ m TN TS nextOf' holdsAt' jd jn fi oo ca, p_X10_becomes F kindsOf nextOf holdsAt (nI n) madeNext madeHolds jd0 jn0 fi0 orderOf classAt (nI k) = some (1, upd kindsOf k (nI m), nextOf', holdsAt', jd, jn, fi, oo, ca) ∧ m ≤ 60 ∧ au_can m TN TS ∧ au_eq TN TS 0 N S 0 ∧ mt_at k m TN TS nextOf' holdsAt' ∧ mt_fr k nextOf holdsAt nextOf' holdsAt' ∧ ¬ au_many n N S) ∨
    (∃ jd jn fi oo ca, p_X10_becomes F kindsOf nextOf holdsAt (nI n) madeNext madeHolds jd0 jn0 fi0 orderOf classAt (nI k) = some (0, kindsOf, nextOf, holdsAt, jd, jn, fi, oo, ca) ∧ au_many n N S) := by
  unfold p_X10_becomes
  obtain ⟨jd, e1, q1⟩ := mb_holds hn hS F 0 jd0 (Nat.zero_le _) (by omega) (fun t h => by omega)
  rw [k_0, e1, ob1_some]
  rcases becomes_first hn0 hn hN hm hF (kindsOf := kindsOf) (nextOf := nextOf) (holdsAt := holdsAt) (orderOf := orderOf) (classAt := classAt) q1 jn0 fi0 with ⟨c, jd2, jn2, fi2, K, Fi, e2, q2, q3, q4⟩ | ⟨jd2, jn2, fi2, e2, q2⟩
  · rw [e2]
    simp only [obS4]
    obtain ⟨oo, e3, q5⟩ := mb_order q2.1 F 0 orderOf (Nat.zero_le _) (by have := q2.1; omega) (fun t h => by omega)
    rw [e3, ob1_some]
    have hK0 := q2.2.1.1 0 hn0
    have hc := q2.1
    have hj0 := q3 0 hn0
    simp (disch := omega) only [nI_clamp, hj0, gi_nI]
    have hz : bf (fun j l => K (N (Fi j) l)) (K 0) (8 * 0) = (va_up (fun _ => 0) (K 0) 1, va_up (fun _ => 0) 0 (K 0), 1) := rfl
    have hinv : mb_inv (fun j l => K (N (Fi j) l)) (K 0) c k (8 * 0) nextOf nextOf (upd oo (K 0) (nI 0)) (upd classAt 0 (nI (K 0))) := by
      refine ⟨fun j hj => ?_, fun x hx => ?_, fun u hu => by omega, fun i _ => rfl⟩
      · by_cases hjk : j = K 0
        · have o : (bf (fun j l => K (N (Fi j) l)) (K 0) (8 * 0)).1 j = 1 := by rw [hz, hjk]; exact va_up_self (fun _ => 0) (K 0) 1
          rw [o, hjk, upd_self, if_neg (by omega)]
        · have o : (bf (fun j l => K (N (Fi j) l)) (K 0) (8 * 0)).1 j = 0 := by rw [hz]; exact va_up_ne (fun _ => 0) 1 hjk
          rw [o, upd_ne _ _ hjk, if_pos rfl]
          exact q5 j hj
      · have hx : x < 1 := hx
        rw [show x = 0 by omega, upd_self]
        rfl
    obtain ⟨m, nx, ha, oo2, ca2, e4, m1, m2, m3, m4, m5, m6⟩ := mb_walk hn hN hm hS q2 hn0 q3 q4 hk (nx0 := nextOf) (ha0 := holdsAt) hF F 0 nextOf holdsAt _ _ (by omega) (Nat.zero_le _) (fun y h => by omega) hinv (fun y h => by omega) (fun i _ => rfl)
    have e4' : p_X10_becomes_L118 F fi2 madeNext jd2 (nI k) madeHolds F (1 : Int32) (nI 0) nextOf holdsAt (upd oo (K 0) (nI 0)) (upd classAt 0 (nI (K 0))) = some (nI m, nx, ha, oo2, ca2) := e4
    rw [e4']
    simp only [ob5]
    rw [gb_in _ (by decide)]
    obtain ⟨a1, a2⟩ := au_quot (rp := Fi) hn0 hN q2.2.2.1 q2.2.2.2.2.1 q2.2.2.2.1 (fun s hs => q2.2.2.2.2.2 _ (q2.2.1.1 s hs)) m2
    exact Or.inl ⟨m, _, _, nx, ha, jd2, jn2, fi2, oo2, ca2, rfl, m1, a1, a2, ⟨m3, m4⟩, ⟨m5, m6⟩, q2.few hN⟩
  · rw [e2]
    simp only [obS4]
    exact Or.inr ⟨jd2, jn2, fi2, orderOf, classAt, rfl, q2⟩
/-- comes: how many kinds, or SPENT -/
theorem comes_is (hn0 : 0 < n) (hn : n ≤ 3600) (hN : ∀ s, s < n → ∀ c, c < 8 → N s c < n) (hm : mm_N n N madeNext) (hS : mm_S n S madeHolds) (hk : k < 8) {F : Nat} (hF : 3700 ≤ F) (jd0 jn0 fi0 : AI) :
    (∃ m TN TS nextOf' holdsAt' jd jn fi oo ca, p_X10_comes F kindsOf nextOf holdsAt (nI n) madeNext madeHolds jd0 jn0 fi0 orderOf classAt (nI k) = some (nI m, upd kindsOf k (nI m), nextOf', holdsAt', jd, jn, fi, oo, ca) ∧ m ≤ 60 ∧ au_can m TN TS ∧ au_eq TN TS 0 N S 0 ∧ mt_at k m TN TS nextOf' holdsAt' ∧ mt_fr k nextOf holdsAt nextOf' holdsAt' ∧ ¬ au_many n N S) ∨
    (∃ jd jn fi oo ca, p_X10_comes F kindsOf nextOf holdsAt (nI n) madeNext madeHolds jd0 jn0 fi0 orderOf classAt (nI k) = some ((-6 : Int32), kindsOf, nextOf, holdsAt, jd, jn, fi, oo, ca) ∧ au_many n N S) := by
  unfold p_X10_comes
  rcases becomes_is hn0 hn hN hm hS hk hF (kindsOf := kindsOf) (nextOf := nextOf) (holdsAt := holdsAt) (orderOf := orderOf) (classAt := classAt) jd0 jn0 fi0 with ⟨m, TN, TS, nx, ha, jd, jn, fi, oo, ca, e, q⟩ | ⟨jd, jn, fi, oo, ca, e, q⟩
  · rw [e]
    simp only [ob9]
    rw [if_neg (by decide)]
    simp (disch := omega) only [gi_nI, nI_clamp, upd_self]
    exact Or.inl ⟨m, TN, TS, nx, ha, jd, jn, fi, oo, ca, rfl, q⟩
  · rw [e]
    simp only [ob9]
    rw [if_pos trivial]
    exact Or.inr ⟨jd, jn, fi, oo, ca, rfl, q⟩
end MCOM
