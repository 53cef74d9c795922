/-! pigeons; sorts that are told apart until no more come -/
theorem ph_two : ∀ (c : Nat) (h : Nat → Nat), (∀ j, j < c + 1 → h j < c) → ∃ i j, i < j ∧ j < c + 1 ∧ h i = h j := by
  intro c
  induction c with
  | zero => intro h hh; have := hh 0 (by omega); omega
  | succ c ih =>
    intro h hh
    by_cases he : ∃ i, i < c + 1 ∧ h i = h (c + 1)
    · obtain ⟨i, hi, e⟩ := he
      exact ⟨i, c + 1, hi, by omega, e⟩
    · have hne : ∀ i, i < c + 1 → h i ≠ h (c + 1) := fun i hi e => he ⟨i, hi, e⟩
      have hv := hh (c + 1) (by omega)
      obtain ⟨i, j, hij, hj, e⟩ := ih (fun j => if h j = c then h (c + 1) else h j) (fun j hj => by
        show (if h j = c then h (c + 1) else h j) < c
        have h1 := hh j (by omega)
        have h2 := hne j hj
        split
        · omega
        · omega)
      refine ⟨i, j, hij, by omega, ?_⟩
      have e : (if h i = c then h (c + 1) else h i) = (if h j = c then h (c + 1) else h j) := e
      have h2 := hne i (by omega)
      have h3 := hne j (by omega)
      split at e
      · split at e
        · omega
        · omega
      · split at e
        · omega
        · omega
theorem ph_le {a c : Nat} {h : Nat → Nat} (hh : ∀ j, j < a → h j < c) (hi : ∀ i j, i < a → j < a → h i = h j → i = j) : a ≤ c := by
  rcases Nat.lt_or_ge c a with q | q
  · obtain ⟨i, j, h1, h2, e⟩ := ph_two c h (fun j hj => hh j (by omega))
    have := hi i j (by omega) (by omega) e
    omega
  · exact q
theorem ph_sec {c d : Nat} {g : Nat → Nat} (hs : ∀ j, j < d → ∃ i, i < c ∧ g i = j) : ∃ h : Nat → Nat, ∀ j, j < d → h j < c ∧ g (h j) = j := by
  refine ⟨fun j => if hj : j < d then Classical.choose (hs j hj) else 0, fun j hj => ?_⟩
  show (if hj : j < d then Classical.choose (hs j hj) else 0) < c ∧ g (if hj : j < d then Classical.choose (hs j hj) else 0) = j
  rw [dif_pos hj]
  exact Classical.choose_spec (hs j hj)
theorem ph_surj_le {c d : Nat} {g : Nat → Nat} (hs : ∀ j, j < d → ∃ i, i < c ∧ g i = j) : d ≤ c := by
  obtain ⟨h, hh⟩ := ph_sec hs
  exact ph_le (fun j hj => (hh j hj).1) (fun i j hi hj e => by rw [← (hh i hi).2, ← (hh j hj).2, e])
theorem ph_surj_inj {c : Nat} {g : Nat → Nat} (hs : ∀ j, j < c → ∃ i, i < c ∧ g i = j) (hg : ∀ i, i < c → g i < c) {i i' : Nat} (hi : i < c) (hi' : i' < c) (e : g i = g i') : i = i' := by
  obtain ⟨h, hh⟩ := ph_sec hs
  have key : ∀ x, x < c → h (g x) = x := by
    intro x hx
    by_cases hne : h (g x) = x
    · exact hne
    · exfalso
      have hout : ∀ j, j < c → h j ≠ x := fun j hj q => by
        have := (hh j hj).2
        rw [q] at this
        exact hne (by rw [this]; exact q)
      have hle : c ≤ c - 1 := ph_le (h := fun j => if x < h j then h j - 1 else h j) (fun j hj => by
        show (if x < h j then h j - 1 else h j) < c - 1
        have h1 := (hh j hj).1
        have h2 := hout j hj
        split
        · omega
        · omega) (fun a b ha hb q => by
        have q : (if x < h a then h a - 1 else h a) = (if x < h b then h b - 1 else h b) := q
        have h1 := hout a ha
        have h2 := hout b hb
        have : h a = h b := by
          split at q
          · split at q
            · omega
            · omega
          · split at q
            · omega
            · omega
        rw [← (hh a ha).2, ← (hh b hb).2, this])
      omega
  rw [← key i hi, ← key i' hi', e]
/-- c sorts, all of them there -/
def sg_part (n : Nat) (J : Nat → Nat) (c : Nat) : Prop := (∀ s, s < n → J s < c) ∧ ∀ i, i < c → ∃ s, s < n ∧ J s = i
/-- sorts that are no finer than what the machine accepts -/
def sg_co (n : Nat) (N : Nat → Nat → Nat) (S : Nat → Bool) (J : Nat → Nat) : Prop := ∀ s t, s < n → t < n → au_eq N S s N S t → J s = J t
def sg_sy (n : Nat) (S : Nat → Bool) (J : Nat → Nat) : Prop := ∀ s t, s < n → t < n → J s = J t → S s = S t
section SG
variable {n c d : Nat} {N : Nat → Nat → Nat} {S : Nat → Bool} {J K : Nat → Nat}
theorem sg_map (hK : sg_part n K c) (hf : ∀ s t, s < n → t < n → K s = K t → J s = J t) : ∃ g : Nat → Nat, ∀ s, s < n → g (K s) = J s := by
  refine ⟨fun i => if hi : i < c then J (Classical.choose (hK.2 i hi)) else 0, fun s hs => ?_⟩
  show (if hi : K s < c then J (Classical.choose (hK.2 (K s) hi)) else 0) = J s
  rw [dif_pos (hK.1 s hs)]
  obtain ⟨h1, h2⟩ := Classical.choose_spec (hK.2 (K s) (hK.1 s hs))
  exact hf _ _ h1 hs h2
theorem sg_le (hJ : sg_part n J d) (hK : sg_part n K c) (hf : ∀ s t, s < n → t < n → K s = K t → J s = J t) : d ≤ c := by
  obtain ⟨g, hg⟩ := sg_map hK hf
  exact ph_surj_le (g := g) (fun j hj => by
    obtain ⟨s, hs, e⟩ := hJ.2 j hj
    exact ⟨K s, hK.1 s hs, by rw [hg s hs, e]⟩)
/-- as many sorts as before: they are the same -/
theorem sg_same (hJ : sg_part n J c) (hK : sg_part n K c) (hf : ∀ s t, s < n → t < n → K s = K t → J s = J t) {s t : Nat} (hs : s < n) (ht : t < n) (e : J s = J t) : K s = K t := by
  obtain ⟨g, hg⟩ := sg_map hK hf
  refine ph_surj_inj (g := g) (fun j hj => ?_) (fun i hi => ?_) (hK.1 s hs) (hK.1 t ht) (by rw [hg s hs, hg t ht, e])
  · obtain ⟨s, hs, e⟩ := hJ.2 j hj
    exact ⟨K s, hK.1 s hs, by rw [hg s hs, e]⟩
  · obtain ⟨s, hs, e⟩ := hK.2 i hi
    rw [← e, hg s hs]
    exact hJ.1 s hs
end SG
/-! the model: what mm_inv says of sorts -/
section MM
variable {n c : Nat} {N : Nat → Nat → Nat} {S : Nat → Bool} {J K Fi : Nat → Nat}
theorem mm_inv.part (h : mm_inv N J c n K Fi) : sg_part n K c := ⟨fun s hs => (h.2.1 s hs).1, fun i hi => ⟨Fi i, (h.2.2.1 i hi).1, (h.2.2.1 i hi).2⟩⟩
theorem mm_inv.iff (h : mm_inv N J c n K Fi) {s t : Nat} (hs : s < n) (ht : t < n) : K s = K t ↔ mm_al N J s t := by
  obtain ⟨a1, a2⟩ := h.2.1 s hs
  obtain ⟨b1, b2⟩ := h.2.1 t ht
  constructor
  · intro e
    rw [e] at a2
    exact a2.sy.tr b2
  · intro e
    exact h.2.2.2 _ _ a1 b1 ((a2.tr e).tr b2.sy)
theorem mm_co (hN : ∀ s, s < n → ∀ c, c < 8 → N s c < n) (hJ : sg_co n N S J) {s t : Nat} (hs : s < n) (ht : t < n) (e : au_eq N S s N S t) : mm_al N J s t := ⟨hJ s t hs ht e, fun c hc => hJ _ _ (hN s hs c hc) (hN t ht c hc) (e.step hc)⟩
theorem mm_inv.co (h : mm_inv N J c n K Fi) (hN : ∀ s, s < n → ∀ c, c < 8 → N s c < n) (hJ : sg_co n N S J) : sg_co n N S K := fun _ _ hs ht e => (h.iff hs ht).mpr (mm_co hN hJ hs ht e)
theorem mm_many.au (hN : ∀ s, s < n → ∀ c, c < 8 → N s c < n) (hJ : sg_co n N S J) (h : mm_many N J n) : au_many n N S := by
  obtain ⟨f, h1, h2⟩ := h
  exact ⟨f, h1, fun i j hi hj hij e => h2 i j hi hj hij (mm_co hN hJ (h1 i hi) (h1 j hj) e)⟩
/-- what comes of the rounds: sorts that are just what the machine accepts, each with its first state -/
def mm_fin (n : Nat) (N : Nat → Nat → Nat) (S : Nat → Bool) (c : Nat) (K Fi : Nat → Nat) : Prop :=
  c ≤ 60 ∧ sg_part n K c ∧ sg_sy n S K ∧ sg_co n N S K ∧ (∀ s t, s < n → t < n → K s = K t → ∀ c, c < 8 → K (N s c) = K (N t c)) ∧ ∀ i, i < c → Fi i < n ∧ K (Fi i) = i
variable {madeNext kindsOf nextOf holdsAt orderOf classAt : AI}
/-- the rounds: c sorts now, d before, of J; J's rows came of Jp -/
theorem becomes_rounds (hn0 : 0 < n) (hn : n ≤ 3600) (hN : ∀ s, s < n → ∀ c, c < 8 → N s c < n) (hm : mm_N n N madeNext) {F : Nat} (hF : 3700 ≤ F) :
    ∀ (f c d : Nat) (joined joinedNow firstIn : AI) (K Fi J : Nat → Nat), mm_inv N J c n K Fi → sg_part n J d → sg_co n N S J → sg_sy n S J → mm_J n K joined → (∀ i, i < c → firstIn i = nI (Fi i)) → (c ≠ d → 63 ≤ f + c) → 1 ≤ f →
      (∃ c' jd jn fi K' Fi', p_X10_becomes_L44 F (nI n) madeNext kindsOf nextOf holdsAt orderOf classAt f (nI c) (nI d) joined joinedNow firstIn = some (.inr (nI c', jd, jn, fi)) ∧ mm_fin n N S c' K' Fi' ∧ mm_J n K' jd ∧ (∀ i, i < c' → fi i = nI (Fi' i))) ∨
      (∃ jd jn fi, p_X10_becomes_L44 F (nI n) madeNext kindsOf nextOf holdsAt orderOf classAt f (nI c) (nI d) joined joinedNow firstIn = some (.inl (0, kindsOf, nextOf, holdsAt, jd, jn, fi, orderOf, classAt)) ∧ au_many n N S) := by
  intro f
  induction f with
  | zero => intro c d jd jn fi K Fi J _ _ _ _ _ _ _ h; omega
  | succ f ih =>
    intro c d joined joinedNow firstIn K Fi J hinv hJp hJc hJs hjd hfi hfu _
    have hKp := hinv.part
    have hKc : sg_co n N S K := hinv.co hN hJc
    have hKJ : ∀ s t, s < n → t < n → K s = K t → J s = J t := fun s t hs ht e => ((hinv.iff hs ht).mp e).1
    have hKs : sg_sy n S K := fun s t hs ht e => hJs s t hs ht (hKJ s t hs ht e)
    have hdc := sg_le hJp hKp hKJ
    have hc60 := hinv.1
    rw [p_X10_becomes_L44, ite_eq (by omega) (by omega)]
    by_cases hdc2 : d = c
    · subst hdc2
      rw [if_pos rfl]
      refine Or.inl ⟨d, joined, joinedNow, firstIn, K, Fi, rfl, ⟨hc60, hKp, hKs, hKc, fun s t hs ht e c hc => ?_, fun i hi => hinv.2.2.1 i hi⟩, hjd, hfi⟩
      exact sg_same hJp hKp hKJ (hN s hs c hc) (hN t ht c hc) (((hinv.iff hs ht).mp e).2 c hc)
    · rw [if_neg hdc2]
      have hfu := hfu (fun q => hdc2 q.symm)
      rcases joins_is hn hN hm hjd (fun s hs => by have := hKp.1 s hs; omega) hF joinedNow firstIn with ⟨c', jd, jn, fi, K', Fi', e, q1, q2, q3⟩ | ⟨jn, fi, e, q⟩
      · have hc' := q1.1
        have hK'K : ∀ s t, s < n → t < n → K' s = K' t → K s = K t := fun s t hs ht e => ((q1.iff hs ht).mp e).1
        have hcc := sg_le hKp q1.part hK'K
        rw [e]
        simp only [ob4]
        rw [k_60, ite_le (by omega) (by omega), if_pos hc']
        exact ih c' c jd jn fi K' Fi' K q1 hKp hKc hKs q2 q3 (fun q => by omega) (by omega)
      · rw [e]
        refine Or.inr ⟨joined, jn, fi, ?_, q.au hN hKc⟩
        simp only [ob4]
        rw [k_60, ite_le (by omega) (by omega), if_neg (by omega)]
        rfl
end MM
