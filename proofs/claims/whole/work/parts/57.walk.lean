/-! the model's walk over what is come to: states numbered as they are asked for -/
theorem begins_loop : ∀ (f x : Nat) (sfo : AI), x ≤ 3600 → 3601 ≤ f + x → (∀ j, j < x → sfo j = -9) → ∃ sfo', p_X10_begins_L7 f (nI x) sfo = some sfo' ∧ ∀ j, j < 3600 → sfo' j = -9 := by
  intro f
  induction f with
  | zero => intro x sfo h1 h2; omega
  | succ f ih =>
    intro x sfo hx hf h
    rw [p_X10_begins_L7, k_3600, ite_le (by omega) (by omega)]
    by_cases h3 : 3600 ≤ x
    · rw [if_pos h3]
      exact ⟨sfo, rfl, fun j hj => h j (by omega)⟩
    · rw [if_neg h3]
      simp (disch := omega) only [gi_nI, nI_clamp, nI_1]
      refine ih (x + 1) _ (by omega) (by omega) (fun j hj => ?_)
      by_cases hjx : j = x
      · rw [hjx, upd_self]
      · rw [upd_ne _ _ hjx]; exact h j (by omega)
theorem begins_is {F : Nat} (hF : 5000 ≤ F) (sfo : AI) : ∃ sfo', p_X10_begins F sfo = some (nI 0, sfo') ∧ ∀ j, j < 3600 → sfo' j = -9 := by
  obtain ⟨sfo', e, q⟩ := begins_loop F 0 sfo (by omega) (by omega) (fun j h => by omega)
  refine ⟨sfo', ?_, q⟩
  unfold p_X10_begins
  rw [k_0, e]
  rfl
theorem stateOf_is {b : bf_T} {c j : Nat} {sf sfo : AI} (hok : bf_ok b) (hcl : ∀ x, x < b.2.2 → b.2.1 x < c) (hc : c ≤ 3600) (hj : j < c) (h1 : bo b c sfo) (h2 : bc b sf) :
    ∃ sf' sfo', p_X10_stateOf (nI b.2.2) sf sfo (nI j) = some (nI ((bf_new j b).1 j - 1), nI (bf_new j b).2.2, sf', sfo') ∧ bo (bf_new j b) c sfo' ∧ bc (bf_new j b) sf' := by
  have hfit := bf_fit hok hcl
  unfold p_X10_stateOf
  have hkj := h1 j hj
  by_cases hz : b.1 j = 0
  · have hroom := bf_room hok hcl hj hz
    have e : bf_new j b = (va_up b.1 j (b.2.2 + 1), va_up b.2.1 b.2.2 j, b.2.2 + 1) := by unfold bf_new; rw [if_pos hz]
    rw [if_pos hz] at hkj
    simp (disch := omega) only [gi_nI, nI_clamp, hkj, nI_1]
    rw [if_pos trivial]
    simp only [ob3]
    have em : (bf_new j b).2.2 = b.2.2 + 1 := by rw [e]
    have o : (bf_new j b).1 j = b.2.2 + 1 := by rw [e]; exact va_up_self _ _ _
    rw [em, o, Nat.add_sub_cancel, upd_self]
    refine ⟨_, _, rfl, fun i hi => ?_, fun x hx => ?_⟩
    · by_cases hij : i = j
      · rw [hij, upd_self, o, if_neg (by omega), Nat.add_sub_cancel]
      · have o2 : (bf_new j b).1 i = b.1 i := by rw [e]; exact va_up_ne _ _ hij
        rw [upd_ne _ _ hij, o2]; exact h1 i hi
    · rw [em] at hx
      by_cases hxx : x = b.2.2
      · have o2 : (bf_new j b).2.1 b.2.2 = j := by rw [e]; exact va_up_self _ _ _
        rw [hxx, upd_self, o2]
      · rw [upd_ne _ _ hxx, bf_new_cls (by omega)]; exact h2 x (by omega)
  · have e : bf_new j b = b := by unfold bf_new; rw [if_neg hz]
    rw [if_neg hz] at hkj
    rw [e]
    have hb := hok.2 j
    simp (disch := omega) only [gi_nI, nI_clamp, hkj]
    rw [if_neg (nI_m9 (by omega))]
    simp (disch := omega) only [ob3, gi_nI, nI_clamp, hkj]
    exact ⟨sf, sfo, rfl, h1, h2⟩
theorem begun_is {F c : Nat} (hF : 5000 ≤ F) (h0 : 0 < c) (hc : c ≤ 3600) (Q : Nat → Nat → Nat) (sf sfo : AI) : ∃ sf' sfo0 sfo', p_X10_begins F sfo = some (nI 0, sfo0) ∧ p_X10_stateOf (nI 0) sf sfo0 (nI 0) = some (nI 0, nI 1, sf', sfo') ∧ bo (bf Q 0 0) c sfo' ∧ bc (bf Q 0 0) sf' := by
  obtain ⟨sfo0, e, q⟩ := begins_is hF sfo
  obtain ⟨sf', sfo', e2, q1, q2⟩ := stateOf_is (b := (fun _ => 0, fun _ => 0, 0)) (c := c) (j := 0) (sf := sf) (sfo := sfo0) ⟨fun x hx => absurd hx (Nat.not_lt_zero x), fun j => Or.inl rfl⟩ (fun x hx => absurd hx (Nat.not_lt_zero x)) hc h0 (fun j hj => by rw [if_pos rfl]; exact q j (by omega)) (fun x hx => absurd hx (Nat.not_lt_zero x))
  exact ⟨sf', sfo0, sfo', e, e2, q1, q2⟩
section WALK
variable {c F : Nat} {Q : Nat → Nat → Nat} {S : Nat → Bool} {P : Nat → Prop}
theorem bf_ltP {j0 t : Nat} (h0 : P j0) (hPc : ∀ j, P j → j < c) (hQ : ∀ j, P j → ∀ l, l < 8 → P (Q j l)) (ht : ∀ u, u < t → u / 8 < (bf Q j0 u).2.2) : (∀ x, x < (bf Q j0 t).2.2 → P ((bf Q j0 t).2.1 x)) ∧ (bf Q j0 t).2.2 ≤ c := by
  have h := bf_all P h0 hQ t ht
  exact ⟨h, bf_fit (bf_all_ok (Q := Q) (j0 := j0) t) (fun x hx => hPc _ (h x hx))⟩
abbrev wk_L : Type := Nat → AI → Nat → Int32 → Int32 → AI → AI → AI → Option (Int32 × AI × AI × AI)
abbrev wk_H : Type := Nat → Int32 → Int32 → AI → AI → AI → AI → Option (Int32 × AI × AI × AI × AI)
def wk_L8 (L : wk_L) : Prop := ∀ x sf0 f md sf mn sfo, L x sf0 (f + 1) (nI 8) md sf mn sfo = some (md, sf, mn, sfo)
def wk_Ls (P : Nat → Prop) (Q : Nat → Nat → Nat) (L : wk_L) : Prop := ∀ x sf0 jx f l md sf mn sfo, x < 3600 → P jx → sf0 x = nI jx → sf x = nI jx → l < 8 → L x sf0 (f + 1) (nI l) md sf mn sfo = ob4 (p_X10_stateOf md sf sfo (nI (Q jx l))) (fun r md' sf' sfo' => ob1 (p_X10_leads mn (nI x) (nI l) r) (fun mn' => L x sf0 f (nI (l + 1)) md' sf' mn' sfo'))
def wk_He (H : wk_H) : Prop := ∀ f x md sf mn mh sfo, md ≤ x → x ≤ 3600 → H (f + 1) (nI x) (nI md) sf mn mh sfo = some (nI md, sf, mn, mh, sfo)
def wk_Hs (P : Nat → Prop) (F : Nat) (S : Nat → Bool) (L : wk_L) (H : wk_H) : Prop := ∀ f x md sf mn mh sfo jx md' sf' mn' sfo', x < md → md ≤ 3600 → P jx → sf x = nI jx → L x sf F (nI 0) (nI md) sf mn sfo = some (nI md', sf', mn', sfo') → sf' x = nI jx → H (f + 1) (nI x) (nI md) sf mn mh sfo = H f (nI (x + 1)) (nI md') sf' mn' (upd mh x (bI (S jx))) sfo'
def wk_N (Q : Nat → Nat → Nat) (t : Nat) (mn : AI) : Prop := ∀ u, u < t → mn u = nI (bf_nx Q 0 u)
theorem walk_letters (h0 : P 0) (hPc : ∀ j, P j → j < c) (hc : c ≤ 3600) (hQ : ∀ j, P j → ∀ l, l < 8 → P (Q j l)) {L : wk_L} (hL8 : wk_L8 L) (hLs : wk_Ls P Q L) {x : Nat} (hx : ∀ y, y ≤ x → y < (bf Q 0 (8 * y)).2.2) {sf0 : AI} (hsf0 : sf0 x = nI ((bf Q 0 (8 * x)).2.1 x)) :
    ∀ (f l : Nat) (sf mn sfo : AI), l ≤ 8 → 9 ≤ f + l → bo (bf Q 0 (8 * x + l)) c sfo → bc (bf Q 0 (8 * x + l)) sf → wk_N Q (8 * x + l) mn → ∃ sf' mn' sfo', L x sf0 f (nI l) (nI (bf Q 0 (8 * x + l)).2.2) sf mn sfo = some (nI (bf Q 0 (8 * x + 8)).2.2, sf', mn', sfo') ∧ bo (bf Q 0 (8 * x + 8)) c sfo' ∧ bc (bf Q 0 (8 * x + 8)) sf' ∧ wk_N Q (8 * x + 8) mn' := by
  have hx8 := hx x (Nat.le_refl _)
  have htl : ∀ t, t ≤ 8 * x + 8 → ∀ u, u < t → u / 8 < (bf Q 0 u).2.2 := fun t ht u hu => Nat.lt_of_lt_of_le (hx (u / 8) (by omega)) (bf_many (by omega))
  have hb0 := bf_ltP h0 hPc hQ (htl (8 * x) (by omega))
  generalize hjx : (bf Q 0 (8 * x)).2.1 x = jx at hsf0
  have hjxc : P jx := by rw [← hjx]; exact hb0.1 x hx8
  intro f
  induction f with
  | zero => intro l sf mn sfo h1 h2; omega
  | succ f ih =>
    intro l sf mn sfo hl hf h1 h2 h3
    by_cases h8 : 8 ≤ l
    · have : l = 8 := by omega
      subst this
      rw [hL8]
      exact ⟨sf, mn, sfo, rfl, h1, h2, h3⟩
    · have hbt := bf_ltP h0 hPc hQ (htl (8 * x + l) (by omega))
      have hcx : (bf Q 0 (8 * x + l)).2.1 x = jx := by rw [bf_cls (a := 8 * x) (by omega) hx8]; exact hjx
      have hmm : (bf Q 0 (8 * x)).2.2 ≤ (bf Q 0 (8 * x + l)).2.2 := bf_many (by omega)
      have hst : bf Q 0 (8 * x + (l + 1)) = bf_new (Q jx l) (bf Q 0 (8 * x + l)) := by
        show bf_new (Q ((bf Q 0 (8 * x + l)).2.1 ((8 * x + l) / 8)) ((8 * x + l) % 8)) _ = _
        rw [show (8 * x + l) / 8 = x by omega, show (8 * x + l) % 8 = l by omega, hcx]
        rfl
      have hnx : bf_nx Q 0 (8 * x + l) = (bf_new (Q jx l) (bf Q 0 (8 * x + l))).1 (Q jx l) - 1 := by
        unfold bf_nx
        rw [show 8 * x + l + 1 = 8 * x + (l + 1) from rfl, hst, show (8 * x + l) / 8 = x by omega, show (8 * x + l) % 8 = l by omega, hcx]
      have hsx := h2 x (by omega)
      rw [hcx] at hsx
      rw [hLs x sf0 jx f l _ sf mn sfo (by omega) hjxc hsf0 hsx (by omega)]
      obtain ⟨sf', sfo', e, q1, q2⟩ := stateOf_is (bf_all_ok (Q := Q) (j0 := 0) (8 * x + l)) (fun y hy => hPc _ (hbt.1 y hy)) hc (hPc _ (hQ jx hjxc l (by omega))) h1 h2
      rw [e]
      simp only [ob4]
      rw [leads_is (by omega) (by omega), ob1_some, ← hnx, ← hst]
      rw [← hst] at q1 q2
      refine ih (l + 1) sf' _ sfo' (by omega) (by omega) q1 q2 (fun u hu => ?_)
      by_cases hul : u = 8 * x + l
      · rw [hul, upd_self]
      · rw [upd_ne _ _ hul]; exact h3 u (by omega)
theorem walk_loop (h0 : P 0) (hPc : ∀ j, P j → j < c) (hc : c ≤ 3600) (hF : 5000 ≤ F) (hQ : ∀ j, P j → ∀ l, l < 8 → P (Q j l)) {L : wk_L} {H : wk_H} (hL8 : wk_L8 L) (hLs : wk_Ls P Q L) (hHe : wk_He H) (hHs : wk_Hs P F S L H) :
    ∀ (f x : Nat) (sf mn mh sfo : AI), 3602 ≤ f + x → x ≤ (bf Q 0 (8 * x)).2.2 → (∀ y, y < x → y < (bf Q 0 (8 * y)).2.2) → bo (bf Q 0 (8 * x)) c sfo → bc (bf Q 0 (8 * x)) sf → wk_N Q (8 * x) mn → (∀ y, y < x → mh y = bI (S ((bf Q 0 (8 * x)).2.1 y))) →
      ∃ m sf' mn' mh' sfo', H f (nI x) (nI (bf Q 0 (8 * x)).2.2) sf mn mh sfo = some (nI m, sf', mn', mh', sfo') ∧ m ≤ c ∧ bf_end Q 0 m ∧ mm_N m (bf_next Q 0 m) mn' ∧ mm_S m (fun y => S ((bf Q 0 (8 * m)).2.1 y)) mh' := by
  intro f
  induction f with
  | zero =>
    intro x sf mn mh sfo hfu hx hy
    have hb := bf_ltP h0 hPc hQ (t := 8 * x) (fun u hu => Nat.lt_of_lt_of_le (hy (u / 8) (by omega)) (bf_many (by omega)))
    omega
  | succ f ih =>
    intro x sf mn mh sfo hfu hx hy h1 h2 h3 h4
    have hb := bf_ltP h0 hPc hQ (t := 8 * x) (fun u hu => Nat.lt_of_lt_of_le (hy (u / 8) (by omega)) (bf_many (by omega)))
    by_cases hmx : (bf Q 0 (8 * x)).2.2 ≤ x
    · have hxe : (bf Q 0 (8 * x)).2.2 = x := by omega
      rw [hHe f x _ sf mn mh sfo hmx (by omega), hxe]
      have he : bf_end Q 0 x := ⟨hxe, hy⟩
      refine ⟨x, sf, mn, mh, sfo, rfl, by omega, he, fun s hs l hl => ?_, h4⟩
      rw [h3 _ (by omega), bf_nx_is he hs hl]
    · have hxl : x < (bf Q 0 (8 * x)).2.2 := by omega
      have hjc := hb.1 x hxl
      have hsx := h2 x hxl
      obtain ⟨sf', mn', sfo', e, q1, q2, q3⟩ := walk_letters h0 hPc hc hQ hL8 hLs (x := x) (fun y hy2 => by
        rcases Nat.lt_or_ge y x with q | q
        · exact hy y q
        · rw [show y = x by omega]; exact hxl) hsx F 0 sf mn sfo (by omega) (by omega) h1 h2 h3
      have hmm : (bf Q 0 (8 * x)).2.2 ≤ (bf Q 0 (8 * x + 8)).2.2 := bf_many (by omega)
      have hcx : (bf Q 0 (8 * x + 8)).2.1 x = (bf Q 0 (8 * x)).2.1 x := bf_cls (by omega) hxl
      have hsx2 := q2 x (by omega)
      rw [hcx] at hsx2
      rw [hHs f x _ sf mn mh sfo _ _ sf' mn' sfo' hxl (by omega) hjc hsx e hsx2]
      have e8 : 8 * x + 8 = 8 * (x + 1) := by omega
      rw [e8] at q1 q2 q3 hcx hmm ⊢
      refine ih (x + 1) sf' mn' _ sfo' (by omega) (by omega) (fun y hy2 => ?_) q1 q2 q3 (fun y hy2 => ?_)
      · rcases Nat.lt_or_ge y x with q | q
        · exact hy y q
        · rw [show y = x by omega]; exact hxl
      · by_cases hyx : y = x
        · rw [hyx, upd_self, hcx]
        · rw [upd_ne _ _ hyx, h4 y (by omega), bf_cls (a := 8 * x) (b := 8 * (x + 1)) (by omega) (by omega)]
theorem walk_is (h0 : P 0) (hPc : ∀ j, P j → j < c) (hc : c ≤ 3600) (hF : 5000 ≤ F) (hQ : ∀ j, P j → ∀ l, l < 8 → P (Q j l)) {L : wk_L} {H : wk_H} (hL8 : wk_L8 L) (hLs : wk_Ls P Q L) (hHe : wk_He H) (hHs : wk_Hs P F S L H) {sf sfo : AI} (h1 : bo (bf Q 0 0) c sfo) (h2 : bc (bf Q 0 0) sf) (mn mh : AI) :
    ∃ m sf' mn' mh' sfo', H F (nI 0) (nI 1) sf mn mh sfo = some (nI m, sf', mn', mh', sfo') ∧ m ≤ c ∧ bf_end Q 0 m ∧ mm_N m (bf_next Q 0 m) mn' ∧ mm_S m (fun y => S ((bf Q 0 (8 * m)).2.1 y)) mh' :=
  walk_loop h0 hPc hc hF hQ hL8 hLs hHe hHs F 0 sf mn mh sfo (by omega) (Nat.zero_le _) (fun y h => by omega) h1 h2 (fun u h => by omega) (fun u h => by omega)
theorem bf_end.pos {j0 m : Nat} (h : bf_end Q j0 m) : 0 < m := by have := bf_pos (Q := Q) (j0 := j0) (8 * m); rw [h.1] at this; exact this
theorem bf_end.uniq {j0 m m' : Nat} (h : bf_end Q j0 m) (h' : bf_end Q j0 m') : m = m' := by
  rcases Nat.lt_trichotomy m m' with q | q | q
  · have := h'.2 m q; rw [h.1] at this; omega
  · exact q
  · have := h.2 m' q; rw [h'.1] at this; omega
theorem bf_end.lt {j0 m : Nat} (h : bf_end Q j0 m) : ∀ s, s < m → ∀ l, l < 8 → bf_next Q j0 m s l < m := fun _ hs _ hl => (bf_next_cls h hs hl).1
theorem bf_end.cls0 {j0 m : Nat} (h : bf_end Q j0 m) : (bf Q j0 (8 * m)).2.1 0 = j0 := by
  rw [bf_cls (a := 0) (by omega) (by rw [bf_zero.1]; exact Nat.one_pos)]; exact bf_zero.2.1
/-- the machine of what is come to accepts what the whole one accepts -/
theorem bf_eq {j0 m : Nat} (h : bf_end Q j0 m) : au_eq (bf_next Q j0 m) (fun y => S ((bf Q j0 (8 * m)).2.1 y)) 0 Q S j0 :=
  au_bisim (fun x j => x < m ∧ (bf Q j0 (8 * m)).2.1 x = j) (fun x j hxj => ⟨by show S _ = _; rw [hxj.2], fun c hc => ⟨(bf_next_cls h hxj.1 hc).1, by rw [(bf_next_cls h hxj.1 hc).2, hxj.2]⟩⟩) ⟨h.pos, h.cls0⟩
end WALK
