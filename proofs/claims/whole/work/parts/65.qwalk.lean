/-! sets walked, no more than 300 of them: the class, the model -/
def bf_over (Q : Nat → Nat → Nat) (j0 t : Nat) : Prop := (∀ v, v ≤ t → v / 8 < (bf Q j0 v).2.2) ∧ (bf Q j0 (t + 1)).2.2 = 301
theorem bf_over.no {Q : Nat → Nat → Nat} {j0 t mm : Nat} (h : bf_over Q j0 t) (he : bf_end Q j0 mm) (hm : mm ≤ 300) : False := by
  rcases Nat.lt_or_ge t (8 * mm) with q | q
  · have : (bf Q j0 (t + 1)).2.2 ≤ (bf Q j0 (8 * mm)).2.2 := bf_many (by omega)
    rw [h.2, he.1] at this
    omega
  · have := h.1 (8 * mm) q
    rw [he.1] at this
    omega
theorem bf_step {Q : Nat → Nat → Nat} {j0 x l jx : Nat} (hl : l < 8) (hc : (bf Q j0 (8 * x + l)).2.1 x = jx) : bf Q j0 (8 * x + (l + 1)) = bf_new (Q jx l) (bf Q j0 (8 * x + l)) ∧ bf_nx Q j0 (8 * x + l) = (bf_new (Q jx l) (bf Q j0 (8 * x + l))).1 (Q jx l) - 1 := by
  have hst : bf Q j0 (8 * x + (l + 1)) = bf_new (Q jx l) (bf Q j0 (8 * x + l)) := by
    show bf_new (Q ((bf Q j0 (8 * x + l)).2.1 ((8 * x + l) / 8)) ((8 * x + l) % 8)) _ = _
    rw [show (8 * x + l) / 8 = x by omega, show (8 * x + l) % 8 = l by omega, hc]
    rfl
  refine ⟨hst, ?_⟩
  unfold bf_nx
  rw [show 8 * x + l + 1 = 8 * x + (l + 1) from rfl, hst, show (8 * x + l) / 8 = x by omega, show (8 * x + l) % 8 = l by omega, hc]
section QW
variable {m u j0 : Nat} {N : Nat → Nat → Nat} {S : Nat → Bool}
theorem qw_same (hu : u < 3) {x : Nat} (hx : x < (bf (sqN m N u) j0 (8 * x)).2.2) {d : Nat} (hd : d < 8) (hlt : d ^^^ 2 ^ u < d) : (bf (sqN m N u) j0 (8 * x + d)).1 (sqN m N u ((bf (sqN m N u) j0 (8 * x)).2.1 x) d) ≠ 0 ∧ bf_nx (sqN m N u) j0 (8 * x + d) = bf_nx (sqN m N u) j0 (8 * x + (d ^^^ 2 ^ u)) := by
  have hfl := (flip_fin u hu d hd).2
  generalize he : d ^^^ 2 ^ u = e at *
  have hq : ∀ j, sqN m N u j e = sqN m N u j d := fun j => by rw [← he]; exact sqA_flip hu hd m
  generalize sqN m N u = Q at *
  generalize hjx : (bf Q j0 (8 * x)).2.1 x = jx
  have hc : ∀ l, (bf Q j0 (8 * x + l)).2.1 x = jx := fun l => by rw [bf_cls (a := 8 * x) (by omega) hx]; exact hjx
  have h1 : (bf Q j0 (8 * x + (e + 1))).1 (Q jx d) ≠ 0 := by
    rw [(bf_step hfl (hc e)).1, hq]; exact bf_new_has
  have h2 := bf_ord (Q := Q) (j0 := j0) (a := 8 * x + (e + 1)) (b := 8 * x + d) (by omega) h1
  refine ⟨by rw [h2]; exact h1, ?_⟩
  have h3 := bf_ord (Q := Q) (j0 := j0) (a := 8 * x + (e + 1)) (b := 8 * x + (d + 1)) (by omega) h1
  rw [(bf_step hd (hc d)).2, (bf_step hfl (hc e)).2, ← (bf_step hd (hc d)).1, ← (bf_step hfl (hc e)).1, h3, hq]
theorem qw_P (hm0 : 0 < m) (hN : ∀ s, s < m → ∀ c, c < 8 → N s c < m) (hu : u < 3) (h0 : j0 < 2 ^ m) {t : Nat} (ht : ∀ v, v < t → v / 8 < (bf (sqN m N u) j0 v).2.2) : ∀ x, x < (bf (sqN m N u) j0 t).2.2 → (bf (sqN m N u) j0 t).2.1 x < 2 ^ m := bf_all (fun j => j < 2 ^ m) h0 (fun j _ l hl => sqA_lt hN hu hl m (Nat.le_refl _)) t ht
/-! the class -/
variable {rm k : Nat} {st : AL} {fn fs : AF} {fz : AI}
def wq_N (Q : Nat → Nat → Nat) (j0 u x l : Nat) (nx : AI) : Prop := (∀ v, v < 8 * x → nx v = nI (bf_nx Q j0 v)) ∧ ∀ d, d < 8 → (d < l ∨ d ^^^ 2 ^ u < l) → nx (8 * x + d) = nI (bf_nx Q j0 (8 * x + d))
theorem step_columns {F : Nat} (hF : 5000 ≤ F) (hm0 : 0 < m) (hm : m ≤ 60) (hN : ∀ s, s < m → ∀ c, c < 8 → N s c < m) (hu : u < 3) (h0 : j0 < 2 ^ m) (hst : st_ok m N u st) (hr3 : 300 ≤ rm) (hr : rm ≤ 3600) {x : Nat} (hx : ∀ y, y ≤ x → y < (bf (sqN m N u) j0 (8 * y)).2.2) :
    ∀ (f l : Nat) (sets : AL) (slots nx : AI), l ≤ 8 → 9 ≤ f + l → (bf (sqN m N u) j0 (8 * x + l)).2.2 ≤ 300 → sn_ok (bf (sqN m N u) j0 (8 * x + l)) sets slots → wq_N (sqN m N u) j0 u x l nx →
      ((bf (sqN m N u) j0 (8 * x + 8)).2.2 ≤ 300 ∧ ∃ sets' slots' nx', p_X6_stepOn_L13 F (nI u) st (lN ((bf (sqN m N u) j0 (8 * x)).2.1 x)) (nI m) (nI rm) rm (nI x) f (nI l) sets slots (nI (bf (sqN m N u) j0 (8 * x + l)).2.2) (nI (bf (sqN m N u) j0 (8 * x + l)).2.2) nx = some (.inr (sets', slots', nI (bf (sqN m N u) j0 (8 * x + 8)).2.2, nI (bf (sqN m N u) j0 (8 * x + 8)).2.2, nx')) ∧ sn_ok (bf (sqN m N u) j0 (8 * x + 8)) sets' slots' ∧ wq_N (sqN m N u) j0 u x 8 nx') ∨
      ((∃ t, bf_over (sqN m N u) j0 t) ∧ ∃ sets' slots' c c' nx', p_X6_stepOn_L13 F (nI u) st (lN ((bf (sqN m N u) j0 (8 * x)).2.1 x)) (nI m) (nI rm) rm (nI x) f (nI l) sets slots (nI (bf (sqN m N u) j0 (8 * x + l)).2.2) (nI (bf (sqN m N u) j0 (8 * x + l)).2.2) nx = some (.inl ((0 : Int32), sets', slots', c, c', nx'))) := by
  have hx8 := hx x (Nat.le_refl _)
  have htl : ∀ t, t ≤ 8 * x + 8 → ∀ v, v < t → v / 8 < (bf (sqN m N u) j0 v).2.2 := fun t ht v hv => Nat.lt_of_lt_of_le (hx (v / 8) (by omega)) (bf_many (by omega))
  have hjP := qw_P hm0 hN hu h0 (htl (8 * x) (by omega)) x hx8
  have hsame := fun d hd hlt => qw_same (m := m) (N := N) (j0 := j0) hu hx8 (d := d) hd hlt
  have haf := fun l hl => afterSet_is (l := l) hF hm hst (p2_60 hm hjP) hl
  have hqlt : ∀ l, l < 8 → sqN m N u ((bf (sqN m N u) j0 (8 * x)).2.1 x) l < 2 ^ 60 := fun l hl => p2_60 hm (sqA_lt hN hu hl m (Nat.le_refl _))
  generalize sqN m N u = Q at *
  generalize hjx : (bf Q j0 (8 * x)).2.1 x = jx at *
  have hc : ∀ l, (bf Q j0 (8 * x + l)).2.1 x = jx := fun l => by rw [bf_cls (a := 8 * x) (by omega) hx8]; exact hjx
  intro f
  induction f with
  | zero => intro l sets slots nx h1 h2; omega
  | succ f ih =>
    intro l sets slots nx hl hf h3 hs hw
    rw [p_X6_stepOn_L13, k_8, ite_le (by omega) (by omega)]
    by_cases h8 : 8 ≤ l
    · have : l = 8 := by omega
      subst this
      rw [if_pos h8]
      exact Or.inl ⟨h3, sets, slots, nx, rfl, hs, hw⟩
    · have hfl := flip_fin u hu l (by omega)
      obtain ⟨g1, g2, g3⟩ := flip2_fin u hu l (by omega)
      obtain ⟨b1, b2⟩ := bf_step (Q := Q) (j0 := j0) (show l < 8 by omega) (hc l)
      have hmm : (bf Q j0 (8 * x)).2.2 ≤ (bf Q j0 (8 * x + l)).2.2 := bf_many (by omega)
      have hdl := dg_lt l u
      rw [if_neg h8, digitOf_is (by omega) (by omega), ob1_some, k_0, ite_eq (by omega) (by omega)]
      by_cases hd0 : dg l u = 0
      · rw [if_pos hd0, haf l (by omega), ob1_some]
        rcases xstateFor_is (rm := rm) hF (bf_all_ok (Q := Q) (j0 := j0) (8 * x + l)) hs h3 (hqlt l (by omega)) hr3 hr with ⟨a1, sets', slots', e, q⟩ | ⟨a1, e⟩
        · rw [e]
          simp only [ob5]
          rw [← b1] at q a1 ⊢
          have hmm2 : (bf Q j0 (8 * x + l)).2.2 ≤ (bf Q j0 (8 * x + (l + 1))).2.2 := bf_many (by omega)
          have hne : ¬ nI ((bf Q j0 (8 * x + (l + 1))).1 (Q jx l) - 1) = (-6 : Int32) := by
            have hz : (bf Q j0 (8 * x + (l + 1))).1 (Q jx l) ≠ 0 := by rw [b1]; exact bf_new_has
            have hh := ((bf_all_ok (Q := Q) (j0 := j0) (8 * x + (l + 1))).2 (Q jx l)).resolve_left hz
            intro q
            have q2 := congrArg Int32.toInt q
            rw [nI_toInt (by omega)] at q2
            have : (-6 : Int32).toInt = -6 := by decide
            omega
          rw [if_neg hne, dwrite_is (by omega) hr (by omega) (by omega), ob1_some, hfl.1, dwrite_is (by omega) hr (by omega) hfl.2, ob1_some, nI_1]
          rw [← b1] at b2
          rw [← b2]
          refine ih (l + 1) sets' slots' _ (by omega) (by omega) a1 q ⟨fun v hv => ?_, fun d hd hor => ?_⟩
          · rw [upd_ne _ _ (by omega), upd_ne _ _ (by omega)]; exact hw.1 v hv
          · by_cases hdx : d = l ^^^ 2 ^ u
            · rw [hdx, show 8 * x + (l ^^^ 2 ^ u) = x * 8 + (l ^^^ 2 ^ u) by omega, upd_self]
              have := (hsame (l ^^^ 2 ^ u) hfl.2 (by rw [g1]; exact g2 hd0)).2
              rw [g1] at this
              rw [show x * 8 + (l ^^^ 2 ^ u) = 8 * x + (l ^^^ 2 ^ u) by omega, this]
            · rw [upd_ne _ _ (by omega)]
              by_cases hdl2 : d = l
              · rw [hdl2, show 8 * x + l = x * 8 + l by omega, upd_self]
              · rw [upd_ne _ _ (by omega)]
                refine hw.2 d hd ?_
                rcases hor with q | q
                · exact Or.inl (by omega)
                · refine Or.inr ?_
                  have hne2 : d ^^^ 2 ^ u ≠ l := fun q2 => hdx (by rw [← q2]; exact (flip2_fin u hu d hd).1.symm)
                  omega
        · rw [e]
          simp only [ob5]
          rw [if_pos trivial, gb_in _ (by decide)]
          refine Or.inr ⟨⟨8 * x + l, fun v hv => ?_, ?_⟩, sets, slots, _, _, nx, rfl⟩
          · rcases Nat.lt_or_ge v (8 * x + l) with q | q
            · exact htl (8 * x + l) (by omega) v q
            · rw [show v = 8 * x + l by omega, show (8 * x + l) / 8 = x by omega]; omega
          · rw [show 8 * x + l + 1 = 8 * x + (l + 1) from rfl, b1]; exact a1
      · obtain ⟨g4, g5⟩ := g3 hd0
        have hno : bf Q j0 (8 * x + (l + 1)) = bf Q j0 (8 * x + l) := by
          rw [b1]
          unfold bf_new
          rw [if_neg (hsame l (by omega) g4).1]
        rw [if_neg hd0, nI_1]
        have := ih (l + 1) sets slots nx (by omega) (by omega) (by rw [hno]; exact h3) (by rw [hno]; exact hs) ⟨hw.1, fun d hd hor => by
          refine hw.2 d hd ?_
          rcases hor with q | q
          · by_cases hdl2 : d = l
            · rw [hdl2]; exact Or.inr g4
            · exact Or.inl (by omega)
          · by_cases hdx : d ^^^ 2 ^ u = l
            · have : d = l ^^^ 2 ^ u := by rw [← hdx]; exact (flip2_fin u hu d hd).1.symm
              exact Or.inl (by omega)
            · exact Or.inr (by omega)⟩
        rw [hno] at this
        exact this
theorem say_loop {F : Nat} (hF : 5000 ≤ F) (hm0 : 0 < m) (hm : m ≤ 60) (hN : ∀ s, s < m → ∀ c, c < 8 → N s c < m) (hu : u < 3) (h0 : j0 < 2 ^ m) (hst : st_ok m N u st) (hr3 : 300 ≤ rm) (hr : rm ≤ 3600) (hz : fz k = nI m) (all : Bool) {Y : Nat} (hY : Y < 2 ^ 60) (sto kd od nt so fr tb : AI) (tn pct : Int32) :
    ∀ (f x : Nat) (sets : AL) (slots nx sy : AI), 302 ≤ f + x → x ≤ (bf (sqN m N u) j0 (8 * x)).2.2 → (bf (sqN m N u) j0 (8 * x)).2.2 ≤ 300 → (∀ y, y < x → y < (bf (sqN m N u) j0 (8 * y)).2.2) → sn_ok (bf (sqN m N u) j0 (8 * x)) sets slots → (∀ v, v < 8 * x → nx v = nI (bf_nx (sqN m N u) j0 v)) → (∀ y, y < x → sy y = bI (qS all Y ((bf (sqN m N u) j0 (8 * x)).2.1 y))) →
      (∃ mm sets' slots' nx' sy', p_X6_say_L40 F (bI all) (lN Y) rm fz k st (nI rm) (nI u) sto kd od nt so fr tb tn pct fn fs f (nI x) sets slots (nI (bf (sqN m N u) j0 (8 * x)).2.2) (nI (bf (sqN m N u) j0 (8 * x)).2.2) nx sy = some (.inr (sets', slots', nI mm, nI mm, nx', sy')) ∧ mm ≤ 300 ∧ bf_end (sqN m N u) j0 mm ∧ dm_N mm (bf_next (sqN m N u) j0 mm) nx' ∧ mm_S mm (fun y => qS all Y ((bf (sqN m N u) j0 (8 * mm)).2.1 y)) sy') ∨
      ((∃ t, bf_over (sqN m N u) j0 t) ∧ ∃ sets' slots' c c' nx' sy', p_X6_say_L40 F (bI all) (lN Y) rm fz k st (nI rm) (nI u) sto kd od nt so fr tb tn pct fn fs f (nI x) sets slots (nI (bf (sqN m N u) j0 (8 * x)).2.2) (nI (bf (sqN m N u) j0 (8 * x)).2.2) nx sy = some (.inl ((-6 : Int32), st, lN Y, sets', slots', c, rm, sto, kd, od, nI rm, c', nx', sy', nt, so, fr, tb, tn, pct, fn, fs, fz))) := by
  have hcol := @step_columns m u j0 N rm st F hF hm0 hm hN hu h0 hst hr3 hr
  have hP := fun t => @qw_P m u j0 N hm0 hN hu h0 t
  generalize sqN m N u = Q at *
  intro f
  induction f with
  | zero => intro x sets slots nx sy h1 h2 h3; omega
  | succ f ih =>
    intro x sets slots nx sy hfu hx h3 hy hs hn hS
    have htl : ∀ v, v < 8 * x → v / 8 < (bf Q j0 v).2.2 := fun v hv => Nat.lt_of_lt_of_le (hy (v / 8) (by omega)) (bf_many (by omega))
    rw [p_X6_say_L40]
    unfold p_X1_count
    rw [ob1_some, ite_le (by omega) (by omega)]
    by_cases hmx : (bf Q j0 (8 * x)).2.2 ≤ x
    · have hxe : (bf Q j0 (8 * x)).2.2 = x := by omega
      rw [if_pos hmx]
      have he : bf_end Q j0 x := ⟨hxe, hy⟩
      rw [hxe]
      refine Or.inl ⟨x, sets, slots, nx, sy, rfl, by omega, he, fun s hs l hl => ?_, hS⟩
      rw [show s * 8 + l = 8 * s + l by omega, hn _ (by omega), bf_nx_is he hs hl]
    · have hxl : x < (bf Q j0 (8 * x)).2.2 := by omega
      have hjP := hP _ htl x hxl
      have hxs : ∀ y, y ≤ x → y < (bf Q j0 (8 * y)).2.2 := fun y hy2 => by
        rcases Nat.lt_or_ge y x with q | q
        · exact hy y q
        · rw [show y = x by omega]; exact hxl
      have hsz : p_X0_size (fz k) = some (nI m) := by unfold p_X0_size; rw [hz]
      rw [if_neg hmx, k_300, ite_le (by omega) (by omega), if_neg (by omega), xsetOf_is h3 hxl, ob1_some, (hs.1 x hxl).1, qS_c hY (p2_60 hm hjP), ob1_some, dwriteSays_is (by omega) hr hxl, ob1_some, hsz, ob1_some]
      unfold p_X6_stepOn
      rw [xsetOf_is h3 hxl, ob1_some, (hs.1 x hxl).1]
      have e8 : 8 * x + 8 = 8 * (x + 1) := by omega
      rcases hcol hxs F 0 sets slots nx (by omega) (by omega) h3 hs ⟨hn, fun d hd hor => by omega⟩ with ⟨a1, sets', slots', nx', e, q1, q2⟩ | ⟨a1, sets', slots', c, c', nx', e⟩
      · have e' : p_X6_stepOn_L13 F (nI u) st (lN ((bf Q j0 (8 * x)).2.1 x)) (nI m) (nI rm) rm (nI x) F (0 : Int32) sets slots (nI (bf Q j0 (8 * x)).2.2) (nI (bf Q j0 (8 * x)).2.2) nx = _ := e
        rw [e']
        simp only [obS5]
        rw [gb_in _ (by decide)]
        simp only [ob6]
        rw [if_neg (by decide), nI_1]
        have hcx : (bf Q j0 (8 * x + 8)).2.1 x = (bf Q j0 (8 * x)).2.1 x := bf_cls (by omega) hxl
        have hmm : (bf Q j0 (8 * x)).2.2 ≤ (bf Q j0 (8 * x + 8)).2.2 := bf_many (by omega)
        rw [e8] at a1 q1 hcx hmm ⊢
        refine ih (x + 1) sets' slots' nx' _ (by omega) (by omega) a1 (fun y hy2 => ?_) q1 (fun v hv => ?_) (fun y hy2 => ?_)
        · exact hxs y (by omega)
        · rcases Nat.lt_or_ge v (8 * x) with q | q
          · exact q2.1 v q
          · have := q2.2 (v - 8 * x) (by omega) (Or.inl (by omega))
            rw [show 8 * x + (v - 8 * x) = v by omega] at this
            exact this
        · by_cases hyx : y = x
          · rw [hyx, upd_self, hcx]
          · rw [upd_ne _ _ hyx, hS y (by omega), bf_cls (a := 8 * x) (b := 8 * (x + 1)) (by omega) (by omega)]
      · have e' : p_X6_stepOn_L13 F (nI u) st (lN ((bf Q j0 (8 * x)).2.1 x)) (nI m) (nI rm) rm (nI x) F (0 : Int32) sets slots (nI (bf Q j0 (8 * x)).2.2) (nI (bf Q j0 (8 * x)).2.2) nx = _ := e
        rw [e']
        refine Or.inr ⟨a1, sets', slots', c, c', nx', _, rfl⟩
/-! the model -/
variable {i : Nat} {ko nxo ha : AI}
theorem quant_letters {F : Nat} (hF : 5000 ≤ F) (hi : i < 8) (hm0 : 0 < m) (hm : m ≤ 60) (hN : ∀ s, s < m → ∀ c, c < 8 → N s c < m) (hz : ko i = nI m) (h : mt_at i m N S nxo ha) (hu : u < 3) (h0 : j0 < 2 ^ m) (mh jd jn fi oo ca : AI) {x : Nat} (hx : ∀ y, y ≤ x → y < (bf (sqN m N u) j0 (8 * y)).2.2) :
    ∀ (f l : Nat) (mn : AI) (sets : AL), l ≤ 8 → 9 ≤ f + l → (bf (sqN m N u) j0 (8 * x + l)).2.2 ≤ 300 → sn_at (bf (sqN m N u) j0 (8 * x + l)) sets → (∀ v, v < 8 * x + l → mn v = nI (bf_nx (sqN m N u) j0 v)) →
      ((bf (sqN m N u) j0 (8 * x + 8)).2.2 ≤ 300 ∧ ∃ mn' sets', p_X10_quantifies_L76 F (nI x) ko nxo (nI i) (nI u) ha mh jd jn fi oo ca f (nI l) (nI (bf (sqN m N u) j0 (8 * x + l)).2.2) mn sets = some (.inr (nI (bf (sqN m N u) j0 (8 * x + 8)).2.2, mn', sets')) ∧ sn_at (bf (sqN m N u) j0 (8 * x + 8)) sets' ∧ ∀ v, v < 8 * x + 8 → mn' v = nI (bf_nx (sqN m N u) j0 v)) ∨
      ((∃ t, bf_over (sqN m N u) j0 t) ∧ ∃ md' mn' sets', p_X10_quantifies_L76 F (nI x) ko nxo (nI i) (nI u) ha mh jd jn fi oo ca f (nI l) (nI (bf (sqN m N u) j0 (8 * x + l)).2.2) mn sets = some (.inl ((-6 : Int32), ko, nxo, ha, md', mn', mh, jd, jn, fi, oo, ca, sets'))) := by
  have hx8 := hx x (Nat.le_refl _)
  have htl : ∀ t, t ≤ 8 * x + 8 → ∀ v, v < t → v / 8 < (bf (sqN m N u) j0 v).2.2 := fun t ht v hv => Nat.lt_of_lt_of_le (hx (v / 8) (by omega)) (bf_many (by omega))
  have hjP := qw_P hm0 hN hu h0 (htl (8 * x) (by omega)) x hx8
  have haf := fun l hl => mgoesOn_is (l := l) hF hi hm hN hz h hu (p2_60 hm hjP) hl
  have hqlt : ∀ l, l < 8 → sqN m N u ((bf (sqN m N u) j0 (8 * x)).2.1 x) l < 2 ^ 60 := fun l hl => p2_60 hm (sqA_lt hN hu hl m (Nat.le_refl _))
  generalize sqN m N u = Q at *
  generalize hjx : (bf Q j0 (8 * x)).2.1 x = jx at *
  have hc : ∀ l, (bf Q j0 (8 * x + l)).2.1 x = jx := fun l => by rw [bf_cls (a := 8 * x) (by omega) hx8]; exact hjx
  intro f
  induction f with
  | zero => intro l mn sets h1 h2; omega
  | succ f ih =>
    intro l mn sets hl hf h3 hs hw
    rw [p_X10_quantifies_L76, k_8, ite_le (by omega) (by omega)]
    by_cases h8 : 8 ≤ l
    · have : l = 8 := by omega
      subst this
      rw [if_pos h8]
      exact Or.inl ⟨h3, mn, sets, rfl, hs, hw⟩
    · obtain ⟨b1, b2⟩ := bf_step (Q := Q) (j0 := j0) (show l < 8 by omega) (hc l)
      have hmm : (bf Q j0 (8 * x)).2.2 ≤ (bf Q j0 (8 * x + l)).2.2 := bf_many (by omega)
      have hsx := (hs x (by omega)).1
      rw [hc l] at hsx
      rw [if_neg h8, gi_nI _ (by omega) (by omega), nI_clamp (by omega), hsx, haf l (by omega), ob1_some]
      rcases msetOf_is hF (bf_all_ok (Q := Q) (j0 := j0) (8 * x + l)) hs h3 (hqlt l (by omega)) with ⟨a1, sets', e, q⟩ | ⟨a1, e⟩
      · rw [e]
        simp only [ob3]
        rw [← b1] at q a1 ⊢
        have hne : ¬ nI ((bf Q j0 (8 * x + (l + 1))).1 (Q jx l) - 1) = (-9 : Int32) := by
          have hz : (bf Q j0 (8 * x + (l + 1))).1 (Q jx l) ≠ 0 := by rw [b1]; exact bf_new_has
          have hh := ((bf_all_ok (Q := Q) (j0 := j0) (8 * x + (l + 1))).2 (Q jx l)).resolve_left hz
          exact nI_m9 (by omega)
        rw [if_neg hne, leads_is (by omega) (by omega), ob1_some, nI_1]
        rw [← b1] at b2
        rw [← b2]
        refine ih (l + 1) _ sets' (by omega) (by omega) a1 q (fun v hv => ?_)
        by_cases hvl : v = 8 * x + l
        · rw [hvl, upd_self]
        · rw [upd_ne _ _ hvl]; exact hw v (by omega)
      · rw [e]
        simp only [ob3]
        rw [if_pos trivial]
        refine Or.inr ⟨⟨8 * x + l, fun v hv => ?_, ?_⟩, _, mn, sets, rfl⟩
        · rcases Nat.lt_or_ge v (8 * x + l) with q | q
          · exact htl (8 * x + l) (by omega) v q
          · rw [show v = 8 * x + l by omega, show (8 * x + l) / 8 = x by omega]; omega
        · rw [show 8 * x + l + 1 = 8 * x + (l + 1) from rfl, b1]; exact a1
theorem quant_loop {F : Nat} (hF : 5000 ≤ F) (hi : i < 8) (hm0 : 0 < m) (hm : m ≤ 60) (hN : ∀ s, s < m → ∀ c, c < 8 → N s c < m) (hz : ko i = nI m) (h : mt_at i m N S nxo ha) (hu : u < 3) (h0 : j0 < 2 ^ m) (mh jd jn fi oo ca : AI) :
    ∀ (f x : Nat) (mn : AI) (sets : AL), 302 ≤ f + x → x ≤ (bf (sqN m N u) j0 (8 * x)).2.2 → (bf (sqN m N u) j0 (8 * x)).2.2 ≤ 300 → (∀ y, y < x → y < (bf (sqN m N u) j0 (8 * y)).2.2) → sn_at (bf (sqN m N u) j0 (8 * x)) sets → (∀ v, v < 8 * x → mn v = nI (bf_nx (sqN m N u) j0 v)) →
      (∃ mm mn' sets', p_X10_quantifies_L64 F ko nxo (nI i) (nI u) ha mh jd jn fi oo ca f (nI x) (nI (bf (sqN m N u) j0 (8 * x)).2.2) mn sets = some (.inr (nI mm, mn', sets')) ∧ mm ≤ 300 ∧ bf_end (sqN m N u) j0 mm ∧ mm_N mm (bf_next (sqN m N u) j0 mm) mn' ∧ sn_at (bf (sqN m N u) j0 (8 * mm)) sets') ∨
      ((∃ t, bf_over (sqN m N u) j0 t) ∧ ∃ md' mn' sets', p_X10_quantifies_L64 F ko nxo (nI i) (nI u) ha mh jd jn fi oo ca f (nI x) (nI (bf (sqN m N u) j0 (8 * x)).2.2) mn sets = some (.inl ((-6 : Int32), ko, nxo, ha, md', mn', mh, jd, jn, fi, oo, ca, sets'))) := by
  have hcol := @quant_letters m u j0 N S i ko nxo ha F hF hi hm0 hm hN hz h hu h0 mh jd jn fi oo ca
  generalize sqN m N u = Q at *
  intro f
  induction f with
  | zero => intro x mn sets h1 h2 h3; omega
  | succ f ih =>
    intro x mn sets hfu hx h3 hy hs hn
    rw [p_X10_quantifies_L64, ite_le (by omega) (by omega)]
    by_cases hmx : (bf Q j0 (8 * x)).2.2 ≤ x
    · have hxe : (bf Q j0 (8 * x)).2.2 = x := by omega
      rw [if_pos hmx]
      have he : bf_end Q j0 x := ⟨hxe, hy⟩
      rw [hxe]
      refine Or.inl ⟨x, mn, sets, rfl, by omega, he, fun s hs l hl => ?_, hs⟩
      rw [hn _ (by omega), bf_nx_is he hs hl]
    · have hxl : x < (bf Q j0 (8 * x)).2.2 := by omega
      have hxs : ∀ y, y ≤ x → y < (bf Q j0 (8 * y)).2.2 := fun y hy2 => by
        rcases Nat.lt_or_ge y x with q | q
        · exact hy y q
        · rw [show y = x by omega]; exact hxl
      have e8 : 8 * x + 8 = 8 * (x + 1) := by omega
      rw [if_neg hmx]
      rcases hcol hxs F 0 mn sets (by omega) (by omega) h3 hs hn with ⟨a1, mn', sets', e, q1, q2⟩ | ⟨a1, md', mn', sets', e⟩
      · have e' : p_X10_quantifies_L76 F (nI x) ko nxo (nI i) (nI u) ha mh jd jn fi oo ca F (0 : Int32) (nI (bf Q j0 (8 * x)).2.2) mn sets = _ := e
        rw [e', nI_1]
        simp only [obS3]
        have hmm : (bf Q j0 (8 * x)).2.2 ≤ (bf Q j0 (8 * x + 8)).2.2 := bf_many (by omega)
        rw [e8] at a1 q1 q2 hmm ⊢
        exact ih (x + 1) mn' sets' (by omega) (by omega) a1 (fun y hy2 => hxs y (by omega)) q1 q2
      · have e' : p_X10_quantifies_L76 F (nI x) ko nxo (nI i) (nI u) ha mh jd jn fi oo ca F (0 : Int32) (nI (bf Q j0 (8 * x)).2.2) mn sets = _ := e
        rw [e']
        exact Or.inr ⟨a1, md', mn', sets', rfl⟩
theorem quant_says {F : Nat} (hF : 5000 ≤ F) (hi : i < 8) (hm : m ≤ 60) (hz : ko i = nI m) (h : mt_at i m N S nxo ha) (all : Bool) {mm : Nat} {J : Nat → Nat} {sets : AL} (hmm : mm ≤ 300) (hs : ∀ x, x < mm → sets x = lN (J x) ∧ J x < 2 ^ m) : ∀ (f x : Nat) (mh : AI), x ≤ mm → mm + 1 ≤ f + x → (∀ y, y < x → mh y = bI (qS all (yB S m) (J y))) → ∃ mh', p_X10_quantifies_L139 F (nI mm) ko ha (nI i) sets (bI all) f (nI x) mh = some mh' ∧ mm_S mm (fun y => qS all (yB S m) (J y)) mh' := by
  intro f
  induction f with
  | zero => intro x mh h1 h2; omega
  | succ f ih =>
    intro x mh hx hf hq
    rw [p_X10_quantifies_L139, ite_le (by omega) (by omega)]
    by_cases hmx : mm ≤ x
    · rw [if_pos hmx]
      exact ⟨mh, rfl, fun y hy => hq y (by omega)⟩
    · obtain ⟨w1, w2⟩ := hs x (by omega)
      rw [if_neg hmx, gi_nI _ (by omega) (by omega), nI_clamp (by omega), w1, holdsInSet_is hF hi hm hz h w2, ob1_some]
      simp (disch := omega) only [gi_nI, nI_clamp, nI_1, bI_and]
      refine ih (x + 1) _ (by omega) (by omega) (fun y hy => ?_)
      by_cases hyx : y = x
      · rw [hyx, upd_self]
      · rw [upd_ne _ _ hyx]; exact hq y (by omega)
end QW
