/-! both and either -/
def jnN (N1 N2 : Nat → Nat → Nat) (j l : Nat) : Nat := 60 * N1 (j / 60) l + N2 (j % 60) l
def jnS (both : Bool) (S1 S2 : Nat → Bool) (j : Nat) : Bool := if both then S1 (j / 60) && S2 (j % 60) else S1 (j / 60) || S2 (j % 60)
def jnP (m1 m2 j : Nat) : Prop := j / 60 < m1 ∧ j % 60 < m2
def jnE (j : Nat) : Nat := j / 60 * 64 + j % 60
theorem jn_b {both : Bool} {a b : Bool} : (if bI both = 0 then (if bI a = 0 then (if bI b = 0 then some (0 : Int32) else some (1 : Int32)) else some (1 : Int32)) else (if bI a = 0 then some (0 : Int32) else (if bI b = 0 then some (0 : Int32) else some (1 : Int32)))) = some (bI (if both then a && b else a || b)) := by
  cases both <;> cases a <;> cases b <;> rfl
theorem jn_or {a b : Nat} (hb : b < 64) : nI (64 * a) ||| nI b = nI (64 * a + b) := by
  have := fa_or_sum (k := 6) a (a := b) (by omega)
  rw [show 2 ^ 6 * a = 64 * a by omega] at this
  exact this
theorem jnE_inj {i j : Nat} (e : jnE i = jnE j) : i = j := by
  unfold jnE at e
  omega
theorem bf_fitE {b : bf_T} {c : Nat} (h : bf_ok b) (e : Nat → Nat) (he : ∀ i j, e i = e j → i = j) (hc : ∀ x, x < b.2.2 → e (b.2.1 x) < c) : b.2.2 ≤ c := ph_le (h := fun x => e (b.2.1 x)) hc (fun i j hi hj q => by
  have e1 := h.1 i hi
  have e2 := h.1 j hj
  rw [he _ _ q] at e1
  omega)
section JOIN
variable {m1 m2 : Nat} {N1 N2 : Nat → Nat → Nat} {S1 S2 : Nat → Bool}
theorem jnP_lt (h1 : m1 ≤ 60) {j : Nat} (h : jnP m1 m2 j) : j < 3600 := by
  unfold jnP at h
  omega
theorem jnN_P (h2 : m2 ≤ 60) (hN1 : ∀ s, s < m1 → ∀ c, c < 8 → N1 s c < m1) (hN2 : ∀ s, s < m2 → ∀ c, c < 8 → N2 s c < m2) {j l : Nat} (h : jnP m1 m2 j) (hl : l < 8) : jnP m1 m2 (jnN N1 N2 j l) ∧ jnN N1 N2 j l / 60 = N1 (j / 60) l ∧ jnN N1 N2 j l % 60 = N2 (j % 60) l := by
  have a := hN1 _ h.1 l hl
  have b := hN2 _ h.2 l hl
  have e1 : jnN N1 N2 j l / 60 = N1 (j / 60) l := by unfold jnN; omega
  have e2 : jnN N1 N2 j l % 60 = N2 (j % 60) l := by unfold jnN; omega
  exact ⟨⟨by omega, by omega⟩, e1, e2⟩
theorem bf_newP {P : Nat → Prop} {b : bf_T} {j : Nat} (h : ∀ x, x < b.2.2 → P (b.2.1 x)) (hj : P j) : ∀ x, x < (bf_new j b).2.2 → P ((bf_new j b).2.1 x) := by
  intro x hx
  rcases Nat.lt_or_ge x b.2.2 with q | q
  · rw [bf_new_cls q]; exact h x q
  · unfold bf_new at hx ⊢
    split at hx
    · rename_i hz
      rw [if_pos hz]
      have hx : x < b.2.2 + 1 := hx
      show P (va_up _ _ _ x)
      rw [show x = b.2.2 by omega, va_up_self]
      exact hj
    · omega
/-- no more pairs are met than there are -/
theorem jn_fit (h2 : m2 ≤ 60) {b : bf_T} (h : bf_ok b) (hP : ∀ x, x < b.2.2 → jnP m1 m2 (b.2.1 x)) : b.2.2 ≤ m1 * m2 := by
  refine ph_le (h := fun x => (b.2.1 x / 60) * m2 + b.2.1 x % 60) (fun x hx => ?_) (fun i j hi hj q => ?_)
  · have := hP x hx
    unfold jnP at this
    show b.2.1 x / 60 * m2 + b.2.1 x % 60 < m1 * m2
    have a : (b.2.1 x / 60 + 1) * m2 ≤ m1 * m2 := Nat.mul_le_mul_right _ (by omega)
    rw [Nat.add_mul] at a
    omega
  · have q : b.2.1 i / 60 * m2 + b.2.1 i % 60 = b.2.1 j / 60 * m2 + b.2.1 j % 60 := q
    have pi := hP i hi
    have pj := hP j hj
    unfold jnP at pi pj
    have r : b.2.1 i % 60 = b.2.1 j % 60 := by
      have q2 := congrArg (· % m2) q
      simp only [Nat.mul_add_mod_self_right, Nat.add_comm, Nat.add_mul_mod_self_right] at q2
      rw [Nat.mod_eq_of_lt pi.2, Nat.mod_eq_of_lt pj.2] at q2
      exact q2
    have r2 : b.2.1 i / 60 * m2 = b.2.1 j / 60 * m2 := by omega
    have r3 := Nat.eq_of_mul_eq_mul_right (show 0 < m2 by omega) r2
    have e : b.2.1 i = b.2.1 j := by omega
    have e1 := h.1 i hi
    have e2 := h.1 j hj
    rw [e] at e1
    omega
/-- what is met, as the class has it -/
def jc_ok (b : bf_T) (t : Nat) (nt tb : AI) : Prop := (∃ ks : Nat → Nat, pn_in tb t b.2.2 ks ∧ ∀ x, x < b.2.2 → ks x = jnE (b.2.1 x)) ∧ ∀ x, x < b.2.2 → nt x = nI (jnE (b.2.1 x))
theorem cstateFor_is {b : bf_T} {rm t j : Nat} {nt tb : AI} (h1 : m1 ≤ 60) (h2 : m2 ≤ 60) (hok : bf_ok b) (hP : ∀ x, x < b.2.2 → jnP m1 m2 (b.2.1 x)) (hj : jnP m1 m2 j) (hm : m1 * m2 ≤ rm) (hr : rm ≤ 3600) (h : jc_ok b t nt tb) :
    ∃ nt' tb', p_X2_stateFor rm (nI rm) (nI b.2.2) nt tb (nI t) (nI b.2.2) (nI (j / 60)) (nI (j % 60)) = some (nI ((bf_new j b).1 j - 1), nI (bf_new j b).2.2, nt', tb', nI (bf_new j b).2.2) ∧ jc_ok (bf_new j b) t nt' tb' := by
  obtain ⟨⟨ks, hp, hks⟩, hnt⟩ := h
  have hfit := jn_fit h2 hok hP
  have hfit2 := jn_fit h2 (bf_new_ok (j := j) hok) (bf_newP hP hj)
  have hj1 : j / 60 < 60 := Nat.lt_of_lt_of_le hj.1 h1
  have hj2 : j % 60 < 60 := Nat.mod_lt _ (by omega)
  obtain ⟨jj, tb', cnt', ks', e, q1, q2, q3, q4, q5⟩ := numberOf_is hp (show b.2.2 < 4096 by omega) (show j / 60 < 64 by omega) (show j % 60 < 64 by omega)
  have q3 : ks' jj = jnE j := q3
  unfold p_X2_stateFor p_X1_count
  rw [e]
  simp only [ob3, ob1_some]
  by_cases hz : b.1 j = 0
  · have en : bf_new j b = (va_up b.1 j (b.2.2 + 1), va_up b.2.1 b.2.2 j, b.2.2 + 1) := by unfold bf_new; rw [if_pos hz]
    have em : (bf_new j b).2.2 = b.2.2 + 1 := by rw [en]
    have o : (bf_new j b).1 j = b.2.2 + 1 := by rw [en]; exact va_up_self _ _ _
    have oc : (bf_new j b).2.1 b.2.2 = j := by rw [en]; exact va_up_self _ _ _
    have hq : cnt' = b.2.2 + 1 ∧ jj = b.2.2 := by
      rcases q5 with q | q
      · exfalso
        rw [q] at q2
        have a := hks jj q2
        rw [← q4 jj q2, q3] at a
        have c := hok.1 jj q2
        rw [← jnE_inj a, hz] at c
        omega
      · exact ⟨q.1, q.2.1⟩
    obtain ⟨rfl, rfl⟩ := hq
    rw [em] at hfit2
    rw [if_pos rfl]
    unfold p_X1_add p_X1_writeNote
    rw [ite_le (by omega) (by omega), if_neg (by omega), ob1_some, nI_1, isState_is (by omega) (by omega), ob1_some, if_neg (by decide)]
    have es : (nI (j / 60) <<< ((6 : Int32) &&& (31 : Int32))) ||| nI (j % 60) = nI (jnE j) := by
      rw [pk_shlN _ 6 (by decide) (by omega), show j / 60 * 2 ^ 6 = 64 * (j / 60) by omega, jn_or (by omega)]
      unfold jnE
      rw [Nat.mul_comm]
    rw [es]
    simp (disch := omega) only [gi_nI, nI_clamp, ob1_some, ob2_some]
    rw [em, o, Nat.add_sub_cancel]
    refine ⟨_, tb', rfl, ⟨ks', ?_, fun x hx => ?_⟩, fun x hx => ?_⟩
    · rw [em]; exact q1
    · rw [em] at hx
      by_cases hxx : x = b.2.2
      · rw [hxx, q3, oc]
      · rw [q4 x (by omega), hks x (by omega), bf_new_cls (by omega)]
    · rw [em] at hx
      by_cases hxx : x = b.2.2
      · rw [hxx, upd_self, oc]
      · rw [upd_ne _ _ hxx, hnt x (by omega), bf_new_cls (by omega)]
  · have en : bf_new j b = b := by unfold bf_new; rw [if_neg hz]
    have hb := (hok.2 j).resolve_left hz
    have hq : cnt' = b.2.2 ∧ jj = b.1 j - 1 := by
      rcases q5 with q | ⟨_, _, q⟩
      · rw [q] at q2
        have a := hks jj q2
        rw [← q4 jj q2, q3] at a
        have c := hok.1 jj q2
        rw [← jnE_inj a] at c
        exact ⟨q, by omega⟩
      · exfalso
        refine q _ hb.1 ?_
        rw [hks _ hb.1, hb.2]
        rfl
    obtain ⟨rfl, rfl⟩ := hq
    rw [en, ite_eq (by omega) (by omega), if_neg (by omega)]
    simp only [ob2_some]
    exact ⟨nt, tb', rfl, ⟨ks', q1, fun x hx => by rw [q4 x hx]; exact hks x hx⟩, hnt⟩
theorem jnote_is {rm n x : Nat} {nt : AI} (hnr : n ≤ rm) (hr : rm ≤ 3600) (hx : x < n) : p_X1_noteOf rm (nI n) nt (nI x) = some (nt x) := by
  unfold p_X1_noteOf
  rw [isState_is (by omega) hx, ob1_some, if_neg (by decide)]
  simp (disch := omega) only [gi_nI, nI_clamp]
theorem jn_hi {j : Nat} (hj : j < 3600) : nI (jnE j) >>> ((6 : Int32) &&& (31 : Int32)) = nI (j / 60) := by
  rw [pk_shrN (by unfold jnE; omega) _ 6 (by decide)]
  congr 1
  unfold jnE
  omega
theorem jn_lo {j : Nat} (hj : j < 3600) : nI (jnE j) &&& (63 : Int32) = nI (j % 60) := by
  rw [pk_andN (by unfold jnE; omega) 6 (by decide)]
  congr 1
  unfold jnE
  omega
variable {rm t k1 k2 : Nat} {fn fs : AF} {fz : AI}
theorem join_columns (h1 : m1 ≤ 60) (h2 : m2 ≤ 60) (hm : m1 * m2 ≤ rm) (hr : rm ≤ 3600) (hN1 : ∀ s, s < m1 → ∀ c, c < 8 → N1 s c < m1) (hN2 : ∀ s, s < m2 → ∀ c, c < 8 → N2 s c < m2) (z1 : fz k1 = nI m1) (z2 : fz k2 = nI m2) (c1 : ct_at m1 N1 S1 (fn k1) (fs k1)) (c2 : ct_at m2 N2 S2 (fn k2) (fs k2)) (h0 : jnP m1 m2 0)
    {x : Nat} (hx : ∀ y, y ≤ x → y < (bf (jnN N1 N2) 0 (8 * y)).2.2) {w : Int32} (hw : w = nI (jnE ((bf (jnN N1 N2) 0 (8 * x)).2.1 x))) :
    ∀ (f l : Nat) (nx nt tb : AI), l ≤ 8 → 9 ≤ f + l → jc_ok (bf (jnN N1 N2) 0 (8 * x + l)) t nt tb → wk_N (jnN N1 N2) (8 * x + l) nx → ∃ nx' nt' tb', p_X2_join_L85 fn k1 fz w k2 w rm (nI rm) (nI t) (nI x) f (nI l) (nI (bf (jnN N1 N2) 0 (8 * x + l)).2.2) nx nt tb (nI (bf (jnN N1 N2) 0 (8 * x + l)).2.2) = some (nI (bf (jnN N1 N2) 0 (8 * x + 8)).2.2, nx', nt', tb', nI (bf (jnN N1 N2) 0 (8 * x + 8)).2.2) ∧ jc_ok (bf (jnN N1 N2) 0 (8 * x + 8)) t nt' tb' ∧ wk_N (jnN N1 N2) (8 * x + 8) nx' := by
  have hQP : ∀ j, jnP m1 m2 j → ∀ l, l < 8 → jnP m1 m2 (jnN N1 N2 j l) := fun j hj l hl => (jnN_P h2 hN1 hN2 hj hl).1
  have hQe : ∀ j, jnP m1 m2 j → ∀ l, l < 8 → jnN N1 N2 j l / 60 = N1 (j / 60) l ∧ jnN N1 N2 j l % 60 = N2 (j % 60) l := fun j hj l hl => (jnN_P h2 hN1 hN2 hj hl).2
  generalize jnN N1 N2 = Q at *
  have hx8 := hx x (Nat.le_refl _)
  have htl : ∀ t, t ≤ 8 * x + 8 → ∀ u, u < t → u / 8 < (bf Q 0 u).2.2 := fun t ht u hu => Nat.lt_of_lt_of_le (hx (u / 8) (by omega)) (bf_many (by omega))
  have hb0 := bf_ltP h0 (fun j => jnP_lt h1) hQP (htl (8 * x) (by omega))
  generalize hjx : (bf Q 0 (8 * x)).2.1 x = jx at hw
  have hjP : jnP m1 m2 jx := by rw [← hjx]; exact hb0.1 x hx8
  have hj36 := jnP_lt h1 hjP
  subst hw
  intro f
  induction f with
  | zero => intro l nx nt tb h1 h2; omega
  | succ f ih =>
    intro l nx nt tb hl hf hc hn
    rw [p_X2_join_L85, k_8, ite_le (by omega) (by omega)]
    by_cases h8 : 8 ≤ l
    · have : l = 8 := by omega
      subst this
      rw [if_pos h8]
      exact ⟨nx, nt, tb, rfl, hc, hn⟩
    · have hbt := bf_ltP h0 (fun j => jnP_lt h1) hQP (htl (8 * x + l) (by omega))
      have hok := bf_all_ok (Q := Q) (j0 := 0) (8 * x + l)
      have hfit := jn_fit h2 hok hbt.1
      have hcx : (bf Q 0 (8 * x + l)).2.1 x = jx := by rw [bf_cls (a := 8 * x) (by omega) hx8]; exact hjx
      have hmm : (bf Q 0 (8 * x)).2.2 ≤ (bf Q 0 (8 * x + l)).2.2 := bf_many (by omega)
      have hst : bf Q 0 (8 * x + (l + 1)) = bf_new (Q jx l) (bf Q 0 (8 * x + l)) := by
        show bf_new (Q ((bf Q 0 (8 * x + l)).2.1 ((8 * x + l) / 8)) ((8 * x + l) % 8)) _ = _
        rw [show (8 * x + l) / 8 = x by omega, show (8 * x + l) % 8 = l by omega, hcx]
        rfl
      have hnx : bf_nx Q 0 (8 * x + l) = (bf_new (Q jx l) (bf Q 0 (8 * x + l))).1 (Q jx l) - 1 := by
        unfold bf_nx
        rw [show 8 * x + l + 1 = 8 * x + (l + 1) from rfl, hst, show (8 * x + l) / 8 = x by omega, show (8 * x + l) % 8 = l by omega, hcx]
      have hmm2 : (bf Q 0 (8 * x + l)).2.2 ≤ (bf Q 0 (8 * x + (l + 1))).2.2 := bf_many (by omega)
      have hfit2 := jn_fit h2 (bf_all_ok (Q := Q) (j0 := 0) (8 * x + (l + 1))) (bf_ltP h0 (fun j => jnP_lt h1) hQP (htl (8 * x + (l + 1)) (by omega))).1
      obtain ⟨qe1, qe2⟩ := hQe jx hjP l (by omega)
      rw [if_neg h8, jn_hi hj36, jn_lo hj36, z1, z2, after_is c1 h1 hjP.1 (by omega), ob1_some, after_is c2 h2 hjP.2 (by omega), ob1_some, ← qe1, ← qe2]
      obtain ⟨nt', tb', e, q⟩ := cstateFor_is h1 h2 hok hbt.1 (hQP jx hjP l (by omega)) hm hr hc
      rw [e]
      simp only [ob5]
      rw [← hnx, ← hst] 
      rw [← hst] at q
      rw [dwrite_is (by omega) hr (by omega) (by omega), ob1_some, nI_1]
      refine ih (l + 1) _ nt' tb' (by omega) (by omega) q (fun u hu => ?_)
      by_cases hul : u = 8 * x + l
      · rw [hul, show 8 * x + l = x * 8 + l by omega, upd_self]
      · rw [upd_ne _ _ (by omega)]; exact hn u (by omega)
theorem join_loop (h1 : m1 ≤ 60) (h2 : m2 ≤ 60) (hm : m1 * m2 ≤ rm) (hr : rm ≤ 3600) (hN1 : ∀ s, s < m1 → ∀ c, c < 8 → N1 s c < m1) (hN2 : ∀ s, s < m2 → ∀ c, c < 8 → N2 s c < m2) (z1 : fz k1 = nI m1) (z2 : fz k2 = nI m2) (c1 : ct_at m1 N1 S1 (fn k1) (fs k1)) (c2 : ct_at m2 N2 S2 (fn k2) (fs k2)) (h0 : jnP m1 m2 0) {F : Nat} (hF : 5000 ≤ F) (both : Bool) :
    ∀ (f x : Nat) (nx sy nt tb : AI), 3602 ≤ f + x → x ≤ (bf (jnN N1 N2) 0 (8 * x)).2.2 → (∀ y, y < x → y < (bf (jnN N1 N2) 0 (8 * y)).2.2) → jc_ok (bf (jnN N1 N2) 0 (8 * x)) t nt tb → wk_N (jnN N1 N2) (8 * x) nx → (∀ y, y < x → sy y = bI (jnS both S1 S2 ((bf (jnN N1 N2) 0 (8 * x)).2.1 y))) →
      ∃ m nx' sy' nt' tb', p_X2_join_L34 F rm fn k1 fz k2 (nI rm) (nI t) fs (bI both) f (nI x) (nI (bf (jnN N1 N2) 0 (8 * x)).2.2) nx sy nt tb (nI (bf (jnN N1 N2) 0 (8 * x)).2.2) = some (nI m, nx', sy', nt', tb', nI m) ∧ m ≤ m1 * m2 ∧ bf_end (jnN N1 N2) 0 m ∧ pn_ok tb' (nI t) ∧ dm_N m (bf_next (jnN N1 N2) 0 m) nx' ∧ mm_S m (fun y => jnS both S1 S2 ((bf (jnN N1 N2) 0 (8 * m)).2.1 y)) sy' := by
  have hcol := @join_columns m1 m2 N1 N2 S1 S2 rm t k1 k2 fn fs fz h1 h2 hm hr hN1 hN2 z1 z2 c1 c2 h0
  have hQP : ∀ j, jnP m1 m2 j → ∀ l, l < 8 → jnP m1 m2 (jnN N1 N2 j l) := fun j hj l hl => (jnN_P h2 hN1 hN2 hj hl).1
  generalize jnN N1 N2 = Q at *
  intro f
  induction f with
  | zero =>
    intro x nx sy nt tb hfu hx hy
    have hb := bf_ltP h0 (fun j => jnP_lt h1) hQP (t := 8 * x) (fun u hu => Nat.lt_of_lt_of_le (hy (u / 8) (by omega)) (bf_many (by omega)))
    omega
  | succ f ih =>
    intro x nx sy nt tb hfu hx hy hc hn hs
    have hb := bf_ltP h0 (fun j => jnP_lt h1) hQP (t := 8 * x) (fun u hu => Nat.lt_of_lt_of_le (hy (u / 8) (by omega)) (bf_many (by omega)))
    have hfit := jn_fit h2 (bf_all_ok (Q := Q) (j0 := 0) (8 * x)) hb.1
    rw [p_X2_join_L34]
    unfold p_X1_count
    rw [ob1_some, k_3600, ite_le (by omega) (by omega), ite_le (by omega) (by omega)]
    by_cases hmx : (bf Q 0 (8 * x)).2.2 ≤ x
    · have hxe : (bf Q 0 (8 * x)).2.2 = x := by omega
      rw [if_pos hmx]
      have he : bf_end Q 0 x := ⟨hxe, hy⟩
      rw [hxe]
      obtain ⟨⟨ks, hp, _⟩, _⟩ := hc
      refine ⟨x, nx, sy, nt, tb, rfl, by omega, he, hp.ok, fun s hs l hl => ?_, hs⟩
      rw [show s * 8 + l = 8 * s + l by omega, hn _ (by omega), bf_nx_is he hs hl]
    · have hxl : x < (bf Q 0 (8 * x)).2.2 := by omega
      have hjP := hb.1 x hxl
      have hj36 := jnP_lt h1 hjP
      rw [if_neg hmx, if_neg (by omega), jnote_is (by omega) hr hxl, ob1_some, hc.2 x hxl, ob1_some]
      obtain ⟨nx', nt', tb', e, q1, q2⟩ := hcol (x := x) (fun y hy2 => by
        rcases Nat.lt_or_ge y x with q | q
        · exact hy y q
        · rw [show y = x by omega]; exact hxl) rfl F 0 nx nt tb (by omega) (by omega) hc hn
      have e' : p_X2_join_L85 fn k1 fz (nI (jnE ((bf Q 0 (8 * x)).2.1 x))) k2 (nI (jnE ((bf Q 0 (8 * x)).2.1 x))) rm (nI rm) (nI t) (nI x) F (0 : Int32) (nI (bf Q 0 (8 * x)).2.2) nx nt tb (nI (bf Q 0 (8 * x)).2.2) = some (nI (bf Q 0 (8 * x + 8)).2.2, nx', nt', tb', nI (bf Q 0 (8 * x + 8)).2.2) := e
      rw [e']
      simp only [ob5]
      have hmm : (bf Q 0 (8 * x)).2.2 ≤ (bf Q 0 (8 * x + 8)).2.2 := bf_many (by omega)
      have hcx : (bf Q 0 (8 * x + 8)).2.1 x = (bf Q 0 (8 * x)).2.1 x := bf_cls (by omega) hxl
      have e8 : 8 * x + 8 = 8 * (x + 1) := by omega
      rw [e8] at q1 q2 hcx hmm ⊢
      have hb2 := bf_ltP h0 (fun j => jnP_lt h1) hQP (t := 8 * (x + 1)) (fun u hu => by
        rcases Nat.lt_or_ge (u / 8) x with q | q
        · exact Nat.lt_of_lt_of_le (hy (u / 8) q) (bf_many (by omega))
        · rw [show u / 8 = x by omega]; exact Nat.lt_of_lt_of_le hxl (bf_many (by omega)))
      have hfit2 := jn_fit h2 (bf_all_ok (Q := Q) (j0 := 0) (8 * (x + 1))) hb2.1
      rw [jn_hi hj36, jn_lo hj36, z1, z2, saysAt_is c1 h1 hjP.1, ob1_some, saysAt_is c2 h2 hjP.2, ob1_some, jn_b, ob1_some, dwriteSays_is (by omega) hr (by omega), ob1_some, nI_1]
      refine ih (x + 1) nx' _ nt' tb' (by omega) (by omega) (fun y hy2 => ?_) q1 q2 (fun y hy2 => ?_)
      · rcases Nat.lt_or_ge y x with q | q
        · exact hy y q
        · rw [show y = x by omega]; exact hxl
      · by_cases hyx : y = x
        · rw [hyx, upd_self, hcx]; rfl
        · rw [upd_ne _ _ hyx, hs y (by omega), bf_cls (a := 8 * x) (b := 8 * (x + 1)) (by omega) (by omega)]
theorem join_is {k0 F : Nat} (hF : 5000 ≤ F) {rm0 : Nat} (hr0 : rm0 ≤ 3600) (h32 : 32 ≤ rm0) (h1 : m1 ≤ 60) (h2 : m2 ≤ 60) (hm1 : 0 < m1) (hm2 : 0 < m2) (hN1 : ∀ s, s < m1 → ∀ c, c < 8 → N1 s c < m1) (hN2 : ∀ s, s < m2 → ∀ c, c < 8 → N2 s c < m2) (z1 : fz k1 = nI m1) (z2 : fz k2 = nI m2) (c1 : ct_at m1 N1 S1 (fn k1) (fs k1)) (c2 : ct_at m2 N2 S2 (fn k2) (fs k2)) (both : Bool) {tb : AI} {tn : Int32} (hp : pn_ok tb tn) (st kd od nx sy nt so fr : AI) :
    ∃ m t nx' sy' nt' so' fr' tb1, m ≤ m1 * m2 ∧ bf_end (jnN N1 N2) 0 m ∧ pn_ok tb1 (nI t) ∧ dm_N m (bf_next (jnN N1 N2) 0 m) nx' ∧ mm_S m (fun y => jnS both S1 S2 ((bf (jnN N1 N2) 0 (8 * m)).2.1 y)) sy' ∧ ∀ r st' kd' od' so2 fr2 tb' tn' ct' cn' cs' cz', p_X1_reduceInto F (rm_of rm0 (m1 * m2)) st kd od (nI m) nx' sy' so' fr' tb1 (nI t) (fn k0) (fs k0) (fz k0) = some (r, st', kd', od', so2, fr2, tb', tn', ct', cn', cs', cz') → p_X2_join F rm0 st kd od (nI rm0) nx sy nt so fr tb tn fn fs fz k0 k1 k2 (rm_of rm0 (m1 * m2)) (bI both) = some (r, rm_of rm0 (m1 * m2), st', kd', od', nI (rm_of rm0 (m1 * m2)), nI m, nx', sy', nt', so2, fr2, tb', tn', ct', va_up fn k0 cn', va_up fs k0 cs', va_up fz k0 cz') := by
  have hmm : m1 * m2 ≤ 3600 := Nat.le_trans (Nat.mul_le_mul h1 h2) (by omega)
  obtain ⟨a1, a2, a3, a4⟩ := rm_of_le hr0 h32 hmm
  obtain ⟨nx1, sy1, nt1, so1, fr1, hb⟩ := begin_dr hr0 h32 hmm (Nat.zero_le _) nx sy nt so fr
  obtain ⟨tb2, t, ef, hin⟩ := forget_is hF hp (fun _ => 0)
  obtain ⟨nt2, tb3, es, q1⟩ := cstateFor_is (b := (fun _ => 0, fun _ => 0, 0)) (rm := rm_of rm0 (m1 * m2)) (t := t) (j := 0) (nt := nt1) h1 h2 ⟨fun x hx => absurd hx (Nat.not_lt_zero x), fun j => Or.inl rfl⟩ (fun x hx => absurd hx (Nat.not_lt_zero x)) ⟨hm1, hm2⟩ a1 a3 ⟨⟨fun _ => 0, hin, fun x hx => absurd hx (Nat.not_lt_zero x)⟩, fun x hx => absurd hx (Nat.not_lt_zero x)⟩
  obtain ⟨m, nx2, sy2, nt3, tb4, el, r1, r2, r3, r4, r5⟩ := join_loop (t := t) h1 h2 a1 a3 hN1 hN2 z1 z2 c1 c2 ⟨hm1, hm2⟩ hF both F 0 nx1 sy1 nt2 tb3 (by omega) (Nat.zero_le _) (fun y h => by omega) q1 (fun u h => by omega) (fun u h => by omega)
  refine ⟨m, t, nx2, sy2, nt3, so1, fr1, tb4, r1, r2, r3, r4, r5, fun r st' kd' od' so2 fr2 tb' tn' ct' cn' cs' cz' h => ?_⟩
  unfold p_X2_join p_X0_size
  rw [z1, z2, ob1_some, ob1_some, pk_mul]
  have hb' : p_X1_begin rm0 (nI rm0) nx sy nt so fr (rm_of rm0 (m1 * m2)) (0 : Int32) (nI (m1 * m2)) = some (rm_of rm0 (m1 * m2), nI (rm_of rm0 (m1 * m2)), nI 0, nx1, sy1, nt1, so1, fr1) := hb
  rw [hb']
  simp only [ob8]
  rw [ef]
  simp only [ob3]
  have es' : p_X2_stateFor (rm_of rm0 (m1 * m2)) (nI (rm_of rm0 (m1 * m2))) (nI 0) nt1 tb2 (nI t) (nI 0) (0 : Int32) (0 : Int32) = some (nI 0, nI 1, nt2, tb3, nI 1) := es
  rw [es']
  simp only [ob5]
  have el' : p_X2_join_L34 F (rm_of rm0 (m1 * m2)) fn k1 fz k2 (nI (rm_of rm0 (m1 * m2))) (nI t) fs (bI both) F (0 : Int32) (nI 1) nx1 sy1 nt2 tb3 (nI 1) = some (nI m, nx2, sy2, nt3, tb4, nI m) := el
  rw [el']
  simp only [ob6]
  rw [h]
  rfl
theorem joins_walk {F i j : Nat} {nxo ha : AI} (hF : 5000 ≤ F) (hi : i < 8) (hj : j < 8) (h1 : m1 ≤ 60) (h2 : m2 ≤ 60) (hm1 : 0 < m1) (hm2 : 0 < m2) (hN1 : ∀ s, s < m1 → ∀ c, c < 8 → N1 s c < m1) (hN2 : ∀ s, s < m2 → ∀ c, c < 8 → N2 s c < m2) (c1 : mt_at i m1 N1 S1 nxo ha) (c2 : mt_at j m2 N2 S2 nxo ha) (both : Bool) {sf sfo : AI} (h3 : bo (bf (jnN N1 N2) 0 0) 3600 sfo) (h4 : bc (bf (jnN N1 N2) 0 0) sf) (mn mh : AI) :
    ∃ m sf' mn' mh' sfo', p_X10_joinsTwo_L13 F nxo (nI i) (nI j) ha (bI both) F (nI 0) (nI 1) sf mn mh sfo = some (nI m, sf', mn', mh', sfo') ∧ m ≤ 3600 ∧ bf_end (jnN N1 N2) 0 m ∧ mm_N m (bf_next (jnN N1 N2) 0 m) mn' ∧ mm_S m (fun y => jnS both S1 S2 ((bf (jnN N1 N2) 0 (8 * m)).2.1 y)) mh' := by
  refine walk_is (S := jnS both S1 S2) (P := jnP m1 m2) (L := fun x sf0 f l md sf mn sfo => p_X10_joinsTwo_L49 nxo (nI i) sf0 (nI x) (nI j) f l md sf mn sfo) ⟨hm1, hm2⟩ (fun _ => jnP_lt h1) (by omega) hF (fun j hj l hl => (jnN_P h2 hN1 hN2 hj hl).1) ?_ ?_ ?_ ?_ h3 h4 mn mh
  · intro x sf0 f md sf mn sfo
    show p_X10_joinsTwo_L49 _ _ _ _ _ _ _ _ _ _ _ = _
    rw [p_X10_joinsTwo_L49, k_8, ite_le (by omega) (by omega), if_pos (Nat.le_refl _)]
  · intro x sf0 jx f l md sf mn sfo hx hjP hs0 _ hl
    show p_X10_joinsTwo_L49 _ _ _ _ _ _ _ _ _ _ _ = _
    have h36 := jnP_lt h1 hjP
    rw [p_X10_joinsTwo_L49, k_8, ite_le (by omega) (by omega), if_neg (by omega), k_60]
    simp (disch := omega) only [nI_clamp, hs0]
    rw [pk_rem (a := jx) (d := 60) (by omega) (by omega) (by omega), pk_div (by omega) (by omega) (by omega), next_is c1 hi h1 hjP.1 hl, ob1_some, next_is c2 hj h2 hjP.2 hl, ob1_some, pk_mul, nI_add, nI_1]
    rfl
  · intro f x md sf mn mh sfo h3 h4
    rw [p_X10_joinsTwo_L13, ite_le (by omega) (by omega), if_pos h3]
  · intro f x md sf mn mh sfo jx md' sf' mn' sfo' h3 h4 hjP hs he hs'
    have he : p_X10_joinsTwo_L49 nxo (nI i) sf (nI x) (nI j) F (nI 0) (nI md) sf mn sfo = some (nI md', sf', mn', sfo') := he
    have he' : p_X10_joinsTwo_L49 nxo (nI i) sf (nI x) (nI j) F (0 : Int32) (nI md) sf mn sfo = some (nI md', sf', mn', sfo') := he
    have h36 := jnP_lt h1 hjP
    rw [p_X10_joinsTwo_L13, ite_le (by omega) (by omega), if_neg (by omega), he', k_60]
    simp (disch := omega) only [nI_clamp, hs, gi_nI, ob4]
    rw [pk_rem (a := jx) (d := 60) (by omega) (by omega) (by omega), pk_div (by omega) (by omega) (by omega), holdsIn_is c1 hi h1 hjP.1, ob1_some, holdsIn_is c2 hj h2 hjP.2, ob1_some, jn_b, ob1_some, bI_and, nI_1]
    rfl
end JOIN

theorem op_both {F rm : Nat} {rooms : Int32} (hF : 5000 ≤ F) (hd : rl_dr rm rooms) {tb : AI} {tn : Int32} (hp : pn_ok tb tn) {fn fs : AF} {fz ko nxo ha : AI} (hcl : rl_cls fn fs fz ko nxo ha)  (st kd od nx sy nt so fr : AI) (dct pct : Int32) (md : Int32) (sf mn mh sfo jd jn fi oo ca : AI) (v1 v2 v3 : Int32) :
    ∃ r rm' st' kd' od' rooms' dct' nx' sy' nt' so' fr' tb' tn' pct' fn' fs' fz' ko' nxo' ha' md' sf' mn' mh' sfo' jd' jn' fi' oo' ca', p_X9_both F rm st kd od rooms dct nx sy nt so fr tb tn pct fn fs fz rm' v1 v2 v3 = some (r, rm', st', kd', od', rooms', dct', nx', sy', nt', so', fr', tb', tn', pct', fn', fs', fz') ∧ p_X10_both F ko nxo ha md sf mn mh sfo jd jn fi oo ca v1 v2 v3 = some (r, ko', nxo', ha', md', sf', mn', mh', sfo', jd', jn', fi', oo', ca') ∧ rl_cls fn' fs' fz' ko' nxo' ha' ∧ rl_dr rm' rooms' ∧ pn_ok tb' tn' ∧ rl_gr rm rm' := by
  obtain ⟨rfl, h32, hr⟩ := hd
  unfold p_X9_both p_X10_both p_X9_joinTwo
  rcases isClaim_dec v1 with ⟨a1, a2⟩ | ⟨k, hk, rfl, a1, a2⟩
  · rw [a1, a2]
    exact ⟨-1, rm, st, kd, od, nI rm, dct, nx, sy, nt, so, fr, tb, tn, pct, fn, fs, fz, ko, nxo, ha, md, sf, mn, mh, sfo, jd, jn, fi, oo, ca, rfl, rfl, hcl, ⟨rfl, h32, hr⟩, hp, Or.inl rfl⟩
  rcases isClaim_dec v2 with ⟨b1, b2⟩ | ⟨i, hi, rfl, b1, b2⟩
  · rw [a1, a2, b1, b2]
    exact ⟨-1, rm, st, kd, od, nI rm, dct, nx, sy, nt, so, fr, tb, tn, pct, fn, fs, fz, ko, nxo, ha, md, sf, mn, mh, sfo, jd, jn, fi, oo, ca, rfl, rfl, hcl, ⟨rfl, h32, hr⟩, hp, Or.inl rfl⟩
  rcases isClaim_dec v3 with ⟨c1, c2⟩ | ⟨j, hj, rfl, c1, c2⟩
  · rw [a1, a2, b1, b2, c1, c2]
    exact ⟨-1, rm, st, kd, od, nI rm, dct, nx, sy, nt, so, fr, tb, tn, pct, fn, fs, fz, ko, nxo, ha, md, sf, mn, mh, sfo, jd, jn, fi, oo, ca, rfl, rfl, hcl, ⟨rfl, h32, hr⟩, hp, Or.inl rfl⟩
  rcases there_dec hcl hi with ⟨e1, e2, e3, e4⟩ | ⟨m1, N1, S1, hm1, h1, e1, e2, e3, e4, e5, e6, e7⟩
  · rw [a1, a2, b1, b2, c1, c2, e1, e2]
    exact ⟨-3, rm, st, kd, od, nI rm, dct, nx, sy, nt, so, fr, tb, tn, pct, fn, fs, fz, ko, nxo, ha, md, sf, mn, mh, sfo, jd, jn, fi, oo, ca, rfl, rfl, hcl, ⟨rfl, h32, hr⟩, hp, Or.inl rfl⟩
  rcases there_dec hcl hj with ⟨f1, f2, f3, f4⟩ | ⟨m2, N2, S2, hm2, h2, f1, f2, f3, f4, f5, f6, f7⟩
  · rw [a1, a2, b1, b2, c1, c2, e1, e2, f1, f2]
    exact ⟨-3, rm, st, kd, od, nI rm, dct, nx, sy, nt, so, fr, tb, tn, pct, fn, fs, fz, ko, nxo, ha, md, sf, mn, mh, sfo, jd, jn, fi, oo, ca, rfl, rfl, hcl, ⟨rfl, h32, hr⟩, hp, Or.inl rfl⟩
  have hmm : m1 * m2 ≤ 3600 := Nat.le_trans (Nat.mul_le_mul h1 h2) (by omega)
  obtain ⟨g1, g2, g3, g4⟩ := rm_of_le hr h32 hmm
  obtain ⟨m, t, nx', sy', nt', so', fr', tb1, hmle, hend, hp1, q1, q2, q3⟩ := join_is (k0 := k) hF hr h32 h1 h2 hm1 hm2 e5.2.1 f5.2.1 e3 f3 e6 f6 true hp st kd od nx sy nt so fr
  obtain ⟨sf1, sfo0, sfo1, w1, w2, w3, w4⟩ := begun_is hF (show 0 < 3600 by omega) (by omega) (jnN N1 N2) sf sfo
  obtain ⟨m', sf2, mn', mh', sfo2, w5, hm36, hend', r1, r2⟩ := joins_walk hF (show i < 8 by omega) (show j < 8 by omega) h1 h2 hm1 hm2 e5.2.1 f5.2.1 e7 f7 true w3 w4 mn mh
  have hmm' := hend'.uniq hend
  subst hmm'
  obtain ⟨r, st', kd', od', so2, fr2, tb', tn', ct', cn', cs', cz', ko', nxo', ha', jd', jn', fi', oo', ca', d1, d2, s1, s2⟩ := made_glue hend.pos (by omega) g3 hend.lt q1 q2 hend.pos hm36 hend.lt r1 r2 hk hF hp1 au_eq.rf ⟨fun h => h, fun h => h⟩ hcl st kd od so' fr' jd jn fi oo ca
  have d3 := q3 _ _ _ _ _ _ _ _ _ _ _ _ d1
  refine ⟨r, rm_of rm (m1 * m2), st', kd', od', nI (rm_of rm (m1 * m2)), nI m', nx', sy', nt', so2, fr2, tb', tn', ct', va_up fn k cn', va_up fs k cs', va_up fz k cz', ko', nxo', ha', nI m', sf2, mn', mh', sfo2, jd', jn', fi', oo', ca', ?_, ?_, s2, ⟨rfl, by omega, g3⟩, s1, g4⟩
  · rw [a1, ob1_some, if_neg (by decide), b1, ob1_some, if_neg (by decide), c1, ob1_some, if_neg (by decide), e1, ob1_some, if_neg (by decide), f1, ob1_some, if_neg (by decide)]
    simp (disch := omega) only [gi_nI, nI_clamp]
    have d4 : p_X2_join F rm st kd od (nI rm) nx sy nt so fr tb tn fn fs fz k i j (rm_of rm (m1 * m2)) (1 : Int32) = _ := d3
    rw [d4]
    rfl
  · rw [a2, ob1_some, if_neg (by decide), b2, ob1_some, if_neg (by decide), c2, ob1_some, if_neg (by decide), e2, ob1_some, if_neg (by decide), f2, ob1_some, if_neg (by decide)]
    unfold p_X10_joinsTwo
    rw [w1]
    simp only [ob2]
    have w2' : p_X10_stateOf (nI 0) sf sfo0 (0 : Int32) = some (nI 0, nI 1, sf1, sfo1) := w2
    rw [w2']
    simp only [ob4]
    have w5' : p_X10_joinsTwo_L13 F nxo (nI i) (nI j) ha (1 : Int32) F (0 : Int32) (nI 1) sf1 mn mh sfo1 = some (nI m', sf2, mn', mh', sfo2) := w5
    rw [w5']
    simp only [ob5]
    rw [d2]
    rfl

theorem op_either {F rm : Nat} {rooms : Int32} (hF : 5000 ≤ F) (hd : rl_dr rm rooms) {tb : AI} {tn : Int32} (hp : pn_ok tb tn) {fn fs : AF} {fz ko nxo ha : AI} (hcl : rl_cls fn fs fz ko nxo ha)  (st kd od nx sy nt so fr : AI) (dct pct : Int32) (md : Int32) (sf mn mh sfo jd jn fi oo ca : AI) (v1 v2 v3 : Int32) :
    ∃ r rm' st' kd' od' rooms' dct' nx' sy' nt' so' fr' tb' tn' pct' fn' fs' fz' ko' nxo' ha' md' sf' mn' mh' sfo' jd' jn' fi' oo' ca', p_X9_either F rm st kd od rooms dct nx sy nt so fr tb tn pct fn fs fz rm' v1 v2 v3 = some (r, rm', st', kd', od', rooms', dct', nx', sy', nt', so', fr', tb', tn', pct', fn', fs', fz') ∧ p_X10_either F ko nxo ha md sf mn mh sfo jd jn fi oo ca v1 v2 v3 = some (r, ko', nxo', ha', md', sf', mn', mh', sfo', jd', jn', fi', oo', ca') ∧ rl_cls fn' fs' fz' ko' nxo' ha' ∧ rl_dr rm' rooms' ∧ pn_ok tb' tn' ∧ rl_gr rm rm' := by
  obtain ⟨rfl, h32, hr⟩ := hd
  unfold p_X9_either p_X10_either p_X9_joinTwo
  rcases isClaim_dec v1 with ⟨a1, a2⟩ | ⟨k, hk, rfl, a1, a2⟩
  · rw [a1, a2]
    exact ⟨-1, rm, st, kd, od, nI rm, dct, nx, sy, nt, so, fr, tb, tn, pct, fn, fs, fz, ko, nxo, ha, md, sf, mn, mh, sfo, jd, jn, fi, oo, ca, rfl, rfl, hcl, ⟨rfl, h32, hr⟩, hp, Or.inl rfl⟩
  rcases isClaim_dec v2 with ⟨b1, b2⟩ | ⟨i, hi, rfl, b1, b2⟩
  · rw [a1, a2, b1, b2]
    exact ⟨-1, rm, st, kd, od, nI rm, dct, nx, sy, nt, so, fr, tb, tn, pct, fn, fs, fz, ko, nxo, ha, md, sf, mn, mh, sfo, jd, jn, fi, oo, ca, rfl, rfl, hcl, ⟨rfl, h32, hr⟩, hp, Or.inl rfl⟩
  rcases isClaim_dec v3 with ⟨c1, c2⟩ | ⟨j, hj, rfl, c1, c2⟩
  · rw [a1, a2, b1, b2, c1, c2]
    exact ⟨-1, rm, st, kd, od, nI rm, dct, nx, sy, nt, so, fr, tb, tn, pct, fn, fs, fz, ko, nxo, ha, md, sf, mn, mh, sfo, jd, jn, fi, oo, ca, rfl, rfl, hcl, ⟨rfl, h32, hr⟩, hp, Or.inl rfl⟩
  rcases there_dec hcl hi with ⟨e1, e2, e3, e4⟩ | ⟨m1, N1, S1, hm1, h1, e1, e2, e3, e4, e5, e6, e7⟩
  · rw [a1, a2, b1, b2, c1, c2, e1, e2]
    exact ⟨-3, rm, st, kd, od, nI rm, dct, nx, sy, nt, so, fr, tb, tn, pct, fn, fs, fz, ko, nxo, ha, md, sf, mn, mh, sfo, jd, jn, fi, oo, ca, rfl, rfl, hcl, ⟨rfl, h32, hr⟩, hp, Or.inl rfl⟩
  rcases there_dec hcl hj with ⟨f1, f2, f3, f4⟩ | ⟨m2, N2, S2, hm2, h2, f1, f2, f3, f4, f5, f6, f7⟩
  · rw [a1, a2, b1, b2, c1, c2, e1, e2, f1, f2]
    exact ⟨-3, rm, st, kd, od, nI rm, dct, nx, sy, nt, so, fr, tb, tn, pct, fn, fs, fz, ko, nxo, ha, md, sf, mn, mh, sfo, jd, jn, fi, oo, ca, rfl, rfl, hcl, ⟨rfl, h32, hr⟩, hp, Or.inl rfl⟩
  have hmm : m1 * m2 ≤ 3600 := Nat.le_trans (Nat.mul_le_mul h1 h2) (by omega)
  obtain ⟨g1, g2, g3, g4⟩ := rm_of_le hr h32 hmm
  obtain ⟨m, t, nx', sy', nt', so', fr', tb1, hmle, hend, hp1, q1, q2, q3⟩ := join_is (k0 := k) hF hr h32 h1 h2 hm1 hm2 e5.2.1 f5.2.1 e3 f3 e6 f6 false hp st kd od nx sy nt so fr
  obtain ⟨sf1, sfo0, sfo1, w1, w2, w3, w4⟩ := begun_is hF (show 0 < 3600 by omega) (by omega) (jnN N1 N2) sf sfo
  obtain ⟨m', sf2, mn', mh', sfo2, w5, hm36, hend', r1, r2⟩ := joins_walk hF (show i < 8 by omega) (show j < 8 by omega) h1 h2 hm1 hm2 e5.2.1 f5.2.1 e7 f7 false w3 w4 mn mh
  have hmm' := hend'.uniq hend
  subst hmm'
  obtain ⟨r, st', kd', od', so2, fr2, tb', tn', ct', cn', cs', cz', ko', nxo', ha', jd', jn', fi', oo', ca', d1, d2, s1, s2⟩ := made_glue hend.pos (by omega) g3 hend.lt q1 q2 hend.pos hm36 hend.lt r1 r2 hk hF hp1 au_eq.rf ⟨fun h => h, fun h => h⟩ hcl st kd od so' fr' jd jn fi oo ca
  have d3 := q3 _ _ _ _ _ _ _ _ _ _ _ _ d1
  refine ⟨r, rm_of rm (m1 * m2), st', kd', od', nI (rm_of rm (m1 * m2)), nI m', nx', sy', nt', so2, fr2, tb', tn', ct', va_up fn k cn', va_up fs k cs', va_up fz k cz', ko', nxo', ha', nI m', sf2, mn', mh', sfo2, jd', jn', fi', oo', ca', ?_, ?_, s2, ⟨rfl, by omega, g3⟩, s1, g4⟩
  · rw [a1, ob1_some, if_neg (by decide), b1, ob1_some, if_neg (by decide), c1, ob1_some, if_neg (by decide), e1, ob1_some, if_neg (by decide), f1, ob1_some, if_neg (by decide)]
    simp (disch := omega) only [gi_nI, nI_clamp]
    have d4 : p_X2_join F rm st kd od (nI rm) nx sy nt so fr tb tn fn fs fz k i j (rm_of rm (m1 * m2)) (0 : Int32) = _ := d3
    rw [d4]
    rfl
  · rw [a2, ob1_some, if_neg (by decide), b2, ob1_some, if_neg (by decide), c2, ob1_some, if_neg (by decide), e2, ob1_some, if_neg (by decide), f2, ob1_some, if_neg (by decide)]
    unfold p_X10_joinsTwo
    rw [w1]
    simp only [ob2]
    have w2' : p_X10_stateOf (nI 0) sf sfo0 (0 : Int32) = some (nI 0, nI 1, sf1, sfo1) := w2
    rw [w2']
    simp only [ob4]
    have w5' : p_X10_joinsTwo_L13 F nxo (nI i) (nI j) ha (0 : Int32) F (0 : Int32) (nI 1) sf1 mn mh sfo1 = some (nI m', sf2, mn', mh', sfo2) := w5
    rw [w5']
    simp only [ob5]
    rw [d2]
    rfl

