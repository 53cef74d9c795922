/-! sets of kinds as numbers; the class's numbering of sets, the model's -/
theorem wb_tb (n : Nat) : (lN n).toBitVec = BitVec.ofNat 64 n := rfl
theorem wb_inj {a b : Int64} (h : a.toBitVec = b.toBitVec) : a = b := Int64.toBitVec_inj.mp h
theorem wb_tn {n : Nat} (h : n < 2 ^ 64) : (lN n).toBitVec.toNat = n := by rw [wb_tb, BitVec.toNat_ofNat, Nat.mod_eq_of_lt h]
theorem wb_of (x : Int64) : ∃ n, n < 2 ^ 64 ∧ x = lN n := ⟨x.toBitVec.toNat, x.toBitVec.isLt, wb_inj (by rw [wb_tb]; simp)⟩
theorem wb_cu : ∀ k, k < 64 → ((nI k).toInt64.toUInt64 &&& Int64.toUInt64 63) = UInt64.ofNat k := by decide +kernel
theorem wb_shr {n k : Nat} (hn : n < 2 ^ 64) (hk : k < 64) : ((lN n).toUInt64 >>> ((nI k).toInt64.toUInt64 &&& Int64.toUInt64 63)).toInt64 = lN (n / 2 ^ k) := by
  rw [wb_cu k hk]
  apply wb_inj
  apply BitVec.eq_of_toNat_eq
  show ((lN n).toUInt64 >>> UInt64.ofNat k).toNat = (BitVec.ofNat 64 _).toNat
  have h1 : (UInt64.ofNat k).toNat = k := by
    show (BitVec.ofNat 64 k).toNat = k
    rw [BitVec.toNat_ofNat, Nat.mod_eq_of_lt (by omega)]
  have h2 : (lN n).toUInt64.toNat = n := wb_tn hn
  rw [UInt64.toNat_shiftRight, h1, h2, Nat.mod_eq_of_lt hk, Nat.shiftRight_eq_div_pow, BitVec.toNat_ofNat, Nat.mod_eq_of_lt (Nat.lt_of_le_of_lt (Nat.div_le_self _ _) hn)]
theorem pf_lI {a : Nat} (h : a < 2 ^ 63) : (lN a).toInt = (a : Int) := lg_ofNat_toInt h
theorem pf_shr {a d : Nat} {D : Int64} (hD : (D.toBitVec.smod 64).toNat = d) (h : a < 2 ^ 62) : lN a >>> D = lN (a / 2 ^ d) := by
  have hd : a / 2 ^ d ≤ a := Nat.div_le_self _ _
  apply Int64.toInt_inj.mp
  have e : (lN a >>> D).toInt = (lN a).toInt >>> d := by
    rw [← hD]
    exact BitVec.toInt_sshiftRight ..
  rw [e, Int.shiftRight_eq_div_pow, pf_lI (by omega), pf_lI (by omega)]
  rfl
theorem cmp0 (x y : Int64) : lg_cmp x y = 0 ↔ x = y := by
  unfold lg_cmp
  constructor
  · intro h
    by_cases h1 : x > y
    · rw [if_pos h1] at h; exact absurd h (by decide)
    · rw [if_neg h1] at h
      by_cases h2 : x = y
      · exact h2
      · rw [if_neg h2] at h; exact absurd h (by decide)
  · rintro rfl
    have h1 : ¬ x > x := Int64.lt_irrefl
    rw [if_neg h1, if_pos rfl]
theorem ite_cmp {α : Type} {x y : Int64} {a b : α} : (if lg_cmp x y = 0 then a else b) = if x = y then a else b := by
  by_cases h : x = y
  · rw [if_pos ((cmp0 x y).mpr h), if_pos h]
  · rw [if_neg (fun q => h ((cmp0 x y).mp q)), if_neg h]
theorem one_shl : ∀ x, x < 60 → ((1 : Int64) <<< ((nI x).toInt64 &&& (63 : Int64))) = lN (2 ^ x) := by decide +kernel
theorem q_sm : ∀ x, x < 60 → (((nI x).toInt64 &&& (63 : Int64)).toBitVec.smod 64).toNat = x := by decide +kernel
theorem q_bit {j x : Nat} (hj : j < 2 ^ 60) (hx : x < 60) : (lN j >>> ((nI x).toInt64 &&& (63 : Int64))) &&& (1 : Int64) = lN (if j.testBit x then 1 else 0) := by
  rw [pf_shr (q_sm x hx) (by omega), show (1 : Int64) = lN (2 ^ 1 - 1) from rfl, fb_maskL, Nat.testBit_eq_decide_div_mod_eq]
  have h2 : j / 2 ^ x % 2 ^ 1 < 2 := Nat.mod_lt _ (by decide)
  have h3 : j / 2 ^ x % 2 ^ 1 = j / 2 ^ x % 2 := rfl
  by_cases h : j / 2 ^ x % 2 = 1
  · rw [h3, if_pos (by rw [h]; rfl), h]
  · rw [h3, if_neg (by rw [decide_eq_false h]; decide), show j / 2 ^ x % 2 = 0 by omega]
theorem lN60 {a b : Nat} (ha : a < 2 ^ 60) (hb : b < 2 ^ 60) : lN a = lN b ↔ a = b := fb_lN_inj (by omega) (by omega)
theorem hash_in (x : Int64) : ∃ s, s < 1024 ∧ (((x.toUInt64 >>> ((54 : Int32).toInt64.toUInt64 &&& Int64.toUInt64 63)).toInt64).toInt32) = nI s := by
  obtain ⟨n, hn, rfl⟩ := wb_of x
  refine ⟨n / 2 ^ 54, by omega, ?_⟩
  have := wb_shr (k := 54) hn (by omega)
  have this2 : ((lN n).toUInt64 >>> ((54 : Int32).toInt64.toUInt64 &&& Int64.toUInt64 63)).toInt64 = lN (n / 2 ^ 54) := this
  rw [this2, lN_i]
noncomputable def qH (j : Nat) : Nat := Classical.choose (hash_in (lN j * (-7046029254386353131 : Int64)))
theorem qH_lt (j : Nat) : qH j < 1024 := (Classical.choose_spec (hash_in (lN j * (-7046029254386353131 : Int64)))).1
theorem qH_is (j : Nat) : ((((lN j * (-7046029254386353131 : Int64)).toUInt64 >>> ((54 : Int32).toInt64.toUInt64 &&& Int64.toUInt64 63)).toInt64).toInt32) = nI (qH j) := (Classical.choose_spec (hash_in (lN j * (-7046029254386353131 : Int64)))).2
def sn_at (b : bf_T) (sets : AL) : Prop := ∀ x, x < b.2.2 → sets x = lN (b.2.1 x) ∧ b.2.1 x < 2 ^ 60
def sn_ok (b : bf_T) (sets : AL) (slots : AI) : Prop := sn_at b sets ∧ (∀ i, i < 1024 → slots i = nI 0 ∨ ∃ x, x < b.2.2 ∧ slots i = nI (x + 1)) ∧ (∀ i i' x, i < 1024 → i' < 1024 → x < b.2.2 → slots i = nI (x + 1) → slots i' = nI (x + 1) → i = i') ∧ ∀ x, x < b.2.2 → ∃ d, d < 1024 ∧ slots ((qH (b.2.1 x) + d) % 1024) = nI (x + 1) ∧ ∀ e, e < d → slots ((qH (b.2.1 x) + e) % 1024) ≠ nI 0
section SN
variable {b : bf_T} {sets : AL} {slots : AI} {j : Nat}
theorem xsetOf_is {n x : Nat} (hn : n ≤ 300) (hx : x < n) : p_X7_setOf sets (nI n) (nI x) = some (sets x) := by
  unfold p_X7_setOf
  rw [if_neg (nI_pos (by omega)), ite_le (by omega) (by omega), if_neg (by omega)]
  simp (disch := omega) only [gi_nI, nI_clamp]
theorem sn_loop (hok : bf_ok b) (h : sn_ok b sets slots) (hb : b.2.2 ≤ 300) (hj : j < 2 ^ 60) : ∀ (f d : Nat), d ≤ 1024 → 1025 ≤ f + d → (∀ e, e < d → ∃ x, x < b.2.2 ∧ slots ((qH j + e) % 1024) = nI (x + 1) ∧ b.2.1 x ≠ j) →
    (b.1 j ≠ 0 ∧ p_X7_numberOf_L13 slots sets (nI b.2.2) (lN j) f (nI ((qH j + d) % 1024)) (nI d) = some (.inl (nI (b.1 j - 1), sets, slots, nI b.2.2))) ∨
    (b.1 j = 0 ∧ ∃ d', d' < 1024 ∧ slots ((qH j + d') % 1024) = nI 0 ∧ (∀ e, e < d' → slots ((qH j + e) % 1024) ≠ nI 0) ∧ p_X7_numberOf_L13 slots sets (nI b.2.2) (lN j) f (nI ((qH j + d) % 1024)) (nI d) = ob4 (p_X7_add sets slots (nI b.2.2) (lN j) (nI ((qH j + d') % 1024))) (fun r a c e => some (.inl (r, a, c, e)))) := by
  obtain ⟨h1, h2, h3, h4⟩ := h
  intro f
  induction f with
  | zero => intro d a1 a2; omega
  | succ f ih =>
    intro d hd hf hq
    by_cases hd1 : 1024 ≤ d
    · exfalso
      have hw : ∀ e, ∃ x, e < 1024 → x < b.2.2 ∧ slots ((qH j + e) % 1024) = nI (x + 1) := fun e => by
        by_cases he : e < 1024
        · obtain ⟨x, x1, x2, _⟩ := hq e (by omega)
          exact ⟨x, fun _ => ⟨x1, x2⟩⟩
        · exact ⟨0, fun q => absurd q he⟩
      have := ph_le (a := 1024) (c := b.2.2) (h := fun e => Classical.choose (hw e)) (fun e he => (Classical.choose_spec (hw e) he).1) (fun e e' he he' q => by
        have s1 := (Classical.choose_spec (hw e) he)
        have s2 := (Classical.choose_spec (hw e') he').2
        have q : Classical.choose (hw e) = Classical.choose (hw e') := q
        rw [← q] at s2
        have := h3 _ _ _ (Nat.mod_lt _ (by omega)) (Nat.mod_lt _ (by omega)) s1.1 s1.2 s2
        omega)
      omega
    · have hs : (qH j + d) % 1024 < 1024 := Nat.mod_lt _ (by omega)
      rw [p_X7_numberOf_L13, show (1024 : Int32) = nI 1024 from rfl, ite_le (by omega) (by omega), if_neg hd1]
      simp (disch := omega) only [gi_nI, nI_clamp]
      rcases h2 _ hs with hz | ⟨x, hx, hv⟩
      · rw [hz, if_pos (show nI 0 = (0 : Int32) from rfl)]
        refine Or.inr ⟨?_, d, by omega, hz, fun e he => ?_, rfl⟩
        · by_cases hb0 : b.1 j = 0
          · exact hb0
          · exfalso
            obtain ⟨v1, v2⟩ := (hok.2 j).resolve_left hb0
            obtain ⟨d0, g1, g2, g3⟩ := h4 _ v1
            rw [v2] at g2 g3
            rcases Nat.lt_trichotomy d d0 with q | q | q
            · exact g3 d q hz
            · rw [← q, hz] at g2
              have := (nI_eq (by omega) (by omega)).mp g2
              omega
            · obtain ⟨x, x1, x2, x3⟩ := hq d0 q
              rw [g2] at x2
              have := (nI_eq (by omega) (by omega)).mp x2
              have hx0 : x = b.1 j - 1 := by omega
              exact x3 (by rw [hx0]; exact v2)
        · obtain ⟨x, x1, x2, _⟩ := hq e he
          rw [x2]
          exact fun q => by have := (nI_eq (by omega) (by omega)).mp q; omega
      · obtain ⟨w1, w2⟩ := h1 x hx
        rw [hv, if_neg (nI_ne0 (by omega) (by omega)), nI_pred, xsetOf_is hb hx, ob1_some, ite_cmp, w1]
        by_cases hjx : b.2.1 x = j
        · have e := hok.1 x hx
          rw [hjx] at e
          rw [if_pos (by rw [hjx])]
          exact Or.inl ⟨by omega, by rw [e, Nat.add_sub_cancel]⟩
        · rw [if_neg (fun q => hjx ((lN60 w2 hj).mp q)), nI_1, pk_andN (by omega) 10 (by decide), nI_1, show ((qH j + d) % 1024 + 1) % 2 ^ 10 = (qH j + (d + 1)) % 1024 by omega]
          refine ih (d + 1) (by omega) (by omega) (fun e he => ?_)
          by_cases hed : e = d
          · rw [hed]; exact ⟨x, hx, hv, hjx⟩
          · exact hq e (by omega)
theorem xnumberOf_is {F : Nat} (hF : 5000 ≤ F) (hok : bf_ok b) (h : sn_ok b sets slots) (hb : b.2.2 ≤ 300) (hj : j < 2 ^ 60) :
    ((b.1 j ≠ 0 ∨ b.2.2 < 300) ∧ ∃ sets' slots', p_X7_numberOf F sets slots (nI b.2.2) (lN j) = some (nI ((bf_new j b).1 j - 1), sets', slots', nI (bf_new j b).2.2) ∧ sn_ok (bf_new j b) sets' slots') ∨
    (b.1 j = 0 ∧ b.2.2 = 300 ∧ p_X7_numberOf F sets slots (nI b.2.2) (lN j) = some ((-6 : Int32), sets, slots, nI b.2.2)) := by
  unfold p_X7_numberOf
  rw [qH_is]
  rcases sn_loop hok h hb hj F 0 (by omega) (by omega) (fun e he => by omega) with ⟨a1, a2⟩ | ⟨a1, d, hd, s0, s1, a2⟩
  · rw [Nat.add_zero, Nat.mod_eq_of_lt (qH_lt j)] at a2
    have a2' : p_X7_numberOf_L13 slots sets (nI b.2.2) (lN j) F (nI (qH j)) (0 : Int32) = _ := a2
    rw [a2']
    have e : bf_new j b = b := by unfold bf_new; rw [if_neg a1]
    rw [e]
    exact Or.inl ⟨Or.inl a1, sets, slots, rfl, h⟩
  · rw [Nat.add_zero, Nat.mod_eq_of_lt (qH_lt j)] at a2
    have a2' : p_X7_numberOf_L13 slots sets (nI b.2.2) (lN j) F (nI (qH j)) (0 : Int32) = _ := a2
    rw [a2']
    generalize hs : (qH j + d) % 1024 = s at s0
    have hs2 : s < 1024 := by rw [← hs]; exact Nat.mod_lt _ (by omega)
    unfold p_X7_add
    rw [k_300, ite_le (by omega) (by omega)]
    by_cases h3 : 300 ≤ b.2.2
    · rw [if_pos h3]
      exact Or.inr ⟨a1, by omega, rfl⟩
    · rw [if_neg h3, if_neg (nI_pos (by omega)), show (1024 : Int32) = nI 1024 from rfl, ite_lt (by omega) (by omega), if_pos hs2]
      simp (disch := omega) only [gi_nI, nI_clamp, nI_1]
      rw [nI_pred]
      have en : bf_new j b = (va_up b.1 j (b.2.2 + 1), va_up b.2.1 b.2.2 j, b.2.2 + 1) := by unfold bf_new; rw [if_pos a1]
      have em : (bf_new j b).2.2 = b.2.2 + 1 := by rw [en]
      have o : (bf_new j b).1 j = b.2.2 + 1 := by rw [en]; exact va_up_self _ _ _
      have oc : (bf_new j b).2.1 b.2.2 = j := by rw [en]; exact va_up_self _ _ _
      rw [em, o, Nat.add_sub_cancel]
      obtain ⟨h1, h2, h4, h5⟩ := h
      refine Or.inl ⟨Or.inr (by omega), _, _, rfl, fun x hx => ?_, fun i hi => ?_, fun i i' x hi hi' hx e1 e2 => ?_, fun x hx => ?_⟩
      · rw [em] at hx
        by_cases hxx : x = b.2.2
        · rw [hxx, pk_uLs, oc]; exact ⟨rfl, hj⟩
        · rw [pk_uLn hxx, bf_new_cls (by omega)]; exact h1 x (by omega)
      · rw [em]
        by_cases his : i = s
        · rw [his, upd_self]; exact Or.inr ⟨b.2.2, by omega, rfl⟩
        · rw [upd_ne _ _ his]
          rcases h2 i hi with q | ⟨x, x1, x2⟩
          · exact Or.inl q
          · exact Or.inr ⟨x, by omega, x2⟩
      · rw [em] at hx
        by_cases hxx : x = b.2.2
        · have key : ∀ i, i < 1024 → upd slots s (nI (b.2.2 + 1)) i = nI (x + 1) → i = s := by
            intro i hi e
            by_cases his : i = s
            · exact his
            · exfalso
              rw [upd_ne _ _ his, hxx] at e
              rcases h2 i hi with q | ⟨y, y1, y2⟩
              · rw [e] at q
                have := (nI_eq (by omega) (by omega)).mp q
                omega
              · rw [e] at y2
                have := (nI_eq (by omega) (by omega)).mp y2
                omega
          rw [key i hi e1, key i' hi' e2]
        · have key : ∀ i, i < 1024 → upd slots s (nI (b.2.2 + 1)) i = nI (x + 1) → slots i = nI (x + 1) := by
            intro i hi e
            by_cases his : i = s
            · exfalso
              rw [his, upd_self] at e
              have := (nI_eq (by omega) (by omega)).mp e
              omega
            · rw [upd_ne _ _ his] at e; exact e
          exact h4 i i' x hi hi' (by omega) (key i hi e1) (key i' hi' e2)
      · rw [em] at hx
        have nz : ∀ i, slots i ≠ nI 0 → upd slots s (nI (b.2.2 + 1)) i ≠ nI 0 := by
          intro i hi
          by_cases his : i = s
          · rw [his, upd_self]
            exact fun q => by have := (nI_eq (by omega) (by omega)).mp q; omega
          · rw [upd_ne _ _ his]; exact hi
        by_cases hxx : x = b.2.2
        · rw [hxx, oc]
          refine ⟨d, hd, by rw [hs, upd_self], fun e he => nz _ (s1 e he)⟩
        · rw [bf_new_cls (by omega)]
          obtain ⟨d0, g1, g2, g3⟩ := h5 x (by omega)
          refine ⟨d0, g1, ?_, fun e he => nz _ (g3 e he)⟩
          rw [upd_ne]
          · exact g2
          · intro q
            rw [q, s0] at g2
            have := (nI_eq (by omega) (by omega)).mp g2
            omega
theorem xstateFor_is {F rm : Nat} (hF : 5000 ≤ F) (hok : bf_ok b) (h : sn_ok b sets slots) (hb : b.2.2 ≤ 300) (hj : j < 2 ^ 60) (hr3 : 300 ≤ rm) (hr : rm ≤ 3600) :
    ((bf_new j b).2.2 ≤ 300 ∧ ∃ sets' slots', p_X6_stateFor F sets slots (nI b.2.2) (nI rm) (nI b.2.2) (lN j) = some (nI ((bf_new j b).1 j - 1), sets', slots', nI (bf_new j b).2.2, nI (bf_new j b).2.2) ∧ sn_ok (bf_new j b) sets' slots') ∨
    ((bf_new j b).2.2 = 301 ∧ p_X6_stateFor F sets slots (nI b.2.2) (nI rm) (nI b.2.2) (lN j) = some ((-6 : Int32), sets, slots, nI b.2.2, nI b.2.2)) := by
  unfold p_X6_stateFor p_X1_count
  rcases xnumberOf_is hF hok h hb hj with ⟨a1, sets', slots', e, q⟩ | ⟨a1, a2, e⟩
  · rw [e]
    simp only [ob4, ob1_some]
    by_cases hz : b.1 j = 0
    · have en : bf_new j b = (va_up b.1 j (b.2.2 + 1), va_up b.2.1 b.2.2 j, b.2.2 + 1) := by unfold bf_new; rw [if_pos hz]
      have em : (bf_new j b).2.2 = b.2.2 + 1 := by rw [en]
      have o : (bf_new j b).1 j = b.2.2 + 1 := by rw [en]; exact va_up_self _ _ _
      have hl := a1.resolve_left (fun q => q hz)
      rw [em, o, Nat.add_sub_cancel, if_pos rfl]
      unfold p_X1_add
      rw [ite_le (by omega) (by omega), if_neg (by omega), ob1_some, ob1_some, nI_1]
      exact Or.inl ⟨by omega, sets', slots', rfl, q⟩
    · have en : bf_new j b = b := by unfold bf_new; rw [if_neg hz]
      have hb2 := (hok.2 j).resolve_left hz
      rw [en] at q ⊢
      rw [ite_eq (by omega) (by omega), if_neg (by omega), ob1_some]
      exact Or.inl ⟨hb, sets', slots', rfl, q⟩
  · rw [e]
    simp only [ob4, ob1_some]
    have em : (bf_new j b).2.2 = b.2.2 + 1 := by unfold bf_new; rw [if_pos a1]
    rw [if_neg (by rw [a2]; decide), ob1_some]
    exact Or.inr ⟨by omega, rfl⟩
theorem msetOf_loop (hok : bf_ok b) (h : sn_at b sets) (hb : b.2.2 ≤ 300) (hj : j < 2 ^ 60) : ∀ (f x : Nat), x ≤ b.2.2 → b.2.2 + 1 ≤ f + x → (∀ y, y < x → b.2.1 y ≠ j) → (b.1 j ≠ 0 ∧ p_X10_setOf_L2 (nI b.2.2) sets (lN j) f (nI x) = some (.inl (nI (b.1 j - 1), nI b.2.2, sets))) ∨ (b.1 j = 0 ∧ p_X10_setOf_L2 (nI b.2.2) sets (lN j) f (nI x) = some (.inr ())) := by
  intro f
  induction f with
  | zero => intro x h1 h2; omega
  | succ f ih =>
    intro x hx hf hq
    rw [p_X10_setOf_L2, ite_le (by omega) (by omega)]
    by_cases hmx : b.2.2 ≤ x
    · rw [if_pos hmx]
      refine Or.inr ⟨?_, rfl⟩
      by_cases hb0 : b.1 j = 0
      · exact hb0
      · obtain ⟨v1, v2⟩ := (hok.2 j).resolve_left hb0
        exact absurd v2 (hq _ (by omega))
    · obtain ⟨w1, w2⟩ := h x (by omega)
      rw [if_neg hmx]
      simp (disch := omega) only [gi_nI, nI_clamp]
      rw [ite_cmp, w1]
      by_cases hjx : b.2.1 x = j
      · have e := hok.1 x (by omega)
        rw [hjx] at e
        rw [if_pos (by rw [hjx]), e, Nat.add_sub_cancel]
        exact Or.inl ⟨by omega, rfl⟩
      · rw [if_neg (fun q => hjx ((lN60 w2 hj).mp q)), nI_1]
        refine ih (x + 1) (by omega) (by omega) (fun y hy => ?_)
        by_cases hyx : y = x
        · rw [hyx]; exact hjx
        · exact hq y (by omega)
theorem msetOf_is {F : Nat} (hF : 5000 ≤ F) (hok : bf_ok b) (h : sn_at b sets) (hb : b.2.2 ≤ 300) (hj : j < 2 ^ 60) :
    ((bf_new j b).2.2 ≤ 300 ∧ ∃ sets', p_X10_setOf F (nI b.2.2) sets (lN j) = some (nI ((bf_new j b).1 j - 1), nI (bf_new j b).2.2, sets') ∧ sn_at (bf_new j b) sets') ∨
    ((bf_new j b).2.2 = 301 ∧ p_X10_setOf F (nI b.2.2) sets (lN j) = some ((-9 : Int32), nI b.2.2, sets)) := by
  unfold p_X10_setOf
  rw [k_0]
  rcases msetOf_loop hok h hb hj F 0 (by omega) (by omega) (fun y hy => by omega) with ⟨a1, a2⟩ | ⟨a1, a2⟩
  · rw [a2]
    have en : bf_new j b = b := by unfold bf_new; rw [if_neg a1]
    rw [en]
    exact Or.inl ⟨hb, sets, rfl, h⟩
  · rw [a2]
    simp only [obS0]
    have en : bf_new j b = (va_up b.1 j (b.2.2 + 1), va_up b.2.1 b.2.2 j, b.2.2 + 1) := by unfold bf_new; rw [if_pos a1]
    have em : (bf_new j b).2.2 = b.2.2 + 1 := by rw [en]
    have o : (bf_new j b).1 j = b.2.2 + 1 := by rw [en]; exact va_up_self _ _ _
    have oc : (bf_new j b).2.1 b.2.2 = j := by rw [en]; exact va_up_self _ _ _
    rw [k_300, ite_eq (by omega) (by omega)]
    by_cases h3 : b.2.2 = 300
    · rw [if_pos h3]
      exact Or.inr ⟨by omega, rfl⟩
    · rw [if_neg h3]
      simp (disch := omega) only [gi_nI, nI_clamp, nI_1]
      rw [nI_pred, em, o, Nat.add_sub_cancel]
      refine Or.inl ⟨by omega, _, rfl, fun x hx => ?_⟩
      rw [em] at hx
      by_cases hxx : x = b.2.2
      · rw [hxx, pk_uLs, oc]; exact ⟨rfl, hj⟩
      · rw [pk_uLn hxx, bf_new_cls (by omega)]; exact h x (by omega)
end SN
