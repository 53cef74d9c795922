/-! the row, and what is simply told -/
theorem there_dec {fn fs : AF} {fz ko nxo ha : AI} (hcl : rl_cls fn fs fz ko nxo ha) {k : Nat} (hk : k < 6) :
    (p_X9_isThere fz (nI k) = some 0 ∧ p_X10_isThere ko (nI k) = some 0 ∧ fz k = nI 0 ∧ ko k = nI 0) ∨
    (∃ m N S, 0 < m ∧ m ≤ 60 ∧ p_X9_isThere fz (nI k) = some 1 ∧ p_X10_isThere ko (nI k) = some 1 ∧ fz k = nI m ∧ ko k = nI m ∧ au_can m N S ∧ ct_at m N S (fn k) (fs k) ∧ mt_at k m N S nxo ha) := by
  obtain ⟨m, N, S, h1, h2, h3, h4⟩ := hcl k hk
  have hc : p_X9_isClaim (nI k) = some 1 := by
    rcases isClaim_dec (nI k) with ⟨a, b⟩ | ⟨j, hj, e, a, b⟩
    · exfalso
      unfold p_X9_isClaim at a
      rw [if_neg (nI_pos (by omega)), show (6 : Int32) = nI 6 from rfl, ite_le (by omega) (by omega), if_neg (by omega), gb_in _ (by decide)] at a
      cases a
    · exact a
  unfold p_X9_isThere p_X10_isThere p_X0_size
  rw [hc]
  by_cases hm : 0 < m
  · right
    refine ⟨m, N, S, hm, h3, ?_, ?_, h1, h2, h4 hm⟩
    · rw [ob1_some, if_neg (by decide)]
      simp (disch := omega) only [gi_nI, nI_clamp, h1, ob1_some]
      rw [if_neg (nI_nle hm (by omega)), gb_in _ (by decide)]
    · simp (disch := omega) only [gi_nI, nI_clamp, h2]
      rw [if_neg (nI_nle hm (by omega)), gb_in _ (by decide)]
  · left
    have : m = 0 := by omega
    subst this
    refine ⟨?_, ?_, h1, h2⟩
    · rw [ob1_some, if_neg (by decide)]
      simp (disch := omega) only [gi_nI, nI_clamp, h1, ob1_some]
      rw [if_pos (by decide), gb_in _ (by decide)]
    · simp (disch := omega) only [gi_nI, nI_clamp, h2]
      rw [if_pos (by decide), gb_in _ (by decide)]
theorem op_kinds {fn fs : AF} {fz ko nxo ha : AI} (hcl : rl_cls fn fs fz ko nxo ha) (v1 : Int32) : ∃ r, p_X9_kinds fz v1 = some r ∧ p_X10_kinds ko v1 = some r := by
  unfold p_X9_kinds p_X10_kinds
  rcases isClaim_dec v1 with ⟨a1, a2⟩ | ⟨k, hk, rfl, a1, a2⟩
  · rw [a1, a2]
    exact ⟨-1, rfl, rfl⟩
  · rw [a1, a2]
    rcases there_dec hcl hk with ⟨b1, b2, b3, b4⟩ | ⟨m, N, S, hm, h60, b1, b2, b3, b4, _⟩
    · rw [b1, b2]
      exact ⟨-3, rfl, rfl⟩
    · rw [b1, b2]
      unfold p_X0_size
      simp (disch := omega) only [ob1_some, gi_nI, nI_clamp, b3, b4]
      rw [if_neg (by decide), if_neg (by decide)]
      exact ⟨nI m, rfl, rfl⟩
theorem op_drop {fn fs : AF} {fz ko nxo ha : AI} (hcl : rl_cls fn fs fz ko nxo ha) (v1 : Int32) : ∃ r fz' ko', p_X9_drop fz v1 = some (r, fz') ∧ p_X10_drop ko v1 = some (r, ko') ∧ rl_cls fn fs fz' ko' nxo ha := by
  unfold p_X9_drop p_X10_drop
  rcases isClaim_dec v1 with ⟨a1, a2⟩ | ⟨k, hk, rfl, a1, a2⟩
  · rw [a1, a2]
    exact ⟨-1, fz, ko, rfl, rfl, hcl⟩
  · rw [a1, a2]
    rcases there_dec hcl hk with ⟨b1, b2, b3, b4⟩ | ⟨m, N, S, hm, h60, b1, b2, b3, b4, _⟩
    · rw [b1, b2]
      exact ⟨-3, fz, ko, rfl, rfl, hcl⟩
    · rw [b1, b2]
      unfold p_X0_size
      have hb : p_X0_begin 0 = some (nI 0) := begin_is (m := 0) (by omega)
      simp (disch := omega) only [ob1_some, gi_nI, nI_clamp, b3, b4, hb]
      rw [if_neg (by decide), if_neg (by decide)]
      refine ⟨nI m, _, _, rfl, rfl, ?_⟩
      have h := rl_put (k := k) (m := 0) (nx := fn k) (sy := fs k) (N := N) (S := S) hcl (by omega) ⟨fun _ _ => rfl, fun _ _ => rfl⟩ (fun h => by omega)
      rw [va_upid, va_upid] at h
      exact h
theorem many_loop {fn fs : AF} {fz ko nxo ha : AI} (hcl : rl_cls fn fs fz ko nxo ha) {w : Nat} (hw : w ≤ 1) : ∀ (f k : Nat) (c : Int32), k ≤ 6 → 7 ≤ f + k → ∃ r, p_X9_many_L16 (nI w) fz f c (nI k) = some r ∧ p_X10_many_L16 (nI w) ko f c (nI k) = some r := by
  intro f
  induction f with
  | zero => intro k c h1 h2; omega
  | succ f ih =>
    intro k c hk hf
    rw [p_X9_many_L16, p_X10_many_L16, show (6 : Int32) = nI 6 from rfl, ite_le (by omega) (by omega), ite_le (by omega) (by omega)]
    by_cases h6 : 6 ≤ k
    · rw [if_pos h6, if_pos h6]
      exact ⟨c, rfl, rfl⟩
    · rw [if_neg h6, if_neg h6]
      have hth := there_dec hcl (show k < 6 by omega)
      by_cases hw1 : w = 1
      · subst hw1
        rw [if_pos (show nI 1 = (1 : Int32) from rfl), if_pos (show nI 1 = (1 : Int32) from rfl)]
        rcases hth with ⟨b1, b2, b3, b4⟩ | ⟨m, N, S, hm, h60, b1, b2, b3, b4, _⟩
        · unfold p_X0_size
          simp (disch := omega) only [ob1_some, gi_nI, nI_clamp, b3, b4, nI_1]
          exact ih (k + 1) _ (by omega) (by omega)
        · unfold p_X0_size
          simp (disch := omega) only [ob1_some, gi_nI, nI_clamp, b3, b4, nI_1]
          exact ih (k + 1) _ (by omega) (by omega)
      · have hw0 : w = 0 := by omega
        subst hw0
        rw [if_neg (by decide), if_neg (by decide), nI_1]
        rcases hth with ⟨b1, b2, b3, b4⟩ | ⟨m, N, S, hm, h60, b1, b2, b3, b4, _⟩
        · rw [b1, b2]
          have e : c + (0 : Int32) = c := by simp
          obtain ⟨r, q1, q2⟩ := ih (k + 1) c (by omega) (by omega)
          refine ⟨r, q1, ?_⟩
          show p_X10_many_L16 (nI 0) ko f (c + 0) (nI (k + 1)) = some r
          rw [e]; exact q2
        · rw [b1, b2]
          exact ih (k + 1) (c + 1) (by omega) (by omega)
theorem op_many {fn fs : AF} {fz ko nxo ha : AI} {F : Nat} (hF : 5000 ≤ F) (hcl : rl_cls fn fs fz ko nxo ha) (v1 : Int32) : ∃ r, p_X9_many F fz v1 = some r ∧ p_X10_many F ko v1 = some r := by
  unfold p_X9_many p_X10_many
  rw [show (1 : Int32) = nI 1 from rfl]
  rcases within_is v1 (n := 1) (by omega) with ⟨b, b2⟩ | ⟨w, hw, rfl, b⟩
  · rw [b]
    refine ⟨-2, ?_, rfl⟩
    by_cases h0 : v1 < 0
    · rw [if_pos h0]
    · rcases b2 with q | q
      · exact absurd q h0
      · rw [if_neg h0, if_neg (fun z => by
          have a := Int32.lt_iff_toInt_lt.mp q
          have c := Int32.le_iff_toInt_le.mp z
          omega)]
  · rw [b, if_neg (nI_pos (by omega)), if_pos (nI_le hw (by omega))]
    obtain ⟨r, q1, q2⟩ := many_loop hcl hw F 0 0 (by omega) (by omega)
    refine ⟨r, ?_, ?_⟩
    · rw [show (0 : Int32) = nI 0 from rfl] at q1 ⊢
      rw [q1]; rfl
    · show ob1 (p_X10_many_L16 (nI w) ko F 0 0) _ = _
      rw [show (0 : Int32) = nI 0 from rfl] at q2 ⊢
      rw [q2]; rfl
theorem op_place {goes told onBy toldBy : AI} (h : rl_row goes told onBy toldBy) (v1 v2 v3 v4 : Int32) : ∃ r goes' told' onBy' toldBy', p_X9_place goes told v1 v2 v3 v4 = some (r, goes', told') ∧ p_X10_place onBy toldBy v1 v2 v3 v4 = some (r, onBy', toldBy') ∧ rl_row goes' told' onBy' toldBy' := by
  unfold p_X9_place p_X10_place
  rcases isPlace_dec v1 with ⟨a1, a2⟩ | ⟨p, hp, rfl, a1, a2⟩
  · rw [a1, a2]; exact ⟨-1, goes, told, onBy, toldBy, rfl, rfl, h⟩
  rcases isPlace_dec v2 with ⟨b1, b2⟩ | ⟨z, hz, rfl, b1, b2⟩
  · rw [a1, a2, b1, b2]; exact ⟨-1, goes, told, onBy, toldBy, rfl, rfl, h⟩
  rcases isPlace_dec v3 with ⟨c1, c2⟩ | ⟨o, ho, rfl, c1, c2⟩
  · rw [a1, a2, b1, b2, c1, c2]; exact ⟨-1, goes, told, onBy, toldBy, rfl, rfl, h⟩
  rcases isTelling_dec v4 with ⟨d1, d2⟩ | ⟨t, ht, rfl, d1, d2⟩
  · rw [a1, a2, b1, b2, c1, c2, d1, d2]; exact ⟨-2, goes, told, onBy, toldBy, rfl, rfl, h⟩
  have hput : p_X5_put goes told (nI p) (nI z) (nI o) (nI t) = some (upd (upd goes (2 * p) (nI z)) (2 * p + 1) (nI o), upd told p (nI t)) := by
    unfold p_X5_put
    rw [a1, ob1_some, if_neg (by decide), show (2 : Int32) = nI 2 from rfl]
    simp (disch := omega) only [pk_mul, nI_1, gi_nI, nI_clamp]
    rw [show p * 2 = 2 * p by omega]
  have hrow : (p = 0 → z = 0) → rl_row (upd (upd goes (2 * p) (nI z)) (2 * p + 1) (nI o)) (upd told p (nI t)) (upd (upd onBy (2 * p) (nI z)) (2 * p + 1) (nI o)) (upd toldBy p (nI t)) := by
    intro hpz
    refine ⟨fun i hi => ?_, fun i hi => ?_, ?_⟩
    · by_cases q1 : i = 2 * p + 1
      · rw [q1, upd_self, upd_self]; exact ⟨rfl, o, ho, rfl⟩
      · rw [upd_ne _ _ q1, upd_ne _ _ q1]
        by_cases q2 : i = 2 * p
        · rw [q2, upd_self, upd_self]; exact ⟨rfl, z, hz, rfl⟩
        · rw [upd_ne _ _ q2, upd_ne _ _ q2]; exact h.1 i hi
    · by_cases q1 : i = p
      · rw [q1, upd_self, upd_self]; exact ⟨rfl, t, ht, rfl⟩
      · rw [upd_ne _ _ q1, upd_ne _ _ q1]; exact h.2.1 i hi
    · rw [upd_ne _ _ (by omega)]
      by_cases q : p = 0
      · rw [q, hpz q]; exact upd_self _ _ _
      · rw [upd_ne _ _ (by omega)]; exact h.2.2
  rw [a1, a2, b1, b2, c1, c2, d1, d2, hput]
  have h2p : (2 : Int32) * nI p = nI (2 * p) := by rw [show (2 : Int32) = nI 2 from rfl, pk_mul]
  have hp0 : (nI p = 0) ↔ p = 0 := by rw [show (0 : Int32) = nI 0 from rfl]; exact nI_eq (by omega) (by omega)
  have hz0 : (nI z = 0) ↔ z = 0 := by rw [show (0 : Int32) = nI 0 from rfl]; exact nI_eq (by omega) (by omega)
  simp (disch := omega) only [ob1_some, if_neg (show ¬ (1 : Int32) = 0 by decide), h2p, nI_1, gi_nI, nI_clamp, ob2_some, hp0, hz0]
  by_cases q : p = 0
  · rw [if_pos q, if_pos q]
    by_cases q2 : z = 0
    · rw [if_pos q2, if_pos q2]
      exact ⟨_, _, _, _, _, rfl, rfl, hrow (fun _ => q2)⟩
    · rw [if_neg q2, if_neg q2]
      exact ⟨_, _, _, _, _, rfl, rfl, h⟩
  · rw [if_neg q, if_neg q]
    exact ⟨_, _, _, _, _, rfl, rfl, hrow (fun z => absurd z q)⟩
theorem isPlace_yes {p : Nat} (hp : p < 5) : p_X9_isPlace (nI p) = some 1 := by
  unfold p_X9_isPlace
  rw [if_neg (nI_pos (by omega)), show (5 : Int32) = nI 5 from rfl, ite_le (by omega) (by omega), if_neg (by omega), gb_in _ (by decide)]
theorem goesOn_is {goes : AI} {p d : Nat} (hp : p < 5) (hd : d < 2) : p_X5_goesOn goes (nI p) (nI d) = some (goes (2 * p + d)) := by
  unfold p_X5_goesOn
  rw [isPlace_yes hp, ob1_some, if_neg (by decide), show (2 : Int32) = nI 2 from rfl]
  simp (disch := omega) only [pk_mul, nI_add, gi_nI, nI_clamp]
  rw [show p * 2 + d = 2 * p + d by omega]
  rcases (show d = 0 ∨ d = 1 by omega) with rfl | rfl
  · rw [if_pos (by decide)]
  · rw [if_neg (by decide), if_pos (by decide)]
theorem toldAt_is {told : AI} {p : Nat} (hp : p < 5) : p_X5_toldAt told (nI p) = some (told p) := by
  unfold p_X5_toldAt
  rw [isPlace_yes hp, ob1_some, if_neg (by decide)]
  simp (disch := omega) only [gi_nI, nI_clamp]
theorem op_ofPlace {goes told onBy toldBy : AI} (h : rl_row goes told onBy toldBy) (v1 v2 : Int32) : ∃ r, p_X9_ofPlace goes told v1 v2 = some r ∧ p_X10_ofPlace onBy toldBy v1 v2 = some r := by
  unfold p_X9_ofPlace p_X10_ofPlace
  rcases isPlace_dec v1 with ⟨a1, a2⟩ | ⟨p, hp, rfl, a1, a2⟩
  · rw [a1, a2]; exact ⟨-1, rfl, rfl⟩
  rw [a1, a2]
  simp only [ob1_some, if_neg (show ¬ (1 : Int32) = 0 by decide)]
  rcases (show (p_X10_within v2 0 2 = some 0 ∧ (v2 < 0 ∨ (2 : Int32) < v2)) ∨ ∃ j, j ≤ 2 ∧ v2 = nI j ∧ p_X10_within v2 0 2 = some 1 from within_is v2 (n := 2) (by omega)) with ⟨b, b2⟩ | ⟨w, hw, rfl, b⟩
  · rw [b]
    refine ⟨-2, ?_, rfl⟩
    by_cases h0 : v2 < 0
    · rw [if_pos h0]
    · rcases b2 with q | q
      · exact absurd q h0
      · rw [if_neg h0, if_neg (fun z => by
          have a := Int32.lt_iff_toInt_lt.mp q
          have c := Int32.le_iff_toInt_le.mp z
          omega)]
  · have hw2 : (nI w = (2 : Int32)) ↔ w = 2 := by rw [show (2 : Int32) = nI 2 from rfl]; exact nI_eq (by omega) (by omega)
    have h2p : (2 : Int32) * nI p = nI (2 * p) := by rw [show (2 : Int32) = nI 2 from rfl, pk_mul]
    rw [b, if_neg (nI_pos (by omega)), if_pos (show nI w ≤ (2 : Int32) from nI_le (b := 2) hw (by omega))]
    simp only [ob1_some, if_neg (show ¬ (1 : Int32) = 0 by decide), hw2, h2p]
    by_cases q : w = 2
    · rw [if_pos q, if_pos q, toldAt_is hp]
      simp (disch := omega) only [gi_nI, nI_clamp]
      exact ⟨_, rfl, by rw [(h.2.1 p hp).1]⟩
    · rw [if_neg q, if_neg q, goesOn_is hp (by omega)]
      simp (disch := omega) only [pk_mul, nI_add, gi_nI, nI_clamp]
      exact ⟨_, rfl, by rw [(h.1 (2 * p + w) (by omega)).1]⟩
theorem row_loop {goes told onBy toldBy : AI} (h : rl_row goes told onBy toldBy) {j : Nat} (hj : j < 2 ^ 31) : ∀ (f b p : Nat), b ≤ 30 → b + 1 ≤ f → p < 5 → ∃ q, q < 5 ∧ p_X5_toldOf_L5 goes (nI j) f (nI p) (nI b + (-1)) = some (nI q) ∧ p_X10_row_L18 (nI j) onBy f (nI p) (nI b + (-1)) = some (nI q) := by
  intro f
  induction f with
  | zero => intro b p h1 h2; omega
  | succ f ih =>
    intro b p hb hf hp
    rw [p_X5_toldOf_L5, p_X10_row_L18]
    by_cases hb0 : b = 0
    · subst hb0
      rw [if_pos (by decide), if_pos (by decide)]
      exact ⟨p, hp, rfl, rfl⟩
    · obtain ⟨e, rfl⟩ : ∃ e, b = e + 1 := ⟨b - 1, by omega⟩
      rw [pk_m1, if_neg (nI_pos (by omega)), if_neg (nI_pos (by omega)), shr_u hj (by omega), and_1 (Nat.lt_of_le_of_lt (Nat.div_le_self _ _) hj)]
      have hd : j / 2 ^ e % 2 < 2 := Nat.mod_lt _ (by omega)
      rw [goesOn_is hp hd, ob1_some, show (2 : Int32) = nI 2 from rfl]
      simp (disch := omega) only [pk_mul, nI_add, gi_nI, nI_clamp]
      obtain ⟨q1, x, hx, q2⟩ := h.1 (2 * p + j / 2 ^ e % 2) (by omega)
      rw [q1, q2]
      exact ih e x (by omega) (by omega) hx
theorem op_row {goes told onBy toldBy : AI} {F : Nat} (hF : 5000 ≤ F) (h : rl_row goes told onBy toldBy) (v1 : Int32) : ∃ r, p_X9_row F goes told v1 = some r ∧ p_X10_row F onBy toldBy v1 = some r := by
  unfold p_X9_row p_X10_row
  rcases isTold_dec v1 with ⟨a1, a2⟩ | ⟨j, hj, rfl, a1, a2⟩
  · rw [a1, a2]; exact ⟨-2, rfl, rfl⟩
  rw [a1, a2, ob1_some, ob1_some, if_neg (by decide), if_neg (by decide)]
  obtain ⟨q, hq, e1, e2⟩ := row_loop h (j := j) (by omega) F 30 0 (by omega) (by omega) (by omega)
  have e1' : p_X5_toldOf_L5 goes (nI j) F 0 29 = some (nI q) := e1
  have e2' : p_X10_row_L18 (nI j) onBy F 0 29 = some (nI q) := e2
  unfold p_X5_toldOf
  rw [e1', e2', ob1_some, ob1_some, toldAt_is hq]
  simp (disch := omega) only [gi_nI, nI_clamp]
  exact ⟨_, rfl, by rw [(h.2.1 q hq).1]⟩
