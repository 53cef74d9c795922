/-! equal, less, sum -/
def eqN (u v s d : Nat) : Nat := if s = 0 then (if dg d u = dg d v then 0 else 1) else 1
def cmpN (u v s d : Nat) : Nat := if s = 0 then (if dg d u = dg d v then 0 else if dg d v < dg d u then 2 else 1) else s
theorem start_is {rm w : Nat} (hr : rm ≤ 3600) (h32 : 32 ≤ rm) (hw : w ≤ 3600) (nx sy nt so fr : AI) : ∃ nx' sy' nt' so' fr', p_X4_start rm (nI rm) nx sy nt so fr (rm_of rm w) (nI w) = some (rm_of rm w, nI (rm_of rm w), nI w, nx', sy', nt', so', fr') := by
  obtain ⟨a, b, c, d, e, h⟩ := begin_dr hr h32 hw (Nat.le_refl w) nx sy nt so fr
  unfold p_X4_start
  rw [h]
  exact ⟨a, b, c, d, e, rfl⟩
theorem equal_columns {rm u v : Nat} (hr : rm ≤ 3600) (h2 : 2 ≤ rm) (hu : u < 3) (hv : v < 3) : ∀ (f l : Nat) (nx : AI), l ≤ 8 → 9 ≤ f + l → (∀ s d, s < 2 → d < l → nx (s * 8 + d) = nI (eqN u v s d)) → ∃ nx', p_X4_makeEqual_L8 (nI u) (nI v) rm (nI 2) f (nI l) nx = some nx' ∧ dm_N 2 (eqN u v) nx' := by
  intro f
  induction f with
  | zero => intro l nx h1 h2; omega
  | succ f ih =>
    intro l nx hl hf h
    rw [p_X4_makeEqual_L8, k_8, ite_le (by omega) (by omega)]
    by_cases h8 : 8 ≤ l
    · rw [if_pos h8]
      exact ⟨nx, rfl, fun s hs d hd => h s d hs (by omega)⟩
    · rw [if_neg h8, digitOf_is (by omega) (by omega), ob1_some, digitOf_is (by omega) (by omega), ob1_some, ob1_ft]
      have e : bI (!decide (nI (dg l u) = nI (dg l v))) = nI (eqN u v 0 l) := by
        have a := dg_lt l u
        have b := dg_lt l v
        unfold eqN
        rw [if_pos rfl]
        by_cases q : dg l u = dg l v
        · rw [if_pos q, q, decide_eq_true (rfl : nI (dg l v) = nI (dg l v))]; rfl
        · rw [if_neg q, decide_eq_false (fun z => q ((nI_eq (by omega) (by omega)).mp z))]; rfl
      rw [e, k_0, k_1, dwrite_is h2 hr (by omega) (by omega), ob1_some, dwrite_is h2 hr (by omega) (by omega), ob1_some, nI_add]
      refine ih (l + 1) _ (by omega) (by omega) (fun s d hs hd => ?_)
      rcases (show s = 0 ∨ s = 1 by omega) with rfl | rfl
      · by_cases hdl : d = l
        · rw [hdl, upd_ne _ _ (by omega), upd_self]
        · rw [upd_ne _ _ (by omega), upd_ne _ _ (by omega)]; exact h 0 d (by omega) (by omega)
      · by_cases hdl : d = l
        · rw [hdl, upd_self]; rfl
        · rw [upd_ne _ _ (by omega), upd_ne _ _ (by omega)]; exact h 1 d (by omega) (by omega)

theorem makeEqual_is {rm F : Nat} (hr : rm ≤ 3600) (h32 : 32 ≤ rm) (hF : 5000 ≤ F) {u v : Nat} (hu : u < 3) (hv : v < 3) (st kd od nx sy nt so fr tb cn cs : AI) (tn cz : Int32) :
    ∃ nx' sy' nt' so' fr', dm_N 2 (eqN u v) nx' ∧ mm_S 2 (fun s => decide (s = 0)) sy' ∧ ∀ r st' kd' od' so2 fr2 tb' tn' ct' cn' cs' cz', p_X1_reduceInto F (rm_of rm 2) st kd od (nI 2) nx' sy' so' fr' tb tn cn cs cz = some (r, st', kd', od', so2, fr2, tb', tn', ct', cn', cs', cz') → p_X4_makeEqual F rm st kd od (nI rm) nx sy nt so fr tb tn cn cs cz (rm_of rm 2) (nI u) (nI v) = some (r, rm_of rm 2, st', kd', od', nI (rm_of rm 2), nI 2, nx', sy', nt', so2, fr2, tb', tn', ct', cn', cs', cz') := by
  unfold p_X4_makeEqual
  obtain ⟨nx1, sy1, nt1, so1, fr1, e⟩ := start_is hr h32 (show 2 ≤ 3600 by omega) nx sy nt so fr
  obtain ⟨a1, a2, a3, a4⟩ := rm_of_le hr h32 (show 2 ≤ 3600 by omega)
  rw [show (2 : Int32) = nI 2 from rfl, e]
  simp only [ob8]
  obtain ⟨nx2, e2, q⟩ := equal_columns a3 a1 hu hv F 0 nx1 (by omega) (by omega) (fun s d _ h => by omega)
  rw [show (0 : Int32) = nI 0 from rfl, e2, ob1_some]
  have w1 := dwriteSays_is a1 a3 (show 0 < 2 by omega) sy1 true
  have w2 := dwriteSays_is a1 a3 (show 1 < 2 by omega) (upd sy1 0 (bI true)) false
  have w1' : p_X1_writeSays (rm_of rm 2) (nI 2) sy1 (nI 0) (1 : Int32) = some (upd sy1 0 (bI true)) := w1
  have w2' : p_X1_writeSays (rm_of rm 2) (nI 2) (upd sy1 0 (bI true)) (1 : Int32) (nI 0) = some (upd (upd sy1 0 (bI true)) 1 (bI false)) := w2
  rw [w1', ob1_some, w2', ob1_some]
  refine ⟨nx2, upd (upd sy1 0 (bI true)) 1 (bI false), nt1, so1, fr1, q, fun s hs => ?_, fun r st' kd' od' so2 fr2 tb' tn' ct' cn' cs' cz' h => ?_⟩
  · rcases (show s = 0 ∨ s = 1 by omega) with rfl | rfl
    · rw [upd_ne _ _ (by omega), upd_self]; rfl
    · rw [upd_self]; rfl
  · rw [h]
    rfl
theorem cmp_j {γ : Type} {a b : Nat} (ha : a < 2) (hb : b < 2) (k : Int32 → Option γ) : ob1 (if (nI a - nI b) = 0 then some (0 : Int32) else (if 0 ≤ (nI a - nI b) then some (2 : Int32) else some (1 : Int32))) k = k (nI (if a = b then 0 else if b < a then 2 else 1)) := by
  rcases (show a = 0 ∨ a = 1 by omega) with rfl | rfl <;> rcases (show b = 0 ∨ b = 1 by omega) with rfl | rfl <;> rfl
theorem less_columns {rm u v : Nat} (hr : rm ≤ 3600) (h2 : 3 ≤ rm) (hu : u < 3) (hv : v < 3) : ∀ (f l : Nat) (nx : AI), l ≤ 8 → 9 ≤ f + l → (∀ s d, s < 3 → d < l → nx (s * 8 + d) = nI (cmpN u v s d)) → ∃ nx', p_X4_makeLess_L8 (nI u) (nI v) rm (nI 3) f (nI l) nx = some nx' ∧ dm_N 3 (cmpN u v) nx' := by
  intro f
  induction f with
  | zero => intro l nx h1 h2; omega
  | succ f ih =>
    intro l nx hl hf h
    rw [p_X4_makeLess_L8, k_8, ite_le (by omega) (by omega)]
    by_cases h8 : 8 ≤ l
    · rw [if_pos h8]
      exact ⟨nx, rfl, fun s hs d hd => h s d hs (by omega)⟩
    · rw [if_neg h8, digitOf_is (by omega) (by omega), ob1_some, digitOf_is (by omega) (by omega), ob1_some, cmp_j (dg_lt l u) (dg_lt l v)]
      rw [show (0 : Int32) = nI 0 from rfl, show (1 : Int32) = nI 1 from rfl, show (2 : Int32) = nI 2 from rfl, dwrite_is h2 hr (by omega) (by omega), ob1_some, dwrite_is h2 hr (by omega) (by omega), ob1_some, dwrite_is h2 hr (by omega) (by omega), ob1_some, nI_add]
      refine ih (l + 1) _ (by omega) (by omega) (fun s d hs hd => ?_)
      by_cases hdl : d = l
      · subst hdl
        rcases (show s = 0 ∨ s = 1 ∨ s = 2 by omega) with rfl | rfl | rfl
        · rw [upd_ne _ _ (by omega), upd_ne _ _ (by omega), upd_self]; rfl
        · rw [upd_ne _ _ (by omega), upd_self]; rfl
        · rw [upd_self]; rfl
      · rw [upd_ne _ _ (by omega), upd_ne _ _ (by omega), upd_ne _ _ (by omega)]; exact h s d hs (by omega)
theorem less_says {rm : Nat} (hr : rm ≤ 3600) (h2 : 3 ≤ rm) : ∀ (f s : Nat) (sy : AI), s ≤ 3 → 4 ≤ f + s → (∀ t, t < s → sy t = bI (decide (t = 1))) → ∃ sy', p_X4_makeLess_L90 rm (nI 3) f (nI s) sy = some sy' ∧ mm_S 3 (fun t => decide (t = 1)) sy' := by
  intro f
  induction f with
  | zero => intro s sy h1 h2; omega
  | succ f ih =>
    intro s sy hs hf h
    rw [p_X4_makeLess_L90, k_3, ite_le (by omega) (by omega)]
    by_cases h3 : 3 ≤ s
    · rw [if_pos h3]
      exact ⟨sy, rfl, fun t ht => h t (by omega)⟩
    · rw [if_neg h3, ob1_tf, show decide (nI s = (1 : Int32)) = decide (s = 1) from by
        rw [show (1 : Int32) = nI 1 from rfl]
        exact decide_eq_decide.mpr (nI_eq (by omega) (by omega)), dwriteSays_is h2 hr (by omega), ob1_some, nI_1]
      refine ih (s + 1) _ (by omega) (by omega) (fun t ht => ?_)
      by_cases hts : t = s
      · rw [hts, upd_self]
      · rw [upd_ne _ _ hts]; exact h t (by omega)

theorem makeLess_is {rm F : Nat} (hr : rm ≤ 3600) (h32 : 32 ≤ rm) (hF : 5000 ≤ F) {u v : Nat} (hu : u < 3) (hv : v < 3) (st kd od nx sy nt so fr tb cn cs : AI) (tn cz : Int32) :
    ∃ nx' sy' nt' so' fr', dm_N 3 (cmpN u v) nx' ∧ mm_S 3 (fun s => decide (s = 1)) sy' ∧ ∀ r st' kd' od' so2 fr2 tb' tn' ct' cn' cs' cz', p_X1_reduceInto F (rm_of rm 3) st kd od (nI 3) nx' sy' so' fr' tb tn cn cs cz = some (r, st', kd', od', so2, fr2, tb', tn', ct', cn', cs', cz') → p_X4_makeLess F rm st kd od (nI rm) nx sy nt so fr tb tn cn cs cz (rm_of rm 3) (nI u) (nI v) = some (r, rm_of rm 3, st', kd', od', nI (rm_of rm 3), nI 3, nx', sy', nt', so2, fr2, tb', tn', ct', cn', cs', cz') := by
  unfold p_X4_makeLess
  obtain ⟨nx1, sy1, nt1, so1, fr1, e⟩ := start_is hr h32 (show 3 ≤ 3600 by omega) nx sy nt so fr
  obtain ⟨a1, a2, a3, a4⟩ := rm_of_le hr h32 (show 3 ≤ 3600 by omega)
  rw [k_3, e]
  simp only [ob8]
  obtain ⟨nx2, e2, q⟩ := less_columns a3 a1 hu hv F 0 nx1 (by omega) (by omega) (fun s d _ h => by omega)
  obtain ⟨sy2, e3, q2⟩ := less_says a3 a1 F 0 sy1 (by omega) (by omega) (fun s h => by omega)
  rw [k_0, e2, ob1_some, e3, ob1_some]
  refine ⟨nx2, sy2, nt1, so1, fr1, q, q2, fun r st' kd' od' so2 fr2 tb' tn' ct' cn' cs' cz' h => ?_⟩
  rw [h]
  rfl
theorem compares_columns {u v : Nat} (hu : u < 3) (hv : v < 3) : ∀ (f l : Nat) (nx : AI), l ≤ 8 → 9 ≤ f + l → (∀ s d, s < 3 → d < l → nx (8 * s + d) = nI (cmpN u v s d)) → ∃ nx', p_X10_compares_L8 (nI u) (nI v) f (nI l) nx = some nx' ∧ mm_N 3 (cmpN u v) nx' := by
  intro f
  induction f with
  | zero => intro l nx h1 h2; omega
  | succ f ih =>
    intro l nx hl hf h
    rw [p_X10_compares_L8, k_8, ite_le (by omega) (by omega)]
    by_cases h8 : 8 ≤ l
    · rw [if_pos h8]
      exact ⟨nx, rfl, fun s hs d hd => h s d hs (by omega)⟩
    · rw [if_neg h8, digit_is (by omega) (by omega), ob1_some, digit_is (by omega) (by omega), ob1_some, cmp_j (dg_lt l u) (dg_lt l v)]
      rw [show (0 : Int32) = nI 0 from rfl, show (1 : Int32) = nI 1 from rfl, show (2 : Int32) = nI 2 from rfl, leads_is (by omega) (by omega), ob1_some, leads_is (by omega) (by omega), ob1_some, leads_is (by omega) (by omega), ob1_some, nI_add]
      refine ih (l + 1) _ (by omega) (by omega) (fun s d hs hd => ?_)
      by_cases hdl : d = l
      · subst hdl
        rcases (show s = 0 ∨ s = 1 ∨ s = 2 by omega) with rfl | rfl | rfl
        · rw [upd_ne _ _ (by omega), upd_ne _ _ (by omega), upd_self]; rfl
        · rw [upd_ne _ _ (by omega), upd_self]; rfl
        · rw [upd_self]; rfl
      · rw [upd_ne _ _ (by omega), upd_ne _ _ (by omega), upd_ne _ _ (by omega)]; exact h s d hs (by omega)
theorem compares_says {a : Nat} (ha : a < 3) : ∀ (f s : Nat) (sy : AI), s ≤ 3 → 4 ≤ f + s → (∀ t, t < s → sy t = bI (decide (t = a))) → ∃ sy', p_X10_compares_L81 (nI a) f (nI s) sy = some sy' ∧ mm_S 3 (fun t => decide (t = a)) sy' := by
  intro f
  induction f with
  | zero => intro s sy h1 h2; omega
  | succ f ih =>
    intro s sy hs hf h
    rw [p_X10_compares_L81, k_3, ite_le (by omega) (by omega)]
    by_cases h3 : 3 ≤ s
    · rw [if_pos h3]
      exact ⟨sy, rfl, fun t ht => h t (by omega)⟩
    · rw [if_neg h3, ob1_tf, show decide (nI s = nI a) = decide (s = a) from decide_eq_decide.mpr (nI_eq (by omega) (by omega))]
      simp (disch := omega) only [gi_nI, nI_clamp, nI_1, bI_and]
      refine ih (s + 1) _ (by omega) (by omega) (fun t ht => ?_)
      by_cases hts : t = s
      · rw [hts, upd_self]
      · rw [upd_ne _ _ hts]; exact h t (by omega)
theorem compares_is {u v a F : Nat} (hu : u < 3) (hv : v < 3) (ha : a < 3) (hF : 5000 ≤ F) (mn mh : AI) : ∃ mn' mh', mm_N 3 (cmpN u v) mn' ∧ mm_S 3 (fun s => decide (s = a)) mh' ∧ ∀ k ko nx ho jd jn fi oo ca r ko' nx' ha' jd' jn' fi' oo' ca', p_X10_comes F ko nx ho (nI 3) mn' mh' jd jn fi oo ca (nI k) = some (r, ko', nx', ha', jd', jn', fi', oo', ca') → p_X10_compares F ko nx ho mn mh jd jn fi oo ca (nI k) (nI u) (nI v) (nI a) = some (r, ko', nx', ha', nI 3, mn', mh', jd', jn', fi', oo', ca') := by
  obtain ⟨mn', e1, q1⟩ := compares_columns hu hv F 0 mn (by omega) (by omega) (fun s d _ h => by omega)
  obtain ⟨mh', e2, q2⟩ := compares_says ha F 0 mh (by omega) (by omega) (fun s h => by omega)
  refine ⟨mn', mh', q1, q2, fun k ko nx ho jd jn fi oo ca r ko' nx' ha' jd' jn' fi' oo' ca' h => ?_⟩
  unfold p_X10_compares
  rw [k_0, e1, ob1_some, e2, ob1_some, k_3, h]
  rfl
theorem cmpN_lt {u v s d : Nat} (hs : s < 3) : cmpN u v s d < 3 := by
  unfold cmpN
  split
  · split
    · omega
    · split <;> omega
  · exact hs
theorem eqN_lt {u v s d : Nat} : eqN u v s d < 2 := by
  unfold eqN
  split
  · split <;> omega
  · omega
theorem eq_cmp {u v : Nat} : au_eq (eqN u v) (fun s => decide (s = 0)) 0 (cmpN u v) (fun s => decide (s = 0)) 0 := by
  refine au_bisim (fun a b => (a = 0 ∧ b = 0) ∨ (a = 1 ∧ (b = 1 ∨ b = 2))) ?_ (Or.inl ⟨rfl, rfl⟩)
  rintro a b (⟨rfl, rfl⟩ | ⟨rfl, rfl | rfl⟩)
  · refine ⟨rfl, fun c _ => ?_⟩
    by_cases q : dg c u = dg c v
    · left
      simp [eqN, cmpN, q]
    · right
      refine ⟨by simp [eqN, q], ?_⟩
      unfold cmpN
      rw [if_pos rfl, if_neg q]
      split <;> omega
  · exact ⟨rfl, fun c _ => Or.inr ⟨rfl, Or.inl rfl⟩⟩
  · exact ⟨rfl, fun c _ => Or.inr ⟨rfl, Or.inr rfl⟩⟩
