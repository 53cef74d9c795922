/-! numbers of the pure functions as natural numbers -/
def bI (b : Bool) : Int32 := if b then 1 else 0
theorem bI_t : bI true = 1 := rfl
theorem bI_f : bI false = 0 := rfl
theorem bI_and (b : Bool) : bI b &&& 1 = bI b := by cases b <;> rfl
theorem bI_0 {b : Bool} : bI b = 0 ↔ b = false := by cases b <;> decide
theorem bI_n (b : Bool) : bI b = nI (if b then 1 else 0) := by cases b <;> rfl
theorem bI_inj {a b : Bool} (h : bI a = bI b) : a = b := by cases a <;> cases b <;> first | rfl | (revert h; decide)
theorem gi_nI {α : Type} {j N : Nat} (k : Option α) (h : j < N) (hN : N < 2 ^ 31) : gi (nI j) N k = k := gi_in k (vp_in_nI h hN)
theorem gb_bI {α : Type} (b : Bool) (k : Option α) : gb (bI b) k = k := gb_in k (bI_and b)
theorem k_0 : (0 : Int32) = nI 0 := rfl
theorem k_1 : (1 : Int32) = nI 1 := rfl
theorem k_2 : (2 : Int32) = nI 2 := rfl
theorem k_3 : (3 : Int32) = nI 3 := rfl
theorem k_5 : (5 : Int32) = nI 5 := rfl
theorem k_8 : (8 : Int32) = nI 8 := rfl
theorem k_60 : (60 : Int32) = nI 60 := rfl
theorem k_61 : (61 : Int32) = nI 61 := rfl
theorem k_300 : (300 : Int32) = nI 300 := rfl
theorem k_3600 : (3600 : Int32) = nI 3600 := rfl
theorem ite_le {α : Sort _} {a b : Nat} {x y : α} (ha : a < 2 ^ 31) (hb : b < 2 ^ 31) : (if nI a ≤ nI b then x else y) = if a ≤ b then x else y := by
  by_cases h : a ≤ b
  · rw [if_pos h, if_pos ((nI_leI ha hb).mpr h)]
  · rw [if_neg h, if_neg (fun q => h ((nI_leI ha hb).mp q))]
theorem ite_lt {α : Sort _} {a b : Nat} {x y : α} (ha : a < 2 ^ 31) (hb : b < 2 ^ 31) : (if nI a < nI b then x else y) = if a < b then x else y := by
  by_cases h : a < b
  · rw [if_pos h, if_pos ((nI_ltI ha hb).mpr h)]
  · rw [if_neg h, if_neg (fun q => h ((nI_ltI ha hb).mp q))]
theorem ite_eq {α : Sort _} {a b : Nat} {x y : α} (ha : a < 2 ^ 31) (hb : b < 2 ^ 31) : (if nI a = nI b then x else y) = if a = b then x else y := by
  by_cases h : a = b
  · rw [if_pos h, if_pos ((nI_eq ha hb).mpr h)]
  · rw [if_neg h, if_neg (fun q => h ((nI_eq ha hb).mp q))]
theorem ite_b0 {α : Sort _} {b : Bool} {x y : α} : (if bI b = 0 then x else y) = if b = true then y else x := by cases b <;> rfl
theorem ite_b0n {α : Sort _} {b : Bool} {x y : α} : (if bI b = nI 0 then x else y) = if b = true then y else x := by cases b <;> rfl
theorem ob1_some {α γ : Type} (x : α) (k : α → Option γ) : ob1 (some x) k = k x := rfl
theorem ob2_some {α β γ : Type} (x : α) (y : β) (k : α → β → Option γ) : ob2 (some (x, y)) k = k x y := rfl
theorem ob0_some {γ : Type} (k : Option γ) : ob0 (some ()) k = k := rfl
theorem upd_self (f : Nat → Int32) (k : Nat) (x : Int32) : upd f k x k = x := by simp [upd]
theorem upd_ne (f : Nat → Int32) {k j : Nat} (x : Int32) (h : j ≠ k) : upd f k x j = f j := by simp [upd, h]
/-- a truth out of a comparison -/
theorem ob1_tf {γ : Type} {c : Prop} [Decidable c] {k : Int32 → Option γ} : ob1 (if c then some (1 : Int32) else some (0 : Int32)) k = k (bI (decide c)) := by
  by_cases h : c
  · simp [h, ob1, bI]
  · simp [h, ob1, bI]
theorem ob1_ft {γ : Type} {c : Prop} [Decidable c] {k : Int32 → Option γ} : ob1 (if c then some (0 : Int32) else some (1 : Int32)) k = k (bI (!decide c)) := by
  by_cases h : c
  · simp [h, ob1, bI]
  · simp [h, ob1, bI]
