/-! literals as numbers, so that one simp line reads a body -/
theorem l32_10 : (10 : Int32) = n32 10 := rfl
theorem l32_12 : (12 : Int32) = n32 12 := rfl
theorem l32_13 : (13 : Int32) = n32 13 := rfl
theorem l32_16 : (16 : Int32) = n32 16 := rfl
theorem l32_32 : (32 : Int32) = n32 32 := rfl
theorem l32_50 : (50 : Int32) = n32 50 := rfl
theorem l32_256 : (256 : Int32) = n32 256 := rfl
theorem l32_400 : (400 : Int32) = n32 400 := rfl
theorem l32_840 : (840 : Int32) = n32 840 := rfl
theorem l32_1000 : (1000 : Int32) = n32 1000 := rfl
theorem l32_6000 : (6000 : Int32) = n32 6000 := rfl
theorem l32_10000 : (10000 : Int32) = n32 10000 := rfl
theorem l32_100000 : (100000 : Int32) = n32 100000 := rfl
theorem l32_1000000 : (1000000 : Int32) = n32 1000000 := rfl
theorem l32_10000000 : (10000000 : Int32) = n32 10000000 := rfl
theorem in8 {k lo hi : Int} (h1 : -2147483648 ≤ k) (h2 : k < 2147483648) (h3 : -2147483648 ≤ lo) (h4 : lo < 2147483648) (h5 : -2147483648 ≤ hi) (h6 : hi < 2147483648) : D_X8_within (n32 k) (n32 lo) (n32 hi) = if lo ≤ k ∧ k ≤ hi then some 1 else some 0 := by
  rw [x8_in ⟨h1, h2⟩ ⟨h3, h4⟩ ⟨h5, h6⟩]; split <;> rfl
theorem in9 {k lo hi : Int} (h1 : -2147483648 ≤ k) (h2 : k < 2147483648) (h3 : -2147483648 ≤ lo) (h4 : lo < 2147483648) (h5 : -2147483648 ≤ hi) (h6 : hi < 2147483648) : D_X9_in (n32 k).toInt64 (n32 lo).toInt64 (n32 hi).toInt64 = if lo ≤ k ∧ k ≤ hi then some 1 else some 0 := by
  rw [n32_64 (a := lo) h3 h4, n32_64 (a := hi) h5 h6, x9_in32 ⟨h1, h2⟩ (by omega) (by omega)]; split <;> rfl
theorem in9L {k lo hi : Int} (h1 : -2147483648 ≤ k) (h2 : k < 2147483648) (h3 : -2147483648 ≤ lo) (h4 : lo < 2147483648) (h5 : -2147483648 ≤ hi) (h6 : hi < 2147483648) : D_X9_in (n32 k).toInt64 (n64 lo) (n64 hi) = if lo ≤ k ∧ k ≤ hi then some 1 else some 0 := by
  rw [x9_in32 ⟨h1, h2⟩ (by omega) (by omega)]; split <;> rfl
theorem zgd01 {α : Type} {c : Prop} [Decidable c] {f : Int32 → Option α} {x : Int32} (h : x = 0 ∨ x = 1) : zgd (x = 0 ∨ x = 1) (f x) = f x := zgd_t h
theorem knows7 {s : zS} {n : Nat} {v : Nat → Int} (h : wRel s n v) {k : Int} (h1 : -2147483648 ≤ k) (h2 : k < 2147483648) : D_X7_knowsSide s (n32 k) = if 0 ≤ k ∧ k ≤ (n : Int) - 1 then some 1 else some 0 := by
  rw [x7_side h.1.1 ⟨h.1.2.1, h.1.2.2.1⟩ ⟨h1, h2⟩]; split <;> rfl
theorem knows9 {s : zS} {n : Nat} {v : Nat → Int} (h : wRel s n v) {k : Int} (h1 : -2147483648 ≤ k) (h2 : k < 2147483648) : D_X9_isSide s (n32 k) = if 0 ≤ k ∧ k ≤ (n : Int) - 1 then some 1 else some 0 := by
  rw [x9_side h.2.1.1 ⟨h.1.2.1, h.1.2.2.1⟩ ⟨h1, h2⟩]; split <;> rfl
theorem all7 {s : zS} {n : Nat} {v : Nat → Int} (h : wRel s n v) : D_X7_all s = some (n32 ((2 ^ n - 1 : Nat) : Int)) := x7_all h.1.1 (by have := h.1.2.2.1; omega)
theorem all9 {s : zS} {n : Nat} {v : Nat → Int} (h : wRel s n v) : D_X9_all s = some (n32 ((2 ^ n - 1 : Nat) : Int)) := x9_all h.2.1.1 (by have := h.1.2.2.1; omega)
theorem set7 {s : zS} {n : Nat} {v : Nat → Int} (h : wRel s n v) {k : Int} (h1 : -2147483648 ≤ k) (h2 : k < 2147483648) : D_X7_knowsSet s (n32 k) = if 1 ≤ k ∧ k < ((2 ^ n : Nat) : Int) then some 1 else some 0 := by
  have hp := pow_le4 h.1.2.2.1
  have hp1 : 1 ≤ 2 ^ n := Nat.one_le_two_pow
  unfold D_X7_knowsSet
  rw [all7 h, zbs, l32_1, in8 (by omega) (by omega) (by omega) (by omega) (by omega) (by omega)]
  by_cases e : 1 ≤ k ∧ k < ((2 ^ n : Nat) : Int)
  · rw [if_pos e, if_pos (by omega)]; rfl
  · rw [if_neg e, if_neg (by omega)]; rfl
theorem set9 {s : zS} {n : Nat} {v : Nat → Int} (h : wRel s n v) {k : Int} (h1 : -2147483648 ≤ k) (h2 : k < 2147483648) : D_X9_isSet s (n32 k) = if 1 ≤ k ∧ k < ((2 ^ n : Nat) : Int) then some 1 else some 0 := by
  have hp := pow_le4 h.1.2.2.1
  have hp1 : 1 ≤ 2 ^ n := Nat.one_le_two_pow
  unfold D_X9_isSet
  rw [all9 h, zbs, n32_64 (a := ((2 ^ n - 1 : Nat) : Int)) (by omega) (by omega), l64_1, in9L (by omega) (by omega) (by omega) (by omega) (by omega) (by omega)]
  by_cases e : 1 ≤ k ∧ k < ((2 ^ n : Nat) : Int)
  · rw [if_pos e, if_pos (by omega)]; rfl
  · rw [if_neg e, if_neg (by omega)]; rfl
/-- the call part -/
theorem call_part {s : zS} (h : frEq s) (a : Int32) : cPu (D_X8_part s a) (D_X9_part s a) := by
  obtain ⟨k, rfl, h1, h2⟩ := i32_of a
  unfold D_X8_part D_X9_part
  rw [l32_0, l32_1, in8 h1 h2 (by omega) (by omega) (by omega) (by omega)]
  by_cases e0 : k = 0
  · subst e0
    rw [if_pos (by omega), zbs, zif_f (by decide), zif_t rfl, zif_t rfl, h.1]
    exact ⟨_, rfl, rfl⟩
  · by_cases e1 : k = 1
    · subst e1
      rw [if_pos (by omega), zbs, zif_f (by decide), zif_f (by decide), zif_f (by decide), zif_t rfl, h.2]
      exact ⟨_, rfl, rfl⟩
    · rw [if_neg (by omega), zbs, zif_t (show (0 : Int32) = n32 0 from rfl), zif_f (fun q => e0 ((n32_eq h1 h2 (by omega) (by omega)).mp q)), zif_f (fun q => e1 ((n32_eq h1 h2 (by omega) (by omega)).mp q))]
      exact ⟨_, rfl, rfl⟩
theorem zi1 {α : Type} {x y : α} : (if (1 : Int32) = 0 then x else y) = y := if_neg (by decide)
theorem zi0 {α : Type} {x y : α} : (if (0 : Int32) = 0 then x else y) = x := if_pos rfl
theorem zb1 {α : Type} {x y : Option α} : (if zfl true = 0 then x else y) = y := if_neg (by decide)
theorem zb0 {α : Type} {x y : Option α} : (if zfl false = 0 then x else y) = x := if_pos rfl
