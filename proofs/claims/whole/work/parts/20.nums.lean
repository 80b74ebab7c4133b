/-! numbers: the machine's ints and longs by whole numbers -/
def n32 (z : Int) : Int32 := Int32.ofInt z
def n64 (z : Int) : Int64 := Int64.ofInt z
theorem n32_i {a : Int} (h1 : -2147483648 ≤ a) (h2 : a < 2147483648) : (n32 a).toInt = a := Int32.toInt_ofInt_of_le h1 h2
theorem n64_i {a : Int} (h1 : -9223372036854775808 ≤ a) (h2 : a < 9223372036854775808) : (n64 a).toInt = a := Int64.toInt_ofInt_of_le h1 h2
theorem n32_of (x : Int32) : x = n32 x.toInt := (Int32.ofInt_toInt x).symm
theorem n64_of (x : Int64) : x = n64 x.toInt := (Int64.ofInt_toInt x).symm
theorem n32_lt {a b : Int} (h1 : -2147483648 ≤ a) (h2 : a < 2147483648) (h3 : -2147483648 ≤ b) (h4 : b < 2147483648) : n32 a < n32 b ↔ a < b := by
  rw [Int32.lt_iff_toInt_lt, n32_i h1 h2, n32_i h3 h4]
theorem n32_le {a b : Int} (h1 : -2147483648 ≤ a) (h2 : a < 2147483648) (h3 : -2147483648 ≤ b) (h4 : b < 2147483648) : n32 a ≤ n32 b ↔ a ≤ b := by
  rw [Int32.le_iff_toInt_le, n32_i h1 h2, n32_i h3 h4]
theorem n32_eq {a b : Int} (h1 : -2147483648 ≤ a) (h2 : a < 2147483648) (h3 : -2147483648 ≤ b) (h4 : b < 2147483648) : n32 a = n32 b ↔ a = b := by
  rw [← Int32.toInt_inj, n32_i h1 h2, n32_i h3 h4]
theorem n64_lt {a b : Int} (h1 : -9223372036854775808 ≤ a) (h2 : a < 9223372036854775808) (h3 : -9223372036854775808 ≤ b) (h4 : b < 9223372036854775808) : n64 a < n64 b ↔ a < b := by
  rw [Int64.lt_iff_toInt_lt, n64_i h1 h2, n64_i h3 h4]
theorem n64_le {a b : Int} (h1 : -9223372036854775808 ≤ a) (h2 : a < 9223372036854775808) (h3 : -9223372036854775808 ≤ b) (h4 : b < 9223372036854775808) : n64 a ≤ n64 b ↔ a ≤ b := by
  rw [Int64.le_iff_toInt_le, n64_i h1 h2, n64_i h3 h4]
theorem n64_eq {a b : Int} (h1 : -9223372036854775808 ≤ a) (h2 : a < 9223372036854775808) (h3 : -9223372036854775808 ≤ b) (h4 : b < 9223372036854775808) : n64 a = n64 b ↔ a = b := by
  rw [← Int64.toInt_inj, n64_i h1 h2, n64_i h3 h4]
theorem n32_add (a b : Int) : n32 a + n32 b = n32 (a + b) := (Int32.ofInt_add a b).symm
theorem n32_sub (a b : Int) : n32 a - n32 b = n32 (a - b) := (Int32.ofInt_sub a b).symm
theorem n32_mul (a b : Int) : n32 a * n32 b = n32 (a * b) := (Int32.ofInt_mul a b).symm
theorem n32_neg (a : Int) : -n32 a = n32 (-a) := (Int32.ofInt_neg a).symm
theorem n64_add (a b : Int) : n64 a + n64 b = n64 (a + b) := (Int64.ofInt_add a b).symm
theorem n64_sub (a b : Int) : n64 a - n64 b = n64 (a - b) := (Int64.ofInt_sub a b).symm
theorem n64_mul (a b : Int) : n64 a * n64 b = n64 (a * b) := (Int64.ofInt_mul a b).symm
theorem n64_neg (a : Int) : -n64 a = n64 (-a) := (Int64.ofInt_neg a).symm
theorem n32_div {a b : Int} (h1 : -2147483648 ≤ a) (h2 : a < 2147483648) (h3 : -2147483648 ≤ b) (h4 : b < 2147483648) : n32 a / n32 b = n32 (a.tdiv b) :=
  (Int32.ofInt_tdiv (show (-2147483648 : Int) ≤ a from h1) (show a ≤ 2147483647 by omega) (show (-2147483648 : Int) ≤ b from h3) (show b ≤ 2147483647 by omega)).symm
theorem n64_div {a b : Int} (h1 : -9223372036854775808 ≤ a) (h2 : a < 9223372036854775808) (h3 : -9223372036854775808 ≤ b) (h4 : b < 9223372036854775808) : n64 a / n64 b = n64 (a.tdiv b) :=
  (Int64.ofInt_tdiv (show (-9223372036854775808 : Int) ≤ a from h1) (show a ≤ 9223372036854775807 by omega) (show (-9223372036854775808 : Int) ≤ b from h3) (show b ≤ 9223372036854775807 by omega)).symm
theorem n64_rem {a b : Int} (h1 : -9223372036854775808 ≤ a) (h2 : a < 9223372036854775808) (h3 : -9223372036854775808 ≤ b) (h4 : b < 9223372036854775808) : n64 a - n64 a / n64 b * n64 b = n64 (a.tmod b) := by
  rw [n64_div h1 h2 h3 h4, n64_mul, n64_sub]
  congr 1
  have := Int.tmod_add_mul_tdiv a b
  rw [Int.mul_comm] at this
  omega
theorem n32_rem {a b : Int} (h1 : -2147483648 ≤ a) (h2 : a < 2147483648) (h3 : -2147483648 ≤ b) (h4 : b < 2147483648) : n32 a - n32 a / n32 b * n32 b = n32 (a.tmod b) := by
  rw [n32_div h1 h2 h3 h4, n32_mul, n32_sub]
  congr 1
  have := Int.tmod_add_mul_tdiv a b
  rw [Int.mul_comm] at this
  omega
theorem n32_64 {a : Int} (h1 : -2147483648 ≤ a) (h2 : a < 2147483648) : (n32 a).toInt64 = n64 a :=
  Int32.toInt64_ofInt (show (-2147483648 : Int) ≤ a from h1) (show a ≤ 2147483647 by omega)
theorem n32_x {a : Int} (h1 : 0 ≤ a) (h2 : a < 2147483648) : (n32 a).toNatClampNeg = a.toNat := by
  show (n32 a).toInt.toNat = _
  rw [n32_i (by omega) h2]
theorem n32_xn {k : Nat} (h : k < 2147483648) : (n32 (k : Int)).toNatClampNeg = k := by
  rw [n32_x (by omega) (by omega)]
  omega
theorem n32_succ (k : Nat) : n32 (k : Int) + n32 1 = n32 ((k + 1 : Nat) : Int) := by
  rw [n32_add]; rfl
theorem n32_nI (k : Nat) : nI k = n32 (k : Int) := Int32.ofInt_eq_ofNat.symm
theorem zin_n {a : Int} {n : Nat} (h1 : -2147483648 ≤ a) (h2 : a < 2147483648) : (zin (n32 a) n = true) ↔ (0 ≤ a ∧ a < (n : Int)) := by
  unfold zin
  rw [n32_i h1 h2]
  simp
theorem zgd_t {α : Type} {c : Prop} [Decidable c] {x : Option α} (h : c) : zgd c x = x := if_pos h
theorem zif_t {α : Type} {c : Prop} [Decidable c] {x y : α} (h : c) : (if c then x else y) = x := if_pos h
theorem zif_f {α : Type} {c : Prop} [Decidable c] {x y : α} (h : ¬ c) : (if c then x else y) = y := if_neg h
theorem zbs {α β : Type} {a : α} {f : α → Option β} : (some a).bind f = f a := rfl
theorem l32_0 : (0 : Int32) = n32 0 := rfl
theorem l32_1 : (1 : Int32) = n32 1 := rfl
theorem l32_2 : (2 : Int32) = n32 2 := rfl
theorem l32_3 : (3 : Int32) = n32 3 := rfl
theorem l32_4 : (4 : Int32) = n32 4 := rfl
theorem l32_5 : (5 : Int32) = n32 5 := rfl
theorem l32_6 : (6 : Int32) = n32 6 := rfl
theorem l32_7 : (7 : Int32) = n32 7 := rfl
theorem l32_8 : (8 : Int32) = n32 8 := rfl
theorem l32_m1 : (-1 : Int32) = n32 (-1) := rfl
theorem l64_0 : (0 : Int64) = n64 0 := rfl
theorem l64_1 : (1 : Int64) = n64 1 := rfl
/-! lg_cmp against a number -/
theorem lgc_lt {a b : Int} (h1 : -9223372036854775808 ≤ a) (h2 : a < 9223372036854775808) (h3 : -9223372036854775808 ≤ b) (h4 : b < 9223372036854775808) : lg_cmp (n64 a) (n64 b) < 0 ↔ a < b := by
  unfold lg_cmp
  simp only [gt_iff_lt, n64_lt h3 h4 h1 h2, n64_eq h1 h2 h3 h4]
  split
  · exact ⟨fun h => absurd h (by decide), fun h => by omega⟩
  · split
    · exact ⟨fun h => absurd h (by decide), fun h => by omega⟩
    · exact ⟨fun _ => by omega, fun _ => by decide⟩
theorem lgc_eq {a b : Int} (h1 : -9223372036854775808 ≤ a) (h2 : a < 9223372036854775808) (h3 : -9223372036854775808 ≤ b) (h4 : b < 9223372036854775808) : lg_cmp (n64 a) (n64 b) = 0 ↔ a = b := by
  unfold lg_cmp
  simp only [gt_iff_lt, n64_lt h3 h4 h1 h2, n64_eq h1 h2 h3 h4]
  split
  · exact ⟨fun h => absurd h (by decide), fun h => by omega⟩
  · split
    · exact ⟨fun _ => by omega, fun _ => rfl⟩
    · exact ⟨fun h => absurd h (by decide), fun h => by omega⟩
theorem lgc_le {a b : Int} (h1 : -9223372036854775808 ≤ a) (h2 : a < 9223372036854775808) (h3 : -9223372036854775808 ≤ b) (h4 : b < 9223372036854775808) : lg_cmp (n64 a) (n64 b) ≤ 0 ↔ a ≤ b := by
  unfold lg_cmp
  simp only [gt_iff_lt, n64_lt h3 h4 h1 h2, n64_eq h1 h2 h3 h4]
  split
  · exact ⟨fun h => absurd h (by decide), fun h => by omega⟩
  · split
    · exact ⟨fun _ => by omega, fun _ => by decide⟩
    · exact ⟨fun _ => by omega, fun _ => by decide⟩
theorem lgc_ge {a b : Int} (h1 : -9223372036854775808 ≤ a) (h2 : a < 9223372036854775808) (h3 : -9223372036854775808 ≤ b) (h4 : b < 9223372036854775808) : 0 ≤ lg_cmp (n64 a) (n64 b) ↔ b ≤ a := by
  rw [lg_cmp_ge, n64_le h3 h4 h1 h2]
theorem lgc_gt {a b : Int} (h1 : -9223372036854775808 ≤ a) (h2 : a < 9223372036854775808) (h3 : -9223372036854775808 ≤ b) (h4 : b < 9223372036854775808) : 0 < lg_cmp (n64 a) (n64 b) ↔ b < a := by
  unfold lg_cmp
  simp only [gt_iff_lt, n64_lt h3 h4 h1 h2, n64_eq h1 h2 h3 h4]
  split
  · exact ⟨fun _ => by omega, fun _ => by decide⟩
  · split
    · exact ⟨fun h => absurd h (by decide), fun h => by omega⟩
    · exact ⟨fun h => absurd h (by decide), fun h => by omega⟩
/-! counted loops: F fuel k state -/
theorem zloop {τ β : Type} (F : Nat → Nat → τ → β) (hi : Nat) (P : Nat → τ → Prop) (fin : τ → β) (R : τ → Prop)
    (hs : ∀ n k t, k < hi → P k t → ∃ t', P (k + 1) t' ∧ F (n + 1) k t = F n (k + 1) t')
    (he : ∀ n t, P hi t → R t ∧ F (n + 1) hi t = fin t) : ∀ m n k t, k + m = hi → m < n → P k t → ∃ t', R t' ∧ P hi t' ∧ F n k t = fin t' := by
  intro m
  induction m with
  | zero =>
    intro n k t hk hn hP
    obtain ⟨n, rfl⟩ : ∃ j, n = j + 1 := ⟨n - 1, by omega⟩
    have : k = hi := by omega
    subst this
    exact ⟨t, (he n t hP).1, hP, (he n t hP).2⟩
  | succ m ih =>
    intro n k t hk hn hP
    obtain ⟨n, rfl⟩ : ∃ j, n = j + 1 := ⟨n - 1, by omega⟩
    obtain ⟨t', hP', e⟩ := hs n k t (by omega) hP
    obtain ⟨t2, h1, h2, h3⟩ := ih n (k + 1) t' (by omega) (by omega) hP'
    exact ⟨t2, h1, h2, e.trans h3⟩
theorem zFU_lt {k : Nat} (h : k < 2097152) : k < zFU := h
