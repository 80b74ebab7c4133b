/-! the greatest common factor, by both -/
theorem n64_nrem {x y : Nat} (hx : x < 4611686018427387904) (hy : y < 4611686018427387904) : n64 (x : Int) - n64 (x : Int) / n64 (y : Int) * n64 (y : Int) = n64 ((x % y : Nat) : Int) := by
  rw [n64_rem (by omega) (by omega) (by omega) (by omega)]
  rfl
theorem zhalf {y r : Nat} (hr : r < y) (h0 : 0 < r) : 2 * (y % r) < y := by
  have h1 : y % r < r := Nat.mod_lt _ h0
  rcases Nat.lt_or_ge (2 * r) (y + 1) with h | h
  · omega
  · have h2 : y % r = y - r := by
      rw [Nat.mod_eq_sub_mod (by omega), Nat.mod_eq_of_lt (by omega)]
    omega
theorem D_X8_cf_L : ∀ (e n x y t : Nat), y < 2 ^ e → x < 4611686018427387904 → y < 4611686018427387904 → 2 * e < n → t + 2 * e < 1000000 →
    D_X8_commonFactor_L31 n (n64 (x : Int)) (n64 (y : Int)) (n32 (t : Int)) = some (n64 ((Nat.gcd x y : Nat) : Int)) := by
  have stop : ∀ (n x t : Nat), t < 1000000 → D_X8_commonFactor_L31 (n + 1) (n64 (x : Int)) (n64 ((0 : Nat) : Int)) (n32 (t : Int)) = some (n64 ((Nat.gcd x 0 : Nat) : Int)) := by
    intro n x t ht
    rw [D_X8_commonFactor_L31_s]
    unfold D_X8_commonFactor_B31
    rw [zif_f (by rw [show (1000000 : Int32) = n32 1000000 from rfl, n32_le (by omega) (by omega) (by omega) (by omega)]; omega), zif_t (show lg_cmp (n64 ((0 : Nat) : Int)) 0 = 0 by decide), Nat.gcd_zero_right]
  have step : ∀ (n x y t : Nat), 0 < y → x < 4611686018427387904 → y < 4611686018427387904 → t < 1000000 → D_X8_commonFactor_L31 (n + 1) (n64 (x : Int)) (n64 (y : Int)) (n32 (t : Int)) = D_X8_commonFactor_L31 n (n64 (y : Int)) (n64 ((x % y : Nat) : Int)) (n32 ((t + 1 : Nat) : Int)) := by
    intro n x y t h0 hx hy ht
    rw [D_X8_commonFactor_L31_s]
    unfold D_X8_commonFactor_B31
    have hne : ¬ n64 (y : Int) = 0 := by
      rw [l64_0, n64_eq (by omega) (by omega) (by omega) (by omega)]; omega
    rw [zif_f (by rw [show (1000000 : Int32) = n32 1000000 from rfl, n32_le (by omega) (by omega) (by omega) (by omega)]; omega), l64_0, zif_f (by rw [lgc_eq (by omega) (by omega) (by omega) (by omega)]; omega), ← l64_0, zif_f hne, n64_nrem hx hy, l32_1, n32_succ]
  intro e
  induction e with
  | zero =>
    intro n x y t hy hx hy2 hn ht
    obtain ⟨n, rfl⟩ : ∃ j, n = j + 1 := ⟨n - 1, by omega⟩
    have : y = 0 := by omega
    subst this
    exact stop n x t (by omega)
  | succ e ih =>
    intro n x y t hy hx hy2 hn ht
    obtain ⟨n, rfl⟩ : ∃ j, n = j + 2 := ⟨n - 2, by omega⟩
    rcases Nat.eq_zero_or_pos y with h0 | h0
    · subst h0
      exact stop (n + 1) x t (by omega)
    · have hg : Nat.gcd x y = Nat.gcd y (x % y) := by rw [Nat.gcd_comm x y, Nat.gcd_rec y x, Nat.gcd_comm]
      have hr : x % y < y := Nat.mod_lt _ h0
      rw [step (n + 1) x y t h0 hx hy2 (by omega), hg]
      rcases Nat.eq_zero_or_pos (x % y) with h1 | h1
      · rw [h1]
        exact stop n y (t + 1) (by omega)
      · rw [step n y (x % y) (t + 1) h1 hy2 (by omega) (by omega)]
        have hg2 : Nat.gcd y (x % y) = Nat.gcd (x % y) (y % (x % y)) := by rw [Nat.gcd_comm y, Nat.gcd_rec (x % y) y, Nat.gcd_comm]
        rw [hg2]
        have h2 := zhalf hr h1
        have h3 : 2 ^ (e + 1) = 2 * 2 ^ e := by rw [Nat.pow_succ]; omega
        exact ih n (x % y) (y % (x % y)) (t + 2) (by omega) (by omega) (by omega) (by omega) (by omega)
theorem D_X9_cf_L : ∀ (e n x y : Nat), y < 2 ^ e → x < 4611686018427387904 → y < 4611686018427387904 → 2 * e < n →
    D_X9_common_L28 n (n64 (x : Int)) (n64 (y : Int)) = some (n64 ((Nat.gcd x y : Nat) : Int)) := by
  have stop : ∀ (n x : Nat), D_X9_common_L28 (n + 1) (n64 (x : Int)) (n64 ((0 : Nat) : Int)) = some (n64 ((Nat.gcd x 0 : Nat) : Int)) := by
    intro n x
    rw [D_X9_common_L28_s]
    unfold D_X9_common_B28
    rw [zif_t (show lg_cmp (n64 ((0 : Nat) : Int)) 0 = 0 by decide), Nat.gcd_zero_right]
  have step : ∀ (n x y : Nat), 0 < y → x < 4611686018427387904 → y < 4611686018427387904 → D_X9_common_L28 (n + 1) (n64 (x : Int)) (n64 (y : Int)) = D_X9_common_L28 n (n64 (y : Int)) (n64 ((x % y : Nat) : Int)) := by
    intro n x y h0 hx hy
    rw [D_X9_common_L28_s]
    unfold D_X9_common_B28
    have hne : ¬ n64 (y : Int) = 0 := by
      rw [l64_0, n64_eq (by omega) (by omega) (by omega) (by omega)]; omega
    rw [l64_0, zif_f (by rw [lgc_eq (by omega) (by omega) (by omega) (by omega)]; omega), ← l64_0, zif_f hne, n64_nrem hx hy]
  intro e
  induction e with
  | zero =>
    intro n x y hy hx hy2 hn
    obtain ⟨n, rfl⟩ : ∃ j, n = j + 1 := ⟨n - 1, by omega⟩
    have : y = 0 := by omega
    subst this
    exact stop n x
  | succ e ih =>
    intro n x y hy hx hy2 hn
    obtain ⟨n, rfl⟩ : ∃ j, n = j + 2 := ⟨n - 2, by omega⟩
    rcases Nat.eq_zero_or_pos y with h0 | h0
    · subst h0
      exact stop (n + 1) x
    · have hg : Nat.gcd x y = Nat.gcd y (x % y) := by rw [Nat.gcd_comm x y, Nat.gcd_rec y x, Nat.gcd_comm]
      have hr : x % y < y := Nat.mod_lt _ h0
      rw [step (n + 1) x y h0 hx hy2, hg]
      rcases Nat.eq_zero_or_pos (x % y) with h1 | h1
      · rw [h1]
        exact stop n y
      · rw [step n y (x % y) h1 hy2 (by omega)]
        have hg2 : Nat.gcd y (x % y) = Nat.gcd (x % y) (y % (x % y)) := by rw [Nat.gcd_comm y, Nat.gcd_rec (x % y) y, Nat.gcd_comm]
        rw [hg2]
        have h2 := zhalf hr h1
        have h3 : 2 ^ (e + 1) = 2 * 2 ^ e := by rw [Nat.pow_succ]; omega
        exact ih n (x % y) (y % (x % y)) (by omega) (by omega) (by omega) (by omega)
theorem zabs64 {a : Int} (h1 : -4611686018427387904 < a) (h2 : a < 4611686018427387904) : (if 0 ≤ lg_cmp (n64 a) 0 then n64 a else -n64 a) = n64 ((a.natAbs : Nat) : Int) := by
  rw [l64_0]
  by_cases h : 0 ≤ a
  · rw [if_pos ((lgc_ge (by omega) (by omega) (by omega) (by omega)).mpr h)]
    congr 1; omega
  · rw [if_neg (fun q => h ((lgc_ge (by omega) (by omega) (by omega) (by omega)).mp q)), n64_neg]
    congr 1; omega
theorem zgcd8 {a b : Int} (h1 : -4611686018427387904 < a) (h2 : a < 4611686018427387904) (h3 : -4611686018427387904 < b) (h4 : b < 4611686018427387904) : D_X8_commonFactor (n64 a) (n64 b) = some (n64 ((Int.gcd a b : Nat) : Int)) := by
  have key : D_X8_commonFactor (n64 a) (n64 b) = D_X8_commonFactor_L31 zFU (if 0 ≤ lg_cmp (n64 a) 0 then n64 a else -n64 a) (if 0 ≤ lg_cmp (n64 b) 0 then n64 b else -n64 b) 0 := by
    unfold D_X8_commonFactor D_X8_commonFactor_J12 D_X8_commonFactor_J26
    by_cases ha : 0 ≤ lg_cmp (n64 a) 0 <;> by_cases hb : 0 ≤ lg_cmp (n64 b) 0 <;> simp only [ha, hb, if_true, if_false]
  rw [key, zabs64 h1 h2, zabs64 h3 h4]
  exact D_X8_cf_L 62 zFU a.natAbs b.natAbs 0 (by omega) (by omega) (by omega) (by decide) (by omega)
theorem zgcd9 {a b : Int} (h1 : -4611686018427387904 < a) (h2 : a < 4611686018427387904) (h3 : -4611686018427387904 < b) (h4 : b < 4611686018427387904) : D_X9_common (n64 a) (n64 b) = some (n64 ((Int.gcd a b : Nat) : Int)) := by
  have key : D_X9_common (n64 a) (n64 b) = D_X9_common_L28 zFU (if 0 ≤ lg_cmp (n64 a) 0 then n64 a else -n64 a) (if 0 ≤ lg_cmp (n64 b) 0 then n64 b else -n64 b) := by
    unfold D_X9_common D_X9_common_J12 D_X9_common_J26
    by_cases ha : 0 ≤ lg_cmp (n64 a) 0 <;> by_cases hb : 0 ≤ lg_cmp (n64 b) 0 <;> simp only [ha, hb, if_true, if_false]
  rw [key, zabs64 h1 h2, zabs64 h3 h4]
  exact D_X9_cf_L 62 zFU a.natAbs b.natAbs (by omega) (by omega) (by omega) (by decide)
