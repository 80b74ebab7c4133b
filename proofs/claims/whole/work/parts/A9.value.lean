/-! the call value -/
def facN (k : Nat) : Nat := [1, 1, 2, 6, 24, 120, 720, 5040, 40320].getD k 0
theorem r_fac : ∀ k : Nat, k < 9 → D_X9_factorial (n32 (k : Int)) = some (n32 (facN k : Int)) := by decide +kernel
theorem c_fac : ∀ k : Nat, k < 8 → D_X8_ordersOf (n32 (k : Int)) = some (n32 (facN k : Int)) := by decide +kernel
theorem c_behind {b n : Nat} (h : b < n) (hn : n ≤ 8) : D_X8_ordersBehind (n32 (b : Int)) (n32 (n : Int)) = some (n32 ((facN b * facN (n - 1 - b) : Nat) : Int)) := by
  unfold D_X8_ordersBehind
  rw [c_fac b (by omega), zbs, l32_1, n32_sub, n32_sub, show (n : Int) - 1 - (b : Int) = ((n - 1 - b : Nat) : Int) by omega, c_fac _ (by omega), zbs, n32_mul]
  push_cast; rfl
theorem pcn_lt : ∀ n : Nat, n < 5 → ∀ S : Nat, S < 2 ^ n → ∀ i : Nat, i < n → S.testBit i = false → pcn S < n := by decide +kernel
theorem bits_pcn : ∀ S : Nat, S < 16 → D_X9_bits (n32 (S : Int)) = some (n32 (pcn S : Int)) := by decide +kernel
theorem fac_bd : ∀ n : Nat, n < 5 → ∀ b : Nat, b < 5 → facN b * facN (n - 1 - b) ≤ 144 := by decide +kernel
theorem shl1b : ∀ i : Nat, i < 4 → (1 : Int64) <<< ((n32 (i : Int)).toInt64 &&& 63) = n64 ((2 ^ i : Nat) : Int) := by decide +kernel
section VA
variable {s : zS} {n : Nat} {v : Nat → Int}
/-- what a side adds to the sets without it, weighed -/
def vaF (v : Nat → Int) (c : Nat → Nat) (i S : Nat) (t : Int) : Int := if S.testBit i then t else t + (c S : Int) * (v (S ||| 2 ^ i) - v S)
def vaC (n : Nat) (w : Bool) (S : Nat) : Nat := if w then 1 else facN (pcn S) * facN (n - 1 - pcn S)
theorem vaC_bd {w : Bool} (hn : n ≤ 4) (S : Nat) : vaC n w S ≤ 144 := by
  have := fac_bd n (by omega) (pcn S) (by have := pcn_le S; omega)
  unfold vaC
  split <;> omega
theorem or16 {S i n : Nat} (hS : S < 2 ^ n) (hi : i < n) (hn : n ≤ 4) : S ||| 2 ^ i < 16 := by
  have h1 : 2 ^ i < 2 ^ n := Nat.pow_lt_pow_right (by omega) hi
  have h2 : 2 ^ n ≤ 2 ^ 4 := Nat.pow_le_pow_right (by omega) hn
  have := Nat.or_lt_two_pow hS h1
  omega
theorem va_dif (hw : wRel s n v) {S i : Nat} (hS : S < 2 ^ n) (hi : i < n) : -2000 ≤ v (S ||| 2 ^ i) - v S ∧ v (S ||| 2 ^ i) - v S ≤ 2000 := by
  have hp := pow_le4 hw.1.2.2.1
  have b1 := hw.1.2.2.2.2 S (by omega)
  have b2 := hw.1.2.2.2.2 (S ||| 2 ^ i) (or16 hS hi hw.1.2.2.1)
  omega
theorem va_bd (hw : wRel s n v) {w : Bool} {i : Nat} (hi : i < n) : ∀ m : Nat, m ≤ 2 ^ n → -(288000 * (m : Int)) ≤ zit (vaF v (vaC n w) i) m 0 0 ∧ zit (vaF v (vaC n w) i) m 0 0 ≤ 288000 * (m : Int) := by
  intro m
  induction m with
  | zero => intro _; simp [zit]
  | succ m ih =>
    intro hm
    have h1 := ih (by omega)
    have h2 := va_dif hw (S := m) (by omega) hi
    have h3 := vaC_bd (w := w) hw.1.2.2.1 m
    have h4 := abs_mul (a := (vaC n w m : Int)) (b := v (m ||| 2 ^ i) - v m) (A := 144) (B := 2000) (by omega) (by omega) h2.1 h2.2
    rw [zit_last, Nat.zero_add]
    generalize zit (vaF v (vaC n w) i) m 0 0 = z at h1 ⊢
    unfold vaF
    push_cast
    split <;> omega
theorem c_added (hw : wRel s n v) {S i : Nat} (hS : S < 2 ^ n) (hi : i < n) : D_X7_added s (n32 (S : Int)) (n32 (i : Int)) = some (n32 (v (S ||| 2 ^ i) - v S)) := by
  have hp := pow_le4 hw.1.2.2.1
  have h16 := or16 hS hi hw.1.2.2.1
  have h2 : 2 ^ i < 16 := by
    have : i = 0 ∨ i = 1 ∨ i = 2 ∨ i = 3 := by have := hw.1.2.2.1; omega
    rcases this with rfl | rfl | rfl | rfl <;> decide
  unfold D_X7_added
  rw [shl1 i (by have := hw.1.2.2.1; omega), dv_or (2 ^ i) h2 S (by omega), zgd_t (czin (by omega) (by omega)), zgd_t (czin (by omega) (by omega)), n32_xn (by omega), n32_xn (by omega), hw.1.2.2.2.1 _ h16, hw.1.2.2.2.1 S (by omega), n32_sub]
theorem c_val0 (hw : wRel s n v) {i : Nat} (hi : i < n) : D_X7_marginsInOrders s (n32 (i : Int)) = some (n32 (zit (vaF v (vaC n false) i) (2 ^ n) 0 0)) := by
  have hn := hw.1.2.2.1
  have hp := pow_le4 hn
  have f8 := zfold (lo := 0) (hi := 2 ^ n) (step := vaF v (vaC n false) i) (fin := fun t : Int => some (n32 t)) (fun f S t => D_X7_marginsInOrders_L4 s (n32 (i : Int)) f (n32 t) (n32 (S : Int))) (fun f S t _ hS => by
    try dsimp only
    rw [D_X7_marginsInOrders_L4_s]
    unfold D_X7_marginsInOrders_B4 vaF vaC
    rw [all7 hw, zbs, zif_f (by rw [c32_lt (by omega) (by omega)]; omega), x8_hasL S (by omega) i (by omega), in_ite, nsuc]
    by_cases e : S.testBit i = true
    · rw [if_pos e, if_pos e, zi1]
    · have hpc := pcn_lt n (by omega) S hS i hi (by simpa using e)
      rw [if_neg e, if_neg e, zi0, j6_pcn S (by omega), zbs, hw.1.1, c_behind hpc (by omega), zbs, c_added hw hS hi, zbs, n32_mul, n32_add]
      rfl) (fun f t => by
    try dsimp only
    rw [D_X7_marginsInOrders_L4_s]
    unfold D_X7_marginsInOrders_B4
    rw [all7 hw, zbs, zif_t (by rw [c32_lt (by omega) (by omega)]; omega)]) (2 ^ n) zFU 0 0 (by omega) (by omega) (zFU_lt (by omega))
  exact f8
theorem c_val1 (hw : wRel s n v) {i : Nat} (hi : i < n) : D_X7_marginsOverSets s (n32 (i : Int)) = some (n32 (zit (vaF v (vaC n true) i) (2 ^ n) 0 0)) := by
  have hn := hw.1.2.2.1
  have hp := pow_le4 hn
  have f8 := zfold (lo := 0) (hi := 2 ^ n) (step := vaF v (vaC n true) i) (fin := fun t : Int => some (n32 t)) (fun f S t => D_X7_marginsOverSets_L4 s (n32 (i : Int)) f (n32 t) (n32 (S : Int))) (fun f S t _ hS => by
    try dsimp only
    rw [D_X7_marginsOverSets_L4_s]
    unfold D_X7_marginsOverSets_B4 vaF vaC
    rw [all7 hw, zbs, zif_f (by rw [c32_lt (by omega) (by omega)]; omega), x8_hasL S (by omega) i (by omega), in_ite, nsuc]
    by_cases e : S.testBit i = true
    · rw [if_pos e, if_pos e, zi1]
    · rw [if_neg e, if_neg e, zi0, c_added hw hS hi, zbs, n32_add, if_pos rfl, show ((1 : Nat) : Int) = 1 from rfl, Int.one_mul]) (fun f t => by
    try dsimp only
    rw [D_X7_marginsOverSets_L4_s]
    unfold D_X7_marginsOverSets_B4
    rw [all7 hw, zbs, zif_t (by rw [c32_lt (by omega) (by omega)]; omega)]) (2 ^ n) zFU 0 0 (by omega) (by omega) (zFU_lt (by omega))
  exact f8
/-- what the reference divides by -/
def vaD (n : Nat) (w : Bool) : Nat := if w then 2 ^ (n - 1) else facN n
theorem r_val (hw : wRel s n v) {i : Nat} {w : Bool} (hi : i < n) : D_X9_value_L26 s (n32 (i : Int)) (zfl w) zFU 0 0 = (D_X9_fraction s (n64 (zit (vaF v (vaC n w) i) (2 ^ n) 0 0)) (n64 (vaD n w : Int))).bind fun p => some (p.1, p.2) := by
  have hn := hw.1.2.2.1
  have hn1 := hw.1.2.1
  have hp := pow_le4 hn
  have hfn : facN n ≤ 24 := by
    have : n = 1 ∨ n = 2 ∨ n = 3 ∨ n = 4 := by omega
    rcases this with rfl | rfl | rfl | rfl <;> decide
  have hpn : 2 ^ (n - 1) ≤ 8 := by
    have : n = 1 ∨ n = 2 ∨ n = 3 ∨ n = 4 := by omega
    rcases this with rfl | rfl | rfl | rfl <;> decide
  have hn1' : n32 (n : Int) - 1 = n32 ((n - 1 : Nat) : Int) := by rw [l32_1, n32_sub]; congr 1; omega
  have h2 : 2 ^ i < 16 := by
    have : i = 0 ∨ i = 1 ∨ i = 2 ∨ i = 3 := by omega
    rcases this with rfl | rfl | rfl | rfl <;> decide
  have f9 := zfold (lo := 0) (hi := 2 ^ n) (step := vaF v (vaC n w) i) (fin := fun t : Int => (D_X9_fraction s (n64 t) (n64 (vaD n w : Int))).bind fun p => some (p.1, p.2)) (fun f S t => D_X9_value_L26 s (n32 (i : Int)) (zfl w) f (n64 t) (n32 (S : Int))) (fun f S t _ hS => by
    have h16 := or16 hS hi hn
    have hd := va_dif hw hS hi
    have key : ∀ (r : Int64 → Int32 → Option (Int32 × zS)) (c : Int), D_X9_value_J79 r s (n32 (i : Int)) (zfl w) (n64 t) (n32 (S : Int)) (n64 c) = r (n64 (t + c * (v (S ||| 2 ^ i) - v S))) (n32 ((S + 1 : Nat) : Int)) := fun r c => by
      unfold D_X9_value_J79
      rw [shl1 i (by omega), dv_or (2 ^ i) h2 S (by omega), zgd_t (czin (by omega) (by omega)), zgd_t (czin (by omega) (by omega)), n32_xn (by omega), n32_xn (by omega), hw.2.1.2.2.2.1 _ h16, hw.2.1.2.2.2.1 S (by omega), n32_sub, n32_64 (by omega) (by omega), n64_mul, n64_add, nsuc]
    try dsimp only
    rw [D_X9_value_L26_s]
    unfold D_X9_value_B26 vaF vaC
    rw [all9 hw, zbs, zif_f (by rw [c32_lt (by omega) (by omega)]; omega), x9_hasL S (by omega) i (by omega), in_ite]
    by_cases e : S.testBit i = true
    · rw [if_pos e, if_pos e, zi1, nsuc]
    · have hpc := pcn_lt n (by omega) S hS i hi (by simpa using e)
      have f1 : facN (pcn S) ≤ 24 := by
        have : ∀ b : Nat, b < 5 → facN b ≤ 24 := by decide
        exact this _ (by omega)
      have f2 : facN (n - 1 - pcn S) ≤ 24 := by
        have : ∀ b : Nat, b < 5 → facN b ≤ 24 := by decide
        exact this _ (by omega)
      rw [if_neg e, if_neg e, zi0, bits_pcn S (by omega), zbs]
      cases w
      · rw [zb0, r_fac _ (by omega), zbs, hw.2.1.1, hn1', n32_sub, show ((n - 1 : Nat) : Int) - (pcn S : Int) = ((n - 1 - pcn S : Nat) : Int) by omega, r_fac _ (by omega), zbs, n32_64 (by omega) (by omega), n32_64 (by omega) (by omega), n64_mul]
        have := key (D_X9_value_L26 s (n32 (i : Int)) (zfl false) f) ((facN (pcn S) : Int) * (facN (n - 1 - pcn S) : Int))
        rw [this, if_neg (by decide)]
        push_cast; rfl
      · rw [zb1]
        have := key (D_X9_value_L26 s (n32 (i : Int)) (zfl true) f) 1
        rw [l64_1, this, if_pos rfl]
        rfl) (fun f t => by
    try dsimp only
    rw [D_X9_value_L26_s]
    unfold D_X9_value_B26 D_X9_value_J139 vaD
    rw [all9 hw, zbs, zif_t (by rw [c32_lt (by omega) (by omega)]; omega), hw.2.1.1]
    cases w
    · rw [zb0, r_fac n (by omega), zbs, n32_64 (by omega) (by omega), if_neg (by decide)]
    · rw [zb1, hn1', shl1 (n - 1) (by omega)]
      generalize 2 ^ (n - 1) = D at hpn ⊢
      rw [n32_64 (by omega) (by omega), if_pos rfl]) (2 ^ n) zFU 0 0 (by omega) (by omega) (zFU_lt (by omega))
  exact f9
theorem call_value (h : Rel s) (hw : wRel s n v) (a b : Int32) : cOk s (fun s => D_X8_value s a b) (fun s => D_X9_value s a b) := by
  obtain ⟨k, rfl, h1, h2⟩ := i32_of a
  obtain ⟨x, rfl, h3, h4⟩ := i32_of b
  have hn := hw.1.2.2.1
  have hn1 := hw.1.2.1
  have hp := pow_le4 hn
  have i9 : D_X9_in (n32 x).toInt64 0 1 = if 0 ≤ x ∧ x ≤ 1 then some 1 else some 0 := in9L (lo := 0) (hi := 1) h3 h4 (by omega) (by omega) (by omega) (by omega)
  by_cases e : 0 ≤ k ∧ k ≤ (n : Int) - 1
  · by_cases e2 : 0 ≤ x ∧ x ≤ 1
    · obtain ⟨i, rfl⟩ : ∃ t : Nat, k = (t : Int) := ⟨k.toNat, by omega⟩
      have hi : i < n := by omega
      have hfn : 1 ≤ facN n ∧ facN n ≤ 24 := by
        have : n = 1 ∨ n = 2 ∨ n = 3 ∨ n = 4 := by omega
        rcases this with rfl | rfl | rfl | rfl <;> decide
      have hpn : 1 ≤ 2 ^ (n - 1) ∧ 2 ^ (n - 1) ≤ 8 := by
        have : n = 1 ∨ n = 2 ∨ n = 3 ∨ n = 4 := by omega
        rcases this with rfl | rfl | rfl | rfl <;> decide
      have hn1' : n32 (n : Int) - 1 = n32 ((n - 1 : Nat) : Int) := by rw [l32_1, n32_sub]; congr 1; omega
      have go : ∀ w : Bool, n32 x = zfl w → D_X8_value s (n32 (i : Int)) (n32 x) = (D_X2_put s 1 (n64 (zit (vaF v (vaC n w) i) (2 ^ n) 0 0)) (n64 (vaD n w : Int))).bind (fun p => some (1, p)) → cOk s (fun s => D_X8_value s (n32 (i : Int)) (n32 x)) (fun s => D_X9_value s (n32 (i : Int)) (n32 x)) := fun w hx e8 => by
        have hb := va_bd hw (w := w) hi (2 ^ n) (Nat.le_refl _)
        have hD : 1 ≤ vaD n w ∧ vaD n w ≤ 24 := by unfold vaD; split <;> omega
        have hp16 : ((2 ^ n : Nat) : Int) ≤ 16 := by omega
        have e9 := fun (t : zS) (ht : wRel t n v) => r_val ht (w := w) hi
        generalize zit (vaF v (vaC n w) i) (2 ^ n) 0 0 = z at e8 hb e9
        refine cOk_frac (s2 := zwL (zwL s 1 0 (n64 ((z : Rat) / ((vaD n w : Int) : Rat)).num)) 1 1 (n64 (((z : Rat) / ((vaD n w : Int) : Rat)).den : Int))) (q := (z : Rat) / ((vaD n w : Int) : Rat)) h ?_ ?_ (fr_r _ _)
        · try dsimp only
          rw [e8, f8_put zshp1 (by omega) (by omega) ⟨by omega, by omega⟩, zbs]
        · have hw1 : wRel (zwL (zwL s 1 0 (n64 ((z : Rat) / ((vaD n w : Int) : Rat)).num)) 1 1 (n64 (((z : Rat) / ((vaD n w : Int) : Rat)).den : Int))) n v := hw
          try dsimp only
          unfold D_X9_value
          have e9' : D_X9_value_L26 (zwL (zwL s 1 0 (n64 ((z : Rat) / ((vaD n w : Int) : Rat)).num)) 1 1 (n64 (((z : Rat) / ((vaD n w : Int) : Rat)).den : Int))) (n32 (i : Int)) (zfl w) zFU 0 0 = _ := e9 _ hw1
          rw [knows9 hw1 h1 h2, if_pos e, zbs, zi1, i9, if_pos e2, zbs, zi1, hx, e9', f9_put (by omega) (by omega) ⟨by omega, by omega⟩, zbs]
      by_cases ex : x = 0
      · refine go false (by rw [ex]; rfl) ?_
        unfold D_X8_value
        have hb := va_bd hw (w := false) hi (2 ^ n) (Nat.le_refl _)
        have hp16 : ((2 ^ n : Nat) : Int) ≤ 16 := by omega
        rw [knows7 hw h1 h2, if_pos e, zbs, zi1, share8 h3 h4, if_pos e2, zbs, zi1, zif_t (by rw [ex]; rfl), c_val0 hw hi, zbs, hw.1.1, c_fac n (by omega), zbs, n32_64 (by omega) (by omega), n32_64 (by omega) (by omega)]
        rfl
      · have ex1 : x = 1 := by omega
        refine go true (by rw [ex1]; rfl) ?_
        unfold D_X8_value
        have hb := va_bd hw (w := true) hi (2 ^ n) (Nat.le_refl _)
        have hp16 : ((2 ^ n : Nat) : Int) ≤ 16 := by omega
        rw [knows7 hw h1 h2, if_pos e, zbs, zi1, share8 h3 h4, if_pos e2, zbs, zi1, zif_f (by rw [ex1]; decide), c_val1 hw hi, zbs, hw.1.1, hn1', shl1b (n - 1) (by omega), n32_64 (by omega) (by omega)]
        rfl
    · refine cOk_same h (r := -2) ?_ ?_
      · try dsimp only
        unfold D_X8_value
        rw [knows7 hw h1 h2, if_pos e, zbs, zi1, share8 h3 h4, if_neg e2, zbs, zi0]
      · try dsimp only
        unfold D_X9_value
        rw [knows9 hw h1 h2, if_pos e, zbs, zi1, i9, if_neg e2, zbs, zi0]
  · refine cOk_same h (r := -2) ?_ ?_
    · try dsimp only
      unfold D_X8_value
      rw [knows7 hw h1 h2, if_neg e, zbs, zi0]
    · try dsimp only
      unfold D_X9_value
      rw [knows9 hw h1 h2, if_neg e, zbs, zi0]
end VA
