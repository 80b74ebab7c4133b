/-! the call paid -/
theorem cnt_pos {p : Nat → Bool} : ∀ (m k t i : Nat), k ≤ i → i < k + m → p i = true → t + 1 ≤ zit (fun j (t : Nat) => if p j then t + 1 else t) m k t := by
  have hge : ∀ (m k t : Nat), t ≤ zit (fun j (t : Nat) => if p j then t + 1 else t) m k t := by
    intro m
    induction m with
    | zero => intro k t; exact Nat.le_refl _
    | succ m ih =>
      intro k t
      rw [zit]
      have := ih (k + 1) (if p k then t + 1 else t)
      split at this <;> split <;> first | omega | contradiction
  intro m
  induction m with
  | zero => intro k t i h1 h2; omega
  | succ m ih =>
    intro k t i h1 h2 h3
    rw [zit]
    by_cases e : i = k
    · rw [← e, h3, if_pos rfl]
      exact hge m (i + 1) (t + 1)
    · have := ih (k + 1) (if p k then t + 1 else t) i (by omega) (by omega) h3
      split at this <;> split <;> first | omega | contradiction
theorem cnt_le {p : Nat → Bool} : ∀ (m k t : Nat), zit (fun j (t : Nat) => if p j then t + 1 else t) m k t ≤ t + m := by
  intro m
  induction m with
  | zero => intro k t; exact Nat.le_refl _
  | succ m ih =>
    intro k t
    rw [zit]
    have := ih (k + 1) (if p k then t + 1 else t)
    split at this <;> split <;> first | omega | contradiction
theorem dv840b : ∀ b : Nat, b < 9 → 1 ≤ b → 840 = b * (840 / b) ∧ 840 / b ≤ 840 := by decide
section DQ
variable {s : zS} {p u : Nat} {h' at' w : Nat → Nat} {c y : Nat → Int}
def mwN (w at' : Nat → Nat) (u pl : Nat) : Nat := zit (fun j (t : Nat) => if (w (at' j)).testBit pl then t + 1 else t) u 0 0
theorem c_users (ht : tRel s p h' c w u at' y) {pl : Nat} (hpl : pl < p) : D_X6_usersOfWay s (n32 (pl : Int)) = some (n32 (mwN w at' u pl : Int)) := by
  have hp := ht.1.2.2
  have hu := ht.2.2.2.2.1.2.2
  refine zfold (lo := 0) (hi := u) (step := fun j (t : Nat) => if (w (at' j)).testBit pl then t + 1 else t) (fin := fun t : Nat => some (n32 (t : Int))) (fun f j t => D_X6_usersOfWay_L4 s (n32 (pl : Int)) f (n32 (t : Int)) (n32 (j : Int))) (fun f j t _ hj => ?_) (fun f t => ?_) u zFU 0 0 (by omega) (by omega) (zFU_lt (by omega))
  · try dsimp only
    rw [D_X6_usersOfWay_L4_s]
    unfold D_X6_usersOfWay_B4
    rw [ht.2.2.2.2.1.1, zif_f (by rw [c32_le (by omega) (by omega)]; omega), c_ways ht hj, zbs, x8_hasL _ (way_in ht hj) pl (by omega), in_ite, nsuc, nsuc]
    cases (w (at' j)).testBit pl
    · rw [if_neg (by decide), zi0]; rfl
    · rw [if_pos rfl, zi1]; rfl
  · try dsimp only
    rw [D_X6_usersOfWay_L4_s]
    unfold D_X6_usersOfWay_B4
    rw [ht.2.2.2.2.1.1, zif_t (Int32.le_refl _)]
def paV (c : Nat → Int) (w at' : Nat → Nat) (u i pl : Nat) (t : Int) : Int := if (w (at' i)).testBit pl then t + c pl * ((840 / mwN w at' u pl : Nat) : Int) else t
theorem pa_bd (ht : tRel s p h' c w u at' y) {i : Nat} (hi : i < u) : 0 ≤ zit (paV c w at' u i) (p - 1) 1 0 ∧ zit (paV c w at' u i) (p - 1) 1 0 ≤ 10000000 := by
  have hp := ht.1.2.2
  have hu := ht.2.2.2.2.1.2.2
  have h := zit_inv (fun k (t : Int) => 0 ≤ t ∧ t ≤ 840000 * (k : Int)) (step := paV c w at' u i) (p - 1) 1 0 ⟨by omega, by omega⟩ (fun j t h1 h2 hP => by
    obtain ⟨-, -, -, -, -, q6, q7, -⟩ := ht.2.1 j h1 (by omega)
    try dsimp only
    unfold paV
    by_cases e : (w (at' i)).testBit j = true
    · have b1 : 1 ≤ mwN w at' u j := by
        have := cnt_pos (p := fun j' => (w (at' j')).testBit j) u 0 0 i (by omega) (by omega) e
        unfold mwN
        omega
      have b2 : mwN w at' u j ≤ u := by
        have := cnt_le (p := fun j' => (w (at' j')).testBit j) u 0 0
        unfold mwN
        omega
      obtain ⟨-, d2⟩ := dv840b (mwN w at' u j) (by omega) b1
      generalize 840 / mwN w at' u j = D at d2 ⊢
      have h4 := Int.mul_nonneg q6 (show (0 : Int) ≤ (D : Int) by omega)
      have h5 := abs_mul (a := c j) (b := (D : Int)) (A := 1000) (B := 840) (by omega) q7 (by omega) (by omega)
      rw [if_pos e]
      omega
    · rw [if_neg e]; omega)
  omega
theorem c_paid (ht : tRel s p h' c w u at' y) {i : Nat} (hi : i < u) : D_X6_partsOfWays s (n32 (i : Int)) = some (n32 (zit (paV c w at' u i) (p - 1) 1 0)) := by
  have hp := ht.1.2.2
  have hu := ht.2.2.2.2.1.2.2
  refine zfold (lo := 1) (hi := p) (step := paV c w at' u i) (fin := fun t : Int => some (n32 t)) (fun f pl t => D_X6_partsOfWays_L4 s (n32 (i : Int)) f (n32 t) (n32 (pl : Int))) (fun f pl t h1 h2 => ?_) (fun f t => ?_) (p - 1) zFU 1 0 (by omega) (by omega) (zFU_lt (by omega))
  · obtain ⟨-, -, -, q4, -⟩ := ht.2.1 pl h1 h2
    try dsimp only
    rw [D_X6_partsOfWays_L4_s]
    unfold D_X6_partsOfWays_B4 paV
    rw [ht.1.1, zif_f (by rw [c32_le (by omega) (by omega)]; omega), c_ways ht hi, zbs, x8_hasL _ (way_in ht hi) pl (by omega), in_ite, nsuc]
    by_cases e : (w (at' i)).testBit pl = true
    · have b1 : 1 ≤ mwN w at' u pl := by
        have := cnt_pos (p := fun j' => (w (at' j')).testBit pl) u 0 0 i (by omega) (by omega) e
        unfold mwN
        omega
      have b2 : mwN w at' u pl ≤ u := by
        have := cnt_le (p := fun j' => (w (at' j')).testBit pl) u 0 0
        unfold mwN
        omega
      obtain ⟨d1, d2, -⟩ := dv840 (mwN w at' u pl) (by omega) b1
      rw [if_pos e, zi1, zgd_t (czin (by omega) (by omega)), c_users ht h2, zbs, zmax1 b1 (by omega), zif_f d1, d2, n32_xn (by omega), q4, n32_mul, n32_add, if_pos e]
    · rw [if_neg e, zi0, if_neg e]
  · try dsimp only
    rw [D_X6_partsOfWays_L4_s]
    unfold D_X6_partsOfWays_B4
    rw [ht.1.1, zif_t (Int32.le_refl _)]
theorem r_paid (ht : tRel s p h' c w u at' y) {i : Nat} (hi : i < u) : D_X9_paid_L16 s (n32 (i : Int)) zFU 0 1 = (D_X9_fraction s (n64 (zit (paV c w at' u i) (p - 1) 1 0)) 840).bind fun p => some (p.1, p.2) := by
  have hp := ht.1.2.2
  have hu := ht.2.2.2.2.1.2.2
  refine zfold (lo := 1) (hi := p) (step := paV c w at' u i) (fin := fun t : Int => (D_X9_fraction s (n64 t) 840).bind fun p => some (p.1, p.2)) (fun f pl t => D_X9_paid_L16 s (n32 (i : Int)) f (n64 t) (n32 (pl : Int))) (fun f pl t h1 h2 => ?_) (fun f t => ?_) (p - 1) zFU 1 0 (by omega) (by omega) (zFU_lt (by omega))
  · obtain ⟨-, -, -, -, q5, q6, q7, -⟩ := ht.2.1 pl h1 h2
    try dsimp only
    rw [D_X9_paid_L16_s]
    unfold D_X9_paid_B16
    rw [ht.1.2.1, zif_f (by rw [c32_le (by omega) (by omega)]; omega)]
    have h31 := zfold (lo := 0) (hi := u) (step := fun j (m : Nat) => if (w (at' j)).testBit pl then m + 1 else m) (fin := fun m : Nat => D_X9_paid_B31 (D_X9_paid_L16 s (n32 (i : Int)) f) s (n32 (i : Int)) (n64 t) (n32 (pl : Int)) (fun _ _ => none) (n32 (m : Int)) (n32 (u : Int))) (fun g j m => D_X9_paid_L31 (D_X9_paid_L16 s (n32 (i : Int)) f) s (n32 (i : Int)) (n64 t) (n32 (pl : Int)) g (n32 (m : Int)) (n32 (j : Int))) (fun g j m _ hj => ?_) (fun g m => ?_) u zFU 0 0 (by omega) (by omega) (zFU_lt (by omega))
    · have h31' : D_X9_paid_L31 (D_X9_paid_L16 s (n32 (i : Int)) f) s (n32 (i : Int)) (n64 t) (n32 (pl : Int)) zFU 0 0 = D_X9_paid_B31 (D_X9_paid_L16 s (n32 (i : Int)) f) s (n32 (i : Int)) (n64 t) (n32 (pl : Int)) (fun _ _ => none) (n32 (mwN w at' u pl : Int)) (n32 (u : Int)) := h31
      rw [h31']
      unfold D_X9_paid_B31 D_X9_paid_J98 paV
      rw [ht.2.2.2.2.1.2.1, zif_t (Int32.le_refl _), r_on ht h1 h2 hi, zbs, nsuc]
      by_cases e : (w (at' i)).testBit pl = true
      · have b1 : 1 ≤ mwN w at' u pl := by
          have := cnt_pos (p := fun j' => (w (at' j')).testBit pl) u 0 0 i (by omega) (by omega) e
          unfold mwN
          omega
        have b2 : mwN w at' u pl ≤ u := by
          have := cnt_le (p := fun j' => (w (at' j')).testBit pl) u 0 0
          unfold mwN
          omega
        obtain ⟨d1, d2⟩ := dv840b (mwN w at' u pl) (by omega) b1
        generalize mwN w at' u pl = b at b1 b2 d1 d2 ⊢
        have hdv : (840 * c pl).tdiv (b : Int) = c pl * ((840 / b : Nat) : Int) := by
          have e1 : (840 : Int) * c pl = (b : Int) * (c pl * ((840 / b : Nat) : Int)) := by
            have e2 : (840 : Int) = (b : Int) * ((840 / b : Nat) : Int) := by
              rw [← Int.natCast_mul, ← d1]; rfl
            rw [Int.mul_left_comm, ← e2, Int.mul_comm]
          rw [e1, Int.mul_tdiv_cancel_left _ (by omega)]
        rw [e, zb1, zgd_t (czin (by omega) (by omega)), n32_xn (by omega), q5, n32_64 (by omega) (by omega), n32_64 (by omega) (by omega), zif_f (fun q => by rw [l64_0] at q; have := (n64_eq (by omega) (by omega) (by omega) (by omega)).mp q; omega), show (840 : Int64) = n64 840 from rfl, n64_mul, n64_div (by omega) (by omega) (by omega) (by omega), hdv, n64_add, if_pos rfl]
      · have e' : (w (at' i)).testBit pl = false := by simpa using e
        rw [e', zb0, l64_0, n64_add, Int.add_zero]; rfl
    · try dsimp only
      rw [D_X9_paid_L31_s]
      unfold D_X9_paid_B31 D_X9_paid_J58
      rw [ht.2.2.2.2.1.2.1, zif_f (by rw [c32_le (by omega) (by omega)]; omega), r_on ht h1 h2 hj, zbs, nsuc]
      cases (w (at' j)).testBit pl
      · rw [zb0, n32_0r]; rfl
      · rw [zb1, nsuc]; rfl
    · try dsimp only
      rw [D_X9_paid_L31_s]
      unfold D_X9_paid_B31
      rw [ht.2.2.2.2.1.2.1, zif_t (Int32.le_refl _), zif_t (Int32.le_refl _)]
  · try dsimp only
    rw [D_X9_paid_L16_s]
    unfold D_X9_paid_B16
    rw [ht.1.2.1, zif_t (Int32.le_refl _)]
theorem call_paid (h : Rel s) (ht : tRel s p h' c w u at' y) (a : Int32) : cOk s (fun s => D_X8_paid s a) (fun s => D_X9_paid s a) := by
  obtain ⟨k, rfl, h1, h2⟩ := i32_of a
  by_cases e : 0 ≤ k ∧ k < (u : Int)
  · obtain ⟨i, rfl⟩ : ∃ t : Nat, k = (t : Int) := ⟨k.toNat, by omega⟩
    have hi : i < u := by omega
    have hb := pa_bd ht hi
    have r9 := fun (t : zS) (ht : tRel t p h' c w u at' y) => r_paid ht hi
    have e8 := c_paid ht hi
    generalize zit (paV c w at' u i) (p - 1) 1 0 = z at hb r9 e8
    refine cOk_frac (s2 := zwL (zwL s 1 0 (n64 ((z : Rat) / ((840 : Int) : Rat)).num)) 1 1 (n64 (((z : Rat) / ((840 : Int) : Rat)).den : Int))) (q := (z : Rat) / ((840 : Int) : Rat)) h ?_ ?_ (fr_r _ _)
    · try dsimp only
      unfold D_X8_paid
      rw [user8 ht h1 h2, if_pos e, zbs, zi1, e8, zbs, n32_64 (by omega) (by omega), show (840 : Int64) = n64 840 from rfl, f8_put zshp1 (by omega) (by omega) ⟨by omega, by omega⟩, zbs]
    · have ht1 : tRel (zwL (zwL s 1 0 (n64 ((z : Rat) / ((840 : Int) : Rat)).num)) 1 1 (n64 (((z : Rat) / ((840 : Int) : Rat)).den : Int))) p h' c w u at' y := ht
      try dsimp only
      unfold D_X9_paid
      rw [user9 ht1 h1 h2, if_pos e, zbs, zi1, r9 _ ht1, show (840 : Int64) = n64 840 from rfl, f9_put (by omega) (by omega) ⟨by omega, by omega⟩, zbs]
  · refine cOk_same h (r := -2) ?_ ?_
    · try dsimp only
      unfold D_X8_paid
      rw [user8 ht h1 h2, if_neg e, zbs, zi0]
    · try dsimp only
      unfold D_X9_paid
      rw [user9 ht h1 h2, if_neg e, zbs, zi0]
end DQ
