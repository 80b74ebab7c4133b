/-! the least pay's board at its start -/
def lpS (n r : Nat) : Nat := if r < n then 2 ^ r else if r = n then 2 ^ n - 1 else r - n
def lpv (n : Nat) (v : Nat → Int) (r : Nat) : Int := if r ≤ n then 0 else v (r - n)
theorem lpT_eq (n : Nat) (v : Nat → Int) (r : Nat) : lpT n v r = rHavK n (lpS n r) (lpv n v r) := by
  unfold lpT lpS lpv
  by_cases h1 : r < n
  · rw [if_pos h1, if_pos h1, if_pos (by omega)]
  · rw [if_neg h1, if_neg h1]
    by_cases h2 : r = n
    · rw [if_pos h2, if_pos h2, if_pos (by omega)]
    · rw [if_neg h2, if_neg h2, if_neg (by omega)]
theorem hb_z {S n i : Nat} (h : S < 2 ^ n) (hi : n ≤ i) : hb S i = 0 := by
  unfold hb
  rw [Nat.testBit_lt_two_pow (Nat.lt_of_lt_of_le h (Nat.pow_le_pow_right (by omega) hi))]
  rfl
theorem lpS_lt {n r : Nat} (hr : r < n + 2 ^ n) : lpS n r < 2 ^ n := by
  unfold lpS
  by_cases h1 : r < n
  · rw [if_pos h1]; exact Nat.pow_lt_pow_right (by omega) h1
  · rw [if_neg h1]
    have : 0 < 2 ^ n := Nat.pos_of_ne_zero (by intro q; have := Nat.pow_eq_zero.mp q; omega)
    by_cases h2 : r = n
    · rw [if_pos h2]; omega
    · rw [if_neg h2]; omega
def xS (w : Nat → Rat) (S : Nat) : Rat := (((hb S 0 : Nat) : Int) : Rat) * w 0 + (((hb S 1 : Nat) : Int) : Rat) * w 1 + (((hb S 2 : Nat) : Int) : Rat) * w 2 + (((hb S 3 : Nat) : Int) : Rat) * w 3
theorem rHav_val {n S : Nat} {v : Int} {w : Nat → Rat} (hn1 : 1 ≤ n) (hn : n ≤ 4) (hS : S < 2 ^ n) : xS w S - (v : Rat) = rV n (rHavK n S v) (fun j (w : Nat → Rat) => 1000 - w j) w := by
  have hz : ∀ i, n ≤ i → hb S i = 0 := fun i hi => hb_z hS hi
  have hc : n = 1 ∨ n = 2 ∨ n = 3 ∨ n = 4 := by omega
  rcases hc with rfl | rfl | rfl | rfl
  · have z1 := hz 1 (by omega); have z2 := hz 2 (by omega); have z3 := hz 3 (by omega)
    simp [xS, rV, zsum, rHavK, z1, z2, z3]
    grind
  · have z2 := hz 2 (by omega); have z3 := hz 3 (by omega)
    simp [xS, rV, zsum, rHavK, z2, z3]
    grind
  · have z3 := hz 3 (by omega)
    simp [xS, rV, zsum, rHavK, z3]
    grind
  · simp [xS, rV, zsum, rHavK]
    grind
def lpX (n : Nat) (w : Nat → Rat) (i : Nat) : Rat := if i < n then w i else 0
def lpVec (S i : Nat) : Int := if i < 4 then (hb S i : Int) else 0
def lpM (n i j : Nat) : Int := if i = j then (if j < n then -1 else 1) else 0
theorem lpM_det : ∀ n : Nat, n ≤ 4 → det5 (lpM n) ≠ 0 := by decide +kernel
theorem lpVec_pm (S : Nat) : pm1 (lpVec S) := ⟨1, Or.inl rfl, fun i _ => by
  unfold lpVec
  split
  · rcases hb_01 S i with q | q <;> rw [q] <;> simp
  · simp⟩
theorem lpM_pm (n j : Nat) : pm1 (fun i => lpM n i j) := by
  by_cases h : j < n
  · refine ⟨-1, Or.inr rfl, fun i _ => ?_⟩
    unfold lpM
    dsimp only
    by_cases q : i = j
    · right; rw [if_pos q, if_pos h]; rfl
    · left; rw [if_neg q]; rfl
  · refine ⟨1, Or.inl rfl, fun i _ => ?_⟩
    unfold lpM
    dsimp only
    by_cases q : i = j
    · right; rw [if_pos q, if_neg h]; rfl
    · left; rw [if_neg q]; rfl
theorem lpVec_dot {n S : Nat} {w : Nat → Rat} (hn : n ≤ 4) (hS : S < 2 ^ n) : dot5 (lpVec S) (lpX n w) = xS w S := by
  have hz : ∀ i, n ≤ i → hb S i = 0 := fun i hi => hb_z hS hi
  have e : ∀ i, i < 4 → (lpVec S i : Rat) * lpX n w i = (((hb S i : Nat) : Int) : Rat) * w i := fun i hi => by
    unfold lpVec lpX
    rw [if_pos hi]
    by_cases q : i < n
    · rw [if_pos q]
    · rw [if_neg q, hz i (by omega)]; simp
  have e4 : lpVec S 4 = 0 := by unfold lpVec; rw [if_neg (by omega)]
  unfold dot5 xS
  rw [e 0 (by omega), e 1 (by omega), e 2 (by omega), e 3 (by omega), e4]
  simp only [Rat.intCast_zero, Rat.zero_mul, Rat.add_zero]
theorem lpM_dot {n j : Nat} {w : Nat → Rat} (hj : j < 5) : dot5 (fun i => lpM n i j) (lpX n w) = if j < n then -w j else 0 := by
  have hc : j = 0 ∨ j = 1 ∨ j = 2 ∨ j = 3 ∨ j = 4 := by omega
  rcases hc with rfl | rfl | rfl | rfl | rfl <;> simp [dot5, lpM, lpX] <;> split <;> simp <;> grind
/-- the least pay's board at its start -/
theorem lp_start {s : zS} {n : Nat} {v : Nat → Int} (hw : wOk s n v) (h : bEnc s (n + 2 ^ n) n (lpR n) (fun _ => 0) (lpT n v)) :
    bI s (fun _ : Nat → Rat => True) (n + 2 ^ n) n (lpR n) (fun _ => 0) (lpT n v) (fun r w => xS w (lpS n r) - (lpv n v r : Rat)) (fun j w => 1000 - w j) (lpX n) (fun r => lpVec (lpS n r)) (fun r => (lpv n v r : Rat)) (lpM n) (fun j => if j < n then -1000 else 0) 1 1000 := by
  obtain ⟨w1, w2, w3, w4, w5⟩ := hw
  have hp := pow_le4 w3
  have hv : ∀ r, r < n + 2 ^ n → -1000 ≤ lpv n v r ∧ lpv n v r ≤ 1000 := fun r hr => by
    unfold lpv
    by_cases q : r ≤ n
    · rw [if_pos q]; omega
    · rw [if_neg q]; exact w5 _ (by omega)
  refine ⟨h, ⟨fun r hr => ?_, fun w _ r hr => ?_, fun t => ⟨fun j => 1000 - t j, trivial, fun j hj => ?_⟩⟩, ⟨by omega, fun w _ r hr => ?_, fun w _ j hj => ?_, fun w _ j hj1 hj2 => ?_, fun r hr => lpVec_pm _, fun j hj => lpM_pm n j, lpM_det n w3, by omega, fun r hr => ⟨lpv n v r, ?_, ?_, ?_⟩, fun j hj => ⟨if j < n then -1000 else 0, ?_, ?_, ?_⟩⟩, fun r hr => ?_, by omega, by omega, by omega⟩
  · rw [lpT_eq]; show 0 < (1 : Int); omega
  · rw [lpT_eq, ← rHav_val w2 w3 (lpS_lt hr)]
    show ((1 : Int) : Rat) * _ = _
    rw [Rat.intCast_one, Rat.one_mul]
  · show 1000 - (1000 - t j) = t j
    grind
  · show _ = dot5 (lpVec (lpS n r)) (lpX n w) - _
    rw [lpVec_dot w3 (lpS_lt hr)]
  · show 1000 - w j = _
    rw [lpM_dot (by omega), if_pos hj]
    dsimp only
    rw [if_pos hj]; grind
  · rw [lpM_dot hj2, if_neg (by omega)]
    dsimp only
    rw [if_neg (by omega)]
  · rw [Rat.intCast_one, Rat.one_mul]
  · have := hv r hr; omega
  · have := hv r hr; omega
  · rw [Rat.intCast_one, Rat.one_mul]
    dsimp only
    by_cases q : j < n
    · rw [if_pos q, if_pos q]; rfl
    · rw [if_neg q, if_neg q]; rfl
  · by_cases q : j < n
    · rw [if_pos q]; omega
    · rw [if_neg q]; omega
  · by_cases q : j < n
    · rw [if_pos q]; omega
    · rw [if_neg q]; omega
  · have hbb := hb_01 (lpS n r)
    have b0 := hbb 0
    have b1 := hbb 1
    have b2 := hbb 2
    have b3 := hbb 3
    have hvr := hv r hr
    rw [lpT_eq]
    refine ⟨?_, ?_, fun j hj => ?_⟩
    · show (if (0 : Nat) = 0 then (1 : Int) else _) ≤ _
      rw [if_pos rfl]; omega
    · unfold rHavK
      rw [if_neg (by omega), if_pos rfl]
      omega
    · unfold rHavK
      rw [if_neg (by omega), if_neg (by omega), if_pos (by omega)]
      have := hbb (2 + j - 2)
      omega
