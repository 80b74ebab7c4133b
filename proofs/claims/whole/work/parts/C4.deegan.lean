/-! the calls power and deegan, closed -/
section VR
variable {s : zS} {m : Nat} {W : Nat → Int} {q : Int} {j : Nat}
theorem bool_iff {a b : Bool} (h : a = true ↔ b = true) : a = b := by
  cases a <;> cases b <;> simp_all
theorem blocks_is (hv : vRel s m W q) (hj : j < m) : (vwin m W q (2 ^ m - 1) && zall (fun S => S.testBit j || !vwin m W q S) (2 ^ m) 0) = (vwin m W q (2 ^ m - 1) && !vwin m W q (2 ^ m - 1 - 2 ^ j)) := by
  have hm := hv.1.2.2
  have hp := pow_le8 hm
  have hall : (2 ^ m - 1).testBit j = true := by rw [Nat.testBit_two_pow_sub_one, decide_eq_true hj]
  have hsub := sub_bit (2 ^ m - 1) (by omega) j (by omega) hall
  have h2j : 1 ≤ 2 ^ j := Nat.one_le_two_pow
  congr 1
  refine bool_iff ?_
  rw [zall_iff]
  constructor
  · intro h
    have := h (2 ^ m - 1 - 2 ^ j) (by omega) (by omega)
    rw [hsub j (by omega), hall, decide_eq_false (by omega)] at this
    exact this
  · intro h S _ hS
    try dsimp only
    cases e : S.testBit j
    · rw [Bool.false_or]
      have hle : ldV W m S ≤ ldV W m (2 ^ m - 1 - 2 ^ j) := ld_mono m (fun i hi => (hv.2.1 i hi).2.2.1) (fun i hi hb => by
        rw [hsub i (by omega), Nat.testBit_two_pow_sub_one, decide_eq_true hi, decide_eq_true (show i ≠ j from fun q => by rw [q, e] at hb; exact absurd hb (by decide))]; rfl)
      unfold vwin at h ⊢
      by_cases e2 : q ≤ ldV W m S
      · rw [decide_eq_true (show q ≤ ldV W m (2 ^ m - 1 - 2 ^ j) by omega)] at h
        exact absurd h (by decide)
      · rw [decide_eq_false e2]; rfl
    · rfl
def paF (m : Nat) (W : Nat → Int) (q : Int) (j S t : Nat) : Nat := if S.testBit j && vleast m W q S then t + 840 / pc8 S else t
theorem dv840 : ∀ b : Nat, b < 9 → 1 ≤ b → ¬ n32 (b : Int) = 0 ∧ (840 : Int32) / n32 (b : Int) = n32 ((840 / b : Nat) : Int) ∧ 105 ≤ 840 / b ∧ 840 / b ≤ 840 := by decide +kernel
theorem zmax1 {b : Nat} (h : 1 ≤ b) (h2 : b < 1000) : zmax (1 : Int32) (n32 (b : Int)) = n32 (b : Int) := by
  rw [l32_1, zmax_n (by omega) (by omega)]
  split
  · rfl
  · congr 1; omega
theorem c_parts (hv : vRel s m W q) (hj : j < m) : D_X5_partsOfLeastSets s (n32 (j : Int)) = some (n32 ((zit (paF m W q j) (2 ^ m - 1) 1 0 : Nat) : Int)) := by
  have hm := hv.1.2.2
  have hp := pow_le8 hm
  refine zfold (lo := 1) (hi := 2 ^ m) (step := paF m W q j) (fin := fun t : Nat => some (n32 (t : Int))) (fun f S t => D_X5_partsOfLeastSets_L4 s (n32 (j : Int)) f (n32 (t : Int)) (n32 (S : Int))) (fun f S t h1 hS => ?_) (fun f t => ?_) (2 ^ m - 1) zFU 1 0 (by omega) (by omega) (zFU_lt (by omega))
  · try dsimp only
    rw [D_X5_partsOfLeastSets_L4_s]
    unfold D_X5_partsOfLeastSets_B4 paF
    rw [c_allv hv, zbs, zif_f (by rw [c32_lt (by omega) (by omega)]; omega), x8_hasL S (by omega) j (by omega), in_ite, nsuc]
    by_cases e : S.testBit j = true
    · have h1 := pc8_pos S (by omega) j (by omega) e
      have h2 := pc8_le S
      obtain ⟨d1, d2, -⟩ := dv840 (pc8 S) (by omega) h1
      rw [if_pos e, zi1, c_least hv hS, zbs, e, Bool.true_and]
      cases vleast m W q S
      · rw [zb0]; rfl
      · rw [zb1, j6_pc8 S (by omega), zbs, zmax1 h1 (by omega), zif_f d1, d2, n32_add]; rfl
    · rw [if_neg e, zi0, show S.testBit j = false by simpa using e]; rfl
  · try dsimp only
    rw [D_X5_partsOfLeastSets_L4_s]
    unfold D_X5_partsOfLeastSets_B4
    rw [c_allv hv, zbs, zif_t (by rw [c32_lt (by omega) (by omega)]; omega)]
theorem pa_zero (hm : m ≤ 8) (hj : j < m) : ∀ (d S t : Nat), S + d ≤ 2 ^ m → t ≤ zit (paF m W q j) d S t ∧ zit (paF m W q j) d S t ≤ t + 840 * d ∧ (zit (paF m W q j) d S t = t ↔ zall (fun S => !S.testBit j || !vleast m W q S) d S = true) := by
  have hp := pow_le8 hm
  intro d
  induction d with
  | zero => intro S t _; exact ⟨Nat.le_refl _, Nat.le_refl _, fun _ => rfl, fun _ => rfl⟩
  | succ d ih =>
    intro S t hS
    obtain ⟨i1, i2, i3⟩ := ih (S + 1) (paF m W q j S t) (by omega)
    rw [zit, zall]
    have hcase : (S.testBit j && vleast m W q S) = true ∨ (S.testBit j && vleast m W q S) = false := by cases (S.testBit j && vleast m W q S) <;> simp
    rcases hcase with e | e
    · have e1 : S.testBit j = true := (Bool.and_eq_true _ _ ▸ e).1
      have e2 : vleast m W q S = true := (Bool.and_eq_true _ _ ▸ e).2
      have h1 := pc8_pos S (by omega) j (by omega) e1
      have h2 := pc8_le S
      obtain ⟨-, -, d3, d4⟩ := dv840 (pc8 S) (by omega) h1
      have hpa : paF m W q j S t = t + 840 / pc8 S := by unfold paF; rw [e]; rfl
      rw [hpa] at i1 i2 i3 ⊢
      refine ⟨by omega, by omega, fun h => by omega, fun h => ?_⟩
      rw [e1, e2] at h
      exact absurd h (by rw [Bool.not_true, Bool.or_self, Bool.false_and]; decide)
    · have hpa : paF m W q j S t = t := by unfold paF; rw [e]; rfl
      rw [hpa] at i1 i2 i3 ⊢
      have e3 : (!S.testBit j || !vleast m W q S) = true := by
        cases h1 : S.testBit j
        · rfl
        · rw [h1, Bool.true_and] at e
          rw [e]; rfl
      refine ⟨by omega, by omega, ?_⟩
      rw [i3, e3, Bool.true_and]
theorem call_power (hv : vRel s m W q) (a b : Int32) : cPu (D_X8_power s a b) (D_X9_power s a b) := by
  obtain ⟨k, rfl, h1, h2⟩ := i32_of a
  obtain ⟨x, rfl, h3, h4⟩ := i32_of b
  have hm := hv.1.2.2
  have hp := pow_le8 hm
  have i9 : D_X9_in (n32 x).toInt64 0 3 = if 0 ≤ x ∧ x ≤ 3 then some 1 else some 0 := in9L (lo := 0) (hi := 3) h3 h4 (by omega) (by omega) (by omega) (by omega)
  unfold D_X8_power D_X9_power
  rw [voter8 hv h1 h2, voter9 hv h1 h2]
  by_cases e : 0 ≤ k ∧ k < (m : Int)
  · obtain ⟨j, rfl⟩ : ∃ t : Nat, k = (t : Int) := ⟨k.toNat, by omega⟩
    have hj : j < m := by omega
    rw [if_pos e, zbs, zbs, zi1, zi1, i9]
    by_cases e2 : 0 ≤ x ∧ x ≤ 3
    · rw [if_pos e2, zbs, zi1, r_allv hv, zbs, r_win hv (by omega), zbs, r_power hv hj]
      have hx : x = 0 ∨ x = 1 ∨ x = 2 ∨ x = 3 := by omega
      rcases hx with rfl | rfl | rfl | rfl
      · rw [zif_t (show n32 0 = (0 : Int32) from rfl), zif_t (show n32 0 = (0 : Int32) from rfl), c_turns hv hj]
        exact ⟨_, rfl, rfl⟩
      · rw [zif_f (show ¬ n32 1 = (0 : Int32) by decide), zif_f (show ¬ n32 1 = (0 : Int32) by decide), zif_t (show n32 1 = (1 : Int32) from rfl), zif_t (show n32 1 = (1 : Int32) from rfl), c_pivots hv hj]
        exact ⟨_, rfl, rfl⟩
      · have hall : (2 ^ m - 1).testBit j = true := by rw [Nat.testBit_two_pow_sub_one, decide_eq_true hj]
        have hge := tb_ge hall
        have h2j : 1 ≤ 2 ^ j := Nat.one_le_two_pow
        rw [zif_f (show ¬ n32 2 = (0 : Int32) by decide), zif_f (show ¬ n32 2 = (0 : Int32) by decide), zif_f (show ¬ n32 2 = (1 : Int32) by decide), zif_f (show ¬ n32 2 = (1 : Int32) by decide), zif_t (show n32 2 = (2 : Int32) from rfl), zif_t (show n32 2 = (2 : Int32) from rfl), blocks_is hv hj]
        unfold D_X5_isBlocking D_X5_isBlocking_J30
        rw [c_allv hv, zbs, c_win hv (by omega), zbs, zbs, shlL j (by omega), n32_sub, show ((2 ^ m - 1 : Nat) : Int) - ((2 ^ j : Nat) : Int) = ((2 ^ m - 1 - 2 ^ j : Nat) : Int) by omega, c_win hv (by omega), zbs]
        cases vwin m W q (2 ^ m - 1)
        · rw [zb0]; exact ⟨0, rfl, rfl⟩
        · rw [zb1]
          cases vwin m W q (2 ^ m - 1 - 2 ^ j)
          · rw [zb0]; exact ⟨1, rfl, rfl⟩
          · rw [zb1]; exact ⟨0, rfl, rfl⟩
      · have hpz := pa_zero (W := W) (q := q) hm hj (2 ^ m - 1) 1 0 (by omega)
        have hz : zall (fun S => !S.testBit j || !vleast m W q S) (2 ^ m) 0 = zall (fun S => !S.testBit j || !vleast m W q S) (2 ^ m - 1) 1 := by
          obtain ⟨d, hd⟩ : ∃ t, 2 ^ m = t + 1 := ⟨2 ^ m - 1, by omega⟩
          rw [hd, zall, Nat.zero_testBit]; rfl
        rw [zif_f (show ¬ n32 3 = (0 : Int32) by decide), zif_f (show ¬ n32 3 = (0 : Int32) by decide), zif_f (show ¬ n32 3 = (1 : Int32) by decide), zif_f (show ¬ n32 3 = (1 : Int32) by decide), zif_f (show ¬ n32 3 = (2 : Int32) by decide), zif_f (show ¬ n32 3 = (2 : Int32) by decide), zif_t (show n32 3 = (3 : Int32) from rfl), hz]
        unfold D_X5_isIdle
        rw [c_parts hv hj, zbs]
        obtain ⟨p1, p2, p3⟩ := hpz
        by_cases e3 : zit (paF m W q j) (2 ^ m - 1) 1 0 = 0
        · rw [zif_t (by rw [e3]; rfl), zbs, zi1, p3.mp e3]
          exact ⟨1, rfl, rfl⟩
        · have hf : zall (fun S => !S.testBit j || !vleast m W q S) (2 ^ m - 1) 1 = false := by
            cases h : zall (fun S => !S.testBit j || !vleast m W q S) (2 ^ m - 1) 1
            · rfl
            · exact absurd (p3.mpr h) e3
          rw [zif_f (fun h => e3 (by rw [l32_0] at h; have := (n32_eq (by omega) (by omega) (by omega) (by omega)).mp h; omega)), zbs, zi0, hf]
          exact ⟨0, rfl, rfl⟩
    · rw [if_neg e2, zbs, zi0, l32_0, zif_f (fun h => e2 (by have := (n32_eq (by omega) (by omega) (by omega) (by omega)).mp h; omega)), l32_1, zif_f (fun h => e2 (by have := (n32_eq (by omega) (by omega) (by omega) (by omega)).mp h; omega)), l32_2, zif_f (fun h => e2 (by have := (n32_eq (by omega) (by omega) (by omega) (by omega)).mp h; omega)), l32_3, zif_f (fun h => e2 (by have := (n32_eq (by omega) (by omega) (by omega) (by omega)).mp h; omega))]
      exact ⟨_, rfl, rfl⟩
  · rw [if_neg e, zbs, zbs, zi0, zi0]
    exact ⟨_, rfl, rfl⟩
theorem r_deegan (hv : vRel s m W q) (hj : j < m) : D_X9_deegan_L19 s (n32 (j : Int)) zFU 0 0 0 = if zit (lcF m W q) (2 ^ m - 1) 1 0 = 0 then some (0, s) else (D_X9_fraction s (n64 ((zit (paF m W q j) (2 ^ m - 1) 1 0 : Nat) : Int)) (n64 ((840 * zit (lcF m W q) (2 ^ m - 1) 1 0 : Nat) : Int))).bind fun p => some (p.1, p.2) := by
  have hm := hv.1.2.2
  have hp := pow_le8 hm
  have h := zfoldP (lo := 0) (hi := 2 ^ m) (step := fun S (t : Nat × Nat) => (paF m W q j S t.1, lcF m W q S t.2)) (fin := fun t : Nat × Nat => if t.2 = 0 then some (0, s) else (D_X9_fraction s (n64 (t.1 : Int)) (n64 ((840 * t.2 : Nat) : Int))).bind fun p => some (p.1, p.2)) (fun S t => t.2 ≤ S) (fun f S t => D_X9_deegan_L19 s (n32 (j : Int)) f (n64 (t.1 : Int)) (n32 (t.2 : Int)) (n32 (S : Int))) (fun f S t _ hS ht => ?_) (fun f t ht => ?_) (2 ^ m) zFU 0 (0, 0) (by omega) (by omega) (zFU_lt (by omega)) (Nat.le_refl _)
  · have h' := h.2
    rw [zit_pair (f := paF m W q j) (g := lcF m W q), zit_0 (step := paF m W q j) hp.2 (by unfold paF; rw [Nat.zero_testBit]; rfl), zit_0 (step := lcF m W q) hp.2 (by unfold lcF; rw [least_0 hv]; rfl)] at h'
    exact h'
  · obtain ⟨t1, t2⟩ := t
    refine ⟨by try dsimp only at ht ⊢; unfold lcF; split <;> omega, ?_⟩
    try dsimp only at ht ⊢
    rw [D_X9_deegan_L19_s]
    unfold D_X9_deegan_B19 D_X9_deegan_J64 paF lcF
    rw [r_allv hv, zbs, zif_f (by rw [c32_lt (by omega) (by omega)]; omega), r_least hv hS, zbs, nsuc, nsuc]
    cases vleast m W q S
    · rw [zb0, Bool.and_false]; rfl
    · rw [zb1, x9_hasL S (by omega) j (by omega), in_ite, Bool.and_true]
      by_cases e : S.testBit j = true
      · have h1 := pc8_pos S (by omega) j (by omega) e
        have h2 := pc8_le S
        obtain ⟨d1, d2, d3, d4⟩ := dv840 (pc8 S) (by omega) h1
        rw [if_pos e, zi1, r_pc8 S (by omega), zbs, zif_f d1, d2, n32_64 (by omega) (by omega), n64_add, if_pos e]; rfl
      · rw [if_neg e, zi0, if_neg e, l64_0, n64_add, Int.add_zero]; rfl
  · obtain ⟨t1, t2⟩ := t
    try dsimp only at ht ⊢
    rw [D_X9_deegan_L19_s]
    unfold D_X9_deegan_B19
    rw [r_allv hv, zbs, zif_t (by rw [c32_lt (by omega) (by omega)]; omega)]
    by_cases e : t2 = 0
    · rw [if_pos e, zif_t (by rw [e]; rfl)]
    · rw [if_neg e, zif_f (fun h => e (by rw [l32_0] at h; have := (n32_eq (by omega) (by omega) (by omega) (by omega)).mp h; omega)), n32_64 (by omega) (by omega), show (840 : Int64) = n64 840 from rfl, n64_mul, show (840 : Int) * (t2 : Int) = ((840 * t2 : Nat) : Int) by omega]
theorem call_deegan (h : Rel s) (hv : vRel s m W q) (a : Int32) : cOk s (fun s => D_X8_deegan s a) (fun s => D_X9_deegan s a) := by
  obtain ⟨k, rfl, h1, h2⟩ := i32_of a
  have hm := hv.1.2.2
  have hp := pow_le8 hm
  by_cases e : 0 ≤ k ∧ k < (m : Int)
  · obtain ⟨j, rfl⟩ : ∃ t : Nat, k = (t : Int) := ⟨k.toNat, by omega⟩
    have hj : j < m := by omega
    have hN := lc_le (m := m) (W := W) (q := q) (2 ^ m - 1) 1 0
    have hP := (pa_zero (W := W) (q := q) hm hj (2 ^ m - 1) 1 0 (by omega)).2.1
    have r9 := fun (t : zS) (ht : vRel t m W q) => r_deegan ht hj
    have e8 : D_X8_deegan s (n32 (j : Int)) = if zit (lcF m W q) (2 ^ m - 1) 1 0 = 0 then some (0, s) else (D_X2_put s 1 (n64 ((zit (paF m W q j) (2 ^ m - 1) 1 0 : Nat) : Int)) (n64 ((840 * zit (lcF m W q) (2 ^ m - 1) 1 0 : Nat) : Int))).bind fun p => some (1, p) := by
      unfold D_X8_deegan
      rw [voter8 hv h1 h2, if_pos e, zbs, zi1, c_sets hv, zbs]
      by_cases e3 : zit (lcF m W q) (2 ^ m - 1) 1 0 = 0
      · rw [if_pos e3, zif_t (by rw [e3]; rfl)]
      · rw [if_neg e3, zif_f (fun h => e3 (by rw [l32_0] at h; have := (n32_eq (by omega) (by omega) (by omega) (by omega)).mp h; omega)), c_parts hv hj, zbs, n32_64 (by omega) (by omega), n32_64 (by omega) (by omega), show (840 : Int64) = n64 840 from rfl, n64_mul, show (840 : Int) * ((zit (lcF m W q) (2 ^ m - 1) 1 0 : Nat) : Int) = ((840 * zit (lcF m W q) (2 ^ m - 1) 1 0 : Nat) : Int) by omega]
    generalize zit (lcF m W q) (2 ^ m - 1) 1 0 = N at hN r9 e8
    generalize zit (paF m W q j) (2 ^ m - 1) 1 0 = P at hP r9 e8
    by_cases e3 : N = 0
    · refine cOk_same h (r := 0) ?_ ?_
      · try dsimp only
        rw [e8, if_pos e3]
      · try dsimp only
        unfold D_X9_deegan
        rw [voter9 hv h1 h2, if_pos e, zbs, zi1, r9 s hv, if_pos e3]
    · refine cOk_frac (s2 := zwL (zwL s 1 0 (n64 (((P : Int) : Rat) / (((840 * N : Nat) : Int) : Rat)).num)) 1 1 (n64 ((((P : Int) : Rat) / (((840 * N : Nat) : Int) : Rat)).den : Int))) (q := ((P : Int) : Rat) / (((840 * N : Nat) : Int) : Rat)) h ?_ ?_ (fr_r _ _)
      · try dsimp only
        rw [e8, if_neg e3, f8_put zshp1 (by omega) (by omega) ⟨by omega, by omega⟩, zbs]
      · have hv1 : vRel (zwL (zwL s 1 0 (n64 (((P : Int) : Rat) / (((840 * N : Nat) : Int) : Rat)).num)) 1 1 (n64 ((((P : Int) : Rat) / (((840 * N : Nat) : Int) : Rat)).den : Int))) m W q := hv
        try dsimp only
        unfold D_X9_deegan
        rw [voter9 hv1 h1 h2, if_pos e, zbs, zi1, r9 _ hv1, if_neg e3, f9_put (by omega) (by omega) ⟨by omega, by omega⟩, zbs]
  · refine cOk_same h (r := -2) ?_ ?_
    · try dsimp only
      unfold D_X8_deegan
      rw [voter8 hv h1 h2, if_neg e, zbs, zi0]
    · try dsimp only
      unfold D_X9_deegan
      rw [voter9 hv h1 h2, if_neg e, zbs, zi0]
end VR
