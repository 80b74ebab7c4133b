/-! the call award -/
section AY
variable {s : zS} {m k : Nat} {C : Nat → Int} {E e : Int}
theorem fr_L2 (t : zS) (x y : Int64) : fr (fun _ => False) t (zwL (zwL t 66 38 x) 66 39 y) := fr_t (fr_wL t 66 38 x (Or.inl rfl)) (fr_wL _ 66 39 y (Or.inl rfl))
theorem n32_ne {a b : Int} (h1 : -2147483648 ≤ a) (h2 : a < 2147483648) (h3 : -2147483648 ≤ b) (h4 : b < 2147483648) (h : a ≠ b) : ¬ n32 a = n32 b := fun z => h ((n32_eq h1 h2 h3 h4).mp z)
theorem tot_z (hc : cRel s m C E) (h : totV C m = 0) : ∀ l : Nat, l < m → C l = 0 := fun l hl => by
  have := tot_ge hc hl
  have := (hc.2.1 l hl).2.2
  omega
theorem ev_z (hc : cRel s m C E) (hk : k < m) (h : totV C m = 0) (he : e = 0) {D : Nat} : evV C m e D k = 0 := by
  have h2 : ∀ l : Nat, l ≤ m → ldV C l D = 0 := by
    intro l
    induction l with
    | zero => intro _; rfl
    | succ l ih =>
      intro hl
      rw [ldV, ih (by omega), tot_z hc h l (by omega)]
      split <;> rfl
  unfold evV
  rw [tot_z hc h k hk, h2 m (Nat.le_refl _), Int.zero_mul, he]
  split <;> rfl
theorem to_z (hc : cRel s m C E) (hk : k < m) (h : totV C m = 0) : ∀ n : Nat, sI (toF C m E k) n = 0 := by
  intro n
  induction n with
  | zero => rfl
  | succ n ih =>
    have h1 : tkV C m E k n = 0 := by
      have := lf_bd hc (S := n)
      unfold tkV
      rw [tot_z hc h k hk, if_neg (by omega)]
    rw [sI, ih, toF, h1, Int.mul_zero]
    split <;> rfl
theorem aw_0 (h : Rel s) (hc : cRel s m C E) (hk : k < m) (hT : E ≤ totV C m) : cOk s (fun s => D_X8_award s (n32 (k : Int)) (n32 0)) (fun s => D_X9_award s (n32 (k : Int)) (n32 0)) := by
  have hm := hc.1.2.2
  have hT2 : 0 ≤ totV C m ∧ totV C m ≤ 6000 := tot_bd hc _
  have hE := hc.2.2.2.2
  have hk2 := (hc.2.1 k hk).2.2
  have hb1 := abs_mul (a := C k) (b := E) (A := 1000) (B := 6000) (by omega) (by omega) (by omega) (by omega)
  refine aw_rule (a := C k * E) (b := if 1 < totV C m then totV C m else 1) h hc hk (by omega) hT (by split <;> omega) (by omega) ?_ (fun q => ?_) (fun q t ht => ⟨t, E * C k, totV C m, fr_r _ _, by omega, by rw [Int.mul_comm]; omega, ?_, ?_⟩)
  · unfold D_X1_tellAward
    rw [zif_t (show n32 0 = 0 from rfl), zgd_t (czin (by omega) (by omega)), n32_xn (by omega), c_total hc, zbs, zbsome, (hc.2.1 k hk).1, hc.2.2.1, n32_64 (by omega) (by omega), n32_64 (by omega) (by omega), n64_mul, l32_1, zmax_n (by omega) (by omega), n32_64 (by split <;> omega) (by split <;> omega)]
  · have := tot_ge hc hk
    rw [show C k = 0 by omega, Int.zero_mul]
  · rw [show (if 1 < totV C m then totV C m else 1) = totV C m by split <;> omega, Int.mul_comm (C k)]
  · unfold awR
    rw [zif_t (show n32 0 = 0 from rfl), zgd_t (czin (by omega) (by omega)), n32_xn (by omega), (ht.2.1 k hk).2.1, ht.2.2.2.1, n32_64 (by omega) (by omega), n32_64 (by omega) (by omega), n32_64 (by omega) (by omega), n64_mul]
theorem aw_1 (h : Rel s) (hc : cRel s m C E) (hk : k < m) (hT : E ≤ totV C m) : cOk s (fun s => D_X8_award s (n32 (k : Int)) (n32 1)) (fun s => D_X9_award s (n32 (k : Int)) (n32 1)) := by
  have hm := hc.1.2.2
  have hT2 : 0 ≤ totV C m ∧ totV C m ≤ 6000 := tot_bd hc _
  have hE := hc.2.2.2.2
  have hk2 := (hc.2.1 k hk).2.2
  obtain ⟨D, hD⟩ := me_ex hc hk (show 0 ≤ E ∧ E ≤ 20000 by omega)
  have ho := op_bd (m := m) (D := D) hm
  have hv := ev_bd hc hk (D := D) (show 0 ≤ E ∧ E ≤ 20000 by omega)
  refine aw_rule (a := evV C m E D k) (b := opV m D) h hc hk (by omega) hT (by omega) (by omega) ?_ (fun q => ?_) (fun q t ht => ?_)
  · unfold D_X1_tellAward
    rw [zif_f (by decide), zif_t (show n32 1 = 1 from rfl), hc.2.2.1, c_tellEven hc hk (by omega) hD, zbsome]
  · exact ev_z hc hk q (by omega)
  · obtain ⟨D', hD', e9, -⟩ := r_give ht (e := E) (by omega) hk
    obtain ⟨r1, r2, r3⟩ := me_same hD hD'
    obtain ⟨q1, q2, q3⟩ := ev_ref (C := C) (e := E) hk (D := D)
    rw [r1 k hk, r2, r3] at q1
    rw [r1 k hk, r3] at q2 q3
    have htd := tot_bd hc D'
    generalize ht1 : (if D'.testBit k = true then C k else E - ldV C m D') = tp at e9 q1
    generalize ht2 : (if D'.testBit k = true then 1 else (m : Int) - onesV m D') = lw at e9 q1 q2 q3
    have htp : -6000 ≤ tp ∧ tp ≤ 20000 := by rw [← ht1]; split <;> omega
    refine ⟨_, tp, lw, fr_L2 t (n64 tp) (n64 lw), ?_, ?_, ?_, ?_⟩
    rotate_left 3
    · unfold awR
      rw [zif_f (by decide), zif_t (show n32 1 = 1 from rfl), ht.2.2.2.1, n32_64 (by omega) (by omega), e9, zbs, zwL_at, if_neg (by omega), zwL_at, if_pos ⟨rfl, rfl⟩, zwL_at, if_pos ⟨rfl, rfl⟩]
    · omega
    · omega
    · exact q1
theorem aw_2 (h : Rel s) (hc : cRel s m C E) (hk : k < m) (hT : E ≤ totV C m) : cOk s (fun s => D_X8_award s (n32 (k : Int)) (n32 2)) (fun s => D_X9_award s (n32 (k : Int)) (n32 2)) := by
  have hm := hc.1.2.2
  have hT2 : 0 ≤ totV C m ∧ totV C m ≤ 6000 := tot_bd hc _
  have hE := hc.2.2.2.2
  have hk2 := (hc.2.1 k hk).2.2
  obtain ⟨D, hD⟩ := me_ex hc hk (show 0 ≤ totV C m - E ∧ totV C m - E ≤ 20000 by omega)
  have ho := op_bd (m := m) (D := D) hm
  have hv := ev_bd hc hk (D := D) (show 0 ≤ totV C m - E ∧ totV C m - E ≤ 20000 by omega)
  have h4 := abs_mul (a := C k) (b := opV m D) (A := 1000) (B := 6) (by omega) hk2.2 (by omega) ho.2
  refine aw_rule (a := C k * opV m D * 1 - evV C m (totV C m - E) D k) (b := opV m D * 1) h hc hk (by omega) hT (by omega) (by omega) ?_ (fun q => ?_) (fun q t ht => ?_)
  · unfold D_X1_tellAward
    rw [zif_f (by decide), zif_f (by decide), zif_t (show n32 2 = 2 from rfl), c_total hc, zbs, hc.2.2.1, n32_sub, l32_1, c_tellLess hc hk (by omega) hD ⟨by decide, by decide⟩, zbsome]
  · rw [ev_z hc hk q (by omega), tot_z hc q k hk, Int.zero_mul, Int.zero_mul]; rfl
  · obtain ⟨D', s', g1, g2, g3, g4, g5, g6, g7⟩ := r_lose ht hE hk
    have hq := lose_eq hc hk g1 g2 hD
    have hmn := g1.2.2
    have hob := ones_bd (D := D') m
    have hsb := tot_bd hc D'
    have hmb : mnyV m D' ≤ 6 := by unfold mnyV; omega
    have hsm : -12000 ≤ sumV C m E D' ∧ sumV C m E D' ≤ 12000 := by unfold sumV; omega
    have h5 := abs_mul (a := C k) (b := mnyV m D') (A := 1000) (B := 6) (by omega) hk2.2 (by omega) hmb
    refine ⟨s', (if D'.testBit k then 0 else C k * mnyV m D' - sumV C m E D'), mnyV m D', ⟨fun c l _ _ => by rw [g4], fun c l z _ => g5 c l z⟩, ?_, ?_, ?_, ?_⟩
    rotate_left 3
    · unfold awR
      rw [zif_f (by decide), zif_f (by decide), zif_t (show n32 2 = 2 from rfl), ht.2.2.2.1, n32_64 (by omega) (by omega), g3, zbs, g6, g7]
    · omega
    · split <;> omega
    · rw [Int.mul_one, Int.mul_one]; exact hq
theorem aw_3 (h : Rel s) (hc : cRel s m C E) (hk : k < m) (hT : E ≤ totV C m) : cOk s (fun s => D_X8_award s (n32 (k : Int)) (n32 3)) (fun s => D_X9_award s (n32 (k : Int)) (n32 3)) := by
  have hm := hc.1.2.2
  have hT2 : 0 ≤ totV C m ∧ totV C m ≤ 6000 := tot_bd hc _
  have hE := hc.2.2.2.2
  have hk2 := (hc.2.1 k hk).2.2
  have hl2 : (2 : Int64) = n64 2 := rfl
  by_cases qq : 2 * E ≤ totV C m
  · obtain ⟨D, hD⟩ := me_ex hc hk (show 0 ≤ 2 * E ∧ 2 * E ≤ 20000 by omega)
    have ho := op_bd (m := m) (D := D) hm
    have hv := ev_bd hc hk (D := D) (show 0 ≤ 2 * E ∧ 2 * E ≤ 20000 by omega)
    refine aw_rule (a := evV C m (2 * E) D k) (b := 2 * opV m D) h hc hk (by omega) hT (by omega) (by omega) ?_ (fun q => ?_) (fun q t ht => ?_)
    · have := c_tellHalf hc hk hT (D := D) (by rw [if_pos qq]; exact hD)
      rw [if_pos qq] at this
      unfold D_X1_tellAward
      rw [zif_f (by decide), zif_f (by decide), zif_f (by decide), zif_t (show n32 3 = 3 from rfl), this, zbsome]
    · exact ev_z hc hk q (by omega)
    · obtain ⟨D', hD', e9, -⟩ := r_give ht (e := 2 * E) (by omega) hk
      obtain ⟨r1, r2, r3⟩ := me_same hD hD'
      obtain ⟨q1, q2, q3⟩ := ev_ref (C := C) (e := 2 * E) hk (D := D)
      rw [r1 k hk, r2, r3] at q1
      rw [r1 k hk, r3] at q2 q3
      have htd := tot_bd hc D'
      generalize ht1 : (if D'.testBit k = true then C k else 2 * E - ldV C m D') = tp at e9 q1
      generalize ht2 : (if D'.testBit k = true then 1 else (m : Int) - onesV m D') = lw at e9 q1 q2 q3
      have htp : -6000 ≤ tp ∧ tp ≤ 20000 := by rw [← ht1]; split <;> omega
      refine ⟨_, tp, 2 * lw, fr_L2 t (n64 tp) (n64 lw), ?_, ?_, ?_, ?_⟩
      rotate_left 3
      · unfold awR
        rw [zif_f (by decide), zif_f (by decide), zif_f (by decide), zif_t (show n32 3 = 3 from rfl), ht.2.2.2.1, l32_2, n32_mul, zif_f (by rw [n32_lt (by omega) (by omega) (by omega) (by omega)]; omega), n32_64 (by omega) (by omega), hl2, n64_mul, e9, zbs, zwL_at, if_neg (by omega), zwL_at, if_pos ⟨rfl, rfl⟩, zwL_at, if_pos ⟨rfl, rfl⟩, n64_mul]
      · omega
      · omega
      · rw [Int.mul_left_comm, q1, Int.mul_left_comm]
  · obtain ⟨D, hD⟩ := me_ex hc hk (show 0 ≤ 2 * (totV C m - E) ∧ 2 * (totV C m - E) ≤ 20000 by omega)
    have ho := op_bd (m := m) (D := D) hm
    have hv := ev_bd hc hk (D := D) (show 0 ≤ 2 * (totV C m - E) ∧ 2 * (totV C m - E) ≤ 20000 by omega)
    have h4 := abs_mul (a := C k) (b := opV m D) (A := 1000) (B := 6) (by omega) hk2.2 (by omega) ho.2
    refine aw_rule (a := C k * opV m D * 2 - evV C m (2 * (totV C m - E)) D k) (b := opV m D * 2) h hc hk (by omega) hT (by omega) (by omega) ?_ (fun q => ?_) (fun q t ht => ?_)
    · have := c_tellHalf hc hk hT (D := D) (by rw [if_neg qq]; exact hD)
      rw [if_neg qq] at this
      unfold D_X1_tellAward
      rw [zif_f (by decide), zif_f (by decide), zif_f (by decide), zif_t (show n32 3 = 3 from rfl), this, zbsome]
    · omega
    · obtain ⟨D', hD', e9, -⟩ := r_give ht (e := 2 * (totV C m - E)) (by omega) hk
      obtain ⟨r1, r2, r3⟩ := me_same hD hD'
      obtain ⟨q1, q2, q3⟩ := ev_ref (C := C) (e := 2 * (totV C m - E)) hk (D := D)
      rw [r1 k hk, r2, r3] at q1
      rw [r1 k hk, r3] at q2 q3
      have htd := tot_bd hc D'
      generalize ht1 : (if D'.testBit k = true then C k else 2 * (totV C m - E) - ldV C m D') = tp at e9 q1
      generalize ht2 : (if D'.testBit k = true then 1 else (m : Int) - onesV m D') = lw at e9 q1 q2 q3
      have htp : -6000 ≤ tp ∧ tp ≤ 20000 := by rw [← ht1]; split <;> omega
      have h5 := abs_mul (a := C k) (b := lw) (A := 1000) (B := 6) (by omega) hk2.2 (by omega) (by omega)
      refine ⟨_, 2 * C k * lw - tp, 2 * lw, fr_L2 t (n64 tp) (n64 lw), ?_, ?_, ?_, ?_⟩
      rotate_left 3
      · unfold awR
        rw [zif_f (by decide), zif_f (by decide), zif_f (by decide), zif_t (show n32 3 = 3 from rfl), ht.2.2.2.1, l32_2, n32_mul, zif_t (by rw [n32_lt (by omega) (by omega) (by omega) (by omega)]; omega), n32_sub, n32_64 (by omega) (by omega), hl2, n64_mul, e9, zbs, zgd_t (czin (by omega) (by omega)), n32_xn (by omega), zwL_at, if_pos ⟨rfl, rfl⟩, zwL_at, if_neg (by omega), zwL_at, if_pos ⟨rfl, rfl⟩]
        have hcell : (zwL (zwL t 66 38 (n64 tp)) 66 39 (n64 lw)).1 70 k = n32 (C k) := (ht.2.1 k hk).2.1
        rw [hcell, n32_64 (by omega) (by omega), n64_mul, n64_mul, n64_mul, n64_sub]
      · omega
      · rw [Int.mul_assoc]; omega
      · rw [Int.sub_mul, Int.sub_mul, show evV C m (2 * (totV C m - E)) D k * (2 * lw) = 2 * (evV C m (2 * (totV C m - E)) D k * lw) by rw [Int.mul_left_comm], q1, show 2 * (tp * opV m D) = tp * (opV m D * 2) by rw [Int.mul_comm (opV m D), Int.mul_left_comm]]
        congr 1
        rw [Int.mul_assoc 2, Int.mul_assoc (C k), Int.mul_comm (opV m D) 2, Int.mul_assoc (C k), Int.mul_left_comm 2 (C k), Int.mul_assoc (C k), Int.mul_assoc 2, Int.mul_assoc 2]
        congr 2
        rw [Int.mul_left_comm, Int.mul_comm (opV m D), Int.mul_left_comm lw]
theorem aw_4 (h : Rel s) (hc : cRel s m C E) (hk : k < m) (hT : E ≤ totV C m) : cOk s (fun s => D_X8_award s (n32 (k : Int)) (n32 4)) (fun s => D_X9_award s (n32 (k : Int)) (n32 4)) := by
  have hm := hc.1.2.2
  have hp := pow_le8 (show m ≤ 8 by omega)
  have hp6 : 2 ^ m ≤ 64 := Nat.pow_le_pow_right (show 1 ≤ 2 by decide) hm
  have hb := to_bd hc hk (2 ^ m) (Nat.le_refl _)
  have hf : 1 ≤ facN m ∧ facN m ≤ 720 := by
    have : m = 1 ∨ m = 2 ∨ m = 3 ∨ m = 4 ∨ m = 5 ∨ m = 6 := by omega
    rcases this with rfl | rfl | rfl | rfl | rfl | rfl <;> decide
  have ht0 := c_taken hc hk
  have hz := fun q => to_z hc hk q (2 ^ m)
  have he9 := fun (t : zS) (ht : cRel t m C E) => r_comes ht hk
  generalize sI (toF C m E k) (2 ^ m) = z at hb ht0 hz he9
  have hp16 : ((2 ^ m : Nat) : Int) ≤ 64 := by omega
  refine aw_rule (a := z) (b := (facN m : Int)) h hc hk (by omega) hT (by omega) (by omega) ?_ hz (fun q t ht => ?_)
  · unfold D_X1_tellAward
    rw [zif_f (by decide), zif_f (by decide), zif_f (by decide), zif_f (by decide), ht0, zbs, hc.1.1, c_fac m (by omega), zbs, zbsome, n32_64 (by omega) (by omega), n32_64 (by omega) (by omega)]
  · obtain ⟨s', f1, e9⟩ := he9 t ht
    refine ⟨s', z, (facN m : Int), oFrm_fr f1 _, by omega, by omega, rfl, ?_⟩
    unfold awR
    rw [zif_f (by decide), zif_f (by decide), zif_f (by decide), zif_f (by decide), e9, zbs]
    dsimp only
    rw [f1.1 66 8 (by decide), ht.1.2.1, r_fac m (by omega), zbs, n32_64 (by omega) (by omega)]
theorem call_award (h : Rel s) (hc : cRel s m C E) (a b : Int32) : cOk s (fun s => D_X8_award s a b) (fun s => D_X9_award s a b) := by
  obtain ⟨x, rfl, h1, h2⟩ := i32_of a
  obtain ⟨y, rfl, h3, h4⟩ := i32_of b
  have hm := hc.1.2.2
  have hT2 : 0 ≤ totV C m ∧ totV C m ≤ 6000 := tot_bd hc _
  have hE := hc.2.2.2.2
  have i8 : D_X8_within (n32 y) 0 4 = if 0 ≤ y ∧ y ≤ 4 then some 1 else some 0 := in8 (lo := 0) (hi := 4) h3 h4 (by omega) (by omega) (by omega) (by omega)
  have i9 : D_X9_in (n32 y).toInt64 0 4 = if 0 ≤ y ∧ y ≤ 4 then some 1 else some 0 := in9L (lo := 0) (hi := 4) h3 h4 (by omega) (by omega) (by omega) (by omega)
  by_cases e : 0 ≤ x ∧ x ≤ (m : Int) - 1
  · by_cases e2 : 0 ≤ y ∧ y ≤ 4
    · obtain ⟨k, rfl⟩ : ∃ t : Nat, x = (t : Int) := ⟨x.toNat, by omega⟩
      have hk : k < m := by omega
      by_cases hT : E ≤ totV C m
      · have : y = 0 ∨ y = 1 ∨ y = 2 ∨ y = 3 ∨ y = 4 := by omega
        rcases this with rfl | rfl | rfl | rfl | rfl
        · exact aw_0 h hc hk hT
        · exact aw_1 h hc hk hT
        · exact aw_2 h hc hk hT
        · exact aw_3 h hc hk hT
        · exact aw_4 h hc hk hT
      · refine cOk_same h (r := -3) ?_ ?_
        · try dsimp only
          unfold D_X8_award
          rw [idx8c hc h1 h2, if_pos e, zbs, zi1, i8, if_pos e2, zbs, zi1, c_total hc, zbs, hc.2.2.1, zif_f (by rw [n32_le (by omega) (by omega) (by omega) (by omega)]; exact hT)]
        · try dsimp only
          rw [r_aw hc hk e2, if_neg hT]
    · refine cOk_same h (r := -2) ?_ ?_
      · try dsimp only
        unfold D_X8_award
        rw [idx8c hc h1 h2, if_pos e, zbs, zi1, i8, if_neg e2, zbs, zi0]
      · try dsimp only
        unfold D_X9_award
        rw [idx9c hc h1 h2, if_pos e, zbs, zi1, i9, if_neg e2, zbs, zi0]
  · refine cOk_same h (r := -2) ?_ ?_
    · try dsimp only
      unfold D_X8_award
      rw [idx8c hc h1 h2, if_neg e, zbs, zi0]
    · try dsimp only
      unfold D_X9_award
      rw [idx9c hc h1 h2, if_neg e, zbs, zi0]
end AY
