/-! the call award, told rule by rule -/
section AX
variable {s : zS} {m k : Nat} {C : Nat → Int} {E e : Int}
theorem zbsome {α : Type} {x : Option α} : (x.bind fun p => some p) = x := by cases x <;> rfl
theorem me_ex (hc : cRel s m C E) (hk : k < m) (he : 0 ≤ e ∧ e ≤ 20000) : ∃ D, meD C m e D := by
  obtain ⟨D, h, -, -⟩ := r_give hc he hk
  exact ⟨D, h⟩
theorem c_tellEven (hc : cRel s m C E) (hk : k < m) (he : 0 ≤ e ∧ e ≤ 20000) {D : Nat} (hD : meD C m e D) : D_X1_tellEven s (n32 (k : Int)) (n32 e) = D_X2_put s 1 (n64 (evV C m e D k)) (n64 (opV m D)) := by
  have h1 := op_bd (m := m) (D := D) hc.1.2.2
  have h2 := ev_bd hc hk (D := D) he
  have ho : D_X1_openBy s (n32 e) = some (n32 (opV m D)) := c_open hc (by omega) hD
  have hv : D_X1_evenTimesOpen s (n32 (k : Int)) (n32 e) (n32 (opV m D)) = some (n32 (evV C m e D k)) := c_even hc hk (by omega) hD
  unfold D_X1_tellEven
  rw [ho, zbs, hv, zbs, n32_64 (by omega) (by omega), n32_64 (by omega) (by omega), zbsome]
theorem c_tellLess (hc : cRel s m C E) (hk : k < m) (he : 0 ≤ e ∧ e ≤ 20000) {D : Nat} (hD : meD C m e D) {o : Int} (hoo : 1 ≤ o ∧ o ≤ 2) : D_X1_tellLessEven s (n32 (k : Int)) (n32 e) (n32 o) = D_X2_put s 1 (n64 (C k * opV m D * o - evV C m e D k)) (n64 (opV m D * o)) := by
  have h1 := op_bd (m := m) (D := D) hc.1.2.2
  have h2 := ev_bd hc hk (D := D) he
  have h3 := (hc.2.1 k hk).2.2
  have h4 := abs_mul (a := C k) (b := opV m D) (A := 1000) (B := 6) (by omega) h3.2 (by omega) h1.2
  have h5 := abs_mul (a := C k * opV m D) (b := o) (A := 6000) (B := 2) (by omega) (by omega) (by omega) hoo.2
  have hm := hc.1.2.2
  have ho : D_X1_openBy s (n32 e) = some (n32 (opV m D)) := c_open hc (by omega) hD
  have hv : D_X1_evenTimesOpen s (n32 (k : Int)) (n32 e) (n32 (opV m D)) = some (n32 (evV C m e D k)) := c_even hc hk (by omega) hD
  unfold D_X1_tellLessEven
  rw [ho, zbs, zgd_t (czin (by omega) (by omega)), n32_xn (by omega), (hc.2.1 k hk).1, hv, zbs, n32_mul, n32_mul, n32_sub, n32_64 (by omega) (by omega), n32_64 (by omega) (by omega), n32_64 (by omega) (by omega), n64_mul, zbsome]
theorem c_tellHalf (hc : cRel s m C E) (hk : k < m) (hT : E ≤ totV C m) {D : Nat} (hD : meD C m (if 2 * E ≤ totV C m then 2 * E else 2 * (totV C m - E)) D) : D_X1_tellHalves s (n32 (k : Int)) = if 2 * E ≤ totV C m then D_X2_put s 1 (n64 (evV C m (2 * E) D k)) (n64 (2 * opV m D)) else D_X2_put s 1 (n64 (C k * opV m D * 2 - evV C m (2 * (totV C m - E)) D k)) (n64 (opV m D * 2)) := by
  have h1 := op_bd (m := m) (D := D) hc.1.2.2
  have hT2 : 0 ≤ totV C m ∧ totV C m ≤ 6000 := tot_bd hc _
  have hE := hc.2.2.2.2
  have h2e : (2 : Int32) * n32 E = n32 (2 * E) := by rw [l32_2, n32_mul]
  unfold D_X1_tellHalves
  rw [c_total hc, zbs, hc.2.2.1, h2e]
  by_cases q : 2 * E ≤ totV C m
  · rw [if_pos q] at hD
    have h2 := ev_bd hc hk (e := 2 * E) (D := D) (by omega)
    have ho : D_X1_openBy s (n32 (2 * E)) = some (n32 (opV m D)) := c_open hc (by omega) hD
    have hv : D_X1_evenTimesOpen s (n32 (k : Int)) (n32 (2 * E)) (n32 (opV m D)) = some (n32 (evV C m (2 * E) D k)) := c_even hc hk (by omega) hD
    have hl2 : (2 : Int64) = n64 2 := rfl
    rw [if_pos q, zif_t (by rw [n32_le (by omega) (by omega) (by omega) (by omega)]; exact q), ho, zbs, hv, zbs, n32_64 (by omega) (by omega), n32_64 (by omega) (by omega), hl2, n64_mul, zbsome]
  · rw [if_neg q] at hD
    rw [if_neg q, zif_f (by rw [n32_le (by omega) (by omega) (by omega) (by omega)]; exact q), zbs, n32_sub, l32_2, n32_mul, c_tellLess hc hk (by omega) hD ⟨by decide, by decide⟩, zbsome]
/-- what the reference gives -/
def awR (s : zS) (a1 a2 p32 : Int32) : Option (Int32 × zS) :=
  if a2 = 0 then (
    zgd (zin a1 6 = true) <|
    (D_X9_fraction s ((s.1 66 10).toInt64 * (s.1 70 a1.toNatClampNeg).toInt64) p32.toInt64).bind fun p104 =>
    some (p104.1, p104.2)
  ) else (
  if a2 = 1 then (
    (D_X9_giveEvenly s a1 ((s.1 66 10).toInt64)).bind fun p115 =>
    (D_X9_fraction p115 (p115.2 66 38) (p115.2 66 39)).bind fun p127 =>
    some (p127.1, p127.2)
  ) else (
  if a2 = 2 then (
    (D_X9_loseEvenly s a1 ((s.1 66 10).toInt64)).bind fun p138 =>
    (D_X9_fraction p138 (p138.2 66 38) (p138.2 66 39)).bind fun p150 =>
    some (p150.1, p150.2)
  ) else (
  if a2 = 3 then (
    if p32 < ((2 : Int32) * (s.1 66 10)) then (
      (D_X9_giveEvenly s a1 ((2 : Int64) * (p32 - (s.1 66 10)).toInt64)).bind fun p208 =>
      zgd (zin a1 6 = true) <|
      (D_X9_fraction p208 ((((2 : Int64) * (p208.1 70 a1.toNatClampNeg).toInt64) * (p208.2 66 39)) - (p208.2 66 38)) ((2 : Int64) * (p208.2 66 39))).bind fun p241 =>
      some (p241.1, p241.2)
    ) else (
      (D_X9_giveEvenly s a1 ((2 : Int64) * (s.1 66 10).toInt64)).bind fun p175 =>
      (D_X9_fraction p175 (p175.2 66 38) ((2 : Int64) * (p175.2 66 39))).bind fun p191 =>
      some (p191.1, p191.2)
    )
  ) else (
  (D_X9_comes s a1).bind fun p248 =>
  (D_X9_factorial (p248.2.1 66 8)).bind fun p255 =>
  (D_X9_fraction p248.2 p248.1 p255.toInt64).bind fun p259 =>
  some (p259.1, p259.2)
  ))))
theorem idx8c (hc : cRel s m C E) {k : Int} (h1 : -2147483648 ≤ k) (h2 : k < 2147483648) : D_X8_within (n32 k) (0 : Int32) ((s.1 45 0) - (1 : Int32)) = if 0 ≤ k ∧ k ≤ (m : Int) - 1 then some 1 else some 0 := by
  have hm := hc.1.2.2
  rw [hc.1.1, l32_1, n32_sub, l32_0, in8 h1 h2 (by omega) (by omega) (by omega) (by omega)]
  rfl
theorem idx9c (hc : cRel s m C E) {k : Int} (h1 : -2147483648 ≤ k) (h2 : k < 2147483648) : D_X9_in (n32 k).toInt64 (0 : Int64) (((s.1 66 8) - (1 : Int32)).toInt64) = if 0 ≤ k ∧ k ≤ (m : Int) - 1 then some 1 else some 0 := by
  have hm := hc.1.2.2
  rw [hc.1.2.1, l32_1, n32_sub, n32_64 (a := (m : Int) - 1) (by omega) (by omega), l64_0, in9L h1 h2 (by omega) (by omega) (by omega) (by omega)]
  rfl
theorem r_aw (hc : cRel s m C E) (hk : k < m) {x : Int} (hx : 0 ≤ x ∧ x ≤ 4) : D_X9_award s (n32 (k : Int)) (n32 x) = if E ≤ totV C m then (if totV C m = 0 then (D_X9_fraction s (n64 0) (n64 1)).bind fun p => some (p.1, p.2) else awR s (n32 (k : Int)) (n32 x) (n32 (totV C m))) else some (-3, s) := by
  have hm := hc.1.2.2
  have hT2 : 0 ≤ totV C m ∧ totV C m ≤ 6000 := tot_bd hc _
  have hE := hc.2.2.2.2
  have i9 : D_X9_in (n32 x).toInt64 0 4 = if 0 ≤ x ∧ x ≤ 4 then some 1 else some 0 := in9L (lo := 0) (hi := 4) (by omega) (by omega) (by omega) (by omega) (by omega) (by omega)
  unfold D_X9_award
  rw [idx9c hc (by omega) (by omega), if_pos (by omega), zbs, zi1, i9, if_pos hx, zbs, zi1, r_total hc, zbs, hc.2.2.2.1]
  by_cases q : E ≤ totV C m
  · rw [if_pos q, zif_t (by rw [n32_le (by omega) (by omega) (by omega) (by omega)]; exact q)]
    by_cases q2 : totV C m = 0
    · rw [if_pos q2, q2, zif_t (show n32 0 = 0 from rfl)]; rfl
    · rw [if_neg q2, zif_f (by rw [l32_0]; exact fun z => q2 ((n32_eq (by omega) (by omega) (by omega) (by omega)).mp z))]
      unfold awR
      rw [hc.2.2.2.1]
  · rw [if_neg q, zif_f (by rw [n32_le (by omega) (by omega) (by omega) (by omega)]; exact q)]
theorem aw_rule {a b x : Int} (h : Rel s) (hc : cRel s m C E) (hk : k < m) (hx : 0 ≤ x ∧ x ≤ 4) (hT : E ≤ totV C m) (hb : 0 < b ∧ b < 1000000) (ha : -1000000000 ≤ a ∧ a ≤ 1000000000) (e8 : D_X1_tellAward s (n32 (k : Int)) (n32 x) = D_X2_put s 1 (n64 a) (n64 b)) (hz : totV C m = 0 → a = 0) (e9 : totV C m ≠ 0 → ∀ t, cRel t m C E → ∃ t2 a' b', fr (fun _ => False) t t2 ∧ (0 < b' ∧ b' < 1000000) ∧ (-1000000000 ≤ a' ∧ a' ≤ 1000000000) ∧ a * b' = a' * b ∧ awR t (n32 (k : Int)) (n32 x) (n32 (totV C m)) = (D_X9_fraction t2 (n64 a') (n64 b')).bind fun p => some (p.1, p.2)) : cOk s (fun s => D_X8_award s (n32 (k : Int)) (n32 x)) (fun s => D_X9_award s (n32 (k : Int)) (n32 x)) := by
  have hm := hc.1.2.2
  have hT2 : 0 ≤ totV C m ∧ totV C m ≤ 6000 := tot_bd hc _
  have hE := hc.2.2.2.2
  have i8 : D_X8_within (n32 x) 0 4 = if 0 ≤ x ∧ x ≤ 4 then some 1 else some 0 := in8 (lo := 0) (hi := 4) (by omega) (by omega) (by omega) (by omega) (by omega) (by omega)
  refine aw_fin (c8 := fun s => D_X8_award s (n32 (k : Int)) (n32 x)) (c9 := fun s => D_X9_award s (n32 (k : Int)) (n32 x)) h hc hb ha ?_ ?_
  · try dsimp only
    unfold D_X8_award
    rw [idx8c hc (by omega) (by omega), if_pos (by omega), zbs, zi1, i8, if_pos hx, zbs, zi1, c_total hc, zbs, hc.2.2.1, zif_t (by rw [n32_le (by omega) (by omega) (by omega) (by omega)]; exact hT), e8]
  · intro t ht
    try dsimp only
    rw [r_aw ht hk hx, if_pos hT]
    by_cases q : totV C m = 0
    · rw [if_pos q]
      exact ⟨t, 0, 1, fr_r _ _, by omega, by omega, by rw [hz q]; omega, rfl⟩
    · rw [if_neg q]
      exact e9 q t ht
end AX
