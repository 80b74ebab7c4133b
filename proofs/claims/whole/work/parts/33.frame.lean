/-! rows in lowest terms are small: the frame of five vectors -/
set_option maxHeartbeats 40000000 in
theorem dt5_adj0 (a00 a01 a02 a03 a04 a10 a11 a12 a13 a14 a20 a21 a22 a23 a24 a30 a31 a32 a33 a34 a40 a41 a42 a43 a44 b0 b1 b2 b3 b4 : Int) : b0 * dt5 a00 a01 a02 a03 a04 a10 a11 a12 a13 a14 a20 a21 a22 a23 a24 a30 a31 a32 a33 a34 a40 a41 a42 a43 a44 = a00 * dt5 b0 a01 a02 a03 a04 b1 a11 a12 a13 a14 b2 a21 a22 a23 a24 b3 a31 a32 a33 a34 b4 a41 a42 a43 a44 + a01 * dt5 a00 b0 a02 a03 a04 a10 b1 a12 a13 a14 a20 b2 a22 a23 a24 a30 b3 a32 a33 a34 a40 b4 a42 a43 a44 + a02 * dt5 a00 a01 b0 a03 a04 a10 a11 b1 a13 a14 a20 a21 b2 a23 a24 a30 a31 b3 a33 a34 a40 a41 b4 a43 a44 + a03 * dt5 a00 a01 a02 b0 a04 a10 a11 a12 b1 a14 a20 a21 a22 b2 a24 a30 a31 a32 b3 a34 a40 a41 a42 b4 a44 + a04 * dt5 a00 a01 a02 a03 b0 a10 a11 a12 a13 b1 a20 a21 a22 a23 b2 a30 a31 a32 a33 b3 a40 a41 a42 a43 b4 := by
  unfold dt5
  grind
set_option maxHeartbeats 40000000 in
theorem dt5_adj1 (a00 a01 a02 a03 a04 a10 a11 a12 a13 a14 a20 a21 a22 a23 a24 a30 a31 a32 a33 a34 a40 a41 a42 a43 a44 b0 b1 b2 b3 b4 : Int) : b1 * dt5 a00 a01 a02 a03 a04 a10 a11 a12 a13 a14 a20 a21 a22 a23 a24 a30 a31 a32 a33 a34 a40 a41 a42 a43 a44 = a10 * dt5 b0 a01 a02 a03 a04 b1 a11 a12 a13 a14 b2 a21 a22 a23 a24 b3 a31 a32 a33 a34 b4 a41 a42 a43 a44 + a11 * dt5 a00 b0 a02 a03 a04 a10 b1 a12 a13 a14 a20 b2 a22 a23 a24 a30 b3 a32 a33 a34 a40 b4 a42 a43 a44 + a12 * dt5 a00 a01 b0 a03 a04 a10 a11 b1 a13 a14 a20 a21 b2 a23 a24 a30 a31 b3 a33 a34 a40 a41 b4 a43 a44 + a13 * dt5 a00 a01 a02 b0 a04 a10 a11 a12 b1 a14 a20 a21 a22 b2 a24 a30 a31 a32 b3 a34 a40 a41 a42 b4 a44 + a14 * dt5 a00 a01 a02 a03 b0 a10 a11 a12 a13 b1 a20 a21 a22 a23 b2 a30 a31 a32 a33 b3 a40 a41 a42 a43 b4 := by
  unfold dt5
  grind
set_option maxHeartbeats 40000000 in
theorem dt5_adj2 (a00 a01 a02 a03 a04 a10 a11 a12 a13 a14 a20 a21 a22 a23 a24 a30 a31 a32 a33 a34 a40 a41 a42 a43 a44 b0 b1 b2 b3 b4 : Int) : b2 * dt5 a00 a01 a02 a03 a04 a10 a11 a12 a13 a14 a20 a21 a22 a23 a24 a30 a31 a32 a33 a34 a40 a41 a42 a43 a44 = a20 * dt5 b0 a01 a02 a03 a04 b1 a11 a12 a13 a14 b2 a21 a22 a23 a24 b3 a31 a32 a33 a34 b4 a41 a42 a43 a44 + a21 * dt5 a00 b0 a02 a03 a04 a10 b1 a12 a13 a14 a20 b2 a22 a23 a24 a30 b3 a32 a33 a34 a40 b4 a42 a43 a44 + a22 * dt5 a00 a01 b0 a03 a04 a10 a11 b1 a13 a14 a20 a21 b2 a23 a24 a30 a31 b3 a33 a34 a40 a41 b4 a43 a44 + a23 * dt5 a00 a01 a02 b0 a04 a10 a11 a12 b1 a14 a20 a21 a22 b2 a24 a30 a31 a32 b3 a34 a40 a41 a42 b4 a44 + a24 * dt5 a00 a01 a02 a03 b0 a10 a11 a12 a13 b1 a20 a21 a22 a23 b2 a30 a31 a32 a33 b3 a40 a41 a42 a43 b4 := by
  unfold dt5
  grind
set_option maxHeartbeats 40000000 in
theorem dt5_adj3 (a00 a01 a02 a03 a04 a10 a11 a12 a13 a14 a20 a21 a22 a23 a24 a30 a31 a32 a33 a34 a40 a41 a42 a43 a44 b0 b1 b2 b3 b4 : Int) : b3 * dt5 a00 a01 a02 a03 a04 a10 a11 a12 a13 a14 a20 a21 a22 a23 a24 a30 a31 a32 a33 a34 a40 a41 a42 a43 a44 = a30 * dt5 b0 a01 a02 a03 a04 b1 a11 a12 a13 a14 b2 a21 a22 a23 a24 b3 a31 a32 a33 a34 b4 a41 a42 a43 a44 + a31 * dt5 a00 b0 a02 a03 a04 a10 b1 a12 a13 a14 a20 b2 a22 a23 a24 a30 b3 a32 a33 a34 a40 b4 a42 a43 a44 + a32 * dt5 a00 a01 b0 a03 a04 a10 a11 b1 a13 a14 a20 a21 b2 a23 a24 a30 a31 b3 a33 a34 a40 a41 b4 a43 a44 + a33 * dt5 a00 a01 a02 b0 a04 a10 a11 a12 b1 a14 a20 a21 a22 b2 a24 a30 a31 a32 b3 a34 a40 a41 a42 b4 a44 + a34 * dt5 a00 a01 a02 a03 b0 a10 a11 a12 a13 b1 a20 a21 a22 a23 b2 a30 a31 a32 a33 b3 a40 a41 a42 a43 b4 := by
  unfold dt5
  grind
set_option maxHeartbeats 40000000 in
theorem dt5_adj4 (a00 a01 a02 a03 a04 a10 a11 a12 a13 a14 a20 a21 a22 a23 a24 a30 a31 a32 a33 a34 a40 a41 a42 a43 a44 b0 b1 b2 b3 b4 : Int) : b4 * dt5 a00 a01 a02 a03 a04 a10 a11 a12 a13 a14 a20 a21 a22 a23 a24 a30 a31 a32 a33 a34 a40 a41 a42 a43 a44 = a40 * dt5 b0 a01 a02 a03 a04 b1 a11 a12 a13 a14 b2 a21 a22 a23 a24 b3 a31 a32 a33 a34 b4 a41 a42 a43 a44 + a41 * dt5 a00 b0 a02 a03 a04 a10 b1 a12 a13 a14 a20 b2 a22 a23 a24 a30 b3 a32 a33 a34 a40 b4 a42 a43 a44 + a42 * dt5 a00 a01 b0 a03 a04 a10 a11 b1 a13 a14 a20 a21 b2 a23 a24 a30 a31 b3 a33 a34 a40 a41 b4 a43 a44 + a43 * dt5 a00 a01 a02 b0 a04 a10 a11 a12 b1 a14 a20 a21 a22 b2 a24 a30 a31 a32 b3 a34 a40 a41 a42 b4 a44 + a44 * dt5 a00 a01 a02 a03 b0 a10 a11 a12 a13 b1 a20 a21 a22 a23 b2 a30 a31 a32 a33 b3 a40 a41 a42 a43 b4 := by
  unfold dt5
  grind
theorem det5_adj {m : Nat → Nat → Int} {b : Nat → Int} {i : Nat} (hi : i < 5) : b i * det5 m = m i 0 * det5 (zrep m 0 b) + m i 1 * det5 (zrep m 1 b) + m i 2 * det5 (zrep m 2 b) + m i 3 * det5 (zrep m 3 b) + m i 4 * det5 (zrep m 4 b) := by
  match i, hi with
  | 0, _ => exact dt5_adj0 (m 0 0) (m 0 1) (m 0 2) (m 0 3) (m 0 4) (m 1 0) (m 1 1) (m 1 2) (m 1 3) (m 1 4) (m 2 0) (m 2 1) (m 2 2) (m 2 3) (m 2 4) (m 3 0) (m 3 1) (m 3 2) (m 3 3) (m 3 4) (m 4 0) (m 4 1) (m 4 2) (m 4 3) (m 4 4) (b 0) (b 1) (b 2) (b 3) (b 4)
  | 1, _ => exact dt5_adj1 (m 0 0) (m 0 1) (m 0 2) (m 0 3) (m 0 4) (m 1 0) (m 1 1) (m 1 2) (m 1 3) (m 1 4) (m 2 0) (m 2 1) (m 2 2) (m 2 3) (m 2 4) (m 3 0) (m 3 1) (m 3 2) (m 3 3) (m 3 4) (m 4 0) (m 4 1) (m 4 2) (m 4 3) (m 4 4) (b 0) (b 1) (b 2) (b 3) (b 4)
  | 2, _ => exact dt5_adj2 (m 0 0) (m 0 1) (m 0 2) (m 0 3) (m 0 4) (m 1 0) (m 1 1) (m 1 2) (m 1 3) (m 1 4) (m 2 0) (m 2 1) (m 2 2) (m 2 3) (m 2 4) (m 3 0) (m 3 1) (m 3 2) (m 3 3) (m 3 4) (m 4 0) (m 4 1) (m 4 2) (m 4 3) (m 4 4) (b 0) (b 1) (b 2) (b 3) (b 4)
  | 3, _ => exact dt5_adj3 (m 0 0) (m 0 1) (m 0 2) (m 0 3) (m 0 4) (m 1 0) (m 1 1) (m 1 2) (m 1 3) (m 1 4) (m 2 0) (m 2 1) (m 2 2) (m 2 3) (m 2 4) (m 3 0) (m 3 1) (m 3 2) (m 3 3) (m 3 4) (m 4 0) (m 4 1) (m 4 2) (m 4 3) (m 4 4) (b 0) (b 1) (b 2) (b 3) (b 4)
  | 4, _ => exact dt5_adj4 (m 0 0) (m 0 1) (m 0 2) (m 0 3) (m 0 4) (m 1 0) (m 1 1) (m 1 2) (m 1 3) (m 1 4) (m 2 0) (m 2 1) (m 2 2) (m 2 3) (m 2 4) (m 3 0) (m 3 1) (m 3 2) (m 3 3) (m 3 4) (m 4 0) (m 4 1) (m 4 2) (m 4 3) (m 4 4) (b 0) (b 1) (b 2) (b 3) (b 4)
  | i + 5, hi => omega
def dot5 (v : Nat → Int) (x : Nat → Rat) : Rat := (v 0 : Rat) * x 0 + (v 1 : Rat) * x 1 + (v 2 : Rat) * x 2 + (v 3 : Rat) * x 3 + (v 4 : Rat) * x 4
def sum5 (f : Nat → Rat) : Rat := f 0 + f 1 + f 2 + f 3 + f 4
theorem dot5_adj {m : Nat → Nat → Int} {b : Nat → Int} {x : Nat → Rat} : (det5 m : Rat) * dot5 b x = sum5 (fun j => (det5 (zrep m j b) : Rat) * dot5 (fun i => m i j) x) := by
  have h : ∀ i, i < 5 → (b i : Rat) * (det5 m : Rat) = (m i 0 : Rat) * (det5 (zrep m 0 b) : Rat) + (m i 1 : Rat) * (det5 (zrep m 1 b) : Rat) + (m i 2 : Rat) * (det5 (zrep m 2 b) : Rat) + (m i 3 : Rat) * (det5 (zrep m 3 b) : Rat) + (m i 4 : Rat) * (det5 (zrep m 4 b) : Rat) := fun i hi => by
    have := det5_adj (m := m) (b := b) hi
    exact_mod_cast this
  have h0 := h 0 (by omega)
  have h1 := h 1 (by omega)
  have h2 := h 2 (by omega)
  have h3 := h 3 (by omega)
  have h4 := h 4 (by omega)
  unfold dot5 sum5
  dsimp only
  generalize (det5 m : Rat) = d at *
  generalize (det5 (zrep m 0 b) : Rat) = d0 at *
  generalize (det5 (zrep m 1 b) : Rat) = d1 at *
  generalize (det5 (zrep m 2 b) : Rat) = d2 at *
  generalize (det5 (zrep m 3 b) : Rat) = d3 at *
  generalize (det5 (zrep m 4 b) : Rat) = d4 at *
  generalize (b 0 : Rat) = c0 at *
  generalize (b 1 : Rat) = c1 at *
  generalize (b 2 : Rat) = c2 at *
  generalize (b 3 : Rat) = c3 at *
  generalize (b 4 : Rat) = c4 at *
  have e : d * (c0 * x 0 + c1 * x 1 + c2 * x 2 + c3 * x 3 + c4 * x 4) = (c0 * d) * x 0 + (c1 * d) * x 1 + (c2 * d) * x 2 + (c3 * d) * x 3 + (c4 * d) * x 4 := by grind
  rw [e, h0, h1, h2, h3, h4]
  clear e h0 h1 h2 h3 h4 h
  grind
set_option maxHeartbeats 40000000 in
theorem dt5_scs (a00 a01 a02 a03 a04 a10 a11 a12 a13 a14 a20 a21 a22 a23 a24 a30 a31 a32 a33 a34 a40 a41 a42 a43 a44 s0 s1 s2 s3 s4 : Int) : dt5 (s0 * a00) (s1 * a01) (s2 * a02) (s3 * a03) (s4 * a04) (s0 * a10) (s1 * a11) (s2 * a12) (s3 * a13) (s4 * a14) (s0 * a20) (s1 * a21) (s2 * a22) (s3 * a23) (s4 * a24) (s0 * a30) (s1 * a31) (s2 * a32) (s3 * a33) (s4 * a34) (s0 * a40) (s1 * a41) (s2 * a42) (s3 * a43) (s4 * a44) = s0 * s1 * s2 * s3 * s4 * dt5 a00 a01 a02 a03 a04 a10 a11 a12 a13 a14 a20 a21 a22 a23 a24 a30 a31 a32 a33 a34 a40 a41 a42 a43 a44 := by
  unfold dt5
  grind
def pm1 (v : Nat → Int) : Prop := ∃ s : Int, (s = 1 ∨ s = -1) ∧ ∀ i, i < 5 → s * v i = 0 ∨ s * v i = 1
theorem det5_pm {m : Nat → Nat → Int} (h : ∀ j, j < 5 → pm1 (fun i => m i j)) : -15 ≤ det5 m ∧ det5 m ≤ 15 := by
  obtain ⟨s0, p0, h0⟩ := h 0 (by omega)
  obtain ⟨s1, p1, h1⟩ := h 1 (by omega)
  obtain ⟨s2, p2, h2⟩ := h 2 (by omega)
  obtain ⟨s3, p3, h3⟩ := h 3 (by omega)
  obtain ⟨s4, p4, h4⟩ := h 4 (by omega)
  have hb := det5_01 (m := fun i j => (if j = 0 then s0 else if j = 1 then s1 else if j = 2 then s2 else if j = 3 then s3 else s4) * m i j) (by
    intro i j hi hj
    match j, hj with
    | 0, _ => exact h0 i hi
    | 1, _ => exact h1 i hi
    | 2, _ => exact h2 i hi
    | 3, _ => exact h3 i hi
    | 4, _ => exact h4 i hi
    | j + 5, hj => omega)
  have e : det5 (fun i j => (if j = 0 then s0 else if j = 1 then s1 else if j = 2 then s2 else if j = 3 then s3 else s4) * m i j) = s0 * s1 * s2 * s3 * s4 * det5 m := dt5_scs (m 0 0) (m 0 1) (m 0 2) (m 0 3) (m 0 4) (m 1 0) (m 1 1) (m 1 2) (m 1 3) (m 1 4) (m 2 0) (m 2 1) (m 2 2) (m 2 3) (m 2 4) (m 3 0) (m 3 1) (m 3 2) (m 3 3) (m 3 4) (m 4 0) (m 4 1) (m 4 2) (m 4 3) (m 4 4) s0 s1 s2 s3 s4
  rw [e] at hb
  have hs : s0 * s1 * s2 * s3 * s4 = 1 ∨ s0 * s1 * s2 * s3 * s4 = -1 := by
    rcases p0 with rfl | rfl <;> rcases p1 with rfl | rfl <;> rcases p2 with rfl | rfl <;> rcases p3 with rfl | rfl <;> rcases p4 with rfl | rfl <;> decide
  rcases hs with q | q <;> rw [q] at hb <;> omega
/-- the greatest common factor of a row's first n places -/
def rgcd (ρ : Nat → Int) : Nat → Nat
  | 0 => 0
  | n + 1 => Nat.gcd (rgcd ρ n) (ρ n).natAbs
theorem rgcd_dvd {ρ : Nat → Int} {d x : Int} : ∀ n, (∀ k, k < n → d ∣ x * ρ k) → d ∣ x * (rgcd ρ n : Int)
  | 0, _ => by simp [rgcd]
  | n + 1, h => by
    have h1 := rgcd_dvd n (fun k hk => h k (by omega))
    have h2 := h n (by omega)
    have e1 : d.natAbs ∣ x.natAbs * rgcd ρ n := by
      have := Int.natAbs_dvd_natAbs.mpr h1
      rwa [Int.natAbs_mul, Int.natAbs_natCast] at this
    have e2 : d.natAbs ∣ x.natAbs * (ρ n).natAbs := by
      have := Int.natAbs_dvd_natAbs.mpr h2
      rwa [Int.natAbs_mul] at this
    have e3 : d.natAbs ∣ x.natAbs * rgcd ρ (n + 1) := by
      rw [rgcd, ← Nat.gcd_mul_left]
      exact Nat.dvd_gcd e1 e2
    have e4 : d.natAbs ∣ (x * (rgcd ρ (n + 1) : Int)).natAbs := by
      rw [Int.natAbs_mul, Int.natAbs_natCast]; exact e3
    exact Int.natAbs_dvd_natAbs.mp e4
theorem rlow_small {ρ v : Nat → Int} {n : Nat} (hn : 0 < n) (hg : rgcd ρ n = 1) (h0 : 0 < ρ 0) (hv0 : v 0 ≠ 0) (h : ∀ k, k < n → v 0 * ρ k = ρ 0 * v k) : ∀ k, k < n → (ρ k).natAbs ≤ (v k).natAbs := by
  have hd : ρ 0 ∣ v 0 * (rgcd ρ n : Int) := rgcd_dvd n (fun k hk => ⟨v k, h k hk⟩)
  rw [hg] at hd
  obtain ⟨m, hm⟩ := hd
  have hm0 : v 0 = ρ 0 * m := by simpa using hm
  have hmne : m ≠ 0 := by
    intro q
    rw [q, Int.mul_zero] at hm0
    exact hv0 hm0
  intro k hk
  have e := h k hk
  rw [hm0, Int.mul_assoc] at e
  have e2 : m * ρ k = v k := Int.eq_of_mul_eq_mul_left (by omega) e
  rw [← e2, Int.natAbs_mul]
  have : 1 ≤ m.natAbs := by omega
  calc (ρ k).natAbs = 1 * (ρ k).natAbs := by omega
    _ ≤ m.natAbs * (ρ k).natAbs := Nat.mul_le_mul_right _ this
