/-! the calls on shares: least and core -/
section SL
variable {n : Nat} {v : Nat → Int} {x : Nat → Rat} {E L : Rat}
/-- a set in between has a share that the whole does not tell -/
theorem cNm_sep {S : Nat} (hn : n ≤ 4) (hS : cNm n S) : ∃ z : Nat → Rat, xS z (2 ^ n - 1) = 0 ∧ xS z S ≠ 0 := by
  have hp := pow_le4 hn
  have hS2 : S < 2 ^ n := by have := hS.2; omega
  obtain ⟨i, hi, hbi⟩ : ∃ i, i < n ∧ hb S i = 1 := by
    refine Classical.byContradiction fun hno => ?_
    have h0 : ∀ i, i < 4 → hb S i = 0 := fun i hi => by
      by_cases e : i < n
      · exact (hb_01 S i).elim id (fun q => absurd ⟨i, e, q⟩ hno)
      · exact hb_z hS2 (by omega)
    have := bits_pos S (by omega) (by have := hS.1; omega)
    rw [h0 0 (by omega), h0 1 (by omega), h0 2 (by omega), h0 3 (by omega)] at this
    omega
  obtain ⟨k, hk, hbk⟩ : ∃ k, k < n ∧ hb S k = 0 := by
    refine Classical.byContradiction fun hno => ?_
    have hall : ∀ i, i < n → hb S i = 1 := fun i hi => (hb_01 S i).elim (fun q => absurd ⟨i, hi, q⟩ hno) id
    have hc := bits_pos (2 ^ n - 1 - S) (by omega) (by have := hS.2; omega)
    have h0 : ∀ i, i < 4 → hb (2 ^ n - 1 - S) i = 0 := fun i hi => by
      have h1 := hb_compl n (by omega) S hS2 i hi
      by_cases e : i < n
      · have := hall i e
        have := hb_01 (2 ^ n - 1) i
        omega
      · have := hb_z (n := n) (i := i) (show 2 ^ n - 1 < 2 ^ n by omega) (by omega)
        omega
    rw [h0 0 (by omega), h0 1 (by omega), h0 2 (by omega), h0 3 (by omega)] at hc
    omega
  have hik : i ≠ k := fun q => by rw [q] at hbi; omega
  have hz : ∀ T, xS (fun j => if j = i then 1 else if j = k then -1 else 0) T = (((hb T i : Nat) : Int) : Rat) - (((hb T k : Nat) : Int) : Rat) := fun T => by
    have hi4 : i < 4 := by omega
    have hk4 : k < 4 := by omega
    unfold xS
    match i, k, hi4, hk4, hik with
    | 0, 1, _, _, _ | 0, 2, _, _, _ | 0, 3, _, _, _ | 1, 0, _, _, _ | 1, 2, _, _, _ | 1, 3, _, _, _ | 2, 0, _, _, _ | 2, 1, _, _, _ | 2, 3, _, _, _ | 3, 0, _, _, _ | 3, 1, _, _, _ | 3, 2, _, _, _ => simp <;> grind
    | 0, 0, _, _, h | 1, 1, _, _, h | 2, 2, _, _, h | 3, 3, _, _, h => exact absurd rfl h
    | i + 4, _, h, _, _ => omega
    | _, k + 4, _, h, _ => omega
  have hall1 : ∀ j, j < n → hb (2 ^ n - 1) j = 1 := fun j hj => by
    have h : ∀ n, n < 5 → ∀ i, i < 4 → hb (2 ^ n - 1) i = if i < n then 1 else 0 := by decide +kernel
    rw [h n (by omega) j (by omega), if_pos hj]
  have c1 : (((1 : Nat) : Int) : Rat) = 1 := rfl
  have c0 : (((0 : Nat) : Int) : Rat) = 0 := rfl
  refine ⟨fun j => if j = i then 1 else if j = k then -1 else 0, ?_, ?_⟩
  · rw [hz, hall1 i hi, hall1 k hk]; grind
  · rw [hz, hbi, hbk, c1, c0]; decide +kernel
/-- the reference's strain is the class's -/
theorem r_strain {s : zS} (hn2 : 2 ≤ n) (hu : uOk s n v) (ok : calmOk n v x) (hE : strOk n v x E) : ∃ s1 s2, D_X9_beginShares s = some s1 ∧ D_X9_layStrain s1 = some s2 ∧ uFrm s s2 ∧ s2.2 66 33 = n64 E.num ∧ s2.2 66 34 = n64 (E.den : Int) := by
  have hn := hu.2.2.1
  obtain ⟨s1, e1, f1, cs⟩ := begin_shares (xc := x) hu ok.1
  obtain ⟨hu1, hx, htf, hg, hgi, hN, hm1⟩ := id cs
  obtain ⟨s2, c, e2, f2, -, -, -, hst, hle, ⟨S, hS, hSc⟩⟩ := lay_strain (t := fun e => xS x (gS 0 (fun _ => 0) (2 ^ n - 1) e)) hn2 hn hm1 (by omega) hg hgi hN (ok.2.2.1 _ hN) (fun _ _ => rfl) ⟨by omega, by omega⟩ hu1 hx htf
  have hce : c = E := by
    obtain ⟨hr, h1, S', hS', hE'⟩ := hE
    have a1 := h1 S hS.1
    rw [hSc] at a1
    have a2 := hle S' ⟨hS', fun hd => by
      obtain ⟨z, z1, z2⟩ := cNm_sep hn hS'
      exact z2 (hd z (fun F hF => by
        obtain ⟨e, he, rfl⟩ := hF
        obtain rfl : e = 0 := by omega
        have hgS : gS 0 (fun _ => 0) (2 ^ n - 1) 0 = 2 ^ n - 1 := by unfold gS; rw [if_neg (by omega)]
        rw [hgS]; exact z1))⟩
    rw [hE'] at a2
    exact Rat.le_antisymm a1 a2
  rw [hce] at hst
  exact ⟨s1, s2, e1, e2, uFrm_t f1 f2, hst.1.1, hst.1.2⟩
/-- the least that pays all is the whole's worth, just when nobody complains -/
theorem core_iff (hn1 : 1 ≤ n) (hn : n ≤ 4) (hL : leastP n v L) (ok : calmOk n v x) (hE : 2 ≤ n → strOk n v x E) : L = (v (2 ^ n - 1) : Rat) ↔ (2 ≤ n → E ≤ 0) := by
  have hp := pow_le4 hn
  obtain ⟨⟨w, hw1, hw2⟩, hmin⟩ := hL
  have hwN := hw1 (2 ^ n - 1) ⟨by omega, by omega⟩
  rw [xS_all hn, hw2] at hwN
  constructor
  · intro hLv h2
    obtain ⟨-, hmx, S', hS', hE'⟩ := hE h2
    have hsep : ¬ gDep (fun F => F = 2 ^ n - 1) S' := fun hd => by
      obtain ⟨z, z1, z2⟩ := cNm_sep hn hS'
      exact z2 (hd z (fun F hF => by rw [hF]; exact z1))
    rcases ok.2.2.1 (fun F => F = 2 ^ n - 1) rfl with hall | ⟨c, y, d1, d2, ⟨S0, d3⟩, d4, d5⟩
    · exact absurd (hall S' hS') hsep
    · have hcE := d1 S' hS' hsep
      rw [hE'] at hcE
      have h0 := d5 (fun i => w i - x i) (fun F hF => by rw [hF, xS_sub, xS_all hn, hw2, hLv, ok.1]; grind)
      -- the complaints, weighed
      have hS016 : S0 < 16 := by have := (d4 S0 d3).1.2; omega
      refine Rat.not_lt.mp fun hEpos => ?_
      have hcpos : 0 < c := Rat.not_le.mp fun q => Rat.not_le.mpr hEpos (Rat.le_trans hcE q)
      have hge : ∀ S, S < 16 → 0 ≤ y S * xS (fun i => w i - x i) S - c * y S := fun S hS => by
        by_cases q : 0 < y S
        · obtain ⟨q1, q2, q3⟩ := d4 S q
          have h1 := hw1 S ⟨q1.1, by have := q1.2; omega⟩
          have h2 : c ≤ xS (fun i => w i - x i) S := by rw [xS_sub, ← q3]; grind
          have := Rat.mul_le_mul_of_nonneg_left h2 (d2 S)
          rw [Rat.mul_comm c]
          grind
        · have : y S = 0 := Rat.le_antisymm (Rat.not_lt.mp q) (d2 S)
          rw [this]; grind
      have hs := zsum_sub (f := fun S => y S * xS (fun i => w i - x i) S) (g := fun S => c * y S) 16
      rw [h0, zsum_mul] at hs
      have hnn := zsum_nonneg 16 hge
      have hy : 0 < zsum 16 y := by
        have h1 := zsum_nonneg 16 (fun j _ => d2 j)
        refine Classical.byContradiction fun q => ?_
        have h2 : zsum 16 y = 0 := Rat.le_antisymm (Rat.not_lt.mp q) h1
        have h3 := zsum_zero_each 16 (fun j _ => d2 j) h2 S0 hS016
        rw [h3] at d3
        exact absurd d3 (by decide)
      have hcy := Rat.mul_pos hcpos hy
      grind
  · intro hEz
    refine Rat.le_antisymm ?_ hwN
    have h1 := hmin x (fun S hS => by
      by_cases q : S = 2 ^ n - 1
      · rw [q, ok.1]; exact Rat.le_refl
      · have hc : cNm n S := ⟨hS.1, by have := hS.2; omega⟩
        have h2 : 2 ≤ n := by
          refine Classical.byContradiction fun h => ?_
          obtain rfl : n = 1 := by omega
          have h3 := hc.1
          have h4 := hc.2
          omega
        have h3 := (hE h2).2.1 S hc
        have h4 := hEz h2
        grind)
    rw [← xS_all hn, ok.1] at h1
    exact h1
end SL
