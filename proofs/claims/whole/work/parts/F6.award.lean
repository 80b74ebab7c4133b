/-! the call award -/
section AW
variable {s : zS} {m k : Nat} {C : Nat → Int} {E e : Int}
theorem ld_ge {W : Nat → Int} {D k : Nat} : ∀ m : Nat, k < m → (∀ i, i < m → 0 ≤ W i) → D.testBit k = true → W k ≤ ldV W m D := by
  intro m
  induction m with
  | zero => intro h; omega
  | succ m ih =>
    intro hk hW hb
    rw [ldV]
    have hm := hW m (by omega)
    have hn : 0 ≤ ldV W m D := by
      clear ih hk hb hm
      induction m with
      | zero => exact Int.le_refl _
      | succ m ih =>
        have := ih (fun i hi => hW i (by omega))
        have := hW m (by omega)
        rw [ldV]
        split <;> omega
    by_cases e : k = m
    · rw [e] at hb ⊢
      rw [hb, if_pos rfl]; omega
    · have := ih (by omega) (fun i hi => hW i (by omega)) hb
      split <;> omega
theorem tot_ge (hc : cRel s m C E) (hk : k < m) : C k ≤ totV C m := ld_ge m hk (fun i hi => (hc.2.1 i hi).2.2.1) (by rw [Nat.testBit_two_pow_sub_one, decide_eq_true hk])
def opV (m D : Nat) : Int := if 1 < (m : Int) - onesV m D then (m : Int) - onesV m D else 1
def evV (C : Nat → Int) (m : Nat) (e : Int) (D k : Nat) : Int := if D.testBit k then C k * opV m D else e - ldV C m D
theorem op_bd {D : Nat} (hm : m ≤ 6) : 1 ≤ opV m D ∧ opV m D ≤ 6 := by
  have := ones_bd (D := D) m
  unfold opV
  split <;> omega
theorem ev_bd (hc : cRel s m C E) (hk : k < m) {D : Nat} (he : 0 ≤ e ∧ e ≤ 20000) : -20000 ≤ evV C m e D k ∧ evV C m e D k ≤ 20000 := by
  have h1 := op_bd (m := m) (D := D) hc.1.2.2
  have h2 := (hc.2.1 k hk).2.2
  have h3 := tot_bd hc D
  have h4 := abs_mul (a := C k) (b := opV m D) (A := 1000) (B := 6) (by omega) h2.2 (by omega) h1.2
  unfold evV
  split <;> omega
/-- a mask of what is met, whatever the state -/
theorem me_same {D D' : Nat} (h : meD C m e D) (h' : meD C m e D') : (∀ j, j < m → D.testBit j = D'.testBit j) ∧ ldV C m D = ldV C m D' ∧ onesV m D = onesV m D' := by
  have hb : ∀ j, j < m → D.testBit j = D'.testBit j := fun j hj => by rw [h j hj, h' j hj]
  exact ⟨hb, ld_congr m hb, ld_congr m hb⟩
theorem ev_ref (hk : k < m) {D : Nat} : evV C m e D k * (if D.testBit k then 1 else (m : Int) - onesV m D) = (if D.testBit k then C k else e - ldV C m D) * opV m D ∧ (0 : Int) < (if D.testBit k then 1 else (m : Int) - onesV m D) ∧ (if D.testBit k then 1 else (m : Int) - onesV m D) ≤ (m : Int) := by
  have hob := ones_bd (D := D) m
  unfold evV
  cases q : D.testBit k
  · have hlt : onesV m D < (m : Int) := by
      refine Classical.byContradiction fun z => ?_
      have := ones_all (D := D) m (by omega) k hk
      rw [this] at q
      exact absurd q (by decide)
    rw [if_neg (by decide), if_neg (by decide), if_neg (by decide)]
    refine ⟨?_, by omega, by omega⟩
    congr 1
    unfold opV
    split <;> omega
  · rw [if_pos rfl, if_pos rfl, if_pos rfl]
    exact ⟨by rw [Int.mul_one], by omega, by omega⟩
theorem aw_fin {a b : Int} {c8 c9 : zS → Option (Int32 × zS)} (h : Rel s) (hc : cRel s m C E) (hb : 0 < b ∧ b < 1000000) (ha : -1000000000 ≤ a ∧ a ≤ 1000000000) (e8 : c8 s = (D_X2_put s 1 (n64 a) (n64 b)).bind fun p => some (1, p)) (e9 : ∀ t, cRel t m C E → ∃ t2 a' b', fr (fun _ => False) t t2 ∧ (0 < b' ∧ b' < 1000000) ∧ (-1000000000 ≤ a' ∧ a' ≤ 1000000000) ∧ a * b' = a' * b ∧ c9 t = (D_X9_fraction t2 (n64 a') (n64 b')).bind fun p => some (p.1, p.2)) : cOk s c8 c9 := by
  have hc1 : cRel (zwL (zwL s 1 0 (n64 ((a : Rat) / (b : Rat)).num)) 1 1 (n64 (((a : Rat) / (b : Rat)).den : Int))) m C E := hc
  obtain ⟨t2, a', b', hf, hb', ha', heq, e9'⟩ := e9 _ hc1
  have hq := rat_fr hb.1 hb'.1 heq
  refine cOk_frac (s2 := t2) (q := (a : Rat) / (b : Rat)) h ?_ ?_ hf
  · rw [e8, f8_put zshp1 hb.1 (by omega) ⟨by omega, by omega⟩, zbs]
  · rw [e9', f9_put hb'.1 (by omega) ⟨by omega, by omega⟩, zbs, hq]
/-- even loss by both -/
theorem lose_eq (hc : cRel s m C E) (hk : k < m) {D D2 : Nat} (hD : leI C m e D) (hst : ∀ j, j < m → D.testBit j = false → sumV C m e D ≤ C j * mnyV m D) (h2 : meD C m (totV C m - e) D2) : (C k * opV m D2 - evV C m (totV C m - e) D2 k) * mnyV m D = (if D.testBit k then 0 else C k * mnyV m D - sumV C m e D) * opV m D2 := by
  obtain ⟨d1, d2, d3⟩ := hD
  -- what is done is met
  have hin : ∀ j, j < m → D.testBit j = true → D2.testBit j = true := fun j hj hb => by
    rw [h2 j hj]
    have h1 := mt_le (C := C) (k := j) (D := D) m
    have h3 := d2 j hj hb
    unfold metB
    refine decide_eq_true ?_
    have h4 : ((m : Int) - onesV m D) * C j = C j * mnyV m D := by unfold mnyV; rw [Int.mul_comm]
    unfold sumV at h3
    omega
  -- what is met beyond is at the bound
  have hbd : ∀ j, j < m → D.testBit j = false → D2.testBit j = true → C j * mnyV m D = sumV C m e D := fun j hj hb hb2 => by
    refine Int.le_antisymm ?_ (hst j hj hb)
    rw [h2 j hj] at hb2
    have hmet := of_decide_eq_true hb2
    have hsum : ∀ l : Nat, l ≤ m → mnyV m D * (mtV C j l - ldV C l D) ≥ ((l : Int) - onesV l D) * sumV C m e D + if j < l then C j * mnyV m D - sumV C m e D else 0 := by
      intro l
      induction l with
      | zero => intro _; rw [if_neg (by omega)]; simp [mtV, ldV, onesV]
      | succ l ih =>
        intro hl
        have i1 := ih (by omega)
        have h1 : onesV (l + 1) D = onesV l D + if D.testBit l then 1 else 0 := rfl
        rw [mtV, ldV, h1]
        cases q : D.testBit l
        · have q1 := hst l (by omega) q
          have q2 := hst j hj hb
          rw [if_neg (by decide), if_neg (by decide)]
          have hmn : sumV C m e D ≤ mnyV m D * mnV C j l := by
            unfold mnV
            split
            · rw [Int.mul_comm]; exact q2
            · rw [Int.mul_comm]; exact q1
          have e1 : mnyV m D * (mtV C j l + mnV C j l - (ldV C l D + 0)) = mnyV m D * (mtV C j l - ldV C l D) + mnyV m D * mnV C j l := by
            rw [← Int.mul_add]; congr 1; omega
          have e2 : (((l + 1 : Nat) : Int) - (onesV l D + 0)) * sumV C m e D = ((l : Int) - onesV l D) * sumV C m e D + sumV C m e D := by
            rw [show ((l + 1 : Nat) : Int) - (onesV l D + 0) = ((l : Int) - onesV l D) + 1 by omega, Int.add_mul, Int.one_mul]
          rw [e1, e2]
          by_cases q3 : j = l
          · have hmj : mnV C j l = C j := by unfold mnV; rw [q3]; split <;> omega
            have e3 : mnyV m D * mnV C j l = C j * mnyV m D := by rw [hmj, Int.mul_comm]
            rw [if_neg (by omega)] at i1
            rw [if_pos (by omega)]
            omega
          · by_cases q4 : j < l
            · rw [if_pos q4] at i1
              rw [if_pos (by omega)]
              omega
            · rw [if_neg q4] at i1
              rw [if_neg (by omega)]
              omega
        · have q1 := d2 l (by omega) q
          have q2 := hst j hj hb
          have hlt : C l < C j := by
            refine Classical.byContradiction fun z => ?_
            have := Int.mul_le_mul_of_nonneg_right (show C j ≤ C l by omega) (show (0 : Int) ≤ mnyV m D by omega)
            omega
          have hmn : mnV C j l = C l := by unfold mnV; split <;> omega
          rw [if_pos rfl, if_pos rfl, hmn]
          have e1 : mnyV m D * (mtV C j l + C l - (ldV C l D + C l)) = mnyV m D * (mtV C j l - ldV C l D) := by congr 1; omega
          have e2 : (((l + 1 : Nat) : Int) - (onesV l D + 1)) * sumV C m e D = ((l : Int) - onesV l D) * sumV C m e D := by congr 1; omega
          rw [e1, e2]
          have q3 : j ≠ l := fun z => by rw [z, q] at hb; exact absurd hb (by decide)
          by_cases q4 : j < l
          · rw [if_pos q4] at i1
            rw [if_pos (by omega)]
            omega
          · rw [if_neg q4] at i1
            rw [if_neg (by omega)]
            omega
    have h1 := hsum m (Nat.le_refl _)
    rw [if_pos hj] at h1
    have h3 : mtV C j m - ldV C m D ≤ sumV C m e D := by unfold sumV; omega
    have h4 := Int.mul_le_mul_of_nonneg_left h3 (show (0 : Int) ≤ mnyV m D by omega)
    have h5 : ((m : Int) - onesV m D) * sumV C m e D = mnyV m D * sumV C m e D := rfl
    omega
  cases q : D.testBit k
  · rw [if_neg (by decide)]
    unfold evV
    cases q2 : D2.testBit k
    · rw [if_neg (by decide)]
      have hlt : onesV m D2 < (m : Int) := by
        have hob := ones_bd (D := D2) m
        refine Classical.byContradiction fun z => ?_
        have := ones_all (D := D2) m (by omega) k hk
        rw [this] at q2
        exact absurd q2 (by decide)
      have hop : opV m D2 = (m : Int) - onesV m D2 := by unfold opV; split <;> omega
      have hdif : ∀ l : Nat, l ≤ m → mnyV m D * (ldV C l D2 - ldV C l D) = sumV C m e D * (onesV l D2 - onesV l D) := by
        intro l
        induction l with
        | zero => intro _; simp [ldV, onesV]
        | succ l ih =>
          intro hl
          have i1 := ih (by omega)
          have h1 : onesV (l + 1) D = onesV l D + if D.testBit l then 1 else 0 := rfl
          have h3 : onesV (l + 1) D2 = onesV l D2 + if D2.testBit l then 1 else 0 := rfl
          rw [ldV, ldV, h1, h3]
          cases q3 : D.testBit l
          · cases q4 : D2.testBit l
            · rw [if_neg (by decide), if_neg (by decide), Int.add_zero, Int.add_zero, Int.add_zero, Int.add_zero]; exact i1
            · have h4 := hbd l (by omega) q3 q4
              rw [if_pos rfl, if_pos rfl, if_neg (by decide), if_neg (by decide), Int.add_zero, Int.add_zero]
              rw [show ldV C l D2 + C l - ldV C l D = (ldV C l D2 - ldV C l D) + C l by omega, show onesV l D2 + 1 - onesV l D = (onesV l D2 - onesV l D) + 1 by omega, Int.mul_add, Int.mul_add, Int.mul_one, i1, ← h4, Int.mul_comm (mnyV m D) (C l)]
          · rw [hin l (by omega) q3, if_pos rfl, if_pos rfl]
            rw [show ldV C l D2 + C l - (ldV C l D + C l) = ldV C l D2 - ldV C l D by omega, show onesV l D2 + 1 - (onesV l D + 1) = onesV l D2 - onesV l D by omega]
            exact i1
      have hd := hdif m (Nat.le_refl _)
      have hk1 : (totV C m - e - ldV C m D2) * mnyV m D = sumV C m e D * opV m D2 := by
        have e1 : totV C m - e - ldV C m D2 = sumV C m e D - (ldV C m D2 - ldV C m D) := by unfold sumV; omega
        have e2 : opV m D2 = mnyV m D - (onesV m D2 - onesV m D) := by rw [hop]; unfold mnyV; omega
        rw [e1, e2, Int.sub_mul, Int.mul_sub, ← hd, Int.mul_comm (mnyV m D)]
      rw [Int.sub_mul (C k * opV m D2), Int.sub_mul (C k * mnyV m D), hk1, Int.mul_assoc, Int.mul_assoc, Int.mul_comm (opV m D2)]
    · have h4 := hbd k hk q q2
      rw [if_pos rfl, Int.sub_self, Int.zero_mul, h4, Int.sub_self, Int.zero_mul]
  · have h5 := hin k hk q
    unfold evV
    rw [h5, if_pos rfl, if_pos rfl, Int.sub_self, Int.zero_mul, Int.zero_mul]
end AW
