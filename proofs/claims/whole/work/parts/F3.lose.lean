/-! claims: even loss, by the reference -/
section CL
variable {s : zS} {m : Nat} {C : Nat → Int} {E e : Int}
def mnyV (m D : Nat) : Int := (m : Int) - onesV m D
def sumV (C : Nat → Int) (m : Nat) (e : Int) (D : Nat) : Int := totV C m - ldV C m D - e
def leI (C : Nat → Int) (m : Nat) (e : Int) (D : Nat) : Prop := D < 2 ^ m ∧ (∀ j, j < m → D.testBit j = true → C j * mnyV m D < sumV C m e D) ∧ 1 ≤ mnyV m D
theorem ones_all {D : Nat} : ∀ l : Nat, onesV l D = (l : Int) → ∀ j, j < l → D.testBit j = true := by
  intro l
  induction l with
  | zero => intro _ j hj; omega
  | succ l ih =>
    intro h j hj
    have h1 : onesV (l + 1) D = onesV l D + if D.testBit l then 1 else 0 := rfl
    have h2 := ones_bd (D := D) l
    rw [h1] at h
    have h3 : D.testBit l = true := by
      cases q : D.testBit l
      · rw [q, if_neg (by decide)] at h; omega
      · rfl
    rw [h3, if_pos rfl] at h
    by_cases q : j = l
    · rw [q]; exact h3
    · exact ih (by omega) j (by omega)
theorem sum_none {D : Nat} (h : mnyV m D = 0) : sumV C m e D = -e := by
  unfold mnyV at h
  have h1 := ones_all (D := D) m (by omega)
  have h2 : ldV C m D = totV C m := ld_congr m (fun i hi => by rw [h1 i hi, Nat.testBit_two_pow_sub_one, decide_eq_true hi])
  unfold sumV
  omega
theorem r_lose24 (hc : cRel s m C E) (he : 0 ≤ e ∧ e ≤ 6000) {D : Nat} (hD : D < 2 ^ m) {rec6 : Int32 → Int32 → zS → Option zS} {a1 a5 : Int32} {a2 : Int64} : D_X9_loseEvenly_L24 rec6 s a1 a2 (n32 (D : Int)) a5 zFU (n64 (-e)) 0 0 = D_X9_loseEvenly_L89 rec6 s a1 a2 (n64 (sumV C m e D)) (n32 (mnyV m D)) zFU (n32 (D : Int)) a5 0 := by
  have hm := hc.1.2.2
  have hp := pow_le8 (show m ≤ 8 by omega)
  have hall : ∀ l, l ≤ m → ldV C (l + 1) (2 ^ m - 1) = ldV C l (2 ^ m - 1) + if l < m then C l else 0 := fun l hl => by
    rw [ldV, Nat.testBit_two_pow_sub_one]
    by_cases q : l < m
    · rw [decide_eq_true q, if_pos rfl, if_pos q]
    · rw [decide_eq_false q, if_neg (by decide), if_neg q]
  have h := zfoldP (lo := 0) (hi := m) (step := fun j (t : Int × Int) => (t.1 + (if D.testBit j then 0 else C j), t.2 + (if D.testBit j then 0 else 1))) (fin := fun t : Int × Int => D_X9_loseEvenly_L89 rec6 s a1 a2 (n64 t.1) (n32 t.2) zFU (n32 (D : Int)) a5 0) (fun l t => t.1 = ldV C l (2 ^ m - 1) - ldV C l D - e ∧ t.2 = (l : Int) - onesV l D) (fun f j t => D_X9_loseEvenly_L24 rec6 s a1 a2 (n32 (D : Int)) a5 f (n64 t.1) (n32 t.2) (n32 (j : Int))) (fun f j t _ hj hP => by
    obtain ⟨x, y⟩ := t
    obtain ⟨g1, g2⟩ := hP
    try dsimp only at g1 g2 ⊢
    have ck := (hc.2.1 j hj).2.2
    refine ⟨⟨?_, ?_⟩, ?_⟩
    · rw [hall j (by omega), if_pos hj, ldV, g1]
      cases D.testBit j
      · rw [if_neg (by decide), if_neg (by decide)]; omega
      · rw [if_pos rfl, if_pos rfl]; omega
    · have h1 : onesV (j + 1) D = onesV j D + if D.testBit j then 1 else 0 := rfl
      rw [h1, g2]
      cases D.testBit j
      · rw [if_neg (by decide), if_neg (by decide)]; omega
      · rw [if_pos rfl, if_pos rfl]; omega
    · rw [D_X9_loseEvenly_L24_s]
      unfold D_X9_loseEvenly_B24 D_X9_loseEvenly_J57 D_X9_loseEvenly_J77
      rw [hc.1.2.1, zif_f (by rw [c32_le (by omega) (by omega)]; omega), x9_hasL D (by omega) j (by omega), in_ite, nsuc]
      by_cases q : D.testBit j = true
      · rw [if_pos q, zi1, in_ite, if_pos q, zi1, if_pos q, if_pos q, l64_0, n64_add, n32_0r, Int.add_zero, Int.add_zero]
      · rw [if_neg q, zi0, zgd_t (czin (by omega) (by omega)), n32_xn (by omega), (hc.2.1 j hj).2.1, n32_64 (by omega) (by omega), in_ite, if_neg q, zi0, if_neg q, if_neg q, n64_add, l32_1, n32_add]) (fun f t _ => by
    try dsimp only
    rw [D_X9_loseEvenly_L24_s]
    unfold D_X9_loseEvenly_B24
    rw [hc.1.2.1, zif_t (Int32.le_refl _)]) m zFU 0 (-e, 0) (by omega) (by omega) (zFU_lt (by omega)) ⟨by simp [ldV], by simp [onesV, ldV]⟩
  obtain ⟨⟨h1, h2⟩, h3⟩ := h
  rw [h1, h2] at h3
  exact h3
/-- a pass of the reference's -/
def leS (C : Nat → Int) (m : Nat) (e : Int) (D k : Nat) (s : zS) : zS := zwL (zwL s 66 38 (n64 (C k * mnyV m D - sumV C m e D))) 66 39 (n64 (mnyV m D))
theorem r_lose89 (hc : cRel s m C E) (he : 0 ≤ e ∧ e ≤ 6000) {D0 k : Nat} (hk : k < m) {rec6 : Int32 → Int32 → zS → Option zS} {a2 : Int64} (h0 : leI C m e D0) : ∃ D w, leI C m e D ∧ (w = false → D = D0 ∧ ∀ j, j < m → D.testBit j = false → sumV C m e D ≤ C j * mnyV m D) ∧ (w = true → onesV m D0 < onesV m D) ∧ D_X9_loseEvenly_L89 rec6 s (n32 (k : Int)) a2 (n64 (sumV C m e D0)) (n32 (mnyV m D0)) zFU (n32 (D0 : Int)) 0 0 = rec6 (n32 (D : Int)) (zfl w) (leS C m e D0 k s) := by
  have hm := hc.1.2.2
  have hp := pow_le8 (show m ≤ 8 by omega)
  obtain ⟨i1, i2, i3⟩ := h0
  have ob0 := ones_bd (D := D0) m
  have tb := tot_bd hc (2 ^ m - 1)
  have lb0 := tot_bd hc D0
  have hM : mnyV m D0 ≤ 6 := by unfold mnyV; omega
  have hS : -12000 ≤ sumV C m e D0 ∧ sumV C m e D0 ≤ 6000 := by unfold sumV totV; omega
  have hcm : ∀ j, j < m → 0 ≤ C j * mnyV m D0 ∧ C j * mnyV m D0 ≤ 6000 := fun j hj => by
    have cj := (hc.2.1 j hj).2.2
    have h1 := Int.mul_nonneg cj.1 (show (0 : Int) ≤ mnyV m D0 by omega)
    have h2 := abs_mul (a := C j) (b := mnyV m D0) (A := 1000) (B := 6) (by omega) cj.2 (by omega) hM
    omega
  obtain ⟨t, hR, -, hE⟩ := zloop (fun f l (t : Nat × Bool) => D_X9_loseEvenly_L89 rec6 s (n32 (k : Int)) a2 (n64 (sumV C m e D0)) (n32 (mnyV m D0)) f (n32 (t.1 : Int)) (zfl t.2) (n32 (l : Int))) m (fun l t => (t.1 < 2 ^ m ∧ ∀ j, j < m → t.1.testBit j = true → C j * mnyV m D0 < sumV C m e D0) ∧ (t.2 = false → t.1 = D0 ∧ ∀ j, j < l → t.1.testBit j = false → sumV C m e D0 ≤ C j * mnyV m D0) ∧ (t.2 = true → onesV m D0 < onesV m t.1 ∧ sumV C m e D0 * mnyV m t.1 < mnyV m D0 * sumV C m e t.1) ∧ onesV m D0 ≤ onesV m t.1 ∧ sumV C m e D0 * mnyV m t.1 ≤ mnyV m D0 * sumV C m e t.1) (fun t => rec6 (n32 (t.1 : Int)) (zfl t.2) (leS C m e D0 k s)) (fun t => (t.1 < 2 ^ m ∧ ∀ j, j < m → t.1.testBit j = true → C j * mnyV m D0 < sumV C m e D0) ∧ (t.2 = false → t.1 = D0 ∧ ∀ j, j < m → t.1.testBit j = false → sumV C m e D0 ≤ C j * mnyV m D0) ∧ (t.2 = true → onesV m D0 < onesV m t.1 ∧ sumV C m e D0 * mnyV m t.1 < mnyV m D0 * sumV C m e t.1)) (fun f l t hl hP => by
    obtain ⟨D, w⟩ := t
    obtain ⟨⟨g0, g1⟩, g2, g3, g4, g5⟩ := hP
    try dsimp only at g0 g1 g2 g3 g4 g5 ⊢
    have hcl := hcm l hl
    have cl := (hc.2.1 l hl).2.2
    rw [D_X9_loseEvenly_L89_s]
    unfold D_X9_loseEvenly_B89
    rw [hc.1.2.1, zif_f (by rw [c32_le (by omega) (by omega)]; omega), x9_hasL D (by omega) l (by omega), in_ite, nsuc]
    by_cases q : D.testBit l = true
    · rw [if_pos q, zi1]
      refine ⟨(D, w), ⟨⟨g0, g1⟩, fun z => ⟨(g2 z).1, fun j hj hjb => ?_⟩, g3, g4, g5⟩, rfl⟩
      by_cases q2 : j = l
      · try dsimp only at hjb
        rw [q2, q] at hjb; exact absurd hjb (by decide)
      · exact (g2 z).2 j (by omega) hjb
    · have qf : D.testBit l = false := by simpa using q
      rw [if_neg q, zi0, zgd_t (czin (by omega) (by omega)), n32_xn (by omega), (hc.2.1 l hl).2.1, n32_64 (by omega) (by omega), n32_64 (by omega) (by omega), n64_mul]
      by_cases q2 : sumV C m e D0 ≤ C l * mnyV m D0
      · rw [zif_t (by rw [lgc_ge (by omega) (by omega) (by omega) (by omega)]; omega)]
        refine ⟨(D, w), ⟨⟨g0, g1⟩, fun z => ⟨(g2 z).1, fun j hj hjb => ?_⟩, g3, g4, g5⟩, rfl⟩
        by_cases q3 : j = l
        · rw [q3]; exact q2
        · exact (g2 z).2 j (by omega) hjb
      · have ho : onesV m (D ||| 2 ^ l) = onesV m D + 1 := ld_put hl qf
        have hld : ldV C m (D ||| 2 ^ l) = ldV C m D + C l := ld_put hl qf
        have hmn : mnyV m (D ||| 2 ^ l) = mnyV m D - 1 := by unfold mnyV; omega
        have hsm : sumV C m e (D ||| 2 ^ l) = sumV C m e D - C l := by unfold sumV; omega
        have hstr : sumV C m e D0 * mnyV m (D ||| 2 ^ l) < mnyV m D0 * sumV C m e (D ||| 2 ^ l) := by
          rw [hmn, hsm, Int.mul_sub, Int.mul_sub, Int.mul_one]
          have : mnyV m D0 * C l = C l * mnyV m D0 := Int.mul_comm _ _
          omega
        rw [zif_f (by rw [lgc_ge (by omega) (by omega) (by omega) (by omega)]; omega), shlL l (by omega), n32_or]
        refine ⟨(D ||| 2 ^ l, true), ⟨⟨or_ltp g0 hl, fun j hj hjb => ?_⟩, fun z => absurd z (show ¬ true = false by decide), fun _ => ⟨?_, hstr⟩, ?_, ?_⟩, rfl⟩
        · try dsimp only at hjb
          rw [or_bit] at hjb
          by_cases q3 : l = j
          · rw [← q3]; omega
          · rw [decide_eq_false q3, Bool.or_false] at hjb
            exact g1 j hj hjb
        · try dsimp only
          omega
        · try dsimp only
          omega
        · exact Int.le_of_lt hstr) (fun f t hP => by
    obtain ⟨D, w⟩ := t
    obtain ⟨g1, g2, g3, g4, g5⟩ := hP
    try dsimp only at g1 g2 g3 g4 g5 ⊢
    refine ⟨⟨g1, g2, g3⟩, ?_⟩
    have ck := (hc.2.1 k hk).2.2
    rw [D_X9_loseEvenly_L89_s]
    unfold D_X9_loseEvenly_B89 leS
    rw [hc.1.2.1, zif_t (Int32.le_refl _), zgd_t (czin (by omega) (by omega)), n32_xn (by omega), (hc.2.1 k hk).2.1, n32_64 (by omega) (by omega), n32_64 (by omega) (by omega), n64_mul, n64_sub]) m zFU 0 (D0, false) (by omega) (zFU_lt (by omega)) ⟨⟨i1, i2⟩, fun _ => ⟨rfl, fun j hj => by omega⟩, fun q => absurd q (show ¬ false = true by decide), Int.le_refl _, by
    try dsimp only
    have hd : mnyV m D0 * sumV C m e D0 = sumV C m e D0 * mnyV m D0 := Int.mul_comm _ _
    omega⟩
  obtain ⟨D, w⟩ := t
  obtain ⟨⟨g0, g1⟩, g2, g3⟩ := hR
  try dsimp only at g0 g1 g2 g3 hE
  refine ⟨D, w, ?_, fun z => ?_, fun z => (g3 z).1, hE⟩
  · cases w
    · rw [(g2 rfl).1]; exact ⟨i1, i2, i3⟩
    · obtain ⟨h1, h2⟩ := g3 rfl
      have ob := ones_bd (D := D) m
      have hpos : 1 ≤ mnyV m D := by
        refine Classical.byContradiction fun q => ?_
        have hz : mnyV m D = 0 := by unfold mnyV at q ⊢; omega
        have hs := sum_none (C := C) (e := e) hz
        rw [hz, hs, Int.mul_zero, Int.mul_neg] at h2
        have := Int.mul_nonneg (show (0 : Int) ≤ mnyV m D0 by omega) he.1
        omega
      refine ⟨g0, fun j hj hjb => ?_, hpos⟩
      have h3 := g1 j hj hjb
      have h4 : C j * mnyV m D0 * mnyV m D ≤ sumV C m e D0 * mnyV m D := Int.mul_le_mul_of_nonneg_right (Int.le_of_lt h3) (by omega)
      have h5 : mnyV m D0 * (C j * mnyV m D) = C j * mnyV m D0 * mnyV m D := by rw [← Int.mul_assoc, Int.mul_comm (mnyV m D0)]
      exact Int.lt_of_mul_lt_mul_left (show mnyV m D0 * (C j * mnyV m D) < mnyV m D0 * sumV C m e D by omega) (by omega)
  · obtain ⟨k1, k2⟩ := g2 z
    refine ⟨k1, fun j hj hjb => ?_⟩
    rw [k1]
    rw [k1] at hjb
    exact k2 j hj (by rw [k1]; exact hjb)
theorem cRel_1 {s' : zS} (hc : cRel s m C E) (h : s'.1 = s.1) : cRel s' m C E := by
  unfold cRel
  rw [h]
  exact hc
theorem r_lose6 (he : 0 ≤ e ∧ e ≤ 6000) {k : Nat} (hk : k < m) : ∀ (d f : Nat) (D : Nat) (s : zS), (m : Int) - onesV m D < (d : Int) → d < f → cRel s m C E → leI C m e D → ∃ D' s', leI C m e D' ∧ (∀ j, j < m → D'.testBit j = false → sumV C m e D' ≤ C j * mnyV m D') ∧ s'.1 = s.1 ∧ (∀ c l, ownL c l ≠ 0 → s'.2 c l = s.2 c l) ∧ s'.2 66 38 = n64 (C k * mnyV m D' - sumV C m e D') ∧ s'.2 66 39 = n64 (mnyV m D') ∧ ∃ f', D_X9_loseEvenly_L6 (n32 (k : Int)) (n64 e) f (n32 (D : Int)) 1 s = D_X9_loseEvenly_L6 (n32 (k : Int)) (n64 e) (f' + 1) (n32 (D' : Int)) 0 s' := by
  intro d
  induction d with
  | zero =>
    intro f D s hd hf hc h
    have := ones_bd (D := D) m
    omega
  | succ d ih =>
    intro f D s hd hf hc h
    obtain ⟨f, rfl⟩ : ∃ t, f = t + 1 := ⟨f - 1, by omega⟩
    obtain ⟨D1, w, g1, g2, g3, g4⟩ := r_lose89 hc he hk (rec6 := D_X9_loseEvenly_L6 (n32 (k : Int)) (n64 e) f) (a2 := n64 e) h
    have h24 := r_lose24 hc he h.1 (rec6 := D_X9_loseEvenly_L6 (n32 (k : Int)) (n64 e) f) (a1 := n32 (k : Int)) (a5 := 0) (a2 := n64 e)
    have hstep : D_X9_loseEvenly_L6 (n32 (k : Int)) (n64 e) (f + 1) (n32 (D : Int)) 1 s = D_X9_loseEvenly_L6 (n32 (k : Int)) (n64 e) f (n32 (D1 : Int)) (zfl w) (leS C m e D k s) := by
      rw [D_X9_loseEvenly_L6_s]
      unfold D_X9_loseEvenly_B6
      rw [zi1, n64_neg]
      exact h24.trans g4
    have hfr : ∀ c l, ownL c l ≠ 0 → (leS C m e D k s).2 c l = s.2 c l := fun c l h => by
      unfold leS
      rw [zwL_at, if_neg (by rintro ⟨rfl, rfl⟩; exact h rfl), zwL_at, if_neg (by rintro ⟨rfl, rfl⟩; exact h rfl)]
    rw [hstep]
    cases w
    · obtain ⟨k1, k2⟩ := g2 rfl
      obtain ⟨f', rfl⟩ : ∃ t, f = t + 1 := ⟨f - 1, by omega⟩
      refine ⟨D1, leS C m e D k s, g1, k2, rfl, hfr, ?_, ?_, f', rfl⟩
      · unfold leS
        rw [zwL_at, if_neg (by omega), zwL_at, if_pos ⟨rfl, rfl⟩, k1]
      · unfold leS
        rw [zwL_at, if_pos ⟨rfl, rfl⟩, k1]
    · obtain ⟨D2, s2, q1, q2, q3, q4, q5, q6, q7⟩ := ih f D1 (leS C m e D k s) (by have := g3 rfl; omega) (by omega) (cRel_1 hc rfl) g1
      exact ⟨D2, s2, q1, q2, q3, fun c l h => (q4 c l h).trans (hfr c l h), q5, q6, q7⟩
theorem r_lose (hc : cRel s m C E) (he : 0 ≤ e ∧ e ≤ 6000) {k : Nat} (hk : k < m) : ∃ D s', leI C m e D ∧ (∀ j, j < m → D.testBit j = false → sumV C m e D ≤ C j * mnyV m D) ∧ D_X9_loseEvenly s (n32 (k : Int)) (n64 e) = some s' ∧ s'.1 = s.1 ∧ (∀ c l, ownL c l ≠ 0 → s'.2 c l = s.2 c l) ∧ s'.2 66 38 = n64 (if D.testBit k then 0 else C k * mnyV m D - sumV C m e D) ∧ s'.2 66 39 = n64 (mnyV m D) := by
  have hm := hc.1.2.2
  have hp := pow_le8 (show m ≤ 8 by omega)
  have hz : ∀ W : Nat → Int, ldV W m 0 = 0 := fun W => by
    clear hc hm hp hk
    induction m with
    | zero => rfl
    | succ m ih => rw [ldV, ih, Nat.zero_testBit]; rfl
  have hz1 : onesV m 0 = 0 := hz _
  obtain ⟨D, s1, h1, h2, h3, h4, h5, h6, f', h7⟩ := r_lose6 (E := E) he hk 100 zFU 0 s (by omega) (zFU_lt (by omega)) hc ⟨by omega, fun j _ q => by rw [Nat.zero_testBit] at q; exact absurd q (by decide), by unfold mnyV; omega⟩
  have h7' : D_X9_loseEvenly s (n32 (k : Int)) (n64 e) = _ := h7
  refine ⟨D, zwL s1 66 38 (n64 (if D.testBit k then 0 else C k * mnyV m D - sumV C m e D)), h1, h2, ?_, h3, fun c l h => ?_, ?_, ?_⟩
  · rw [h7', D_X9_loseEvenly_L6_s]
    unfold D_X9_loseEvenly_B6 D_X9_loseEvenly_J190
    rw [zi0, x9_hasL D (by have := h1.1; omega) k (by omega), in_ite]
    by_cases q : D.testBit k = true
    · rw [if_pos q, zi1, if_pos q]; rfl
    · rw [if_neg q, zi0, if_neg q, h5]
  · rw [zwL_at, if_neg (by rintro ⟨rfl, rfl⟩; exact h rfl)]
    exact h4 c l h
  · rw [zwL_at, if_pos ⟨rfl, rfl⟩]
  · rw [zwL_at, if_neg (by omega)]; exact h6
end CL
