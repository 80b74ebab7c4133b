/-! claims: even giving, by the reference -/
section CG
variable {s : zS} {m : Nat} {C : Nat → Int} {E e : Int}
/-- what even giving has given so far -/
def geI (C : Nat → Int) (m : Nat) (e : Int) (D : Nat) : Prop := D < 2 ^ m ∧ (∀ j, j < m → D.testBit j = true → metB C m e j = true) ∧ ∀ k, k < m → D.testBit k = false → (∃ j, j < m ∧ D.testBit j = true ∧ C k ≤ C j) → C k * ((m : Int) - onesV m D) ≤ e - ldV C m D
theorem ld_put {W : Nat → Int} {D k : Nat} (hk : k < m) (h : D.testBit k = false) : ldV W m (D ||| 2 ^ k) = ldV W m D + W k := ld_add (by rw [or_bit, decide_eq_true rfl, Bool.or_true]) h m hk (fun i hi hne => by rw [or_bit, decide_eq_false (fun q => hne q.symm), Bool.or_false])
theorem ge_put (hc : cRel s m C E) {D k : Nat} (hk : k < m) (hb : D.testBit k = false) (h : geI C m e D) (hle : C k * ((m : Int) - onesV m D) ≤ e - ldV C m D) : geI C m e (D ||| 2 ^ k) := by
  obtain ⟨h1, h2, h3⟩ := h
  have ck := (hc.2.1 k hk).2.2
  have ho : onesV m (D ||| 2 ^ k) = onesV m D + 1 := ld_put hk hb
  have hl : ldV C m (D ||| 2 ^ k) = ldV C m D + C k := ld_put hk hb
  have ob := ones_bd (D := D ||| 2 ^ k) m
  refine ⟨or_ltp h1 hk, fun j hj hjb => ?_, fun l hl2 hlb hex => ?_⟩
  · rw [or_bit] at hjb
    by_cases q : k = j
    · rw [← q]
      have := mt_le (C := C) (k := k) (D := D) m
      unfold metB
      refine decide_eq_true ?_
      rw [Int.mul_comm] at hle
      omega
    · rw [decide_eq_false q, Bool.or_false] at hjb
      exact h2 j hj hjb
  · rw [or_bit] at hlb
    have hlk : ¬ k = l := fun q => by rw [decide_eq_true q, Bool.or_true] at hlb; exact absurd hlb (by decide)
    rw [decide_eq_false hlk, Bool.or_false] at hlb
    have cl := (hc.2.1 l hl2).2.2
    rw [ho, hl]
    have hR : 0 ≤ (m : Int) - onesV m D - 1 := by omega
    have hx1 : C l * ((m : Int) - (onesV m D + 1)) = C l * ((m : Int) - onesV m D) - C l := by
      rw [show (m : Int) - (onesV m D + 1) = ((m : Int) - onesV m D) - 1 by omega, Int.mul_sub, Int.mul_one]
    have hx2 : C k * ((m : Int) - (onesV m D + 1)) = C k * ((m : Int) - onesV m D) - C k := by
      rw [show (m : Int) - (onesV m D + 1) = ((m : Int) - onesV m D) - 1 by omega, Int.mul_sub, Int.mul_one]
    have hmono : C l ≤ C k → C l * ((m : Int) - (onesV m D + 1)) ≤ C k * ((m : Int) - (onesV m D + 1)) := fun q => Int.mul_le_mul_of_nonneg_right q (by omega)
    by_cases q : C l ≤ C k
    · have := hmono q
      omega
    · obtain ⟨j, hj, hjb, hjc⟩ := hex
      rw [or_bit] at hjb
      by_cases q2 : k = j
      · rw [q2] at q; omega
      · rw [decide_eq_false q2, Bool.or_false] at hjb
        have := h3 l hl2 hlb ⟨j, hj, hjb, hjc⟩
        omega
/-- where nothing more can be given, all that is met has been -/
theorem ge_end (hc : cRel s m C E) {D : Nat} (h : geI C m e D) (hst : ∀ k, k < m → D.testBit k = false → e - ldV C m D < C k * ((m : Int) - onesV m D)) : meD C m e D := by
  obtain ⟨h1, h2, h3⟩ := h
  intro j hj
  cases q : D.testBit j
  · obtain ⟨k, k1, k2, k3⟩ := least_out (C := C) (D := D) m ⟨j, hj, q⟩
    have hle : ∀ l, l < m → if D.testBit l then C l ≤ C k else C k ≤ C l := fun l hl => by
      cases q2 : D.testBit l
      · rw [if_neg (by decide)]; exact k3 l hl q2
      · rw [if_pos rfl]
        refine Classical.byContradiction fun z => ?_
        have a1 := h3 k k1 k2 ⟨l, hl, q2, by omega⟩
        have a2 := hst k k1 k2
        omega
    have he := mt_eq m hle
    have hs := hst k k1 k2
    have hm := mt_mono (k3 j hj q) m
    rw [Int.mul_comm] at hs
    unfold metB
    symm
    refine decide_eq_false ?_
    omega
  · exact (h2 j hj q).symm
theorem bits_D (hc : cRel s m C E) {D : Nat} (hD : D < 2 ^ m) : D_X9_bits (n32 (D : Int)) = some (n32 (onesV m D)) := by
  have hm := hc.1.2.2
  have hp := pow_le8 (show m ≤ 8 by omega)
  rw [r_pc8 D (by omega), pc8_ones m (by omega) D hD]
theorem r_give20 (hc : cRel s m C E) (he : 0 ≤ e ∧ e ≤ 20000) {D0 : Nat} {rec9 : Int32 → Int64 → Int32 → Option zS} {a1 : Int32} (h0 : geI C m e D0) : ∃ D w, geI C m e D ∧ (w = false → D = D0 ∧ ∀ k, k < m → D.testBit k = false → e - ldV C m D < C k * ((m : Int) - onesV m D)) ∧ (w = true → onesV m D0 < onesV m D) ∧ D_X9_giveEvenly_L20 rec9 s a1 zFU (n32 (D0 : Int)) (n64 (e - ldV C m D0)) 0 0 = rec9 (n32 (D : Int)) (n64 (e - ldV C m D)) (zfl w) := by
  have hm := hc.1.2.2
  have hp := pow_le8 (show m ≤ 8 by omega)
  obtain ⟨t, hR, -, hE⟩ := zloop (fun f k (t : Nat × Bool) => D_X9_giveEvenly_L20 rec9 s a1 f (n32 (t.1 : Int)) (n64 (e - ldV C m t.1)) (zfl t.2) (n32 (k : Int))) m (fun k t => geI C m e t.1 ∧ (t.2 = false → t.1 = D0 ∧ ∀ j, j < k → t.1.testBit j = false → e - ldV C m t.1 < C j * ((m : Int) - onesV m t.1)) ∧ (t.2 = true → onesV m D0 < onesV m t.1) ∧ onesV m D0 ≤ onesV m t.1) (fun t => rec9 (n32 (t.1 : Int)) (n64 (e - ldV C m t.1)) (zfl t.2)) (fun t => geI C m e t.1 ∧ (t.2 = false → t.1 = D0 ∧ ∀ k, k < m → t.1.testBit k = false → e - ldV C m t.1 < C k * ((m : Int) - onesV m t.1)) ∧ (t.2 = true → onesV m D0 < onesV m t.1)) (fun f k t hk hP => by
    obtain ⟨D, w⟩ := t
    obtain ⟨g1, g2, g3, g4⟩ := hP
    try dsimp only at g1 g2 g3 g4 ⊢
    have ck := (hc.2.1 k hk).2.2
    have ob := ones_bd (D := D) m
    have lb := tot_bd hc D
    have hmul := abs_mul (a := C k) (b := (m : Int) - onesV m D) (A := 1000) (B := 6) (by omega) ck.2 (by omega) (by omega)
    have hk64 : (n32 (m : Int) - n32 (onesV m D)).toInt64 = n64 ((m : Int) - onesV m D) := by rw [n32_sub, n32_64 (by omega) (by omega)]
    rw [D_X9_giveEvenly_L20_s]
    unfold D_X9_giveEvenly_B20
    rw [hc.1.2.1, zif_f (by rw [c32_le (by omega) (by omega)]; omega), bits_D hc g1.1, zbs, x9_hasL D (by have := g1.1; omega) k (by omega), in_ite, nsuc]
    by_cases q : D.testBit k = true
    · rw [if_pos q, zi1]
      refine ⟨(D, w), ⟨g1, fun z => ⟨(g2 z).1, fun j hj hjb => ?_⟩, g3, g4⟩, rfl⟩
      by_cases q2 : j = k
      · try dsimp only at hjb
        rw [q2, q] at hjb; exact absurd hjb (by decide)
      · exact (g2 z).2 j (by omega) hjb
    · have qf : D.testBit k = false := by simpa using q
      rw [if_neg q, zi0, zgd_t (czin (by omega) (by omega)), n32_xn (by omega), (hc.2.1 k hk).2.1, hk64, n32_64 (by omega) (by omega), n64_mul]
      by_cases q2 : C k * ((m : Int) - onesV m D) ≤ e - ldV C m D
      · have hput := ge_put hc hk qf g1 q2
        have ho : onesV m (D ||| 2 ^ k) = onesV m D + 1 := ld_put hk qf
        have hl : ldV C m (D ||| 2 ^ k) = ldV C m D + C k := ld_put hk qf
        rw [zif_f (by rw [lgc_gt (by omega) (by omega) (by omega) (by omega)]; omega), zgd_t (czin (by omega) (by omega)), shlL k (by omega), n32_or, n64_sub]
        refine ⟨(D ||| 2 ^ k, true), ⟨hput, fun z => absurd z (show ¬ true = false by decide), fun _ => ?_, ?_⟩, ?_⟩
        · try dsimp only
          omega
        · try dsimp only
          omega
        · try dsimp only
          rw [hl, show e - (ldV C m D + C k) = e - ldV C m D - C k by omega]; rfl
      · rw [zif_t (by rw [lgc_gt (by omega) (by omega) (by omega) (by omega)]; omega)]
        refine ⟨(D, w), ⟨g1, fun z => ⟨(g2 z).1, fun j hj hjb => ?_⟩, g3, g4⟩, rfl⟩
        try dsimp only
        by_cases q3 : j = k
        · rw [q3]; omega
        · exact (g2 z).2 j (by omega) hjb) (fun f t hP => by
    obtain ⟨D, w⟩ := t
    obtain ⟨g1, g2, g3, g4⟩ := hP
    try dsimp only at g1 g2 g3 g4 ⊢
    refine ⟨⟨g1, g2, g3⟩, ?_⟩
    rw [D_X9_giveEvenly_L20_s]
    unfold D_X9_giveEvenly_B20
    rw [hc.1.2.1, zif_t (Int32.le_refl _)]) m zFU 0 (D0, false) (by omega) (zFU_lt (by omega)) ⟨h0, fun _ => ⟨rfl, fun j hj => by omega⟩, fun q => absurd q (show ¬ false = true by decide), Int.le_refl _⟩
  exact ⟨t.1, t.2, hR.1, hR.2.1, hR.2.2, hE⟩
theorem r_give9 (hc : cRel s m C E) (he : 0 ≤ e ∧ e ≤ 20000) {a1 : Int32} : ∀ (d f : Nat) (D : Nat), (m : Int) - onesV m D < (d : Int) → d < f → geI C m e D → ∃ D', meD C m e D' ∧ D' < 2 ^ m ∧ ∃ f', D_X9_giveEvenly_L9 s a1 f (n32 (D : Int)) (n64 (e - ldV C m D)) 1 = D_X9_giveEvenly_L9 s a1 (f' + 1) (n32 (D' : Int)) (n64 (e - ldV C m D')) 0 := by
  intro d
  induction d with
  | zero =>
    intro f D hd hf h
    have := ones_bd (D := D) m
    omega
  | succ d ih =>
    intro f D hd hf h
    obtain ⟨f, rfl⟩ : ∃ t, f = t + 1 := ⟨f - 1, by omega⟩
    obtain ⟨D1, w, g1, g2, g3, g4⟩ := r_give20 hc he (rec9 := D_X9_giveEvenly_L9 s a1 f) (a1 := a1) h
    have hstep : D_X9_giveEvenly_L9 s a1 (f + 1) (n32 (D : Int)) (n64 (e - ldV C m D)) 1 = D_X9_giveEvenly_L9 s a1 f (n32 (D1 : Int)) (n64 (e - ldV C m D1)) (zfl w) := by
      rw [D_X9_giveEvenly_L9_s]
      unfold D_X9_giveEvenly_B9
      rw [zi1]
      exact g4
    rw [hstep]
    cases w
    · obtain ⟨k1, k2⟩ := g2 rfl
      obtain ⟨f', rfl⟩ : ∃ t, f = t + 1 := ⟨f - 1, by omega⟩
      exact ⟨D1, ge_end hc g1 k2, g1.1, f', rfl⟩
    · exact ih f D1 (by have := g3 rfl; omega) (by omega) g1
theorem r_give (hc : cRel s m C E) (he : 0 ≤ e ∧ e ≤ 20000) {k : Nat} (hk : k < m) : ∃ D, meD C m e D ∧ D_X9_giveEvenly s (n32 (k : Int)) (n64 e) = some (zwL (zwL s 66 38 (n64 (if D.testBit k then C k else e - ldV C m D))) 66 39 (n64 (if D.testBit k then 1 else (m : Int) - onesV m D))) ∧ D < 2 ^ m := by
  have hm := hc.1.2.2
  have hp := pow_le8 (show m ≤ 8 by omega)
  have ck := (hc.2.1 k hk).2.2
  have hz : ∀ W : Nat → Int, ldV W m 0 = 0 := fun W => by
    clear hc hm hp hk ck
    induction m with
    | zero => rfl
    | succ m ih => rw [ldV, ih, Nat.zero_testBit]; rfl
  have hz1 : onesV m 0 = 0 := hz _
  obtain ⟨D, h1, h2, f', h3⟩ := r_give9 hc he (a1 := n32 (k : Int)) 100 zFU 0 (by omega) (zFU_lt (by omega)) ⟨by omega, fun j _ q => by rw [Nat.zero_testBit] at q; exact absurd q (by decide), fun l _ _ ⟨j, _, q, _⟩ => by rw [Nat.zero_testBit] at q; exact absurd q (by decide)⟩
  refine ⟨D, h1, ?_, h2⟩
  rw [hz, Int.sub_zero] at h3
  have h3' : D_X9_giveEvenly s (n32 (k : Int)) (n64 e) = _ := h3
  have ob := ones_bd (D := D) m
  rw [h3', D_X9_giveEvenly_L9_s]
  unfold D_X9_giveEvenly_B9 D_X9_giveEvenly_J129 D_X9_giveEvenly_J153
  rw [zi0, x9_hasL D (by omega) k (by omega), in_ite]
  by_cases q : D.testBit k = true
  · rw [if_pos q, zi1, zgd_t (czin (by omega) (by omega)), n32_xn (by omega), (hc.2.1 k hk).2.1, n32_64 (by omega) (by omega), if_pos q, if_pos q]
    dsimp only
    rw [zi1]; rfl
  · rw [if_neg q, zi0, if_neg q, if_neg q]
    dsimp only
    rw [zi0, bits_D hc h2, zbs, show (zwL s 66 38 (n64 (e - ldV C m D))).1 66 8 = n32 (m : Int) from hc.1.2.1, n32_sub, n32_64 (by omega) (by omega)]
end CG
