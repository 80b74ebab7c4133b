/-! the ends: one row weighed -/
section ER
variable {n side : Nat} {v : Nat → Int} {q : Nat → Nat} {sg : Int} {rec81 : Int64 → Int64 → Int32 → zS → Option (Int32 × zS)} {a2 a8 : Int32} {a3 a5 : Int64}
def endE (sg : Int) (a3 a5 : Int64) : Option Rat → Prop
  | none => a3 = 0 ∧ a5 = 0
  | some u => ∃ t : Rat, u = (sg : Rat) * t ∧ a3 = n64 t.num ∧ a5 = n64 (t.den : Int) ∧ (-75000 ≤ t.num ∧ t.num ≤ 75000) ∧ t.den ≤ 15
theorem e_take {s : zS} {p : Rat} {o : Option Rat} (hsg : (sg = -1 ∧ a2 = 0) ∨ (sg = 1 ∧ a2 = 1)) (hs : side < 5) (hc : rCell s (6 * side + 5) p) (hp : (-75000 ≤ p.num ∧ p.num ≤ 75000) ∧ p.den ≤ 15) (hE : endE sg a3 a5 o) :
    ∃ b3 b5, (if (lg_cmp a5 (0 : Int64)) = 0 then D_X9_end_J273 rec81 s (n32 (side : Int)) a2 a3 a5 (n32 ((n : Int) - 1)) a8 (n64 p.num) (n64 (p.den : Int)) else if a2 = 0 then (if 0 ≤ (lg_cmp (n64 p.num * a5) (a3 * n64 (p.den : Int))) then D_X9_end_J277 rec81 s (n32 (side : Int)) a2 a3 a5 (n32 ((n : Int) - 1)) a8 (n64 p.num) (n64 (p.den : Int)) else D_X9_end_J273 rec81 s (n32 (side : Int)) a2 a3 a5 (n32 ((n : Int) - 1)) a8 (n64 p.num) (n64 (p.den : Int))) else (if (lg_cmp (n64 p.num * a5) (a3 * n64 (p.den : Int))) ≤ 0 then D_X9_end_J277 rec81 s (n32 (side : Int)) a2 a3 a5 (n32 ((n : Int) - 1)) a8 (n64 p.num) (n64 (p.den : Int)) else D_X9_end_J273 rec81 s (n32 (side : Int)) a2 a3 a5 (n32 ((n : Int) - 1)) a8 (n64 p.num) (n64 (p.den : Int)))) = D_X9_end_J306 rec81 s (n32 (side : Int)) a2 b3 b5 (n32 ((n : Int) - 1)) a8 ∧ endE sg b3 b5 (bstM o ((sg : Rat) * p)) := by
  have hpd := p.den_pos
  have htake : D_X9_end_J273 rec81 s (n32 (side : Int)) a2 a3 a5 (n32 ((n : Int) - 1)) a8 (n64 p.num) (n64 (p.den : Int)) = D_X9_end_J306 rec81 s (n32 (side : Int)) a2 (n64 p.num) (n64 (p.den : Int)) (n32 ((n : Int) - 1)) a8 := by
    unfold D_X9_end_J273 D_X9_end_J278 D_X9_end_J291 D_X9_end_J304
    rw [zif_f (by decide), zif_f (by decide)]
  have hkeep : D_X9_end_J277 rec81 s (n32 (side : Int)) a2 a3 a5 (n32 ((n : Int) - 1)) a8 (n64 p.num) (n64 (p.den : Int)) = D_X9_end_J306 rec81 s (n32 (side : Int)) a2 a3 a5 (n32 ((n : Int) - 1)) a8 := by
    unfold D_X9_end_J277 D_X9_end_J278 D_X9_end_J291 D_X9_end_J304
    rw [zif_t rfl, zif_t rfl]
  have hnew : endE sg (n64 p.num) (n64 (p.den : Int)) (some ((sg : Rat) * p)) := ⟨p, rfl, rfl, rfl, hp.1, hp.2⟩
  cases o with
  | none =>
    obtain ⟨rfl, rfl⟩ := hE
    rw [zif_t (by decide), htake]
    exact ⟨_, _, rfl, hnew⟩
  | some u =>
    obtain ⟨t, hu, rfl, rfl, ht1, ht2⟩ := id hE
    have htd := t.den_pos
    have m1 := abs_mul (a := p.num) (b := (t.den : Int)) (A := 75000) (B := 15) hp.1.1 hp.1.2 (by omega) (by omega)
    have m2 := abs_mul (a := t.num) (b := (p.den : Int)) (A := 75000) (B := 15) ht1.1 ht1.2 (by omega) (by omega)
    have hk1 : p.num * (t.den : Int) ≤ t.num * (p.den : Int) ↔ ¬ t < p := by
      have := lp_cmp (t := t) (a := p.num) (b := (p.den : Int)) (by omega)
      rw [rat_n1] at this; exact this
    have hk2 : t.num * (p.den : Int) ≤ p.num * (t.den : Int) ↔ ¬ p < t := by
      have := lp_cmp (t := p) (a := t.num) (b := (t.den : Int)) (by omega)
      rw [rat_n1] at this; exact this
    rw [zif_f (by rw [l64_0, lgc_eq (by omega) (by omega) (by omega) (by omega)]; omega), n64_mul, n64_mul]
    rcases hsg with ⟨rfl, rfl⟩ | ⟨rfl, rfl⟩
    · rw [zif_t rfl]
      have hcmp : u < ((-1 : Int) : Rat) * p ↔ p < t := by
        rw [hu]
        have c : ((-1 : Int) : Rat) = -1 := rfl
        rw [c]
        constructor <;> intro h <;> grind
      by_cases e : t.num * (p.den : Int) ≤ p.num * (t.den : Int)
      · rw [zif_t ((lgc_ge (by omega) (by omega) (by omega) (by omega)).mpr e), hkeep, bstM_ge (fun w => hk2.mp e (hcmp.mp w))]
        exact ⟨_, _, rfl, hE⟩
      · rw [zif_f (fun w => e ((lgc_ge (by omega) (by omega) (by omega) (by omega)).mp w)), htake, bstM_lt (hcmp.mpr (Classical.byContradiction fun w => e (hk2.mpr w)))]
        exact ⟨_, _, rfl, hnew⟩
    · rw [zif_f (by decide)]
      have hcmp : u < ((1 : Int) : Rat) * p ↔ t < p := by
        rw [hu]
        have c : ((1 : Int) : Rat) = 1 := rfl
        rw [c]
        constructor <;> intro h <;> grind
      by_cases e : p.num * (t.den : Int) ≤ t.num * (p.den : Int)
      · rw [zif_t ((lgc_le (by omega) (by omega) (by omega) (by omega)).mpr e), hkeep, bstM_ge (fun w => hk1.mp e (hcmp.mp w))]
        exact ⟨_, _, rfl, hE⟩
      · rw [zif_f (fun w => e ((lgc_le (by omega) (by omega) (by omega) (by omega)).mp w)), htake, bstM_lt (hcmp.mpr (Classical.byContradiction fun w => e (hk1.mpr w)))]
        exact ⟨_, _, rfl, hnew⟩
end ER
