/-! the ends: the reference's test of the core -/
section IC
variable {n : Nat} {v : Nat → Int} {x : Nat → Rat} {s : zS}
theorem ic18 {S : Nat} {rec2 : Int32 → Option Int32} (hu : uOk s n v) (hS : S < 2 ^ n) (hx : ∀ c, c < n → rCell s (6 * c + 5) (x c) ∧ (-75000 ≤ (x c).num ∧ (x c).num ≤ 75000) ∧ (x c).den ≤ 15) :
    ∀ m f k (a b P : Int), k + m = n → m < f → 1 ≤ P → P * 16 ^ m ≤ 65536 → (0 < b ∧ b ≤ P) → (-(80000 * P) ≤ a ∧ a ≤ 80000 * P) → (a : Rat) / (b : Rat) = zsum k (fun c => ((hb S c : Int) : Rat) * x c) →
    (D_X9_isCore_L18 rec2 s (n32 (S : Int)) f (n64 a) (n64 b) (n32 (k : Int)) = rec2 (n32 ((S + 1 : Nat) : Int)) ∧ (v S : Rat) ≤ xS x S) ∨ (D_X9_isCore_L18 rec2 s (n32 (S : Int)) f (n64 a) (n64 b) (n32 (k : Int)) = some 0 ∧ ¬ (v S : Rat) ≤ xS x S) := by
  obtain ⟨u1, u2, u3, u4, u5⟩ := hu
  have hp := pow_le4 u3
  intro m
  induction m with
  | zero =>
    intro f k a b P hk hf hP1 hP hb' ha hval
    obtain ⟨f, rfl⟩ : ∃ t, f = t + 1 := ⟨f - 1, by omega⟩
    obtain rfl : k = n := by omega
    rw [← xS_zsum u3 hS] at hval
    have hPb : P ≤ 65536 := by omega
    have hv := u5 S (by omega)
    have hbp := rat_pos hb'.1
    have hbne : (b : Rat) ≠ 0 := fun e => by rw [e] at hbp; exact absurd hbp (by decide)
    have hab : xS x S * (b : Rat) = (a : Rat) := by rw [← hval, Rat.div_mul_cancel hbne]
    have hm := abs_mul (a := v S) (b := b) (A := 1000) (B := 65536) hv.1 hv.2 (by omega) (by omega)
    have hiff : v S * b ≤ a ↔ (v S : Rat) ≤ xS x S := by
      rw [← Rat.intCast_le_intCast, Rat.intCast_mul, ← hab]
      exact ⟨fun h => Rat.le_of_mul_le_mul_right h hbp, fun h => Rat.mul_le_mul_of_nonneg_right h (Rat.le_of_lt hbp)⟩
    rw [D_X9_isCore_L18_s]
    unfold D_X9_isCore_B18
    rw [u1, zif_t (Int32.le_refl _), zgd_t (czin (by omega) (by omega)), n32_xn (by omega), u4 S (by omega), n32_64 (by omega) (by omega), n64_mul, nsuc]
    by_cases e : v S * b ≤ a
    · exact Or.inl ⟨zif_t ((lgc_ge (by omega) (by omega) (by omega) (by omega)).mpr e), hiff.mp e⟩
    · exact Or.inr ⟨zif_f (fun q => e ((lgc_ge (by omega) (by omega) (by omega) (by omega)).mp q)), fun q => e (hiff.mpr q)⟩
  | succ m ih =>
    intro f k a b P hk hf hP1 hP hb' ha hval
    obtain ⟨f, rfl⟩ : ∃ t, f = t + 1 := ⟨f - 1, by omega⟩
    have hP16 : P * 16 * 16 ^ m ≤ 65536 := by rw [Int.pow_succ] at hP; grind
    have hPle : P * 16 ≤ 65536 := by
      have h1 : (1 : Int) ≤ 16 ^ m := Int.pow_pos (by decide)
      have := Int.mul_le_mul_of_nonneg_left h1 (show (0 : Int) ≤ P * 16 by omega)
      omega
    obtain ⟨hc, hx1, hx2⟩ := hx k (by omega)
    have hd1 : (0 : Int) < (x k).den := by have := (x k).den_pos; omega
    rw [D_X9_isCore_L18_s]
    unfold D_X9_isCore_B18
    have i65 : (6 : Int32) * n32 (k : Int) + (5 : Int32) = n32 ((6 * k + 5 : Nat) : Int) := ix6 k 5
    rw [u1, zif_f (by rw [c32_le (by omega) (by omega)]; omega), x9_has S (by omega) k (by omega), zbs]
    rcases hb_01 S k with e | e
    · rw [e, zif_t (by decide), nsuc]
      refine ih f (k + 1) a b (P * 16) (by omega) (by omega) (by omega) hP16 ⟨hb'.1, by omega⟩ ⟨by omega, by omega⟩ ?_
      rw [zsum, ← hval, e]
      have c0 : (((0 : Nat) : Int) : Rat) = 0 := rfl
      rw [c0]; grind
    · have m1 := abs_mul (a := a) (b := ((x k).den : Int)) (A := 80000 * P) (B := 15) ha.1 ha.2 (by omega) (by omega)
      have m3 := abs_mul (a := (x k).num) (b := b) (A := 75000) (B := P) hx1.1 hx1.2 (by omega) hb'.2
      have m4 := abs_mul (a := b) (b := ((x k).den : Int)) (A := P) (B := 15) (by omega) hb'.2 (by omega) (by omega)
      have m5 : 0 < b * ((x k).den : Int) := Int.mul_pos hb'.1 hd1
      rw [e, zif_f (by decide), i65, zgd_t (czin (by omega) (by omega)), zgd_t (czin (by omega) (by omega)), zgd_t (czin (by omega) (by omega)), n32_xn (by omega), hc.1, hc.2, n64_mul, n64_mul, n64_mul, n64_add, nsuc]
      refine ih f (k + 1) _ _ (P * 16) (by omega) (by omega) (by omega) hP16 ⟨m5, by omega⟩ ⟨by omega, by omega⟩ ?_
      have h := ratacc (a := a) (b := b) (v := 1) (x := x k) (by omega)
      rw [Int.one_mul] at h
      rw [h, zsum, ← hval, e]
      rfl
theorem ic2 (hu : uOk s n v) (hx : ∀ c, c < n → rCell s (6 * c + 5) (x c) ∧ (-75000 ≤ (x c).num ∧ (x c).num ≤ 75000) ∧ (x c).den ≤ 15) : ∀ d fu S, S + d = 2 ^ n → 1 ≤ S → d < fu → (∀ S', 1 ≤ S' → S' < S → (v S' : Rat) ≤ xS x S') →
    (D_X9_isCore_L2 s fu (n32 (S : Int)) = some 1 ∧ ∀ S, lpNm n S → (v S : Rat) ≤ xS x S) ∨ (D_X9_isCore_L2 s fu (n32 (S : Int)) = some 0 ∧ ¬ ∀ S, lpNm n S → (v S : Rat) ≤ xS x S) := by
  have hn := hu.2.2.1
  have hn1 := hu.2.1
  have hp := pow_le4 hn
  intro d
  induction d with
  | zero =>
    intro fu S hS h1 hf h
    obtain ⟨fu, rfl⟩ : ∃ t, fu = t + 1 := ⟨fu - 1, by omega⟩
    left
    refine ⟨?_, fun T hT => h T hT.1 (by have := hT.2; omega)⟩
    rw [D_X9_isCore_L2_s]
    unfold D_X9_isCore_B2
    rw [x9_all hu.1 (by omega), zbs, zif_t (by rw [c32_lt (by omega) (by omega)]; omega)]
  | succ d ih =>
    intro fu S hS h1 hf h
    obtain ⟨fu, rfl⟩ : ∃ t, fu = t + 1 := ⟨fu - 1, by omega⟩
    rw [D_X9_isCore_L2_s]
    unfold D_X9_isCore_B2
    rw [x9_all hu.1 (by omega), zbs, zif_f (by rw [c32_lt (by omega) (by omega)]; omega)]
    rcases ic18 (rec2 := D_X9_isCore_L2 s fu) hu (show S < 2 ^ n by omega) hx n zFU 0 0 1 1 (by omega) (zFU_lt (by omega)) (by omega) (by
        have : n = 1 ∨ n = 2 ∨ n = 3 ∨ n = 4 := by omega
        rcases this with rfl | rfl | rfl | rfl <;> decide) (by omega) (by omega) (by simp [zsum, Rat.div_def]) with ⟨e, hv⟩ | ⟨e, hv⟩
    · have e' : D_X9_isCore_L18 (D_X9_isCore_L2 s fu) s (n32 (S : Int)) zFU (0 : Int64) (1 : Int64) (0 : Int32) = _ := e
      rw [e']
      exact ih fu (S + 1) (by omega) (by omega) (by omega) (fun S' a b => by
        by_cases q : S' = S
        · rw [q]; exact hv
        · exact h S' a (by omega))
    · have e' : D_X9_isCore_L18 (D_X9_isCore_L2 s fu) s (n32 (S : Int)) zFU (0 : Int64) (1 : Int64) (0 : Int32) = _ := e
      rw [e']
      exact Or.inr ⟨rfl, fun q => hv (q S ⟨h1, by omega⟩)⟩
theorem is_core (hu : uOk s n v) (hx : ∀ c, c < n → rCell s (6 * c + 5) (x c) ∧ (-75000 ≤ (x c).num ∧ (x c).num ≤ 75000) ∧ (x c).den ≤ 15) : (D_X9_isCore s = some 1 ∧ ∀ S, lpNm n S → (v S : Rat) ≤ xS x S) ∨ (D_X9_isCore s = some 0 ∧ ¬ ∀ S, lpNm n S → (v S : Rat) ≤ xS x S) := by
  have hp := pow_le4 hu.2.2.1
  exact ic2 hu hx (2 ^ n - 1) zFU 1 (by omega) (by omega) (zFU_lt (by omega)) (fun S' a b => by omega)
end IC
