/-! the reference's balance: its value -/
theorem ratacs {a b : Int} {x : Rat} {ta tb : Int} (hb : b ≠ 0) (htb : tb ≠ 0) : (((a * ((x.den : Int) * tb) - x.num * ta * b : Int) : Rat)) / ((b * ((x.den : Int) * tb) : Int) : Rat) = (a : Rat) / (b : Rat) - x * ((ta : Rat) / (tb : Rat)) := by
  have h1 : (x.den : Rat) ≠ 0 := fun e => by
    have : x.den = 0 := by exact_mod_cast e
    exact x.den_nz this
  have h2 : (b : Rat) ≠ 0 := fun e => hb (ratInt_inj (by rw [e]; rfl))
  have h3 : (tb : Rat) ≠ 0 := fun e => htb (ratInt_inj (by rw [e]; rfl))
  have e1 := rat_md x
  push_cast
  rw [← e1]
  grind
/-- the fixed numbers as they lie, and their size -/
def tfE (s : zS) (m : Nat) (t : Nat → Rat) (T : Int) : Prop := ∀ e, e < m → ∃ ta tb : Int, s.2 80 e = n64 ta ∧ s.2 81 e = n64 tb ∧ (0 < tb ∧ tb ≤ T) ∧ (-(4000 * T) ≤ ta ∧ ta ≤ 4000 * T) ∧ t e = (ta : Rat) / (tb : Rat) ∧ ∃ u : Int, (T : Rat) * t e = (u : Rat) ∧ -(4000 * T) ≤ u ∧ u ≤ 4000 * T
def balVal (n m K : Nat) (q g : Nat → Nat) (v : Nat → Int) (t : Nat → Rat) (x : Nat → Rat) (y : Rat) : Prop := (∀ c, c < K → 0 ≤ x c) ∧ (∀ c, n + 1 ≤ c → x c = 0) ∧ (∀ i, i < 5 → (if i = n then (1 : Rat) else 0) = sum5 (fun c => (blMx n K m q g i c : Rat) * x c)) ∧ nsing (blMx n K m q g) (n + 1) ∧ y = zsum K (fun c => (v (q c) : Rat) * x c) - zsum m (fun e => x (K + e) * t e)
/-- a fraction reduced -/
theorem red_step {a b : Int} {y : Rat} {A B : Int} (hA : A < 4611686018427387904) (hB : B < 4611686018427387904) (ha : -A ≤ a ∧ a ≤ A) (hb : 0 < b ∧ b ≤ B) (hy : (a : Rat) / (b : Rat) = y) : D_X9_common (n64 a) (n64 b) = some (n64 (Int.gcd a b : Int)) ∧ n64 (Int.gcd a b : Int) ≠ 0 ∧ n64 a / n64 (Int.gcd a b : Int) = n64 y.num ∧ n64 b / n64 (Int.gcd a b : Int) = n64 (y.den : Int) := by
  have hg0 : (Int.gcd a b : Int) ≠ 0 := by
    intro q
    have := Int.gcd_eq_zero_iff.mp (by exact_mod_cast q)
    omega
  have hgle : Int.gcd a b ≤ b.natAbs := Nat.le_of_dvd (by omega) (Nat.gcd_dvd_right _ _)
  have hgn : ¬ n64 (Int.gcd a b : Int) = 0 := by
    rw [l64_0, n64_eq (by omega) (by omega) (by omega) (by omega)]; exact hg0
  refine ⟨zgcd9 (by omega) (by omega) (by omega) (by omega), hgn, ?_, ?_⟩
  · rw [n64_div (by omega) (by omega) (by omega) (by omega), ← hy, rat_num hb.1]
  · rw [n64_div (by omega) (by omega) (by omega) (by omega), ← hy, rat_den hb.1]
section BV
variable {n m K F : Nat} {g fr p : Nat → Nat} {v : Nat → Int} {t x : Nat → Rat} {T D : Int}
theorem bv275 {s : zS} {y0 : Rat} {z0 : Int} (hK : K + m = n + 1) (hn : n ≤ 4) (hm1 : m ≤ 4) (hT : 1 ≤ T ∧ T ≤ 3375) (hD : D ≠ 0 ∧ -15 ≤ D ∧ D ≤ 15) (hx : fxE s n m g) (ht : tfE s m t T) (hxr : ∀ c, c < n + 1 → rCell s (6 * c + 5) (x c)) (hxz : ∀ c, ∃ z : Int, (D : Rat) * x c = (z : Rat) ∧ -75 ≤ z ∧ z ≤ 75) (hz0 : (D : Rat) * y0 = (z0 : Rat) ∧ -300000 ≤ z0 ∧ z0 ≤ 300000) : ∀ d fu e (y : Rat) (z : Int), e + d = m → d < fu → y = y0 - zsum e (fun e => x (K + e) * t e) → ((D * T : Int) : Rat) * y = (z : Rat) → -((300000 + 300000 * (e : Int)) * T) ≤ z → z ≤ (300000 + 300000 * (e : Int)) * T →
    ∃ y' : Rat, D_X9_balances_L275 s (n32 (K : Int)) fu (n64 y.num) (n64 (y.den : Int)) (n32 (e : Int)) = some (1, zwL (zwL s 66 35 (n64 y'.num)) 66 36 (n64 (y'.den : Int))) ∧ y' = y0 - zsum m (fun e => x (K + e) * t e) ∧ (-(1500000 * T) ≤ y'.num ∧ y'.num ≤ 1500000 * T) ∧ ((y'.den : Int) ≤ 15 * T) ∧ ∃ z' : Int, ((D * T : Int) : Rat) * y' = (z' : Rat) := by
  have hDT : D * T ≠ 0 := Int.mul_ne_zero hD.1 (by omega)
  have hDTb : -(15 * T) ≤ D * T ∧ D * T ≤ 15 * T := by
    have a1 := Int.mul_le_mul_of_nonneg_right hD.2.1 (show (0 : Int) ≤ T by omega)
    have a2 := Int.mul_le_mul_of_nonneg_right hD.2.2 (show (0 : Int) ≤ T by omega)
    omega
  intro d
  induction d with
  | zero =>
    intro fu e y z he hf hy hz h1 h2
    obtain ⟨fu, rfl⟩ : ∃ t, fu = t + 1 := ⟨fu - 1, by omega⟩
    obtain rfl : e = m := by omega
    have hb := com_bd (A := 1500000 * T) (B := 15 * T) hDT hz (by
      have : (300000 + 300000 * (e : Int)) * T ≤ 1500000 * T := Int.mul_le_mul_of_nonneg_right (by omega) (by omega)
      omega) hDTb
    refine ⟨y, ?_, hy, hb.1, hb.2.2, z, hz⟩
    rw [D_X9_balances_L275_s]
    unfold D_X9_balances_B275
    rw [hx.2.1, zif_t (Int32.le_refl _)]
  | succ d ih =>
    intro fu e y z he hf hy hz h1 h2
    obtain ⟨fu, rfl⟩ : ∃ t, fu = t + 1 := ⟨fu - 1, by omega⟩
    have hTe : (300000 + 300000 * (e : Int)) * T ≤ 1500000 * T := Int.mul_le_mul_of_nonneg_right (by omega) (by omega)
    have hb := com_bd (A := 1500000 * T) (B := 15 * T) hDT hz (by omega) hDTb
    obtain ⟨ta, tb, t1, t2, t3, t4, t5, u, u1, u2, u3⟩ := ht e (by omega)
    have hxe := hxr (K + e) (by omega)
    obtain ⟨zx, zx1, zx2⟩ := hxz (K + e)
    have hbx := com_bd (A := 75) (B := 15) hD.1 zx1 zx2 hD.2
    have i65 : (6 : Int32) * (n32 (K : Int) + n32 (e : Int)) + (5 : Int32) = n32 ((6 * (K + e) + 5 : Nat) : Int) := by rw [n32_add]; exact ix6 (K + e) 5
    rw [D_X9_balances_L275_s]
    unfold D_X9_balances_B275
    rw [hx.2.1, zif_f (by rw [c32_le (by omega) (by omega)]; omega), i65, zgd_t (czin (by omega) (by omega)), zgd_t (czin (by omega) (by omega)), zgd_t (czin (by omega) (by omega)), zgd_t (czin (by omega) (by omega)), n32_xn (by omega), n32_xn (by omega), hxe.1, hxe.2, t1, t2, nsuc]
    simp only [n64_mul, n64_sub]
    have m1 := abs_mul (a := ((x (K + e)).den : Int)) (b := tb) (A := 15) (B := T) (by omega) (by omega) (by omega) (by omega)
    have m2 := abs_mul (a := y.num) (b := ((x (K + e)).den : Int) * tb) (A := 1500000 * T) (B := 15 * T) hb.1.1 hb.1.2 m1.1 m1.2
    have m3 := abs_mul (a := (x (K + e)).num) (b := ta) (A := 75) (B := 4000 * T) hbx.1.1 hbx.1.2 t4.1 t4.2
    have m4 := abs_mul (a := (x (K + e)).num * ta) (b := (y.den : Int)) (A := 75 * (4000 * T)) (B := 15 * T) m3.1 m3.2 (by omega) hb.2.2
    have m5 := abs_mul (a := (y.den : Int)) (b := ((x (K + e)).den : Int) * tb) (A := 15 * T) (B := 15 * T) (by omega) hb.2.2 m1.1 m1.2
    have m6 : 0 < (y.den : Int) * (((x (K + e)).den : Int) * tb) := Int.mul_pos hb.2.1 (Int.mul_pos hbx.2.1 t3.1)
    have hTT : T * T ≤ 3375 * 3375 := Int.mul_le_mul hT.2 hT.2 (by omega) (by omega)
    have e1 : 1500000 * T * (15 * T) = 22500000 * (T * T) := by grind
    have e2 : 75 * (4000 * T) * (15 * T) = 4500000 * (T * T) := by grind
    have e3 : 15 * T * (15 * T) = 225 * (T * T) := by grind
    rw [e1] at m2
    rw [e2] at m4
    rw [e3] at m5
    have hval : (((y.num * (((x (K + e)).den : Int) * tb) - (x (K + e)).num * ta * (y.den : Int) : Int) : Rat)) / (((y.den : Int) * (((x (K + e)).den : Int) * tb) : Int) : Rat) = y - x (K + e) * t e := by
      rw [ratacs (by omega) (by omega), rat_n1, t5]
    obtain ⟨r1, r2, r3, r4⟩ := red_step (A := 4000000000000000) (B := 4000000000000000) (by omega) (by omega) (by omega) ⟨m6, by omega⟩ hval
    rw [r1, zbs, zif_f r2, zif_f r2, r3, r4]
    refine ih fu (e + 1) (y - x (K + e) * t e) (z - zx * u) (by omega) (by omega) ?_ ?_ ?_ ?_
    · rw [zsum, hy]; grind
    · push_cast
      push_cast at hz
      rw [← hz, ← zx1, ← u1]; grind
    · have mm := abs_mul (a := zx) (b := u) (A := 75) (B := 4000 * T) zx2.1 zx2.2 u2 u3
      have e4 : (300000 + 300000 * ((e + 1 : Nat) : Int)) * T = (300000 + 300000 * (e : Int)) * T + 300000 * T := by push_cast; grind
      omega
    · have mm := abs_mul (a := zx) (b := u) (A := 75) (B := 4000 * T) zx2.1 zx2.2 u2 u3
      have e4 : (300000 + 300000 * ((e + 1 : Nat) : Int)) * T = (300000 + 300000 * (e : Int)) * T + 300000 * T := by push_cast; grind
      omega
theorem bv166 {s : zS} (hK : K + m = n + 1) (hn : n ≤ 4) (hm1 : 1 ≤ m ∧ m ≤ 4) (hF : F ≤ 14) (hp : ∀ k, k < K → p k < F) (hfr : ∀ k, k < F → fr k < 16) (hu : uOk s n v) (hfe : frE s F fr) (hpk : pkE s K p) (hT : 1 ≤ T ∧ T ≤ 3375) (hD : D ≠ 0 ∧ -15 ≤ D ∧ D ≤ 15) (hx : fxE s n m g) (ht : tfE s m t T) (hxr : ∀ c, c < n + 1 → rCell s (6 * c + 5) (x c)) (hxz : ∀ c, ∃ z : Int, (D : Rat) * x c = (z : Rat) ∧ -75 ≤ z ∧ z ≤ 75) : ∀ d fu k (y : Rat) (z : Int), k + d = K → d < fu → (∀ c, c < k → 0 ≤ x c) → y = zsum k (fun c => (v (fr (p c)) : Rat) * x c) → (D : Rat) * y = (z : Rat) → -(75000 * (k : Int)) ≤ z → z ≤ 75000 * (k : Int) →
    (D_X9_balances_L166 s (n32 (K : Int)) fu (n64 y.num) (n64 (y.den : Int)) (n32 (k : Int)) = some (0, s) ∧ ∃ c, c < K ∧ x c < 0) ∨
    ∃ y' : Rat, D_X9_balances_L166 s (n32 (K : Int)) fu (n64 y.num) (n64 (y.den : Int)) (n32 (k : Int)) = some (1, zwL (zwL s 66 35 (n64 y'.num)) 66 36 (n64 (y'.den : Int))) ∧ (∀ c, c < K → 0 ≤ x c) ∧ y' = zsum K (fun c => (v (fr (p c)) : Rat) * x c) - zsum m (fun e => x (K + e) * t e) ∧ (-(1500000 * T) ≤ y'.num ∧ y'.num ≤ 1500000 * T) ∧ ((y'.den : Int) ≤ 15 * T) ∧ ∃ z' : Int, ((D * T : Int) : Rat) * y' = (z' : Rat) := by
  obtain ⟨u1, u2, u3, u4, u5⟩ := hu
  intro d
  induction d with
  | zero =>
    intro fu k y z hk hf hpos hy hz h1 h2
    obtain ⟨fu, rfl⟩ : ∃ t, fu = t + 1 := ⟨fu - 1, by omega⟩
    obtain rfl : k = K := by omega
    right
    obtain ⟨y', e1, e2, e3, e4, e5⟩ := bv275 (y0 := y) (z0 := z) hK hn (by omega) hT hD hx ht hxr hxz ⟨hz, by omega, by omega⟩ m zFU 0 y (z * T) (by omega) (zFU_lt (by omega)) (by rw [zsum]; grind) (by push_cast; rw [← hz]; grind) (by
      have := Int.mul_le_mul_of_nonneg_right (show -300000 ≤ z by omega) (show (0 : Int) ≤ T by omega)
      have e : (300000 + 300000 * ((0 : Nat) : Int)) * T = 300000 * T := by grind
      omega) (by
      have := Int.mul_le_mul_of_nonneg_right (show z ≤ 300000 by omega) (show (0 : Int) ≤ T by omega)
      have e : (300000 + 300000 * ((0 : Nat) : Int)) * T = 300000 * T := by grind
      omega)
    refine ⟨y', ?_, hpos, by rw [e2, hy], e3, e4, e5⟩
    rw [D_X9_balances_L166_s]
    unfold D_X9_balances_B166
    rw [zif_t (Int32.le_refl _)]
    exact e1
  | succ d ih =>
    intro fu k y z hk hf hpos hy hz h1 h2
    obtain ⟨fu, rfl⟩ : ∃ t, fu = t + 1 := ⟨fu - 1, by omega⟩
    have hpk1 := hp k (by omega)
    have hf16 := hfr _ hpk1
    have hv := u5 _ hf16
    have hxk := hxr k (by omega)
    obtain ⟨zx, zx1, zx2⟩ := hxz k
    have hbx := com_bd (A := 75) (B := 15) hD.1 zx1 zx2 hD.2
    have hb := com_bd (A := 300000) (B := 15) hD.1 hz (by omega) hD.2
    have i65 : (6 : Int32) * n32 (k : Int) + (5 : Int32) = n32 ((6 * k + 5 : Nat) : Int) := ix6 k 5
    rw [D_X9_balances_L166_s]
    unfold D_X9_balances_B166
    rw [zif_f (by rw [c32_le (by omega) (by omega)]; omega), i65, zgd_t (czin (by omega) (by omega)), zgd_t (czin (by omega) (by omega)), n32_xn (by omega), hxk.1, hxk.2]
    by_cases hneg : 0 ≤ (x k).num
    · rw [zif_t (by rw [l64_0, lgc_ge (by omega) (by omega) (by omega) (by omega)]; exact hneg), zgd_t (czin (by omega) (by omega)), n32_xn (by omega), hpk k (by omega), zgd_t (czin (by omega) (by omega)), n32_xn (by omega), hfe.2 _ hpk1, zgd_t (czin (by omega) hf16), n32_xn (by omega), u4 _ hf16, n32_64 (by omega) (by omega), nsuc]
      simp only [n64_mul, n64_add]
      have m1 := abs_mul (a := y.num) (b := ((x k).den : Int)) (A := 300000) (B := 15) hb.1.1 hb.1.2 (by omega) (by omega)
      have m2 := abs_mul (a := v (fr (p k))) (b := (x k).num) (A := 1000) (B := 75) hv.1 hv.2 hbx.1.1 hbx.1.2
      have m3 := abs_mul (a := v (fr (p k)) * (x k).num) (b := (y.den : Int)) (A := 75000) (B := 15) m2.1 m2.2 (by omega) (by omega)
      have m4 := abs_mul (a := (y.den : Int)) (b := ((x k).den : Int)) (A := 15) (B := 15) (by omega) (by omega) (by omega) (by omega)
      have m5 : 0 < (y.den : Int) * ((x k).den : Int) := Int.mul_pos hb.2.1 hbx.2.1
      have hval : (((y.num * ((x k).den : Int) + v (fr (p k)) * (x k).num * (y.den : Int) : Int) : Rat)) / (((y.den : Int) * ((x k).den : Int) : Int) : Rat) = y + (v (fr (p k)) : Rat) * x k := by
        rw [ratacc (by omega), rat_n1]
      obtain ⟨r1, r2, r3, r4⟩ := red_step (A := 10000000) (B := 1000) (by omega) (by omega) (by omega) ⟨m5, by omega⟩ hval
      rw [r1, zbs, zif_f r2, zif_f r2, r3, r4]
      have mm := abs_mul (a := v (fr (p k))) (b := zx) (A := 1000) (B := 75) hv.1 hv.2 zx2.1 zx2.2
      refine ih fu (k + 1) _ (z + v (fr (p k)) * zx) (by omega) (by omega) (fun c hc => ?_) ?_ ?_ (by push_cast; omega) (by push_cast; omega)
      · by_cases e : c = k
        · rw [e]; exact Rat.num_nonneg.mp hneg
        · exact hpos c (by omega)
      · rw [zsum, hy]
      · push_cast
        rw [← hz, ← zx1]; grind
    · left
      rw [zif_f (by rw [l64_0, lgc_ge (by omega) (by omega) (by omega) (by omega)]; exact hneg)]
      exact ⟨rfl, k, by omega, Rat.not_le.mp (fun h => hneg (Rat.num_nonneg.mpr h))⟩
/-- a balance's answer -/
theorem bal_is {s : zS} (hK : K + m = n + 1) (hn : n ≤ 4) (hm1 : 1 ≤ m ∧ m ≤ 4) (hF : F ≤ 14) (hp : ∀ k, k < K → p k < F) (hfr : ∀ k, k < F → fr k < 16) (hg : ∀ e, e < m → g e < 16) (hu : uOk s n v) (hfe : frE s F fr) (hpk : pkE s K p) (hT : 1 ≤ T ∧ T ≤ 3375) (hx : fxE s n m g) (ht : tfE s m t T) :
    (∃ s', D_X9_balances s (n32 (K : Int)) = some (0, s') ∧ uFrm s s' ∧ mFrm s s' ∧ ∀ x y, ¬ balVal n m K (fun k => fr (p k)) g v t x y) ∨
    ∃ (s' : zS) (x : Nat → Rat) (y : Rat), D_X9_balances s (n32 (K : Int)) = some (1, s') ∧ uFrm s s' ∧ (s'.1 = s.1 ∧ ∀ c k, (c = 66 → k ≠ 35 ∧ k ≠ 36) → c ≠ 77 → c ≠ 78 → s'.2 c k = s.2 c k) ∧ balVal n m K (fun k => fr (p k)) g v t x y ∧ (∀ x' y', balVal n m K (fun k => fr (p k)) g v t x' y' → y' = y ∧ ∀ c, c < 5 → x' c = x c) ∧ (s'.2 66 35 = n64 y.num ∧ s'.2 66 36 = n64 (y.den : Int)) ∧ (-(1500000 * T) ≤ y.num ∧ y.num ≤ 1500000 * T) ∧ ((y.den : Int) ≤ 15 * T) ∧ (∀ c, c < n + 1 → rCell s' (6 * c + 5) (x c) ∧ (-75 ≤ (x c).num ∧ (x c).num ≤ 75)) ∧ ∃ D z' : Int, (D ≠ 0 ∧ -15 ≤ D ∧ D ≤ 15) ∧ ((D * T : Int) : Rat) * y = (z' : Rat) := by
  obtain ⟨s1, f1, g1, e1⟩ := bl_lay hK hn hF hp hfr hg hx hfe hpk
  have hM5 : ∀ k c, n + 1 ≤ k → k < 5 → c < 6 → blMq n K m (fun k => fr (p k)) g k c = 0 := fun k c h1 h2 h3 => by
    unfold blMq blMx
    (repeat' split) <;> first | rfl | (exfalso; omega)
  have hrhs : ∀ i, i < 5 → blMq n K m (fun k => fr (p k)) g i 5 = if i = n then 1 else 0 := fun i hi => by unfold blMq; rw [if_neg (by omega)]
  rw [e1]
  rcases r_solve2 (bl_sMt n K m (fun k => fr (p k)) g) ⟨by decide, by decide⟩ (show n + 1 ≤ 5 by omega) hM5 (s := s1) (fun r hr c hc => g1 r (by omega) c hc) with ⟨s2, e2, f2, y, ⟨c0, y1, y2⟩, y3, y4⟩ | ⟨s2, x, D, e2, f2, x1, x2, x3, x4, x5, x6⟩
  · left
    rw [e2, zbs]
    dsimp only
    rw [zif_t rfl]
    have ff := mFrm_t f1 f2
    exact ⟨s2, rfl, uFrm_m ff, ff, fun x y ⟨b1, b2, b3, b4, b5⟩ => y2 (b4 _ (fun c h1 h2 => y3 c h1) y4 c0 (by omega))⟩
  · rw [e2, zbs]
    dsimp only
    rw [zif_f (by decide)]
    have ff := mFrm_t f1 f2
    have hx5 : ∀ i, i < 5 → (if i = n then (1 : Rat) else 0) = sum5 (fun c => (blMx n K m (fun k => fr (p k)) g i c : Rat) * x c) := fun i hi => by rw [← hrhs i hi]; exact x3 i hi
    have huniq : ∀ x' y', balVal n m K (fun k => fr (p k)) g v t x' y' → ∀ c, c < 5 → x' c = x c := fun x' y' ⟨b1, b2, b3, b4, b5⟩ => by
      have hzx : ∀ c, c < 5 → x' c - x c = 0 := x4 (fun c => x' c - x c) (fun c h1 h2 => by rw [b2 c h1, x2 c h1]; grind) (fun i hi => by rw [sum5_sub, ← b3 i hi, ← hx5 i hi]; grind)
      intro c hc
      have := hzx c hc
      grind
    have hx2 : fxE s2 n m g := ⟨by rw [ff.1]; exact hx.1, by rw [ff.1]; exact hx.2.1, fun e he => by rw [ff.1]; exact hx.2.2 e he⟩
    have hD : D ≠ 0 ∧ -15 ≤ D ∧ D ≤ 15 := ⟨x5.1, by omega, by omega⟩
    have hxz : ∀ c, ∃ z : Int, (D : Rat) * x c = (z : Rat) ∧ -75 ≤ z ∧ z ≤ 75 := fun c => by
      obtain ⟨z, z1, z2, z3⟩ := x6 c
      exact ⟨z, z1, by omega, by omega⟩
    rcases bv166 (p := p) (fr := fr) hK hn hm1 hF hp hfr (uOk_f hu (uFrm_m ff)) ⟨by rw [ff.1]; exact hfe.1, fun k hk => by rw [ff.1]; exact hfe.2 k hk⟩ (pkE_m hpk ff) hT hD hx2 (fun e he => by
        obtain ⟨ta, tb, t1, t2, t3⟩ := ht e he
        exact ⟨ta, tb, by rw [ff.2 80 e (by omega) (by omega)]; exact t1, by rw [ff.2 81 e (by omega) (by omega)]; exact t2, t3⟩) x1 hxz K zFU 0 0 0 (by omega) (zFU_lt (by omega)) (fun c hc => by omega) (by rw [zsum]) (by rw [Rat.mul_zero]; rfl) (by omega) (by omega) with ⟨e3, c0, k1, k2⟩ | ⟨y, e3, k1, k2, k3, k4, z', k5⟩
    · left
      have e3' : D_X9_balances_L166 s2 (n32 (K : Int)) zFU (0 : Int64) (1 : Int64) (0 : Int32) = some (0, s2) := e3
      refine ⟨s2, e3', uFrm_m ff, ff, fun x' y' hb => ?_⟩
      have h1 := huniq x' y' hb c0 (by omega)
      have h2 := hb.1 c0 k1
      rw [h1] at h2
      grind
    · right
      have e3' : D_X9_balances_L166 s2 (n32 (K : Int)) zFU (0 : Int64) (1 : Int64) (0 : Int32) = _ := e3
      refine ⟨_, x, y, e3', uFrm_t (uFrm_m ff) ⟨fun _ _ _ _ _ _ _ => rfl, fun c k h _ _ _ _ _ => ?_⟩, ⟨ff.1, fun c k h h77 h78 => ?_⟩, ⟨k1, x2, hx5, x4, k2⟩, fun x' y' hb => ⟨?_, huniq x' y' hb⟩, ⟨?_, ?_⟩, k3, k4, fun c hc => ⟨?_, ?_⟩, D, z', hD, k5⟩
      · rw [zwL_at, if_neg (fun q => by have := h q.1; omega), zwL_at, if_neg (fun q => by have := h q.1; omega)]
      · rw [zwL_at, if_neg (fun q => (h q.1).2 q.2), zwL_at, if_neg (fun q => (h q.1).1 q.2)]
        exact ff.2 c k h77 h78
      · have hc := huniq x' y' hb
        rw [hb.2.2.2.2, k2, zsum_congr K (fun c hc' => by rw [hc c (by omega)]), zsum_congr m (fun e he => by rw [hc (K + e) (by omega)])]
      · rw [zwL_at, if_neg (by omega), zwL_at, if_pos ⟨rfl, rfl⟩]
      · rw [zwL_at, if_pos ⟨rfl, rfl⟩]
      · have := x1 c hc
        refine ⟨?_, ?_⟩
        · rw [zwL_at, if_neg (by omega), zwL_at, if_neg (by omega)]; exact this.1
        · rw [zwL_at, if_neg (by omega), zwL_at, if_neg (by omega)]; exact this.2
      · obtain ⟨z, z1, z2, z3⟩ := hxz c
        exact (com_bd (A := 75) (B := 15) hD.1 z1 ⟨z2, z3⟩ hD.2).1
end BV
