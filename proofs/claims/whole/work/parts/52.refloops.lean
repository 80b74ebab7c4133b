/-! the reference's elimination on its cells -/
def mE (s : zS) (n : Nat) (q : Nat → Nat → Rat) : Prop := ∀ r, r < n → ∀ c, c < 6 → rCell s (6 * r + c) (q r c)
def qUpd (q : Nat → Nat → Rat) (r c : Nat) (x : Rat) : Nat → Nat → Rat := fun r' c' => if r' = r ∧ c' = c then x else q r' c'
theorem mE_put {s : zS} {n r c : Nat} {q : Nat → Nat → Rat} {a b : Int} {x : Rat} (h : mE s n q) (hn : n ≤ 5) (hr : r < n) (hc : c < 6) (ha1 : -4611686018427387904 < a) (ha2 : a < 4611686018427387904) (hb1 : -4611686018427387904 < b) (hb2 : b < 4611686018427387904) (hb0 : b ≠ 0) (hx : (a : Rat) / (b : Rat) = x) :
    ∃ s', D_X9_put s (n32 (r : Int)) (n32 (c : Int)) (n64 a) (n64 b) = some s' ∧ mFrm s s' ∧ mE s' n (qUpd q r c x) := by
  obtain ⟨s', e, f, g, k⟩ := r_put (s := s) (r := r) (c := c) (by omega) hc ha1 ha2 hb1 hb2 hb0
  refine ⟨s', e, f, fun r' hr' c' hc' => ?_⟩
  unfold qUpd
  try dsimp only
  by_cases q : r' = r ∧ c' = c
  · rw [if_pos q, q.1, q.2, ← hx]; exact g
  · rw [if_neg q]
    have := k (6 * r' + c') (fun e => q (by omega))
    have h0 := h r' hr' c' hc'
    exact ⟨this.1.trans h0.1, this.2.trans h0.2⟩
theorem mE_ext {s : zS} {n : Nat} {q q' : Nat → Nat → Rat} (h : mE s n q) (e : ∀ r, r < n → ∀ c, c < 6 → q r c = q' r c) : mE s n q' := fun r hr c hc => by rw [← e r hr c hc]; exact h r hr c hc
theorem ix6 (r c : Nat) : (6 : Int32) * n32 (r : Int) + n32 (c : Int) = n32 ((6 * r + c : Nat) : Int) := by
  rw [l32_6, n32_mul, n32_add]; rfl
theorem ix6z {r c : Nat} (hr : r < 5) (hc : c < 6) : zin ((6 : Int32) * n32 (r : Int) + n32 (c : Int)) 30 = true := by
  rw [ix6]; exact czin (by omega) (by omega)
theorem ix6n {r c : Nat} (hr : r < 5) (hc : c < 6) : ((6 : Int32) * n32 (r : Int) + n32 (c : Int)).toNatClampNeg = 6 * r + c := by
  rw [ix6, n32_xn (by omega)]
theorem nsuc (k : Nat) : n32 (k : Int) + 1 = n32 ((k + 1 : Nat) : Int) := by rw [l32_1, n32_add]; rfl
theorem natb {x : Rat} {A : Nat} (h : x.num.natAbs ≤ A) : -(A : Int) ≤ x.num ∧ x.num ≤ (A : Int) := by omega
theorem ratdd {x y : Rat} (hy : y ≠ 0) : ((x.num * (y.den : Int) : Int) : Rat) / (((x.den : Int) * y.num : Int) : Rat) = x / y := by
  have h1 : (x.den : Rat) ≠ 0 := by
    intro e
    have : x.den = 0 := by exact_mod_cast e
    exact x.den_nz this
  have h2 : (y.den : Rat) ≠ 0 := by
    intro e
    have : y.den = 0 := by exact_mod_cast e
    exact y.den_nz this
  have e1 := rat_md x
  have e2 := rat_md y
  push_cast
  rw [← e1, ← e2]
  grind
theorem ratss {x y f : Rat} : (((x.num * ((y.den : Int) * (f.den : Int)) - y.num * f.num * (x.den : Int) : Int) : Rat)) / (((x.den : Int) * ((y.den : Int) * (f.den : Int)) : Int) : Rat) = x - f * y := by
  have h0 : ∀ z : Rat, (z.den : Rat) ≠ 0 := fun z e => by
    have : z.den = 0 := by exact_mod_cast e
    exact z.den_nz this
  have h1 := h0 x
  have h2 := h0 y
  have h3 := h0 f
  have e1 := rat_md x
  have e2 := rat_md y
  have e3 := rat_md f
  push_cast
  rw [← e1, ← e2, ← e3]
  grind
/-- numbers of the matrix, small -/
def qSm (n : Nat) (q : Nat → Nat → Rat) (A D : Nat) : Prop := ∀ r, r < n → ∀ c, c < 6 → ((q r c).num.natAbs ≤ (if c < 5 then 15 else A)) ∧ (q r c).den ≤ (if c < 5 then 15 else D)
theorem qSm_w {n : Nat} {q : Nat → Nat → Rat} {A D : Nat} (h : qSm n q A D) (hA : 15 ≤ A) (hD : 15 ≤ D) {r c : Nat} (hr : r < n) (hc : c < 6) : (q r c).num.natAbs ≤ A ∧ (q r c).den ≤ D := by
  have := h r hr c hc
  by_cases e : c < 5
  · rw [if_pos e, if_pos e] at this; omega
  · rw [if_neg e, if_neg e] at this; exact this
/-- the two rows change places -/
theorem rs46 {n j p : Nat} {q : Nat → Nat → Rat} {rec2 : Int32 → zS → Option (Int32 × zS)} (hn : n ≤ 5) (hj : j < n) (hp : p < n) : ∀ m f k s, k + m = 6 → m < f → mE s n (fun r c => if c < k then q (zswp j p r) c else q r c) →
    ∃ s', mFrm s s' ∧ mE s' n (qSwp j p q) ∧ D_X9_solve_L46 rec2 (n32 (n : Int)) (n32 (j : Int)) (n32 (p : Int)) f (n32 (k : Int)) s = D_X9_solve_L192 rec2 (n32 (n : Int)) (n32 (j : Int)) (n64 (qSwp j p q j j).num) (n64 ((qSwp j p q j j).den : Int)) zFU (n32 (j : Int)) s' := by
  intro m
  induction m with
  | zero =>
    intro f k s hk hf h
    obtain ⟨f, rfl⟩ : ∃ t, f = t + 1 := ⟨f - 1, by omega⟩
    obtain rfl : k = 6 := by omega
    have h' : mE s n (qSwp j p q) := mE_ext h (fun r hr c hc => by (try dsimp only); unfold qSwp; rw [if_pos hc])
    refine ⟨s, mFrm_r s, h', ?_⟩
    rw [D_X9_solve_L46_s]
    unfold D_X9_solve_B46
    have hd := h' j hj j (by omega)
    rw [zif_t (by decide), zgd_t (ix6z (by omega) (by omega)), zgd_t (ix6z (by omega) (by omega)), ix6n (by omega) (by omega), hd.1, hd.2]
  | succ m ih =>
    intro f k s hk hf h
    obtain ⟨f, rfl⟩ : ∃ t, f = t + 1 := ⟨f - 1, by omega⟩
    rw [D_X9_solve_L46_s]
    unfold D_X9_solve_B46
    rw [zif_f (by rw [l32_6, show n32 6 = n32 ((6 : Nat) : Int) from rfl, c32_le (by omega) (by omega)]; omega)]
    simp only [zgd_t (ix6z (r := p) (c := k) (by omega) (by omega)), zgd_t (ix6z (r := j) (c := k) (by omega) (by omega)), ix6n (r := p) (c := k) (by omega) (by omega), ix6n (r := j) (c := k) (by omega) (by omega), nsuc]
    have hJ := h j hj k (by omega)
    have hP := h p hp k (by omega)
    simp only [Nat.lt_irrefl, if_false] at hJ hP
    obtain ⟨s', f', g', e'⟩ := ih f (k + 1) (zwL (zwL (zwL (zwL s 77 (6 * p + k) (s.2 77 (6 * j + k))) 78 (6 * p + k) ((zwL s 77 (6 * p + k) (s.2 77 (6 * j + k))).2 78 (6 * j + k))) 77 (6 * j + k) (s.2 77 (6 * p + k))) 78 (6 * j + k) (s.2 78 (6 * p + k))) (by omega) (by omega) (by
      intro r hr c hc
      have h0 := h r hr c hc
      unfold rCell at h0 hJ hP ⊢
      simp only [zwL_at, true_and, false_and, if_false, show ((77 : Nat) = 78) = False from eq_false (by omega), show ((78 : Nat) = 77) = False from eq_false (by omega)]
      by_cases e1 : c = k
      · have d1 : (c < k + 1) = True := eq_true (by omega)
        by_cases e2 : r = j
        · have a1 : (6 * r + c = 6 * j + k) = True := eq_true (by omega)
          simp only [a1, d1, if_true]
          rw [show zswp j p r = p by unfold zswp; rw [if_pos e2], e1]
          exact hP
        · have a1 : (6 * r + c = 6 * j + k) = False := eq_false (by omega)
          by_cases e3 : r = p
          · have a2 : (6 * r + c = 6 * p + k) = True := eq_true (by omega)
            have a3 : (6 * j + k = 6 * p + k) = False := eq_false (by omega)
            simp only [a1, a2, a3, d1, if_true, if_false]
            rw [show zswp j p r = j by unfold zswp; rw [if_neg e2, if_pos e3], e1]
            exact hJ
          · have a2 : (6 * r + c = 6 * p + k) = False := eq_false (by omega)
            have a4 : (c < k) = False := eq_false (by omega)
            simp only [a1, a2, d1, if_true, if_false]
            simp only [a4, if_false] at h0
            rw [zswp_fix e2 e3]
            exact h0
      · have a1 : (6 * r + c = 6 * j + k) = False := eq_false (by omega)
        have a2 : (6 * r + c = 6 * p + k) = False := eq_false (by omega)
        simp only [a1, a2, if_false]
        by_cases e2 : c < k
        · have d1 : (c < k + 1) = True := eq_true (by omega)
          have d2 : (c < k) = True := eq_true e2
          simp only [d2, if_true] at h0
          simp only [d1, if_true]
          exact h0
        · have d1 : (c < k + 1) = False := eq_false (by omega)
          have d2 : (c < k) = False := eq_false e2
          simp only [d2, if_false] at h0
          simp only [d1, if_false]
          exact h0)
    refine ⟨s', mFrm_t ?_ f', g', e'⟩
    refine ⟨rfl, fun c k' h1 h2 => ?_⟩
    simp only [zwL_at, h1, h2, false_and, if_false]
/-- the pivot's row is divided by the pivot -/
theorem rs192 {n j : Nat} {q : Nat → Nat → Rat} {rec2 : Int32 → zS → Option (Int32 × zS)} {A D : Nat} (hn : n ≤ 5) (hj : j < n) (hq : qSm n q A D) (hA : 15 ≤ A) (hD : 15 ≤ D) (hb : 30 * (A * D) < 4611686018427387904) (h0 : q j j ≠ 0) : ∀ m f k s, j ≤ k → k + m = 6 → m < f → mE s n (fun r c => if r = j ∧ j ≤ c ∧ c < k then q r c / q j j else q r c) →
    ∃ s', mFrm s s' ∧ mE s' n (fun r c => if r = j ∧ j ≤ c then q r c / q j j else q r c) ∧ D_X9_solve_L192 rec2 (n32 (n : Int)) (n32 (j : Int)) (n64 (q j j).num) (n64 ((q j j).den : Int)) f (n32 (k : Int)) s = D_X9_solve_L245 rec2 (n32 (n : Int)) (n32 (j : Int)) zFU (0 : Int32) s' := by
  have hAl : A * 15 ≤ A * D := Nat.mul_le_mul_left _ hD
  have hDl : D * 15 ≤ A * D := by rw [Nat.mul_comm A D]; exact Nat.mul_le_mul_left _ hA
  intro m
  induction m with
  | zero =>
    intro f k s hjk hk hf h
    obtain ⟨f, rfl⟩ : ∃ t, f = t + 1 := ⟨f - 1, by omega⟩
    obtain rfl : k = 6 := by omega
    refine ⟨s, mFrm_r s, mE_ext h (fun r hr c hc => ?_), ?_⟩
    · try dsimp only
      by_cases e : r = j ∧ j ≤ c
      · rw [if_pos e, if_pos ⟨e.1, e.2, hc⟩]
      · rw [if_neg e, if_neg (fun x => e ⟨x.1, x.2.1⟩)]
    · rw [D_X9_solve_L192_s]
      unfold D_X9_solve_B192
      rw [zif_t (by decide)]
  | succ m ih =>
    intro f k s hjk hk hf h
    obtain ⟨f, rfl⟩ : ∃ t, f = t + 1 := ⟨f - 1, by omega⟩
    rw [D_X9_solve_L192_s]
    unfold D_X9_solve_B192
    rw [zif_f (by rw [l32_6, show n32 6 = n32 ((6 : Nat) : Int) from rfl, c32_le (by omega) (by omega)]; omega)]
    have hc := h j hj k (by omega)
    dsimp only at hc
    rw [if_neg (by omega)] at hc
    rw [zgd_t (ix6z (by omega) (by omega)), zgd_t (ix6z (by omega) (by omega)), ix6n (by omega) (by omega), hc.1, hc.2, nsuc, n64_mul, n64_mul]
    have b1 := qSm_w hq hA hD hj (show k < 6 by omega)
    have b2 := hq j hj j (by omega)
    rw [if_pos (by omega), if_pos (by omega)] at b2
    have c1 := natb b1.1
    have c2 := natb b2.1
    have d1 : (0 : Int) < (q j k).den := by have := (q j k).den_pos; omega
    have d2 : (0 : Int) < (q j j).den := by have := (q j j).den_pos; omega
    have m1 := abs_mul (a := (q j k).num) (b := ((q j j).den : Int)) (A := (A : Int)) (B := 15) c1.1 c1.2 (by omega) (by omega)
    have m2 := abs_mul (a := ((q j k).den : Int)) (b := (q j j).num) (A := (D : Int)) (B := 15) (by omega) (by omega) c2.1 c2.2
    have hnum : (q j j).num ≠ 0 := fun e => h0 (Rat.num_eq_zero.mp e)
    obtain ⟨s1, e1, f1, g1⟩ := mE_put h hn hj (show k < 6 by omega) (a := (q j k).num * ((q j j).den : Int)) (b := ((q j k).den : Int) * (q j j).num) (by omega) (by omega) (by omega) (by omega) (Int.mul_ne_zero (by omega) hnum) (ratdd h0)
    rw [e1, zbs]
    obtain ⟨s2, f2, g2, e2⟩ := ih f (k + 1) s1 (by omega) (by omega) (by omega) (mE_ext g1 (fun r hr c hc => by
      try dsimp only
      unfold qUpd
      try dsimp only
      by_cases e : r = j ∧ c = k
      · obtain ⟨ea, eb⟩ := e
        subst ea eb
        rw [if_pos ⟨rfl, rfl⟩, if_pos (by omega)]
      · rw [if_neg e]
        by_cases e2 : r = j ∧ j ≤ c ∧ c < k
        · rw [if_pos e2, if_pos (by omega)]
        · rw [if_neg e2, if_neg (by omega)]))
    exact ⟨s2, mFrm_t f1 f2, g2, e2⟩
/-- the pivot's row is taken from one other -/
theorem rs282 {n j i : Nat} {q : Nat → Nat → Rat} {rec2 rec245 : Int32 → zS → Option (Int32 × zS)} {A D : Nat} (hn : n ≤ 5) (hj : j < n) (hi : i < n) (hij : i ≠ j) (hf0 : q i j ≠ 0) (bq : ∀ c, c < 6 → (q i c).num.natAbs ≤ A ∧ (q i c).den ≤ D ∧ (q j c).num.natAbs ≤ A ∧ (q j c).den ≤ D) (bf : (q i j).num.natAbs ≤ 15 ∧ (q i j).den ≤ 15) (hb : 30 * (A * D) < 4611686018427387904) (hbd : 15 * (D * D) < 4611686018427387904) : ∀ m f k s, j ≤ k → k + m = 6 → m < f → mE s n (fun r c => if r = i ∧ j ≤ c ∧ c < k then q i c - q i j * q j c else q r c) →
    ∃ s', mFrm s s' ∧ mE s' n (fun r c => if r = i ∧ j ≤ c then q i c - q i j * q j c else q r c) ∧ D_X9_solve_L282 rec2 rec245 (n32 (n : Int)) (n32 (j : Int)) (n32 (i : Int)) (n64 (q i j).num) (n64 ((q i j).den : Int)) f (n32 (k : Int)) s = rec245 (n32 ((i + 1 : Nat) : Int)) s' := by
  intro m
  induction m with
  | zero =>
    intro f k s hjk hk hf h
    obtain ⟨f, rfl⟩ : ∃ t, f = t + 1 := ⟨f - 1, by omega⟩
    obtain rfl : k = 6 := by omega
    refine ⟨s, mFrm_r s, mE_ext h (fun r hr c hc => ?_), ?_⟩
    · try dsimp only
      by_cases e : r = i ∧ j ≤ c
      · rw [if_pos e, if_pos ⟨e.1, e.2, hc⟩]
      · rw [if_neg e, if_neg (fun x => e ⟨x.1, x.2.1⟩)]
    · rw [D_X9_solve_L282_s]
      unfold D_X9_solve_B282
      rw [zif_t (by decide), nsuc]
  | succ m ih =>
    intro f k s hjk hk hf h
    obtain ⟨f, rfl⟩ : ∃ t, f = t + 1 := ⟨f - 1, by omega⟩
    rw [D_X9_solve_L282_s]
    unfold D_X9_solve_B282
    have hci := h i hi k (by omega)
    have hcj := h j hj k (by omega)
    dsimp only at hci hcj
    rw [if_neg (by omega)] at hci hcj
    have bk := bq k (by omega)
    have c1 := natb bk.1
    have c2 := natb bk.2.2.1
    have c3 := natb bf.1
    have d1 : (0 : Int) < (q i k).den := by have := (q i k).den_pos; omega
    have d2 : (0 : Int) < (q j k).den := by have := (q j k).den_pos; omega
    have d3 : (0 : Int) < (q i j).den := by have := (q i j).den_pos; omega
    have hnum : (q i j).num ≠ 0 := fun e => hf0 (Rat.num_eq_zero.mp e)
    rw [zif_f (by rw [l32_6, show n32 6 = n32 ((6 : Nat) : Int) from rfl, c32_le (by omega) (by omega)]; omega), zif_f (by rw [n32_eq (by omega) (by omega) (by omega) (by omega)]; omega), zif_f (by rw [l64_0, lgc_eq (by omega) (by omega) (by omega) (by omega)]; exact hnum)]
    simp only [zgd_t (ix6z (r := i) (c := k) (by omega) (by omega)), zgd_t (ix6z (r := j) (c := k) (by omega) (by omega)), ix6n (r := i) (c := k) (by omega) (by omega), ix6n (r := j) (c := k) (by omega) (by omega), nsuc]
    rw [hci.1, hci.2, hcj.1, hcj.2]
    simp only [n64_mul, n64_sub]
    have m1 := abs_mul (a := ((q j k).den : Int)) (b := ((q i j).den : Int)) (A := (D : Int)) (B := 15) (by omega) (by omega) (by omega) (by omega)
    have m2 := abs_mul (a := (q i k).num) (b := ((q j k).den : Int) * ((q i j).den : Int)) (A := (A : Int)) (B := (D : Int) * 15) c1.1 c1.2 m1.1 m1.2
    have m3 := abs_mul (a := (q j k).num) (b := (q i j).num) (A := (A : Int)) (B := 15) c2.1 c2.2 c3.1 c3.2
    have m4 := abs_mul (a := (q j k).num * (q i j).num) (b := ((q i k).den : Int)) (A := (A : Int) * 15) (B := (D : Int)) m3.1 m3.2 (by omega) (by omega)
    have p1 : (A : Int) * ((D : Int) * 15) = 15 * ((A * D : Nat) : Int) := by push_cast; grind
    have p2 : (A : Int) * 15 * (D : Int) = 15 * ((A * D : Nat) : Int) := by push_cast; grind
    have m5 := abs_mul (a := ((q i k).den : Int)) (b := ((q j k).den : Int) * ((q i j).den : Int)) (A := (D : Int)) (B := (D : Int) * 15) (by omega) (by omega) m1.1 m1.2
    have pd : 0 < ((q i k).den : Int) * (((q j k).den : Int) * ((q i j).den : Int)) := Int.mul_pos d1 (Int.mul_pos d2 d3)
    have hbD : ((q i k).den : Int) * (((q j k).den : Int) * ((q i j).den : Int)) < 4611686018427387904 := by
      have : ((D : Int) * ((D : Int) * 15)) < 4611686018427387904 := by
        have e : ((D : Int) * ((D : Int) * 15)) = 15 * ((D * D : Nat) : Int) := by push_cast; grind
        have := hbd
        omega
      omega
    rw [p1] at m2
    rw [p2] at m4
    obtain ⟨s1, e1, f1, g1⟩ := mE_put h hn hi (show k < 6 by omega) (a := (q i k).num * (((q j k).den : Int) * ((q i j).den : Int)) - (q j k).num * (q i j).num * ((q i k).den : Int)) (b := ((q i k).den : Int) * (((q j k).den : Int) * ((q i j).den : Int))) (by omega) (by omega) (by omega) hbD (by omega) ratss
    rw [e1, zbs]
    obtain ⟨s2, f2, g2, e2⟩ := ih f (k + 1) s1 (by omega) (by omega) (by omega) (mE_ext g1 (fun r hr c hc => by
      try dsimp only
      unfold qUpd
      try dsimp only
      by_cases e : r = i ∧ c = k
      · obtain ⟨ea, eb⟩ := e
        subst ea eb
        rw [if_pos ⟨rfl, rfl⟩, if_pos (by omega)]
      · rw [if_neg e]
        by_cases e2 : r = i ∧ j ≤ c ∧ c < k
        · rw [if_pos e2, if_pos (by omega)]
        · rw [if_neg e2, if_neg (by omega)]))
    exact ⟨s2, mFrm_t f1 f2, g2, e2⟩
/-- the pivot's row is taken from all others -/
theorem rs245 {n j : Nat} {q : Nat → Nat → Rat} {rec2 : Int32 → zS → Option (Int32 × zS)} {A D : Nat} (hn : n ≤ 5) (hj : j < n) (bq : ∀ r, r < n → ∀ c, c < 6 → (q r c).num.natAbs ≤ A ∧ (q r c).den ≤ D) (bf : ∀ r, r < n → (q r j).num.natAbs ≤ 15 ∧ (q r j).den ≤ 15) (hb : 30 * (A * D) < 4611686018427387904) (hbd : 15 * (D * D) < 4611686018427387904) : ∀ m f i s, i + m = n → m < f → mE s n (fun r c => if r < i ∧ r ≠ j ∧ j ≤ c then q r c - q r j * q j c else q r c) →
    ∃ s', mFrm s s' ∧ mE s' n (fun r c => if r ≠ j ∧ j ≤ c then q r c - q r j * q j c else q r c) ∧ D_X9_solve_L245 rec2 (n32 (n : Int)) (n32 (j : Int)) f (n32 (i : Int)) s = rec2 (n32 ((j + 1 : Nat) : Int)) s' := by
  intro m
  induction m with
  | zero =>
    intro f i s hi hf h
    obtain ⟨f, rfl⟩ : ∃ t, f = t + 1 := ⟨f - 1, by omega⟩
    obtain rfl : i = n := by omega
    refine ⟨s, mFrm_r s, mE_ext h (fun r hr c hc => ?_), ?_⟩
    · try dsimp only
      by_cases e : r ≠ j ∧ j ≤ c
      · rw [if_pos e, if_pos ⟨hr, e.1, e.2⟩]
      · rw [if_neg e, if_neg (fun x => e x.2)]
    · rw [D_X9_solve_L245_s]
      unfold D_X9_solve_B245
      rw [zif_t (Int32.le_refl _), nsuc]
  | succ m ih =>
    intro f i s hi hf h
    obtain ⟨f, rfl⟩ : ∃ t, f = t + 1 := ⟨f - 1, by omega⟩
    rw [D_X9_solve_L245_s]
    unfold D_X9_solve_B245
    have hci := h i (by omega) j (by omega)
    dsimp only at hci
    rw [if_neg (by omega)] at hci
    rw [zif_f (by rw [c32_le (by omega) (by omega)]; omega), zgd_t (ix6z (by omega) (by omega)), zgd_t (ix6z (by omega) (by omega)), ix6n (by omega) (by omega), hci.1, hci.2]
    have hnext : ∀ s', mE s' n (fun r c => if r = i ∧ j ≤ c ∧ i ≠ j then q i c - q i j * q j c else if r < i ∧ r ≠ j ∧ j ≤ c then q r c - q r j * q j c else q r c) → mE s' n (fun r c => if r < i + 1 ∧ r ≠ j ∧ j ≤ c then q r c - q r j * q j c else q r c) := fun s' g => mE_ext g (fun r hr c hc => by
      try dsimp only
      by_cases e1 : r = i
      · subst e1
        by_cases e2 : j ≤ c ∧ r ≠ j
        · rw [if_pos ⟨rfl, e2.1, e2.2⟩, if_pos ⟨by omega, e2.2, e2.1⟩]
        · rw [if_neg (fun x => e2 ⟨x.2.1, x.2.2⟩), if_neg (by omega), if_neg (fun x => e2 ⟨x.2.2, x.2.1⟩)]
      · rw [if_neg (fun x => e1 x.1)]
        by_cases e2 : r < i ∧ r ≠ j ∧ j ≤ c
        · rw [if_pos e2, if_pos ⟨by omega, e2.2⟩]
        · rw [if_neg e2, if_neg (fun x => e2 ⟨by omega, x.2⟩)])
    by_cases hij : i = j
    · have e0 : D_X9_solve_L282 rec2 (D_X9_solve_L245 rec2 (n32 (n : Int)) (n32 (j : Int)) f) (n32 (n : Int)) (n32 (j : Int)) (n32 (i : Int)) (n64 (q i j).num) (n64 ((q i j).den : Int)) zFU (n32 (j : Int)) s = D_X9_solve_L245 rec2 (n32 (n : Int)) (n32 (j : Int)) f (n32 ((i + 1 : Nat) : Int)) s := by
        obtain ⟨g, hg⟩ : ∃ t, zFU = t + 1 := ⟨zFU - 1, by have := zFU_lt (k := 0) (by omega); omega⟩
        rw [hg, D_X9_solve_L282_s]
        unfold D_X9_solve_B282
        rw [zif_f (by rw [l32_6, show n32 6 = n32 ((6 : Nat) : Int) from rfl, c32_le (by omega) (by omega)]; omega), zif_t (by rw [hij]), nsuc]
      rw [e0]
      exact ih f (i + 1) s (by omega) (by omega) (hnext s (mE_ext h (fun r hr c hc => by (try dsimp only); ((repeat' split) <;> first | rfl | (exfalso; omega) | grind))))
    · by_cases hz : q i j = 0
      · have e0 : D_X9_solve_L282 rec2 (D_X9_solve_L245 rec2 (n32 (n : Int)) (n32 (j : Int)) f) (n32 (n : Int)) (n32 (j : Int)) (n32 (i : Int)) (n64 (q i j).num) (n64 ((q i j).den : Int)) zFU (n32 (j : Int)) s = D_X9_solve_L245 rec2 (n32 (n : Int)) (n32 (j : Int)) f (n32 ((i + 1 : Nat) : Int)) s := by
          obtain ⟨g, hg⟩ : ∃ t, zFU = t + 1 := ⟨zFU - 1, by have := zFU_lt (k := 0) (by omega); omega⟩
          rw [hg, D_X9_solve_L282_s]
          unfold D_X9_solve_B282
          rw [zif_f (by rw [l32_6, show n32 6 = n32 ((6 : Nat) : Int) from rfl, c32_le (by omega) (by omega)]; omega), zif_f (by rw [n32_eq (by omega) (by omega) (by omega) (by omega)]; omega), hz, zif_t (by decide), nsuc]
        rw [e0]
        exact ih f (i + 1) s (by omega) (by omega) (hnext s (mE_ext h (fun r hr c hc => by
          try dsimp only
          by_cases e1 : r = i ∧ j ≤ c ∧ i ≠ j
          · rw [if_pos e1, if_neg (by omega), e1.1, hz]; grind
          · rw [if_neg e1])))
      · obtain ⟨s1, f1, g1, e1⟩ := rs282 (q := fun r c => if r < i ∧ r ≠ j ∧ j ≤ c then q r c - q r j * q j c else q r c) (rec2 := rec2) (rec245 := D_X9_solve_L245 rec2 (n32 (n : Int)) (n32 (j : Int)) f) (A := A) (D := D) hn hj (show i < n by omega) hij (by rw [if_neg (by omega)]; exact hz) (fun c hc => by
            rw [if_neg (by omega), if_neg (by omega)]
            exact ⟨(bq i (by omega) c hc).1, (bq i (by omega) c hc).2, (bq j hj c hc).1, (bq j hj c hc).2⟩) (by rw [if_neg (by omega)]; exact bf i (by omega)) hb hbd (6 - j) zFU j s (by omega) (by omega) (zFU_lt (by omega)) (mE_ext h (fun r hr c hc => by (try dsimp only); ((repeat' split) <;> first | rfl | (exfalso; omega) | grind)))
        have e1' : D_X9_solve_L282 rec2 (D_X9_solve_L245 rec2 (n32 (n : Int)) (n32 (j : Int)) f) (n32 (n : Int)) (n32 (j : Int)) (n32 (i : Int)) (n64 (q i j).num) (n64 ((q i j).den : Int)) zFU (n32 (j : Int)) s = D_X9_solve_L245 rec2 (n32 (n : Int)) (n32 (j : Int)) f (n32 ((i + 1 : Nat) : Int)) s1 := by
          rw [if_neg (by omega)] at e1
          exact e1
        rw [e1']
        obtain ⟨s2, f2, g2, e2⟩ := ih f (i + 1) s1 (by omega) (by omega) (hnext s1 (mE_ext g1 (fun r hr c hc => by
          try dsimp only
          (repeat' split) <;> first | rfl | (exfalso; omega) | grind)))
        exact ⟨s2, mFrm_t f1 f2, g2, e2⟩
