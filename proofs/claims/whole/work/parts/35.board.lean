/-! the board's cells, and what its looks answer -/
theorem zwL_at {s : zS} {c k c' k' : Nat} {x : Int64} : (zwL s c k x).2 c' k' = if c' = c ∧ k' = k then x else s.2 c' k' := by
  unfold zwL vp_updL
  by_cases h : c' = c
  · by_cases h2 : k' = k
    · simp [h, h2]
    · simp [h, h2]
  · simp [h]
theorem zwL_i {s : zS} {c k : Nat} {x : Int64} : (zwL s c k x).1 = s.1 := rfl
theorem zwI_at {s : zS} {c k c' k' : Nat} {x : Int32} : (zwI s c k x).1 c' k' = if c' = c ∧ k' = k then x else s.1 c' k' := by
  unfold zwI upd
  by_cases h : c' = c
  · by_cases h2 : k' = k
    · simp [h, h2]
    · simp [h, h2]
  · simp [h]
theorem zwI_l {s : zS} {c k : Nat} {x : Int32} : (zwI s c k x).2 = s.2 := rfl
theorem zT9 : ∀ r : Nat, r < 20 → zT 9 (n32 (r : Int)) = 10 + r := by decide +kernel
theorem zshp9 : ∀ r : Nat, r < 20 → zshp (10 + r) = (2, 6, []) := by decide +kernel
theorem zoL9 {r : Nat} {i : Int32} (hr : r < 20) : zoL (10 + r) i = zin i 6 := by
  unfold zoL; rw [zshp9 r hr]; rfl
def bEnc (s : zS) (R C : Nat) (rs cs : Nat → Nat) (cell : Nat → Nat → Int) : Prop :=
  R ≤ 20 ∧ C ≤ 4 ∧ s.1 8 3 = n32 (R : Int) ∧ s.1 8 4 = n32 (C : Int) ∧ (∀ r, r < R → s.1 30 r = n32 (rs r : Int)) ∧ (∀ j, j < C → s.1 31 j = n32 (cs j : Int)) ∧ (∀ r, r < R → ∀ k, k < 2 + C → s.2 (10 + r) k = n64 (cell r k)) ∧ (∀ r, r < R → rs r < 16) ∧ (∀ j, j < C → cs j < 16)
/-- numbers small enough for all products -/
def bSml (R C : Nat) (cell : Nat → Nat → Int) (B K : Int) : Prop :=
  2 * (B * B) < 4611686018427387904 ∧ 2 * (B * K) < 4611686018427387904 ∧ 1 ≤ B ∧ 1 ≤ K ∧ ∀ r, r < R → (0 < cell r 0 ∧ cell r 0 ≤ B) ∧ (-K ≤ cell r 1 ∧ cell r 1 ≤ K) ∧ ∀ j, j < C → -B ≤ cell r (2 + j) ∧ cell r (2 + j) ≤ B
theorem abs_mul {a b A B : Int} (h1 : -A ≤ a) (h2 : a ≤ A) (h3 : -B ≤ b) (h4 : b ≤ B) : -(A * B) ≤ a * b ∧ a * b ≤ A * B := by
  have hA : 0 ≤ A := by omega
  have hB : 0 ≤ B := by omega
  have h : (a * b).natAbs ≤ (A * B).natAbs := by
    rw [Int.natAbs_mul, Int.natAbs_mul]
    exact Nat.mul_le_mul (by omega) (by omega)
  have h0 : 0 ≤ A * B := Int.mul_nonneg hA hB
  omega
theorem B_small {B : Int} (h : 2 * (B * B) < 4611686018427387904) (h1 : 1 ≤ B) : B < 2147483648 := by
  by_cases q : B < 2147483648
  · exact q
  · have := Int.mul_le_mul (show 2147483648 ≤ B by omega) (show 2147483648 ≤ B by omega) (by omega) (by omega)
    omega
theorem K_small {B K : Int} (h : 2 * (B * K) < 4611686018427387904) (h1 : 1 ≤ B) (h2 : 1 ≤ K) : K < 4611686018427387904 := by
  have := Int.mul_le_mul_of_nonneg_right h1 (show 0 ≤ K by omega)
  omega
section BD
variable {s : zS} {R C : Nat} {rs cs : Nat → Nat} {cell : Nat → Nat → Int} {B K : Int}
theorem b_factor (h : bEnc s R C rs cs cell) {r j : Nat} (hr : r < R) (hj : j < C) : D_X0_factorOf s (n32 (r : Int)) (n32 (j : Int)) = some (n64 (cell r (2 + j))) := by
  obtain ⟨h1, h2, h3, h4, h5, h6, h7, -⟩ := h
  unfold D_X0_factorOf
  rw [h3, h4, l32_0, zif_f (by rw [n32_lt (by omega) (by omega) (by omega) (by omega)]; omega), zif_f (by rw [n32_le (by omega) (by omega) (by omega) (by omega)]; omega), zif_f (by rw [n32_lt (by omega) (by omega) (by omega) (by omega)]; omega), zif_t (by rw [n32_lt (by omega) (by omega) (by omega) (by omega)]; omega), zgd_t (by rw [zin_n (by omega) (by omega)]; omega), zT9 r (by omega), l32_2, n32_add, zoL9 (by omega), zgd_t (by rw [zin_n (by omega) (by omega)]; omega), n32_x (by omega) (by omega), show ((2 : Int) + (j : Int)).toNat = 2 + j by omega, h7 r hr (2 + j) (by omega)]
theorem b_const (h : bEnc s R C rs cs cell) {r : Nat} (hr : r < R) : D_X0_constantOf s (n32 (r : Int)) = some (n64 (cell r 1)) := by
  obtain ⟨h1, h2, h3, h4, h5, h6, h7, -⟩ := h
  unfold D_X0_constantOf
  rw [h3, l32_0, zif_f (by rw [n32_lt (by omega) (by omega) (by omega) (by omega)]; omega), zif_f (by rw [n32_le (by omega) (by omega) (by omega) (by omega)]; omega), zgd_t (by rw [zin_n (by omega) (by omega)]; omega), zT9 r (by omega), zoL9 (by omega), zgd_t (by decide)]
  exact congrArg some (h7 r hr 1 (by omega))
theorem b_below (h : bEnc s R C rs cs cell) {r : Nat} (hr : r < R) : D_X0_belowOf s (n32 (r : Int)) = some (n64 (cell r 0)) := by
  obtain ⟨h1, h2, h3, h4, h5, h6, h7, -⟩ := h
  unfold D_X0_belowOf
  rw [h3, l32_0, zif_f (by rw [n32_lt (by omega) (by omega) (by omega) (by omega)]; omega), zif_f (by rw [n32_le (by omega) (by omega) (by omega) (by omega)]; omega), zgd_t (by rw [zin_n (by omega) (by omega)]; omega), zT9 r (by omega), zoL9 (by omega), zgd_t (by decide)]
  exact congrArg some (h7 r hr 0 (by omega))
/-- who drives -/
def isDrv (C : Nat) (cs : Nat → Nat) (F : Nat → Int) (n : Nat) (x : Int) : Prop := (x = -1 ∧ ∀ j, j < n → ¬ 0 < F j) ∨ ∃ c : Nat, x = c ∧ c < n ∧ 0 < F c ∧ ∀ j, j < n → 0 < F j → cs c ≤ cs j
theorem isDrv_skip {C : Nat} {F : Nat → Int} {k : Nat} {x : Int} (hP : isDrv C cs F k x) (h : ¬ 0 < F k) : isDrv C cs F (k + 1) x := by
  rcases hP with ⟨e, p⟩ | ⟨c, e, c1, c2, c3⟩
  · refine Or.inl ⟨e, fun j hj => ?_⟩
    by_cases hjk : j = k
    · subst hjk; exact h
    · exact p j (by omega)
  · refine Or.inr ⟨c, e, by omega, c2, fun j hj hp => ?_⟩
    by_cases hjk : j = k
    · subst hjk; exact absurd hp h
    · exact c3 j (by omega) hp
theorem isDrv_keep {C : Nat} {F : Nat → Int} {k c : Nat} (hP : isDrv C cs F k (c : Int)) (h : cs c ≤ cs k) : isDrv C cs F (k + 1) (c : Int) := by
  rcases hP with ⟨e, p⟩ | ⟨c', e, c1, c2, c3⟩
  · omega
  · obtain rfl : c = c' := by omega
    refine Or.inr ⟨c, e, by omega, c2, fun j hj hp => ?_⟩
    by_cases hjk : j = k
    · rw [hjk]; exact h
    · exact c3 j (by omega) hp
theorem isDrv_take {C : Nat} {F : Nat → Int} {k : Nat} {x : Int} (hP : isDrv C cs F k x) (h : 0 < F k) (hx : x = -1 ∨ ∃ c : Nat, x = c ∧ cs k ≤ cs c) : isDrv C cs F (k + 1) (k : Int) := by
  refine Or.inr ⟨k, rfl, by omega, h, fun j hj hp => ?_⟩
  by_cases hjk : j = k
  · rw [hjk]; exact Nat.le_refl _
  · rcases hP with ⟨e, p⟩ | ⟨c', e, c1, c2, c3⟩
    · exact absurd hp (p j (by omega))
    · rcases hx with hx | ⟨c, hx, hc⟩
      · omega
      · obtain rfl : c = c' := by omega
        have := c3 j (by omega) hp
        omega
theorem c32_lt {a b : Nat} (ha : a < 2147483648) (hb : b < 2147483648) : (n32 (a : Int) < n32 (b : Int)) ↔ a < b := by
  rw [n32_lt (by omega) (by omega) (by omega) (by omega)]; omega
theorem c32_le {a b : Nat} (ha : a < 2147483648) (hb : b < 2147483648) : (n32 (a : Int) ≤ n32 (b : Int)) ↔ a ≤ b := by
  rw [n32_le (by omega) (by omega) (by omega) (by omega)]; omega
theorem czin {a n : Nat} (ha : a < 2147483648) (h : a < n) : zin (n32 (a : Int)) n = true := by
  rw [zin_n (by omega) (by omega)]; omega
theorem b_drv_t (h : bEnc s R C rs cs cell) (hs : bSml R C cell B K) {r : Nat} {sg : Int} (hr : r < R) (hsg : sg = 1 ∨ sg = -1) {n k : Nat} {x : Int} (hk : k < C) (hP : isDrv C cs (fun j => sg * cell r (2 + j)) k x) : ∃ x' : Int, isDrv C cs (fun j => sg * cell r (2 + j)) (k + 1) x' ∧ D_X0_firstDriving_L5 s (n32 (r : Int)) (n32 sg) (n + 1) (n32 x) (n32 (k : Int)) = D_X0_firstDriving_L5 s (n32 (r : Int)) (n32 sg) n (n32 x') (n32 ((k + 1 : Nat) : Int)) := by
  obtain ⟨h1, h2, h3, h4, h5, h6, h7, h8, h9⟩ := id h
  obtain ⟨s1, s2, s3, s4, s5⟩ := hs
  have hB := B_small s1 s3
  have bf := (s5 r hr).2.2 k (by omega)
  have hpr : (n32 sg).toInt64 * n64 (cell r (2 + k)) = n64 (sg * cell r (2 + k)) := by
    rw [n32_64 (by omega) (by omega), n64_mul]
  have bp : -B ≤ sg * cell r (2 + k) ∧ sg * cell r (2 + k) ≤ B := by rcases hsg with rfl | rfl <;> omega
  have ks : n32 (k : Int) + 1 = n32 ((k + 1 : Nat) : Int) := by rw [l32_1, n32_add]; rfl
  rw [D_X0_firstDriving_L5_s]
  unfold D_X0_firstDriving_B5 D_X0_firstDriving_J50
  rw [h4, zif_f (by rw [c32_le (by omega) (by omega)]; omega), b_factor h hr (by omega), zbs, hpr, l64_0]
  by_cases hd : sg * cell r (2 + k) ≤ 0
  · rw [zif_t ((lgc_le (by omega) (by omega) (by omega) (by omega)).mpr hd), ks]
    exact ⟨x, isDrv_skip hP (by show ¬ 0 < sg * cell r (2 + k); omega), rfl⟩
  · rw [zif_f (by rw [lgc_le (by omega) (by omega) (by omega) (by omega)]; exact hd)]
    have hd' : 0 < (fun j => sg * cell r (2 + j)) k := by show 0 < sg * cell r (2 + k); omega
    rcases id hP with ⟨e, p⟩ | ⟨c, e, c1, c2, c3⟩
    · rw [zif_t (by rw [e]; rfl), ks]
      exact ⟨k, isDrv_take hP hd' (Or.inl e), rfl⟩
    · subst e
      rw [zif_f (by rw [l32_m1, n32_eq (by omega) (by omega) (by omega) (by omega)]; omega), zgd_t (czin (by omega) (by omega)), zgd_t (czin (by omega) (by omega)), n32_xn (by omega), n32_xn (by omega), h6 c (by omega), h6 k (by omega)]
      have b1 := h9 c (by omega)
      have b2 := h9 k (by omega)
      by_cases hle : cs c ≤ cs k
      · rw [zif_t (by rw [c32_le (by omega) (by omega)]; exact hle), ks]
        exact ⟨c, isDrv_keep hP hle, rfl⟩
      · rw [zif_f (by rw [c32_le (by omega) (by omega)]; exact hle), ks]
        exact ⟨k, isDrv_take hP hd' (Or.inr ⟨c, rfl, by omega⟩), rfl⟩
theorem b_driving (h : bEnc s R C rs cs cell) (hs : bSml R C cell B K) {r : Nat} {sg : Int} (hr : r < R) (hsg : sg = 1 ∨ sg = -1) : ∃ x : Int, D_X0_firstDriving s (n32 (r : Int)) (n32 sg) = some (n32 x) ∧ isDrv C cs (fun j => sg * cell r (2 + j)) C x := by
  have key : ∀ (m n k : Nat) (x : Int), k + m = C → m < n → isDrv C cs (fun j => sg * cell r (2 + j)) k x → ∃ x' : Int, D_X0_firstDriving_L5 s (n32 (r : Int)) (n32 sg) n (n32 x) (n32 (k : Int)) = some (n32 x') ∧ isDrv C cs (fun j => sg * cell r (2 + j)) C x' := by
    intro m
    induction m with
    | zero =>
      intro n k x hk hn hP
      obtain ⟨n, rfl⟩ : ∃ j, n = j + 1 := ⟨n - 1, by omega⟩
      have : k = C := by omega
      subst this
      refine ⟨x, ?_, hP⟩
      have h2 := h.2.1
      rw [D_X0_firstDriving_L5_s]
      unfold D_X0_firstDriving_B5
      rw [h.2.2.2.1, zif_t (by rw [c32_le (by omega) (by omega)]; omega)]
    | succ m ih =>
      intro n k x hk hn hP
      obtain ⟨n, rfl⟩ : ∃ j, n = j + 1 := ⟨n - 1, by omega⟩
      obtain ⟨x', p, e⟩ := b_drv_t (n := n) h hs hr hsg (by omega) hP
      rw [e]
      exact ih n (k + 1) x' (by omega) (by omega) p
  have h2 := h.2.1
  obtain ⟨x', e, p⟩ := key C zFU 0 (-1) (by omega) (zFU_lt (by omega)) (Or.inl ⟨rfl, fun j hj => by omega⟩)
  refine ⟨x', ?_, p⟩
  unfold D_X0_firstDriving
  rw [l32_m1, l32_0]
  exact e
/-- a stands ahead of b at the stop: its ratio is less, or as much with a lesser name -/
def stpA (rs : Nat → Nat) (cell : Nat → Nat → Int) (c a b : Nat) : Prop := cell a 1 * -cell b (2 + c) < cell b 1 * -cell a (2 + c) ∨ (cell a 1 * -cell b (2 + c) = cell b 1 * -cell a (2 + c) ∧ rs a < rs b)
theorem b_ahead (h : bEnc s R C rs cs cell) (hs : bSml R C cell B K) {a b c : Nat} (ha : a < R) (hb : b < R) (hc : c < C) : (D_X0_stopsAhead s (n32 (a : Int)) (n32 (b : Int)) (n32 (c : Int)) = some 1 ∧ stpA rs cell c a b) ∨ (D_X0_stopsAhead s (n32 (a : Int)) (n32 (b : Int)) (n32 (c : Int)) = some 0 ∧ ¬ stpA rs cell c a b) := by
  obtain ⟨h1, h2, h3, h4, h5, h6, h7, h8, h9⟩ := id h
  obtain ⟨s1, s2, s3, s4, s5⟩ := hs
  have hB := B_small s1 s3
  have hK := K_small s2 s3 s4
  have fa := (s5 a ha).2.2 c hc
  have fb := (s5 b hb).2.2 c hc
  have ka := (s5 a ha).2.1
  have kb := (s5 b hb).2.1
  have m1 := abs_mul (a := -cell b (2 + c)) (b := cell a 1) (A := B) (B := K) (by omega) (by omega) ka.1 ka.2
  have m2 := abs_mul (a := -cell a (2 + c)) (b := cell b 1) (A := B) (B := K) (by omega) (by omega) kb.1 kb.2
  rw [Int.mul_comm (-cell b (2 + c))] at m1
  rw [Int.mul_comm (-cell a (2 + c))] at m2
  have e1 : n64 (cell a 1) * -n64 (cell b (2 + c)) = n64 (cell a 1 * -cell b (2 + c)) := by rw [n64_neg, n64_mul]
  have e2 : n64 (cell b 1) * -n64 (cell a (2 + c)) = n64 (cell b 1 * -cell a (2 + c)) := by rw [n64_neg, n64_mul]
  unfold D_X0_stopsAhead D_X0_stopsAhead_J61 D_X0_stopsAhead_J65
  rw [b_const h ha, zbs, b_factor h hb hc, zbs, b_const h hb, zbs, b_factor h ha hc, zbs, e1, e2]
  by_cases p1 : cell a 1 * -cell b (2 + c) < cell b 1 * -cell a (2 + c)
  · rw [zif_t ((lgc_lt (by omega) (by omega) (by omega) (by omega)).mpr p1)]
    exact Or.inl ⟨rfl, Or.inl p1⟩
  · rw [zif_f (by rw [lgc_lt (by omega) (by omega) (by omega) (by omega)]; exact p1)]
    by_cases p2 : cell a 1 * -cell b (2 + c) = cell b 1 * -cell a (2 + c)
    · rw [zif_t ((lgc_eq (by omega) (by omega) (by omega) (by omega)).mpr p2), zgd_t (by rw [zin_n (by omega) (by omega)]; omega), zgd_t (by rw [zin_n (by omega) (by omega)]; omega), n32_xn (by omega), n32_xn (by omega), h5 a ha, h5 b hb]
      have b1 := h8 a ha
      have b2 := h8 b hb
      by_cases p3 : rs b ≤ rs a
      · rw [zif_t (by rw [n32_le (by omega) (by omega) (by omega) (by omega)]; omega)]
        refine Or.inr ⟨rfl, ?_⟩
        rintro (q | ⟨-, q⟩)
        · exact p1 q
        · omega
      · rw [zif_f (by rw [n32_le (by omega) (by omega) (by omega) (by omega)]; omega)]
        exact Or.inl ⟨rfl, Or.inr ⟨p2, by omega⟩⟩
    · rw [zif_f (by rw [lgc_eq (by omega) (by omega) (by omega) (by omega)]; exact p2)]
      refine Or.inr ⟨rfl, ?_⟩
      rintro (q | ⟨q, -⟩)
      · exact p1 q
      · exact p2 q
end BD
