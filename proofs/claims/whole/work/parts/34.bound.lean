/-! the frame of a dictionary: its columns' vectors, completed to five; rows in lowest terms stay small -/
def fInv {W : Type} (A : W → Prop) (R C : Nat) (idr idc : Nat → W → Rat) (X : W → Nat → Rat) (vr : Nat → Nat → Int) (kr : Nat → Rat) (M : Nat → Nat → Int) (kM : Nat → Rat) (Q V : Int) : Prop :=
  C ≤ 5 ∧ (∀ w, A w → ∀ r, r < R → idr r w = dot5 (vr r) (X w) - kr r) ∧ (∀ w, A w → ∀ j, j < C → idc j w = dot5 (fun i => M i j) (X w) - kM j) ∧
  (∀ w, A w → ∀ j, C ≤ j → j < 5 → dot5 (fun i => M i j) (X w) = kM j) ∧ (∀ r, r < R → pm1 (vr r)) ∧ (∀ j, j < 5 → pm1 (fun i => M i j)) ∧ det5 M ≠ 0 ∧ 0 < Q ∧
  (∀ r, r < R → ∃ z : Int, (Q : Rat) * kr r = (z : Rat) ∧ -(Q * V) ≤ z ∧ z ≤ Q * V) ∧ (∀ j, j < 5 → ∃ z : Int, (Q : Rat) * kM j = (z : Rat) ∧ -(Q * V) ≤ z ∧ z ≤ Q * V)
theorem sum5_split {C : Nat} {d u k : Nat → Rat} (hC : C ≤ 5) : sum5 (fun j => d j * (if j < C then u j + k j else k j)) = zsum C (fun j => d j * u j) + sum5 (fun j => d j * k j) := by
  have : C = 0 ∨ C = 1 ∨ C = 2 ∨ C = 3 ∨ C = 4 ∨ C = 5 := by omega
  rcases this with rfl | rfl | rfl | rfl | rfl | rfl <;> simp [sum5, zsum] <;> grind
theorem ratInt_inj {a b : Int} (h : (a : Rat) = (b : Rat)) : a = b := by exact_mod_cast h
theorem f_coef {W : Type} {A : W → Prop} {R C : Nat} {cell : Nat → Nat → Int} {idr idc : Nat → W → Rat} {X : W → Nat → Rat} {vr : Nat → Nat → Int} {kr : Nat → Rat} {M : Nat → Nat → Int} {kM : Nat → Rat} {Q V : Int} (h : dInv A R C cell idr idc) (f : fInv A R C idr idc X vr kr M kM Q V) {r : Nat} (hr : r < R) :
    (∀ j, j < C → det5 M * cell r (2 + j) = cell r 0 * det5 (zrep M j (vr r))) ∧ ((det5 M : Rat) * (cell r 1 : Rat) = (cell r 0 : Rat) * (sum5 (fun j => (det5 (zrep M j (vr r)) : Rat) * kM j) - (det5 M : Rat) * kr r)) := by
  obtain ⟨d1, d2, d3⟩ := h
  obtain ⟨hC, f1, f2, f3, -⟩ := f
  have key : ∀ w, A w → (det5 M : Rat) * idr r w = zsum C (fun j => (det5 (zrep M j (vr r)) : Rat) * idc j w) + (sum5 (fun j => (det5 (zrep M j (vr r)) : Rat) * kM j) - (det5 M : Rat) * kr r) := fun w hA => by
    have e1 := dot5_adj (m := M) (b := vr r) (x := X w)
    have e2 : sum5 (fun j => (det5 (zrep M j (vr r)) : Rat) * dot5 (fun i => M i j) (X w)) = sum5 (fun j => (det5 (zrep M j (vr r)) : Rat) * (if j < C then idc j w + kM j else kM j)) := by
      have : ∀ j, j < 5 → dot5 (fun i => M i j) (X w) = (if j < C then idc j w + kM j else kM j) := fun j hj => by
        by_cases hjC : j < C
        · rw [if_pos hjC, f2 w hA j hjC]; grind
        · rw [if_neg hjC, f3 w hA j (by omega) hj]
      unfold sum5
      simp only [this 0 (by omega), this 1 (by omega), this 2 (by omega), this 3 (by omega), this 4 (by omega)]
    rw [e2, sum5_split hC] at e1
    rw [f1 w hA r hr]
    grind
  have key2 : ∀ t : Nat → Rat, (det5 M : Rat) * ((cell r 1 : Rat) + zsum C (fun j => (cell r (2 + j) : Rat) * t j)) = (cell r 0 : Rat) * (zsum C (fun j => (det5 (zrep M j (vr r)) : Rat) * t j) + (sum5 (fun j => (det5 (zrep M j (vr r)) : Rat) * kM j) - (det5 M : Rat) * kr r)) := fun t => by
    obtain ⟨w, hA, hw⟩ := d3 t
    have e1 := d2 w hA r hr
    have e2 := key w hA
    unfold rV at e1
    rw [zsum_congr C (g := fun j => (cell r (2 + j) : Rat) * t j) (fun j hj => by rw [hw j hj])] at e1
    rw [zsum_congr C (g := fun j => (det5 (zrep M j (vr r)) : Rat) * t j) (fun j hj => by rw [hw j hj])] at e2
    rw [← e1, ← e2]
    grind
  have base := key2 (fun _ => 0)
  rw [zsum_zero C (fun j _ => by grind), zsum_zero C (fun j _ => by grind)] at base
  refine ⟨fun j hj => ?_, by grind⟩
  have one := key2 (fun i => if i = j then 1 else 0)
  have s1 : ∀ g : Nat → Rat, zsum C (fun i => g i * (if i = j then 1 else 0)) = g j := fun g => by
    rw [zsum_congr C (g := fun i => if i = j then g j else 0) (fun i hi => by
      by_cases hij : i = j
      · rw [if_pos hij, if_pos hij, hij]; grind
      · rw [if_neg hij, if_neg hij]; grind), zsum_one (f := fun _ => 0) C hj, zsum_zero C (fun _ _ => rfl)]
    grind
  rw [s1 (fun j => (cell r (2 + j) : Rat)), s1 (fun j => (det5 (zrep M j (vr r)) : Rat))] at one
  have : ((det5 M * cell r (2 + j) : Int) : Rat) = ((cell r 0 * det5 (zrep M j (vr r)) : Int) : Rat) := by
    push_cast
    grind
  exact ratInt_inj this
theorem zrep_pm {M : Nat → Nat → Int} {c : Nat} {b : Nat → Int} (h : ∀ j, j < 5 → pm1 (fun i => M i j)) (hb : pm1 b) : ∀ j, j < 5 → pm1 (fun i => zrep M c b i j) := by
  intro j hj
  unfold zrep
  by_cases hjc : j = c
  · simp only [if_pos hjc]; exact hb
  · simp only [if_neg hjc]; exact h j hj
theorem zmul15 {d z B : Int} (h1 : -15 ≤ d) (h2 : d ≤ 15) (h3 : -B ≤ z) (h4 : z ≤ B) : -(15 * B) ≤ d * z ∧ d * z ≤ 15 * B := by
  have hB : 0 ≤ B := by omega
  have a1 : (d * z).natAbs ≤ 15 * B.natAbs := by
    rw [Int.natAbs_mul]
    exact Nat.mul_le_mul (by omega) (by omega)
  omega
/-- rows in lowest terms are small -/
theorem f_small {W : Type} {A : W → Prop} {R C : Nat} {cell : Nat → Nat → Int} {idr idc : Nat → W → Rat} {X : W → Nat → Rat} {vr : Nat → Nat → Int} {kr : Nat → Rat} {M : Nat → Nat → Int} {kM : Nat → Rat} {Q V : Int} (h : dInv A R C cell idr idc) (f : fInv A R C idr idc X vr kr M kM Q V) {r : Nat} (hr : r < R) (hg : rgcd (cell r) (2 + C) = 1) :
    (cell r 0 ≤ 15 * Q) ∧ (-(90 * (Q * V)) ≤ cell r 1 ∧ cell r 1 ≤ 90 * (Q * V)) ∧ ∀ j, j < C → -(15 * Q) ≤ cell r (2 + j) ∧ cell r (2 + j) ≤ 15 * Q := by
  obtain ⟨c1, c2⟩ := f_coef h f hr
  have h0 := h.1 r hr
  obtain ⟨hC, -, -, -, p1, p2, hd, hQ, q1, q2⟩ := f
  obtain ⟨zr, er, br1, br2⟩ := q1 r hr
  obtain ⟨z0, e0, b01, b02⟩ := q2 0 (by omega)
  obtain ⟨z1, e1, b11, b12⟩ := q2 1 (by omega)
  obtain ⟨z2, e2, b21, b22⟩ := q2 2 (by omega)
  obtain ⟨z3, e3, b31, b32⟩ := q2 3 (by omega)
  obtain ⟨z4, e4, b41, b42⟩ := q2 4 (by omega)
  have bd : ∀ j, -15 ≤ det5 (zrep M j (vr r)) ∧ det5 (zrep M j (vr r)) ≤ 15 := fun j => det5_pm (zrep_pm p2 (p1 r hr))
  have bM := det5_pm p2
  have m0 := zmul15 (bd 0).1 (bd 0).2 b01 b02
  have m1 := zmul15 (bd 1).1 (bd 1).2 b11 b12
  have m2 := zmul15 (bd 2).1 (bd 2).2 b21 b22
  have m3 := zmul15 (bd 3).1 (bd 3).2 b31 b32
  have m4 := zmul15 (bd 4).1 (bd 4).2 b41 b42
  have mr := zmul15 bM.1 bM.2 br1 br2
  have eK : (Q * det5 M) * cell r 1 = cell r 0 * (det5 (zrep M 0 (vr r)) * z0 + det5 (zrep M 1 (vr r)) * z1 + det5 (zrep M 2 (vr r)) * z2 + det5 (zrep M 3 (vr r)) * z3 + det5 (zrep M 4 (vr r)) * z4 - det5 M * zr) := by
    apply ratInt_inj
    push_cast
    rw [← er, ← e0, ← e1, ← e2, ← e3, ← e4]
    unfold sum5 at c2
    grind
  have key := rlow_small (v := fun k => if k = 0 then Q * det5 M else if k = 1 then det5 (zrep M 0 (vr r)) * z0 + det5 (zrep M 1 (vr r)) * z1 + det5 (zrep M 2 (vr r)) * z2 + det5 (zrep M 3 (vr r)) * z3 + det5 (zrep M 4 (vr r)) * z4 - det5 M * zr else Q * det5 (zrep M (k - 2) (vr r))) (n := 2 + C) (by omega) hg h0 (by
      show (if 0 = 0 then Q * det5 M else _) ≠ 0
      rw [if_pos rfl]
      exact Int.mul_ne_zero (by omega) hd) (fun k hk => by
      show (if 0 = 0 then Q * det5 M else _) * cell r k = cell r 0 * (if k = 0 then Q * det5 M else if k = 1 then _ else Q * det5 (zrep M (k - 2) (vr r)))
      rw [if_pos rfl]
      by_cases k0 : k = 0
      · subst k0
        rw [if_pos rfl, Int.mul_comm]
      · rw [if_neg k0]
        by_cases k1 : k = 1
        · subst k1
          rw [if_pos rfl]
          exact eK
        · rw [if_neg k1]
          have := c1 (k - 2) (by omega)
          rw [show 2 + (k - 2) = k by omega] at this
          rw [Int.mul_assoc, this]
          grind)
  have absQ : ∀ d : Int, -15 ≤ d → d ≤ 15 → (Q * d).natAbs ≤ 15 * Q.natAbs := fun d a b => by
    rw [Int.natAbs_mul, Nat.mul_comm]
    exact Nat.mul_le_mul (by omega) (Nat.le_refl _)
  refine ⟨?_, ?_, fun j hj => ?_⟩
  · have k0 := key 0 (by omega)
    rw [if_pos rfl] at k0
    have := absQ _ bM.1 bM.2
    omega
  · have k1 := key 1 (by omega)
    rw [if_neg (by omega), if_pos rfl] at k1
    omega
  · have k2 := key (2 + j) (by omega)
    rw [if_neg (by omega), if_neg (by omega), show 2 + j - 2 = j by omega] at k2
    have := absQ _ (bd j).1 (bd j).2
    omega
theorem fInv_exch {W : Type} {A : W → Prop} {R C : Nat} {cell : Nat → Nat → Int} {idr idc : Nat → W → Rat} {X : W → Nat → Rat} {vr : Nat → Nat → Int} {kr : Nat → Rat} {M : Nat → Nat → Int} {kM : Nat → Rat} {Q V : Int} {r0 c0 : Nat} (h : dInv A R C cell idr idc) (f : fInv A R C idr idc X vr kr M kM Q V) (hr : r0 < R) (hc : c0 < C) (hp : cell r0 (2 + c0) < 0) :
    fInv A R C (xSwap idr r0 (idc c0)) (xSwap idc c0 (idr r0)) X (xSwap vr r0 (fun i => M i c0)) (xSwap kr r0 (kM c0)) (zrep M c0 (vr r0)) (xSwap kM c0 (kr r0)) Q V := by
  obtain ⟨c1, -⟩ := f_coef h f hr
  have h0 := h.1 r0 hr
  obtain ⟨hC, f1, f2, f3, p1, p2, hd, hQ, q1, q2⟩ := f
  refine ⟨hC, fun w hA r hr' => ?_, fun w hA j hj => ?_, fun w hA j hj1 hj2 => ?_, fun r hr' => ?_, zrep_pm p2 (p1 r0 hr), ?_, hQ, fun r hr' => ?_, fun j hj => ?_⟩
  · unfold xSwap
    by_cases hrr : r = r0
    · simp only [if_pos hrr]; exact f2 w hA c0 hc
    · simp only [if_neg hrr]; exact f1 w hA r hr'
  · unfold xSwap zrep
    by_cases hjc : j = c0
    · simp only [if_pos hjc]; exact f1 w hA r0 hr
    · simp only [if_neg hjc]; exact f2 w hA j hj
  · unfold xSwap zrep
    have hjc : ¬ j = c0 := by omega
    simp only [if_neg hjc]
    exact f3 w hA j hj1 hj2
  · unfold xSwap
    by_cases hrr : r = r0
    · simp only [if_pos hrr]; exact p2 c0 (by omega)
    · simp only [if_neg hrr]; exact p1 r hr'
  · intro q
    have e := c1 c0 hc
    rw [q, Int.mul_zero] at e
    rcases Int.mul_eq_zero.mp e with e | e
    · exact hd e
    · omega
  · unfold xSwap
    by_cases hrr : r = r0
    · simp only [if_pos hrr]; exact q2 c0 (by omega)
    · simp only [if_neg hrr]; exact q1 r hr'
  · unfold xSwap
    by_cases hjc : j = c0
    · simp only [if_pos hjc]; exact q1 r0 hr
    · simp only [if_neg hjc]; exact q2 j hj
