/-! dictionaries of whole rows: below * value = constant + sum of factor * column, on a set of points -/
theorem zsum_upd {f g : Nat → Rat} {c : Nat} {x : Rat} (n : Nat) (h : c < n) (hc : f c = x) (ho : ∀ j, j < n → j ≠ c → f j = g j) : zsum n f = zsum n g - g c + x := by
  rw [← zsum_one (f := g) (c := c) (x := x) n h]
  refine zsum_congr n (fun j hj => ?_)
  by_cases hjc : j = c
  · rw [if_pos hjc, hjc, hc]
  · rw [if_neg hjc, ho j hj hjc]
theorem zpm {g x : Int} (hg : 0 < g) (h : 0 < g * x) : 0 < x := by
  by_cases q : 0 < x
  · exact q
  · have := Int.mul_le_mul_of_nonneg_left (show x ≤ 0 by omega) (Int.le_of_lt hg)
    rw [Int.mul_zero] at this
    omega
def rV {W : Type} (C : Nat) (ρ : Nat → Int) (idc : Nat → W → Rat) (w : W) : Rat := (ρ 1 : Rat) + zsum C (fun j => (ρ (2 + j) : Rat) * idc j w)
def dInv {W : Type} (A : W → Prop) (R C : Nat) (cell : Nat → Nat → Int) (idr idc : Nat → W → Rat) : Prop :=
  (∀ r, r < R → 0 < cell r 0) ∧ (∀ w, A w → ∀ r, r < R → (cell r 0 : Rat) * idr r w = rV C (cell r) idc w) ∧ (∀ t : Nat → Rat, ∃ w, A w ∧ ∀ j, j < C → idc j w = t j)
def rTurn (ρ : Nat → Int) (c : Nat) : Nat → Int := fun k => if k = 0 then -ρ (2 + c) else if k = 2 + c then -ρ 0 else ρ k
def rRep (ρ τ : Nat → Int) (c : Nat) : Nat → Int := fun k => if k = 0 then ρ 0 * τ 0 else if k = 2 + c then ρ (2 + c) * τ (2 + c) else ρ k * τ 0 + ρ (2 + c) * τ k
/-- τ is ρ in lower terms -/
def rLow (C : Nat) (ρ τ : Nat → Int) : Prop := ∃ g : Int, 0 < g ∧ ∀ k, k < 2 + C → ρ k = g * τ k
def xSwap {α : Type} (f : Nat → α) (i : Nat) (x : α) : Nat → α := fun j => if j = i then x else f j
theorem rV_low {W : Type} {C : Nat} {ρ τ : Nat → Int} {idc : Nat → W → Rat} {w : W} {v : Rat} (h : rLow C ρ τ) (hv : (ρ 0 : Rat) * v = rV C ρ idc w) : (τ 0 : Rat) * v = rV C τ idc w := by
  obtain ⟨g, hg, hk⟩ := h
  have hgR : (g : Rat) ≠ 0 := by
    intro q
    have : g = 0 := by exact_mod_cast q
    omega
  have e1 : rV C ρ idc w = (g : Rat) * rV C τ idc w := by
    unfold rV
    rw [hk 1 (by omega), zsum_congr C (g := fun j => (g : Rat) * ((τ (2 + j) : Rat) * idc j w)) (fun j hj => by
      rw [hk (2 + j) (by omega)]; push_cast; grind), zsum_mul]
    push_cast
    grind
  rw [e1, hk 0 (by omega)] at hv
  push_cast at hv
  have e2 : (g : Rat) * ((τ 0 : Rat) * v - rV C τ idc w) = 0 := by grind
  grind
/-- what an exchange makes of the rows -/
def xOk (R C : Nat) (cell cell' : Nat → Nat → Int) (r0 c0 : Nat) : Prop :=
  rLow C (rTurn (cell r0) c0) (cell' r0) ∧ ∀ r, r < R → r ≠ r0 → (cell r (2 + c0) = 0 → cell' r = cell r) ∧ (cell r (2 + c0) ≠ 0 → rLow C (rRep (cell r) (cell' r0) c0) (cell' r))
theorem rTurn_val {W : Type} {C c0 : Nat} {ρ : Nat → Int} {idc : Nat → W → Rat} {w : W} {v : Rat} (hc : c0 < C) (h : (ρ 0 : Rat) * v = rV C ρ idc w) : ((rTurn ρ c0 0 : Int) : Rat) * idc c0 w = rV C (rTurn ρ c0) (xSwap idc c0 (fun _ => v)) w := by
  unfold rV at *
  have e1 : zsum C (fun j => ((rTurn ρ c0 (2 + j) : Int) : Rat) * xSwap idc c0 (fun _ => v) j w) = zsum C (fun j => (ρ (2 + j) : Rat) * idc j w) - (ρ (2 + c0) : Rat) * idc c0 w + -(ρ 0 : Rat) * v := by
    refine zsum_upd C hc ?_ (fun j hj hjc => ?_)
    · simp only [rTurn, xSwap, if_true]
      rw [if_neg (by omega)]
      push_cast
      grind
    · simp only [rTurn, xSwap, if_neg hjc]
      rw [if_neg (by omega), if_neg (by omega)]
  rw [e1]
  simp only [rTurn, if_true]
  rw [if_neg (by omega), if_neg (by omega)]
  push_cast
  grind
theorem rRep_val {W : Type} {C c0 : Nat} {ρ τ : Nat → Int} {idc : Nat → W → Rat} {w : W} {u v : Rat} (hc : c0 < C) (h : (ρ 0 : Rat) * u = rV C ρ idc w) (ht : (τ 0 : Rat) * idc c0 w = rV C τ (xSwap idc c0 (fun _ => v)) w) : ((rRep ρ τ c0 0 : Int) : Rat) * u = rV C (rRep ρ τ c0) (xSwap idc c0 (fun _ => v)) w := by
  unfold rV at *
  have e0 : zsum C (fun j => (τ (2 + j) : Rat) * xSwap idc c0 (fun _ => v) j w) = zsum C (fun j => (τ (2 + j) : Rat) * idc j w) - (τ (2 + c0) : Rat) * idc c0 w + (τ (2 + c0) : Rat) * v :=
    zsum_upd C hc (by simp only [xSwap, if_true]) (fun j hj hjc => by simp only [xSwap, if_neg hjc])
  have e1 : zsum C (fun j => ((rRep ρ τ c0 (2 + j) : Int) : Rat) * xSwap idc c0 (fun _ => v) j w) = zsum C (fun j => (τ 0 : Rat) * ((ρ (2 + j) : Rat) * idc j w) + (ρ (2 + c0) : Rat) * ((τ (2 + j) : Rat) * idc j w)) - ((τ 0 : Rat) * ((ρ (2 + c0) : Rat) * idc c0 w) + (ρ (2 + c0) : Rat) * ((τ (2 + c0) : Rat) * idc c0 w)) + (ρ (2 + c0) : Rat) * (τ (2 + c0) : Rat) * v := by
    refine zsum_upd C hc ?_ (fun j hj hjc => ?_)
    · simp only [rRep, xSwap, if_true]
      rw [if_neg (by omega)]
      push_cast
      grind
    · simp only [rRep, xSwap, if_neg hjc]
      rw [if_neg (by omega), if_neg (by omega)]
      push_cast
      grind
  rw [zsum_add, zsum_mul, zsum_mul] at e1
  rw [e0] at ht
  rw [e1]
  simp only [rRep, if_true]
  rw [if_neg (by omega), if_neg (by omega)]
  push_cast
  have e2 : (τ 0 : Rat) * ((ρ 0 : Rat) * u) = (τ 0 : Rat) * ((ρ 1 : Rat) + zsum C (fun j => (ρ (2 + j) : Rat) * idc j w)) := by rw [h]
  have e3 : (ρ (2 + c0) : Rat) * ((τ 0 : Rat) * idc c0 w) = (ρ (2 + c0) : Rat) * ((τ 1 : Rat) + (zsum C (fun j => (τ (2 + j) : Rat) * idc j w) - (τ (2 + c0) : Rat) * idc c0 w + (τ (2 + c0) : Rat) * v)) := by rw [ht]
  grind
theorem dInv_exch {W : Type} {A : W → Prop} {R C : Nat} {cell cell' : Nat → Nat → Int} {idr idc : Nat → W → Rat} {r0 c0 : Nat} (h : dInv A R C cell idr idc) (hr : r0 < R) (hc : c0 < C) (hp : cell r0 (2 + c0) < 0) (hx : xOk R C cell cell' r0 c0) : dInv A R C cell' (xSwap idr r0 (idc c0)) (xSwap idc c0 (idr r0)) := by
  obtain ⟨h1, h2, h3⟩ := h
  obtain ⟨x1, x2⟩ := hx
  have pos0 : 0 < cell' r0 0 := by
    obtain ⟨g, hg, hk⟩ := x1
    have := hk 0 (by omega)
    simp only [rTurn, if_true] at this
    have h4 : 0 < g * cell' r0 0 := by omega
    exact zpm hg h4
  have val0 : ∀ w, A w → (cell' r0 0 : Rat) * idc c0 w = rV C (cell' r0) (xSwap idc c0 (idr r0)) w := fun w hA => by
    have e1 := rTurn_val (c0 := c0) hc (h2 w hA r0 hr)
    have e2 : rV C (rTurn (cell r0) c0) (xSwap idc c0 (fun _ => idr r0 w)) w = rV C (rTurn (cell r0) c0) (xSwap idc c0 (idr r0)) w := by
      unfold rV
      congr 1
      refine zsum_congr C (fun j hj => ?_)
      unfold xSwap
      split <;> rfl
    rw [e2] at e1
    exact rV_low x1 e1
  refine ⟨fun r hr' => ?_, fun w hA r hr' => ?_, fun t => ?_⟩
  · by_cases hrr : r = r0
    · rw [hrr]; exact pos0
    · obtain ⟨y1, y2⟩ := x2 r hr' hrr
      by_cases hz : cell r (2 + c0) = 0
      · rw [y1 hz]; exact h1 r hr'
      · obtain ⟨g, hg, hk⟩ := y2 hz
        have := hk 0 (by omega)
        simp only [rRep, if_true] at this
        have h4 : 0 < g * cell' r 0 := by rw [← this]; exact Int.mul_pos (h1 r hr') pos0
        exact zpm hg h4
  · by_cases hrr : r = r0
    · subst hrr
      show _ * xSwap idr r (idc c0) r w = _
      unfold xSwap
      rw [if_pos rfl]
      exact val0 w hA
    · show _ * xSwap idr r0 (idc c0) r w = _
      have e0 : xSwap idr r0 (idc c0) r w = idr r w := by unfold xSwap; rw [if_neg hrr]
      rw [e0]
      obtain ⟨y1, y2⟩ := x2 r hr' hrr
      by_cases hz : cell r (2 + c0) = 0
      · rw [y1 hz, h2 w hA r hr']
        unfold rV
        congr 1
        refine zsum_congr C (fun j hj => ?_)
        unfold xSwap
        by_cases hjc : j = c0
        · rw [if_pos hjc, hjc, hz]; simp
        · rw [if_neg hjc]
      · have e1 : (cell' r0 0 : Rat) * idc c0 w = rV C (cell' r0) (xSwap idc c0 (fun _ => idr r0 w)) w := by
          rw [val0 w hA]
          unfold rV
          congr 1
          refine zsum_congr C (fun j hj => ?_)
          unfold xSwap
          split <;> rfl
        have e2 := rRep_val (c0 := c0) hc (h2 w hA r hr') e1
        have e3 : rV C (rRep (cell r) (cell' r0) c0) (xSwap idc c0 (fun _ => idr r0 w)) w = rV C (rRep (cell r) (cell' r0) c0) (xSwap idc c0 (idr r0)) w := by
          unfold rV
          congr 1
          refine zsum_congr C (fun j hj => ?_)
          unfold xSwap
          split <;> rfl
        rw [e3] at e2
        exact rV_low (y2 hz) e2
  · have hpR : (cell r0 (2 + c0) : Rat) ≠ 0 := by
      intro q
      have : cell r0 (2 + c0) = 0 := by exact_mod_cast q
      omega
    have h0R : (cell r0 0 : Rat) ≠ 0 := by
      intro q
      have : cell r0 0 = 0 := by exact_mod_cast q
      have := h1 r0 hr
      omega
    obtain ⟨w, hA, hw⟩ := h3 (fun j => if j = c0 then ((cell r0 0 : Rat) * t c0 - (cell r0 1 : Rat) - (zsum C (fun j => (cell r0 (2 + j) : Rat) * t j) - (cell r0 (2 + c0) : Rat) * t c0)) / (cell r0 (2 + c0) : Rat) else t j)
    refine ⟨w, hA, fun j hj => ?_⟩
    unfold xSwap
    by_cases hjc : j = c0
    · rw [if_pos hjc, hjc]
      have e1 := h2 w hA r0 hr
      unfold rV at e1
      have e2 : zsum C (fun j => (cell r0 (2 + j) : Rat) * idc j w) = zsum C (fun j => (cell r0 (2 + j) : Rat) * t j) - (cell r0 (2 + c0) : Rat) * t c0 + (cell r0 (2 + c0) : Rat) * idc c0 w :=
        zsum_upd C hc rfl (fun j hj hjc => by rw [hw j hj, if_neg hjc])
      have e3 := hw c0 hc
      rw [if_pos rfl] at e3
      have e4 : (cell r0 (2 + c0) : Rat) * idc c0 w = (cell r0 0 : Rat) * t c0 - (cell r0 1 : Rat) - (zsum C (fun j => (cell r0 (2 + j) : Rat) * t j) - (cell r0 (2 + c0) : Rat) * t c0) := by
        rw [e3, Rat.mul_comm, Rat.div_mul_cancel hpR]
      rw [e2, e4] at e1
      have e5 : (cell r0 0 : Rat) * (idr r0 w - t c0) = 0 := by grind
      grind
    · rw [if_neg hjc, hw j hj, if_neg hjc]
