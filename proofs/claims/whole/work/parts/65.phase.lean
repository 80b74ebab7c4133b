/-! phases: points, rooms, the start -/
abbrev cW : Type := (Nat → Rat) × Rat
def cX (n : Nat) (w : cW) (i : Nat) : Rat := if i < n then w.1 i else if i = 4 then w.2 else 0
def cVec (S i : Nat) : Int := if i < 4 then (hb S i : Int) else if i = 4 then 1 else 0
def cNm (n S : Nat) : Prop := 1 ≤ S ∧ S < 2 ^ n - 1
def cRoom (n : Nat) (v : Nat → Int) (S : Nat) (w : cW) : Rat := if 1 ≤ S ∧ S < 2 ^ n - 1 then xS w.1 S - (v S : Rat) + w.2 else 0
theorem cRoom_t {n S : Nat} {v : Nat → Int} {w : cW} (h : cNm n S) : cRoom n v S w = xS w.1 S - (v S : Rat) + w.2 := if_pos h
def cB (Fz : Nat → Prop) (tf : Nat → Rat) (x : Nat → Rat) : Prop := ∀ F, Fz F → xS x F = tf F
def cA (Fz : Nat → Prop) (tf : Nat → Rat) (E : Rat) (w : cW) : Prop := cB Fz tf w.1 ∧ w.2 = E
def cD (Fz : Nat → Prop) (tf : Nat → Rat) (w : cW) : Prop := cB Fz tf w.1
def flatB (B : (Nat → Rat) → Prop) (S : Nat) : Prop := ∀ x y, B x → B y → xS x S = xS y S
theorem cVec_pm (S : Nat) : pm1 (cVec S) := ⟨1, Or.inl rfl, fun i _ => by
  unfold cVec
  have := hb_01 S i
  (repeat' split) <;> omega⟩
theorem xS_add {x y : Nat → Rat} {c : Rat} {S : Nat} : xS (fun i => x i + c * y i) S = xS x S + c * xS y S := by unfold xS; grind
theorem xS_sub {x y : Nat → Rat} {S : Nat} : xS (fun i => x i - y i) S = xS x S - xS y S := by unfold xS; grind
theorem xS_ext {x y : Nat → Rat} {S n : Nat} (hS : S < 2 ^ n) (h : ∀ i, i < n → x i = y i) : xS x S = xS y S := by
  have t : ∀ i, i < 4 → (((hb S i : Nat) : Int) : Rat) * x i = (((hb S i : Nat) : Int) : Rat) * y i := fun i hi => by
    by_cases e : i < n
    · rw [h i e]
    · rw [hb_z hS (by omega)]; simp
  unfold xS
  rw [t 0 (by omega), t 1 (by omega), t 2 (by omega), t 3 (by omega)]
theorem hb_compl : ∀ n, n < 5 → ∀ S, S < 2 ^ n → ∀ i, i < 4 → hb (2 ^ n - 1 - S) i + hb S i = hb (2 ^ n - 1) i := by decide +kernel
theorem xS_compl {n S : Nat} {x : Nat → Rat} (hn : n ≤ 4) (hS : S < 2 ^ n) : xS x (2 ^ n - 1 - S) = xS x (2 ^ n - 1) - xS x S := by
  have t : ∀ i, i < 4 → (((hb (2 ^ n - 1 - S) i : Nat) : Int) : Rat) + (((hb S i : Nat) : Int) : Rat) = (((hb (2 ^ n - 1) i : Nat) : Int) : Rat) := fun i hi => by
    have := hb_compl n (by omega) S hS i hi
    exact_mod_cast congrArg (fun k : Nat => (k : Rat)) this
  have t0 := t 0 (by omega)
  have t1 := t 1 (by omega)
  have t2 := t 2 (by omega)
  have t3 := t 3 (by omega)
  unfold xS
  rw [← t0, ← t1, ← t2, ← t3]
  grind
theorem cX_lt {n i : Nat} {w : cW} (h : i < n) : cX n w i = w.1 i := if_pos h
theorem cX_4 {n : Nat} {w : cW} (h : n ≤ 4) : cX n w 4 = w.2 := by unfold cX; rw [if_neg (by omega), if_pos rfl]
theorem cX_o {n i : Nat} {w : cW} (h1 : n ≤ i) (h2 : i ≠ 4) : cX n w i = 0 := by unfold cX; rw [if_neg (by omega), if_neg h2]
theorem cVec_dot {n S : Nat} {w : cW} (hn : n ≤ 4) (hS : S < 2 ^ n) : dot5 (cVec S) (cX n w) = xS w.1 S + w.2 := by
  have e : ∀ i, i < 4 → (cVec S i : Rat) * cX n w i = (((hb S i : Nat) : Int) : Rat) * w.1 i := fun i hi => by
    unfold cVec
    rw [if_pos hi]
    by_cases q : i < n
    · rw [cX_lt q]
    · rw [hb_z hS (by omega)]; simp
  have e4 : (cVec S 4 : Rat) * cX n w 4 = w.2 := by
    rw [cX_4 hn]
    show ((1 : Int) : Rat) * w.2 = w.2
    rw [Rat.intCast_one, Rat.one_mul]
  unfold dot5 xS
  rw [e 0 (by omega), e 1 (by omega), e 2 (by omega), e 3 (by omega), e4]
theorem zunit_dot {r : Nat} {x : Nat → Rat} (hr : r < 5) : dot5 (zunit r) x = x r := by
  match r, hr with
  | 0, _ | 1, _ | 2, _ | 3, _ | 4, _ => simp [dot5, zunit] <;> grind
  | r + 5, h => omega
/-- a phase as it begins -/
def PS (s : zS) (n : Nat) (v : Nat → Int) (Fz : Nat → Prop) (tf : Nat → Rat) (E : Rat) (C : Nat) (rs cs : Nat → Nat) (cell : Nat → Nat → Int) (Q V : Int) : Prop :=
  ∃ (idr idc : Nat → cW → Rat) (vr : Nat → Nat → Int) (kr : Nat → Rat) (M : Nat → Nat → Int) (kM : Nat → Rat) (j1 : Nat),
    bI s (cA Fz tf E) (n + 2 ^ n - 2) C rs cs cell idr idc (cX n) vr kr M kM Q V ∧ bN (cA Fz tf E) (cRoom n v) (n + 2 ^ n - 2) C rs cs idr idc ∧ bF (n + 2 ^ n - 2) rs cell ∧
    (∀ j, j < C → cs j ≠ 0) ∧ (∀ r, r < n + 2 ^ n - 2 → rs r ≠ 0 → vr r = cVec (rs r) ∧ kr r = (v (rs r) : Rat)) ∧ (∀ j, j < C → (fun i => M i j) = cVec (cs j) ∧ kM j = (v (cs j) : Rat)) ∧
    (∀ r, r < n → rs r = 0 ∧ idr r = fun w => w.1 r) ∧ (C ≤ j1 ∧ j1 < 5 ∧ (fun i => M i j1) = zunit 4 ∧ kM j1 = E ∧ ∀ j, C ≤ j → j < 5 → j ≠ j1 → M 4 j = 0) ∧
    bP (fun S => cNm n S ∧ ¬ flatB (cB Fz tf) S) (n + 2 ^ n - 2) C rs cs ∧ (-2000 ≤ E ∧ E ≤ 2000) ∧ Fz (2 ^ n - 1) ∧ tf (2 ^ n - 1) = (v (2 ^ n - 1) : Rat)
/-- the start's board -/
def whM (n i j : Nat) : Int := if j = n - 1 then (if i < n then 1 else 0) else if i = j then 1 else 0
theorem whM_det : ∀ n, n < 5 → 1 ≤ n → det5 (whM n) ≠ 0 := by decide +kernel
theorem whM_pm (n j : Nat) : pm1 (fun i => whM n i j) := ⟨1, Or.inl rfl, fun i _ => by
  show 1 * whM n i j = 0 ∨ 1 * whM n i j = 1
  unfold whM
  (repeat' split) <;> omega⟩
theorem wh_val {n S : Nat} {w : Nat → Rat} {vN a : Int} (hn1 : 1 ≤ n) (hn : n ≤ 4) (hS : S < 2 ^ n) (hw : xS w (2 ^ n - 1) = (vN : Rat)) : xS w S - (a : Rat) = rV (n - 1) (rWhK (n - 1) n S vN a) (fun j (w : Nat → Rat) => w j) w := by
  have hz : ∀ i, n ≤ i → hb S i = 0 := fun i hi => hb_z hS hi
  rw [xS_all hn] at hw
  have hc : n = 1 ∨ n = 2 ∨ n = 3 ∨ n = 4 := by omega
  rcases hc with rfl | rfl | rfl | rfl
  · have z1 := hz 1 (by omega); have z2 := hz 2 (by omega); have z3 := hz 3 (by omega)
    simp [zsum] at hw
    simp [xS, rV, zsum, rWhK, z1, z2, z3]
    grind
  · have z2 := hz 2 (by omega); have z3 := hz 3 (by omega)
    simp [zsum] at hw
    simp [xS, rV, zsum, rWhK, z2, z3]
    grind
  · have z3 := hz 3 (by omega)
    simp [zsum] at hw
    simp [xS, rV, zsum, rWhK, z3]
    grind
  · simp [zsum] at hw
    simp [xS, rV, zsum, rWhK]
    grind
