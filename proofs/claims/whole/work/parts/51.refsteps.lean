/-! a step of Gauss and Jordan: determinants under a swap, with a column of any numbers -/
set_option maxHeartbeats 40000000 in
theorem dt5_sw01 (a00 a01 a02 a03 a04 a10 a11 a12 a13 a14 a20 a21 a22 a23 a24 a30 a31 a32 a33 a34 a40 a41 a42 a43 a44 : Int) : dt5 a01 a00 a02 a03 a04 a11 a10 a12 a13 a14 a21 a20 a22 a23 a24 a31 a30 a32 a33 a34 a41 a40 a42 a43 a44 = -(dt5 a00 a01 a02 a03 a04 a10 a11 a12 a13 a14 a20 a21 a22 a23 a24 a30 a31 a32 a33 a34 a40 a41 a42 a43 a44) := by
  unfold dt5
  grind
set_option maxHeartbeats 40000000 in
theorem dt5_sw02 (a00 a01 a02 a03 a04 a10 a11 a12 a13 a14 a20 a21 a22 a23 a24 a30 a31 a32 a33 a34 a40 a41 a42 a43 a44 : Int) : dt5 a02 a01 a00 a03 a04 a12 a11 a10 a13 a14 a22 a21 a20 a23 a24 a32 a31 a30 a33 a34 a42 a41 a40 a43 a44 = -(dt5 a00 a01 a02 a03 a04 a10 a11 a12 a13 a14 a20 a21 a22 a23 a24 a30 a31 a32 a33 a34 a40 a41 a42 a43 a44) := by
  unfold dt5
  grind
set_option maxHeartbeats 40000000 in
theorem dt5_sw03 (a00 a01 a02 a03 a04 a10 a11 a12 a13 a14 a20 a21 a22 a23 a24 a30 a31 a32 a33 a34 a40 a41 a42 a43 a44 : Int) : dt5 a03 a01 a02 a00 a04 a13 a11 a12 a10 a14 a23 a21 a22 a20 a24 a33 a31 a32 a30 a34 a43 a41 a42 a40 a44 = -(dt5 a00 a01 a02 a03 a04 a10 a11 a12 a13 a14 a20 a21 a22 a23 a24 a30 a31 a32 a33 a34 a40 a41 a42 a43 a44) := by
  unfold dt5
  grind
set_option maxHeartbeats 40000000 in
theorem dt5_sw04 (a00 a01 a02 a03 a04 a10 a11 a12 a13 a14 a20 a21 a22 a23 a24 a30 a31 a32 a33 a34 a40 a41 a42 a43 a44 : Int) : dt5 a04 a01 a02 a03 a00 a14 a11 a12 a13 a10 a24 a21 a22 a23 a20 a34 a31 a32 a33 a30 a44 a41 a42 a43 a40 = -(dt5 a00 a01 a02 a03 a04 a10 a11 a12 a13 a14 a20 a21 a22 a23 a24 a30 a31 a32 a33 a34 a40 a41 a42 a43 a44) := by
  unfold dt5
  grind
set_option maxHeartbeats 40000000 in
theorem dt5_sw12 (a00 a01 a02 a03 a04 a10 a11 a12 a13 a14 a20 a21 a22 a23 a24 a30 a31 a32 a33 a34 a40 a41 a42 a43 a44 : Int) : dt5 a00 a02 a01 a03 a04 a10 a12 a11 a13 a14 a20 a22 a21 a23 a24 a30 a32 a31 a33 a34 a40 a42 a41 a43 a44 = -(dt5 a00 a01 a02 a03 a04 a10 a11 a12 a13 a14 a20 a21 a22 a23 a24 a30 a31 a32 a33 a34 a40 a41 a42 a43 a44) := by
  unfold dt5
  grind
set_option maxHeartbeats 40000000 in
theorem dt5_sw13 (a00 a01 a02 a03 a04 a10 a11 a12 a13 a14 a20 a21 a22 a23 a24 a30 a31 a32 a33 a34 a40 a41 a42 a43 a44 : Int) : dt5 a00 a03 a02 a01 a04 a10 a13 a12 a11 a14 a20 a23 a22 a21 a24 a30 a33 a32 a31 a34 a40 a43 a42 a41 a44 = -(dt5 a00 a01 a02 a03 a04 a10 a11 a12 a13 a14 a20 a21 a22 a23 a24 a30 a31 a32 a33 a34 a40 a41 a42 a43 a44) := by
  unfold dt5
  grind
set_option maxHeartbeats 40000000 in
theorem dt5_sw14 (a00 a01 a02 a03 a04 a10 a11 a12 a13 a14 a20 a21 a22 a23 a24 a30 a31 a32 a33 a34 a40 a41 a42 a43 a44 : Int) : dt5 a00 a04 a02 a03 a01 a10 a14 a12 a13 a11 a20 a24 a22 a23 a21 a30 a34 a32 a33 a31 a40 a44 a42 a43 a41 = -(dt5 a00 a01 a02 a03 a04 a10 a11 a12 a13 a14 a20 a21 a22 a23 a24 a30 a31 a32 a33 a34 a40 a41 a42 a43 a44) := by
  unfold dt5
  grind
set_option maxHeartbeats 40000000 in
theorem dt5_sw23 (a00 a01 a02 a03 a04 a10 a11 a12 a13 a14 a20 a21 a22 a23 a24 a30 a31 a32 a33 a34 a40 a41 a42 a43 a44 : Int) : dt5 a00 a01 a03 a02 a04 a10 a11 a13 a12 a14 a20 a21 a23 a22 a24 a30 a31 a33 a32 a34 a40 a41 a43 a42 a44 = -(dt5 a00 a01 a02 a03 a04 a10 a11 a12 a13 a14 a20 a21 a22 a23 a24 a30 a31 a32 a33 a34 a40 a41 a42 a43 a44) := by
  unfold dt5
  grind
set_option maxHeartbeats 40000000 in
theorem dt5_sw24 (a00 a01 a02 a03 a04 a10 a11 a12 a13 a14 a20 a21 a22 a23 a24 a30 a31 a32 a33 a34 a40 a41 a42 a43 a44 : Int) : dt5 a00 a01 a04 a03 a02 a10 a11 a14 a13 a12 a20 a21 a24 a23 a22 a30 a31 a34 a33 a32 a40 a41 a44 a43 a42 = -(dt5 a00 a01 a02 a03 a04 a10 a11 a12 a13 a14 a20 a21 a22 a23 a24 a30 a31 a32 a33 a34 a40 a41 a42 a43 a44) := by
  unfold dt5
  grind
set_option maxHeartbeats 40000000 in
theorem dt5_sw34 (a00 a01 a02 a03 a04 a10 a11 a12 a13 a14 a20 a21 a22 a23 a24 a30 a31 a32 a33 a34 a40 a41 a42 a43 a44 : Int) : dt5 a00 a01 a02 a04 a03 a10 a11 a12 a14 a13 a20 a21 a22 a24 a23 a30 a31 a32 a34 a33 a40 a41 a42 a44 a43 = -(dt5 a00 a01 a02 a03 a04 a10 a11 a12 a13 a14 a20 a21 a22 a23 a24 a30 a31 a32 a33 a34 a40 a41 a42 a43 a44) := by
  unfold dt5
  grind
set_option maxHeartbeats 40000000 in
theorem dt5_lin0 (a01 a02 a03 a04 a11 a12 a13 a14 a21 a22 a23 a24 a31 a32 a33 a34 a41 a42 a43 a44 b0 b1 b2 b3 b4 : Int) : dt5 b0 a01 a02 a03 a04 b1 a11 a12 a13 a14 b2 a21 a22 a23 a24 b3 a31 a32 a33 a34 b4 a41 a42 a43 a44 = b0 * dt5 1 a01 a02 a03 a04 0 a11 a12 a13 a14 0 a21 a22 a23 a24 0 a31 a32 a33 a34 0 a41 a42 a43 a44 + b1 * dt5 0 a01 a02 a03 a04 1 a11 a12 a13 a14 0 a21 a22 a23 a24 0 a31 a32 a33 a34 0 a41 a42 a43 a44 + b2 * dt5 0 a01 a02 a03 a04 0 a11 a12 a13 a14 1 a21 a22 a23 a24 0 a31 a32 a33 a34 0 a41 a42 a43 a44 + b3 * dt5 0 a01 a02 a03 a04 0 a11 a12 a13 a14 0 a21 a22 a23 a24 1 a31 a32 a33 a34 0 a41 a42 a43 a44 + b4 * dt5 0 a01 a02 a03 a04 0 a11 a12 a13 a14 0 a21 a22 a23 a24 0 a31 a32 a33 a34 1 a41 a42 a43 a44 := by
  unfold dt5
  grind
set_option maxHeartbeats 40000000 in
theorem dt5_lin1 (a00 a02 a03 a04 a10 a12 a13 a14 a20 a22 a23 a24 a30 a32 a33 a34 a40 a42 a43 a44 b0 b1 b2 b3 b4 : Int) : dt5 a00 b0 a02 a03 a04 a10 b1 a12 a13 a14 a20 b2 a22 a23 a24 a30 b3 a32 a33 a34 a40 b4 a42 a43 a44 = b0 * dt5 a00 1 a02 a03 a04 a10 0 a12 a13 a14 a20 0 a22 a23 a24 a30 0 a32 a33 a34 a40 0 a42 a43 a44 + b1 * dt5 a00 0 a02 a03 a04 a10 1 a12 a13 a14 a20 0 a22 a23 a24 a30 0 a32 a33 a34 a40 0 a42 a43 a44 + b2 * dt5 a00 0 a02 a03 a04 a10 0 a12 a13 a14 a20 1 a22 a23 a24 a30 0 a32 a33 a34 a40 0 a42 a43 a44 + b3 * dt5 a00 0 a02 a03 a04 a10 0 a12 a13 a14 a20 0 a22 a23 a24 a30 1 a32 a33 a34 a40 0 a42 a43 a44 + b4 * dt5 a00 0 a02 a03 a04 a10 0 a12 a13 a14 a20 0 a22 a23 a24 a30 0 a32 a33 a34 a40 1 a42 a43 a44 := by
  unfold dt5
  grind
set_option maxHeartbeats 40000000 in
theorem dt5_lin2 (a00 a01 a03 a04 a10 a11 a13 a14 a20 a21 a23 a24 a30 a31 a33 a34 a40 a41 a43 a44 b0 b1 b2 b3 b4 : Int) : dt5 a00 a01 b0 a03 a04 a10 a11 b1 a13 a14 a20 a21 b2 a23 a24 a30 a31 b3 a33 a34 a40 a41 b4 a43 a44 = b0 * dt5 a00 a01 1 a03 a04 a10 a11 0 a13 a14 a20 a21 0 a23 a24 a30 a31 0 a33 a34 a40 a41 0 a43 a44 + b1 * dt5 a00 a01 0 a03 a04 a10 a11 1 a13 a14 a20 a21 0 a23 a24 a30 a31 0 a33 a34 a40 a41 0 a43 a44 + b2 * dt5 a00 a01 0 a03 a04 a10 a11 0 a13 a14 a20 a21 1 a23 a24 a30 a31 0 a33 a34 a40 a41 0 a43 a44 + b3 * dt5 a00 a01 0 a03 a04 a10 a11 0 a13 a14 a20 a21 0 a23 a24 a30 a31 1 a33 a34 a40 a41 0 a43 a44 + b4 * dt5 a00 a01 0 a03 a04 a10 a11 0 a13 a14 a20 a21 0 a23 a24 a30 a31 0 a33 a34 a40 a41 1 a43 a44 := by
  unfold dt5
  grind
set_option maxHeartbeats 40000000 in
theorem dt5_lin3 (a00 a01 a02 a04 a10 a11 a12 a14 a20 a21 a22 a24 a30 a31 a32 a34 a40 a41 a42 a44 b0 b1 b2 b3 b4 : Int) : dt5 a00 a01 a02 b0 a04 a10 a11 a12 b1 a14 a20 a21 a22 b2 a24 a30 a31 a32 b3 a34 a40 a41 a42 b4 a44 = b0 * dt5 a00 a01 a02 1 a04 a10 a11 a12 0 a14 a20 a21 a22 0 a24 a30 a31 a32 0 a34 a40 a41 a42 0 a44 + b1 * dt5 a00 a01 a02 0 a04 a10 a11 a12 1 a14 a20 a21 a22 0 a24 a30 a31 a32 0 a34 a40 a41 a42 0 a44 + b2 * dt5 a00 a01 a02 0 a04 a10 a11 a12 0 a14 a20 a21 a22 1 a24 a30 a31 a32 0 a34 a40 a41 a42 0 a44 + b3 * dt5 a00 a01 a02 0 a04 a10 a11 a12 0 a14 a20 a21 a22 0 a24 a30 a31 a32 1 a34 a40 a41 a42 0 a44 + b4 * dt5 a00 a01 a02 0 a04 a10 a11 a12 0 a14 a20 a21 a22 0 a24 a30 a31 a32 0 a34 a40 a41 a42 1 a44 := by
  unfold dt5
  grind
set_option maxHeartbeats 40000000 in
theorem dt5_lin4 (a00 a01 a02 a03 a10 a11 a12 a13 a20 a21 a22 a23 a30 a31 a32 a33 a40 a41 a42 a43 b0 b1 b2 b3 b4 : Int) : dt5 a00 a01 a02 a03 b0 a10 a11 a12 a13 b1 a20 a21 a22 a23 b2 a30 a31 a32 a33 b3 a40 a41 a42 a43 b4 = b0 * dt5 a00 a01 a02 a03 1 a10 a11 a12 a13 0 a20 a21 a22 a23 0 a30 a31 a32 a33 0 a40 a41 a42 a43 0 + b1 * dt5 a00 a01 a02 a03 0 a10 a11 a12 a13 1 a20 a21 a22 a23 0 a30 a31 a32 a33 0 a40 a41 a42 a43 0 + b2 * dt5 a00 a01 a02 a03 0 a10 a11 a12 a13 0 a20 a21 a22 a23 1 a30 a31 a32 a33 0 a40 a41 a42 a43 0 + b3 * dt5 a00 a01 a02 a03 0 a10 a11 a12 a13 0 a20 a21 a22 a23 0 a30 a31 a32 a33 1 a40 a41 a42 a43 0 + b4 * dt5 a00 a01 a02 a03 0 a10 a11 a12 a13 0 a20 a21 a22 a23 0 a30 a31 a32 a33 0 a40 a41 a42 a43 1 := by
  unfold dt5
  grind
def zswp (a b k : Nat) : Nat := if k = a then b else if k = b then a else k
theorem det5_swp {m : Nat → Nat → Int} {a b : Nat} (ha : a < 5) (hb : b < 5) (h : det5 m ≠ 0) : det5 (fun i k => m i (zswp a b k)) ≠ 0 := by
  have key : a = b ∨ det5 (fun i k => m i (zswp a b k)) = -det5 m := by
    match a, b, ha, hb with
    | 0, 0, _, _ => exact Or.inl rfl
    | 0, 1, _, _ => exact Or.inr (dt5_sw01 (m 0 0) (m 0 1) (m 0 2) (m 0 3) (m 0 4) (m 1 0) (m 1 1) (m 1 2) (m 1 3) (m 1 4) (m 2 0) (m 2 1) (m 2 2) (m 2 3) (m 2 4) (m 3 0) (m 3 1) (m 3 2) (m 3 3) (m 3 4) (m 4 0) (m 4 1) (m 4 2) (m 4 3) (m 4 4))
    | 0, 2, _, _ => exact Or.inr (dt5_sw02 (m 0 0) (m 0 1) (m 0 2) (m 0 3) (m 0 4) (m 1 0) (m 1 1) (m 1 2) (m 1 3) (m 1 4) (m 2 0) (m 2 1) (m 2 2) (m 2 3) (m 2 4) (m 3 0) (m 3 1) (m 3 2) (m 3 3) (m 3 4) (m 4 0) (m 4 1) (m 4 2) (m 4 3) (m 4 4))
    | 0, 3, _, _ => exact Or.inr (dt5_sw03 (m 0 0) (m 0 1) (m 0 2) (m 0 3) (m 0 4) (m 1 0) (m 1 1) (m 1 2) (m 1 3) (m 1 4) (m 2 0) (m 2 1) (m 2 2) (m 2 3) (m 2 4) (m 3 0) (m 3 1) (m 3 2) (m 3 3) (m 3 4) (m 4 0) (m 4 1) (m 4 2) (m 4 3) (m 4 4))
    | 0, 4, _, _ => exact Or.inr (dt5_sw04 (m 0 0) (m 0 1) (m 0 2) (m 0 3) (m 0 4) (m 1 0) (m 1 1) (m 1 2) (m 1 3) (m 1 4) (m 2 0) (m 2 1) (m 2 2) (m 2 3) (m 2 4) (m 3 0) (m 3 1) (m 3 2) (m 3 3) (m 3 4) (m 4 0) (m 4 1) (m 4 2) (m 4 3) (m 4 4))
    | 1, 0, _, _ => exact Or.inr (dt5_sw01 (m 0 0) (m 0 1) (m 0 2) (m 0 3) (m 0 4) (m 1 0) (m 1 1) (m 1 2) (m 1 3) (m 1 4) (m 2 0) (m 2 1) (m 2 2) (m 2 3) (m 2 4) (m 3 0) (m 3 1) (m 3 2) (m 3 3) (m 3 4) (m 4 0) (m 4 1) (m 4 2) (m 4 3) (m 4 4))
    | 1, 1, _, _ => exact Or.inl rfl
    | 1, 2, _, _ => exact Or.inr (dt5_sw12 (m 0 0) (m 0 1) (m 0 2) (m 0 3) (m 0 4) (m 1 0) (m 1 1) (m 1 2) (m 1 3) (m 1 4) (m 2 0) (m 2 1) (m 2 2) (m 2 3) (m 2 4) (m 3 0) (m 3 1) (m 3 2) (m 3 3) (m 3 4) (m 4 0) (m 4 1) (m 4 2) (m 4 3) (m 4 4))
    | 1, 3, _, _ => exact Or.inr (dt5_sw13 (m 0 0) (m 0 1) (m 0 2) (m 0 3) (m 0 4) (m 1 0) (m 1 1) (m 1 2) (m 1 3) (m 1 4) (m 2 0) (m 2 1) (m 2 2) (m 2 3) (m 2 4) (m 3 0) (m 3 1) (m 3 2) (m 3 3) (m 3 4) (m 4 0) (m 4 1) (m 4 2) (m 4 3) (m 4 4))
    | 1, 4, _, _ => exact Or.inr (dt5_sw14 (m 0 0) (m 0 1) (m 0 2) (m 0 3) (m 0 4) (m 1 0) (m 1 1) (m 1 2) (m 1 3) (m 1 4) (m 2 0) (m 2 1) (m 2 2) (m 2 3) (m 2 4) (m 3 0) (m 3 1) (m 3 2) (m 3 3) (m 3 4) (m 4 0) (m 4 1) (m 4 2) (m 4 3) (m 4 4))
    | 2, 0, _, _ => exact Or.inr (dt5_sw02 (m 0 0) (m 0 1) (m 0 2) (m 0 3) (m 0 4) (m 1 0) (m 1 1) (m 1 2) (m 1 3) (m 1 4) (m 2 0) (m 2 1) (m 2 2) (m 2 3) (m 2 4) (m 3 0) (m 3 1) (m 3 2) (m 3 3) (m 3 4) (m 4 0) (m 4 1) (m 4 2) (m 4 3) (m 4 4))
    | 2, 1, _, _ => exact Or.inr (dt5_sw12 (m 0 0) (m 0 1) (m 0 2) (m 0 3) (m 0 4) (m 1 0) (m 1 1) (m 1 2) (m 1 3) (m 1 4) (m 2 0) (m 2 1) (m 2 2) (m 2 3) (m 2 4) (m 3 0) (m 3 1) (m 3 2) (m 3 3) (m 3 4) (m 4 0) (m 4 1) (m 4 2) (m 4 3) (m 4 4))
    | 2, 2, _, _ => exact Or.inl rfl
    | 2, 3, _, _ => exact Or.inr (dt5_sw23 (m 0 0) (m 0 1) (m 0 2) (m 0 3) (m 0 4) (m 1 0) (m 1 1) (m 1 2) (m 1 3) (m 1 4) (m 2 0) (m 2 1) (m 2 2) (m 2 3) (m 2 4) (m 3 0) (m 3 1) (m 3 2) (m 3 3) (m 3 4) (m 4 0) (m 4 1) (m 4 2) (m 4 3) (m 4 4))
    | 2, 4, _, _ => exact Or.inr (dt5_sw24 (m 0 0) (m 0 1) (m 0 2) (m 0 3) (m 0 4) (m 1 0) (m 1 1) (m 1 2) (m 1 3) (m 1 4) (m 2 0) (m 2 1) (m 2 2) (m 2 3) (m 2 4) (m 3 0) (m 3 1) (m 3 2) (m 3 3) (m 3 4) (m 4 0) (m 4 1) (m 4 2) (m 4 3) (m 4 4))
    | 3, 0, _, _ => exact Or.inr (dt5_sw03 (m 0 0) (m 0 1) (m 0 2) (m 0 3) (m 0 4) (m 1 0) (m 1 1) (m 1 2) (m 1 3) (m 1 4) (m 2 0) (m 2 1) (m 2 2) (m 2 3) (m 2 4) (m 3 0) (m 3 1) (m 3 2) (m 3 3) (m 3 4) (m 4 0) (m 4 1) (m 4 2) (m 4 3) (m 4 4))
    | 3, 1, _, _ => exact Or.inr (dt5_sw13 (m 0 0) (m 0 1) (m 0 2) (m 0 3) (m 0 4) (m 1 0) (m 1 1) (m 1 2) (m 1 3) (m 1 4) (m 2 0) (m 2 1) (m 2 2) (m 2 3) (m 2 4) (m 3 0) (m 3 1) (m 3 2) (m 3 3) (m 3 4) (m 4 0) (m 4 1) (m 4 2) (m 4 3) (m 4 4))
    | 3, 2, _, _ => exact Or.inr (dt5_sw23 (m 0 0) (m 0 1) (m 0 2) (m 0 3) (m 0 4) (m 1 0) (m 1 1) (m 1 2) (m 1 3) (m 1 4) (m 2 0) (m 2 1) (m 2 2) (m 2 3) (m 2 4) (m 3 0) (m 3 1) (m 3 2) (m 3 3) (m 3 4) (m 4 0) (m 4 1) (m 4 2) (m 4 3) (m 4 4))
    | 3, 3, _, _ => exact Or.inl rfl
    | 3, 4, _, _ => exact Or.inr (dt5_sw34 (m 0 0) (m 0 1) (m 0 2) (m 0 3) (m 0 4) (m 1 0) (m 1 1) (m 1 2) (m 1 3) (m 1 4) (m 2 0) (m 2 1) (m 2 2) (m 2 3) (m 2 4) (m 3 0) (m 3 1) (m 3 2) (m 3 3) (m 3 4) (m 4 0) (m 4 1) (m 4 2) (m 4 3) (m 4 4))
    | 4, 0, _, _ => exact Or.inr (dt5_sw04 (m 0 0) (m 0 1) (m 0 2) (m 0 3) (m 0 4) (m 1 0) (m 1 1) (m 1 2) (m 1 3) (m 1 4) (m 2 0) (m 2 1) (m 2 2) (m 2 3) (m 2 4) (m 3 0) (m 3 1) (m 3 2) (m 3 3) (m 3 4) (m 4 0) (m 4 1) (m 4 2) (m 4 3) (m 4 4))
    | 4, 1, _, _ => exact Or.inr (dt5_sw14 (m 0 0) (m 0 1) (m 0 2) (m 0 3) (m 0 4) (m 1 0) (m 1 1) (m 1 2) (m 1 3) (m 1 4) (m 2 0) (m 2 1) (m 2 2) (m 2 3) (m 2 4) (m 3 0) (m 3 1) (m 3 2) (m 3 3) (m 3 4) (m 4 0) (m 4 1) (m 4 2) (m 4 3) (m 4 4))
    | 4, 2, _, _ => exact Or.inr (dt5_sw24 (m 0 0) (m 0 1) (m 0 2) (m 0 3) (m 0 4) (m 1 0) (m 1 1) (m 1 2) (m 1 3) (m 1 4) (m 2 0) (m 2 1) (m 2 2) (m 2 3) (m 2 4) (m 3 0) (m 3 1) (m 3 2) (m 3 3) (m 3 4) (m 4 0) (m 4 1) (m 4 2) (m 4 3) (m 4 4))
    | 4, 3, _, _ => exact Or.inr (dt5_sw34 (m 0 0) (m 0 1) (m 0 2) (m 0 3) (m 0 4) (m 1 0) (m 1 1) (m 1 2) (m 1 3) (m 1 4) (m 2 0) (m 2 1) (m 2 2) (m 2 3) (m 2 4) (m 3 0) (m 3 1) (m 3 2) (m 3 3) (m 3 4) (m 4 0) (m 4 1) (m 4 2) (m 4 3) (m 4 4))
    | 4, 4, _, _ => exact Or.inl rfl
    | a + 5, _, h, _ => omega
    | _, b + 5, _, h => omega
  rcases key with rfl | e
  · have e : (fun i k => m i (zswp a a k)) = m := by
      funext i k
      unfold zswp
      by_cases q : k = a
      · rw [if_pos q, q]
      · rw [if_neg q, if_neg q]
    rw [e]
    exact h
  · rw [e]
    intro q
    exact h (by omega)
def zunit (r : Nat) : Nat → Int := fun i => if i = r then 1 else 0
theorem det5_lin {m : Nat → Nat → Int} {b : Nat → Int} {j : Nat} (hj : j < 5) : det5 (zrep m j b) = b 0 * det5 (zrep m j (zunit 0)) + b 1 * det5 (zrep m j (zunit 1)) + b 2 * det5 (zrep m j (zunit 2)) + b 3 * det5 (zrep m j (zunit 3)) + b 4 * det5 (zrep m j (zunit 4)) := by
  match j, hj with
  | 0, _ => exact dt5_lin0 (m 0 1) (m 0 2) (m 0 3) (m 0 4) (m 1 1) (m 1 2) (m 1 3) (m 1 4) (m 2 1) (m 2 2) (m 2 3) (m 2 4) (m 3 1) (m 3 2) (m 3 3) (m 3 4) (m 4 1) (m 4 2) (m 4 3) (m 4 4) (b 0) (b 1) (b 2) (b 3) (b 4)
  | 1, _ => exact dt5_lin1 (m 0 0) (m 0 2) (m 0 3) (m 0 4) (m 1 0) (m 1 2) (m 1 3) (m 1 4) (m 2 0) (m 2 2) (m 2 3) (m 2 4) (m 3 0) (m 3 2) (m 3 3) (m 3 4) (m 4 0) (m 4 2) (m 4 3) (m 4 4) (b 0) (b 1) (b 2) (b 3) (b 4)
  | 2, _ => exact dt5_lin2 (m 0 0) (m 0 1) (m 0 3) (m 0 4) (m 1 0) (m 1 1) (m 1 3) (m 1 4) (m 2 0) (m 2 1) (m 2 3) (m 2 4) (m 3 0) (m 3 1) (m 3 3) (m 3 4) (m 4 0) (m 4 1) (m 4 3) (m 4 4) (b 0) (b 1) (b 2) (b 3) (b 4)
  | 3, _ => exact dt5_lin3 (m 0 0) (m 0 1) (m 0 2) (m 0 4) (m 1 0) (m 1 1) (m 1 2) (m 1 4) (m 2 0) (m 2 1) (m 2 2) (m 2 4) (m 3 0) (m 3 1) (m 3 2) (m 3 4) (m 4 0) (m 4 1) (m 4 2) (m 4 4) (b 0) (b 1) (b 2) (b 3) (b 4)
  | 4, _ => exact dt5_lin4 (m 0 0) (m 0 1) (m 0 2) (m 0 3) (m 1 0) (m 1 1) (m 1 2) (m 1 3) (m 2 0) (m 2 1) (m 2 2) (m 2 3) (m 3 0) (m 3 1) (m 3 2) (m 3 3) (m 4 0) (m 4 1) (m 4 2) (m 4 3) (b 0) (b 1) (b 2) (b 3) (b 4)
  | j + 5, h => omega
/-! Cramer over fractions; small fractions -/
theorem sum5_congr {f g : Nat → Rat} (h : ∀ k, k < 5 → f k = g k) : sum5 f = sum5 g := by
  unfold sum5
  rw [h 0 (by omega), h 1 (by omega), h 2 (by omega), h 3 (by omega), h 4 (by omega)]
theorem rat_md (x : Rat) : x * (x.den : Rat) = (x.num : Rat) := by
  have h : (x.num : Rat) / (x.den : Rat) = x := by rw [← Rat.mkRat_eq_div, Rat.mkRat_self]
  have hd : (x.den : Rat) ≠ 0 := fun e => x.den_nz (Rat.natCast_eq_zero_iff.mp e)
  have := Rat.div_mul_cancel (a := (x.num : Rat)) hd
  rwa [h] at this
theorem rat_cancel {q a b : Rat} (hq : q ≠ 0) (h : q * a = q * b) : a = b := by
  have : q * (a - b) = 0 := by grind
  rcases Rat.mul_eq_zero.mp this with e | e
  · exact absurd e hq
  · grind
theorem r_common (x : Nat → Rat) : ∀ n : Nat, ∃ (q : Int) (z : Nat → Int), 0 < q ∧ ∀ k, k < n → (q : Rat) * x k = (z k : Rat)
  | 0 => ⟨1, fun _ => 0, by omega, fun k hk => by omega⟩
  | n + 1 => by
    obtain ⟨q, z, hq, h⟩ := r_common x n
    have hd : (0 : Int) < ((x n).den : Int) := by have := (x n).den_pos; omega
    have hx : ((x n).den : Rat) * x n = ((x n).num : Rat) := by rw [Rat.mul_comm]; exact rat_md (x n)
    refine ⟨q * ((x n).den : Int), fun k => if k = n then q * (x n).num else z k * ((x n).den : Int), Int.mul_pos hq hd, fun k hk => ?_⟩
    dsimp only
    by_cases e : k = n
    · subst e
      rw [if_pos rfl]
      push_cast
      rw [Rat.mul_assoc, hx]
    · rw [if_neg e]
      have := h k (by omega)
      push_cast
      rw [← this]
      grind
theorem cramR {m : Nat → Nat → Int} {b : Nat → Int} {x : Nat → Rat} (h : ∀ i, i < 5 → (b i : Rat) = sum5 (fun k => (m i k : Rat) * x k)) {j : Nat} (hj : j < 5) : (det5 (zrep m j b) : Rat) = x j * (det5 m : Rat) := by
  obtain ⟨q, z, hq, hz⟩ := r_common x 5
  have hqr : (q : Rat) ≠ 0 := by
    intro e
    have : q = 0 := ratInt_inj (by rw [e]; rfl)
    omega
  have e := cramer (m := m) (b := b) (z := z) (q := q) (fun i hi => by
    apply ratInt_inj
    have h0 := h i hi
    unfold sum5 at h0
    unfold zmv
    push_cast
    rw [h0, ← hz 0 (by omega), ← hz 1 (by omega), ← hz 2 (by omega), ← hz 3 (by omega), ← hz 4 (by omega)]
    grind) hj
  have e2 : (q : Rat) * (det5 (zrep m j b) : Rat) = (q : Rat) * (x j * (det5 m : Rat)) := by
    have e3 : (q : Rat) * (det5 (zrep m j b) : Rat) = (z j : Rat) * (det5 m : Rat) := by exact_mod_cast congrArg (fun t : Int => (t : Rat)) e
    rw [e3, ← hz j hj]
    grind
  exact rat_cancel hqr e2
theorem rat_bd {x : Rat} {N D : Int} (hD : D ≠ 0) (h : x * (D : Rat) = (N : Rat)) : x.num.natAbs ≤ N.natAbs ∧ x.den ≤ D.natAbs := by
  have h1 : (x.num : Rat) * (D : Rat) = (N : Rat) * ((x.den : Nat) : Rat) := by
    rw [← h, ← rat_md x]; grind
  have h2 : x.num * D = N * (x.den : Int) := by exact_mod_cast h1
  have h3 : x.num.natAbs * D.natAbs = N.natAbs * x.den := by
    have := congrArg Int.natAbs h2
    rwa [Int.natAbs_mul, Int.natAbs_mul, Int.natAbs_natCast] at this
  have h4 : x.den ∣ D.natAbs := Nat.Coprime.dvd_of_dvd_mul_left (Nat.Coprime.symm x.reduced) (by rw [h3]; exact Nat.dvd_mul_left _ _)
  have hDp : 0 < D.natAbs := by omega
  obtain ⟨t, ht⟩ := h4
  have htp : 0 < t := by
    rcases Nat.eq_zero_or_pos t with q | q
    · subst q; rw [Nat.mul_zero] at ht; omega
    · exact q
  have hd := x.den_pos
  refine ⟨?_, ?_⟩
  · have h5 : x.num.natAbs * t = N.natAbs := by
      rw [ht] at h3
      have : x.den * (x.num.natAbs * t) = x.den * N.natAbs := by
        rw [Nat.mul_comm x.den N.natAbs, ← h3, Nat.mul_left_comm]
      exact Nat.eq_of_mul_eq_mul_left hd this
    rw [← h5]
    exact Nat.le_mul_of_pos_right _ htp
  · rw [ht]
    exact Nat.le_mul_of_pos_right _ htp
/-- the elimination's invariant: the columns laid, by a frame B, are q's -/
def sIv (n j : Nat) (M0 : Nat → Nat → Rat) (B : Nat → Nat → Int) (q : Nat → Nat → Rat) : Prop :=
  (∀ k, k < 5 → pm1 (fun i => B i k)) ∧ det5 B ≠ 0 ∧ (∀ i, i < 5 → ∀ c, c < 6 → M0 i c = sum5 (fun k => (B i k : Rat) * q k c)) ∧
  (∀ c, c < j → ∀ k, k < 5 → q k c = if k = c then 1 else 0) ∧ ∀ k c, n ≤ k → k < 5 → c < 6 → q k c = 0
/-- what is laid: columns of 0 and 1 by a sign, and a sixth of fractions with one denominator -/
def sMt (m : Nat → Nat → Int) (M0 : Nat → Nat → Rat) (Q V : Int) : Prop :=
  (∀ i, i < 5 → ∀ c, c < 5 → M0 i c = (m i c : Rat)) ∧ (∀ c, c < 5 → pm1 (fun i => m i c)) ∧ (∀ i, i < 5 → ∃ z : Int, (Q : Rat) * M0 i 5 = (z : Rat) ∧ -(Q * V) ≤ z ∧ z ≤ Q * V) ∧ 1 ≤ Q ∧ 1 ≤ V
theorem zunit_pm (r : Nat) : pm1 (zunit r) := ⟨1, Or.inl rfl, fun i _ => by unfold zunit; split <;> simp⟩
theorem det5_big {m : Nat → Nat → Int} {b : Nat → Int} {j : Nat} {Z : Int} (hj : j < 5) (h : ∀ k, k < 5 → pm1 (fun i => m i k)) (hb : ∀ i, i < 5 → -Z ≤ b i ∧ b i ≤ Z) : -(75 * Z) ≤ det5 (zrep m j b) ∧ det5 (zrep m j b) ≤ 75 * Z := by
  rw [det5_lin hj]
  have hu := fun r => det5_pm (zrep_pm h (zunit_pm r) (c := j))
  have t : ∀ r, r < 5 → -(15 * Z) ≤ b r * det5 (zrep m j (zunit r)) ∧ b r * det5 (zrep m j (zunit r)) ≤ 15 * Z := fun r hr => by
    have h1 := hb r hr
    have := zmul15 (hu r).1 (hu r).2 h1.1 h1.2
    rw [Int.mul_comm (b r)]; exact this
  have t0 := t 0 (by omega)
  have t1 := t 1 (by omega)
  have t2 := t 2 (by omega)
  have t3 := t 3 (by omega)
  have t4 := t 4 (by omega)
  omega
theorem sIv_small {n j : Nat} {M0 q : Nat → Nat → Rat} {B m : Nat → Nat → Int} {Q V : Int} (h : sIv n j M0 B q) (hm : sMt m M0 Q V) {k c : Nat} (hk : k < 5) (hc : c < 6) :
    ((q k c).num.natAbs ≤ if c < 5 then 15 else (75 * (Q * V)).toNat) ∧ ((q k c).den ≤ if c < 5 then 15 else (15 * Q).toNat) := by
  obtain ⟨h1, h2, h3, -, -⟩ := h
  obtain ⟨m1, m2, m3, m4, m5⟩ := hm
  have hdb := det5_pm h1
  by_cases e : c < 5
  · rw [if_pos e, if_pos e]
    have hc2 := cramR (m := B) (b := fun i => m i c) (x := fun k => q k c) (fun i hi => by rw [← m1 i hi c e]; exact h3 i hi c hc) hk
    have hb := rat_bd (x := q k c) h2 hc2.symm
    have hz := det5_pm (zrep_pm h1 (m2 c e) (c := k))
    omega
  · rw [if_neg e, if_neg e]
    obtain rfl : c = 5 := by omega
    obtain ⟨z, hz⟩ : ∃ z : Nat → Int, ∀ i, i < 5 → (Q : Rat) * M0 i 5 = (z i : Rat) ∧ -(Q * V) ≤ z i ∧ z i ≤ Q * V :=
      ⟨fun i => if hi : i < 5 then Classical.choose (m3 i hi) else 0, fun i hi => by dsimp only; rw [dif_pos hi]; exact Classical.choose_spec (m3 i hi)⟩
    have hc2 := cramR (m := B) (b := z) (x := fun k => (Q : Rat) * q k 5) (fun i hi => by
      rw [← (hz i hi).1, h3 i hi 5 (by omega)]
      unfold sum5; grind) hk
    have hD : Q * det5 B ≠ 0 := Int.mul_ne_zero (by omega) h2
    have hb := rat_bd (x := q k 5) hD (N := det5 (zrep B k z)) (by rw [hc2]; push_cast; grind)
    have hz2 := det5_big hk h1 (fun i hi => (hz i hi).2)
    have hQd : (Q * det5 B).natAbs ≤ (15 * Q).toNat := by
      have hq : (0 : Int) ≤ Q := by omega
      have t1 : Q * det5 B ≤ Q * 15 := Int.mul_le_mul_of_nonneg_left hdb.2 hq
      have t2 : Q * -15 ≤ Q * det5 B := Int.mul_le_mul_of_nonneg_left hdb.1 hq
      omega
    refine ⟨?_, by omega⟩
    generalize Q * V = QV at *
    omega
/-- after the swap, the scaling and the clearing of column j by the row p -/
def qSwp (j p : Nat) (q : Nat → Nat → Rat) : Nat → Nat → Rat := fun k c => q (zswp j p k) c
def qStp (j : Nat) (q : Nat → Nat → Rat) : Nat → Nat → Rat := fun k c => if k = j then q j c / q j j else q k c - q k j * (q j c / q j j)
theorem sum5_swp {f : Nat → Rat} {a b : Nat} (ha : a < 5) (hb : b < 5) : sum5 (fun k => f (zswp a b k)) = sum5 f := by
  match a, b, ha, hb with
  | 0, 0, _, _ | 0, 1, _, _ | 0, 2, _, _ | 0, 3, _, _ | 0, 4, _, _ | 1, 0, _, _ | 1, 1, _, _ | 1, 2, _, _ | 1, 3, _, _ | 1, 4, _, _ | 2, 0, _, _ | 2, 1, _, _ | 2, 2, _, _ | 2, 3, _, _ | 2, 4, _, _ | 3, 0, _, _ | 3, 1, _, _ | 3, 2, _, _ | 3, 3, _, _ | 3, 4, _, _ | 4, 0, _, _ | 4, 1, _, _ | 4, 2, _, _ | 4, 3, _, _ | 4, 4, _, _ => simp [sum5, zswp] <;> grind
  | a + 5, _, h, _ => omega
  | _, b + 5, _, h => omega
theorem sum5_stp {b x y : Nat → Rat} {d t u : Rat} {j : Nat} (hj : j < 5) (hu : u * y j = x j) (hd : d = sum5 (fun k => b k * y k)) (ht : t = sum5 (fun k => b k * x k)) : t = sum5 (fun k => (if k = j then d else b k) * (if k = j then u else x k - y k * u)) := by
  subst hd ht
  match j, hj with
  | 0, _ | 1, _ | 2, _ | 3, _ | 4, _ => simp [sum5] <;> grind
  | j + 5, h => omega
theorem zswp_fix {a b k : Nat} (h1 : k ≠ a) (h2 : k ≠ b) : zswp a b k = k := by unfold zswp; rw [if_neg h1, if_neg h2]
theorem sIv_step {n j p : Nat} {M0 q : Nat → Nat → Rat} {B m : Nat → Nat → Int} {Q V : Int} (h : sIv n j M0 B q) (hm : sMt m M0 Q V) (hn : n ≤ 5) (hjp : j ≤ p) (hp : p < n) (hq : q p j ≠ 0) :
    sIv n (j + 1) M0 (zrep (fun i k => B i (zswp j p k)) j (fun i => m i j)) (qStp j (qSwp j p q)) := by
  obtain ⟨h1, h2, h3, h4, h5⟩ := h
  obtain ⟨m1, m2, m3, m4, m5⟩ := hm
  have hj5 : j < 5 := by omega
  have hp5 : p < 5 := by omega
  have hsj : zswp j p j = p := by unfold zswp; rw [if_pos rfl]
  have hsw : ∀ k, k < 5 → zswp j p k < 5 := fun k hk => by unfold zswp; (split; exact hp5; (split <;> omega))
  have hd := det5_swp hj5 hp5 h2
  have hid : ∀ i, i < 5 → ∀ c, c < 6 → M0 i c = sum5 (fun k => (B i (zswp j p k) : Rat) * qSwp j p q k c) := fun i hi c hc => by
    rw [h3 i hi c hc]
    exact (sum5_swp (f := fun k => (B i k : Rat) * q k c) hj5 hp5).symm
  have hqj : qSwp j p q j j = q p j := by unfold qSwp; rw [hsj]
  have hcr := cramR (m := fun i k => B i (zswp j p k)) (b := fun i => m i j) (x := fun k => qSwp j p q k j) (fun i hi => by rw [← m1 i hi j hj5]; exact hid i hi j (by omega)) hj5
  refine ⟨zrep_pm (fun k hk => h1 _ (hsw k hk)) (m2 j hj5), ?_, ?_, ?_, ?_⟩
  · intro e
    rw [e, hqj] at hcr
    have hdr : (det5 (fun i k => B i (zswp j p k)) : Rat) ≠ 0 := by
      intro e2
      exact hd (ratInt_inj (by rw [e2]; rfl))
    have : q p j * (det5 (fun i k => B i (zswp j p k)) : Rat) = 0 := by rw [← hcr]; rfl
    rcases Rat.mul_eq_zero.mp this with a | a
    · exact hq a
    · exact hdr a
  · intro i hi c hc
    have e := sum5_stp (b := fun k => (B i (zswp j p k) : Rat)) (x := fun k => qSwp j p q k c) (y := fun k => qSwp j p q k j) (d := (m i j : Rat)) (t := M0 i c) (u := qSwp j p q j c / qSwp j p q j j) hj5 (Rat.div_mul_cancel (by rw [hqj]; exact hq)) (by rw [← m1 i hi j hj5]; exact hid i hi j (by omega)) (hid i hi c hc)
    rw [e]
    congr 1
    funext k
    unfold zrep qStp
    by_cases ek : k = j
    · simp only [if_pos ek]
    · simp only [if_neg ek]
  · intro c hc k hk
    by_cases e : c = j
    · subst e
      unfold qStp
      have hne : qSwp c p q c c ≠ 0 := by rw [hqj]; exact hq
      have hone : qSwp c p q c c / qSwp c p q c c = 1 := by rw [Rat.div_def]; exact Rat.mul_inv_cancel _ hne
      by_cases ek : k = c
      · rw [if_pos ek, if_pos ek, hone]
      · rw [if_neg ek, if_neg ek, hone]; grind
    · have hcj : c < j := by omega
      have e0 : qSwp j p q j c = 0 := by unfold qSwp; rw [hsj, h4 c hcj p hp5, if_neg (by omega)]
      unfold qStp
      rw [e0]
      by_cases ek : k = j
      · rw [if_pos ek, if_neg (by omega), Rat.div_def]; grind
      · rw [if_neg ek, Rat.div_def]
        have : qSwp j p q k c = if k = c then 1 else 0 := by
          unfold qSwp
          rw [h4 c hcj _ (hsw k hk)]
          by_cases ep : k = p
          · subst ep
            rw [show zswp j k k = j by unfold zswp; rw [if_neg ek, if_pos rfl], if_neg (by omega), if_neg (by omega)]
          · rw [zswp_fix ek ep]
        rw [this]; grind
  · intro k c hk hk5 hc
    have ek : k ≠ j := by omega
    have ep : k ≠ p := by omega
    unfold qStp qSwp
    rw [if_neg ek, zswp_fix ek ep, h5 k c hk hk5 hc, h5 k j hk hk5 (by omega)]
    grind
/-- no pivot: a combination of the columns is 0 -/
theorem sIv_fail {n j : Nat} {M0 q : Nat → Nat → Rat} {B m : Nat → Nat → Int} {Q V : Int} (h : sIv n j M0 B q) (hm : sMt m M0 Q V) (hn : n ≤ 5) (hj : j < n) (h0 : ∀ i, j ≤ i → i < n → q i j = 0) :
    ∃ y : Nat → Rat, y j ≠ 0 ∧ (∀ c, n ≤ c → y c = 0) ∧ ∀ i, i < 5 → sum5 (fun c => (m i c : Rat) * y c) = 0 := by
  obtain ⟨h1, h2, h3, h4, h5⟩ := h
  obtain ⟨m1, m2, m3, m4, m5⟩ := hm
  refine ⟨fun c => if c < j then q c j else if c = j then -1 else 0, ?_, ?_, ?_⟩
  · show (if j < j then q j j else if j = j then (-1 : Rat) else 0) ≠ 0
    rw [if_neg (by omega), if_pos rfl]; decide
  · intro c hc
    show (if c < j then q c j else if c = j then (-1 : Rat) else 0) = 0
    rw [if_neg (by omega), if_neg (by omega)]
  · intro i hi
    have hcol : ∀ c, c < j → (m i c : Rat) = (B i c : Rat) := fun c hc => by
      rw [← m1 i hi c (by omega), h3 i hi c (by omega)]
      have : sum5 (fun k => (B i k : Rat) * q k c) = sum5 (fun k => (B i k : Rat) * if k = c then 1 else 0) := sum5_congr fun k hk => by rw [h4 c hc k hk]
      rw [this]
      have hc5 : c < 5 := by omega
      match c, hc5 with
      | 0, _ | 1, _ | 2, _ | 3, _ | 4, _ => simp [sum5] <;> grind
      | c + 5, h => omega
    have hz : ∀ k, j ≤ k → k < 5 → q k j = 0 := fun k hk hk5 => by
      by_cases e : k < n
      · exact h0 k hk e
      · exact h5 k j (by omega) hk5 (by omega)
    have hjc := h3 i hi j (by omega)
    rw [m1 i hi j (by omega)] at hjc
    have key : sum5 (fun c => (m i c : Rat) * if c < j then q c j else if c = j then -1 else 0) = sum5 (fun k => (B i k : Rat) * q k j) + sum5 (fun c => if c = j then -(m i j : Rat) else 0) := by
      have t : ∀ c, c < 5 → ((m i c : Rat) * if c < j then q c j else if c = j then -1 else 0) = (B i c : Rat) * q c j + if c = j then -(m i j : Rat) else 0 := fun c hc => by
        by_cases e : c < j
        · rw [if_pos e, if_neg (by omega), hcol c e]; grind
        · rw [if_neg e, hz c (by omega) hc]
          by_cases e2 : c = j
          · subst e2; rw [if_pos rfl, if_pos rfl]; grind
          · rw [if_neg e2, if_neg e2]; grind
      rw [sum5_congr t]
      unfold sum5
      grind
    rw [key, ← hjc]
    have hj5 : j < 5 := by omega
    match j, hj5 with
    | 0, _ | 1, _ | 2, _ | 3, _ | 4, _ => simp [sum5] <;> grind
    | j + 5, h => omega
/-- all pivots: the sixth column is the answer, and the only one -/
theorem sIv_end {n : Nat} {M0 q : Nat → Nat → Rat} {B m : Nat → Nat → Int} {Q V : Int} (h : sIv n n M0 B q) (hm : sMt m M0 Q V) (hn : n ≤ 5) :
    (∀ i, i < 5 → M0 i 5 = sum5 (fun c => (m i c : Rat) * if c < n then q c 5 else 0)) ∧ ∀ y : Nat → Rat, (∀ c, n ≤ c → c < 5 → y c = 0) → (∀ i, i < 5 → sum5 (fun c => (m i c : Rat) * y c) = 0) → ∀ c, c < 5 → y c = 0 := by
  obtain ⟨h1, h2, h3, h4, h5⟩ := h
  obtain ⟨m1, m2, m3, m4, m5⟩ := hm
  have hcol : ∀ i, i < 5 → ∀ c, c < n → (m i c : Rat) = (B i c : Rat) := fun i hi c hc => by
    rw [← m1 i hi c (by omega), h3 i hi c (by omega)]
    have : sum5 (fun k => (B i k : Rat) * q k c) = sum5 (fun k => (B i k : Rat) * if k = c then 1 else 0) := sum5_congr fun k hk => by rw [h4 c hc k hk]
    rw [this]
    have hc5 : c < 5 := by omega
    match c, hc5 with
    | 0, _ | 1, _ | 2, _ | 3, _ | 4, _ => simp [sum5] <;> grind
    | c + 5, h => omega
  have hs : ∀ i, i < 5 → ∀ y : Nat → Rat, (∀ c, n ≤ c → c < 5 → y c = 0) → sum5 (fun c => (m i c : Rat) * y c) = sum5 (fun c => (B i c : Rat) * y c) := fun i hi y hy => by
    have t : ∀ c, c < 5 → (m i c : Rat) * y c = (B i c : Rat) * y c := fun c hc => by
      by_cases e : c < n
      · rw [hcol i hi c e]
      · rw [hy c (by omega) hc]; grind
    exact sum5_congr t
  refine ⟨fun i hi => ?_, fun y hy hy0 c hc => ?_⟩
  · rw [hs i hi _ (fun c h1 h2 => if_neg (by omega)), h3 i hi 5 (by omega)]
    have t : ∀ c, c < 5 → (B i c : Rat) * q c 5 = (B i c : Rat) * if c < n then q c 5 else 0 := fun c hc => by
      by_cases e : c < n
      · rw [if_pos e]
      · rw [if_neg e, h5 c 5 (by omega) hc (by omega)]
    exact sum5_congr t
  · have a := cramR (m := B) (b := fun _ => 0) (x := y) (fun i hi => by rw [← hs i hi y hy, hy0 i hi]; rfl) hc
    have b := cramR (m := B) (b := fun _ => 0) (x := fun _ => 0) (fun i hi => by unfold sum5; simp; grind) hc
    have hdr : (det5 B : Rat) ≠ 0 := fun e2 => h2 (ratInt_inj (by rw [e2]; rfl))
    have : y c * (det5 B : Rat) = 0 := by rw [← a, b]; grind
    rcases Rat.mul_eq_zero.mp this with q | q
    · exact q
    · exact absurd q hdr
theorem sIv_zero {n : Nat} {M0 : Nat → Nat → Rat} (h : ∀ k c, n ≤ k → k < 5 → c < 6 → M0 k c = 0) : sIv n 0 M0 (fun i k => if i = k then 1 else 0) M0 := by
  refine ⟨fun k hk => ⟨1, Or.inl rfl, fun i _ => by by_cases e : i = k <;> simp [e]⟩, by decide, fun i hi c hc => ?_, fun c hc => by omega, h⟩
  match i, hi with
  | 0, _ | 1, _ | 2, _ | 3, _ | 4, _ => simp [sum5] <;> grind
  | i + 5, h => omega
