/-! determinants of five by Laplace, Cramer, bounds of those of 0 and 1 -/
def dt5 (a00 a01 a02 a03 a04 a10 a11 a12 a13 a14 a20 a21 a22 a23 a24 a30 a31 a32 a33 a34 a40 a41 a42 a43 a44 : Int) : Int := a00 * (a11 * (a22 * (a33 * (a44) - a34 * (a43)) - a23 * (a32 * (a44) - a34 * (a42)) + a24 * (a32 * (a43) - a33 * (a42))) - a12 * (a21 * (a33 * (a44) - a34 * (a43)) - a23 * (a31 * (a44) - a34 * (a41)) + a24 * (a31 * (a43) - a33 * (a41))) + a13 * (a21 * (a32 * (a44) - a34 * (a42)) - a22 * (a31 * (a44) - a34 * (a41)) + a24 * (a31 * (a42) - a32 * (a41))) - a14 * (a21 * (a32 * (a43) - a33 * (a42)) - a22 * (a31 * (a43) - a33 * (a41)) + a23 * (a31 * (a42) - a32 * (a41)))) - a01 * (a10 * (a22 * (a33 * (a44) - a34 * (a43)) - a23 * (a32 * (a44) - a34 * (a42)) + a24 * (a32 * (a43) - a33 * (a42))) - a12 * (a20 * (a33 * (a44) - a34 * (a43)) - a23 * (a30 * (a44) - a34 * (a40)) + a24 * (a30 * (a43) - a33 * (a40))) + a13 * (a20 * (a32 * (a44) - a34 * (a42)) - a22 * (a30 * (a44) - a34 * (a40)) + a24 * (a30 * (a42) - a32 * (a40))) - a14 * (a20 * (a32 * (a43) - a33 * (a42)) - a22 * (a30 * (a43) - a33 * (a40)) + a23 * (a30 * (a42) - a32 * (a40)))) + a02 * (a10 * (a21 * (a33 * (a44) - a34 * (a43)) - a23 * (a31 * (a44) - a34 * (a41)) + a24 * (a31 * (a43) - a33 * (a41))) - a11 * (a20 * (a33 * (a44) - a34 * (a43)) - a23 * (a30 * (a44) - a34 * (a40)) + a24 * (a30 * (a43) - a33 * (a40))) + a13 * (a20 * (a31 * (a44) - a34 * (a41)) - a21 * (a30 * (a44) - a34 * (a40)) + a24 * (a30 * (a41) - a31 * (a40))) - a14 * (a20 * (a31 * (a43) - a33 * (a41)) - a21 * (a30 * (a43) - a33 * (a40)) + a23 * (a30 * (a41) - a31 * (a40)))) - a03 * (a10 * (a21 * (a32 * (a44) - a34 * (a42)) - a22 * (a31 * (a44) - a34 * (a41)) + a24 * (a31 * (a42) - a32 * (a41))) - a11 * (a20 * (a32 * (a44) - a34 * (a42)) - a22 * (a30 * (a44) - a34 * (a40)) + a24 * (a30 * (a42) - a32 * (a40))) + a12 * (a20 * (a31 * (a44) - a34 * (a41)) - a21 * (a30 * (a44) - a34 * (a40)) + a24 * (a30 * (a41) - a31 * (a40))) - a14 * (a20 * (a31 * (a42) - a32 * (a41)) - a21 * (a30 * (a42) - a32 * (a40)) + a22 * (a30 * (a41) - a31 * (a40)))) + a04 * (a10 * (a21 * (a32 * (a43) - a33 * (a42)) - a22 * (a31 * (a43) - a33 * (a41)) + a23 * (a31 * (a42) - a32 * (a41))) - a11 * (a20 * (a32 * (a43) - a33 * (a42)) - a22 * (a30 * (a43) - a33 * (a40)) + a23 * (a30 * (a42) - a32 * (a40))) + a12 * (a20 * (a31 * (a43) - a33 * (a41)) - a21 * (a30 * (a43) - a33 * (a40)) + a23 * (a30 * (a41) - a31 * (a40))) - a13 * (a20 * (a31 * (a42) - a32 * (a41)) - a21 * (a30 * (a42) - a32 * (a40)) + a22 * (a30 * (a41) - a31 * (a40))))
def dt4 (a00 a01 a02 a03 a10 a11 a12 a13 a20 a21 a22 a23 a30 a31 a32 a33 : Int) : Int := a00 * (a11 * (a22 * (a33) - a23 * (a32)) - a12 * (a21 * (a33) - a23 * (a31)) + a13 * (a21 * (a32) - a22 * (a31))) - a01 * (a10 * (a22 * (a33) - a23 * (a32)) - a12 * (a20 * (a33) - a23 * (a30)) + a13 * (a20 * (a32) - a22 * (a30))) + a02 * (a10 * (a21 * (a33) - a23 * (a31)) - a11 * (a20 * (a33) - a23 * (a30)) + a13 * (a20 * (a31) - a21 * (a30))) - a03 * (a10 * (a21 * (a32) - a22 * (a31)) - a11 * (a20 * (a32) - a22 * (a30)) + a12 * (a20 * (a31) - a21 * (a30)))
def det5 (m : Nat → Nat → Int) : Int := dt5 (m 0 0) (m 0 1) (m 0 2) (m 0 3) (m 0 4) (m 1 0) (m 1 1) (m 1 2) (m 1 3) (m 1 4) (m 2 0) (m 2 1) (m 2 2) (m 2 3) (m 2 4) (m 3 0) (m 3 1) (m 3 2) (m 3 3) (m 3 4) (m 4 0) (m 4 1) (m 4 2) (m 4 3) (m 4 4)
def zrep (m : Nat → Nat → Int) (j : Nat) (b : Nat → Int) : Nat → Nat → Int := fun i c => if c = j then b i else m i c
def zmv (m : Nat → Nat → Int) (z : Nat → Int) (i : Nat) : Int := m i 0 * z 0 + m i 1 * z 1 + m i 2 * z 2 + m i 3 * z 3 + m i 4 * z 4
set_option maxHeartbeats 20000000 in
theorem dt5_rep0 (a00 a01 a02 a03 a04 a10 a11 a12 a13 a14 a20 a21 a22 a23 a24 a30 a31 a32 a33 a34 a40 a41 a42 a43 a44 y0 y1 y2 y3 y4 : Int) : dt5 (a00 * y0 + a01 * y1 + a02 * y2 + a03 * y3 + a04 * y4) a01 a02 a03 a04 (a10 * y0 + a11 * y1 + a12 * y2 + a13 * y3 + a14 * y4) a11 a12 a13 a14 (a20 * y0 + a21 * y1 + a22 * y2 + a23 * y3 + a24 * y4) a21 a22 a23 a24 (a30 * y0 + a31 * y1 + a32 * y2 + a33 * y3 + a34 * y4) a31 a32 a33 a34 (a40 * y0 + a41 * y1 + a42 * y2 + a43 * y3 + a44 * y4) a41 a42 a43 a44 = y0 * dt5 a00 a01 a02 a03 a04 a10 a11 a12 a13 a14 a20 a21 a22 a23 a24 a30 a31 a32 a33 a34 a40 a41 a42 a43 a44 := by
  unfold dt5
  grind
set_option maxHeartbeats 20000000 in
theorem dt5_sc0 (a00 a01 a02 a03 a04 a10 a11 a12 a13 a14 a20 a21 a22 a23 a24 a30 a31 a32 a33 a34 a40 a41 a42 a43 a44 q : Int) : dt5 (q * a00) a01 a02 a03 a04 (q * a10) a11 a12 a13 a14 (q * a20) a21 a22 a23 a24 (q * a30) a31 a32 a33 a34 (q * a40) a41 a42 a43 a44 = q * dt5 a00 a01 a02 a03 a04 a10 a11 a12 a13 a14 a20 a21 a22 a23 a24 a30 a31 a32 a33 a34 a40 a41 a42 a43 a44 := by
  unfold dt5
  grind
set_option maxHeartbeats 20000000 in
theorem dt5_rep1 (a00 a01 a02 a03 a04 a10 a11 a12 a13 a14 a20 a21 a22 a23 a24 a30 a31 a32 a33 a34 a40 a41 a42 a43 a44 y0 y1 y2 y3 y4 : Int) : dt5 a00 (a00 * y0 + a01 * y1 + a02 * y2 + a03 * y3 + a04 * y4) a02 a03 a04 a10 (a10 * y0 + a11 * y1 + a12 * y2 + a13 * y3 + a14 * y4) a12 a13 a14 a20 (a20 * y0 + a21 * y1 + a22 * y2 + a23 * y3 + a24 * y4) a22 a23 a24 a30 (a30 * y0 + a31 * y1 + a32 * y2 + a33 * y3 + a34 * y4) a32 a33 a34 a40 (a40 * y0 + a41 * y1 + a42 * y2 + a43 * y3 + a44 * y4) a42 a43 a44 = y1 * dt5 a00 a01 a02 a03 a04 a10 a11 a12 a13 a14 a20 a21 a22 a23 a24 a30 a31 a32 a33 a34 a40 a41 a42 a43 a44 := by
  unfold dt5
  grind
set_option maxHeartbeats 20000000 in
theorem dt5_sc1 (a00 a01 a02 a03 a04 a10 a11 a12 a13 a14 a20 a21 a22 a23 a24 a30 a31 a32 a33 a34 a40 a41 a42 a43 a44 q : Int) : dt5 a00 (q * a01) a02 a03 a04 a10 (q * a11) a12 a13 a14 a20 (q * a21) a22 a23 a24 a30 (q * a31) a32 a33 a34 a40 (q * a41) a42 a43 a44 = q * dt5 a00 a01 a02 a03 a04 a10 a11 a12 a13 a14 a20 a21 a22 a23 a24 a30 a31 a32 a33 a34 a40 a41 a42 a43 a44 := by
  unfold dt5
  grind
set_option maxHeartbeats 20000000 in
theorem dt5_rep2 (a00 a01 a02 a03 a04 a10 a11 a12 a13 a14 a20 a21 a22 a23 a24 a30 a31 a32 a33 a34 a40 a41 a42 a43 a44 y0 y1 y2 y3 y4 : Int) : dt5 a00 a01 (a00 * y0 + a01 * y1 + a02 * y2 + a03 * y3 + a04 * y4) a03 a04 a10 a11 (a10 * y0 + a11 * y1 + a12 * y2 + a13 * y3 + a14 * y4) a13 a14 a20 a21 (a20 * y0 + a21 * y1 + a22 * y2 + a23 * y3 + a24 * y4) a23 a24 a30 a31 (a30 * y0 + a31 * y1 + a32 * y2 + a33 * y3 + a34 * y4) a33 a34 a40 a41 (a40 * y0 + a41 * y1 + a42 * y2 + a43 * y3 + a44 * y4) a43 a44 = y2 * dt5 a00 a01 a02 a03 a04 a10 a11 a12 a13 a14 a20 a21 a22 a23 a24 a30 a31 a32 a33 a34 a40 a41 a42 a43 a44 := by
  unfold dt5
  grind
set_option maxHeartbeats 20000000 in
theorem dt5_sc2 (a00 a01 a02 a03 a04 a10 a11 a12 a13 a14 a20 a21 a22 a23 a24 a30 a31 a32 a33 a34 a40 a41 a42 a43 a44 q : Int) : dt5 a00 a01 (q * a02) a03 a04 a10 a11 (q * a12) a13 a14 a20 a21 (q * a22) a23 a24 a30 a31 (q * a32) a33 a34 a40 a41 (q * a42) a43 a44 = q * dt5 a00 a01 a02 a03 a04 a10 a11 a12 a13 a14 a20 a21 a22 a23 a24 a30 a31 a32 a33 a34 a40 a41 a42 a43 a44 := by
  unfold dt5
  grind
set_option maxHeartbeats 20000000 in
theorem dt5_rep3 (a00 a01 a02 a03 a04 a10 a11 a12 a13 a14 a20 a21 a22 a23 a24 a30 a31 a32 a33 a34 a40 a41 a42 a43 a44 y0 y1 y2 y3 y4 : Int) : dt5 a00 a01 a02 (a00 * y0 + a01 * y1 + a02 * y2 + a03 * y3 + a04 * y4) a04 a10 a11 a12 (a10 * y0 + a11 * y1 + a12 * y2 + a13 * y3 + a14 * y4) a14 a20 a21 a22 (a20 * y0 + a21 * y1 + a22 * y2 + a23 * y3 + a24 * y4) a24 a30 a31 a32 (a30 * y0 + a31 * y1 + a32 * y2 + a33 * y3 + a34 * y4) a34 a40 a41 a42 (a40 * y0 + a41 * y1 + a42 * y2 + a43 * y3 + a44 * y4) a44 = y3 * dt5 a00 a01 a02 a03 a04 a10 a11 a12 a13 a14 a20 a21 a22 a23 a24 a30 a31 a32 a33 a34 a40 a41 a42 a43 a44 := by
  unfold dt5
  grind
set_option maxHeartbeats 20000000 in
theorem dt5_sc3 (a00 a01 a02 a03 a04 a10 a11 a12 a13 a14 a20 a21 a22 a23 a24 a30 a31 a32 a33 a34 a40 a41 a42 a43 a44 q : Int) : dt5 a00 a01 a02 (q * a03) a04 a10 a11 a12 (q * a13) a14 a20 a21 a22 (q * a23) a24 a30 a31 a32 (q * a33) a34 a40 a41 a42 (q * a43) a44 = q * dt5 a00 a01 a02 a03 a04 a10 a11 a12 a13 a14 a20 a21 a22 a23 a24 a30 a31 a32 a33 a34 a40 a41 a42 a43 a44 := by
  unfold dt5
  grind
set_option maxHeartbeats 20000000 in
theorem dt5_rep4 (a00 a01 a02 a03 a04 a10 a11 a12 a13 a14 a20 a21 a22 a23 a24 a30 a31 a32 a33 a34 a40 a41 a42 a43 a44 y0 y1 y2 y3 y4 : Int) : dt5 a00 a01 a02 a03 (a00 * y0 + a01 * y1 + a02 * y2 + a03 * y3 + a04 * y4) a10 a11 a12 a13 (a10 * y0 + a11 * y1 + a12 * y2 + a13 * y3 + a14 * y4) a20 a21 a22 a23 (a20 * y0 + a21 * y1 + a22 * y2 + a23 * y3 + a24 * y4) a30 a31 a32 a33 (a30 * y0 + a31 * y1 + a32 * y2 + a33 * y3 + a34 * y4) a40 a41 a42 a43 (a40 * y0 + a41 * y1 + a42 * y2 + a43 * y3 + a44 * y4) = y4 * dt5 a00 a01 a02 a03 a04 a10 a11 a12 a13 a14 a20 a21 a22 a23 a24 a30 a31 a32 a33 a34 a40 a41 a42 a43 a44 := by
  unfold dt5
  grind
set_option maxHeartbeats 20000000 in
theorem dt5_sc4 (a00 a01 a02 a03 a04 a10 a11 a12 a13 a14 a20 a21 a22 a23 a24 a30 a31 a32 a33 a34 a40 a41 a42 a43 a44 q : Int) : dt5 a00 a01 a02 a03 (q * a04) a10 a11 a12 a13 (q * a14) a20 a21 a22 a23 (q * a24) a30 a31 a32 a33 (q * a34) a40 a41 a42 a43 (q * a44) = q * dt5 a00 a01 a02 a03 a04 a10 a11 a12 a13 a14 a20 a21 a22 a23 a24 a30 a31 a32 a33 a34 a40 a41 a42 a43 a44 := by
  unfold dt5
  grind
theorem cram0 {m : Nat → Nat → Int} {b z : Nat → Int} {q : Int} (h : ∀ i, i < 5 → q * b i = zmv m z i) : q * det5 (zrep m 0 b) = z 0 * det5 m := by
  have e1 : q * det5 (zrep m 0 b) = dt5 (q * b 0) (m 0 1) (m 0 2) (m 0 3) (m 0 4) (q * b 1) (m 1 1) (m 1 2) (m 1 3) (m 1 4) (q * b 2) (m 2 1) (m 2 2) (m 2 3) (m 2 4) (q * b 3) (m 3 1) (m 3 2) (m 3 3) (m 3 4) (q * b 4) (m 4 1) (m 4 2) (m 4 3) (m 4 4) := (dt5_sc0 (b 0) (m 0 1) (m 0 2) (m 0 3) (m 0 4) (b 1) (m 1 1) (m 1 2) (m 1 3) (m 1 4) (b 2) (m 2 1) (m 2 2) (m 2 3) (m 2 4) (b 3) (m 3 1) (m 3 2) (m 3 3) (m 3 4) (b 4) (m 4 1) (m 4 2) (m 4 3) (m 4 4) q).symm
  rw [e1, h 0 (by omega), h 1 (by omega), h 2 (by omega), h 3 (by omega), h 4 (by omega)]
  exact dt5_rep0 (m 0 0) (m 0 1) (m 0 2) (m 0 3) (m 0 4) (m 1 0) (m 1 1) (m 1 2) (m 1 3) (m 1 4) (m 2 0) (m 2 1) (m 2 2) (m 2 3) (m 2 4) (m 3 0) (m 3 1) (m 3 2) (m 3 3) (m 3 4) (m 4 0) (m 4 1) (m 4 2) (m 4 3) (m 4 4) (z 0) (z 1) (z 2) (z 3) (z 4)
theorem cram1 {m : Nat → Nat → Int} {b z : Nat → Int} {q : Int} (h : ∀ i, i < 5 → q * b i = zmv m z i) : q * det5 (zrep m 1 b) = z 1 * det5 m := by
  have e1 : q * det5 (zrep m 1 b) = dt5 (m 0 0) (q * b 0) (m 0 2) (m 0 3) (m 0 4) (m 1 0) (q * b 1) (m 1 2) (m 1 3) (m 1 4) (m 2 0) (q * b 2) (m 2 2) (m 2 3) (m 2 4) (m 3 0) (q * b 3) (m 3 2) (m 3 3) (m 3 4) (m 4 0) (q * b 4) (m 4 2) (m 4 3) (m 4 4) := (dt5_sc1 (m 0 0) (b 0) (m 0 2) (m 0 3) (m 0 4) (m 1 0) (b 1) (m 1 2) (m 1 3) (m 1 4) (m 2 0) (b 2) (m 2 2) (m 2 3) (m 2 4) (m 3 0) (b 3) (m 3 2) (m 3 3) (m 3 4) (m 4 0) (b 4) (m 4 2) (m 4 3) (m 4 4) q).symm
  rw [e1, h 0 (by omega), h 1 (by omega), h 2 (by omega), h 3 (by omega), h 4 (by omega)]
  exact dt5_rep1 (m 0 0) (m 0 1) (m 0 2) (m 0 3) (m 0 4) (m 1 0) (m 1 1) (m 1 2) (m 1 3) (m 1 4) (m 2 0) (m 2 1) (m 2 2) (m 2 3) (m 2 4) (m 3 0) (m 3 1) (m 3 2) (m 3 3) (m 3 4) (m 4 0) (m 4 1) (m 4 2) (m 4 3) (m 4 4) (z 0) (z 1) (z 2) (z 3) (z 4)
theorem cram2 {m : Nat → Nat → Int} {b z : Nat → Int} {q : Int} (h : ∀ i, i < 5 → q * b i = zmv m z i) : q * det5 (zrep m 2 b) = z 2 * det5 m := by
  have e1 : q * det5 (zrep m 2 b) = dt5 (m 0 0) (m 0 1) (q * b 0) (m 0 3) (m 0 4) (m 1 0) (m 1 1) (q * b 1) (m 1 3) (m 1 4) (m 2 0) (m 2 1) (q * b 2) (m 2 3) (m 2 4) (m 3 0) (m 3 1) (q * b 3) (m 3 3) (m 3 4) (m 4 0) (m 4 1) (q * b 4) (m 4 3) (m 4 4) := (dt5_sc2 (m 0 0) (m 0 1) (b 0) (m 0 3) (m 0 4) (m 1 0) (m 1 1) (b 1) (m 1 3) (m 1 4) (m 2 0) (m 2 1) (b 2) (m 2 3) (m 2 4) (m 3 0) (m 3 1) (b 3) (m 3 3) (m 3 4) (m 4 0) (m 4 1) (b 4) (m 4 3) (m 4 4) q).symm
  rw [e1, h 0 (by omega), h 1 (by omega), h 2 (by omega), h 3 (by omega), h 4 (by omega)]
  exact dt5_rep2 (m 0 0) (m 0 1) (m 0 2) (m 0 3) (m 0 4) (m 1 0) (m 1 1) (m 1 2) (m 1 3) (m 1 4) (m 2 0) (m 2 1) (m 2 2) (m 2 3) (m 2 4) (m 3 0) (m 3 1) (m 3 2) (m 3 3) (m 3 4) (m 4 0) (m 4 1) (m 4 2) (m 4 3) (m 4 4) (z 0) (z 1) (z 2) (z 3) (z 4)
theorem cram3 {m : Nat → Nat → Int} {b z : Nat → Int} {q : Int} (h : ∀ i, i < 5 → q * b i = zmv m z i) : q * det5 (zrep m 3 b) = z 3 * det5 m := by
  have e1 : q * det5 (zrep m 3 b) = dt5 (m 0 0) (m 0 1) (m 0 2) (q * b 0) (m 0 4) (m 1 0) (m 1 1) (m 1 2) (q * b 1) (m 1 4) (m 2 0) (m 2 1) (m 2 2) (q * b 2) (m 2 4) (m 3 0) (m 3 1) (m 3 2) (q * b 3) (m 3 4) (m 4 0) (m 4 1) (m 4 2) (q * b 4) (m 4 4) := (dt5_sc3 (m 0 0) (m 0 1) (m 0 2) (b 0) (m 0 4) (m 1 0) (m 1 1) (m 1 2) (b 1) (m 1 4) (m 2 0) (m 2 1) (m 2 2) (b 2) (m 2 4) (m 3 0) (m 3 1) (m 3 2) (b 3) (m 3 4) (m 4 0) (m 4 1) (m 4 2) (b 4) (m 4 4) q).symm
  rw [e1, h 0 (by omega), h 1 (by omega), h 2 (by omega), h 3 (by omega), h 4 (by omega)]
  exact dt5_rep3 (m 0 0) (m 0 1) (m 0 2) (m 0 3) (m 0 4) (m 1 0) (m 1 1) (m 1 2) (m 1 3) (m 1 4) (m 2 0) (m 2 1) (m 2 2) (m 2 3) (m 2 4) (m 3 0) (m 3 1) (m 3 2) (m 3 3) (m 3 4) (m 4 0) (m 4 1) (m 4 2) (m 4 3) (m 4 4) (z 0) (z 1) (z 2) (z 3) (z 4)
theorem cram4 {m : Nat → Nat → Int} {b z : Nat → Int} {q : Int} (h : ∀ i, i < 5 → q * b i = zmv m z i) : q * det5 (zrep m 4 b) = z 4 * det5 m := by
  have e1 : q * det5 (zrep m 4 b) = dt5 (m 0 0) (m 0 1) (m 0 2) (m 0 3) (q * b 0) (m 1 0) (m 1 1) (m 1 2) (m 1 3) (q * b 1) (m 2 0) (m 2 1) (m 2 2) (m 2 3) (q * b 2) (m 3 0) (m 3 1) (m 3 2) (m 3 3) (q * b 3) (m 4 0) (m 4 1) (m 4 2) (m 4 3) (q * b 4) := (dt5_sc4 (m 0 0) (m 0 1) (m 0 2) (m 0 3) (b 0) (m 1 0) (m 1 1) (m 1 2) (m 1 3) (b 1) (m 2 0) (m 2 1) (m 2 2) (m 2 3) (b 2) (m 3 0) (m 3 1) (m 3 2) (m 3 3) (b 3) (m 4 0) (m 4 1) (m 4 2) (m 4 3) (b 4) q).symm
  rw [e1, h 0 (by omega), h 1 (by omega), h 2 (by omega), h 3 (by omega), h 4 (by omega)]
  exact dt5_rep4 (m 0 0) (m 0 1) (m 0 2) (m 0 3) (m 0 4) (m 1 0) (m 1 1) (m 1 2) (m 1 3) (m 1 4) (m 2 0) (m 2 1) (m 2 2) (m 2 3) (m 2 4) (m 3 0) (m 3 1) (m 3 2) (m 3 3) (m 3 4) (m 4 0) (m 4 1) (m 4 2) (m 4 3) (m 4 4) (z 0) (z 1) (z 2) (z 3) (z 4)
theorem cramer {m : Nat → Nat → Int} {b z : Nat → Int} {q : Int} (h : ∀ i, i < 5 → q * b i = zmv m z i) {j : Nat} (hj : j < 5) : q * det5 (zrep m j b) = z j * det5 m := by
  match j, hj with
  | 0, _ => exact cram0 h
  | 1, _ => exact cram1 h
  | 2, _ => exact cram2 h
  | 3, _ => exact cram3 h
  | 4, _ => exact cram4 h
  | j + 5, hj => omega
def zb01 (b : Bool) : Int := bif b then 1 else 0
set_option maxRecDepth 100000 in
set_option maxHeartbeats 20000000 in
theorem dt4_b : ∀ (b00 b01 b02 b03 b10 b11 b12 b13 b20 b21 b22 b23 b30 b31 b32 b33 : Bool), -3 ≤ dt4 (zb01 b00) (zb01 b01) (zb01 b02) (zb01 b03) (zb01 b10) (zb01 b11) (zb01 b12) (zb01 b13) (zb01 b20) (zb01 b21) (zb01 b22) (zb01 b23) (zb01 b30) (zb01 b31) (zb01 b32) (zb01 b33) ∧ dt4 (zb01 b00) (zb01 b01) (zb01 b02) (zb01 b03) (zb01 b10) (zb01 b11) (zb01 b12) (zb01 b13) (zb01 b20) (zb01 b21) (zb01 b22) (zb01 b23) (zb01 b30) (zb01 b31) (zb01 b32) (zb01 b33) ≤ 3 := by decide +kernel
theorem zb01_of {a : Int} (h : a = 0 ∨ a = 1) : ∃ b, a = zb01 b := by
  rcases h with rfl | rfl
  · exact ⟨false, rfl⟩
  · exact ⟨true, rfl⟩
theorem dt4_01 {a00 a01 a02 a03 a10 a11 a12 a13 a20 a21 a22 a23 a30 a31 a32 a33 : Int} (h00 : a00 = 0 ∨ a00 = 1) (h01 : a01 = 0 ∨ a01 = 1) (h02 : a02 = 0 ∨ a02 = 1) (h03 : a03 = 0 ∨ a03 = 1) (h10 : a10 = 0 ∨ a10 = 1) (h11 : a11 = 0 ∨ a11 = 1) (h12 : a12 = 0 ∨ a12 = 1) (h13 : a13 = 0 ∨ a13 = 1) (h20 : a20 = 0 ∨ a20 = 1) (h21 : a21 = 0 ∨ a21 = 1) (h22 : a22 = 0 ∨ a22 = 1) (h23 : a23 = 0 ∨ a23 = 1) (h30 : a30 = 0 ∨ a30 = 1) (h31 : a31 = 0 ∨ a31 = 1) (h32 : a32 = 0 ∨ a32 = 1) (h33 : a33 = 0 ∨ a33 = 1) : -3 ≤ dt4 a00 a01 a02 a03 a10 a11 a12 a13 a20 a21 a22 a23 a30 a31 a32 a33 ∧ dt4 a00 a01 a02 a03 a10 a11 a12 a13 a20 a21 a22 a23 a30 a31 a32 a33 ≤ 3 := by
  obtain ⟨b00, rfl⟩ := zb01_of h00
  obtain ⟨b01, rfl⟩ := zb01_of h01
  obtain ⟨b02, rfl⟩ := zb01_of h02
  obtain ⟨b03, rfl⟩ := zb01_of h03
  obtain ⟨b10, rfl⟩ := zb01_of h10
  obtain ⟨b11, rfl⟩ := zb01_of h11
  obtain ⟨b12, rfl⟩ := zb01_of h12
  obtain ⟨b13, rfl⟩ := zb01_of h13
  obtain ⟨b20, rfl⟩ := zb01_of h20
  obtain ⟨b21, rfl⟩ := zb01_of h21
  obtain ⟨b22, rfl⟩ := zb01_of h22
  obtain ⟨b23, rfl⟩ := zb01_of h23
  obtain ⟨b30, rfl⟩ := zb01_of h30
  obtain ⟨b31, rfl⟩ := zb01_of h31
  obtain ⟨b32, rfl⟩ := zb01_of h32
  obtain ⟨b33, rfl⟩ := zb01_of h33
  exact dt4_b b00 b01 b02 b03 b10 b11 b12 b13 b20 b21 b22 b23 b30 b31 b32 b33
theorem dt5_exp (a00 a01 a02 a03 a04 a10 a11 a12 a13 a14 a20 a21 a22 a23 a24 a30 a31 a32 a33 a34 a40 a41 a42 a43 a44 : Int) : dt5 a00 a01 a02 a03 a04 a10 a11 a12 a13 a14 a20 a21 a22 a23 a24 a30 a31 a32 a33 a34 a40 a41 a42 a43 a44 = a00 * dt4 a11 a12 a13 a14 a21 a22 a23 a24 a31 a32 a33 a34 a41 a42 a43 a44 - a01 * dt4 a10 a12 a13 a14 a20 a22 a23 a24 a30 a32 a33 a34 a40 a42 a43 a44 + a02 * dt4 a10 a11 a13 a14 a20 a21 a23 a24 a30 a31 a33 a34 a40 a41 a43 a44 - a03 * dt4 a10 a11 a12 a14 a20 a21 a22 a24 a30 a31 a32 a34 a40 a41 a42 a44 + a04 * dt4 a10 a11 a12 a13 a20 a21 a22 a23 a30 a31 a32 a33 a40 a41 a42 a43 := by
  unfold dt5 dt4
  rfl
def z01 (m : Nat → Nat → Int) : Prop := ∀ i j, i < 5 → j < 5 → m i j = 0 ∨ m i j = 1
theorem z01_mul {a d : Int} (ha : a = 0 ∨ a = 1) (h1 : -3 ≤ d) (h2 : d ≤ 3) : -3 ≤ a * d ∧ a * d ≤ 3 := by
  rcases ha with rfl | rfl <;> omega
theorem det5_01 {m : Nat → Nat → Int} (h : z01 m) : -15 ≤ det5 m ∧ det5 m ≤ 15 := by
  unfold det5
  rw [dt5_exp]
  have k0 := z01_mul (h 0 0 (by omega) (by omega)) (dt4_01 (h 1 1 (by omega) (by omega)) (h 1 2 (by omega) (by omega)) (h 1 3 (by omega) (by omega)) (h 1 4 (by omega) (by omega)) (h 2 1 (by omega) (by omega)) (h 2 2 (by omega) (by omega)) (h 2 3 (by omega) (by omega)) (h 2 4 (by omega) (by omega)) (h 3 1 (by omega) (by omega)) (h 3 2 (by omega) (by omega)) (h 3 3 (by omega) (by omega)) (h 3 4 (by omega) (by omega)) (h 4 1 (by omega) (by omega)) (h 4 2 (by omega) (by omega)) (h 4 3 (by omega) (by omega)) (h 4 4 (by omega) (by omega))).1 (dt4_01 (h 1 1 (by omega) (by omega)) (h 1 2 (by omega) (by omega)) (h 1 3 (by omega) (by omega)) (h 1 4 (by omega) (by omega)) (h 2 1 (by omega) (by omega)) (h 2 2 (by omega) (by omega)) (h 2 3 (by omega) (by omega)) (h 2 4 (by omega) (by omega)) (h 3 1 (by omega) (by omega)) (h 3 2 (by omega) (by omega)) (h 3 3 (by omega) (by omega)) (h 3 4 (by omega) (by omega)) (h 4 1 (by omega) (by omega)) (h 4 2 (by omega) (by omega)) (h 4 3 (by omega) (by omega)) (h 4 4 (by omega) (by omega))).2
  have k1 := z01_mul (h 0 1 (by omega) (by omega)) (dt4_01 (h 1 0 (by omega) (by omega)) (h 1 2 (by omega) (by omega)) (h 1 3 (by omega) (by omega)) (h 1 4 (by omega) (by omega)) (h 2 0 (by omega) (by omega)) (h 2 2 (by omega) (by omega)) (h 2 3 (by omega) (by omega)) (h 2 4 (by omega) (by omega)) (h 3 0 (by omega) (by omega)) (h 3 2 (by omega) (by omega)) (h 3 3 (by omega) (by omega)) (h 3 4 (by omega) (by omega)) (h 4 0 (by omega) (by omega)) (h 4 2 (by omega) (by omega)) (h 4 3 (by omega) (by omega)) (h 4 4 (by omega) (by omega))).1 (dt4_01 (h 1 0 (by omega) (by omega)) (h 1 2 (by omega) (by omega)) (h 1 3 (by omega) (by omega)) (h 1 4 (by omega) (by omega)) (h 2 0 (by omega) (by omega)) (h 2 2 (by omega) (by omega)) (h 2 3 (by omega) (by omega)) (h 2 4 (by omega) (by omega)) (h 3 0 (by omega) (by omega)) (h 3 2 (by omega) (by omega)) (h 3 3 (by omega) (by omega)) (h 3 4 (by omega) (by omega)) (h 4 0 (by omega) (by omega)) (h 4 2 (by omega) (by omega)) (h 4 3 (by omega) (by omega)) (h 4 4 (by omega) (by omega))).2
  have k2 := z01_mul (h 0 2 (by omega) (by omega)) (dt4_01 (h 1 0 (by omega) (by omega)) (h 1 1 (by omega) (by omega)) (h 1 3 (by omega) (by omega)) (h 1 4 (by omega) (by omega)) (h 2 0 (by omega) (by omega)) (h 2 1 (by omega) (by omega)) (h 2 3 (by omega) (by omega)) (h 2 4 (by omega) (by omega)) (h 3 0 (by omega) (by omega)) (h 3 1 (by omega) (by omega)) (h 3 3 (by omega) (by omega)) (h 3 4 (by omega) (by omega)) (h 4 0 (by omega) (by omega)) (h 4 1 (by omega) (by omega)) (h 4 3 (by omega) (by omega)) (h 4 4 (by omega) (by omega))).1 (dt4_01 (h 1 0 (by omega) (by omega)) (h 1 1 (by omega) (by omega)) (h 1 3 (by omega) (by omega)) (h 1 4 (by omega) (by omega)) (h 2 0 (by omega) (by omega)) (h 2 1 (by omega) (by omega)) (h 2 3 (by omega) (by omega)) (h 2 4 (by omega) (by omega)) (h 3 0 (by omega) (by omega)) (h 3 1 (by omega) (by omega)) (h 3 3 (by omega) (by omega)) (h 3 4 (by omega) (by omega)) (h 4 0 (by omega) (by omega)) (h 4 1 (by omega) (by omega)) (h 4 3 (by omega) (by omega)) (h 4 4 (by omega) (by omega))).2
  have k3 := z01_mul (h 0 3 (by omega) (by omega)) (dt4_01 (h 1 0 (by omega) (by omega)) (h 1 1 (by omega) (by omega)) (h 1 2 (by omega) (by omega)) (h 1 4 (by omega) (by omega)) (h 2 0 (by omega) (by omega)) (h 2 1 (by omega) (by omega)) (h 2 2 (by omega) (by omega)) (h 2 4 (by omega) (by omega)) (h 3 0 (by omega) (by omega)) (h 3 1 (by omega) (by omega)) (h 3 2 (by omega) (by omega)) (h 3 4 (by omega) (by omega)) (h 4 0 (by omega) (by omega)) (h 4 1 (by omega) (by omega)) (h 4 2 (by omega) (by omega)) (h 4 4 (by omega) (by omega))).1 (dt4_01 (h 1 0 (by omega) (by omega)) (h 1 1 (by omega) (by omega)) (h 1 2 (by omega) (by omega)) (h 1 4 (by omega) (by omega)) (h 2 0 (by omega) (by omega)) (h 2 1 (by omega) (by omega)) (h 2 2 (by omega) (by omega)) (h 2 4 (by omega) (by omega)) (h 3 0 (by omega) (by omega)) (h 3 1 (by omega) (by omega)) (h 3 2 (by omega) (by omega)) (h 3 4 (by omega) (by omega)) (h 4 0 (by omega) (by omega)) (h 4 1 (by omega) (by omega)) (h 4 2 (by omega) (by omega)) (h 4 4 (by omega) (by omega))).2
  have k4 := z01_mul (h 0 4 (by omega) (by omega)) (dt4_01 (h 1 0 (by omega) (by omega)) (h 1 1 (by omega) (by omega)) (h 1 2 (by omega) (by omega)) (h 1 3 (by omega) (by omega)) (h 2 0 (by omega) (by omega)) (h 2 1 (by omega) (by omega)) (h 2 2 (by omega) (by omega)) (h 2 3 (by omega) (by omega)) (h 3 0 (by omega) (by omega)) (h 3 1 (by omega) (by omega)) (h 3 2 (by omega) (by omega)) (h 3 3 (by omega) (by omega)) (h 4 0 (by omega) (by omega)) (h 4 1 (by omega) (by omega)) (h 4 2 (by omega) (by omega)) (h 4 3 (by omega) (by omega))).1 (dt4_01 (h 1 0 (by omega) (by omega)) (h 1 1 (by omega) (by omega)) (h 1 2 (by omega) (by omega)) (h 1 3 (by omega) (by omega)) (h 2 0 (by omega) (by omega)) (h 2 1 (by omega) (by omega)) (h 2 2 (by omega) (by omega)) (h 2 3 (by omega) (by omega)) (h 3 0 (by omega) (by omega)) (h 3 1 (by omega) (by omega)) (h 3 2 (by omega) (by omega)) (h 3 3 (by omega) (by omega)) (h 4 0 (by omega) (by omega)) (h 4 1 (by omega) (by omega)) (h 4 2 (by omega) (by omega)) (h 4 3 (by omega) (by omega))).2
  omega
theorem zrep_01 {m : Nat → Nat → Int} {b : Nat → Int} {j : Nat} (h : z01 m) (hb : ∀ i, i < 5 → b i = 0 ∨ b i = 1) : z01 (zrep m j b) := by
  intro i c hi hc
  unfold zrep
  split
  · exact hb i hi
  · exact h i c hi hc
