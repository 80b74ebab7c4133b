/-! drawing in: the board of a phase with the bound free -/
section PH
variable {s : zS} {n C R : Nat} {v : Nat → Int} {Fz : Nat → Prop} {tf : Nat → Rat} {E : Rat} {rs cs : Nat → Nat} {cell : Nat → Nat → Int} {idr idc : Nat → cW → Rat}
theorem col_proper {A : cW → Prop} (hd : dInv A R C cell idr idc) (hN : bN A (cRoom n v) R C rs cs idr idc) {j : Nat} (hj : j < C) (h0 : cs j ≠ 0) : cNm n (cs j) := by
  refine Classical.byContradiction fun e => ?_
  obtain ⟨w, a, hw⟩ := hd.2.2 (fun _ => 1)
  have h := hN.2.1 w a j hj h0
  rw [hw j hj] at h
  unfold cRoom at h
  rw [if_neg (show ¬ (1 ≤ cs j ∧ cs j < 2 ^ n - 1) from e)] at h
  exact absurd h (by decide)
/-- a row whose value is the same everywhere has no factors -/
theorem row_const {A : cW → Prop} (hd : dInv A R C cell idr idc) {r : Nat} (hr : r < R) {x : Rat} (h : ∀ w, A w → idr r w = x) : ∀ j, j < C → cell r (2 + j) = 0 := by
  intro j hj
  obtain ⟨w0, a0, e0⟩ := hd.2.2 (fun _ => 0)
  obtain ⟨w1, a1, e1⟩ := hd.2.2 (fun i => if i = j then 1 else 0)
  have f0 := hd.2.1 w0 a0 r hr
  have f1 := hd.2.1 w1 a1 r hr
  unfold rV at f0 f1
  rw [zsum_congr C (fun j hj => by rw [e0 j hj]), zsum_z, h w0 a0] at f0
  rw [zsum_congr C (fun j hj => by rw [e1 j hj]), zsum_ray hj, h w1 a1] at f1
  apply ratInt_inj
  rw [Rat.intCast_zero]
  grind
theorem row_flat {A : cW → Prop} (hd : dInv A R C cell idr idc) {r : Nat} (hr : r < R) (h : ∀ j, j < C → cell r (2 + j) = 0) {w0 w1 : cW} (a0 : A w0) (a1 : A w1) : idr r w0 = idr r w1 := by
  have f0 := hd.2.1 w0 a0 r hr
  have f1 := hd.2.1 w1 a1 r hr
  unfold rV at f0 f1
  rw [zsum_zero C (fun j hj => by rw [h j hj]; simp)] at f0 f1
  have hp := rat_pos (hd.1 r hr)
  have hne : (cell r 0 : Rat) ≠ 0 := fun e => by rw [e] at hp; exact absurd hp (by decide)
  exact rat_cancel hne (f0.trans f1.symm)
def vDrop (u : Nat → Int) (i : Nat) : Int := if i = 4 then 0 else u i
theorem vDrop_pm {u : Nat → Int} (h : pm1 u) : pm1 (vDrop u) := by
  obtain ⟨s, hs, h⟩ := h
  refine ⟨s, hs, fun i hi => ?_⟩
  unfold vDrop
  by_cases e : i = 4
  · rw [if_pos e]; left; simp
  · rw [if_neg e]; exact h i hi
theorem dot_lvl {u : Nat → Int} {x : Nat → Rat} {E e : Rat} (hn : n ≤ 4) : dot5 u (cX n (x, E)) = dot5 (vDrop u) (cX n (x, e)) + (u 4 : Rat) * E := by
  have t : ∀ i, i < 4 → (u i : Rat) * cX n (x, E) i = (vDrop u i : Rat) * cX n (x, e) i := fun i hi => by
    unfold vDrop cX
    rw [if_neg (show ¬ i = 4 by omega), if_neg (show ¬ i = 4 by omega), if_neg (show ¬ i = 4 by omega)]
  have t4 : (vDrop u 4 : Rat) * cX n (x, e) 4 = 0 := by
    show ((0 : Int) : Rat) * _ = 0
    simp
  unfold dot5
  rw [t 0 (by omega), t 1 (by omega), t 2 (by omega), t 3 (by omega), t4, cX_4 hn]
  grind
theorem dot_lvl0 {u : Nat → Int} {x : Nat → Rat} {E e : Rat} (hn : n ≤ 4) (h : u 4 = 0) : dot5 u (cX n (x, e)) = dot5 u (cX n (x, E)) := by
  have hu : vDrop u = u := by
    funext i
    unfold vDrop
    by_cases q : i = 4
    · rw [if_pos q, q, h]
    · rw [if_neg q]
  have := dot_lvl (u := u) (x := x) (E := E) (e := e) hn
  rw [hu, h] at this
  rw [this, Rat.intCast_zero]; grind
theorem cRoom_lvl {S : Nat} {x : Nat → Rat} {e E : Rat} (h : cNm n S) : cRoom n v S (x, E) = cRoom n v S (x, e) + (E - e) := by
  rw [cRoom_t h, cRoom_t h]
  dsimp only
  grind
theorem pm_4 {u : Nat → Int} (h : pm1 u) : u 4 = -1 ∨ u 4 = 0 ∨ u 4 = 1 := by
  obtain ⟨s, hs, h⟩ := h
  have := h 4 (by omega)
  rcases hs with rfl | rfl <;> omega
theorem nunit_pm (r : Nat) : pm1 (fun i => -zunit r i) := ⟨-1, Or.inr rfl, fun i _ => by
  unfold zunit
  dsimp only
  split <;> simp⟩
/-- the board with its new column -/
theorem ph_draw {Q V : Int} (hn2 : 2 ≤ n) (hn : n ≤ 4) (hC3 : C ≤ 3) (hV5 : 5000 ≤ V) (hfit : 2700 * (4 * Q * (4 * Q * (V + 2000))) < 4611686018427387904) (h : PS s n v Fz tf E C rs cs cell Q V) :
    ∃ (s1 s2 : zS) (idr2 idc2 : Nat → cW → Rat) (vr2 : Nat → Nat → Int) (kr2 : Nat → Rat) (M2 : Nat → Nat → Int) (kM2 : Nat → Rat), D_X0_releaseFlatRows s = some s1 ∧ D_X0_addDrawingIn s1 = some (n32 (C : Int), s2) ∧ bFrm s s2 ∧
    bI s2 (cD Fz tf) (n + 2 ^ n - 2) (C + 1) (relR C cell rs) (xSwap cs C 0) (drC C (relR C cell rs) cell) idr2 idc2 (cX n) vr2 kr2 M2 kM2 (4 * Q) (V + 2000) ∧
    bN (cD Fz tf) (cRoom n v) (n + 2 ^ n - 2) (C + 1) (relR C cell rs) (xSwap cs C 0) idr2 idc2 ∧ bF (n + 2 ^ n - 2) (relR C cell rs) (drC C (relR C cell rs) cell) ∧
    (idc2 C = fun w => E - w.2) ∧ (∀ j, j < C → cs j ≠ 0) ∧ (∀ r, r < n + 2 ^ n - 2 → relR C cell rs r ≠ 0 → vr2 r = cVec (relR C cell rs r) ∧ kr2 r = (v (relR C cell rs r) : Rat)) ∧ (∀ j, j < C → (fun i => M2 i j) = cVec (cs j) ∧ kM2 j = (v (cs j) : Rat)) ∧
    ((fun i => M2 i C) = (fun i => -zunit 4 i) ∧ kM2 C = -E) ∧ (∀ j, C + 1 ≤ j → j < 5 → M2 4 j = 0) ∧
    (∀ r, r < n → relR C cell rs r = 0 ∧ idr2 r = fun w => w.1 r) ∧ bP (fun S => cNm n S ∧ ¬ flatB (cB Fz tf) S) (n + 2 ^ n - 2) (C + 1) (relR C cell rs) (xSwap cs C 0) := by
  obtain ⟨idr, idc, vr, kr, M, kM, j1, hI, hN, hF, hc, hvr, hvc, hval, ⟨j11, j12, j13, j14, j15⟩, hP, hE, hFN, htN⟩ := h
  have hp := pow_le4 hn
  obtain ⟨e0, hd, hf, hg, hQ, hV, hb⟩ := id hI
  obtain ⟨s1, e1, f1, g1⟩ := b_release e0 (bI_small hI)
  obtain ⟨s2, e2, f2, g2⟩ := b_draw (show C < 4 by omega) g1
  obtain ⟨d1, d2, d3⟩ := id hd
  obtain ⟨F1, F2, F3, F4, F5, F6, F7, F8, F9, F10⟩ := hf
  have hrel : ∀ r, relR C cell rs r ≠ 0 → (¬ ∀ j, j < C → cell r (2 + j) = 0) ∧ relR C cell rs r = rs r ∧ rs r ≠ 0 := fun r h => by
    unfold relR at h ⊢
    by_cases q : ∀ j, j < C → cell r (2 + j) = 0
    · rw [if_pos q] at h; exact absurd rfl h
    · rw [if_neg q] at h ⊢; exact ⟨q, rfl, h⟩
  have hcp : ∀ j, j < C → cNm n (cs j) := fun j hj => col_proper hd hN hj (hc j hj)
  have hA : ∀ w : cW, cD Fz tf w → cA Fz tf E (w.1, E) := fun w hw => ⟨hw, rfl⟩
  have hrp : ∀ r, r < n + 2 ^ n - 2 → relR C cell rs r ≠ 0 → cNm n (rs r) := fun r hr h => by
    obtain ⟨k1, k2, k3⟩ := hrel r h
    refine Classical.byContradiction fun e => k1 (row_const hd hr (x := 0) (fun w a => ?_))
    rw [hN.1 w a r hr k3]
    unfold cRoom
    exact if_neg e
  have hS16 : ∀ S, cNm n S → S < 2 ^ n := fun S hS => by have := hS.2; omega
  obtain ⟨zE, zE1, -, -⟩ := F10 j1 j12
  rw [j14] at zE1
  have hzE : -(2000 * Q) ≤ zE ∧ zE ≤ 2000 * Q := by
    have hQr : (0 : Rat) ≤ (Q : Rat) := rat_nn (by omega)
    have a1 := Rat.mul_le_mul_of_nonneg_left hE.1 hQr
    have a2 := Rat.mul_le_mul_of_nonneg_left hE.2 hQr
    rw [zE1] at a1 a2
    have b1 : (((Q * -2000 : Int)) : Rat) ≤ (zE : Rat) := by push_cast; exact a1
    have b2 : (zE : Rat) ≤ (((Q * 2000 : Int)) : Rat) := by push_cast; exact a2
    have c1 := Rat.intCast_le_intCast.mp b1
    have c2 := Rat.intCast_le_intCast.mp b2
    omega
  have hdr0 : ∀ r, drC C (relR C cell rs) cell r 0 = cell r 0 := fun r => by unfold drC; rw [if_neg (by omega)]
  have hdr1 : ∀ r, drC C (relR C cell rs) cell r 1 = cell r 1 := fun r => by unfold drC; rw [if_neg (by omega)]
  have hdrj : ∀ r j, j < C → drC C (relR C cell rs) cell r (2 + j) = cell r (2 + j) := fun r j hj => by unfold drC; rw [if_neg (by omega)]
  have hdrC : ∀ r, drC C (relR C cell rs) cell r (2 + C) = drF C (relR C cell rs) cell r := fun r => by unfold drC; rw [if_pos rfl]
  have hzs : ∀ j, j < C → zswp C j1 j = j := fun j hj => zswp_fix (by omega) (by omega)
  have hzC : zswp C j1 C = j1 := by unfold zswp; rw [if_pos rfl]
  have hz5 : ∀ j, j < 5 → zswp C j1 j < 5 := fun j hj => (zswp_lt (by omega) j12).mpr hj
  have hzo : ∀ j, C + 1 ≤ j → j < 5 → C ≤ zswp C j1 j ∧ zswp C j1 j ≠ j1 := fun j h1 h2 => by
    unfold zswp
    (repeat' split) <;> omega
  have hdet := det5_swp (a := C) (b := j1) (by omega) j12 F7
  have hEz : ∀ u z : Int, (u = -1 ∨ u = 0 ∨ u = 1) → -(Q * V) ≤ z → z ≤ Q * V → -(4 * Q * (V + 2000)) ≤ 4 * z - 4 * u * zE ∧ 4 * z - 4 * u * zE ≤ 4 * Q * (V + 2000) := fun u z hu h1 h2 => by
    have e : 4 * Q * (V + 2000) = 4 * (Q * V) + 8000 * Q := by grind
    rw [e]
    rcases hu with rfl | rfl | rfl <;> omega
  have hsum : ∀ w : cW, ∀ r, zsum C (fun j => (cell r (2 + j) : Rat) * cRoom n v (cs j) (w.1, E)) = zsum C (fun j => (cell r (2 + j) : Rat) * cRoom n v (cs j) w) + ((isum C (fun j => cell r (2 + j)) : Int) : Rat) * (E - w.2) := fun w r => by
    rw [isum_rat, ← zsum_mulr, ← zsum_add]
    refine zsum_congr C (fun j hj => ?_)
    have := cRoom_lvl (v := v) (x := w.1) (e := w.2) (E := E) (hcp j hj)
    rw [this]
    grind
  refine ⟨s1, s2, fun r w => if relR C cell rs r = 0 then idr r (w.1, E) else cRoom n v (relR C cell rs r) w, fun j w => if j < C then cRoom n v (cs j) w else E - w.2, fun r => if relR C cell rs r = 0 then vDrop (vr r) else vr r, fun r => if relR C cell rs r = 0 then kr r - (vr r 4 : Rat) * E else kr r, zrep (fun i j => M i (zswp C j1 j)) C (fun i => -zunit 4 i), fun j => if j = C then -E else kM (zswp C j1 j), e1, e2, bFrm_t f1 f2, ⟨g2, ⟨fun r hr => by rw [hdr0]; exact d1 r hr, fun w hw r hr => ?_, fun t => ?_⟩, ⟨by omega, fun w hw r hr => ?_, fun w hw j hj => ?_, fun w hw j hj1 hj2 => ?_, fun r hr => ?_, fun j hj => ?_, ?_, by omega, fun r hr => ?_, fun j hj => ?_⟩, fun r hr => ?_, by omega, by omega, hfit⟩, ⟨fun w hw r hr hne => if_neg hne, fun w hw j hj hne => ?_, fun j j' hj hj' hne e => ?_, fun r r' hr hr' hne e => ?_, fun r j hr hj hne e => ?_⟩, fun r hr hne => ?_, ?_, hc, fun r hr hne => ?_, fun j hj => ?_, ⟨?_, if_pos rfl⟩, fun j hj1 hj2 => ?_, fun r hr => ?_, fun S hS => ?_⟩
  · -- the rows
    have h0 := d2 (w.1, E) (hA w hw) r hr
    unfold rV at h0 ⊢
    rw [zsum_congr C (fun j hj => by rw [hN.2.1 (w.1, E) (hA w hw) j hj (hc j hj)]), hsum] at h0
    rw [hdr0, hdr1, zsum, hdrC]
    dsimp only
    rw [if_neg (Nat.lt_irrefl C), zsum_congr C (g := fun j => (cell r (2 + j) : Rat) * cRoom n v (cs j) w) (fun j hj => by rw [hdrj r j hj, if_pos hj])]
    unfold drF
    by_cases e : relR C cell rs r = 0
    · rw [if_pos e, if_pos e, h0, Int.zero_add]
    · rw [if_neg e, if_neg e]
      have hpr := hrp r hr e
      have hidr := hN.1 (w.1, E) (hA w hw) r hr (hrel r e).2.2
      rw [hidr, cRoom_lvl (e := w.2) hpr] at h0
      rw [(hrel r e).2.1]
      push_cast
      have e3 : cRoom n v (rs r) (w.1, w.2) = cRoom n v (rs r) w := rfl
      rw [e3] at h0
      grind
  · obtain ⟨w, a, hw⟩ := d3 (fun j => t j + t C)
    refine ⟨(w.1, E - t C), a.1, fun j hj => ?_⟩
    dsimp only
    by_cases e : j < C
    · rw [if_pos e]
      have h1 := hN.2.1 w a j e (hc j e)
      rw [hw j e] at h1
      have h2 : cRoom n v (cs j) w = cRoom n v (cs j) (w.1, E) := by
        have : w = (w.1, E) := by rw [← a.2]
        rw [← this]
      rw [h2, cRoom_lvl (e := E - t C) (hcp j e)] at h1
      grind
    · rw [if_neg e, show j = C by omega]; grind
  · dsimp only
    by_cases e : relR C cell rs r = 0
    · rw [if_pos e, if_pos e, if_pos e]
      have h1 := F2 (w.1, E) (hA w hw) r hr
      rw [h1, dot_lvl (e := w.2) hn]; grind
    · rw [if_neg e, if_neg e, if_neg e]
      obtain ⟨k1, k2⟩ := hvr r hr (hrel r e).2.2
      rw [(hrel r e).2.1, cRoom_t (hrp r hr e), k1, k2, cVec_dot hn (hS16 _ (hrp r hr e))]; grind
  · dsimp only
    by_cases e : j < C
    · rw [if_pos e, if_neg (by omega), hzs j e, show (fun i => zrep (fun i j => M i (zswp C j1 j)) C (fun i => -zunit 4 i) i j) = fun i => M i j by funext i; unfold zrep; rw [if_neg (by omega)]; dsimp only; rw [hzs j e], (hvc j e).1, (hvc j e).2, cRoom_t (hcp j e), cVec_dot hn (hS16 _ (hcp j e))]; grind
    · obtain rfl : j = C := by omega
      rw [if_neg e, if_pos rfl, show (fun i => zrep (fun i k => M i (zswp j j1 k)) j (fun i => -zunit 4 i) i j) = fun i => -zunit 4 i by funext i; unfold zrep; rw [if_pos rfl]]
      have h4 : dot5 (fun i => -zunit 4 i) (cX n w) = -dot5 (zunit 4) (cX n w) := by unfold dot5; push_cast; grind
      rw [h4, zunit_dot (by omega), cX_4 hn]; grind
  · dsimp only
    obtain ⟨k1, k2⟩ := hzo j hj1 hj2
    rw [if_neg (by omega), show (fun i => zrep (fun i j => M i (zswp C j1 j)) C (fun i => -zunit 4 i) i j) = fun i => M i (zswp C j1 j) by funext i; unfold zrep; rw [if_neg (by omega)]]
    have h1 := F4 (w.1, E) (hA w hw) (zswp C j1 j) k1 (hz5 j hj2)
    rw [← h1]
    exact dot_lvl0 (E := E) (e := w.2) hn (j15 _ k1 (hz5 j hj2) k2)
  · dsimp only
    by_cases e : relR C cell rs r = 0
    · rw [if_pos e]; exact vDrop_pm (F5 r hr)
    · rw [if_neg e]; exact F5 r hr
  · exact zrep_pm (fun k hk => F6 _ (hz5 k hk)) (nunit_pm 4) j hj
  · have hcr := cramR (m := fun i j => M i (zswp C j1 j)) (b := fun i => -zunit 4 i) (x := fun k => if k = C then -1 else 0) (fun i hi => by
      have hci : M i (zswp C j1 C) = zunit 4 i := by rw [hzC]; exact congrFun j13 i
      rw [← zsum_sum5 (n := 5) (by omega) (fun c h1 h2 => by omega), zsum_single (c := C) (by omega) (fun j _ hj => by rw [if_neg hj]; grind), if_pos rfl]
      rw [hci]; push_cast; grind) (show C < 5 by omega)
    intro q
    rw [q, if_pos rfl] at hcr
    have : ((det5 (fun i j => M i (zswp C j1 j)) : Int) : Rat) = 0 := by
      rw [Rat.intCast_zero] at hcr; grind
    exact hdet (ratInt_inj (by rw [this]; rfl))
  · obtain ⟨z, z1, z2, z3⟩ := F9 r hr
    dsimp only
    by_cases e : relR C cell rs r = 0
    · have hb2 := hEz (vr r 4) z (pm_4 (F5 r hr)) z2 z3
      refine ⟨4 * z - 4 * vr r 4 * zE, ?_, hb2.1, hb2.2⟩
      rw [if_pos e]
      push_cast
      rw [← z1, ← zE1]; grind
    · have hb2 := hEz 0 z (by omega) z2 z3
      refine ⟨4 * z - 4 * 0 * zE, ?_, hb2.1, hb2.2⟩
      rw [if_neg e]
      push_cast
      rw [← z1]; grind
  · dsimp only
    by_cases e : j = C
    · have hb2 := hEz 1 0 (by omega) (by have := F8; have := Int.mul_nonneg (show (0 : Int) ≤ Q by omega) (show (0 : Int) ≤ V by omega); omega) (Int.mul_nonneg (by omega) (by omega))
      refine ⟨4 * 0 - 4 * 1 * zE, ?_, hb2.1, hb2.2⟩
      rw [if_pos e]
      push_cast
      rw [← zE1]; grind
    · obtain ⟨z, z1, z2, z3⟩ := F10 _ (hz5 j hj)
      have hb2 := hEz 0 z (by omega) z2 z3
      refine ⟨4 * z - 4 * 0 * zE, ?_, hb2.1, hb2.2⟩
      rw [if_neg e]
      push_cast
      rw [← z1]; grind
  · have hgr := hg r hr
    have hcl := d1 r hr
    rw [hdr0, hdr1]
    have hQV : 90 * (Q * V) ≤ 90 * (4 * Q * (V + 2000)) := by
      have e : 4 * Q * (V + 2000) = 4 * (Q * V) + 8000 * Q := by grind
      have := Int.mul_nonneg (show (0 : Int) ≤ Q by omega) (show (0 : Int) ≤ V by omega)
      omega
    refine ⟨by omega, by omega, fun j hj => ?_⟩
    by_cases e : j < C
    · rw [hdrj r j e]
      have := hgr.2.2 j e
      omega
    · rw [show j = C by omega, hdrC]
      have hi : -(15 * Q * C) ≤ isum C (fun j => cell r (2 + j)) ∧ isum C (fun j => cell r (2 + j)) ≤ 15 * Q * C := by
        have hc4 : C = 0 ∨ C = 1 ∨ C = 2 ∨ C = 3 := by omega
        have h0 := hgr.2.2
        rcases hc4 with rfl | rfl | rfl | rfl
        · simp [isum]
        · have a0 := h0 0 (by omega)
          simp only [isum]; omega
        · have a0 := h0 0 (by omega)
          have a1 := h0 1 (by omega)
          simp only [isum]; omega
        · have a0 := h0 0 (by omega)
          have a1 := h0 1 (by omega)
          have a2 := h0 2 (by omega)
          simp only [isum]; omega
      have hc45 : 15 * Q * (C : Int) ≤ 45 * Q := by
        have : (Q : Int) * (C : Int) ≤ Q * 3 := Int.mul_le_mul_of_nonneg_left (by omega) (by omega)
        have e : 15 * Q * (C : Int) = 15 * (Q * (C : Int)) := by grind
        omega
      unfold drF
      split <;> omega
  · dsimp only
    by_cases e : j = C
    · rw [e, xSwap_s] at hne; exact absurd rfl hne
    · rw [if_pos (by omega), xSwap_n e]
  · by_cases q : j = C
    · rw [q, xSwap_s] at hne; exact absurd rfl hne
    · rw [xSwap_n q] at hne e
      by_cases q2 : j' = C
      · rw [q2, xSwap_s] at e; exact absurd e hne
      · rw [xSwap_n q2] at e
        exact hN.2.2.1 j j' (by omega) (by omega) hne e
  · have k1 := hrel r hne
    have k2 := hrel r' (by rw [← e]; exact hne)
    rw [k1.2.1, k2.2.1] at e
    exact hN.2.2.2.1 r r' hr hr' k1.2.2 e
  · have k1 := hrel r hne
    by_cases q : j = C
    · rw [q, xSwap_s] at e; exact hne e
    · rw [xSwap_n q, k1.2.1] at e
      exact hN.2.2.2.2 r j hr (by omega) k1.2.2 e
  · rw [hdr1]; exact hF r hr (hrel r hne).2.2
  · funext w
    exact if_neg (Nat.lt_irrefl C)
  · dsimp only
    rw [if_neg hne, if_neg hne, (hrel r hne).2.1]
    exact hvr r hr (hrel r hne).2.2
  · dsimp only
    rw [if_neg (by omega), hzs j hj, show (fun i => zrep (fun i j => M i (zswp C j1 j)) C (fun i => -zunit 4 i) i j) = fun i => M i j by funext i; unfold zrep; rw [if_neg (by omega)]; dsimp only; rw [hzs j hj]]
    exact hvc j hj
  · funext i; unfold zrep; rw [if_pos rfl]
  · obtain ⟨k1, k2⟩ := hzo j hj1 hj2
    unfold zrep
    rw [if_neg (by omega)]
    exact j15 _ k1 (hz5 j hj2) k2
  · obtain ⟨k1, k2⟩ := hval r hr
    have e : relR C cell rs r = 0 := by unfold relR; rw [k1]; split <;> rfl
    refine ⟨e, ?_⟩
    funext w
    dsimp only
    rw [if_pos e, k2]
  · rcases hP S hS with ⟨r, hr, e⟩ | ⟨j, hj, e⟩
    · refine Or.inl ⟨r, hr, ?_⟩
      unfold relR
      rw [if_neg, e]
      intro hz
      refine hS.2 (fun x y hx hy => ?_)
      have hne : rs r ≠ 0 := by rw [e]; have := hS.1.1; omega
      have h1 := row_flat hd hr hz (w0 := (x, E)) (w1 := (y, E)) ⟨hx, rfl⟩ ⟨hy, rfl⟩
      rw [hN.1 _ ⟨hx, rfl⟩ r hr hne, hN.1 _ ⟨hy, rfl⟩ r hr hne, e, cRoom_t hS.1, cRoom_t hS.1] at h1
      dsimp only at h1
      grind
    · exact Or.inr ⟨j, by omega, by rw [xSwap_n (by omega)]; exact e⟩
end PH
