/-! the least pay of both is one number -/
theorem zsum_z {C : Nat} {f : Nat → Rat} : zsum C (fun j => f j * 0) = 0 := zsum_zero C (fun j _ => by grind)
/-- the end of the least pay's drive: a point that satisfies all, and a cover -/
theorem lp_dual {n : Nat} {v : Nat → Int} {R : Nat} {rs cs : Nat → Nat} {cell : Nat → Nat → Int} {idr idc : Nat → (Nat → Rat) → Rat} (hn1 : 1 ≤ n) (hn : n ≤ 4) (hR : n < R) (hd : dInv (fun _ : Nat → Rat => True) R n cell idr idc) (hN : bN (fun _ : Nat → Rat => True) (lpRoom n v) R n rs cs idr idc) (hF : bF R rs cell) (hP : bP (lpNm n) R n rs cs) (hc : ∀ j, j < n → cs j ≠ 0) (hid : idr n = fun w => xS w (2 ^ n - 1)) (hop : ∀ j, j < n → 0 ≤ cell n (2 + j)) :
    (∀ j, j < n → lpNm n (cs j)) ∧ (∃ w, (∀ S, lpNm n S → (v S : Rat) ≤ xS w S) ∧ zsum n w = (cell n 1 : Rat) / (cell n 0 : Rat)) ∧ payVal n v cs ((cell n 1 : Rat) / (cell n 0 : Rat)) := by
  obtain ⟨d1, d2, d3⟩ := hd
  obtain ⟨n1, n2, n3, n4, n5⟩ := hN
  have hb0 : (0 : Rat) < (cell n 0 : Rat) := rat_pos (d1 n hR)
  have hbne : (cell n 0 : Rat) ≠ 0 := fun e => by rw [e] at hb0; exact absurd hb0 (by decide)
  have hcn : ∀ j, j < n → lpNm n (cs j) := fun j hj => by
    by_cases e : lpNm n (cs j)
    · exact e
    · exfalso
      obtain ⟨w, -, hw⟩ := d3 (fun _ => 1)
      have h := n2 w trivial j hj (hc j hj)
      rw [hw j hj] at h
      unfold lpRoom at h
      rw [if_neg (show ¬ (1 ≤ cs j ∧ cs j < 2 ^ n) from e)] at h
      exact absurd h (by decide)
  have hc2 : ∀ j, j < n → cs j < 2 ^ n := fun j hj => (hcn j hj).2
  have hcol : ∀ w j, j < n → idc j w = xS w (cs j) - (v (cs j) : Rat) := fun w j hj => by rw [n2 w trivial j hj (hc j hj), lpRoom_t (hcn j hj)]
  have hrow : ∀ w, (cell n 0 : Rat) * xS w (2 ^ n - 1) = (cell n 1 : Rat) + zsum n (fun j => (cell n (2 + j) : Rat) * (xS w (cs j) - (v (cs j) : Rat))) := fun w => by
    have h := d2 w trivial n hR
    rw [hid] at h
    rw [h]
    unfold rV
    rw [zsum_congr n (fun j hj => by rw [hcol w j hj])]
  refine ⟨hcn, ?_, ?_⟩
  · obtain ⟨w, -, hw⟩ := d3 (fun _ => 0)
    refine ⟨w, fun S hS => ?_, ?_⟩
    · rcases hP S hS with ⟨r, hr, e⟩ | ⟨j, hj, e⟩
      · have h := d2 w trivial r hr
        unfold rV at h
        rw [zsum_congr n (fun j hj => by rw [hw j hj]), zsum_z] at h
        have hne : rs r ≠ 0 := by rw [e]; have := hS.1; omega
        have hval := n1 w trivial r hr hne
        rw [e, lpRoom_t hS] at hval
        have hpos : (0 : Rat) < (cell r 0 : Rat) := rat_pos (d1 r hr)
        have h1 : (0 : Rat) ≤ (cell r 1 : Rat) := rat_nn (hF r hr hne)
        rw [hval] at h
        have h2 : (0 : Rat) ≤ (cell r 0 : Rat) * (xS w S - (v S : Rat)) := by rw [h]; grind
        have h3 : (0 : Rat) ≤ xS w S - (v S : Rat) := by
          by_cases e2 : (0 : Rat) ≤ xS w S - (v S : Rat)
          · exact e2
          · have := (Rat.mul_neg_iff_of_pos_left hpos).mpr (Rat.not_le.mp e2)
            grind
        grind
      · have h := hcol w j hj
        rw [hw j hj, e] at h
        grind
    · rw [← xS_all hn]
      have h := hrow w
      rw [zsum_congr n (fun j hj => by rw [← hcol w j hj, hw j hj]), zsum_z] at h
      have h5 := Rat.div_mul_cancel (a := (cell n 1 : Rat)) hbne
      refine rat_cancel hbne ?_
      grind
  · have hz : ∀ w0 w1, (∀ i, i < 4 → w0 i = w1 i) → ∀ S, xS w0 S = xS w1 S := fun w0 w1 h S => by
      unfold xS
      rw [h 0 (by omega), h 1 (by omega), h 2 (by omega), h 3 (by omega)]
    have hw0 := hrow (fun _ => 0)
    have xz : ∀ S, xS (fun _ => 0) S = 0 := fun S => by unfold xS; grind
    rw [xz, zsum_congr n (fun j hj => by rw [xz])] at hw0
    have hunit : ∀ i S, i < 4 → xS (fun k => if k = i then 1 else 0) S = (((hb S i : Nat) : Int) : Rat) := fun i S hi => by
      unfold xS
      match i, hi with
      | 0, _ | 1, _ | 2, _ | 3, _ => simp <;> grind
      | i + 4, h => omega
    have hNb : ∀ n, n < 5 → ∀ i, i < 4 → hb (2 ^ n - 1) i = if i < n then 1 else 0 := by decide +kernel
    have hx0 : ∀ c, c < n → (0 : Rat) ≤ (cell n (2 + c) : Rat) / (cell n 0 : Rat) := fun c hc => by
      rw [Rat.div_def]
      exact Rat.mul_nonneg (rat_nn (hop c hc)) (Rat.le_of_lt (Rat.inv_pos.mpr hb0))
    refine ⟨fun c => if c < n then (cell n (2 + c) : Rat) / (cell n 0 : Rat) else 0, fun c => ?_, fun c hc => if_neg (by omega), fun i hi => ?_, fun y hy h0 => ?_, ?_⟩
    · show (0 : Rat) ≤ if c < n then (cell n (2 + c) : Rat) / (cell n 0 : Rat) else 0
      by_cases e : c < n
      · rw [if_pos e]; exact hx0 c e
      · rw [if_neg e]; exact Rat.le_refl
    · rw [← zsum_sum5 (n := n) (by omega) (fun c h1 h2 => by (try dsimp only); rw [if_neg (by omega)]; grind)]
      by_cases e : i < n
      · rw [if_pos e]
        have h := hrow (fun k => if k = i then 1 else 0)
        rw [hunit i _ (by omega), hNb n (by omega) i (by omega), if_pos e, zsum_congr n (fun j hj => by rw [hunit i _ (by omega)])] at h
        have t : zsum n (fun j => (cell n (2 + j) : Rat) * ((((hb (cs j) i : Nat) : Int) : Rat) - (v (cs j) : Rat))) = zsum n (fun j => (cell n (2 + j) : Rat) * (0 - (v (cs j) : Rat))) + zsum n (fun j => (cell n (2 + j) : Rat) * (((hb (cs j) i : Nat) : Int) : Rat)) := by
          rw [← zsum_add]
          exact zsum_congr n (fun j hj => by grind)
        rw [t] at h
        have t2 : zsum n (fun c => (lpMx n cs i c : Rat) * if c < n then (cell n (2 + c) : Rat) / (cell n 0 : Rat) else 0) = (cell n 0 : Rat)⁻¹ * zsum n (fun j => (cell n (2 + j) : Rat) * (((hb (cs j) i : Nat) : Int) : Rat)) := by
          rw [← zsum_mul]
          refine zsum_congr n (fun c hc => ?_)
          rw [if_pos hc]
          unfold lpMx
          rw [if_pos ⟨e, hc⟩, Rat.div_def]
          grind
        rw [t2]
        have h3 : zsum n (fun j => (cell n (2 + j) : Rat) * (((hb (cs j) i : Nat) : Int) : Rat)) = (cell n 0 : Rat) := by
          simp at h hw0
          grind
        rw [h3]
        exact (Rat.inv_mul_cancel _ hbne).symm
      · rw [if_neg e]
        refine (zsum_zero n (fun c hc => ?_)).symm
        unfold lpMx
        rw [if_neg (fun x => e x.1)]
        simp
    · have hn5 : n ≤ 5 := by omega
      have key : ∀ w, zsum n (fun j => y j * idc j w) = -zsum n (fun j => y j * (v (cs j) : Rat)) := fun w => by
        have e1 : zsum n (fun j => y j * idc j w) = zsum n (fun j => y j * xS w (cs j)) - zsum n (fun j => y j * (v (cs j) : Rat)) := by
          rw [← zsum_sub]
          exact zsum_congr n (fun j hj => by rw [hcol w j hj]; grind)
        have e2 : zsum n (fun j => y j * xS w (cs j)) = sum5 (fun c => xS w (cs c) * (if c < n then y c else 0)) := by
          rw [← zsum_sum5 hn5 (fun c h1 h2 => by (try dsimp only); rw [if_neg (by omega)]; grind)]
          exact zsum_congr n (fun j hj => by rw [if_pos hj]; grind)
        have e3 := xS_cover (n := n) (p := cs) (x := fun c => if c < n then y c else 0) (w := w) (r := fun _ => 0) hn hc2 (fun c h1 => if_neg (by omega)) (fun i hi => by
          refine (h0 i (by omega)).symm.trans (sum5_congr fun c hc => ?_)
          by_cases e : c < n
          · rw [if_pos e]
          · rw [hy c (by omega) hc, if_neg e])
        rw [e1, e2, e3]
        rw [zsum_zero n (fun i _ => by grind)]
        grind
      intro c hc5
      by_cases e : c < n
      · obtain ⟨w0, -, hw0'⟩ := d3 (fun _ => 0)
        obtain ⟨w1, -, hw1'⟩ := d3 (fun j => if j = c then 1 else 0)
        have k0 := key w0
        have k1 := key w1
        rw [zsum_congr n (fun j hj => by rw [hw0' j hj]), zsum_z] at k0
        rw [zsum_congr n (fun j hj => by rw [hw1' j hj]), zsum_ray e] at k1
        grind
      · exact hy c (by omega) hc5
    · rw [← zsum_sum5 (n := n) (by omega) (fun c h1 h2 => by (try dsimp only); rw [if_neg (by omega)]; grind)]
      have t2 : zsum n (fun c => (v (cs c) : Rat) * if c < n then (cell n (2 + c) : Rat) / (cell n 0 : Rat) else 0) = (cell n 0 : Rat)⁻¹ * zsum n (fun j => (cell n (2 + j) : Rat) * (v (cs j) : Rat)) := by
        rw [← zsum_mul]
        refine zsum_congr n (fun c hc => ?_)
        rw [if_pos hc, Rat.div_def]
        grind
      rw [t2]
      have t3 : zsum n (fun j => (cell n (2 + j) : Rat) * (0 - (v (cs j) : Rat))) = -zsum n (fun j => (cell n (2 + j) : Rat) * (v (cs j) : Rat)) := by
        have : zsum n (fun j => (cell n (2 + j) : Rat) * (0 - (v (cs j) : Rat))) = zsum n (fun j => (-1 : Rat) * ((cell n (2 + j) : Rat) * (v (cs j) : Rat))) := zsum_congr n (fun j hj => by grind)
        rw [this, zsum_mul]; grind
      rw [t3] at hw0
      rw [Rat.div_def]
      grind
/-- the least that all together can have where each set has its worth -/
def leastP (n : Nat) (v : Nat → Int) (L : Rat) : Prop := (∃ w, (∀ S, lpNm n S → (v S : Rat) ≤ xS w S) ∧ zsum n w = L) ∧ ∀ w, (∀ S, lpNm n S → (v S : Rat) ≤ xS w S) → L ≤ zsum n w
theorem payVal_le {n : Nat} {v : Nat → Int} {q : Nat → Nat} {t : Rat} {w : Nat → Rat} (hn : n ≤ 4) (hq : ∀ k, k < n → lpNm n (q k)) (h : payVal n v q t) (hw : ∀ S, lpNm n S → (v S : Rat) ≤ xS w S) : t ≤ zsum n w := by
  obtain ⟨x, x1, x2, x3, x4, x5⟩ := h
  have e := xS_cover (w := w) (r := fun _ => 1) hn (fun k hk => (hq k hk).2) x2 (fun i hi => by have := x3 i (by omega); rw [if_pos hi] at this; exact this)
  rw [zsum_congr n (fun i hi => show w i * 1 = w i by grind)] at e
  rw [← e, x5]
  have t : ∀ c, (v (q c) : Rat) * x c ≤ xS w (q c) * x c := fun c => by
    by_cases e : c < n
    · exact Rat.mul_le_mul_of_nonneg_right (hw _ (hq c e)) (x1 c)
    · rw [x2 c (by omega)]; grind
  have t0 := t 0
  have t1 := t 1
  have t2 := t 2
  have t3 := t 3
  have t4 := t 4
  unfold sum5
  grind
theorem pay_sorted {n : Nat} {v : Nat → Int} {q : Nat → Nat} {t : Rat} (hn : n ≤ 4) (hq : ∀ k, k < n → lpNm n (q k)) (hi : ∀ a b, a < n → b < n → q a = q b → a = b) (h : payVal n v q t) : ∃ p, cInc n (2 ^ n - n) 1 p ∧ payVal n v p t := by
  have hp := pow_le4 hn
  obtain ⟨p, ⟨p1, p2⟩, p3⟩ := sort_ex (K := n) (P := fun q => payVal n v q t ∧ ∀ k, k < n → lpNm n (q k)) (fun q a b ha hb ⟨h1, h2⟩ => ⟨payVal_swp (by omega) ha hb h1, fun k hk => h2 _ ((zswp_lt ha hb).mpr hk)⟩) n 0 q (by omega) ⟨h, hq⟩ hi (fun i j h => by omega)
  refine ⟨p, ⟨fun k hk => p3 k (k + 1) (by omega) hk, fun k hk => ⟨(p2 k hk).1, ?_⟩⟩, p1⟩
  have hstep : ∀ m, k + m < n → p k + m ≤ p (k + m) := by
    intro m
    induction m with
    | zero => intro _; exact Nat.le_refl _
    | succ m ih =>
      intro h
      have h1 := ih (by omega)
      have h2 := p3 (k + m) (k + (m + 1)) (by omega) h
      omega
  have h1 := hstep (n - 1 - k) (by omega)
  rw [show k + (n - 1 - k) = n - 1 by omega] at h1
  have h2 := (p2 (n - 1) (by omega)).2
  omega
/-- what both find -/
theorem least_both {s s9 : zS} {n : Nat} {v : Nat → Int} (hw : wOk s n v) (hu : uOk s9 n v) :
    ∃ s' rs cs cell idr L s9', D_X3_layLeastPay s = some s' ∧ bFrm s s' ∧ bD s' (fun _ : Nat → Rat => True) (n + 2 ^ n) n (lpX n) 1 1000 (lpRoom n v) (lpNm n) lpVec (fun S => (v S : Rat)) (lpM n) (fun j => if j < n then -1000 else 0) rs idr rs cs cell ∧ rs n = 0 ∧ (idr n = fun w => xS w (2 ^ n - 1)) ∧ (∀ j, j < n → 0 ≤ cell n (2 + j)) ∧ L = (cell n 1 : Rat) / (cell n 0 : Rat) ∧ leastP n v L ∧ D_X9_layPay s9 = some s9' ∧ uFrm s9 s9' ∧ bstE s9' (some L) ∧ bstS 4915200000 65536 (some L) := by
  obtain ⟨s', rs, cs, cell, idr, e, f, hD, h0, hid, hop⟩ := least_end hw
  obtain ⟨w1, w2, w3, w4, w5⟩ := id hw
  have hp := pow_le4 w3
  obtain ⟨s9', o, e9, f9, b1, b2, b3⟩ := r_layPay hu
  obtain ⟨idr', idc, vr, kr, M, kM, hI, hN, hF, hc, hZ, hV, hP⟩ := id hD
  have hid' : idr' n = fun w => xS w (2 ^ n - 1) := by rw [(hZ n).2 h0]; exact hid
  obtain ⟨hc2, ⟨w, hw1, hw2⟩, hpay⟩ := lp_dual w2 w3 (show n < n + 2 ^ n by omega) hI.2.1 hN hF hP hc hid' hop
  obtain ⟨p, p1, p2⟩ := pay_sorted w3 hc2 (fun a b ha hb h => hN.2.2.1 a b ha hb (hc a ha) h) hpay
  have hq : ∀ q, cInc n (2 ^ n - n) 1 q → ∀ k, k < n → lpNm n (q k) := fun q hq k hk => by
    have := hq.2 k hk
    exact ⟨this.1, by omega⟩
  have ho : o = some ((cell n 1 : Rat) / (cell n 0 : Rat)) := by
    cases o with
    | none => exact absurd p2 (b3 p p1 _)
    | some u =>
      obtain ⟨⟨q, q1, q2⟩, q3⟩ := b3
      have h1 := q3 p p1 _ p2
      have h2 := payVal_le w3 (hq q q1) q2 hw1
      rw [hw2] at h2
      rw [Rat.le_antisymm h2 h1]
  subst ho
  refine ⟨s', rs, cs, cell, idr, _, s9', e, f, hD, h0, hid, hop, rfl, ⟨⟨w, hw1, hw2⟩, fun z hz => payVal_le w3 (hq p p1) p2 hz⟩, e9, f9, b1, b2⟩
