/-! the ends: the class's drive -/
section EV
variable {n : Nat} {v : Nat → Int}
theorem end_drive {s : zS} {rs cs : Nat → Nat} {cell : Nat → Nat → Int} {idr : Nat → (Nat → Rat) → Rat} {kM0 : Nat → Rat} {side : Nat} {sg : Int} (hn1 : 1 ≤ n) (hn : n ≤ 4) (hs : side < n) (hsg : sg = 1 ∨ sg = -1) (hD : bD s (fun _ : Nat → Rat => True) (n + 2 ^ n) n (lpX n) 1 1000 (lpRoom n v) (lpNm n) lpVec (fun S => (v S : Rat)) (lpM n) kM0 rs idr rs cs cell) (hid : idr n = fun w => xS w (2 ^ n - 1)) (hop : ∀ j, j < n → 0 ≤ cell n (2 + j)) (hrows : ∀ r, r < n → rs r = 0 ∧ idr r = fun w => w r) (h0 : rs n = 0) (hL : (cell n 1 : Rat) = (cell n 0 : Rat) * (v (2 ^ n - 1) : Rat)) :
    ∃ s' x rs' cs' cell' C', D_X3_driveSide s (n32 (n : Int)) (n32 (side : Int)) (n32 sg) = some s' ∧ bFrm s s' ∧ bEnc s' (n + 2 ^ n) C' rs' cs' cell' ∧ (0 < cell' side 0 ∧ cell' side 0 ≤ 15) ∧ (-90000 ≤ cell' side 1 ∧ cell' side 1 ≤ 90000) ∧ x side = (cell' side 1 : Rat) / (cell' side 0 : Rat) ∧ coreP n v x ∧ vtxP n v x ∧ ∀ y, coreP n v y → (sg : Rat) * y side ≤ (sg : Rat) * x side := by
  have hp := pow_le4 hn
  obtain ⟨idr0, idc, vr, kr, M, kM, hI, hN, hF, hc, hZ, hV, hP⟩ := id hD
  have hidn : idr0 n = fun w => xS w (2 ^ n - 1) := by rw [(hZ n).2 h0]; exact hid
  have hidr : ∀ r, r < n → idr0 r = fun w => w r := fun r hr => by rw [(hZ r).2 (hrows r hr).1]; exact (hrows r hr).2
  obtain ⟨hcn, -, -⟩ := lp_dual hn1 hn (show n < n + 2 ^ n by omega) hI.2.1 hN hF hP hc hidn hop
  have hcol : ∀ w j, j < n → idc j w = xS w (cs j) - (v (cs j) : Rat) := fun w j hj => by rw [hN.2.1 w trivial j hj (hc j hj), lpRoom_t (hcn j hj)]
  have hb0 : (0 : Rat) < (cell n 0 : Rat) := rat_pos (hI.2.1.1 n (by omega))
  have hbne : (cell n 0 : Rat) ≠ 0 := fun e => by rw [e] at hb0; exact absurd hb0 (by decide)
  have hrow : ∀ w, (cell n 0 : Rat) * xS w (2 ^ n - 1) = (cell n 1 : Rat) + zsum n (fun j => (cell n (2 + j) : Rat) * idc j w) := fun w => by
    have h := hI.2.1.2.1 w trivial n (by omega)
    rw [hidn] at h
    exact h
  -- what holds within the frozen part
  have hAN : ∀ w, (∀ j, j < n → cell n (2 + j) ≠ 0 → idc j w = 0) → xS w (2 ^ n - 1) = (v (2 ^ n - 1) : Rat) := fun w hw => by
    have h := hrow w
    rw [zsum_zero n (fun j hj => by
      by_cases e : cell n (2 + j) = 0
      · rw [e]; exact Rat.zero_mul _
      · rw [hw j hj e]; exact Rat.mul_zero _), hL, Rat.add_zero] at h
    exact rat_cancel hbne h
  have hAc : ∀ y, coreP n v y → ∀ j, j < n → cell n (2 + j) ≠ 0 → idc j y = 0 := fun y hy j hj hne => by
    have h := hrow y
    rw [hy.2, hL] at h
    have hz : zsum n (fun j => (cell n (2 + j) : Rat) * idc j y) = 0 := by grind
    have h1 := zsum_zero_each n (fun j hj => by
      have h2 := hy.1 (cs j) (hcn j hj)
      have h3 : (0 : Rat) ≤ idc j y := by rw [hcol y j hj]; grind
      exact Rat.mul_nonneg (rat_nn (hop j hj)) h3) hz j hj
    rcases Rat.mul_eq_zero.mp h1 with q | q
    · exact absurd (ratInt_inj (b := 0) (by rw [q]; rfl)) hne
    · exact q
  obtain ⟨s1, C', σ', cs1, cell1, idc1, M1, kM1, e1, f1, g3, hI1, g5, g6⟩ := b_freeze (show n < n + 2 ^ n by omega) hI
  obtain ⟨z1, z2, z3, z4, z5, z6⟩ := id g3
  have hσ : ∀ j, j < C' → σ' j < n := fun j hj => (z4 j (by omega) hj).2.1
  obtain ⟨s2, rs2, cs2, cell2, e2, f2, D2, B2⟩ := b_drive (r0 := side) (sg := sg) (s := s1) (A := fun w => True ∧ ∀ j, j < n → cell n (2 + j) ≠ 0 → idc j w = 0) (R := n + 2 ^ n) (C := C') (X := lpX n) (Q := 1) (V := 1000) (room := lpRoom n v) (Nm := fun S => lpNm n S ∧ ((∃ r, r < n + 2 ^ n ∧ rs r = S) ∨ ∃ j, j < C' ∧ cs1 j = S)) (vec := lpVec) (kk := fun S => (v S : Rat)) (M0 := M1) (kM0 := kM1) (rs0 := rs) (idr0 := idr0) (rs := rs) (cs := cs1) (cell := cell1) ⟨idr0, idc1, vr, kr, M1, kM1, hI1, ⟨fun w _ r hr hne => hN.1 w trivial r hr hne, fun w _ j hj hne => by
      obtain ⟨k1, k2, -⟩ := g5 j hj
      rw [k1, k2, hN.2.1 w trivial _ (hσ j hj) (hc _ (hσ j hj))], fun j j' hj hj' hne e => by
      rw [(g5 j hj).1, (g5 j' hj').1] at e
      exact z5 j j' hj hj' (hN.2.2.1 _ _ (hσ j hj) (hσ j' hj') (hc _ (hσ j hj)) e), hN.2.2.2.1, fun r j hr hj hne => by
      rw [(g5 j hj).1]
      exact hN.2.2.2.2 r _ hr (hσ j hj) hne⟩, fun r hr hne => by rw [(g6 r hr).2]; exact hF r hr hne, fun j hj => by rw [(g5 j hj).1]; exact hc _ (hσ j hj), fun r => ⟨Iff.rfl, fun _ => rfl⟩, ⟨hV.1, fun j hj hne => by
      obtain ⟨k1, k2, k3, k4, -⟩ := g5 j hj
      obtain ⟨v1, v2⟩ := hV.2.1 _ (hσ j hj) (hc _ (hσ j hj))
      refine ⟨?_, ?_⟩
      · rw [k1, ← v1]; funext i; exact k3 i
      · rw [k1, k4, v2], fun j hj => ⟨rfl, rfl⟩⟩, fun S hS => hS.2⟩ (by omega) (hrows side hs).1 hsg
  obtain ⟨idr2, idc2, vr2, kr2, M2, kM2, hI2, hN2, hF2, hc2, hZ2, hV2, hP2⟩ := id D2
  have hid2 : ∀ r, r < n → idr2 r = fun w => w r := fun r hr => by rw [(hZ2 r).2 (hrows r hr).1]; exact hidr r hr
  obtain ⟨x, ax, hx⟩ := hI2.2.1.2.2 (fun _ => 0)
  have hrow2 : ∀ y, (∀ j, j < n → cell n (2 + j) ≠ 0 → idc j y = 0) → ∀ r, r < n → (cell2 r 0 : Rat) * y r = (cell2 r 1 : Rat) + zsum C' (fun j => (cell2 r (2 + j) : Rat) * idc2 j y) := fun y hy r hr => by
    have h := hI2.2.1.2.1 y ⟨trivial, hy⟩ r (by omega)
    rw [hid2 r hr] at h
    exact h
  have hcov : ∀ S, lpNm n S → ((∃ r, r < n + 2 ^ n ∧ rs2 r = S) ∨ ∃ j, j < C' ∧ cs2 j = S) ∨ ∃ j, j < n ∧ cs j = S ∧ cell n (2 + j) ≠ 0 := fun S hS => by
    rcases hP S hS with ⟨r, hr, e⟩ | ⟨j, hj, e⟩
    · exact Or.inl (hP2 S ⟨hS, Or.inl ⟨r, hr, e⟩⟩)
    · by_cases hz : cell n (2 + j) = 0
      · obtain ⟨i, hi, ei⟩ := z6 j (by omega) hj hz
        exact Or.inl (hP2 S ⟨hS, Or.inr ⟨i, hi, by rw [(g5 i hi).1, ei, e]⟩⟩)
      · exact Or.inr ⟨j, hj, e, hz⟩
  have hcell : ∀ r, r < n → (0 : Rat) < (cell2 r 0 : Rat) := fun r hr => rat_pos (hI2.2.1.1 r (by omega))
  have hxr : ∀ r, r < n → (cell2 r 0 : Rat) * x r = (cell2 r 1 : Rat) := fun r hr => by
    rw [hrow2 x ax.2 r hr, zsum_congr C' (g := fun j => (cell2 r (2 + j) : Rat) * 0) (fun j hj => by rw [hx j hj]), zsum_z, Rat.add_zero]
  have hxne : (cell2 side 0 : Rat) ≠ 0 := fun e => by have := hcell side hs; rw [e] at this; exact absurd this (by decide)
  have hcore : coreP n v x := ⟨fun S hS => by
    rcases hcov S hS with (⟨r, hr, e⟩ | ⟨j, hj, e⟩) | ⟨j, hj, e, hz⟩
    · have hne : rs2 r ≠ 0 := by rw [e]; have := hS.1; omega
      have h := hI2.2.1.2.1 x ax r hr
      unfold rV at h
      rw [zsum_congr C' (fun j hj => by rw [hx j hj]), zsum_z] at h
      have hval := hN2.1 x ax r hr hne
      rw [e, lpRoom_t hS] at hval
      have hpos : (0 : Rat) < (cell2 r 0 : Rat) := rat_pos (hI2.2.1.1 r hr)
      have h1 : (0 : Rat) ≤ (cell2 r 1 : Rat) := rat_nn (hF2 r hr hne)
      rw [hval] at h
      have h2 : (0 : Rat) ≤ (cell2 r 0 : Rat) * (xS x S - (v S : Rat)) := by rw [h]; grind
      have h3 : (0 : Rat) ≤ xS x S - (v S : Rat) := by
        by_cases e2 : (0 : Rat) ≤ xS x S - (v S : Rat)
        · exact e2
        · have := (Rat.mul_neg_iff_of_pos_left hpos).mpr (Rat.not_le.mp e2)
          grind
      grind
    · have h := hN2.2.1 x ax j hj (hc2 j hj)
      rw [hx j hj, e, lpRoom_t hS] at h
      grind
    · have h := ax.2 j hj hz
      rw [hcol x j hj, e] at h
      grind, hAN x ax.2⟩
  have hopt : ∀ j, j < C' → sg * cell2 side (2 + j) ≤ 0 := by
    rcases B2 with b | ⟨c, hc1, hcp, hno⟩
    · exact b
    · exfalso
      obtain ⟨w0, w1, a0, a1, hall, hray⟩ := ray_ex hI2.2.1 hN2 hP2 (fun S hS => by have := hS.1.1; omega) hc1 hno
      have hle : ∀ S, lpNm n S → xS w0 S ≤ xS w1 S := fun S hS => by
        rcases hcov S hS with hq | ⟨j, hj, e, hz⟩
        · rcases hP S hS with ⟨r, hr, e⟩ | ⟨j, hj, e⟩
          · have h := hall S ⟨hS, Or.inl ⟨r, hr, e⟩⟩
            rw [lpRoom_t hS, lpRoom_t hS] at h
            grind
          · by_cases hz : cell n (2 + j) = 0
            · obtain ⟨i, hi, ei⟩ := z6 j (by omega) hj hz
              have h := hall S ⟨hS, Or.inr ⟨i, hi, by rw [(g5 i hi).1, ei, e]⟩⟩
              rw [lpRoom_t hS, lpRoom_t hS] at h
              grind
            · have h1 := a0.2 j hj hz
              have h2 := a1.2 j hj hz
              rw [hcol _ j hj, e] at h1 h2
              grind
        · have h1 := a0.2 j hj hz
          have h2 := a1.2 j hj hz
          rw [hcol _ j hj, e] at h1 h2
          grind
      have hN0 := hAN w0 a0.2
      have hN1 := hAN w1 a1.2
      have h2s : 1 ≤ 2 ^ side := Nat.one_le_two_pow
      have h2n : 2 ^ side < 2 ^ n := Nat.pow_lt_pow_right (by omega) hs
      have hle1 := hle (2 ^ side) ⟨h2s, h2n⟩
      have hge1 : xS w1 (2 ^ side) ≤ xS w0 (2 ^ side) := by
        by_cases e : 2 ^ side = 2 ^ n - 1
        · rw [e, hN0, hN1]; exact Rat.le_refl
        · have h := hle (2 ^ n - 1 - 2 ^ side) ⟨by omega, by omega⟩
          rw [xS_compl hn h2n, xS_compl hn h2n, hN0, hN1] at h
          grind
      rw [xS_single hn hs, xS_single hn hs] at hle1 hge1
      have heq : w0 side = w1 side := Rat.le_antisymm hle1 hge1
      have hr := hray side (by omega)
      rw [hid2 side hs] at hr
      dsimp only at hr
      rw [heq] at hr
      have hz : (cell2 side (2 + c) : Rat) = 0 := by grind
      have hzi := ratInt_inj (a := cell2 side (2 + c)) (b := 0) (by rw [hz]; rfl)
      rw [hzi] at hcp
      omega
  have b0 := hI2.2.1.1 side (by omega)
  have b1 := hI2.2.2.2.1 side (by omega)
  refine ⟨s2, x, rs2, cs2, cell2, C', ?_, bFrm_t f1 f2, hI2.1, ⟨b0, by omega⟩, ⟨by omega, by omega⟩, ?_, hcore, fun z hz i hi => ?_, fun y hy => ?_⟩
  · unfold D_X3_driveSide
    rw [e1, zbs, e2, zbs]
  · refine rat_cancel hxne ?_
    rw [hxr side hs, Rat.mul_comm, Rat.div_mul_cancel hxne]
  · have hcolz : ∀ j, j < C' → idc2 j (fun i => x i + 1 * z i) = 0 := fun j hj => by
      have ha : ∀ j, j < n → cell n (2 + j) ≠ 0 → idc j (fun i => x i + 1 * z i) = 0 := fun j hj hne => by
        have h1 := ax.2 j hj hne
        rw [hcol x j hj] at h1
        rw [hcol _ j hj, xS_add, hz (cs j) (hcn j hj) (by grind)]
        grind
      rw [hN2.2.1 _ ⟨trivial, ha⟩ j hj (hc2 j hj)]
      have h1 := hN2.2.1 x ax j hj (hc2 j hj)
      rw [hx j hj] at h1
      by_cases e : lpNm n (cs2 j)
      · rw [lpRoom_t e] at h1
        rw [lpRoom_t e, xS_add, hz (cs2 j) e (by grind)]
        grind
      · unfold lpRoom
        exact if_neg e
    have ha : ∀ j, j < n → cell n (2 + j) ≠ 0 → idc j (fun i => x i + 1 * z i) = 0 := fun j hj hne => by
      have h1 := ax.2 j hj hne
      rw [hcol x j hj] at h1
      rw [hcol _ j hj, xS_add, hz (cs j) (hcn j hj) (by grind)]
      grind
    have h1 := hrow2 _ ha i hi
    rw [zsum_congr C' (g := fun j => (cell2 i (2 + j) : Rat) * 0) (fun j hj => by rw [hcolz j hj]), zsum_z, Rat.add_zero, ← hxr i hi] at h1
    have hne : (cell2 i 0 : Rat) ≠ 0 := fun e => by have := hcell i hi; rw [e] at this; exact absurd this (by decide)
    have h2 := rat_cancel hne h1
    grind
  · have hA := hAc y hy
    have h1 := hrow2 y hA side hs
    have h2 := hxr side hs
    have h3 : zsum C' (fun j => (sg : Rat) * ((cell2 side (2 + j) : Rat) * idc2 j y)) ≤ 0 := by
      have h4 := zsum_nonneg (f := fun j => (-(sg * cell2 side (2 + j)) : Int) * idc2 j y) C' (fun j hj => by
        have h5 := hopt j hj
        refine Rat.mul_nonneg (rat_nn (by omega)) ?_
        rw [hN2.2.1 y ⟨trivial, hA⟩ j hj (hc2 j hj)]
        by_cases e : lpNm n (cs2 j)
        · rw [lpRoom_t e]
          have := hy.1 _ e
          grind
        · unfold lpRoom
          rw [if_neg (show ¬ (1 ≤ cs2 j ∧ cs2 j < 2 ^ n) from e)]
          exact Rat.le_refl)
      have h6 : zsum C' (fun j => (sg : Rat) * ((cell2 side (2 + j) : Rat) * idc2 j y)) = -1 * zsum C' (fun j => (-(sg * cell2 side (2 + j)) : Int) * idc2 j y) := by
        rw [← zsum_mul]
        refine zsum_congr C' (fun j _ => ?_)
        push_cast
        grind
      rw [h6]
      grind
    rw [zsum_mul] at h3
    have h7 : (cell2 side 0 : Rat) * ((sg : Rat) * y side) ≤ (cell2 side 0 : Rat) * ((sg : Rat) * x side) := by
      have e1 : (cell2 side 0 : Rat) * ((sg : Rat) * y side) = (sg : Rat) * ((cell2 side 0 : Rat) * y side) := by grind
      have e2 : (cell2 side 0 : Rat) * ((sg : Rat) * x side) = (sg : Rat) * ((cell2 side 0 : Rat) * x side) := by grind
      rw [e1, e2, h1, h2]
      grind
    exact Rat.le_of_mul_le_mul_left h7 (hcell side hs)
end EV
