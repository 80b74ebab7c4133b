/-! a phase's turn -/
/-- where all columns are 0, all rooms are 0 or more -/
theorem zero_point {W : Type} {A : W → Prop} {R C : Nat} {rs cs : Nat → Nat} {cell : Nat → Nat → Int} {idr idc : Nat → W → Rat} {room : Nat → W → Rat} {Nm : Nat → Prop} (hd : dInv A R C cell idr idc) (hN : bN A room R C rs cs idr idc) (hF : bF R rs cell) (hP : bP Nm R C rs cs) (h0 : ∀ S, Nm S → S ≠ 0) {w : W} (a : A w) (hw : ∀ j, j < C → idc j w = 0) : ∀ S, Nm S → 0 ≤ room S w := by
  intro S hS
  rcases hP S hS with ⟨r, hr, e⟩ | ⟨j, hj, e⟩
  · have hne : rs r ≠ 0 := by rw [e]; exact h0 S hS
    have h := hd.2.1 w a r hr
    unfold rV at h
    rw [zsum_congr C (fun j hj => by rw [hw j hj]), zsum_z, hN.1 w a r hr hne, e] at h
    have hpos := rat_pos (hd.1 r hr)
    have h1 : (0 : Rat) ≤ (cell r 1 : Rat) := rat_nn (hF r hr hne)
    have h2 : (0 : Rat) ≤ (cell r 0 : Rat) * room S w := by rw [h]; grind
    by_cases e2 : (0 : Rat) ≤ room S w
    · exact e2
    · have := (Rat.mul_neg_iff_of_pos_left hpos).mpr (Rat.not_le.mp e2)
      grind
  · have hne : cs j ≠ 0 := by rw [e]; exact h0 S hS
    have h := hN.2.1 w a j hj hne
    rw [hw j hj, e] at h
    rw [← h]; exact Rat.le_refl
/-- two that don't remain -/
theorem fz_two {C C' j0 j1 : Nat} {f : Nat → Int} {σ : Nat → Nat} (h : fzOk (C + 1) 0 C' f σ) (h0 : j0 < C + 1) (h1 : j1 < C + 1) (hne : j0 ≠ j1) (f0 : f j0 ≠ 0) (f1 : f j1 ≠ 0) : C' + 1 ≤ C := by
  refine Classical.byContradiction fun hno => ?_
  obtain ⟨z1, z2, z3, z4, z5, z6⟩ := h
  have hC : 1 ≤ C := by omega
  have hσ : ∀ i, i < C' → σ i < C + 1 ∧ σ i ≠ j0 ∧ σ i ≠ j1 := fun i hi => by
    have := z4 i (by omega) hi
    exact ⟨this.2.1, fun e => f0 (by rw [← e]; exact this.2.2), fun e => f1 (by rw [← e]; exact this.2.2)⟩
  by_cases hC1 : C = 1
  · have := hσ 0 (by omega)
    omega
  · obtain ⟨i, j, hij, hj, e⟩ := zpigeon (C - 1) (fun i => σ i - (if j0 < σ i then 1 else 0) - (if j1 < σ i then 1 else 0)) (fun i hi => by
      have := hσ i (by omega)
      try dsimp only
      (repeat' split) <;> omega)
    have a := hσ i (by omega)
    have b := hσ j (by omega)
    try dsimp only at e
    have : σ i = σ j := by
      (repeat' split at e) <;> omega
    have := z5 i j (by omega) (by omega) this
    omega
/-- what a phase shows -/
def phC (n : Nat) (v : Nat → Int) (Fz : Nat → Prop) (tf : Nat → Rat) (Fz' : Nat → Prop) (tf' : Nat → Rat) (E' : Rat) (y : Nat → Rat) : Prop :=
  (∀ S, 0 ≤ y S) ∧ (∃ S, 0 < y S) ∧ (∀ S, 0 < y S → NF n Fz tf S ∧ Fz' S) ∧ (∀ F, Fz' F → Fz F ∨ 0 < y F) ∧ (∀ x F, cB Fz' tf' x → 0 < y F → (v F : Rat) - xS x F = E') ∧
  (∀ z, (∀ F, Fz F → xS z F = 0) → zsum 16 (fun S => y S * xS z S) = 0) ∧ (∀ S, NF n Fz tf S → flatB (cB Fz' tf') S → ∀ x, cB Fz' tf' x → (v S : Rat) - xS x S ≤ E')
section PT
variable {s : zS} {n C : Nat} {v : Nat → Int} {Fz : Nat → Prop} {tf : Nat → Rat} {E : Rat} {rs cs : Nat → Nat} {cell : Nat → Nat → Int}
theorem ph_turn {Q V : Int} (hw5 : ∀ S, S < 16 → -1000 ≤ v S ∧ v S ≤ 1000) (hn2 : 2 ≤ n) (hn : n ≤ 4) (hC1 : 1 ≤ C) (hC3 : C ≤ 3) (hV5 : 5000 ≤ V) (hfit : 2700 * (60 * Q * (60 * Q * (V + 4000))) < 4611686018427387904) (h : PS s n v Fz tf E C rs cs cell Q V) :
    ∃ (s1 s2 s3 s4 : zS) (r0 : Nat) (Fz' : Nat → Prop) (tf' : Nat → Rat) (E' : Rat) (y : Nat → Rat) (c0 c1 : Int), D_X0_releaseFlatRows s = some s1 ∧ D_X0_addDrawingIn s1 = some (n32 (C : Int), s2) ∧ D_X0_enter s2 (n32 (C : Int)) = some (n32 (r0 : Int), s3) ∧ D_X0_drive s3 (n32 (r0 : Int)) (n32 1) = some s4 ∧ bFrm s s4 ∧
    D_X0_belowOf s4 (n32 (r0 : Int)) = some (n64 c0) ∧ D_X0_constantOf s4 (n32 (r0 : Int)) = some (n64 c1) ∧ (0 < c0 ∧ c0 ≤ 60 * Q) ∧ (-(90 * (4 * Q * (V + 2000))) ≤ c1 ∧ c1 ≤ 90 * (4 * Q * (V + 2000))) ∧ E' = E - (c1 : Rat) / (c0 : Rat) ∧
    (∀ s4' : zS, s4'.1 = s4.1 → (∀ c k, 10 ≤ c → c < 30 → s4'.2 c k = s4.2 c k) → ∃ (s5 : zS) (C' : Nat) (rs5 cs5 : Nat → Nat) (cell5 : Nat → Nat → Int) (Q' : Int), D_X0_freeze s4' (n32 (r0 : Int)) = some s5 ∧ bFrm s4' s5 ∧ PS s5 n v Fz' tf' E' C' rs5 cs5 cell5 Q' (V + 4000) ∧ C' + 1 ≤ C ∧ 1 ≤ Q' ∧ Q' ≤ 60 * Q) ∧
    (∀ x, cB Fz' tf' x → cB Fz tf x) ∧ (∀ F, Fz F → Fz' F) ∧ phC n v Fz tf Fz' tf' E' y ∧ E' ≤ E := by
  have hp := pow_le4 hn
  obtain ⟨idr0, idc0, vr0, kr0, M0, kM0, j10, hI0, hN0, hF0, hc0, hx1, hx2, hx3, hx4, hP0, hEb, hFN, htN⟩ := id h
  have hQ := hI0.2.2.2.2.1
  have hfit4 : 2700 * (4 * Q * (4 * Q * (V + 2000))) < 4611686018427387904 := by
    have a1 : 4 * Q * (V + 2000) ≤ 60 * Q * (V + 4000) := Int.mul_le_mul (by omega) (by omega) (by omega) (by omega)
    have a2 : 4 * Q * (4 * Q * (V + 2000)) ≤ 60 * Q * (60 * Q * (V + 4000)) := Int.mul_le_mul (by omega) a1 (Int.mul_nonneg (by omega) (by omega)) (by omega)
    omega
  obtain ⟨s1, s2, s3, s4, r0, rs4, cs4, cell4, idr4, idc4, vr4, kr4, M4, kM4, e1, e2, e3, e4, f4, hr0, hI, hN, hF, hc, ⟨hz0, hd0⟩, hval, hrow, hcol, hlv, hP, hend⟩ := ph_drive hn2 hn hC1 hC3 hV5 hfit4 h
  have hd := hI.2.1
  have hc0p : 0 < cell4 r0 0 := hd.1 r0 hr0
  have hp0 := rat_pos hc0p
  have hpne : (cell4 r0 0 : Rat) ≠ 0 := fun e => by rw [e] at hp0; exact absurd hp0 (by decide)
  have hsm := hI.2.2.2.1 r0 hr0
  have hidc : ∀ w, cD Fz tf w → ∀ j, j < C + 1 → idc4 j w = xS w.1 (cs4 j) - (v (cs4 j) : Rat) + w.2 := fun w a j hj => by rw [hN.2.1 w a j hj (hc j hj), nRoom_t (hcol j hj).1]
  have hid : ∀ w, cD Fz tf w → (cell4 r0 0 : Rat) * (E - w.2) = (cell4 r0 1 : Rat) + zsum (C + 1) (fun j => (cell4 r0 (2 + j) : Rat) * idc4 j w) := fun w a => by
    have := hd.2.1 w a r0 hr0
    rw [hd0] at this
    exact this
  -- a point of the start
  obtain ⟨w0, a0, k0⟩ := hI0.2.1.2.2 (fun _ => 0)
  have hw0 := zero_point hI0.2.1 hN0 hF0 hP0 (fun S hS => by have := hS.1.1; omega) a0 k0
  have hw0' : ∀ j, j < C + 1 → 0 ≤ idc4 j w0 := fun j hj => by
    rw [hidc w0 a0.1 j hj]
    have h1 := hw0 _ (hcol j hj).1
    rw [cRoom_t (hcol j hj).1.1] at h1
    exact h1
  have hc1n : 0 ≤ (cell4 r0 1 : Rat) := by
    have h1 := hid w0 a0.1
    rw [a0.2] at h1
    have h2 : 0 ≤ zsum (C + 1) (fun j => (-1 : Rat) * ((cell4 r0 (2 + j) : Rat) * idc4 j w0)) := zsum_nonneg (C + 1) (fun j hj => by
      have h3 : (0 : Rat) ≤ ((-cell4 r0 (2 + j) : Int) : Rat) := rat_nn (by have := hend j hj; omega)
      have h4 := Rat.mul_nonneg h3 (hw0' j hj)
      rw [Rat.intCast_neg] at h4
      grind)
    rw [zsum_mul] at h2
    grind
  -- the end's point
  obtain ⟨w4, a4, k4⟩ := hd.2.2 (fun _ => 0)
  have hw4 := zero_point hd hN hF hP (fun S hS => by have := hS.1.1; omega) a4 k4
  have hE4 : (cell4 r0 0 : Rat) * (E - w4.2) = (cell4 r0 1 : Rat) := by
    have h1 := hid w4 a4
    rw [zsum_congr (C + 1) (fun j hj => by rw [k4 j hj]), zsum_z] at h1
    rw [h1]; grind
  have hdivE := Rat.div_mul_cancel (a := (cell4 r0 1 : Rat)) hpne
  have hw42 : w4.2 = E - (cell4 r0 1 : Rat) / (cell4 r0 0 : Rat) := by
    have : (cell4 r0 0 : Rat) * (E - w4.2) = (cell4 r0 0 : Rat) * ((cell4 r0 1 : Rat) / (cell4 r0 0 : Rat)) := by rw [hE4]; grind
    have := rat_cancel hpne this
    grind
  generalize hE'def : E - (cell4 r0 1 : Rat) / (cell4 r0 0 : Rat) = E' at hw42
  have hlev : ∀ w, cD Fz tf w → (∀ j, j < C + 1 → cell4 r0 (2 + j) ≠ 0 → idc4 j w = 0) → w.2 = E' := fun w a hz => by
    have h1 := hid w a
    rw [zsum_zero (C + 1) (fun j hj => by
      by_cases e : cell4 r0 (2 + j) = 0
      · rw [e]; simp
      · rw [hz j hj e]; grind)] at h1
    have h2 : (cell4 r0 0 : Rat) * (E - w.2) = (cell4 r0 0 : Rat) * ((cell4 r0 1 : Rat) / (cell4 r0 0 : Rat)) := by rw [h1]; grind
    have := rat_cancel hpne h2
    grind
  have hE'le : E' ≤ E := by
    have h1 : (0 : Rat) ≤ (cell4 r0 1 : Rat) / (cell4 r0 0 : Rat) := by
      rw [Rat.div_def]
      exact Rat.mul_nonneg hc1n (Rat.le_of_lt (Rat.inv_pos.mpr hp0))
    grind
  have hS0 := (hcol 0 (by omega)).1
  have hE'ge : -2000 ≤ E' := by
    have hcS := compl_NF hn hFN hS0
    have hlt : cs4 0 < 2 ^ n := by have := hS0.1.2; omega
    have h1 := hw4 _ hS0
    have h2 := hw4 _ hcS
    rw [nRoom_t hS0] at h1
    rw [nRoom_t hcS, xS_compl hn hlt, a4 _ hFN, htN] at h2
    have b1 : ((-1000 : Int) : Rat) ≤ (v (cs4 0) : Rat) := Rat.intCast_le_intCast.mpr (hw5 _ (by omega)).1
    have b2 : ((-1000 : Int) : Rat) ≤ (v (2 ^ n - 1 - cs4 0) : Rat) := Rat.intCast_le_intCast.mpr (hw5 _ (by omega)).1
    have b3 : (v (2 ^ n - 1) : Rat) ≤ ((1000 : Int) : Rat) := Rat.intCast_le_intCast.mpr (hw5 _ (by omega)).2
    have c1 : ((-1000 : Int) : Rat) = -1000 := rfl
    have c2 : ((1000 : Int) : Rat) = 1000 := rfl
    rw [c1] at b1 b2
    rw [c2] at b3
    rw [hw42] at h1 h2
    grind
  -- the sets that stop
  have hdist : ∀ j j', j < C + 1 → j' < C + 1 → cs4 j = cs4 j' → j = j' := fun j j' hj hj' e => hN.2.2.1 j j' hj hj' (hc j hj) e
  obtain ⟨y, hy⟩ : ∃ y : Nat → Rat, ∀ S, y S = zsum (C + 1) (fun j => if cs4 j = S then -(cell4 r0 (2 + j) : Rat) else 0) := ⟨fun S => zsum (C + 1) (fun j => if cs4 j = S then -(cell4 r0 (2 + j) : Rat) else 0), fun S => rfl⟩
  have hfn : ∀ j, j < C + 1 → 0 ≤ -(cell4 r0 (2 + j) : Rat) := fun j hj => by
    have h3 : (0 : Rat) ≤ ((-cell4 r0 (2 + j) : Int) : Rat) := rat_nn (by have := hend j hj; omega)
    rw [Rat.intCast_neg] at h3
    exact h3
  have hy0 : ∀ S, 0 ≤ y S := fun S => by
    rw [hy]
    exact zsum_nonneg (C + 1) (fun j hj => by
      split
      · exact hfn j hj
      · exact Rat.le_refl)
  have hyc : ∀ j, j < C + 1 → y (cs4 j) = -(cell4 r0 (2 + j) : Rat) := fun j hj => by
    rw [hy, zsum_single (c := j) hj (fun i hi hne => by rw [if_neg (fun e => hne (hdist i j hi hj e))]), if_pos rfl]
  have hyp : ∀ S, 0 < y S → ∃ j, j < C + 1 ∧ cs4 j = S ∧ cell4 r0 (2 + j) ≠ 0 := fun S hS => by
    rw [hy] at hS
    obtain ⟨j, hj, h1⟩ := zsum_pos_ex (C + 1) hS
    by_cases e : cs4 j = S
    · rw [if_pos e] at h1
      refine ⟨j, hj, e, fun q => ?_⟩
      rw [q] at h1
      exact absurd h1 (by simp)
    · rw [if_neg e] at h1; exact absurd h1 (by decide)
  have hyn : ∀ j, j < C + 1 → cell4 r0 (2 + j) ≠ 0 → 0 < y (cs4 j) := fun j hj hne => by
    rw [hyc j hj]
    have h3 : (0 : Rat) < ((-cell4 r0 (2 + j) : Int) : Rat) := rat_pos (by have := hend j hj; omega)
    rw [Rat.intCast_neg] at h3
    exact h3
  have hsum : ∀ z : Nat → Rat, zsum 16 (fun S => y S * xS z S) = zsum (C + 1) (fun j => -(cell4 r0 (2 + j) : Rat) * xS z (cs4 j)) := fun z => by
    have h1 : zsum 16 (fun S => y S * xS z S) = zsum 16 (fun S => zsum (C + 1) (fun j => (if cs4 j = S then -(cell4 r0 (2 + j) : Rat) else 0) * xS z S)) := zsum_congr 16 (fun S _ => by rw [hy, ← zsum_mulr])
    rw [h1, zsum_swap]
    refine zsum_congr (C + 1) (fun j hj => ?_)
    have h16 : cs4 j < 16 := by have := (hcol j hj).1.1.2; omega
    rw [zsum_single (c := cs4 j) h16 (fun S _ hne => by rw [if_neg (fun e => hne e.symm)]; grind), if_pos rfl]
  have hnull : ∀ z, (∀ F, Fz F → xS z F = 0) → zsum 16 (fun S => y S * xS z S) = 0 := fun z hz => by
    have b : cD Fz tf ((fun i => w4.1 i + 1 * z i), w4.2) := fun F hF => by
      dsimp only
      rw [xS_add, hz F hF, a4 F hF]; grind
    have h1 := hid _ b
    have h2 := hid w4 a4
    rw [hsum]
    have h3 : zsum (C + 1) (fun j => (cell4 r0 (2 + j) : Rat) * idc4 j ((fun i => w4.1 i + 1 * z i), w4.2)) = zsum (C + 1) (fun j => (cell4 r0 (2 + j) : Rat) * idc4 j w4) - zsum (C + 1) (fun j => -(cell4 r0 (2 + j) : Rat) * xS z (cs4 j)) := by
      rw [← zsum_sub]
      refine zsum_congr (C + 1) (fun j hj => ?_)
      rw [hidc _ b j hj, hidc _ a4 j hj]
      dsimp only
      rw [xS_add]; grind
    rw [h3] at h1
    dsimp only at h1
    grind
  -- two at least
  have hone : ∃ j0, j0 < C + 1 ∧ cell4 r0 (2 + j0) ≠ 0 := by
    refine Classical.byContradiction fun hno => ?_
    have hall : ∀ j, j < C + 1 → cell4 r0 (2 + j) = 0 := fun j hj => Classical.byContradiction fun q => hno ⟨j, hj, q⟩
    have h1 := row_flat hd hr0 hall (w0 := w4) (w1 := (w4.1, w4.2 + 1)) a4 a4
    rw [hd0] at h1
    dsimp only at h1
    grind
  obtain ⟨j0, hj0, hf0⟩ := hone
  have htwo : ∃ j1, j1 < C + 1 ∧ j1 ≠ j0 ∧ cell4 r0 (2 + j1) ≠ 0 := by
    refine Classical.byContradiction fun hno => (hcol j0 hj0).1.2 (fun x x' hx hx' => ?_)
    have hall : ∀ j, j < C + 1 → j ≠ j0 → cell4 r0 (2 + j) = 0 := fun j hj hne => Classical.byContradiction fun q => hno ⟨j, hj, hne, q⟩
    have h1 := hid (x, 0) hx
    have h2 := hid (x', 0) hx'
    rw [zsum_single (c := j0) hj0 (fun j hj hne => by rw [hall j hj hne]; simp), hidc (x, 0) hx j0 hj0] at h1
    rw [zsum_single (c := j0) hj0 (fun j hj hne => by rw [hall j hj hne]; simp), hidc (x', 0) hx' j0 hj0] at h2
    have hfr : (cell4 r0 (2 + j0) : Rat) ≠ 0 := fun e => hf0 (ratInt_inj (by rw [e]; rfl))
    refine rat_cancel hfr ?_
    dsimp only at h1 h2
    grind
  obtain ⟨j1, hj1, hj10, hf1⟩ := htwo
  -- the next points
  have hNFz : ∀ F, NF n Fz tf F → ¬ Fz F := fun F hF q => hF.2 (fun x x' hx hx' => by rw [hx F q, hx' F q])
  obtain ⟨tf', htf'⟩ : ∃ tf' : Nat → Rat, (∀ F, Fz F → tf' F = tf F) ∧ ∀ F, ¬ Fz F → tf' F = (v F : Rat) - E' := ⟨fun F => @ite Rat (Fz F) (Classical.propDecidable _) (tf F) ((v F : Rat) - E'), fun F hF => if_pos hF, fun F hF => if_neg hF⟩
  have hAiff : ∀ w, (cD Fz tf w ∧ ∀ j, j < C + 1 → cell4 r0 (2 + j) ≠ 0 → idc4 j w = 0) ↔ cA (fun F => Fz F ∨ 0 < y F) tf' E' w := fun w => by
    constructor
    · rintro ⟨a, hz⟩
      have hl := hlev w a hz
      refine ⟨fun F hF => ?_, hl⟩
      by_cases e : Fz F
      · rw [htf'.1 F e]; exact a F e
      · rw [htf'.2 F e]
        rcases hF with q | q
        · exact absurd q e
        · obtain ⟨j, hj, ej, hne⟩ := hyp F q
          have h1 := hz j hj hne
          rw [hidc w a j hj, ej, hl] at h1
          grind
    · rintro ⟨a, hl⟩
      have a' : cD Fz tf w := fun F hF => by rw [a F (Or.inl hF), htf'.1 F hF]
      refine ⟨a', fun j hj hne => ?_⟩
      have hNj := (hcol j hj).1
      rw [hidc w a' j hj, a (cs4 j) (Or.inr (hyn j hj hne)), htf'.2 _ (hNFz _ hNj), hl]; grind
  have hsub : ∀ x, cB (fun F => Fz F ∨ 0 < y F) tf' x → cB Fz tf x := fun x hx F hF => by rw [hx F (Or.inl hF), htf'.1 F hF]
  have hw4A : cA (fun F => Fz F ∨ 0 < y F) tf' E' w4 := (hAiff w4).mp ⟨a4, fun j hj _ => k4 j hj⟩
  have hE'b : -2000 ≤ E' ∧ E' ≤ 2000 := ⟨hE'ge, Rat.le_trans hE'le hEb.2⟩
  have henc4 := hI.1
  refine ⟨s1, s2, s3, s4, r0, fun F => Fz F ∨ 0 < y F, tf', E', y, cell4 r0 0, cell4 r0 1, e1, e2, e3, e4, f4, b_below henc4 hr0, b_const henc4 hr0, ⟨hc0p, by have := hsm.1; omega⟩, hsm.2.1, hE'def.symm, fun s4' hs1 hs2 => ?_, hsub, fun F hF => Or.inl hF, ⟨hy0, ⟨cs4 j0, hyn j0 hj0 hf0⟩, fun S hS => ?_, fun F hF => hF, fun x F hx hF => ?_, hnull, fun S hS hfl x hx => ?_⟩, hE'le⟩
  · have henc : bEnc s4' (n + 2 ^ n - 2) (C + 1) rs4 cs4 cell4 := by
      obtain ⟨a1, a2, a3, a4', a5, a6, a7, a8, a9⟩ := henc4
      exact ⟨a1, a2, by rw [hs1]; exact a3, by rw [hs1]; exact a4', fun r hr => by rw [hs1]; exact a5 r hr, fun j hj => by rw [hs1]; exact a6 j hj, fun r hr k hk => by rw [hs2 _ _ (by omega) (by omega)]; exact a7 r hr k hk, a8, a9⟩
    obtain ⟨s5, C', σ', cs5, cell5, idc5, M5, kM5, g1, g2, g3, g4, g5, g6⟩ := b_freeze hr0 (show bI s4' (cD Fz tf) (n + 2 ^ n - 2) (C + 1) rs4 cs4 cell4 idr4 idc4 (cX n) vr4 kr4 M4 kM4 (4 * Q) (V + 2000) from ⟨henc, hI.2⟩)
    have hC' := fz_two g3 hj0 hj1 (fun e => hj10 e.symm) hf0 hf1
    have hI5 := bI_iff g4 hAiff
    obtain ⟨Q', M6, kM6, j6, n1, n2, n3, n4, n5⟩ := ph_norm (E := E') hn hE'b (by
      have e : 15 * (4 * Q) * (15 * (4 * Q) * (V + 2000 + 2000)) = 60 * Q * (60 * Q * (V + 4000)) := by grind
      rw [e]; exact hfit) (fun w a => a.2) hI5
    obtain ⟨z1, z2, z3, z4, z5, z6⟩ := id g3
    have hσ : ∀ j, j < C' → σ' j < C + 1 := fun j hj => (z4 j (by omega) hj).2.1
    have hV4 : V + 2000 + 2000 = V + 4000 := by omega
    rw [hV4] at n3
    refine ⟨s5, C', rs4, cs5, cell5, Q', g1, g2, ⟨idr4, idc5, vr4, kr4, M6, kM6, j6, n3, ⟨fun w a r hr hne => ?_, fun w a j hj hne => ?_, fun j j' hj hj' hne e => ?_, hN.2.2.2.1, fun r j hr hj hne => ?_⟩, fun r hr hne => ?_, fun j hj => ?_, fun r hr hne => ?_, fun j hj => ?_, hval, n5, fun S hS => ?_, hE'b, Or.inl hFN, ?_⟩, hC', by omega, by omega⟩
    · have a' := ((hAiff w).mpr a).1
      have h1 := (hrow r hr hne).1
      rw [hN.1 w a' r hr hne, nRoom_t h1, cRoom_t h1.1]
    · have a' := ((hAiff w).mpr a).1
      obtain ⟨k1, k2, -⟩ := g5 j hj
      have h1 := (hcol _ (hσ j hj)).1
      rw [k1, k2, hN.2.1 w a' _ (hσ j hj) (hc _ (hσ j hj)), nRoom_t h1, cRoom_t h1.1]
    · rw [(g5 j hj).1, (g5 j' hj').1] at e
      exact z5 j j' hj hj' (hdist _ _ (hσ j hj) (hσ j' hj') e)
    · rw [(g5 j hj).1]
      exact hN.2.2.2.2 r _ hr (hσ j hj) hne
    · rw [(g6 r hr).2]; exact hF r hr hne
    · rw [(g5 j hj).1]; exact hc _ (hσ j hj)
    · exact ⟨(hrow r hr hne).2.1, (hrow r hr hne).2.2⟩
    · obtain ⟨k1, k2, k3, k4', -⟩ := g5 j hj
      have h1 := hcol _ (hσ j hj)
      refine ⟨?_, ?_⟩
      · rw [(n4 j hj).1, k1, ← h1.2.1]
        funext i
        exact k3 i
      · rw [(n4 j hj).2, k1, k4', h1.2.2]
    · have hS' : NF n Fz tf S := ⟨hS.1, fun hfl => hS.2 (fun x x' hx hx' => hfl x x' (hsub x hx) (hsub x' hx'))⟩
      rcases hP S hS' with ⟨r, hr, e⟩ | ⟨j, hj, e⟩
      · exact Or.inl ⟨r, hr, e⟩
      · by_cases hf : cell4 r0 (2 + j) = 0
        · obtain ⟨i, hi, ei⟩ := z6 j (by omega) hj hf
          exact Or.inr ⟨i, hi, by rw [(g5 i hi).1, ei, e]⟩
        · exfalso
          have hyS : 0 < y S := by rw [← e]; exact hyn j hj hf
          exact hS.2 (fun x x' hx hx' => by rw [hx S (Or.inr hyS), hx' S (Or.inr hyS)])
    · rw [htf'.1 _ hFN]; exact htN
  · obtain ⟨j, hj, ej, hne⟩ := hyp S hS
    exact ⟨by rw [← ej]; exact (hcol j hj).1, Or.inr hS⟩
  · obtain ⟨j, hj, ej, hne⟩ := hyp F hF
    have hNj : NF n Fz tf F := by rw [← ej]; exact (hcol j hj).1
    rw [hx F (Or.inr hF), htf'.2 F (hNFz F hNj)]; grind
  · have h1 := hw4 S hS
    rw [nRoom_t hS, hw42] at h1
    rw [hfl x w4.1 hx hw4A.1]; grind
end PT
