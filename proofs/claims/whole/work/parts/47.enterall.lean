/-! all columns enter -/
section EA
variable {W : Type} {A : W → Prop} {R C : Nat} {rs cs : Nat → Nat} {cell : Nat → Nat → Int} {idr idc : Nat → W → Rat} {X : W → Nat → Rat} {Q V : Int} {room : Nat → W → Rat} {Nm : Nat → Prop}
theorem zsum_ray {C c : Nat} {f : Nat → Rat} (hc : c < C) : zsum C (fun j => f j * (if j = c then 1 else 0)) = f c := by
  rw [zsum_single (c := c) hc (fun j hj hn => by rw [if_neg hn]; grind), if_pos rfl]
  grind
/-- where the rooms of all names bound a column, somebody stops it -/
theorem cand_ex {c : Nat} (hd : dInv A R C cell idr idc) (hN : bN A room R C rs cs idr idc) (hP : bP Nm R C rs cs) (h0 : ∀ S, Nm S → S ≠ 0) (hc : c < C) (hb : ∀ w0 w1, A w0 → A w1 → (∀ S, Nm S → room S w0 ≤ room S w1) → ¬ idc c w0 < idc c w1) : ∃ r, r < R ∧ isCnd rs cell c r := by
  refine Classical.byContradiction fun hno => ?_
  obtain ⟨d1, d2, d3⟩ := hd
  obtain ⟨n1, n2, -⟩ := hN
  obtain ⟨w0, a0, e0⟩ := d3 (fun _ => 0)
  obtain ⟨w1, a1, e1⟩ := d3 (fun j => if j = c then 1 else 0)
  refine hb w0 w1 a0 a1 (fun S hS => ?_) (by rw [e0 c hc, e1 c hc, if_pos rfl]; decide)
  rcases hP S hS with ⟨r, h1, h2⟩ | ⟨j, h1, h2⟩
  · have hn : rs r ≠ 0 := by rw [h2]; exact h0 S hS
    rw [← h2, ← n1 w0 a0 r h1 hn, ← n1 w1 a1 r h1 hn]
    have f0 := d2 w0 a0 r h1
    have f1 := d2 w1 a1 r h1
    unfold rV at f0 f1
    rw [zsum_zero C (fun j hj => by rw [e0 j hj]; grind)] at f0
    rw [zsum_congr C (g := fun j => (cell r (2 + j) : Rat) * (if j = c then 1 else 0)) (fun j hj => by rw [e1 j hj]), zsum_ray hc] at f1
    have hnn : 0 ≤ cell r (2 + c) := by
      by_cases q : 0 ≤ cell r (2 + c)
      · exact q
      · exact absurd ⟨r, h1, Nat.pos_of_ne_zero hn, by omega⟩ hno
    have p := rat_pos (d1 r h1)
    have q := rat_nn hnn
    refine Rat.le_of_mul_le_mul_left (c := (cell r 0 : Rat)) ?_ p
    rw [f0, f1]
    grind
  · have hn : cs j ≠ 0 := by rw [h2]; exact h0 S hS
    rw [← h2, ← n2 w0 a0 j h1 hn, ← n2 w1 a1 j h1 hn, e0 j h1, e1 j h1]
    split <;> decide
variable {vec : Nat → Nat → Int} {kk : Nat → Rat} {M0 : Nat → Nat → Int} {kM0 : Nat → Rat}
theorem b_enterAll {s : zS} {rs0 : Nat → Nat} {cell0 : Nat → Nat → Int} {idr0 idc0 : Nat → W → Rat} {vr0 : Nat → Nat → Int} {kr0 : Nat → Rat} (hI0 : bI s A R C rs0 (fun _ => 0) cell0 idr0 idc0 X vr0 kr0 M0 kM0 Q V) (hN0 : bN A room R C rs0 (fun _ => 0) idr0 idc0) (hF0 : bF R rs0 cell0) (hV0 : bV R C vec kk M0 kM0 rs0 (fun _ => 0) vr0 kr0 M0 kM0) (hP0 : bP Nm R C rs0 (fun _ => 0)) (h0 : ∀ S, Nm S → S ≠ 0) (hb : ∀ c, c < C → ∀ w0 w1, A w0 → A w1 → (∀ S, Nm S → room S w0 ≤ room S w1) → ¬ idc0 c w0 < idc0 c w1) :
    ∃ s' rs' cs' cell' idr', D_X0_enterAll s = some s' ∧ bFrm s s' ∧ bD s' A R C X Q V room Nm vec kk M0 kM0 rs' idr' rs' cs' cell' ∧ bP Nm R C rs' cs' ∧ (∀ r, rs0 r = 0 → rs' r = 0 ∧ idr' r = idr0 r) ∧ ∀ r, rs' r = 0 → (rs0 r = 0 ∧ idr' r = idr0 r) ∨ ∃ c, c < C ∧ idr' r = idc0 c := by
  have key : ∀ (m f k : Nat) (s : zS) (rs cs : Nat → Nat) (cell : Nat → Nat → Int) (idr idc : Nat → W → Rat) (vr : Nat → Nat → Int) (kr : Nat → Rat) (M : Nat → Nat → Int) (kM : Nat → Rat), k + m = C → m < f → bI s A R C rs cs cell idr idc X vr kr M kM Q V → bN A room R C rs cs idr idc → bF R rs cell → bV R C vec kk M0 kM0 rs cs vr kr M kM → bP Nm R C rs cs → (∀ j, j < k → cs j ≠ 0) → (∀ j, k ≤ j → cs j = 0 ∧ idc j = idc0 j) → (∀ r, rs0 r = 0 → rs r = 0 ∧ idr r = idr0 r) → (∀ r, rs r = 0 → (rs0 r = 0 ∧ idr r = idr0 r) ∨ ∃ c, c < C ∧ idr r = idc0 c) →
      ∃ s' rs' cs' cell' idr', D_X0_enterAll_L2 f (n32 (k : Int)) s = some s' ∧ bFrm s s' ∧ bD s' A R C X Q V room Nm vec kk M0 kM0 rs' idr' rs' cs' cell' ∧ bP Nm R C rs' cs' ∧ (∀ r, rs0 r = 0 → rs' r = 0 ∧ idr' r = idr0 r) ∧ ∀ r, rs' r = 0 → (rs0 r = 0 ∧ idr' r = idr0 r) ∨ ∃ c, c < C ∧ idr' r = idc0 c := by
    intro m
    induction m with
    | zero =>
      intro f k s rs cs cell idr idc vr kr M kM hk hf hI hN hF hV hP hn hu hz1 hz2
      obtain ⟨f, rfl⟩ : ∃ j, f = j + 1 := ⟨f - 1, by omega⟩
      obtain rfl : k = C := by omega
      have h4 := hI.1.2.1
      refine ⟨s, rs, cs, cell, idr, ?_, bFrm_r s, ⟨idr, idc, vr, kr, M, kM, hI, hN, hF, hn, fun r => ⟨Iff.rfl, fun _ => rfl⟩, hV, hP⟩, hP, hz1, hz2⟩
      rw [D_X0_enterAll_L2_s]
      unfold D_X0_enterAll_B2
      rw [hI.1.2.2.2.1, zif_t (Int32.le_refl _)]
    | succ m ih =>
      intro f k s rs cs cell idr idc vr kr M kM hk hf hI hN hF hV hP hn hu hz1 hz2
      obtain ⟨f, rfl⟩ : ∃ j, f = j + 1 := ⟨f - 1, by omega⟩
      have h4 := hI.1.2.1
      have ks : n32 (k : Int) + 1 = n32 ((k + 1 : Nat) : Int) := by rw [l32_1, n32_add]; rfl
      have hkC : k < C := by omega
      obtain ⟨u1, u2⟩ := hu k (by omega)
      rcases b_enter hI hN hF hkC with ⟨-, hno⟩ | ⟨r1, s', cell', q1, q2, q3, q4, q5, q6, q7, q8, q9, q10⟩
      · obtain ⟨r, hr, hcd⟩ := cand_ex hI.2.1 hN hP h0 hkC (by rw [u2]; exact hb k hkC)
        exact absurd hcd (hno r hr)
      · rw [D_X0_enterAll_L2_s]
        unfold D_X0_enterAll_B2
        rw [hI.1.2.2.2.1, zif_f (by rw [c32_le (by omega) (by omega)]; omega), q3, zbs, ks]
        dsimp only
        obtain ⟨s2, rs2, cs2, cell2, idr2, g1, g2, g3, g4, g5, g6⟩ := ih f (k + 1) s' _ _ _ _ _ _ _ _ _ (by omega) (by omega) q8 q9 q10 (bV_swap hV q1 hkC) (bP_swap hP q1 hkC) (fun j hj => by
          by_cases q : j = k
          · subst q; rw [xSwap_s]; exact q6
          · rw [xSwap_n q]; exact hn j (by omega)) (fun j hj => by
          rw [xSwap_n (by omega), xSwap_n (by omega)]; exact hu j (by omega)) (fun r hr => by
          have := hz1 r hr
          have hne : r ≠ r1 := fun q => q6 (by rw [← q]; exact this.1)
          rw [xSwap_n hne, xSwap_n hne]; exact this) (fun r hr => by
          by_cases q : r = r1
          · subst q; rw [xSwap_s]; exact Or.inr ⟨k, hkC, u2⟩
          · rw [xSwap_n q] at hr ⊢; exact hz2 r hr)
        exact ⟨s2, rs2, cs2, cell2, idr2, g1, bFrm_t q4 g2, g3, g4, g5, g6⟩
  unfold D_X0_enterAll
  exact key C zFU 0 s rs0 (fun _ => 0) cell0 idr0 idc0 vr0 kr0 M0 kM0 (by omega) (zFU_lt (by have := hI0.1.2.1; omega)) hI0 hN0 hF0 hV0 hP0 (fun j hj => by omega) (fun j _ => ⟨rfl, rfl⟩) (fun r hr => ⟨hr, rfl⟩) (fun r hr => Or.inl ⟨hr, rfl⟩)
end EA
