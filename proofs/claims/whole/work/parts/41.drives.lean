/-! the drive whole -/
section DV
variable {W : Type} {A : W → Prop} {R C r0 : Nat} {sg : Int} {X : W → Nat → Rat} {Q V : Int} {room : Nat → W → Rat}
def bZ (rs0 : Nat → Nat) (idr0 : Nat → W → Rat) (rs : Nat → Nat) (idr : Nat → W → Rat) : Prop := ∀ r, (rs r = 0 ↔ rs0 r = 0) ∧ (rs0 r = 0 → idr r = idr0 r)
theorem bZ_swap {rs0 rs : Nat → Nat} {idr0 idr : Nat → W → Rat} {r1 x : Nat} {g : W → Rat} (h : bZ rs0 idr0 rs idr) (hn : rs r1 ≠ 0) (hx : x ≠ 0) : bZ rs0 idr0 (xSwap rs r1 x) (xSwap idr r1 g) := by
  intro r
  by_cases q : r = r1
  · subst q
    rw [xSwap_s]
    have := (h r).1
    refine ⟨⟨fun e => absurd e hx, fun e => absurd (this.mpr e) hn⟩, fun e => absurd (this.mpr e) hn⟩
  · rw [xSwap_n q, xSwap_n q]; exact h r
theorem tOk_of {s : zS} {rs cs : Nat → Nat} {cell : Nat → Nat → Int} {idr idc : Nat → W → Rat} {vr : Nat → Nat → Int} {kr : Nat → Rat} {M : Nat → Nat → Int} {kM : Nat → Rat} (h : bI s A R C rs cs cell idr idc X vr kr M kM Q V) (hN : bN A room R C rs cs idr idc) (hF : bF R rs cell) (hc : ∀ j, j < C → cs j ≠ 0) (hr0 : r0 < R) {z0 : W → Rat} (hz : idr r0 = z0) : tOk A room (fun w => (sg : Rat) * z0 w) R C sg r0 (rs, cs, cell) := by
  obtain ⟨e, ⟨d1, d2, d3⟩, -⟩ := h
  obtain ⟨n1, n2, n3, n4, n5⟩ := hN
  have hv : ∀ w, A w → ∀ r, rV C (cell r) idc w = rV C (cell r) (fun j => room (cs j)) w := fun w hA r => by
    unfold rV
    rw [zsum_congr C (fun j hj => by rw [n2 w hA j hj (hc j hj)])]
  refine ⟨d1, fun w hA r hr hn => ?_, fun w hA => ?_, fun t => ?_, hF, fun j j' hj hj' => n3 j j' hj hj' (hc j hj), n4, fun r j hr hj => ?_, fun j hj => ⟨hc j hj, e.2.2.2.2.2.2.2.2 j hj⟩⟩
  · show (cell r 0 : Rat) * room (rs r) w = _
    rw [← n1 w hA r hr hn, d2 w hA r hr]
    exact hv w hA r
  · show (cell r0 0 : Rat) * ((sg : Rat) * z0 w) = (sg : Rat) * rV C (cell r0) (fun j => room (cs j)) w
    rw [← hv w hA r0, ← d2 w hA r0 hr0, hz]
    grind
  · obtain ⟨w, hA, hw⟩ := d3 t
    exact ⟨w, hA, fun j hj => by rw [← hw j hj]; exact (n2 w hA j hj (hc j hj)).symm⟩
  · by_cases hn : rs r = 0
    · show rs r ≠ cs j
      rw [hn]; exact fun q => hc j hj q.symm
    · exact n5 r j hr hj hn
variable {Nm : Nat → Prop}
def bP (Nm : Nat → Prop) (R C : Nat) (rs cs : Nat → Nat) : Prop := ∀ S, Nm S → (∃ r, r < R ∧ rs r = S) ∨ ∃ j, j < C ∧ cs j = S
theorem bP_swap {rs cs : Nat → Nat} {r0 c0 : Nat} (h : bP Nm R C rs cs) (hr : r0 < R) (hc : c0 < C) : bP Nm R C (xSwap rs r0 (cs c0)) (xSwap cs c0 (rs r0)) := by
  intro S hS
  rcases h S hS with ⟨r, h1, h2⟩ | ⟨j, h1, h2⟩
  · by_cases q : r = r0
    · subst q; exact Or.inr ⟨c0, hc, by rw [xSwap_s]; exact h2⟩
    · exact Or.inl ⟨r, h1, by rw [xSwap_n q]; exact h2⟩
  · by_cases q : j = c0
    · subst q; exact Or.inl ⟨r0, hr, by rw [xSwap_s]; exact h2⟩
    · exact Or.inr ⟨j, h1, by rw [xSwap_n q]; exact h2⟩
/-- vectors by names; the frozen ones stay -/
def bV (R C : Nat) (vec : Nat → Nat → Int) (kk : Nat → Rat) (M0 : Nat → Nat → Int) (kM0 : Nat → Rat) (rs cs : Nat → Nat) (vr : Nat → Nat → Int) (kr : Nat → Rat) (M : Nat → Nat → Int) (kM : Nat → Rat) : Prop :=
  (∀ r, r < R → rs r ≠ 0 → vr r = vec (rs r) ∧ kr r = kk (rs r)) ∧ (∀ j, j < C → cs j ≠ 0 → (fun i => M i j) = vec (cs j) ∧ kM j = kk (cs j)) ∧ ∀ j, C ≤ j → (fun i => M i j) = (fun i => M0 i j) ∧ kM j = kM0 j
theorem bV_swap {vec : Nat → Nat → Int} {kk : Nat → Rat} {M0 : Nat → Nat → Int} {kM0 : Nat → Rat} {rs cs : Nat → Nat} {vr : Nat → Nat → Int} {kr : Nat → Rat} {M : Nat → Nat → Int} {kM : Nat → Rat} {r1 c0 : Nat} (h : bV R C vec kk M0 kM0 rs cs vr kr M kM) (hr : r1 < R) (hc : c0 < C) : bV R C vec kk M0 kM0 (xSwap rs r1 (cs c0)) (xSwap cs c0 (rs r1)) (xSwap vr r1 (fun i => M i c0)) (xSwap kr r1 (kM c0)) (zrep M c0 (vr r1)) (xSwap kM c0 (kr r1)) := by
  obtain ⟨h1, h2, h3⟩ := h
  have hz : ∀ j, j ≠ c0 → (fun i => zrep M c0 (vr r1) i j) = (fun i => M i j) := fun j hj => by
    funext i; unfold zrep; rw [if_neg hj]
  have hz0 : (fun i => zrep M c0 (vr r1) i c0) = vr r1 := by
    funext i; unfold zrep; rw [if_pos rfl]
  refine ⟨fun r hr' hn => ?_, fun j hj hn => ?_, fun j hj => ?_⟩
  · by_cases q : r = r1
    · subst q; rw [xSwap_s] at hn ⊢; rw [xSwap_s, xSwap_s]; exact h2 c0 hc hn
    · rw [xSwap_n q] at hn ⊢; rw [xSwap_n q, xSwap_n q]; exact h1 r hr' hn
  · by_cases q : j = c0
    · subst q; rw [xSwap_s] at hn ⊢; rw [xSwap_s, hz0]; exact h1 r1 hr hn
    · rw [xSwap_n q] at hn ⊢; rw [xSwap_n q, hz j q]; exact h2 j hj hn
  · rw [hz j (by omega), xSwap_n (by omega)]; exact h3 j hj
variable {vec : Nat → Nat → Int} {kk : Nat → Rat} {M0 : Nat → Nat → Int} {kM0 : Nat → Rat}
/-- all that a drive keeps -/
def bD (s : zS) (A : W → Prop) (R C : Nat) (X : W → Nat → Rat) (Q V : Int) (room : Nat → W → Rat) (Nm : Nat → Prop) (vec : Nat → Nat → Int) (kk : Nat → Rat) (M0 : Nat → Nat → Int) (kM0 : Nat → Rat) (rs0 : Nat → Nat) (idr0 : Nat → W → Rat) (rs cs : Nat → Nat) (cell : Nat → Nat → Int) : Prop :=
  ∃ idr idc vr kr M kM, bI s A R C rs cs cell idr idc X vr kr M kM Q V ∧ bN A room R C rs cs idr idc ∧ bF R rs cell ∧ (∀ j, j < C → cs j ≠ 0) ∧ bZ rs0 idr0 rs idr ∧ bV R C vec kk M0 kM0 rs cs vr kr M kM ∧ bP Nm R C rs cs
def bEnd (R C r0 : Nat) (sg : Int) (rs : Nat → Nat) (cell : Nat → Nat → Int) : Prop := (∀ j, j < C → sg * cell r0 (2 + j) ≤ 0) ∨ ∃ c, c < C ∧ 0 < sg * cell r0 (2 + c) ∧ ∀ r, r < R → ¬ isCnd rs cell c r
theorem b_drive {s : zS} {rs0 : Nat → Nat} {idr0 : Nat → W → Rat} {rs cs : Nat → Nat} {cell : Nat → Nat → Int} (h : bD s A R C X Q V room Nm vec kk M0 kM0 rs0 idr0 rs cs cell) (hr0 : r0 < R) (hz : rs0 r0 = 0) (hsg : sg = 1 ∨ sg = -1) :
    ∃ s' rs' cs' cell', D_X0_drive s (n32 (r0 : Int)) (n32 sg) = some s' ∧ bFrm s s' ∧ bD s' A R C X Q V room Nm vec kk M0 kM0 rs0 idr0 rs' cs' cell' ∧ bEnd R C r0 sg rs' cell' := by
  have key : ∀ (m i n : Nat) (s : zS) (f : Nat → (Nat → Nat) × (Nat → Nat) × (Nat → Nat → Int)) (q : Nat → Nat × Nat), i + m = 65536 → m + 1 < n → (∀ p, p ≤ i → tOk A room (fun w => (sg : Rat) * idr0 r0 w) R C sg r0 (f p)) → (∀ p, p < i → tStep R C sg r0 (f p) (f (p + 1)) (q p)) → bD s A R C X Q V room Nm vec kk M0 kM0 rs0 idr0 (f i).1 (f i).2.1 (f i).2.2 →
      ∃ s' rs' cs' cell', D_X0_drive_L2 (n32 (r0 : Int)) (n32 sg) n (n32 (i : Int)) s = some s' ∧ bFrm s s' ∧ bD s' A R C X Q V room Nm vec kk M0 kM0 rs0 idr0 rs' cs' cell' ∧ bEnd R C r0 sg rs' cell' := by
    intro m
    induction m with
    | zero =>
      intro i n s f q hi hn h1 h2 hD
      have := tRun hr0 h1 h2
      omega
    | succ m ih =>
      intro i n s f q hi hn h1 h2 hD
      obtain ⟨n, rfl⟩ : ∃ j, n = j + 1 := ⟨n - 1, by omega⟩
      obtain ⟨idr, idc, vr, kr, M, kM, hI, hN, hF, hc, hZ, hV, hP⟩ := id hD
      have hC := hI.1.2.1
      have hR := hI.1.1
      obtain ⟨x, e1, hdr⟩ := b_driving hI.1 (bI_small hI) hr0 hsg
      have is : n32 (i : Int) + 1 = n32 ((i + 1 : Nat) : Int) := by rw [l32_1, n32_add]; rfl
      have ilt : ¬ (1000000 : Int32) ≤ n32 (i : Int) := by
        rw [show (1000000 : Int32) = n32 1000000 from rfl, n32_le (by omega) (by omega) (by omega) (by omega)]; omega
      rw [D_X0_drive_L2_s]
      unfold D_X0_drive_B2
      rw [zif_f ilt, e1, zbs, is]
      rcases id hdr with ⟨hx, hno⟩ | ⟨c, hx, c1, c2, c3⟩
      · rw [hx, zif_t (show n32 (-1) = -1 from rfl)]
        exact ⟨s, _, _, _, rfl, bFrm_r s, hD, Or.inl (fun j hj => Int.not_lt.mp (hno j hj))⟩
      · subst hx
        rw [zif_f (by rw [l32_m1, n32_eq (by omega) (by omega) (by omega) (by omega)]; omega)]
        rcases b_enter hI hN hF c1 with ⟨e2, hno⟩ | ⟨r1, s', cell', q1, q2, q3, q4, q5, q6, q7, q8, q9, q10⟩
        · rw [e2, zbs, zif_t (show n32 (-1) = -1 from rfl)]
          exact ⟨s, _, _, _, rfl, bFrm_r s, hD, Or.inr ⟨c, c1, c2, hno⟩⟩
        · rw [q3, zbs, zif_f (by show ¬ n32 (r1 : Int) = -1; rw [l32_m1, n32_eq (by omega) (by omega) (by omega) (by omega)]; omega)]
          have hcn : ∀ j, j < C → xSwap (f i).2.1 c ((f i).1 r1) j ≠ 0 := fun j hj => by
            by_cases qj : j = c
            · subst qj; rw [xSwap_s]; exact q6
            · rw [xSwap_n qj]; exact hc j hj
          have hZ' : bZ rs0 idr0 (xSwap (f i).1 r1 ((f i).2.1 c)) (xSwap idr r1 (idc c)) := bZ_swap hZ q6 (hc c c1)
          have hD' : bD s' A R C X Q V room Nm vec kk M0 kM0 rs0 idr0 (xSwap (f i).1 r1 ((f i).2.1 c)) (xSwap (f i).2.1 c ((f i).1 r1)) cell' := ⟨_, _, _, _, _, _, q8, q9, q10, hcn, hZ', bV_swap hV q1 c1, bP_swap hP q1 c1⟩
          have hok := tOk_of (sg := sg) q8 q9 q10 hcn hr0 ((hZ' r0).2 hz)
          obtain ⟨s2, rs2, cs2, cell2, g1, g2, g3, g4⟩ := ih (i + 1) n s' (fun p => if p ≤ i then f p else (xSwap (f i).1 r1 ((f i).2.1 c), xSwap (f i).2.1 c ((f i).1 r1), cell')) (fun p => if p < i then q p else (c, r1)) (by omega) (by omega) (fun p hp => by
            by_cases hpi : p ≤ i
            · rw [if_pos hpi]; exact h1 p hpi
            · rw [if_neg hpi]; exact hok) (fun p hp => by
            by_cases hpi : p < i
            · rw [if_pos (by omega), if_pos (by omega), if_pos hpi]; exact h2 p hpi
            · obtain rfl : p = i := by omega
              rw [if_pos (by omega), if_neg (by omega), if_neg hpi]
              exact ⟨c1, hdr, q2, rfl, rfl⟩) (by
            rw [if_neg (by omega)]; exact hD')
          exact ⟨s2, rs2, cs2, cell2, g1, bFrm_t q4 g2, g3, g4⟩
  obtain ⟨idr, idc, vr, kr, M, kM, hI, hN, hF, hc, hZ, hV, hP⟩ := id h
  unfold D_X0_drive
  exact key 65536 0 zFU s (fun _ => (rs, cs, cell)) (fun _ => (0, 0)) (by omega) (zFU_lt (by omega)) (fun p _ => tOk_of hI hN hF hc hr0 ((hZ r0).2 hz)) (fun p hp => by omega) h
end DV
