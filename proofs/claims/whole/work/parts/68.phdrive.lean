/-! a phase's drive: the bound as far in as it goes -/
def NF (n : Nat) (Fz : Nat → Prop) (tf : Nat → Rat) (S : Nat) : Prop := cNm n S ∧ ¬ flatB (cB Fz tf) S
noncomputable def nRoom (n : Nat) (v : Nat → Int) (Fz : Nat → Prop) (tf : Nat → Rat) (S : Nat) (w : cW) : Rat := @ite Rat (NF n Fz tf S) (Classical.propDecidable _) (xS w.1 S - (v S : Rat) + w.2) 0
noncomputable def nVec (n : Nat) (Fz : Nat → Prop) (tf : Nat → Rat) (S : Nat) : Nat → Int := @ite (Nat → Int) (NF n Fz tf S) (Classical.propDecidable _) (cVec S) (zunit 4)
theorem nRoom_t {n S : Nat} {v : Nat → Int} {Fz : Nat → Prop} {tf : Nat → Rat} {w : cW} (h : NF n Fz tf S) : nRoom n v Fz tf S w = xS w.1 S - (v S : Rat) + w.2 := if_pos h
theorem nRoom_f {n S : Nat} {v : Nat → Int} {Fz : Nat → Prop} {tf : Nat → Rat} {w : cW} (h : ¬ NF n Fz tf S) : nRoom n v Fz tf S w = 0 := if_neg h
theorem nVec_t {n S : Nat} {Fz : Nat → Prop} {tf : Nat → Rat} (h : NF n Fz tf S) : nVec n Fz tf S = cVec S := if_pos h
theorem nVec_f {n S : Nat} {Fz : Nat → Prop} {tf : Nat → Rat} (h : ¬ NF n Fz tf S) : nVec n Fz tf S = zunit 4 := if_neg h
theorem compl_nm {n S : Nat} (h : cNm n S) : cNm n (2 ^ n - 1 - S) := ⟨by have := h.2; omega, by have := h.1; have := h.2; omega⟩
theorem compl_NF {n S : Nat} {Fz : Nat → Prop} {tf : Nat → Rat} (hn : n ≤ 4) (hN : Fz (2 ^ n - 1)) (h : NF n Fz tf S) : NF n Fz tf (2 ^ n - 1 - S) := by
  refine ⟨compl_nm h.1, fun hf => h.2 (fun x y hx hy => ?_)⟩
  have h1 := hf x y hx hy
  have hS : S < 2 ^ n := by have := h.1.2; omega
  rw [xS_compl hn hS, xS_compl hn hS, hx _ hN, hy _ hN] at h1
  grind
section PD
variable {s : zS} {n C : Nat} {v : Nat → Int} {Fz : Nat → Prop} {tf : Nat → Rat} {E : Rat} {rs cs : Nat → Nat} {cell : Nat → Nat → Int}
/-- where all rooms rise, the bound's column doesn't -/
theorem drawn_le (hn : n ≤ 4) (hN : Fz (2 ^ n - 1)) {S : Nat} (hS : NF n Fz tf S) {w0 w1 : cW} (a0 : cD Fz tf w0) (a1 : cD Fz tf w1) (h : ∀ S, NF n Fz tf S → nRoom n v Fz tf S w0 ≤ nRoom n v Fz tf S w1) : w0.2 ≤ w1.2 := by
  have hc := compl_NF hn hN hS
  have h1 := h S hS
  have h2 := h _ hc
  have hS2 : S < 2 ^ n := by have := hS.1.2; omega
  rw [nRoom_t hS, nRoom_t hS] at h1
  rw [nRoom_t hc, nRoom_t hc, xS_compl hn hS2, xS_compl hn hS2, a0 _ hN, a1 _ hN] at h2
  grind
theorem ph_drive {Q V : Int} (hn2 : 2 ≤ n) (hn : n ≤ 4) (hC1 : 1 ≤ C) (hC3 : C ≤ 3) (hV5 : 5000 ≤ V) (hfit : 2700 * (4 * Q * (4 * Q * (V + 2000))) < 4611686018427387904) (h : PS s n v Fz tf E C rs cs cell Q V) :
    ∃ (s1 s2 s3 s4 : zS) (r0 : Nat) (rs4 cs4 : Nat → Nat) (cell4 : Nat → Nat → Int) (idr4 idc4 : Nat → cW → Rat) (vr4 : Nat → Nat → Int) (kr4 : Nat → Rat) (M4 : Nat → Nat → Int) (kM4 : Nat → Rat), D_X0_releaseFlatRows s = some s1 ∧ D_X0_addDrawingIn s1 = some (n32 (C : Int), s2) ∧ D_X0_enter s2 (n32 (C : Int)) = some (n32 (r0 : Int), s3) ∧ D_X0_drive s3 (n32 (r0 : Int)) (n32 1) = some s4 ∧ bFrm s s4 ∧ r0 < n + 2 ^ n - 2 ∧
    bI s4 (cD Fz tf) (n + 2 ^ n - 2) (C + 1) rs4 cs4 cell4 idr4 idc4 (cX n) vr4 kr4 M4 kM4 (4 * Q) (V + 2000) ∧ bN (cD Fz tf) (nRoom n v Fz tf) (n + 2 ^ n - 2) (C + 1) rs4 cs4 idr4 idc4 ∧ bF (n + 2 ^ n - 2) rs4 cell4 ∧ (∀ j, j < C + 1 → cs4 j ≠ 0) ∧
    (rs4 r0 = 0 ∧ idr4 r0 = fun w => E - w.2) ∧ (∀ r, r < n → rs4 r = 0 ∧ idr4 r = fun w => w.1 r) ∧ (∀ r, r < n + 2 ^ n - 2 → rs4 r ≠ 0 → NF n Fz tf (rs4 r) ∧ vr4 r = cVec (rs4 r) ∧ kr4 r = (v (rs4 r) : Rat)) ∧
    (∀ j, j < C + 1 → NF n Fz tf (cs4 j) ∧ (fun i => M4 i j) = cVec (cs4 j) ∧ kM4 j = (v (cs4 j) : Rat)) ∧ (∀ j, C + 1 ≤ j → j < 5 → M4 4 j = 0) ∧ bP (NF n Fz tf) (n + 2 ^ n - 2) (C + 1) rs4 cs4 ∧ ∀ j, j < C + 1 → cell4 r0 (2 + j) ≤ 0 := by
  have hp := pow_le4 hn
  obtain ⟨idr0, idc0, vr0, kr0, M0, kM0, j10, hI0, hN0, hF00, hc0, hx1, hx2, hx3, hx4, hP0, hx5, hFN, hx6⟩ := id h
  obtain ⟨s1, s2, idr2, idc2, vr2, kr2, M2, kM2, e1, e2, f2, hI, hN, hF, hdC, hc, hvr, hvc, ⟨hMC, hkC⟩, hlv, hval, hP⟩ := ph_draw hn2 hn hC3 hV5 hfit h
  have hNF0 : ∀ j, j < C → NF n Fz tf (cs j) := fun j hj => by
    refine ⟨col_proper hI0.2.1 hN0 hj (hc0 j hj), fun hfl => ?_⟩
    obtain ⟨w0, a0, k0⟩ := hI0.2.1.2.2 (fun _ => 0)
    obtain ⟨w1, a1, k1⟩ := hI0.2.1.2.2 (fun _ => 1)
    have h0 := hN0.2.1 w0 a0 j hj (hc0 j hj)
    have h1 := hN0.2.1 w1 a1 j hj (hc0 j hj)
    have hcn := col_proper hI0.2.1 hN0 hj (hc0 j hj)
    rw [k0 j hj, cRoom_t hcn, a0.2] at h0
    rw [k1 j hj, cRoom_t hcn, a1.2, ← hfl w0.1 w1.1 a0.1 a1.1] at h1
    grind
  have hNFr : ∀ r, r < n + 2 ^ n - 2 → relR C cell rs r ≠ 0 → NF n Fz tf (relR C cell rs r) := fun r hr hne => by
    have hq : (¬ ∀ j, j < C → cell r (2 + j) = 0) ∧ relR C cell rs r = rs r := by
      unfold relR at hne ⊢
      by_cases q : ∀ j, j < C → cell r (2 + j) = 0
      · rw [if_pos q] at hne; exact absurd rfl hne
      · rw [if_neg q]; exact ⟨q, rfl⟩
    have hne' : rs r ≠ 0 := by rw [← hq.2]; exact hne
    rw [hq.2]
    refine Classical.byContradiction fun hno => hq.1 ?_
    by_cases hcn : cNm n (rs r)
    · have hfl : flatB (cB Fz tf) (rs r) := Classical.byContradiction fun q => hno ⟨hcn, q⟩
      obtain ⟨wz, az, -⟩ := hI0.2.1.2.2 (fun _ => 0)
      refine row_const hI0.2.1 hr (x := cRoom n v (rs r) wz) (fun w a => ?_)
      rw [hN0.1 w a r hr hne', cRoom_t hcn, cRoom_t hcn, hfl w.1 wz.1 a.1 az.1, a.2, az.2]
    · refine row_const hI0.2.1 hr (x := 0) (fun w a => ?_)
      rw [hN0.1 w a r hr hne']
      unfold cRoom
      exact if_neg hcn
  have hS0 := hNF0 0 (by omega)
  have hN2 : bN (cD Fz tf) (nRoom n v Fz tf) (n + 2 ^ n - 2) (C + 1) (relR C cell rs) (xSwap cs C 0) idr2 idc2 := by
    refine ⟨fun w a r hr hne => ?_, fun w a j hj hne => ?_, hN.2.2⟩
    · rw [hN.1 w a r hr hne, nRoom_t (hNFr r hr hne), cRoom_t (hNFr r hr hne).1]
    · have q : j ≠ C := fun q => by rw [q, xSwap_s] at hne; exact hne rfl
      have hj2 : j < C := by omega
      rw [hN.2.1 w a j hj hne, xSwap_n q, nRoom_t (hNF0 j hj2), cRoom_t (hNF0 j hj2).1]
  have hlift : ∀ w : cW, cD Fz tf w → ∀ e, cD Fz tf (w.1, e) := fun w a e => a
  rcases b_enter hI hN2 hF (show C < C + 1 by omega) with ⟨-, hno⟩ | ⟨r0, s3, cell3, q1, q2, q3, q4, q5, q6, q7, q8, q9, q10⟩
  · exfalso
    obtain ⟨r, hr, hcd⟩ := cand_ex (Nm := NF n Fz tf) hI.2.1 hN2 hP (fun S hS => by have := hS.1.1; omega) (show C < C + 1 by omega) (fun w0 w1 a0 a1 hall => by
      have := drawn_le hn hFN hS0 a0 a1 hall
      rw [hdC]
      dsimp only
      grind)
    exact hno r hr hcd
  · have hV2 : bV (n + 2 ^ n - 2) (C + 1) (nVec n Fz tf) (fun S => (v S : Rat)) M2 kM2 (relR C cell rs) (xSwap cs C 0) vr2 kr2 M2 kM2 := by
      refine ⟨fun r hr hne => ?_, fun j hj hne => ?_, fun j hj => ⟨rfl, rfl⟩⟩
      · rw [nVec_t (hNFr r hr hne)]; exact hvr r hr hne
      · have q : j ≠ C := fun q => by rw [q, xSwap_s] at hne; exact hne rfl
        have hj2 : j < C := by omega
        rw [xSwap_n q, nVec_t (hNF0 j hj2)]
        exact hvc j hj2
    obtain ⟨s4, rs4, cs4, cell4, e4, f4, D4, B4⟩ := b_drive (r0 := r0) (sg := 1) (Nm := NF n Fz tf) (rs0 := xSwap (relR C cell rs) r0 (xSwap cs C 0 C)) (idr0 := xSwap idr2 r0 (idc2 C)) ⟨_, _, _, _, _, _, q8, q9, q10, fun j hj => by
        by_cases e : j = C
        · rw [e, xSwap_s]; exact q6
        · rw [xSwap_n e, xSwap_n e]; exact hc j (by omega), fun r => ⟨Iff.rfl, fun _ => rfl⟩, bV_swap hV2 q1 (by omega), bP_swap hP q1 (by omega)⟩ q1 (by rw [xSwap_s, xSwap_s]) (Or.inl rfl)
    obtain ⟨idr4, idc4, vr4, kr4, M4, kM4, hI4, hN4, hF4, hc4, hZ4, hV4, hP4⟩ := id D4
    have hz0 : rs4 r0 = 0 := (hZ4 r0).1.mpr (by rw [xSwap_s, xSwap_s])
    have hd0 : idr4 r0 = fun w => E - w.2 := by rw [(hZ4 r0).2 (by rw [xSwap_s, xSwap_s]), xSwap_s, hdC]
    have hcol : ∀ j, j < C + 1 → NF n Fz tf (cs4 j) := fun j hj => by
      refine Classical.byContradiction fun e => ?_
      obtain ⟨w, a, hw⟩ := hI4.2.1.2.2 (fun _ => 1)
      have h := hN4.2.1 w a j hj (hc4 j hj)
      rw [hw j hj, nRoom_f e] at h
      exact absurd h (by decide)
    have hrow : ∀ r, r < n + 2 ^ n - 2 → rs4 r ≠ 0 → NF n Fz tf (rs4 r) := fun r hr hne => by
      refine Classical.byContradiction fun e => ?_
      obtain ⟨w, a, -⟩ := hI4.2.1.2.2 (fun _ => 0)
      have k : ∀ x, w.2 + x - kr4 r = 0 := fun x => by
        have b := hlift w a (w.2 + x)
        have h1 := hN4.1 _ b r hr hne
        have h2 := hI4.2.2.1.2.1 _ b r hr
        rw [nRoom_f e] at h1
        rw [h1, (hV4.1 r hr hne).1, nVec_f e, zunit_dot (by omega), cX_4 hn] at h2
        exact h2.symm
      have k0 := k 0
      have k1 := k 1
      grind
    refine ⟨s1, s2, s3, s4, r0, rs4, cs4, cell4, idr4, idc4, vr4, kr4, M4, kM4, e1, e2, q3, e4, bFrm_t f2 (bFrm_t q4 f4), q1, hI4, hN4, hF4, hc4, ⟨hz0, hd0⟩, fun r hr => ?_, fun r hr hne => ?_, fun j hj => ?_, fun j hj1 hj2 => ?_, hP4, ?_⟩
    · have hne : r ≠ r0 := fun q => q6 (by rw [← q]; exact (hval r hr).1)
      have h0 : xSwap (relR C cell rs) r0 (xSwap cs C 0 C) r = 0 := by rw [xSwap_n hne]; exact (hval r hr).1
      exact ⟨(hZ4 r).1.mpr h0, by rw [(hZ4 r).2 h0, xSwap_n hne]; exact (hval r hr).2⟩
    · have h1 := hrow r hr hne
      obtain ⟨k1, k2⟩ := hV4.1 r hr hne
      rw [nVec_t h1] at k1
      exact ⟨h1, k1, k2⟩
    · have h1 := hcol j hj
      obtain ⟨k1, k2⟩ := hV4.2.1 j hj (hc4 j hj)
      rw [nVec_t h1] at k1
      exact ⟨h1, k1, k2⟩
    · have e : (fun i => M4 i j) 4 = (fun i => M2 i j) 4 := by rw [(hV4.2.2 j hj1).1]
      have e' : M4 4 j = M2 4 j := e
      rw [e']
      exact hlv j hj1 hj2
    · rcases B4 with b | ⟨c, hc1, hc2, hno⟩
      · intro j hj
        have := b j hj
        omega
      · exfalso
        obtain ⟨w0, w1, a0, a1, hall, hray⟩ := ray_ex hI4.2.1 hN4 hP4 (fun S hS => by have := hS.1.1; omega) hc1 hno
        have hle := drawn_le hn hFN hS0 a0 a1 hall
        have hr := hray r0 q1
        rw [hd0] at hr
        have p0 := rat_pos (hI4.2.1.1 r0 q1)
        have hpos : (0 : Rat) < (cell4 r0 (2 + c) : Rat) := rat_pos (by omega)
        have hle2 : (cell4 r0 0 : Rat) * w0.2 ≤ (cell4 r0 0 : Rat) * w1.2 := Rat.mul_le_mul_of_nonneg_left hle (Rat.le_of_lt p0)
        dsimp only at hr
        grind
end PD
