/-! the call end: both answer the same -/
section EY
variable {n : Nat} {v : Nat → Int}
theorem e54 {K : Nat} {a1 a2 a8 : Int32} {a3 a5 : Int64} (hK : K ≤ 4) : ∀ m f k s, k + m = K → m < f → pkE s k (fun j => j + 1) →
    ∃ s', D_X9_end_L54 a1 a2 a3 a5 (n32 (K : Int)) a8 f (n32 (k : Int)) s = D_X9_end_L81 a1 a2 (n32 (K : Int)) a8 zFU a3 a5 (1 : Int32) s' ∧ uFrm s s' ∧ s'.2 = s.2 ∧ pkE s' K (fun j => j + 1) := by
  intro m
  induction m with
  | zero =>
    intro f k s hk hf h
    obtain ⟨f, rfl⟩ : ∃ t, f = t + 1 := ⟨f - 1, by omega⟩
    obtain rfl : k = K := by omega
    refine ⟨s, ?_, uFrm_r s, rfl, h⟩
    rw [D_X9_end_L54_s]
    unfold D_X9_end_B54
    rw [zif_t (Int32.le_refl _)]
  | succ m ih =>
    intro f k s hk hf h
    obtain ⟨f, rfl⟩ : ∃ t, f = t + 1 := ⟨f - 1, by omega⟩
    rw [D_X9_end_L54_s]
    unfold D_X9_end_B54
    rw [zif_f (by rw [c32_le (by omega) (by omega)]; omega), zgd_t (czin (by omega) (by omega)), n32_xn (by omega), nsuc]
    obtain ⟨s2, e2, f2, g2, k2⟩ := ih f (k + 1) (zwI s 84 k (n32 ((k + 1 : Nat) : Int))) (by omega) (by omega) (fun j hj => by
      rw [zwI_at]
      try dsimp only
      by_cases e : j = k
      · rw [if_pos ⟨rfl, e⟩, e]
      · rw [if_neg (fun q => e q.2)]; exact h j (by omega))
    exact ⟨s2, e2, uFrm_t (uFrm_84 _ _ _) f2, g2, k2⟩
/-- the reference's end is the class's -/
theorem ref_end {s : zS} {side : Nat} {sg : Int} {a2 : Int32} {x : Nat → Rat} (hs : side < n) (hsg : (sg = -1 ∧ a2 = 0) ∨ (sg = 1 ∧ a2 = 1)) (hu : uOk s n v) (hx : coreP n v x) (hv : vtxP n v x) (hbest : ∀ y, coreP n v y → (sg : Rat) * y side ≤ (sg : Rat) * x side) :
    ∃ s', D_X9_end_L54 (n32 (side : Int)) a2 (0 : Int64) (0 : Int64) (n32 ((n : Int) - 1)) (n32 ((2 ^ n - 2 : Nat) : Int)) zFU (0 : Int32) s = some (1, zwL (zwL s' 66 3 (n64 (x side).num)) 66 4 (n64 ((x side).den : Int))) ∧ uFrm s s' := by
  obtain ⟨u1, hn1, hn, u4, u5⟩ := id hu
  have hp := pow_le4 hn
  have hK : (n : Int) - 1 = ((n - 1 : Nat) : Int) := by omega
  have h2n : 2 ≤ 2 ^ n := by
    have : n = 1 ∨ n = 2 ∨ n = 3 ∨ n = 4 := by omega
    rcases this with rfl | rfl | rfl | rfl <;> decide
  have hnn : n ≤ 2 ^ n - 1 := by
    have : n = 1 ∨ n = 2 ∨ n = 3 ∨ n = 4 := by omega
    rcases this with rfl | rfl | rfl | rfl <;> decide
  obtain ⟨s1, e1, f1, g1, k1⟩ := e54 (K := n - 1) (a1 := n32 (side : Int)) (a2 := a2) (a8 := n32 ((2 ^ n - 2 : Nat) : Int)) (a3 := 0) (a5 := 0) (s := s) (by omega) (n - 1) zFU 0 (by omega) (zFU_lt (by omega)) (fun k hk => by omega)
  obtain ⟨s2, b3, b5, o, e2, f2, hE, hI⟩ := e81 (n := n) (side := side) (v := v) (sg := sg) (a2 := a2) (M := 2 ^ n - 2) (t := 2 ^ n - n) hs hsg (by omega) rfl zFU (fun j => j + 1) s1 0 0 none ⟨fun k hk => by dsimp only; omega, fun k hk => by dsimp only; omega⟩ (by
    have h1 : (16 : Nat) ^ (n - 1) ≤ 16 ^ 4 := Nat.pow_le_pow_right (by omega) (by omega)
    have h2 : 65536 < zFU := zFU_lt (by omega)
    have h3 : (16 : Nat) ^ 4 = 65536 := rfl
    omega) (uOk_f hu f1) k1 ⟨rfl, rfl⟩ (fun q hq => by
      exfalso
      obtain ⟨q1, q2⟩ := hq
      have := cCode_le (p := fun j => j + 1) (q := q) (n - 1) (fun k hk => by
        induction k with
        | zero => exact (q1.2 0 hk).1
        | succ k ih =>
          have h1 := ih (by omega)
          have h2 := q1.1 k hk
          omega)
      omega)
  have e1' : D_X9_end_L54 (n32 (side : Int)) a2 (0 : Int64) (0 : Int64) (n32 ((n - 1 : Nat) : Int)) (n32 ((2 ^ n - 2 : Nat) : Int)) zFU (0 : Int32) s = _ := e1
  rw [hK] at e2
  obtain ⟨p, p1, p2⟩ := vtx_row (side := side) hn1 hn hx hv
  have hsq : ∀ t : Rat, (sg : Rat) * ((sg : Rat) * t) = t := fun t => by
    rcases hsg with ⟨rfl, -⟩ | ⟨rfl, -⟩
    · have c : ((-1 : Int) : Rat) = -1 := rfl
      rw [c]; grind
    · have c : ((1 : Int) : Rat) = 1 := rfl
      rw [c]; grind
  have p3 : eVal n v side p ((sg : Rat) * ((sg : Rat) * x side)) := by rw [hsq]; exact p2
  cases o with
  | none => exact absurd p3 (hI p p1 _)
  | some u =>
    obtain ⟨⟨q, q1, q2⟩, q3⟩ := hI
    have h1 := q3 p p1 _ p3
    obtain ⟨-, y, y1, y2, y3⟩ := q2
    have h2 := hbest y y2
    rw [y3, hsq] at h2
    have hux : u = (sg : Rat) * x side := Rat.le_antisymm h2 h1
    obtain ⟨t, t1, rfl, rfl, t4, t5⟩ := hE
    have htx : t = x side := by
      have h3 : (sg : Rat) * ((sg : Rat) * t) = (sg : Rat) * ((sg : Rat) * x side) := by rw [← t1, hux]
      rw [hsq, hsq] at h3
      exact h3
    rw [htx] at e2 t4 t5
    have hd := (x side).den_pos
    refine ⟨s2, ?_, uFrm_t f1 f2⟩
    rw [hK, e1', e2, f9_put (by omega) (by omega) ⟨by omega, by omega⟩, zbs, rat_n1]
theorem call_end {s : zS} (hw : wOk s n v) (hu : uOk s n v) (hk : calmK s n v) (hf : frEq s) (a b : Int32) : shC s n v (fun s => D_X8_end s a b) (fun s => D_X9_end s a b) := by
  obtain ⟨k, rfl, hk1, hk2⟩ := i32_of a
  obtain ⟨w, rfl, hw1, hw2⟩ := i32_of b
  obtain ⟨w1, w2, w3, w4, w5⟩ := id hw
  have hp := pow_le4 w3
  by_cases e : 0 ≤ k ∧ k ≤ (n : Int) - 1
  · have h8 := x7_side (a := k) w1 ⟨w2, w3⟩ ⟨hk1, hk2⟩
    have h9 := fun (t : zS) (ht : uOk t n v) => x9_side (a := k) ht.1 ⟨w2, w3⟩ ⟨hk1, hk2⟩
    rw [if_pos e] at h8
    simp only [if_pos e] at h9
    obtain ⟨side, rfl⟩ : ∃ j : Nat, k = (j : Int) := ⟨k.toNat, by omega⟩
    have hs : side < n := by omega
    have i8 := x8_in (a := w) (lo := 0) (hi := 1) ⟨hw1, hw2⟩ (by omega) (by omega)
    have i9 := x9_in32 (a := w) (lo := 0) (hi := 1) ⟨hw1, hw2⟩ (by omega) (by omega)
    by_cases e2 : 0 ≤ w ∧ w ≤ 1
    · rw [if_pos e2] at i8 i9
      have i8' : D_X8_within (n32 w) 0 1 = some 1 := i8
      have i9' : D_X9_in (n32 w).toInt64 0 1 = some 1 := i9
      obtain ⟨xc, E, ok, hE⟩ := calm_ex hw hk
      obtain ⟨s1, rs, cs, cell, idr, e1, f1, hD, h0, hid, hop, hrows⟩ := least_end2 hw
      obtain ⟨L, hL, hP, c0, c1, hB⟩ : ∃ L, L = (cell n 1 : Rat) / (cell n 0 : Rat) ∧ leastP n v L ∧ (0 < cell n 0 ∧ cell n 0 ≤ 15) ∧ (-90000 ≤ cell n 1 ∧ cell n 1 ≤ 90000) ∧ bEnc s1 (n + 2 ^ n) n rs cs cell := by
        obtain ⟨idr', idc, vr, kr, M, kM, hI, hN, hF, hc, hZ, hV, hPP⟩ := id hD
        have hid' : idr' n = fun w => xS w (2 ^ n - 1) := by rw [(hZ n).2 h0]; exact hid
        obtain ⟨hc2, ⟨y, y1, y2⟩, hpay⟩ := lp_dual w2 w3 (show n < n + 2 ^ n by omega) hI.2.1 hN hF hPP hc hid' hop
        have a1 := hI.2.1.1 n (by omega)
        have a2 := hI.2.2.2.1 n (by omega)
        exact ⟨_, rfl, ⟨⟨y, y1, y2⟩, fun z hz => payVal_le w3 hc2 hpay hz⟩, ⟨a1, by omega⟩, ⟨by omega, by omega⟩, hI.1⟩
      have hiff := core_iff w2 w3 hP ok hE
      have hcne : (cell n 0 : Rat) ≠ 0 := fun e => by have := rat_pos c0.1; rw [e] at this; exact absurd this (by decide)
      have hw1' := wOk_f hw f1
      rcases is_whole hw1' hB c0 c1 hL with ⟨e3, h3⟩ | ⟨e3, h3⟩
      · have hLm : (cell n 1 : Rat) = (cell n 0 : Rat) * (v (2 ^ n - 1) : Rat) := by
          rw [← h3, hL, Rat.mul_comm, Rat.div_mul_cancel hcne]
        obtain ⟨sg, hsg, hj8⟩ : ∃ sg : Int, ((sg = -1 ∧ n32 w = 0) ∨ (sg = 1 ∧ n32 w = 1)) ∧ D_X8_end s (n32 (side : Int)) (n32 w) = D_X8_end_J71 s1 (n32 (side : Int)) (n32 (n : Int)) (n32 (side : Int)) (n32 sg) := by
          unfold D_X8_end
          rw [h8, zbs, zif_f (by decide), i8', zbs, zif_f (by decide), e1, zbs, e3, zbs, zif_f (by decide), hw1'.1]
          by_cases ew : w = 0
          · subst ew
            exact ⟨-1, Or.inl ⟨rfl, rfl⟩, by rw [zif_t (show n32 0 = (0 : Int32) from rfl)]; rfl⟩
          · obtain rfl : w = 1 := by omega
            exact ⟨1, Or.inr ⟨rfl, rfl⟩, by rw [zif_f (by decide)]; rfl⟩
        obtain ⟨s2, x, rs', cs', cell', C', e4, f4, hB', d0, d1, hxs, hcore, hvtx, hbest⟩ := end_drive w2 w3 hs (hsg.elim (fun q => Or.inr q.1) (fun q => Or.inl q.1)) hD hid hop hrows h0 hLm
        have e5 := tell_row hB' (show side < n + 2 ^ n by omega) ⟨d0.1, by omega⟩ ⟨by omega, by omega⟩
        rw [← hxs] at e5
        have f14 := bFrm_t f1 f4
        have hc := cFrm_t (cFrm_k (kFrm_b f14)) (cFrm_w s2 (n64 (x side).num) (n64 ((x side).den : Int)))
        have hu1 := uOk_c hu hc
        obtain ⟨r, s3, e6, f6, hr⟩ := ref_core hu1 ok hE
        obtain ⟨rfl, -⟩ : r = 1 ∧ True := by
          rcases hr with ⟨q, -⟩ | ⟨-, q⟩
          · exact ⟨q, trivial⟩
          · exact absurd (hiff.mp h3) q
        have hu3 := uOk_f hu1 f6
        obtain ⟨s4, e7, f7⟩ := ref_end hs hsg hu3 hcore hvtx hbest
        have f67 := uFrm_t f6 f7
        have hv := vFrm_t (vFrm_u f67) (vFrm_w s4 (n64 (x side).num) (n64 ((x side).den : Int)))
        refine ⟨1, _, _, ?_, ?_, hc, hv, calmK_v (calmK_w (calmK_b hk w3 f14) w3) w3 hv, frEq_w f67⟩
        · dsimp only
          rw [hj8]
          unfold D_X8_end_J71
          rw [e4, zbs, e5, zbs]
        · dsimp only
          have hal : n32 ((2 ^ n - 1 : Nat) : Int) - (1 : Int32) = n32 ((2 ^ n - 2 : Nat) : Int) := by
            rw [l32_1, n32_sub]
            congr 1
            have : 2 ≤ 2 ^ n := by
              have : n = 1 ∨ n = 2 ∨ n = 3 ∨ n = 4 := by omega
              rcases this with rfl | rfl | rfl | rfl <;> decide
            omega
          have hn1 : n32 (n : Int) - (1 : Int32) = n32 ((n : Int) - 1) := by rw [l32_1, n32_sub]
          unfold D_X9_end
          rw [h9 _ hu1, zbs, zif_f (by decide), i9', zbs, zif_f (by decide), e6, zbs, zif_f (show ¬ ((1 : Int32) = 0) by decide), x9_all hu3.1 (by omega), zbs]
          dsimp only
          rw [hal, hu3.1, hn1, e7]
      · have hc := cFrm_k (kFrm_b f1)
        have hu1 := uOk_c hu hc
        obtain ⟨r, s3, e6, f6, hr⟩ := ref_core hu1 ok hE
        obtain ⟨rfl, -⟩ : r = 0 ∧ True := by
          rcases hr with ⟨-, q⟩ | ⟨q, -⟩
          · exact absurd (hiff.mpr q) h3
          · exact ⟨q, trivial⟩
        have hv := vFrm_u f6
        refine ⟨0, s1, s3, ?_, ?_, hc, hv, calmK_v (calmK_b hk w3 f1) w3 hv, frEq_f hf f1 f6⟩
        · dsimp only
          unfold D_X8_end
          rw [h8, zbs, zif_f (by decide), i8', zbs, zif_f (by decide), e1, zbs, e3, zbs, zif_t rfl]
        · dsimp only
          unfold D_X9_end
          rw [h9 _ hu1, zbs, zif_f (by decide), i9', zbs, zif_f (by decide), e6, zbs, zif_t rfl]
    · rw [if_neg e2] at i8 i9
      have i8' : D_X8_within (n32 w) 0 1 = some 0 := i8
      have i9' : D_X9_in (n32 w).toInt64 0 1 = some 0 := i9
      refine sh_same hk hf (r := -2) ?_ ?_
      · try dsimp only
        unfold D_X8_end
        rw [h8, zbs, zif_f (by decide), i8', zbs, zif_t rfl]
      · try dsimp only
        unfold D_X9_end
        rw [h9 _ hu, zbs, zif_f (by decide), i9', zbs, zif_t rfl]
  · refine sh_same hk hf (r := -2) ?_ ?_
    · try dsimp only
      unfold D_X8_end
      rw [x7_side w1 ⟨w2, w3⟩ ⟨hk1, hk2⟩, zbs, if_neg e, zif_t rfl]
    · try dsimp only
      unfold D_X9_end
      rw [x9_side hu.1 ⟨w2, w3⟩ ⟨hk1, hk2⟩, zbs, if_neg e, zif_t rfl]
end EY
