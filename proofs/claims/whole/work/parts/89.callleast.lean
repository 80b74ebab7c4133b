/-! the calls on shares: least and core -/
section SQ
variable {n : Nat} {v : Nat → Int}
theorem calmK_b {s s' : zS} (h : calmK s n v) (hn : n ≤ 4) (f : bFrm s s') : calmK s' n v := by
  rcases h with h | ⟨x, h1, h2, h3⟩
  · exact Or.inl (by rw [f.1 4 4 (by omega) (by omega) (by omega)]; exact h)
  · refine Or.inr ⟨x, calmE_f h1 hn (fun c k a b => f.2 c k (by omega)), h2, fun q => ?_⟩
    obtain ⟨E, hE, hs⟩ := h3 q
    exact ⟨E, ⟨by rw [f.2 37 0 (by omega)]; exact hE.1, by rw [f.2 37 1 (by omega)]; exact hE.2⟩, hs⟩
theorem calmK_w {s : zS} {x y : Int64} (h : calmK s n v) (hn : n ≤ 4) : calmK (zwL (zwL s 1 0 x) 1 1 y) n v := by
  have f : ∀ c k, 33 ≤ c → (zwL (zwL s 1 0 x) 1 1 y).2 c k = s.2 c k := fun c k h => by rw [zwL_at, if_neg (by omega), zwL_at, if_neg (by omega)]
  rcases h with h | ⟨x, h1, h2, h3⟩
  · exact Or.inl h
  · refine Or.inr ⟨x, calmE_f h1 hn (fun c k a b => f c k a), h2, fun q => ?_⟩
    obtain ⟨E, hE, hs⟩ := h3 q
    exact ⟨E, ⟨by rw [f 37 0 (by omega)]; exact hE.1, by rw [f 37 1 (by omega)]; exact hE.2⟩, hs⟩
theorem frEq_w {s s' : zS} {x y : Int64} (f : uFrm (zwL (zwL s 1 0 x) 1 1 y) s') : frEq (zwL (zwL s' 66 3 x) 66 4 y) := by
  refine ⟨?_, ?_⟩
  · rw [zwL_at, if_neg (by omega), zwL_at, if_neg (by omega), f.2 1 0 (by omega) (by omega) (by omega) (by omega) (by omega) (by omega), zwL_at, if_neg (by omega), zwL_at, if_pos ⟨rfl, rfl⟩, zwL_at, if_neg (by omega), zwL_at, if_pos ⟨rfl, rfl⟩]
  · rw [zwL_at, if_neg (by omega), zwL_at, if_neg (by omega), f.2 1 1 (by omega) (by omega) (by omega) (by omega) (by omega) (by omega), zwL_at, if_pos ⟨rfl, rfl⟩, zwL_at, if_pos ⟨rfl, rfl⟩]
theorem frEq_f {s s1 s2 : zS} (h : frEq s) (f : bFrm s s1) (g : uFrm s1 s2) : frEq s2 := by
  refine ⟨?_, ?_⟩
  · rw [g.2 1 0 (by omega) (by omega) (by omega) (by omega) (by omega) (by omega), f.2 1 0 (by omega), g.2 66 3 (by omega) (by omega) (by omega) (by omega) (by omega) (by omega), f.2 66 3 (by omega)]; exact h.1
  · rw [g.2 1 1 (by omega) (by omega) (by omega) (by omega) (by omega) (by omega), f.2 1 1 (by omega), g.2 66 4 (by omega) (by omega) (by omega) (by omega) (by omega) (by omega), f.2 66 4 (by omega)]; exact h.2
/-- what a row tells -/
theorem tell_row {s : zS} {R C r : Nat} {rs cs : Nat → Nat} {cell : Nat → Nat → Int} (h : bEnc s R C rs cs cell) (hr : r < R) (h0 : 0 < cell r 0 ∧ cell r 0 < 4611686018427387904) (h1 : -4611686018427387904 < cell r 1 ∧ cell r 1 < 4611686018427387904) : D_X3_tellRow s (n32 (r : Int)) = some (zwL (zwL s 1 0 (n64 ((cell r 1 : Rat) / (cell r 0 : Rat)).num)) 1 1 (n64 (((cell r 1 : Rat) / (cell r 0 : Rat)).den : Int))) := by
  unfold D_X3_tellRow
  rw [b_const h hr, zbs, b_below h hr, zbs, f8_put zshp1 h0.1 h0.2 h1, zbs]
theorem ref_frac {s : zS} {L : Rat} (h33 : s.2 66 33 = n64 L.num) (h34 : s.2 66 34 = n64 (L.den : Int)) (hn : -4611686018427387904 < L.num ∧ L.num < 4611686018427387904) (hd : (L.den : Int) < 4611686018427387904) : D_X9_fraction s (s.2 66 33) (s.2 66 34) = some (1, zwL (zwL s 66 3 (n64 L.num)) 66 4 (n64 (L.den : Int))) := by
  have := L.den_pos
  rw [h33, h34, f9_put (by omega) hd hn, rat_n1]
/-- the class's board of the least pay, small and whole -/
theorem least_cells {s s9 : zS} (hw : wOk s n v) (hu : uOk s9 n v) : ∃ s' rs cs cell L s9', D_X3_layLeastPay s = some s' ∧ bFrm s s' ∧ bEnc s' (n + 2 ^ n) n rs cs cell ∧ (0 < cell n 0 ∧ cell n 0 ≤ 15) ∧ (-90000 ≤ cell n 1 ∧ cell n 1 ≤ 90000) ∧ L = (cell n 1 : Rat) / (cell n 0 : Rat) ∧ leastP n v L ∧ D_X9_layPay s9 = some s9' ∧ uFrm s9 s9' ∧ bstE s9' (some L) ∧ bstS 4915200000 65536 (some L) := by
  have hp := pow_le4 hw.2.2.1
  obtain ⟨s', rs, cs, cell, idr, L, s9', e, f, hD, h0, hid, hop, hL, hP, e9, f9, b1, b2⟩ := least_both hw hu
  obtain ⟨idr', idc, vr, kr, M, kM, hI, -⟩ := hD
  have a1 := hI.2.1.1 n (by omega)
  have a2 := hI.2.2.2.1 n (by omega)
  exact ⟨s', rs, cs, cell, L, s9', e, f, hI.1, ⟨a1, by omega⟩, ⟨by omega, by omega⟩, hL, hP, e9, f9, b1, b2⟩
theorem is_whole {s : zS} {rs cs : Nat → Nat} {cell : Nat → Nat → Int} {L : Rat} (hw : wOk s n v) (h : bEnc s (n + 2 ^ n) n rs cs cell) (h0 : 0 < cell n 0 ∧ cell n 0 ≤ 15) (h1 : -90000 ≤ cell n 1 ∧ cell n 1 ≤ 90000) (hL : L = (cell n 1 : Rat) / (cell n 0 : Rat)) : (D_X3_isWhole s = some 1 ∧ L = (v (2 ^ n - 1) : Rat)) ∨ (D_X3_isWhole s = some 0 ∧ L ≠ (v (2 ^ n - 1) : Rat)) := by
  obtain ⟨w1, w2, w3, w4, w5⟩ := hw
  have hp := pow_le4 w3
  have hv := w5 (2 ^ n - 1) (by omega)
  have hcp := rat_pos h0.1
  have hcne : (cell n 0 : Rat) ≠ 0 := fun e => by rw [e] at hcp; exact absurd hcp (by decide)
  have hiff : L = (v (2 ^ n - 1) : Rat) ↔ cell n 1 = cell n 0 * v (2 ^ n - 1) := by
    have hLm : L * (cell n 0 : Rat) = (cell n 1 : Rat) := by rw [hL, Rat.div_mul_cancel hcne]
    constructor
    · intro e
      rw [e] at hLm
      refine ratInt_inj ?_
      push_cast
      rw [← hLm, Rat.mul_comm]
    · intro e
      refine rat_cancel hcne ?_
      rw [Rat.mul_comm, hLm, e]
      push_cast; rfl
  have hm : -15000 ≤ cell n 0 * v (2 ^ n - 1) ∧ cell n 0 * v (2 ^ n - 1) ≤ 15000 := by
    have := abs_mul (A := 15) (B := 1000) (show -15 ≤ cell n 0 by omega) h0.2 hv.1 hv.2
    omega
  unfold D_X3_isWhole
  rw [w1, b_const h (by omega), zbs, b_below h (by omega), zbs, x7_all w1 (by omega), zbs, zgd_t (czin (by omega) (by omega)), n32_xn (by omega), w4 (2 ^ n - 1) (by omega), n32_64 (by omega) (by omega), n64_mul]
  by_cases e : cell n 1 = cell n 0 * v (2 ^ n - 1)
  · exact Or.inl ⟨zif_t ((lgc_eq (by omega) (by omega) (by omega) (by omega)).mpr e), hiff.mpr e⟩
  · exact Or.inr ⟨zif_f (fun q => e ((lgc_eq (by omega) (by omega) (by omega) (by omega)).mp q)), fun q => e (hiff.mp q)⟩
theorem call_least {s : zS} (hw : wOk s n v) (hu : uOk s n v) (hk : calmK s n v) (hf : frEq s) (a : Int32) : shC s n v (fun s => D_X8_least s a) (fun s => D_X9_least s a) := by
  obtain ⟨k, rfl, hk1, hk2⟩ := i32_of a
  obtain ⟨w1, w2, w3, w4, w5⟩ := id hw
  by_cases e : 0 ≤ k ∧ k ≤ 1
  · have hi8 : D_X8_within (n32 k) 0 1 = some 1 := by
      have h := x8_in (a := k) (lo := 0) (hi := 1) ⟨hk1, hk2⟩ (by omega) (by omega)
      rw [if_pos e] at h; exact h
    have hi9 : D_X9_in (n32 k).toInt64 0 1 = some 1 := by rw [l64_0, l64_1, x9_in32 ⟨hk1, hk2⟩ (by omega) (by omega), if_pos e]
    by_cases e0 : k = 0
    · subst e0
      obtain ⟨s0, rs, cs, cell, L, -, e1, f1, hE, c0, c1, hL, -⟩ := least_cells hw hu
      have e2 := tell_row hE (show n < n + 2 ^ n by have := pow_le4 w3; omega) ⟨c0.1, by omega⟩ ⟨by omega, by omega⟩
      rw [← hL] at e2
      have hc := cFrm_t (cFrm_k (kFrm_b f1)) (cFrm_w s0 (n64 L.num) (n64 (L.den : Int)))
      have hu1 := uOk_c hu hc
      obtain ⟨t0, rs', cs', cell', L', s2, e1', -, hE', c0', c1', hL', -, e3, f3, b1, b2⟩ := least_cells hw hu1
      have hLL : L' = L := by
        have hs := e1.symm.trans e1'
        obtain rfl := Option.some.inj hs
        have q0 := (b_below hE (show n < n + 2 ^ n by have := pow_le4 w3; omega)).symm.trans (b_below hE' (show n < n + 2 ^ n by have := pow_le4 w3; omega))
        have q1 := (b_const hE (show n < n + 2 ^ n by have := pow_le4 w3; omega)).symm.trans (b_const hE' (show n < n + 2 ^ n by have := pow_le4 w3; omega))
        rw [hL, hL', (n64_eq (by omega) (by omega) (by omega) (by omega)).mp (Option.some.inj q0), (n64_eq (by omega) (by omega) (by omega) (by omega)).mp (Option.some.inj q1)]
      subst hLL
      obtain ⟨b21, b22⟩ := b2
      have hLd := L'.den_pos
      have hv := vFrm_t (vFrm_u f3) (vFrm_w s2 (n64 L'.num) (n64 (L'.den : Int)))
      refine ⟨1, _, _, ?_, ?_, hc, hv, calmK_v (calmK_w (calmK_b hk w3 f1) w3) w3 hv, frEq_w f3⟩
      · dsimp only
        unfold D_X8_least
        rw [hi8, zbs, zif_f (by decide), zif_t (show n32 0 = (0 : Int32) from rfl), e1, zbs, (wOk_f hw f1).1, e2, zbs]
      · dsimp only
        unfold D_X9_least
        rw [hi9, zbs, zif_f (by decide), zif_t (show n32 0 = (0 : Int32) from rfl), e3, zbs, ref_frac b1.1 b1.2 ⟨by omega, by omega⟩ (by omega), zbs]
    · obtain rfl : k = 1 := by omega
      by_cases en : n = 1
      · refine sh_same hk hf (r := 0) ?_ ?_
        · try dsimp only
          unfold D_X8_least
          rw [hi8, zbs, zif_f (by decide), zif_f (by decide), w1, en, zif_t (show n32 ((1 : Nat) : Int) = (1 : Int32) from rfl)]
        · try dsimp only
          unfold D_X9_least
          rw [hi9, zbs, zif_f (by decide), zif_f (by decide), hu.1, en, zif_t (show n32 ((1 : Nat) : Int) = (1 : Int32) from rfl)]
      · obtain ⟨s1, x, e1, f1, w', g1, ok, hE⟩ := find_calm hw hk
        obtain ⟨E, l1, hst⟩ := hE (by omega)
        obtain ⟨d1, d2⟩ := hst.1
        have hdp := E.den_pos
        have hc := cFrm_t (cFrm_k f1) (cFrm_w s1 (n64 E.num) (n64 (E.den : Int)))
        have hu1 := uOk_c hu hc
        obtain ⟨s2, s3, e3, e4, f4, h33, h34⟩ := r_strain (by omega) hu1 ok hst
        have hv := vFrm_t (vFrm_u f4) (vFrm_w s3 (n64 E.num) (n64 (E.den : Int)))
        have hne : ¬ (n32 (n : Int) = 1) := fun q => by rw [l32_1] at q; have := (n32_eq (by omega) (by omega) (by omega) (by omega)).mp q; omega
        refine ⟨1, _, _, ?_, ?_, hc, hv, calmK_v (calmK_w (Or.inr ⟨x, g1, ok, hE⟩) w3) w3 hv, frEq_w f4⟩
        · dsimp only
          unfold D_X8_least
          rw [hi8, zbs, zif_f (by decide), zif_f (by decide), w1, zif_f hne, e1, zbs]
          unfold D_X3_tellStrain
          rw [l1.1, l1.2, f8_put zshp1 (by omega) (by omega) (by omega), zbs, zbs, rat_n1]
        · dsimp only
          unfold D_X9_least
          rw [hi9, zbs, zif_f (by decide), zif_f (by decide), hu1.1, zif_f hne, e3, zbs, e4, zbs, ref_frac h33 h34 ⟨by omega, by omega⟩ (by omega), zbs]
  · refine sh_same hk hf (r := -2) ?_ ?_
    · try dsimp only
      unfold D_X8_least
      have h := x8_in (a := k) (lo := 0) (hi := 1) ⟨hk1, hk2⟩ (by omega) (by omega)
      rw [if_neg e] at h
      have h' : D_X8_within (n32 k) 0 1 = some 0 := h
      rw [h', zbs, zif_t rfl]
    · try dsimp only
      unfold D_X9_least
      rw [l64_0, l64_1, x9_in32 ⟨hk1, hk2⟩ (by omega) (by omega), zbs, if_neg e, zif_t rfl]
end SQ
