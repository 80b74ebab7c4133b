/-! the first phase begins -/
def f0z (n F : Nat) : Prop := F = 2 ^ n - 1
def whI (n : Nat) (v : Nat → Int) (r : Nat) (w : cW) : Rat := if r < n then w.1 r else xS w.1 (r - n + 1) - (v (r - n + 1) : Rat) + w.2
theorem wh_start {s : zS} {n : Nat} {v : Nat → Int} {b : Int} (hw : wOk s n v) (hn2 : 2 ≤ n) (hbb : -2000 ≤ b ∧ b ≤ 2000) (h : bEnc s (n + 2 ^ n - 2) (n - 1) (whR n) (fun _ => 0) (whT n v b)) :
    bI s (cA (f0z n) (fun _ => (v (2 ^ n - 1) : Rat)) (b : Rat)) (n + 2 ^ n - 2) (n - 1) (whR n) (fun _ => 0) (whT n v b) (whI n v) (fun j w => w.1 j) (cX n) (fun r => if r < n then zunit r else cVec (r - n + 1)) (fun r => if r < n then 0 else (v (r - n + 1) : Rat)) (whM n) (fun j => if j = n - 1 then (v (2 ^ n - 1) : Rat) else if j = 4 then (b : Rat) else 0) 1 5000 := by
  obtain ⟨w1, w2, w3, w4, w5⟩ := hw
  have hp := pow_le4 w3
  have hvN := w5 (2 ^ n - 1) (by omega)
  have hS : ∀ r, r < n + 2 ^ n - 2 → ¬ r < n → r - n + 1 < 2 ^ n := fun r h1 h2 => by omega
  have h2r : ∀ r, r < n → 2 ^ r < 2 ^ n := fun r hr => Nat.pow_lt_pow_right (by omega) hr
  have hcst : ∀ S a, S < 16 → -3000 ≤ a → a ≤ 3000 → -4000 ≤ (hb S (n - 1) : Int) * v (2 ^ n - 1) - a ∧ (hb S (n - 1) : Int) * v (2 ^ n - 1) - a ≤ 4000 := fun S a _ h1 h2 => by
    rcases hb_01 S (n - 1) with q | q <;> rw [q] <;> simp <;> omega
  have hT : ∀ r, r < n + 2 ^ n - 2 → ∃ S a, S < 2 ^ n ∧ (-3000 ≤ a ∧ a ≤ 3000) ∧ whT n v b r = rWhK (n - 1) n S (v (2 ^ n - 1)) a ∧ ∀ w : cW, w.2 = (b : Rat) → whI n v r w = xS w.1 S - (a : Rat) := fun r hr => by
    unfold whT whI
    by_cases e : r < n
    · refine ⟨2 ^ r, 0, h2r r e, by omega, by rw [if_pos e], fun w hw => ?_⟩
      rw [if_pos e, xS_single w3 e]; simp; grind
    · have := w5 (r - n + 1) (by have := hS r hr e; omega)
      refine ⟨r - n + 1, v (r - n + 1) - b, hS r hr e, by omega, by rw [if_neg e], fun w hw => ?_⟩
      rw [if_neg e, hw, Rat.intCast_sub]; grind
  refine ⟨h, ⟨fun r hr => ?_, fun w hA r hr => ?_, fun t => ?_⟩, ⟨by omega, fun w hA r hr => ?_, fun w hA j hj => ?_, fun w hA j hj1 hj2 => ?_, fun r hr => ?_, fun j hj => whM_pm n j, whM_det n (by omega) w2, by omega, fun r hr => ?_, fun j hj => ?_⟩, fun r hr => ?_, by omega, by omega, by omega⟩
  · obtain ⟨S, a, h1, h2, h3, h4⟩ := hT r hr
    rw [h3]; show (0 : Int) < 1; omega
  · obtain ⟨S, a, h1, h2, h3, h4⟩ := hT r hr
    rw [h3, h4 w hA.2]
    have e := wh_val (a := a) w2 w3 h1 (hA.1 (2 ^ n - 1) rfl)
    have e1 : ((rWhK (n - 1) n S (v (2 ^ n - 1)) a 0 : Int) : Rat) = 1 := rfl
    rw [e1, Rat.one_mul, e]
    rfl
  · refine ⟨(fun j => if j < n - 1 then t j else (v (2 ^ n - 1) : Rat) - zsum (n - 1) t, (b : Rat)), ⟨fun F hF => ?_, rfl⟩, fun j hj => if_pos hj⟩
    rw [hF, xS_all w3]
    obtain ⟨m, rfl⟩ : ∃ m, n = m + 1 := ⟨n - 1, by omega⟩
    rw [zsum]
    dsimp only
    rw [if_neg (by omega), show m + 1 - 1 = m by omega, zsum_congr m (fun j hj => if_pos hj)]
    grind
  · unfold whI
    dsimp only
    by_cases e : r < n
    · rw [if_pos e, if_pos e, if_pos e, zunit_dot (by omega), cX_lt e]; grind
    · rw [if_neg e, if_neg e, if_neg e, cVec_dot w3 (hS r hr e)]; grind
  · have e1 : (fun i => whM n i j) = zunit j := by
      funext i
      unfold whM zunit
      rw [if_neg (by omega)]
    rw [e1, zunit_dot (by omega), cX_lt (by omega)]
    dsimp only
    rw [if_neg (by omega), if_neg (by omega)]; grind
  · dsimp only
    by_cases e : j = n - 1
    · rw [if_pos e]
      have hx := hA.1 (2 ^ n - 1) rfl
      rw [xS_all w3] at hx
      dsimp only at hx
      rw [← hx]
      subst e
      have hc : n = 2 ∨ n = 3 ∨ n = 4 := by omega
      rcases hc with rfl | rfl | rfl <;> simp [dot5, whM, cX, zsum] <;> grind
    · have e1 : (fun i => whM n i j) = zunit j := by
        funext i
        unfold whM zunit
        rw [if_neg e]
      rw [if_neg e, e1, zunit_dot hj2]
      by_cases e4 : j = 4
      · rw [if_pos e4, e4, cX_4 w3]; exact hA.2
      · rw [if_neg e4, cX_o (by omega) e4]
  · dsimp only
    by_cases e : r < n
    · rw [if_pos e]; exact zunit_pm r
    · rw [if_neg e]; exact cVec_pm _
  · rw [Rat.intCast_one, Rat.one_mul]
    dsimp only
    by_cases e : r < n
    · exact ⟨0, by rw [if_pos e]; rfl, by omega, by omega⟩
    · have := w5 (r - n + 1) (by have := hS r hr e; omega)
      exact ⟨v (r - n + 1), by rw [if_neg e], by omega, by omega⟩
  · rw [Rat.intCast_one, Rat.one_mul]
    dsimp only
    by_cases e : j = n - 1
    · exact ⟨v (2 ^ n - 1), by rw [if_pos e], by omega, by omega⟩
    · by_cases e4 : j = 4
      · exact ⟨b, by rw [if_neg e, if_pos e4], by omega, by omega⟩
      · exact ⟨0, by rw [if_neg e, if_neg e4]; rfl, by omega, by omega⟩
  · obtain ⟨S, a, h1, h2, h3, h4⟩ := hT r hr
    have hc := hcst S a (by omega) h2.1 h2.2
    rw [h3]
    unfold rWhK
    refine ⟨?_, ?_, fun j hj => ?_⟩
    · rw [if_pos rfl]; omega
    · rw [if_neg (by omega), if_pos rfl]; omega
    · rw [if_neg (by omega), if_neg (by omega), if_pos (by omega)]
      have := hb_01 S (2 + j - 2)
      have := hb_01 S (n - 1)
      omega
theorem whR_pos {n r : Nat} (h : whR n r ≠ 0) : n ≤ r ∧ whR n r = r - n + 1 := by
  unfold whR at *
  by_cases q : r < n
  · rw [if_pos q] at h; exact absurd rfl h
  · rw [if_neg q]; exact ⟨by omega, rfl⟩
theorem wh_names {n : Nat} {v : Nat → Int} {A : cW → Prop} : bN A (cRoom n v) (n + 2 ^ n - 2) (n - 1) (whR n) (fun _ => 0) (whI n v) (fun j w => w.1 j) := by
  refine ⟨fun w _ r hr hn => ?_, fun w _ j hj hn => absurd rfl hn, fun j j' _ _ hn _ => absurd rfl hn, fun r r' hr hr' hn e => ?_, fun r j hr hj hn e => hn e⟩
  · obtain ⟨h1, h2⟩ := whR_pos hn
    rw [h2, cRoom_t ⟨by omega, by omega⟩]
    unfold whI
    rw [if_neg (by omega)]
  · obtain ⟨h1, h2⟩ := whR_pos hn
    obtain ⟨h3, h4⟩ := whR_pos (n := n) (r := r') (by rw [← e]; exact hn)
    omega
theorem calm_start {s : zS} {n : Nat} {v : Nat → Int} (hw : wOk s n v) (hn2 : 2 ≤ n) : ∃ (b : Int) (s1 s2 : zS) (rs cs : Nat → Nat) (cell : Nat → Nat → Int), D_X3_layWhole s = some (n32 b, s1) ∧ D_X0_enterAll s1 = some s2 ∧ bFrm s s2 ∧ (-2000 ≤ b ∧ b ≤ 2000) ∧ PS s2 n v (f0z n) (fun _ => (v (2 ^ n - 1) : Rat)) (b : Rat) (n - 1) rs cs cell 1 5000 := by
  obtain ⟨w1, w2, w3, w4, w5⟩ := id hw
  have hp := pow_le4 w3
  have h4n : 4 ≤ 2 ^ n := by
    have := Nat.pow_le_pow_right (show 0 < 2 by omega) hn2
    omega
  obtain ⟨b, s1, e1, f1, g1, gc⟩ := lay_whole hw
  have hb : -2000 ≤ b ∧ b ≤ 2000 := by
    rcases gc.2 with q | ⟨S, q1, q2, q3⟩
    · omega
    · have h1 := w5 S (by omega)
      have h2 := w5 (2 ^ n - 1) (by omega)
      rcases hb_01 S (n - 1) with e | e <;> rw [e] at q3 <;> simp at q3 <;> omega
  have hI := wh_start (wOk_f hw f1) hn2 hb g1
  have h2c : ∀ c, c < n - 1 → cNm n (2 ^ c) ∧ cNm n (2 ^ n - 1 - 2 ^ c) := fun c hc => by
    have h1 : 2 ^ c < 2 ^ (n - 1) := Nat.pow_lt_pow_right (by omega) hc
    have h2 : 2 ^ n = 2 * 2 ^ (n - 1) := by rw [← Nat.pow_succ']; congr 1; omega
    have h3 : 1 ≤ 2 ^ c := Nat.one_le_two_pow
    exact ⟨⟨h3, by omega⟩, ⟨by omega, by omega⟩⟩
  obtain ⟨s2, rs, cs, cell, idr, e2, f2, D, P, z1, z2⟩ := b_enterAll (Nm := cNm n) (vec := cVec) (kk := fun S => (v S : Rat)) hI wh_names (fun r hr hne => by
      obtain ⟨h1, h2⟩ := whR_pos hne
      have := gc.1 (r - n + 1) (by omega) (by omega)
      show (0 : Int) ≤ whT n v b r 1
      unfold whT rWhK
      rw [if_neg (by omega), if_neg (by omega), if_pos rfl]
      omega) ⟨fun r hr hne => by
      obtain ⟨h1, h2⟩ := whR_pos hne
      dsimp only
      rw [if_neg (by omega), if_neg (by omega), h2]
      exact ⟨rfl, rfl⟩, fun j hj hne => absurd rfl hne, fun j hj => ⟨rfl, rfl⟩⟩ (fun S hS => Or.inl ⟨n + S - 1, by have := hS.1; have := hS.2; omega, by
      have := hS.1
      unfold whR
      rw [if_neg (by omega)]; omega⟩) (fun S hS => by have := hS.1; omega) (fun c hc w0 w1 a0 a1 hall => by
      obtain ⟨k1, k2⟩ := h2c c hc
      have h := hall _ k2
      rw [cRoom_t k2, cRoom_t k2, xS_compl w3 (by have := k1.2; omega), xS_compl w3 (by have := k1.2; omega), xS_single w3 (by omega), xS_single w3 (by omega), a0.1 (2 ^ n - 1) rfl, a1.1 (2 ^ n - 1) rfl, a0.2, a1.2] at h
      grind)
  obtain ⟨idr', idc, vr, kr, M, kM, hI2, hN2, hF2, hc2, hZ2, hV2, hP2⟩ := D
  refine ⟨b, s1, s2, rs, cs, cell, e1, e2, bFrm_t f1 f2, hb, idr', idc, vr, kr, M, kM, 4, hI2, hN2, hF2, hc2, fun r hr hne => hV2.1 r hr hne, fun j hj => hV2.2.1 j hj (hc2 j hj), fun r hr => ?_, ⟨by omega, by omega, ?_, ?_, fun j hj1 hj2 hj3 => ?_⟩, fun S hS => hP2 S hS.1, ?_, rfl, rfl⟩
  · have h0 := z1 r (by unfold whR; rw [if_pos hr])
    refine ⟨h0.1, ?_⟩
    rw [(hZ2 r).2 h0.1, h0.2]
    funext w
    exact if_pos hr
  · rw [(hV2.2.2 4 (by omega)).1]
    funext i
    unfold whM zunit
    rw [if_neg (by omega)]
  · rw [(hV2.2.2 4 (by omega)).2]
    dsimp only
    rw [if_neg (by omega), if_pos rfl]
  · have e : (fun i => M i j) 4 = (fun i => whM n i j) 4 := by rw [(hV2.2.2 j hj1).1]
    have e' : M 4 j = whM n 4 j := e
    rw [e']
    unfold whM
    (repeat' split) <;> omega
  · have h1 : ((-2000 : Int) : Rat) ≤ (b : Rat) := Rat.intCast_le_intCast.mpr hb.1
    have h2 : (b : Rat) ≤ ((2000 : Int) : Rat) := Rat.intCast_le_intCast.mpr hb.2
    exact ⟨h1, h2⟩
