/-! the ends: one row weighed -/
section EW
variable {n side : Nat} {v : Nat → Int} {q : Nat → Nat} {sg : Int} {rec81 : Int64 → Int64 → Int32 → zS → Option (Int32 × zS)} {a2 a8 : Int32} {a3 a5 : Int64}
theorem eQ_lt (hn1 : 1 ≤ n) (hn : n ≤ 4) (hq : ∀ k, k < n - 1 → q k < 2 ^ n) (i : Nat) : eQ n q i < 2 ^ n := by
  have hp := pow_le4 hn
  unfold eQ
  split
  · exact hq i (by assumption)
  · omega
theorem eQ_congr {q' : Nat → Nat} (h : ∀ k, k < n - 1 → q' k = q k) (i : Nat) : eQ n q' i = eQ n q i := by
  unfold eQ
  split
  · exact h i (by assumption)
  · rfl
theorem e_row {s : zS} {o : Option Rat} {H inc : (Nat → Nat) → Prop} (hs : side < n) (hsg : (sg = -1 ∧ a2 = 0) ∨ (sg = 1 ∧ a2 = 1)) (hu : uOk s n v) (hq : ∀ k, k < n - 1 → q k < 2 ^ n) (hinc : inc q) (hpk : pkE s (n - 1) q) (hE : endE sg a3 a5 o) (hI : bstI (fun q u => eVal n v side q ((sg : Rat) * u)) inc H o) :
    ∃ s' b3 b5 o', ((D_X9_noRows s).bind fun p87 => D_X9_end_L93 rec81 (n32 (side : Int)) a2 a3 a5 (n32 ((n : Int) - 1)) a8 zFU (0 : Int32) p87) = D_X9_end_J306 rec81 s' (n32 (side : Int)) a2 b3 b5 (n32 ((n : Int) - 1)) a8 ∧ mFrm s s' ∧ endE sg b3 b5 o' ∧ ∀ H' : (Nat → Nat) → Prop, (∀ q', H' q' → H q' ∨ ∀ k, k < n - 1 → q' k = q k) → bstI (fun q u => eVal n v side q ((sg : Rat) * u)) inc H' o' := by
  obtain ⟨u1, hn1, hn, u4, u5⟩ := id hu
  have hp := pow_le4 hn
  have hlt := fun i => eQ_lt hn1 hn hq i
  obtain ⟨s1, e1, f1, g1⟩ := r_noRows s
  obtain ⟨s2, f2, g2, e2⟩ := e93 (rec81 := rec81) (a1 := n32 (side : Int)) (a2 := a2) (a3 := a3) (a5 := a5) (a8 := a8) (q := q) (fun k hk => by have := hq k hk; omega) n zFU 0 s1 (by omega) (zFU_lt (by omega)) (uOk_f hu (uFrm_m f1)) (pkE_m hpk f1) (mE_ext g1 (fun r hr c hc => by (try dsimp only); rw [if_neg (by omega)]))
  have e2' : D_X9_end_L93 rec81 (n32 (side : Int)) a2 a3 a5 (n32 ((n : Int) - 1)) a8 zFU (0 : Int32) s1 = _ := e2
  rw [e1, zbs, e2']
  unfold D_X9_end_B93
  have hu2 := uOk_f hu (uFrm_m (mFrm_t f1 f2))
  rw [hu2.1, zif_t (Int32.le_refl _)]
  have hsm : sMt (cmMx n (eQ n q)) (cmMq n (eQ n q) (fun e => (v (eQ n q e) : Rat))) 1 1000 := by
    refine ⟨fun i _ c hc => if_pos hc, fun c _ => ⟨1, Or.inl rfl, fun i _ => ?_⟩, fun i hi => ?_, by omega, by omega⟩
    · have := hb_01 (eQ n q i) c
      unfold cmMx
      dsimp only
      split <;> omega
    · unfold cmMq
      rw [if_neg (by omega)]
      by_cases e : i < n
      · rw [if_pos e]
        have := u5 (eQ n q i) (by have := hlt i; omega)
        exact ⟨v (eQ n q i), by dsimp only; grind, by omega, by omega⟩
      · rw [if_neg e]
        exact ⟨0, Rat.mul_zero _, by omega, by omega⟩
  have hM5 : ∀ k c, n ≤ k → k < 5 → c < 6 → cmMq n (eQ n q) (fun e => (v (eQ n q e) : Rat)) k c = 0 := fun k c h1 h2 h3 => by
    unfold cmMq cmMx
    (repeat' split) <;> first | rfl | (exfalso; omega)
  have hrow : ∀ y : Nat → Rat, (∀ c, n ≤ c → c < 5 → y c = 0) → ∀ i, i < n → sum5 (fun c => (cmMx n (eQ n q) i c : Rat) * y c) = xS y (eQ n q i) := fun y hy i hi => by
    rw [xS_zsum hn (hlt i), ← zsum_sum5 (n := n) (by omega) (fun c h1 h2 => by rw [hy c h1 h2]; grind)]
    refine zsum_congr n (fun c hc => ?_)
    unfold cmMx
    rw [if_pos ⟨hi, hc⟩]
  have hq' : ∀ q', (∀ k, k < n - 1 → q' k = q k) → ∀ t, eVal n v side q' t → eVal n v side q t := fun q' h t ⟨h1, x, h2, h3⟩ => by
    have e := eQ_congr h
    exact ⟨fun z hz => h1 z (fun k hk => by rw [e]; exact hz k hk), x, fun k hk => by rw [← e]; exact h2 k hk, h3⟩
  have ff := mFrm_t f1 f2
  rcases r_solve2 hsm ⟨by decide, by decide⟩ (show n ≤ 5 by omega) hM5 (s := s2) (fun r hr c hc => g2 r (by omega) c hc) with ⟨s3, e3, f3, y, ⟨c0, y1, y2⟩, y3, y4⟩ | ⟨s3, x, D, e3, f3, x1, x2, x3, x4, x5, x6⟩
  · rw [e3, zbs, zif_t rfl]
    refine ⟨s3, a3, a5, o, rfl, mFrm_t ff f3, hE, fun H' hH => bstI_skip hI (fun q' h' => ?_)⟩
    rcases hH q' h' with a | a
    · exact Or.inl a
    · right
      intro t ht
      exact y2 ((hq' q' a _ ht).1 y (fun k hk => by rw [← hrow y (fun c h1 _ => y3 c h1) k hk]; exact y4 k (by omega)) c0 y1)
  · have hu3 := uOk_f hu (uFrm_m (mFrm_t ff f3))
    have hbd : ∀ c, (-75000 ≤ (x c).num ∧ (x c).num ≤ 75000) ∧ (x c).den ≤ 15 := fun c => by
      obtain ⟨z, z1, z2, z3⟩ := x6 c
      have := com_bd (A := 75000) (B := 15) x5.1 z1 (by omega) (by omega)
      omega
    have hbind : ∀ k, k < n → xS x (eQ n q k) = (v (eQ n q k) : Rat) := fun k hk => by
      rw [← hrow x (fun c h1 _ => x2 c h1) k hk, ← x3 k (by omega)]
      unfold cmMq
      rw [if_neg (by omega), if_pos hk]
    have hnull : ∀ z : Nat → Rat, (∀ k, k < n → xS z (eQ n q k) = 0) → ∀ i, i < n → z i = 0 := fun z hz i hi => by
      have hcut : ∀ S, S < 2 ^ n → xS (fun c => if c < n then z c else 0) S = xS z S := fun S hS => by
        rw [xS_zsum hn hS, xS_zsum hn hS]
        exact zsum_congr n (fun c hc => by rw [if_pos hc])
      have h := x4 (fun c => if c < n then z c else 0) (fun c h1 _ => if_neg (by omega)) (fun i hi => by
        by_cases e : i < n
        · rw [hrow _ (fun c h1 _ => if_neg (by omega)) i e, hcut _ (hlt i)]; exact hz i e
        · have : ∀ c, cmMx n (eQ n q) i c = 0 := fun c => by unfold cmMx; rw [if_neg (by omega)]
          unfold sum5
          simp only [this]
          grind) i (by omega)
      try dsimp only at h
      rw [if_pos hi] at h
      exact h
    have hwhole : xS x (2 ^ n - 1) = (v (2 ^ n - 1) : Rat) := by
      have h := hbind (n - 1) (by omega)
      unfold eQ at h
      rw [if_neg (by omega)] at h
      exact h
    have huniq : ∀ t, eVal n v side q t → coreP n v x ∧ t = x side := fun t ⟨_, x', h2, h3, h4⟩ => by
      have hz := hnull (fun i => x' i - x i) (fun k hk => by rw [xS_sub, h2 k hk, hbind k hk]; grind)
      have he : ∀ i, i < n → x' i = x i := fun i hi => by have := hz i hi; grind
      refine ⟨⟨fun S hS => ?_, hwhole⟩, by rw [← h4]; exact he side hs⟩
      have h5 := h3.1 S hS
      have h6 : xS x S = xS x' S := by
        rw [xS_zsum hn hS.2, xS_zsum hn hS.2]
        exact zsum_congr n (fun c hc => by rw [he c hc])
      rw [h6]
      exact h5
    rw [e3, zbs, zif_f (show ¬ ((1 : Int32) = 0) by decide)]
    dsimp only
    rcases is_core hu3 (fun c hc => ⟨x1 c hc, hbd c⟩) with ⟨e4, hc⟩ | ⟨e4, hc⟩
    · have i65 : (6 : Int32) * n32 (side : Int) + (5 : Int32) = n32 ((6 * side + 5 : Nat) : Int) := ix6 side 5
      obtain ⟨b3, b5, e5, hE5⟩ := e_take (n := n) (rec81 := rec81) (a8 := a8) (s := s3) (p := x side) hsg (show side < 5 by omega) (x1 side hs) (hbd side) hE
      rw [e4, zbs, zif_f (by decide), i65, zgd_t (czin (by omega) (by omega)), zgd_t (czin (by omega) (by omega)), n32_xn (by omega), (x1 side hs).1, (x1 side hs).2, e5]
      have hsq : (sg : Rat) * ((sg : Rat) * x side) = x side := by
        rcases hsg with ⟨rfl, -⟩ | ⟨rfl, -⟩
        · have c : ((-1 : Int) : Rat) = -1 := rfl
          rw [c]; grind
        · have c : ((1 : Int) : Rat) = 1 := rfl
          rw [c]; grind
      have hval : eVal n v side q ((sg : Rat) * ((sg : Rat) * x side)) := by
        rw [hsq]
        exact ⟨hnull, x, hbind, ⟨hc, hwhole⟩, rfl⟩
      refine ⟨s3, b3, b5, _, rfl, mFrm_t ff f3, hE5, fun H' hH => bstI_take hI hinc hval (fun q' h' => ?_)⟩
      rcases hH q' h' with a | a
      · exact Or.inl a
      · right
        intro t ht
        have h1 := (huniq _ (hq' q' a _ ht)).2
        rw [← h1]
        rcases hsg with ⟨rfl, -⟩ | ⟨rfl, -⟩
        · have c : ((-1 : Int) : Rat) = -1 := rfl
          rw [c]; grind
        · have c : ((1 : Int) : Rat) = 1 := rfl
          rw [c]; grind
    · rw [e4, zbs, zif_t rfl]
      refine ⟨s3, a3, a5, o, rfl, mFrm_t ff f3, hE, fun H' hH => bstI_skip hI (fun q' h' => ?_)⟩
      rcases hH q' h' with a | a
      · exact Or.inl a
      · right
        intro t ht
        exact hc (huniq _ (hq' q' a _ ht)).1.1
end EW
