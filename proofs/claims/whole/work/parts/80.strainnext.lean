/-! the reference's strain: all rows of free sets -/
theorem ls236 {K a : Nat} {p : Nat → Nat} {rec55 : Int32 → zS → Option zS} {a2 : Int32} (hK : K ≤ 4) (ha : a < K) (hp : ∀ k, k < K → p k < 1000) : ∀ m f k s, k + m = K → a < k → m < f → pkE s K (fun j => if j < k then cNext p a j else p j) →
    ∃ s', D_X9_layStrain_L236 rec55 (n32 (K : Int)) a2 f (n32 (k : Int)) s = rec55 a2 s' ∧ (∀ c k, c ≠ 84 → s'.1 c k = s.1 c k) ∧ s'.2 = s.2 ∧ pkE s' K (cNext p a) := by
  intro m
  induction m with
  | zero =>
    intro f k s hk hak hf h
    obtain ⟨f, rfl⟩ : ∃ t, f = t + 1 := ⟨f - 1, by omega⟩
    obtain rfl : k = K := by omega
    refine ⟨s, ?_, fun _ _ _ => rfl, rfl, fun j hj => ?_⟩
    · rw [D_X9_layStrain_L236_s]
      unfold D_X9_layStrain_B236
      rw [zif_t (Int32.le_refl _)]
    · rw [h j hj]
      dsimp only
      rw [if_pos hj]
  | succ m ih =>
    intro f k s hk hak hf h
    obtain ⟨f, rfl⟩ : ∃ t, f = t + 1 := ⟨f - 1, by omega⟩
    rw [D_X9_layStrain_L236_s]
    unfold D_X9_layStrain_B236
    have hk1 : n32 (k : Int) - (1 : Int32) = n32 ((k - 1 : Nat) : Int) := by
      rw [l32_1, n32_sub]
      congr 1
      omega
    have hpa := hp a ha
    have hkk := h (k - 1) (by omega)
    dsimp only at hkk
    rw [if_pos (by omega), show cNext p a (k - 1) = p a + 1 + (k - 1 - a) by unfold cNext; rw [if_neg (by omega)]] at hkk
    rw [zif_f (by rw [c32_le (by omega) (by omega)]; omega), hk1, zgd_t (czin (by omega) (by omega)), zgd_t (czin (by omega) (by omega)), n32_xn (by omega), n32_xn (by omega), hkk, nsuc, nsuc]
    obtain ⟨s2, e2, f2, g2, k2⟩ := ih f (k + 1) (zwI s 84 k (n32 ((p a + 1 + (k - 1 - a) + 1 : Nat) : Int))) (by omega) (by omega) (by omega) (fun j hj => by
      rw [zwI_at]
      try dsimp only
      by_cases e : j = k
      · rw [if_pos ⟨rfl, e⟩, if_pos (by omega), e, show cNext p a k = p a + 1 + (k - a) by unfold cNext; rw [if_neg (by omega)], show p a + 1 + (k - 1 - a) + 1 = p a + 1 + (k - a) by omega]
      · rw [if_neg (fun q => e q.2), h j hj]
        try dsimp only
        by_cases e2 : j < k
        · rw [if_pos e2, if_pos (by omega)]
        · rw [if_neg e2, if_neg (by omega)])
    exact ⟨s2, e2, fun c j h84 => by rw [f2 c j h84, zwI_at, if_neg (fun q => h84 q.1)], g2, k2⟩
theorem ls180 {K F : Nat} {p : Nat → Nat} {rec55 : Int32 → zS → Option zS} {s : zS} (hK : K ≤ 4) (hF : F ≤ 14) (hKF : K ≤ F) (hp : cInc K (F - K) 0 p) (h28 : s.1 66 28 = n32 (F : Int)) (hpk : pkE s K p) :
    ∀ d f, d ≤ K → d < f → (∀ k, d ≤ k → k < K → p k = F - K + k) →
    (D_X9_layStrain_L180 rec55 s (n32 (K : Int)) f (n32 ((d : Int) - 1)) = rec55 0 s ∧ ∀ k, k < K → p k = F - K + k) ∨
    ∃ s' a, D_X9_layStrain_L180 rec55 s (n32 (K : Int)) f (n32 ((d : Int) - 1)) = rec55 1 s' ∧ (∀ c k, c ≠ 84 → s'.1 c k = s.1 c k) ∧ s'.2 = s.2 ∧ pkE s' K (cNext p a) ∧ a < K ∧ p a < F - K + a ∧ ∀ k, a < k → k < K → p k = F - K + k := by
  intro d
  induction d with
  | zero =>
    intro f hd hf hall
    obtain ⟨f, rfl⟩ : ∃ u, f = u + 1 := ⟨f - 1, by omega⟩
    left
    refine ⟨?_, fun k hk => hall k (by omega) hk⟩
    rw [D_X9_layStrain_L180_s]
    unfold D_X9_layStrain_B180 D_X9_layStrain_J207 D_X9_layStrain_J216
    rw [zif_t (by decide), zif_t (by decide), zif_t rfl]
  | succ d ih =>
    intro f hd hf hall
    obtain ⟨f, rfl⟩ : ∃ u, f = u + 1 := ⟨f - 1, by omega⟩
    rw [D_X9_layStrain_L180_s]
    unfold D_X9_layStrain_B180
    have hb := hp.2 d (by omega)
    have hd1 : n32 (((d + 1 : Nat) : Int) - 1) = n32 (d : Int) := by congr 1; omega
    have hneg : ¬ n32 (d : Int) < 0 := by rw [l32_0, n32_lt (by omega) (by omega) (by omega) (by omega)]; omega
    rw [hd1, zif_f hneg, zgd_t (czin (by omega) (by omega)), n32_xn (by omega), hpk d (by omega), h28, n32_sub, n32_add]
    by_cases e : p d = F - K + d
    · rw [zif_t (by rw [n32_eq (by omega) (by omega) (by omega) (by omega)]; omega)]
      have hd2 : n32 (d : Int) + -1 = n32 ((d : Int) - 1) := by rw [l32_m1, n32_add]; rfl
      rw [hd2]
      exact ih f (by omega) (by omega) (fun k h1 h2 => by
        by_cases e2 : k = d
        · rw [e2]; exact e
        · exact hall k (by omega) h2)
    · rw [zif_f (by rw [n32_eq (by omega) (by omega) (by omega) (by omega)]; omega)]
      right
      unfold D_X9_layStrain_J207
      rw [zif_f hneg]
      unfold D_X9_layStrain_J216
      rw [zif_f (by decide), zgd_t (czin (by omega) (by omega)), zgd_t (czin (by omega) (by omega)), n32_xn (by omega), hpk d (by omega), nsuc, nsuc]
      obtain ⟨s2, e2, f2, g2, k2⟩ := ls236 (p := p) (rec55 := rec55) (a2 := (1 : Int32)) hK (show d < K by omega) (fun k hk => by have := (hp.2 k hk).2; omega) (K - (d + 1)) zFU (d + 1) (zwI s 84 d (n32 ((p d + 1 : Nat) : Int))) (by omega) (by omega) (zFU_lt (by omega)) (fun j hj => by
        rw [zwI_at]
        try dsimp only
        by_cases e3 : j = d
        · rw [if_pos ⟨rfl, e3⟩, if_pos (by omega), e3, show cNext p d d = p d + 1 by unfold cNext; rw [if_neg (by omega)]; omega]
        · rw [if_neg (fun q => e3 q.2), hpk j hj]
          by_cases e4 : j < d + 1
          · rw [if_pos e4, show cNext p d j = p j by unfold cNext; rw [if_pos (by omega)]]
          · rw [if_neg e4])
      exact ⟨s2, d, e2, fun c j h84 => by rw [f2 c j h84, zwI_at, if_neg (fun q => h84 q.1)], g2, k2, by omega, by omega, fun k h1 h2 => hall k (by omega) h2⟩
/-- who weighs more than nothing is noted -/
theorem ls119 {K F : Nat} {fr p : Nat → Nat} {x : Nat → Rat} {rec55 : Int32 → zS → Option zS} (hK : K ≤ 4) (hF : F ≤ 14) (hp : ∀ k, k < K → p k < F) : ∀ (d fu k : Nat) (s : zS) (B : Nat) (bp : Nat → Nat), k + d = K → d < fu → (∀ c, c < K → rCell s (6 * c + 5) (x c) ∧ (-75 ≤ (x c).num ∧ (x c).num ≤ 75)) → frE s F fr → pkE s K p → s.1 66 32 = n32 (B : Int) → B ≤ k → (∀ i, i < B → s.1 85 i = n32 (bp i : Int)) → (∀ i, i < B → ∃ c, c < K ∧ bp i = fr (p c) ∧ 0 < x c) → (B = 0 → ∀ c, c < k → x c ≤ 0) →
    ∃ (s' : zS) (B' : Nat) (bp' : Nat → Nat), D_X9_layStrain_L119 rec55 (n32 (K : Int)) fu (n32 (k : Int)) s = D_X9_layStrain_J176 rec55 s' (n32 (K : Int)) ∧ (∀ c k, (c = 66 → k ≠ 32) → c ≠ 85 → s'.1 c k = s.1 c k) ∧ s'.2 = s.2 ∧ s'.1 66 32 = n32 (B' : Int) ∧ B' ≤ K ∧ (∀ i, i < B' → s'.1 85 i = n32 (bp' i : Int)) ∧ (∀ i, i < B' → ∃ c, c < K ∧ bp' i = fr (p c) ∧ 0 < x c) ∧ (B' = 0 → ∀ c, c < K → x c ≤ 0) := by
  intro d
  induction d with
  | zero =>
    intro fu k s B bp hk hf hx hfe hpk h32 hB hb1 hb2 hb3
    obtain ⟨fu, rfl⟩ : ∃ t, fu = t + 1 := ⟨fu - 1, by omega⟩
    obtain rfl : k = K := by omega
    refine ⟨s, B, bp, ?_, fun _ _ _ _ => rfl, rfl, h32, hB, hb1, hb2, hb3⟩
    rw [D_X9_layStrain_L119_s]
    unfold D_X9_layStrain_B119
    rw [zif_t (Int32.le_refl _)]
  | succ d ih =>
    intro fu k s B bp hk hf hx hfe hpk h32 hB hb1 hb2 hb3
    obtain ⟨fu, rfl⟩ : ∃ t, fu = t + 1 := ⟨fu - 1, by omega⟩
    obtain ⟨hc, hcb⟩ := hx k (by omega)
    have hpk1 := hp k (by omega)
    have i65 : (6 : Int32) * n32 (k : Int) + (5 : Int32) = n32 ((6 * k + 5 : Nat) : Int) := ix6 k 5
    rw [D_X9_layStrain_L119_s]
    unfold D_X9_layStrain_B119
    rw [zif_f (by rw [c32_le (by omega) (by omega)]; omega), i65, zgd_t (czin (by omega) (by omega)), n32_xn (by omega), hc.1]
    by_cases hz : (x k).num ≤ 0
    · rw [zif_t (by rw [l64_0, lgc_le (by omega) (by omega) (by omega) (by omega)]; exact hz), nsuc]
      refine ih fu (k + 1) s B bp (by omega) (by omega) hx hfe hpk h32 (by omega) hb1 hb2 (fun h0 c hc => ?_)
      by_cases e : c = k
      · rw [e]
        refine Rat.not_lt.mp (fun q => ?_)
        have h1 := Rat.num_nonneg.mpr (Rat.le_of_lt q)
        have h2 : (x k).num = 0 := by omega
        rw [Rat.num_eq_zero.mp h2] at q
        exact absurd q (by decide)
      · exact hb3 h0 c (by omega)
    · rw [zif_f (by rw [l64_0, lgc_le (by omega) (by omega) (by omega) (by omega)]; exact hz), zgd_t (czin (by omega) (by omega)), n32_xn (by omega), hpk k (by omega), zgd_t (czin (by omega) (by omega)), n32_xn (by omega), hfe.2 _ hpk1, h32, zgd_t (czin (by omega) (by omega)), n32_xn (by omega), nsuc]
      have h32' : (zwI s 85 B (n32 (fr (p k) : Int))).1 66 32 = n32 (B : Int) := by rw [zwI_at, if_neg (fun q => by have := q.1; omega)]; exact h32
      dsimp only
      rw [h32', nsuc]
      have hxp : 0 < x k := Rat.not_le.mp (fun q => by
        by_cases e : x k = 0
        · rw [e] at hz; exact hz (by decide)
        · have h1 : 0 ≤ (x k).num := by omega
          have h2 := Rat.num_nonneg.mp h1
          exact e (Rat.le_antisymm q h2))
      obtain ⟨s', B', bp', e1, f1, g1, r1, r2, r3, r4, r5⟩ := ih fu (k + 1) (zwI (zwI s 85 B (n32 (fr (p k) : Int))) 66 32 (n32 ((B + 1 : Nat) : Int))) (B + 1) (fun i => if i = B then fr (p k) else bp i) (by omega) (by omega) hx ⟨by rw [zwI_at, if_neg (by omega), zwI_at, if_neg (by omega)]; exact hfe.1, fun i hi => by rw [zwI_at, if_neg (by omega), zwI_at, if_neg (by omega)]; exact hfe.2 i hi⟩ (fun i hi => by rw [zwI_at, if_neg (by omega), zwI_at, if_neg (by omega)]; exact hpk i hi) (by rw [zwI_at, if_pos ⟨rfl, rfl⟩]) (by omega) (fun i hi => by
          rw [zwI_at, if_neg (by omega), zwI_at]
          try dsimp only
          by_cases e : i = B
          · rw [if_pos ⟨rfl, e⟩, if_pos e]
          · rw [if_neg (fun q => e q.2), if_neg e]; exact hb1 i (by omega)) (fun i hi => by
          try dsimp only
          by_cases e : i = B
          · rw [if_pos e]; exact ⟨k, by omega, rfl, hxp⟩
          · rw [if_neg e]; exact hb2 i (by omega)) (fun h0 => by omega)
      exact ⟨s', B', bp', e1, fun c i h66 h85 => by rw [f1 c i h66 h85, zwI_at, if_neg (fun q => h66 q.1 q.2), zwI_at, if_neg (fun q => h85 q.1)], g1, r1, r2, r3, r4, r5⟩
