/-! the ends: the next row -/
section EN
variable {rec81 : Int64 → Int64 → Int32 → zS → Option (Int32 × zS)} {a1 a2 : Int32} {a3 a5 : Int64}
theorem e377 {K a : Nat} {p : Nat → Nat} {a8 a9 : Int32} (hK : K ≤ 4) (ha : a < K) (hp : ∀ k, k < K → p k < 1000) : ∀ m f k s, k + m = K → a < k → m < f → pkE s K (fun j => if j < k then cNext p a j else p j) →
    ∃ s', D_X9_end_L377 rec81 a1 a2 a3 a5 (n32 (K : Int)) a8 a9 f (n32 (k : Int)) s = rec81 a3 a5 a9 s' ∧ uFrm s s' ∧ s'.2 = s.2 ∧ pkE s' K (cNext p a) := by
  intro m
  induction m with
  | zero =>
    intro f k s hk hak hf h
    obtain ⟨f, rfl⟩ : ∃ t, f = t + 1 := ⟨f - 1, by omega⟩
    obtain rfl : k = K := by omega
    refine ⟨s, ?_, uFrm_r s, rfl, fun j hj => ?_⟩
    · rw [D_X9_end_L377_s]
      unfold D_X9_end_B377
      rw [zif_t (Int32.le_refl _)]
    · rw [h j hj]
      dsimp only
      rw [if_pos hj]
  | succ m ih =>
    intro f k s hk hak hf h
    obtain ⟨f, rfl⟩ : ∃ t, f = t + 1 := ⟨f - 1, by omega⟩
    rw [D_X9_end_L377_s]
    unfold D_X9_end_B377
    have hk1 : n32 (k : Int) - (1 : Int32) = n32 ((k - 1 : Nat) : Int) := by
      rw [l32_1, n32_sub]
      congr 1
      omega
    have hpa := hp a ha
    have hkk := h (k - 1) (by omega)
    dsimp only at hkk
    rw [if_pos (by omega), show cNext p a (k - 1) = p a + 1 + (k - 1 - a) by unfold cNext; rw [if_neg (by omega)]] at hkk
    rw [zif_f (by rw [c32_le (by omega) (by omega)]; omega), hk1, zgd_t (czin (by omega) (by omega)), zgd_t (czin (by omega) (by omega)), n32_xn (by omega), n32_xn (by omega), hkk, nsuc, nsuc]
    obtain ⟨s2, e2, f2, g2, k2⟩ := ih f (k + 1) (zwI s 84 k (n32 ((p a + 1 + (k - 1 - a) + 1 : Nat) : Int))) (by omega) (by omega) (by omega) (fun j hj => by
      rw [zwI_at]
      try dsimp only
      by_cases e : j = k
      · rw [if_pos ⟨rfl, e⟩, if_pos (by omega), e, show cNext p a k = p a + 1 + (k - a) by unfold cNext; rw [if_neg (by omega)], show p a + 1 + (k - 1 - a) + 1 = p a + 1 + (k - a) by omega]
      · rw [if_neg (fun q => e q.2), h j hj]
        try dsimp only
        by_cases e2 : j < k
        · rw [if_pos e2, if_pos (by omega)]
        · rw [if_neg e2, if_neg (by omega)])
    refine ⟨s2, e2, uFrm_t (uFrm_84 _ _ _) f2, g2, k2⟩
theorem e312 {K M t : Nat} {p : Nat → Nat} {s : zS} (hK : K ≤ 4) (hM : M < 16) (ht : t + K = M + 1) (hp : cInc K t 1 p) (hpk : pkE s K p) :
    ∀ d f, d ≤ K → d < f → (∀ k, d ≤ k → k < K → p k = t + k) →
    (D_X9_end_L312 rec81 s a1 a2 a3 a5 (n32 (K : Int)) (n32 (M : Int)) f (n32 ((d : Int) - 1)) = rec81 a3 a5 0 s ∧ ∀ k, k < K → p k = t + k) ∨
    ∃ s' a, D_X9_end_L312 rec81 s a1 a2 a3 a5 (n32 (K : Int)) (n32 (M : Int)) f (n32 ((d : Int) - 1)) = rec81 a3 a5 1 s' ∧ uFrm s s' ∧ s'.2 = s.2 ∧ pkE s' K (cNext p a) ∧ a < K ∧ p a < t + a ∧ ∀ k, a < k → k < K → p k = t + k := by
  intro d
  induction d with
  | zero =>
    intro f hd hf hall
    obtain ⟨f, rfl⟩ : ∃ u, f = u + 1 := ⟨f - 1, by omega⟩
    left
    refine ⟨?_, fun k hk => hall k (by omega) hk⟩
    rw [D_X9_end_L312_s]
    unfold D_X9_end_B312 D_X9_end_J343 D_X9_end_J353
    rw [zif_t (by decide), zif_t (by decide), zif_t rfl]
  | succ d ih =>
    intro f hd hf hall
    obtain ⟨f, rfl⟩ : ∃ u, f = u + 1 := ⟨f - 1, by omega⟩
    rw [D_X9_end_L312_s]
    unfold D_X9_end_B312
    have hb' := hp.2 d (by omega)
    have hd1 : n32 (((d + 1 : Nat) : Int) - 1) = n32 (d : Int) := by congr 1; omega
    have hneg : ¬ n32 (d : Int) < 0 := by rw [l32_0, n32_lt (by omega) (by omega) (by omega) (by omega)]; omega
    have hlast : n32 (M : Int) - n32 (K : Int) + n32 (d : Int) + 1 = n32 ((t + d : Nat) : Int) := by
      rw [l32_1, n32_sub, n32_add, n32_add]
      congr 1
      omega
    rw [hd1, zif_f hneg, zgd_t (czin (by omega) (by omega)), n32_xn (by omega), hpk d (by omega), hlast]
    by_cases e : p d = t + d
    · rw [zif_t (by rw [e])]
      have hd2 : n32 (d : Int) + -1 = n32 ((d : Int) - 1) := by rw [l32_1, n32_neg, n32_add]; rfl
      rw [hd2]
      exact ih f (by omega) (by omega) (fun k h1 h2 => by
        by_cases e2 : k = d
        · rw [e2]; exact e
        · exact hall k (by omega) h2)
    · rw [zif_f (fun w => by have := (n32_eq (by omega) (by omega) (by omega) (by omega)).mp w; omega)]
      right
      unfold D_X9_end_J343
      rw [zif_f hneg]
      unfold D_X9_end_J353
      rw [zif_f (by decide), zgd_t (czin (by omega) (by omega)), zgd_t (czin (by omega) (by omega)), n32_xn (by omega), hpk d (by omega), nsuc, nsuc]
      obtain ⟨s2, e2, f2, g2, k2⟩ := e377 (p := p) (rec81 := rec81) (a1 := a1) (a2 := a2) (a3 := a3) (a5 := a5) (a8 := n32 (M : Int)) (a9 := (1 : Int32)) hK (show d < K by omega) (fun k hk => by have := (hp.2 k hk).2; omega) (K - (d + 1)) zFU (d + 1) (zwI s 84 d (n32 ((p d + 1 : Nat) : Int))) (by omega) (by omega) (zFU_lt (by omega)) (fun j hj => by
        rw [zwI_at]
        try dsimp only
        by_cases e3 : j = d
        · rw [if_pos ⟨rfl, e3⟩, if_pos (by omega), e3, show cNext p d d = p d + 1 by unfold cNext; rw [if_neg (by omega)]; omega]
        · rw [if_neg (fun q => e3 q.2), hpk j hj]
          by_cases e4 : j < d + 1
          · rw [if_pos e4, show cNext p d j = p j by unfold cNext; rw [if_pos (by omega)]]
          · rw [if_neg e4])
      exact ⟨s2, d, e2, uFrm_t (uFrm_84 _ _ _) f2, g2, k2, by omega, by omega, fun k h1 h2 => hall k (by omega) h2⟩
end EN
