/-! the reference's balance: the equations laid -/
def blMx (n K m : Nat) (q g : Nat → Nat) (i c : Nat) : Int := if i < n then (if c < K then (hb (q c) i : Int) else if c < K + m then -(hb (g (c - K)) i : Int) else 0) else if i = n then (if c < K then 1 else 0) else 0
def blMq (n K m : Nat) (q g : Nat → Nat) (i c : Nat) : Rat := if c < 5 then (blMx n K m q g i c : Rat) else if i = n then 1 else 0
theorem blMx_pm (n K m : Nat) (q g : Nat → Nat) (c : Nat) : pm1 (fun i => blMx n K m q g i c) := by
  by_cases e : c < K
  · refine ⟨1, Or.inl rfl, fun i _ => ?_⟩
    have := hb_01 (q c) i
    unfold blMx
    dsimp only
    (repeat' split) <;> omega
  · refine ⟨-1, Or.inr rfl, fun i _ => ?_⟩
    have := hb_01 (g (c - K)) i
    unfold blMx
    dsimp only
    (repeat' split) <;> omega
theorem bl_sMt (n K m : Nat) (q g : Nat → Nat) : sMt (blMx n K m q g) (blMq n K m q g) 1 1 := by
  refine ⟨fun i _ c hc => if_pos hc, fun c _ => blMx_pm n K m q g c, fun i _ => ?_, by omega, by omega⟩
  by_cases e : i = n
  · exact ⟨1, by unfold blMq; rw [if_neg (by omega), if_pos e]; exact Rat.mul_one _, by omega, by omega⟩
  · exact ⟨0, by unfold blMq; rw [if_neg (by omega), if_neg e]; exact Rat.mul_zero _, by omega, by omega⟩
theorem l64_m1 : (-1 : Int64) = n64 (-1) := rfl
section BA
variable {n m K F : Nat} {g fr p : Nat → Nat}
theorem bl16 {i : Nat} {rec6 : Int32 → zS → Option (Int32 × zS)} (hK : K + m = n + 1) (hn : n ≤ 4) (hi : i < n) (hF : F ≤ 14) (hp : ∀ k, k < K → p k < F) (hfr : ∀ k, k < F → fr k < 16) : ∀ d fu k s, k + d = K → d < fu → frE s F fr → pkE s K p → mE s 5 (fun r c => if r < i ∨ (r = i ∧ c < k) then blMq n K m (fun k => fr (p k)) g r c else 0) →
    ∃ s', mFrm s s' ∧ mE s' 5 (fun r c => if r < i ∨ (r = i ∧ c < K) then blMq n K m (fun k => fr (p k)) g r c else 0) ∧ D_X9_balances_L16 rec6 (n32 (K : Int)) (n32 (i : Int)) fu (n32 (k : Int)) s = D_X9_balances_L59 rec6 (n32 (K : Int)) (n32 (i : Int)) zFU (0 : Int32) s' := by
  intro d
  induction d with
  | zero =>
    intro fu k s hk hf hfe hpk h
    obtain ⟨fu, rfl⟩ : ∃ t, fu = t + 1 := ⟨fu - 1, by omega⟩
    obtain rfl : k = K := by omega
    refine ⟨s, mFrm_r s, h, ?_⟩
    rw [D_X9_balances_L16_s]
    unfold D_X9_balances_B16
    rw [zif_t (Int32.le_refl _)]
  | succ d ih =>
    intro fu k s hk hf hfe hpk h
    obtain ⟨fu, rfl⟩ : ∃ t, fu = t + 1 := ⟨fu - 1, by omega⟩
    have hpk1 := hp k (by omega)
    rw [D_X9_balances_L16_s]
    unfold D_X9_balances_B16
    rw [zif_f (by rw [c32_le (by omega) (by omega)]; omega), zgd_t (czin (by omega) (by omega)), n32_xn (by omega), hpk k (by omega), zgd_t (czin (by omega) (by omega)), n32_xn (by omega), hfe.2 (p k) hpk1, x9_has (fr (p k)) (hfr _ hpk1) i (by omega), zbs]
    have hstep : ∀ a : Int, a = (hb (fr (p k)) i : Int) → ∃ s', mFrm s s' ∧ mE s' 5 (fun r c => if r < i ∨ (r = i ∧ c < K) then blMq n K m (fun k => fr (p k)) g r c else 0) ∧ D_X9_balances_J47 rec6 (D_X9_balances_L16 rec6 (n32 (K : Int)) (n32 (i : Int)) fu) s (n32 (K : Int)) (n32 (i : Int)) (n32 (k : Int)) (n32 (i : Int)) (n32 (k : Int)) (n64 a) = D_X9_balances_L59 rec6 (n32 (K : Int)) (n32 (i : Int)) zFU (0 : Int32) s' := fun a ha => by
      have h01 := hb_01 (fr (p k)) i
      obtain ⟨s1, e1, f1, g1⟩ := mE_put1 h (by omega) (show i < 5 by omega) (show k < 6 by omega) (a := a) (by omega) (by omega)
      unfold D_X9_balances_J47
      rw [e1, zbs, nsuc]
      obtain ⟨s2, f2, g2, e2⟩ := ih fu (k + 1) s1 (by omega) (by omega) ⟨by rw [f1.1]; exact hfe.1, fun k hk => by rw [f1.1]; exact hfe.2 k hk⟩ (pkE_m hpk f1) (mE_ext g1 (fun r hr c hc => by
        unfold qUpd
        try dsimp only
        by_cases e : r = i ∧ c = k
        · rw [if_pos e, if_pos (by omega)]
          unfold blMq
          rw [if_pos (by omega)]
          unfold blMx
          rw [if_pos (by omega), if_pos (by omega), e.1, e.2, ha]
        · rw [if_neg e]
          by_cases e2 : r < i ∨ (r = i ∧ c < k)
          · rw [if_pos e2, if_pos (by omega)]
          · rw [if_neg e2, if_neg (by omega)]))
      exact ⟨s2, mFrm_t f1 f2, g2, e2⟩
    rcases hb_01 (fr (p k)) i with e | e
    · rw [e, zif_t (by decide)]; exact hstep 0 (by rw [e]; rfl)
    · rw [e, zif_f (by decide)]; exact hstep 1 (by rw [e]; rfl)
theorem bl59 {i : Nat} {q : Nat → Nat} {rec6 : Int32 → zS → Option (Int32 × zS)} (hK : K + m = n + 1) (hn : n ≤ 4) (hi : i < n) (hg : ∀ e, e < m → g e < 16) : ∀ d fu e s, e + d = m → d < fu → fxE s n m g → mE s 5 (fun r c => if r < i ∨ (r = i ∧ c < K + e) then blMq n K m q g r c else 0) →
    ∃ s', mFrm s s' ∧ mE s' 5 (fun r c => if r < i + 1 then blMq n K m q g r c else 0) ∧ D_X9_balances_L59 rec6 (n32 (K : Int)) (n32 (i : Int)) fu (n32 (e : Int)) s = rec6 (n32 ((i + 1 : Nat) : Int)) s' := by
  intro d
  induction d with
  | zero =>
    intro fu e s he hf hx h
    obtain ⟨fu, rfl⟩ : ∃ t, fu = t + 1 := ⟨fu - 1, by omega⟩
    obtain rfl : e = m := by omega
    refine ⟨s, mFrm_r s, mE_ext h (fun r hr c hc => by
      try dsimp only
      by_cases e1 : r < i ∨ (r = i ∧ c < K + e)
      · rw [if_pos e1, if_pos (by omega)]
      · rw [if_neg e1]
        by_cases e2 : r < i + 1
        · rw [if_pos e2]
          unfold blMq blMx
          (repeat' split) <;> first | rfl | (exfalso; omega)
        · rw [if_neg e2]), ?_⟩
    rw [D_X9_balances_L59_s]
    unfold D_X9_balances_B59
    rw [hx.2.1, zif_t (Int32.le_refl _), nsuc]
  | succ d ih =>
    intro fu e s he hf hx h
    obtain ⟨fu, rfl⟩ : ∃ t, fu = t + 1 := ⟨fu - 1, by omega⟩
    rw [D_X9_balances_L59_s]
    unfold D_X9_balances_B59
    have hKe : n32 (K : Int) + n32 (e : Int) = n32 ((K + e : Nat) : Int) := by rw [n32_add]; rfl
    rw [hx.2.1, zif_f (by rw [c32_le (by omega) (by omega)]; omega), zgd_t (czin (by omega) (by omega)), n32_xn (by omega), hx.2.2 e (by omega), x9_has (g e) (hg e (by omega)) i (by omega), zbs, hKe]
    have hstep : ∀ a : Int, a = -(hb (g e) i : Int) → ∃ s', mFrm s s' ∧ mE s' 5 (fun r c => if r < i + 1 then blMq n K m q g r c else 0) ∧ D_X9_balances_J92 rec6 (D_X9_balances_L59 rec6 (n32 (K : Int)) (n32 (i : Int)) fu) s (n32 (K : Int)) (n32 (i : Int)) (n32 (e : Int)) (n32 (i : Int)) (n32 ((K + e : Nat) : Int)) (n64 a) = rec6 (n32 ((i + 1 : Nat) : Int)) s' := fun a ha => by
      have h01 := hb_01 (g e) i
      obtain ⟨s1, e1, f1, g1⟩ := mE_put1 h (by omega) (show i < 5 by omega) (show K + e < 6 by omega) (a := a) (by omega) (by omega)
      unfold D_X9_balances_J92
      rw [e1, zbs, nsuc]
      obtain ⟨s2, f2, g2, e2⟩ := ih fu (e + 1) s1 (by omega) (by omega) ⟨by rw [f1.1]; exact hx.1, by rw [f1.1]; exact hx.2.1, fun e he => by rw [f1.1]; exact hx.2.2 e he⟩ (mE_ext g1 (fun r hr c hc => by
        unfold qUpd
        try dsimp only
        by_cases e0 : r = i ∧ c = K + e
        · rw [if_pos e0, if_pos (by omega)]
          unfold blMq
          rw [if_pos (by omega)]
          unfold blMx
          rw [if_pos (by omega), if_neg (by omega), if_pos (by omega), e0.1, e0.2, ha, show K + e - K = e by omega]
        · rw [if_neg e0]
          by_cases e2 : r < i ∨ (r = i ∧ c < K + e)
          · rw [if_pos e2, if_pos (by omega)]
          · rw [if_neg e2, if_neg (by omega)]))
      exact ⟨s2, mFrm_t f1 f2, g2, e2⟩
    rcases hb_01 (g e) i with e0 | e0
    · rw [e0, zif_t (by decide)]; exact hstep 0 (by rw [e0]; rfl)
    · rw [e0, zif_f (by decide), l64_m1]; exact hstep (-1) (by rw [e0]; rfl)
theorem bl6 (hK : K + m = n + 1) (hn : n ≤ 4) (hF : F ≤ 14) (hp : ∀ k, k < K → p k < F) (hfr : ∀ k, k < F → fr k < 16) (hg : ∀ e, e < m → g e < 16) : ∀ d fu i s, i + d = n → d < fu → fxE s n m g → frE s F fr → pkE s K p → mE s 5 (fun r c => if r < i then blMq n K m (fun k => fr (p k)) g r c else 0) →
    ∃ s', mFrm s s' ∧ mE s' 5 (fun r c => if r < n then blMq n K m (fun k => fr (p k)) g r c else 0) ∧ D_X9_balances_L6 (n32 (K : Int)) fu (n32 (i : Int)) s = D_X9_balances_L110 (n32 (K : Int)) zFU (0 : Int32) s' := by
  intro d
  induction d with
  | zero =>
    intro fu i s hi hf hx hfe hpk h
    obtain ⟨fu, rfl⟩ : ∃ t, fu = t + 1 := ⟨fu - 1, by omega⟩
    obtain rfl : i = n := by omega
    refine ⟨s, mFrm_r s, h, ?_⟩
    rw [D_X9_balances_L6_s]
    unfold D_X9_balances_B6
    rw [hx.1, zif_t (Int32.le_refl _)]
  | succ d ih =>
    intro fu i s hi hf hx hfe hpk h
    obtain ⟨fu, rfl⟩ : ∃ t, fu = t + 1 := ⟨fu - 1, by omega⟩
    rw [D_X9_balances_L6_s]
    unfold D_X9_balances_B6
    rw [hx.1, zif_f (by rw [c32_le (by omega) (by omega)]; omega)]
    obtain ⟨s1, f1, g1, e1⟩ := bl16 (rec6 := D_X9_balances_L6 (n32 (K : Int)) fu) (g := g) hK hn (show i < n by omega) hF hp hfr K zFU 0 s (by omega) (zFU_lt (by omega)) hfe hpk (mE_ext h (fun r hr c hc => by
      try dsimp only
      by_cases e : r < i
      · rw [if_pos e, if_pos (Or.inl e)]
      · rw [if_neg e, if_neg (by omega)]))
    have e1' : D_X9_balances_L16 (D_X9_balances_L6 (n32 (K : Int)) fu) (n32 (K : Int)) (n32 (i : Int)) zFU (0 : Int32) s = D_X9_balances_L59 (D_X9_balances_L6 (n32 (K : Int)) fu) (n32 (K : Int)) (n32 (i : Int)) zFU (0 : Int32) s1 := e1
    have hx1 : fxE s1 n m g := ⟨by rw [f1.1]; exact hx.1, by rw [f1.1]; exact hx.2.1, fun e he => by rw [f1.1]; exact hx.2.2 e he⟩
    obtain ⟨s2, f2, g2, e2⟩ := bl59 (rec6 := D_X9_balances_L6 (n32 (K : Int)) fu) (q := fun k => fr (p k)) hK hn (show i < n by omega) hg m zFU 0 s1 (by omega) (zFU_lt (by omega)) hx1 g1
    have e2' : D_X9_balances_L59 (D_X9_balances_L6 (n32 (K : Int)) fu) (n32 (K : Int)) (n32 (i : Int)) zFU (0 : Int32) s1 = D_X9_balances_L6 (n32 (K : Int)) fu (n32 ((i + 1 : Nat) : Int)) s2 := e2
    rw [e1', e2']
    have f12 := mFrm_t f1 f2
    obtain ⟨s3, f3, g3, e3⟩ := ih fu (i + 1) s2 (by omega) (by omega) ⟨by rw [f12.1]; exact hx.1, by rw [f12.1]; exact hx.2.1, fun e he => by rw [f12.1]; exact hx.2.2 e he⟩ ⟨by rw [f12.1]; exact hfe.1, fun k hk => by rw [f12.1]; exact hfe.2 k hk⟩ (pkE_m hpk f12) g2
    exact ⟨s3, mFrm_t f12 f3, g3, e3⟩
theorem bl110 {q : Nat → Nat} (hK : K + m = n + 1) (hn : n ≤ 4) : ∀ d fu k s, k + d = K → d < fu → fxE s n m g → mE s 5 (fun r c => if r < n ∨ (r = n ∧ c < k) then blMq n K m q g r c else 0) →
    ∃ s', mFrm s s' ∧ mE s' 5 (blMq n K m q g) ∧ D_X9_balances_L110 (n32 (K : Int)) fu (n32 (k : Int)) s = (D_X9_solve s' (n32 ((n + 1 : Nat) : Int))).bind fun p150 => if p150.1 = 0 then some ((0 : Int32), p150.2) else D_X9_balances_L166 p150.2 (n32 (K : Int)) zFU (0 : Int64) (1 : Int64) (0 : Int32) := by
  intro d
  induction d with
  | zero =>
    intro fu k s hk hf hx h
    obtain ⟨fu, rfl⟩ : ∃ t, fu = t + 1 := ⟨fu - 1, by omega⟩
    obtain rfl : k = K := by omega
    obtain ⟨s1, e1, f1, g1⟩ := mE_put1 h (by omega) (show n < 5 by omega) (show 5 < 6 by omega) (a := 1) (by omega) (by omega)
    have e1' : D_X9_put s (n32 (n : Int)) (5 : Int32) (1 : Int64) (1 : Int64) = some s1 := e1
    refine ⟨s1, f1, mE_ext g1 (fun r hr c hc => by
      unfold qUpd
      try dsimp only
      by_cases e0 : r = n ∧ c = 5
      · rw [if_pos e0]
        unfold blMq
        rw [if_neg (by omega), if_pos e0.1]; rfl
      · rw [if_neg e0]
        by_cases e2 : r < n ∨ (r = n ∧ c < k)
        · rw [if_pos e2]
        · rw [if_neg e2]
          unfold blMq blMx
          (repeat' split) <;> first | rfl | (exfalso; omega)), ?_⟩
    rw [D_X9_balances_L110_s]
    unfold D_X9_balances_B110
    rw [zif_t (Int32.le_refl _), hx.1, e1', zbs]
    rw [f1.1, hx.1, nsuc]
  | succ d ih =>
    intro fu k s hk hf hx h
    obtain ⟨fu, rfl⟩ : ∃ t, fu = t + 1 := ⟨fu - 1, by omega⟩
    obtain ⟨s1, e1, f1, g1⟩ := mE_put1 h (by omega) (show n < 5 by omega) (show k < 6 by omega) (a := 1) (by omega) (by omega)
    have e1' : D_X9_put s (n32 (n : Int)) (n32 (k : Int)) (1 : Int64) (1 : Int64) = some s1 := e1
    rw [D_X9_balances_L110_s]
    unfold D_X9_balances_B110
    rw [zif_f (by rw [c32_le (by omega) (by omega)]; omega), hx.1, e1', zbs, nsuc]
    obtain ⟨s2, f2, g2, e2⟩ := ih fu (k + 1) s1 (by omega) (by omega) ⟨by rw [f1.1]; exact hx.1, by rw [f1.1]; exact hx.2.1, fun e he => by rw [f1.1]; exact hx.2.2 e he⟩ (mE_ext g1 (fun r hr c hc => by
      unfold qUpd
      try dsimp only
      by_cases e0 : r = n ∧ c = k
      · rw [if_pos e0, if_pos (by omega)]
        unfold blMq
        rw [if_pos (by omega)]
        unfold blMx
        rw [if_neg (by omega), if_pos e0.1, if_pos (by omega)]
      · rw [if_neg e0]
        by_cases e2 : r < n ∨ (r = n ∧ c < k)
        · rw [if_pos e2, if_pos (by omega)]
        · rw [if_neg e2, if_neg (by omega)]))
    exact ⟨s2, mFrm_t f1 f2, g2, e2⟩
/-- all equations are laid and solved -/
theorem bl_lay {s : zS} (hK : K + m = n + 1) (hn : n ≤ 4) (hF : F ≤ 14) (hp : ∀ k, k < K → p k < F) (hfr : ∀ k, k < F → fr k < 16) (hg : ∀ e, e < m → g e < 16) (hx : fxE s n m g) (hfe : frE s F fr) (hpk : pkE s K p) :
    ∃ s', mFrm s s' ∧ mE s' 5 (blMq n K m (fun k => fr (p k)) g) ∧ D_X9_balances s (n32 (K : Int)) = (D_X9_solve s' (n32 ((n + 1 : Nat) : Int))).bind fun p150 => if p150.1 = 0 then some ((0 : Int32), p150.2) else D_X9_balances_L166 p150.2 (n32 (K : Int)) zFU (0 : Int64) (1 : Int64) (0 : Int32) := by
  obtain ⟨s1, e1, f1, g1⟩ := r_noRows s
  have hx1 : fxE s1 n m g := ⟨by rw [f1.1]; exact hx.1, by rw [f1.1]; exact hx.2.1, fun e he => by rw [f1.1]; exact hx.2.2 e he⟩
  obtain ⟨s2, f2, g2, e2⟩ := bl6 hK hn hF hp hfr hg n zFU 0 s1 (by omega) (zFU_lt (by omega)) hx1 ⟨by rw [f1.1]; exact hfe.1, fun k hk => by rw [f1.1]; exact hfe.2 k hk⟩ (pkE_m hpk f1) (mE_ext g1 (fun r hr c hc => by rw [if_neg (by omega)]))
  have f12 := mFrm_t f1 f2
  obtain ⟨s3, f3, g3, e3⟩ := bl110 (q := fun k => fr (p k)) (g := g) hK hn K zFU 0 s2 (by omega) (zFU_lt (by omega)) ⟨by rw [f12.1]; exact hx.1, by rw [f12.1]; exact hx.2.1, fun e he => by rw [f12.1]; exact hx.2.2 e he⟩ (mE_ext g2 (fun r hr c hc => by
    try dsimp only
    by_cases e : r < n
    · rw [if_pos e, if_pos (Or.inl e)]
    · rw [if_neg e, if_neg (by omega)]))
  refine ⟨s3, mFrm_t f12 f3, g3, ?_⟩
  unfold D_X9_balances
  have e2' : D_X9_balances_L6 (n32 (K : Int)) zFU (0 : Int32) s1 = D_X9_balances_L110 (n32 (K : Int)) zFU (0 : Int32) s2 := e2
  have e3' : D_X9_balances_L110 (n32 (K : Int)) zFU (0 : Int32) s2 = _ := e3
  rw [e1, zbs, e2', e3']
end BA
