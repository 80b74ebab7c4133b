/-! the reference's strain found -/
section LU
variable {n m : Nat} {g : Nat → Nat} {v : Nat → Int} {t xc : Nat → Rat} {T : Int}
/-- what the reference's strain leaves -/
def strE (s : zS) (n m : Nat) (g : Nat → Nat) (v : Nat → Int) (xc : Nat → Rat) (T : Int) (c : Rat) : Prop :=
  (s.2 66 33 = n64 c.num ∧ s.2 66 34 = n64 (c.den : Int)) ∧ ((-(1500000 * T) ≤ c.num ∧ c.num ≤ 1500000 * T) ∧ (c.den : Int) ≤ 15 * T) ∧ (∃ D z' : Int, (D ≠ 0 ∧ -15 ≤ D ∧ D ≤ 15) ∧ ((D * T : Int) : Rat) * c = (z' : Rat)) ∧
  ∃ (B : Nat) (bp : Nat → Nat), 1 ≤ B ∧ B ≤ 4 ∧ s.1 66 32 = n32 (B : Int) ∧ (∀ i, i < B → s.1 85 i = n32 (bp i : Int)) ∧ ∀ i, i < B → frP n m g (bp i) ∧ (v (bp i) : Rat) - xS xc (bp i) = c
theorem zsum_zero_each {f : Nat → Rat} : ∀ n, (∀ j, j < n → 0 ≤ f j) → zsum n f = 0 → ∀ j, j < n → f j = 0
  | 0, _, _, j, h => by omega
  | n + 1, h, h0, j, hj => by
    rw [zsum] at h0
    have h1 := zsum_nonneg n (fun j hj => h j (by omega))
    have h2 := h n (by omega)
    by_cases e : j = n
    · rw [e]; grind
    · exact zsum_zero_each n (fun j hj => h j (by omega)) (by grind) j (by omega)
theorem lay_strain {s : zS} (hn2 : 2 ≤ n) (hn : n ≤ 4) (hm1 : 1 ≤ m) (hmn : m < n) (hg : ∀ e, e < m → g e < 2 ^ n) (hgi : linI m n (fun r c => ((hb (g r) c : Int) : Rat))) (hN : gP m g (2 ^ n - 1)) (hdc : dcG n v xc (gP m g)) (ht : ∀ e, e < m → t e = xS xc (g e)) (hT : 1 ≤ T ∧ T ≤ 3375) (hu : uOk s n v) (hx : fxE s n m g) (htf : tfE s m t T) :
    ∃ (s' : zS) (c : Rat), D_X9_layStrain s = some s' ∧ uFrm s s' ∧ uOk s' n v ∧ fxE s' n m g ∧ tfE s' m t T ∧ strE s' n m g v xc T c ∧ (∀ S, frP n m g S → (v S : Rat) - xS xc S ≤ c) ∧ ∃ S, frP n m g S ∧ (v S : Rat) - xS xc S = c := by
  have hp := pow_le4 hn
  have h4n : 4 ≤ 2 ^ n := by
    have := Nat.pow_le_pow_right (show 0 < 2 by omega) hn2
    omega
  have hg16 : ∀ e, e < m → g e < 16 := fun e he => by have := hg e he; omega
  obtain ⟨K, hK⟩ : ∃ K, K + m = n + 1 := ⟨n + 1 - m, by omega⟩
  have hKe : n + 1 - m = K := by omega
  rcases hdc with hall | ⟨c, y, d1, d2, d3, d4, d5⟩
  · exfalso
    obtain ⟨z, ⟨j0, hj0, hne⟩, hzo, hz⟩ := lin_U n m (fun r c => ((hb (g r) c : Int) : Rat)) hmn
    have hd := hall (2 ^ j0) ⟨Nat.one_le_two_pow, by
      have h1 : 2 ^ j0 ≤ 2 ^ (n - 1) := Nat.pow_le_pow_right (by omega) (by omega)
      have h2 : 2 ^ n = 2 * 2 ^ (n - 1) := by rw [← Nat.pow_succ']; congr 1; omega
      omega⟩ z (fun F hF => by
      obtain ⟨e, he, rfl⟩ := hF
      rw [xS_zsum hn (hg e he)]
      exact hz e he)
    rw [xS_single hn hj0] at hd
    exact hne hd
  · obtain ⟨q, X, q1, q2, q3, q4⟩ := bal_ex (P := fun S => cNm n S ∧ ¬ gDep (gP m g) S ∧ (v S : Rat) - xS xc S = c) hn2 hn (by omega) hg hgi hN (fun S hS => ⟨hS.1, hS.2.1⟩) y d2 d3 d4 d5
    rw [hKe] at q1 q2 q3 q4
    obtain ⟨s1, F, fr, e1, f1, x1, g1, l1⟩ := lay_free (by omega) hn (by omega) hg hgi hx
    have hF14 : F ≤ 14 := by
      by_cases e : F = 0
      · omega
      · have h2 := frL_F l1 (F - 1) (by omega)
        have h3 := (l1.1 (F - 1) (by omega)).1
        omega
    have hfr16 : ∀ k, k < F → fr k < 16 := fun k hk => by have := (l1.1 k hk).1; omega
    -- the balance in the list's numbers
    obtain ⟨idx, hidx⟩ : ∃ idx : Nat → Nat, ∀ r, r < K → idx r < F ∧ fr (idx r) = q r :=
      ⟨fun r => if hr : r < K then Classical.choose (l1.2.2 (q r) (q1 r hr).1.2 (q1 r hr)) else 0, fun r hr => by dsimp only; rw [dif_pos hr]; exact Classical.choose_spec (l1.2.2 (q r) (q1 r hr).1.2 (q1 r hr))⟩
    have hqi : ∀ a b, a < K → b < K → q a = q b → a = b := fun a b ha hb' e => Classical.byContradiction fun hne => by
      have h1 := q2 (fun r => (if r = a then 1 else 0) - if r = b then 1 else 0) (fun j hj => by
        have e1 : zsum (n + 1) (fun r => ((if r = a then 1 else 0) - if r = b then 1 else 0) * bVec n K q g r j) = zsum (n + 1) (fun r => (if r = a then bVec n K q g a j else 0)) - zsum (n + 1) (fun r => if r = b then bVec n K q g b j else 0) := by
          rw [← zsum_sub]
          refine zsum_congr _ (fun r _ => ?_)
          by_cases k1 : r = a
          · rw [if_pos k1, if_neg (by omega), if_pos k1, if_neg (by omega), k1]; grind
          · rw [if_neg k1, if_neg k1]
            by_cases k2 : r = b
            · rw [if_pos k2, if_pos k2, k2]; grind
            · rw [if_neg k2, if_neg k2]; grind
        rw [e1, zsum_single (c := a) (by omega) (fun i _ hi => if_neg hi), zsum_single (c := b) (by omega) (fun i _ hi => if_neg hi), if_pos rfl, if_pos rfl]
        have : bVec n K q g a j = bVec n K q g b j := by
          unfold bVec
          rw [if_pos ha, if_pos hb', e]
        rw [this]; grind) a (by omega)
      try dsimp only at h1
      rw [if_pos rfl, if_neg hne] at h1
      grind
    obtain ⟨y0, hbv, hXeq⟩ := balVal_of (t := t) (v := v) hK hn q2 (fun r hr => (q3 r hr).1) q4
    have hq2n : ∀ k, k < K → q k < 2 ^ n := fun k hk => by have := (q1 k hk).1.2; omega
    have hy0 : y0 = c := by
      have h1 := balVal_eq hK hn hq2n hg ht hbv
      have h2 := balVal_pos hK hn hbv
      rw [h1, zsum_congr K (g := fun k => c * (if k < K then X k else if k < n + 1 then -X k else 0)) (fun k hk => by
        try dsimp only
        rw [hXeq k hk]
        by_cases e : 0 < X k
        · rw [((q3 k hk).2 e).2.2]; grind
        · have h3 := (q3 k hk).1
          have : X k = 0 := Rat.le_antisymm (Rat.not_lt.mp e) h3
          rw [this]; grind), zsum_mul, h2]; grind
    have hbi : balV n m K fr g v t idx c := by
      rw [← hy0]
      have := balV_congr (fr := fun k => k) (p := q) (q := fun k => fr (idx k)) (fun k hk => ((hidx k hk).2).symm) ⟨_, hbv⟩
      exact this
    obtain ⟨p, ⟨p1, p2⟩, p3⟩ := sort_ex (K := K) (P := fun q => balV n m K fr g v t q c ∧ ∀ k, k < K → q k < F) (fun q a b ha hb' ⟨h1, h2⟩ => ⟨by
      obtain ⟨x, hx⟩ := h1
      exact ⟨fun c => x (zswp a b c), balVal_swp (q := fun k => fr (q k)) hK hn ha hb' hx⟩, fun k hk => h2 _ ((zswp_lt ha hb').mpr hk)⟩) K 0 idx (by omega) ⟨hbi, fun k hk => (hidx k hk).1⟩ (fun a b ha hb' e => hqi a b ha hb' (by rw [← (hidx a ha).2, ← (hidx b hb').2, e])) (fun i j h => by omega)
    have hstep : ∀ k d, k + d < K → p k + d ≤ p (k + d) := by
      intro k d
      induction d with
      | zero => intro _; exact Nat.le_refl _
      | succ d ih =>
        intro h
        have h1 := ih (by omega)
        have h2 := p3 (k + d) (k + (d + 1)) (by omega) h
        omega
    have hKF : K ≤ F := by
      have h1 := hstep 0 (K - 1) (by omega)
      have h2 := p2 (0 + (K - 1)) (by omega)
      omega
    have hpi : cInc K (F - K) 0 p := ⟨fun k hk => p3 k (k + 1) (by omega) hk, fun k hk => ⟨by omega, by
      have h1 := hstep k (K - 1 - k) (by omega)
      have h2 := p2 (k + (K - 1 - k)) (by omega)
      omega⟩⟩
    -- the loop
    obtain ⟨s2, e2, f2, g2, k2⟩ := ls23 (show K ≤ 4 by omega) K zFU 0 (zwI s1 66 32 (0 : Int32)) (by omega) (zFU_lt (by omega)) (fun j hj => by omega)
    have fA : gFrm s1 s2 := ⟨fun c k h66 h84 _ => by rw [f2 c k h84, zwI_at, if_neg (fun q => h66 q.1 q.2)], fun c k _ _ _ => by rw [g2]; rfl⟩
    have hu1 := uOk_f hu (uFrm_l f1)
    have hu2 := uOk_f hu1 (uFrm_g fA)
    obtain ⟨s3, o, e3, f3, o1, o2⟩ := ls55 hK hn ⟨hm1, by omega⟩ (by omega) hF14 hKF hfr16 hg16 hT zFU (fun j => j) s2 none ⟨fun k hk => by dsimp only; omega, fun k hk => by dsimp only; omega⟩ (by
      have h1 : (16 : Nat) ^ K ≤ 16 ^ 4 := Nat.pow_le_pow_right (by omega) (by omega)
      have h2 : 65536 < zFU := zFU_lt (by omega)
      have h3 : (16 : Nat) ^ 4 = 65536 := rfl
      omega) hu2 (fxE_g x1 fA) (frE_g g1 fA) (tfE_g (tfE_l htf f1) fA) k2 (by show s2.1 66 32 = _; rw [f2 66 32 (by omega), zwI_at, if_pos ⟨rfl, rfl⟩]; rfl) (fun q hq => by
      exfalso
      obtain ⟨h1, h2⟩ := hq
      have := cCode_le (p := fun j => j) (q := q) K (fun k hk => by
        induction k with
        | zero => exact Nat.zero_le _
        | succ k ih =>
          have h3 := ih (by omega)
          have h4 := h1.1 k hk
          omega)
      omega)
    have hfF : ∀ q : Nat → Nat, (∀ k, k < K → q k < F) → ∀ k, k < K → (fun k => fr (q k)) k < 2 ^ n := fun q hq k hk => by have := (l1.1 _ (hq k hk)).1; dsimp only; omega
    have hle : ∀ (q : Nat → Nat) (u : Rat), (∀ k, k < K → q k < F) → balV n m K fr g v t q u → u ≤ c := fun q u hq ⟨x, hx⟩ => by
      have h1 := balVal_eq hK hn (hfF q hq) hg ht hx
      have h2 := balVal_pos hK hn hx
      have h3 : 0 ≤ zsum K (fun k => x k * (c - ((v (fr (q k)) : Rat) - xS xc (fr (q k))))) := zsum_nonneg K (fun k hk => Rat.mul_nonneg (hx.1 k hk) (by
        have hf := (l1.1 _ (hq k hk)).2
        have := d1 _ hf.1 hf.2
        grind))
      have h4 : zsum K (fun k => x k * (c - ((v (fr (q k)) : Rat) - xS xc (fr (q k))))) = zsum K (fun k => x k * c) - zsum K (fun k => x k * ((v (fr (q k)) : Rat) - xS xc (fr (q k)))) := by
        rw [← zsum_sub]
        exact zsum_congr K (fun k _ => by grind)
      rw [h4, zsum_mulr, h2, ← h1] at h3
      grind
    cases o with
    | none => exact absurd p1 (o2 p hpi c)
    | some u =>
      have huc : u = c := by
        obtain ⟨⟨q', k1, k2'⟩, k3⟩ := o2
        exact Rat.le_antisymm (hle q' u (fun k hk => by have := (k1.2 k hk).2; omega) k2') (k3 p hpi c p1)
      subst huc
      obtain ⟨a1, a2, a3, B, bp, p0, x0, b1, b2, b3, b4, b5, b6, b7⟩ := o1
      have fB := gFrm_t fA f3
      refine ⟨s3, u, ?_, uFrm_t (uFrm_l f1) (uFrm_g fB), uOk_f hu1 (uFrm_g fB), fxE_g x1 fB, tfE_g (tfE_l htf f1) fB, ⟨a1, a2, a3, B, bp, b1, by omega, b3, b4, fun i hi => ?_⟩, fun S hS => d1 S hS.1 hS.2, ?_⟩
      · unfold D_X9_layStrain
        rw [e1, zbs]
        dsimp only
        have hKn : s1.1 66 0 - s1.1 66 23 + (1 : Int32) = n32 (K : Int) := by
          rw [x1.1, x1.2.1, n32_sub, l32_1, n32_add, show (n : Int) - (m : Int) + 1 = (K : Int) by omega]
        have e2' : D_X9_layStrain_L23 (n32 (K : Int)) zFU (0 : Int32) (zwI s1 66 32 (0 : Int32)) = _ := e2
        rw [hKn, e2', zif_f (by rw [(frE_g g1 fA).1, c32_lt (by omega) (by omega)]; omega)]
        unfold D_X9_layStrain_J54
        exact e3
      · obtain ⟨k, hk, ek, hxk⟩ := b7 i hi
        have hf := (l1.1 _ (b5 k hk)).2
        rw [ek]
        refine ⟨hf, ?_⟩
        have h1 := balVal_eq hK hn (hfF p0 b5) hg ht b6
        have h2 := balVal_pos hK hn b6
        have h4 : zsum K (fun k => x0 k * (u - ((v (fr (p0 k)) : Rat) - xS xc (fr (p0 k))))) = zsum K (fun k => x0 k * u) - zsum K (fun k => x0 k * ((v (fr (p0 k)) : Rat) - xS xc (fr (p0 k)))) := by
          rw [← zsum_sub]
          exact zsum_congr K (fun k _ => by grind)
        have h5 : zsum K (fun k => x0 k * (u - ((v (fr (p0 k)) : Rat) - xS xc (fr (p0 k))))) = 0 := by
          rw [h4, zsum_mulr, h2, ← h1]; grind
        have h6 := zsum_zero_each K (fun k hk => Rat.mul_nonneg (b6.1 k hk) (by
          have hf := (l1.1 _ (b5 k hk)).2
          have := d1 _ hf.1 hf.2
          grind)) h5 k hk
        rcases Rat.mul_eq_zero.mp h6 with a | a
        · rw [a] at hxk; exact absurd hxk (by decide)
        · grind
      · obtain ⟨S, hS⟩ := d3
        have := d4 S hS
        exact ⟨S, ⟨this.1, this.2.1⟩, this.2.2⟩
end LU
