/-! the reference's strain is the greatest complaint of the free ones -/
section LT
variable {n m K F : Nat} {g fr : Nat → Nat} {v : Nat → Int} {t xc : Nat → Rat} {T : Int}
theorem tfE_l {s s' : zS} (h : tfE s m t T) (f : lFrm s s') : tfE s' m t T := fun e he => by
  obtain ⟨ta, tb, t1, t2, t3⟩ := h e he
  exact ⟨ta, tb, by rw [f.2 80 e (by omega)]; exact t1, by rw [f.2 81 e (by omega)]; exact t2, t3⟩
theorem blMx_sum {q : Nat → Nat} {x : Nat → Rat} {i : Nat} (hK : K + m = n + 1) (hn : n ≤ 4) (hi : i < n) (hx : ∀ c, n + 1 ≤ c → x c = 0) : sum5 (fun c => (blMx n K m q g i c : Rat) * x c) = zsum K (fun c => (((hb (q c) i : Nat) : Int) : Rat) * x c) - zsum m (fun e => (((hb (g e) i : Nat) : Int) : Rat) * x (K + e)) := by
  rw [← zsum_sum5 (n := K + m) (by omega) (fun c h1 h2 => by rw [hx c (by omega)]; grind), zsum_split]
  have e1 : zsum K (fun c => (blMx n K m q g i c : Rat) * x c) = zsum K (fun c => (((hb (q c) i : Nat) : Int) : Rat) * x c) := zsum_congr K (fun c hc => by
    unfold blMx
    rw [if_pos hi, if_pos hc])
  have e2 : zsum m (fun e => (blMx n K m q g i (K + e) : Rat) * x (K + e)) = zsum m (fun e => (-1 : Rat) * ((((hb (g e) i : Nat) : Int) : Rat) * x (K + e))) := zsum_congr m (fun e he => by
    unfold blMx
    rw [if_pos hi, if_neg (by omega), if_pos (by omega), show K + e - K = e by omega, Rat.intCast_neg]; grind)
  rw [e1, e2, zsum_mul]; grind
theorem balVal_eq {q : Nat → Nat} {x : Nat → Rat} {y : Rat} (hK : K + m = n + 1) (hn : n ≤ 4) (hq : ∀ k, k < K → q k < 2 ^ n) (hg : ∀ e, e < m → g e < 2 ^ n) (ht : ∀ e, e < m → t e = xS xc (g e)) (h : balVal n m K q g v t x y) : y = zsum K (fun k => x k * ((v (q k) : Rat) - xS xc (q k))) := by
  obtain ⟨b1, b2, b3, b4, b5⟩ := h
  have h0 : zsum n (fun i => xc i * (zsum K (fun c => (((hb (q c) i : Nat) : Int) : Rat) * x c) - zsum m (fun e => (((hb (g e) i : Nat) : Int) : Rat) * x (K + e)))) = 0 := zsum_zero n (fun i hi => by
    rw [← blMx_sum hK hn hi b2, ← b3 i (by omega), if_neg (by omega)]; grind)
  have h1 : zsum n (fun i => xc i * (zsum K (fun c => (((hb (q c) i : Nat) : Int) : Rat) * x c) - zsum m (fun e => (((hb (g e) i : Nat) : Int) : Rat) * x (K + e)))) = zsum n (fun i => zsum K (fun c => xc i * ((((hb (q c) i : Nat) : Int) : Rat) * x c))) - zsum n (fun i => zsum m (fun e => xc i * ((((hb (g e) i : Nat) : Int) : Rat) * x (K + e)))) := by
    rw [← zsum_sub]
    exact zsum_congr n (fun i _ => by rw [zsum_mul, zsum_mul]; grind)
  have h2 : zsum n (fun i => zsum K (fun c => xc i * ((((hb (q c) i : Nat) : Int) : Rat) * x c))) = zsum K (fun c => x c * xS xc (q c)) := by
    rw [zsum_swap]
    refine zsum_congr K (fun c hc => ?_)
    rw [xS_zsum hn (hq c hc), ← zsum_mul]
    exact zsum_congr n (fun i _ => by grind)
  have h3 : zsum n (fun i => zsum m (fun e => xc i * ((((hb (g e) i : Nat) : Int) : Rat) * x (K + e)))) = zsum m (fun e => x (K + e) * t e) := by
    rw [zsum_swap]
    refine zsum_congr m (fun e he => ?_)
    rw [ht e he, xS_zsum hn (hg e he), ← zsum_mul]
    exact zsum_congr n (fun i _ => by grind)
  rw [h1, h2, h3] at h0
  rw [b5]
  have h4 : zsum K (fun k => x k * ((v (q k) : Rat) - xS xc (q k))) = zsum K (fun c => (v (q c) : Rat) * x c) - zsum K (fun c => x c * xS xc (q c)) := by
    rw [← zsum_sub]
    exact zsum_congr K (fun k _ => by grind)
  rw [h4]; grind
theorem balVal_swp {q : Nat → Nat} {x : Nat → Rat} {y : Rat} {a b : Nat} (hK : K + m = n + 1) (hn : n ≤ 4) (ha : a < K) (hb' : b < K) (h : balVal n m K q g v t x y) : balVal n m K (fun k => q (zswp a b k)) g v t (fun c => x (zswp a b c)) y := by
  obtain ⟨b1, b2, b3, b4, b5⟩ := h
  have hm : ∀ i c, blMx n K m (fun k => q (zswp a b k)) g i c = blMx n K m q g i (zswp a b c) := fun i c => by
    by_cases e : c < K
    · have e2 := (zswp_lt ha hb').mpr e
      unfold blMx
      simp only [if_pos e, if_pos e2]
    · have e2 : zswp a b c = c := zswp_fix (by omega) (by omega)
      rw [e2]
      unfold blMx
      simp only [if_neg e]
  refine ⟨fun c hc => b1 _ ((zswp_lt ha hb').mpr hc), fun c hc => ?_, fun i hi => ?_, ?_, ?_⟩
  · have e2 : zswp a b c = c := zswp_fix (by omega) (by omega)
    dsimp only
    rw [e2]; exact b2 c hc
  · rw [b3 i hi, ← sum5_swp (show a < 5 by omega) (show b < 5 by omega)]
    exact sum5_congr (fun c _ => by rw [hm])
  · have := nsing_swp (a := a) (b := b) (show n + 1 ≤ 5 by omega) (by omega) (by omega) b4
    rw [show blMx n K m (fun k => q (zswp a b k)) g = fun i c => blMx n K m q g i (zswp a b c) by funext i c; exact hm i c]
    exact this
  · rw [b5, ← zsum_swp ha hb']
    congr 1
    refine zsum_congr m (fun e he => ?_)
    dsimp only
    rw [zswp_fix (show K + e ≠ a by omega) (show K + e ≠ b by omega)]
/-- the balance of bal_ex, by the reference's equations -/
theorem balVal_of {q : Nat → Nat} {X : Nat → Rat} (hK : K + m = n + 1) (hn : n ≤ 4) (hli : linI (n + 1) (n + 1) (bVec n K q g)) (hX0 : ∀ r, r < K → 0 ≤ X r) (hX : ∀ c, c < n + 1 → zsum (n + 1) (fun r => X r * bVec n K q g r c) = if c = n then 1 else 0) : ∃ y, balVal n m K q g v t (fun c => if c < K then X c else if c < n + 1 then -X c else 0) y ∧ ∀ c, c < K → (if c < K then X c else if c < n + 1 then -X c else 0) = X c := by
  have hsp : ∀ (f : Nat → Rat) (i : Nat), i < n → zsum (n + 1) (fun r => f r * bVec n K q g r i) = zsum K (fun c => (((hb (q c) i : Nat) : Int) : Rat) * f c) + zsum m (fun e => (((hb (g e) i : Nat) : Int) : Rat) * f (K + e)) := fun f i hi => by
    rw [show n + 1 = K + m by omega, zsum_split]
    have e1 : zsum K (fun r => f r * bVec n K q g r i) = zsum K (fun c => (((hb (q c) i : Nat) : Int) : Rat) * f c) := zsum_congr K (fun c hc => by
      unfold bVec
      rw [if_pos hc, if_pos hi]; grind)
    have e2 : zsum m (fun e => f (K + e) * bVec n K q g (K + e) i) = zsum m (fun e => (((hb (g e) i : Nat) : Int) : Rat) * f (K + e)) := zsum_congr m (fun e he => by
      unfold bVec
      rw [if_neg (by omega), if_pos hi, show K + e - K = e by omega]; grind)
    rw [e1, e2]
  have hspn : ∀ (f : Nat → Rat), zsum (n + 1) (fun r => f r * bVec n K q g r n) = zsum K f := fun f => by
    rw [show n + 1 = K + m by omega, zsum_split, zsum_zero m (fun e he => by
      unfold bVec
      rw [if_neg (by omega), if_neg (by omega)]; grind), Rat.add_zero]
    exact zsum_congr K (fun c hc => by
      unfold bVec
      rw [if_pos hc, if_neg (by omega)]; grind)
  have hrow : ∀ x : Nat → Rat, (∀ c, n + 1 ≤ c → c < 5 → x c = 0) → ∀ i, i < 5 → sum5 (fun c => (blMx n K m q g i c : Rat) * x c) = if i < n + 1 then zsum (n + 1) (fun r => (if r < K then x r else -x r) * bVec n K q g r i) else 0 := fun x hx i hi => by
    by_cases e : i < n
    · rw [if_pos (by omega), hsp _ i e]
      rw [← zsum_sum5 (n := K + m) (by omega) (fun c h1 h2 => by rw [hx c (by omega) h2]; grind), zsum_split]
      have e1 : zsum K (fun c => (blMx n K m q g i c : Rat) * x c) = zsum K (fun c => (((hb (q c) i : Nat) : Int) : Rat) * if c < K then x c else -x c) := zsum_congr K (fun c hc => by
        unfold blMx
        rw [if_pos e, if_pos hc, if_pos hc])
      have e2 : zsum m (fun e => (blMx n K m q g i (K + e) : Rat) * x (K + e)) = zsum m (fun e => (((hb (g e) i : Nat) : Int) : Rat) * if K + e < K then x (K + e) else -x (K + e)) := zsum_congr m (fun e' he => by
        unfold blMx
        rw [if_pos e, if_neg (by omega), if_pos (by omega), if_neg (by omega), show K + e' - K = e' by omega, Rat.intCast_neg]; grind)
      rw [e1, e2]
    · by_cases e2 : i = n
      · subst e2
        rw [if_pos (by omega), hspn, ← zsum_sum5 (n := K) (by omega) (fun c h1 h2 => by
          unfold blMx
          rw [if_neg (by omega), if_pos rfl, if_neg (by omega)]; simp)]
        exact zsum_congr K (fun c hc => by
          unfold blMx
          rw [if_neg (by omega), if_pos rfl, if_pos hc, if_pos hc]; simp)
      · rw [if_neg (by omega)]
        have : sum5 (fun c => (blMx n K m q g i c : Rat) * x c) = sum5 (fun _ => 0) := sum5_congr (fun c _ => by
          unfold blMx
          rw [if_neg e, if_neg e2]; simp)
        rw [this]; unfold sum5; grind
  refine ⟨_, ⟨fun c hc => ?_, fun c hc => ?_, fun i hi => ?_, fun y hy h0 c hc => ?_, rfl⟩, fun c hc => if_pos hc⟩
  · dsimp only
    rw [if_pos hc]; exact hX0 c hc
  · dsimp only
    rw [if_neg (by omega), if_neg (by omega)]
  · rw [hrow _ (fun c h1 h2 => by (try dsimp only); rw [if_neg (by omega), if_neg (by omega)]) i hi]
    by_cases e : i < n + 1
    · rw [if_pos e, ← hX i e]
      refine zsum_congr (n + 1) (fun r hr => ?_)
      try dsimp only
      by_cases e2 : r < K
      · rw [if_pos e2, if_pos e2]
      · rw [if_neg e2, if_neg e2, if_pos hr, Rat.neg_neg]
    · rw [if_neg e, if_neg (by omega)]
  · by_cases e : c < n + 1
    · have h1 := hli (fun r => if r < K then y r else -y r) (fun j hj => by
        have := hrow y hy j (by omega)
        rw [h0 j (by omega), if_pos hj] at this
        exact this.symm) c e
      try dsimp only at h1
      by_cases e2 : c < K
      · rw [if_pos e2] at h1; exact h1
      · rw [if_neg e2] at h1; grind
    · exact hy c (by omega) hc
/-- the first picks -/
theorem ls23 (hK : K ≤ 4) : ∀ d fu k s, k + d = K → d < fu → pkE s k (fun j => j) → ∃ s', D_X9_layStrain_L23 (n32 (K : Int)) fu (n32 (k : Int)) s = (if (s'.1 66 28) < n32 (K : Int) then D_X9_layStrain_J54 s' (n32 (K : Int)) (0 : Int32) else D_X9_layStrain_J54 s' (n32 (K : Int)) (1 : Int32)) ∧ (∀ c k, c ≠ 84 → s'.1 c k = s.1 c k) ∧ s'.2 = s.2 ∧ pkE s' K (fun j => j) := by
  intro d
  induction d with
  | zero =>
    intro fu k s hk hf h
    obtain ⟨fu, rfl⟩ : ∃ t, fu = t + 1 := ⟨fu - 1, by omega⟩
    obtain rfl : k = K := by omega
    refine ⟨s, ?_, fun _ _ _ => rfl, rfl, h⟩
    rw [D_X9_layStrain_L23_s]
    unfold D_X9_layStrain_B23
    rw [zif_t (Int32.le_refl _)]
  | succ d ih =>
    intro fu k s hk hf h
    obtain ⟨fu, rfl⟩ : ∃ t, fu = t + 1 := ⟨fu - 1, by omega⟩
    rw [D_X9_layStrain_L23_s]
    unfold D_X9_layStrain_B23
    rw [zif_f (by rw [c32_le (by omega) (by omega)]; omega), zgd_t (czin (by omega) (by omega)), n32_xn (by omega), nsuc]
    obtain ⟨s2, e2, f2, g2, k2⟩ := ih fu (k + 1) (zwI s 84 k (n32 (k : Int))) (by omega) (by omega) (fun j hj => by
      rw [zwI_at]
      by_cases e : j = k
      · rw [if_pos ⟨rfl, e⟩, e]
      · rw [if_neg (fun q => e q.2)]; exact h j (by omega))
    exact ⟨s2, e2, fun c j h84 => by rw [f2 c j h84, zwI_at, if_neg (fun q => h84 q.1)], g2, k2⟩
end LT
