/-! fractions told by both; the least pay is one number -/
theorem rat_n1 {t : Rat} : ((t.num : Rat)) / (((t.den : Nat) : Int) : Rat) = t := by
  have h1 : (t.den : Rat) ≠ 0 := fun e => by
    have : t.den = 0 := by exact_mod_cast e
    exact t.den_nz this
  have e1 := rat_md t
  push_cast
  rw [← e1]
  grind
theorem f8_put {s : zS} {c : Nat} {a b : Int} (hc : zshp c = (0, 2, [1, 1])) (hb : 0 < b) (hb2 : b < 4611686018427387904) (ha : -4611686018427387904 < a ∧ a < 4611686018427387904) : D_X2_put s c (n64 a) (n64 b) = some (zwL (zwL s c 0 (n64 ((a : Rat) / (b : Rat)).num)) c 1 (n64 (((a : Rat) / (b : Rat)).den : Int))) := by
  have hg0 : (Int.gcd a b : Int) ≠ 0 := by
    intro q
    have := Int.gcd_eq_zero_iff.mp (by exact_mod_cast q)
    omega
  have hgle : Int.gcd a b ≤ b.natAbs := Nat.le_of_dvd (by omega) (Nat.gcd_dvd_right _ _)
  have hgn : ¬ n64 (Int.gcd a b : Int) = 0 := by
    rw [l64_0, n64_eq (by omega) (by omega) (by omega) (by omega)]; exact hg0
  unfold D_X2_put
  rw [zgcd8 ha.1 ha.2 (by omega) (by omega), zbs, zif_f (by rw [l64_0, lgc_eq (by omega) (by omega) (by omega) (by omega)]; exact hg0), zif_t (by rw [l64_0, lgc_gt (by omega) (by omega) (by omega) (by omega)]; exact hb), zif_f hgn, zgd_t hc, zif_f hgn, zgd_t hc, n64_div (by omega) (by omega) (by omega) (by omega), n64_div (by omega) (by omega) (by omega) (by omega), rat_num hb, rat_den hb]
theorem f9_put {s : zS} {a b : Int} (hb : 0 < b) (hb2 : b < 4611686018427387904) (ha : -4611686018427387904 < a ∧ a < 4611686018427387904) : D_X9_fraction s (n64 a) (n64 b) = some (1, zwL (zwL s 66 3 (n64 ((a : Rat) / (b : Rat)).num)) 66 4 (n64 (((a : Rat) / (b : Rat)).den : Int))) := by
  have hg0 : (Int.gcd a b : Int) ≠ 0 := by
    intro q
    have := Int.gcd_eq_zero_iff.mp (by exact_mod_cast q)
    omega
  have hgle : Int.gcd a b ≤ b.natAbs := Nat.le_of_dvd (by omega) (Nat.gcd_dvd_right _ _)
  have hgn : ¬ n64 (Int.gcd a b : Int) = 0 := by
    rw [l64_0, n64_eq (by omega) (by omega) (by omega) (by omega)]; exact hg0
  have hge : 0 ≤ lg_cmp (n64 b) 0 := by rw [l64_0, lgc_ge (by omega) (by omega) (by omega) (by omega)]; omega
  unfold D_X9_fraction
  rw [zgcd9 ha.1 ha.2 (by omega) (by omega), zbs, zif_t hge]
  unfold D_X9_fraction_J20
  rw [zif_f hgn]
  dsimp only
  rw [zif_t hge]
  unfold D_X9_fraction_J39
  rw [zif_f hgn, n64_div (by omega) (by omega) (by omega) (by omega), n64_div (by omega) (by omega) (by omega) (by omega), rat_num hb, rat_den hb]
/-- rows of numbers may be put in order by changing two at a time -/
theorem arg_min {K : Nat} {q : Nat → Nat} : ∀ m d, d + m + 1 = K → ∃ a, d ≤ a ∧ a < K ∧ ∀ k, d ≤ k → k < K → q a ≤ q k
  | 0, d, h => ⟨d, Nat.le_refl _, by omega, fun k h1 h2 => by rw [show k = d by omega]; exact Nat.le_refl _⟩
  | m + 1, d, h => by
    obtain ⟨a, a1, a2, a3⟩ := arg_min (K := K) (q := q) m (d + 1) (by omega)
    by_cases e : q d ≤ q a
    · exact ⟨d, Nat.le_refl _, by omega, fun k h1 h2 => by
        by_cases e2 : k = d
        · rw [e2]; exact Nat.le_refl _
        · exact Nat.le_trans e (a3 k (by omega) h2)⟩
    · exact ⟨a, by omega, a2, fun k h1 h2 => by
        by_cases e2 : k = d
        · rw [e2]; omega
        · exact a3 k (by omega) h2⟩
theorem sort_ex {K : Nat} {P : (Nat → Nat) → Prop} (hP : ∀ q a b, a < K → b < K → P q → P (fun k => q (zswp a b k))) : ∀ m d q, d + m = K → P q → (∀ a b, a < K → b < K → q a = q b → a = b) → (∀ i j, i < d → i < j → j < K → q i < q j) → ∃ q', P q' ∧ ∀ i j, i < j → j < K → q' i < q' j := by
  intro m
  induction m with
  | zero =>
    intro d q hd hq _ hs
    exact ⟨q, hq, fun i j h1 h2 => hs i j (by omega) h1 h2⟩
  | succ m ih =>
    intro d q hd hq hi hs
    obtain ⟨a, a1, a2, a3⟩ := arg_min (K := K) (q := q) m d (by omega)
    have hsw : ∀ k, k < K → zswp d a k < K := fun k hk => by unfold zswp; (split; omega; (split <;> omega))
    have hsi : ∀ x y, zswp d a x = zswp d a y → x = y := fun x y h => by
      unfold zswp at h
      split at h <;> split at h <;> (try split at h) <;> (try split at h) <;> omega
    refine ih (d + 1) (fun k => q (zswp d a k)) (by omega) (hP q d a (by omega) a2 hq) (fun x y hx hy h => hsi x y (hi _ _ (hsw x hx) (hsw y hy) h)) (fun i j h1 h2 h3 => ?_)
    by_cases e : i = d
    · subst e
      have e1 : zswp i a i = a := by unfold zswp; rw [if_pos rfl]
      show q (zswp i a i) < q (zswp i a j)
      rw [e1]
      have hj : i ≤ zswp i a j := by unfold zswp; (split; omega; (split <;> omega))
      have hle := a3 _ hj (hsw j h3)
      have hne : q a ≠ q (zswp i a j) := fun h => by
        have := hi _ _ a2 (hsw j h3) h
        have := hsi _ _ (e1.trans this)
        omega
      omega
    · have e1 : zswp d a i = i := zswp_fix e (by omega)
      show q (zswp d a i) < q (zswp d a j)
      rw [e1]
      refine hs i _ (by omega) ?_ (hsw j h3)
      unfold zswp
      split
      · omega
      · split <;> omega
theorem zswp_zswp {a b k : Nat} : zswp a b (zswp a b k) = k := by
  unfold zswp
  (repeat' split) <;> omega
theorem zswp_lt {a b k n : Nat} (ha : a < n) (hb : b < n) : zswp a b k < n ↔ k < n := by
  unfold zswp
  split
  · omega
  · split <;> omega
theorem lpMx_swp {n a b i c : Nat} {p : Nat → Nat} (ha : a < n) (hb : b < n) : lpMx n (fun k => p (zswp a b k)) i c = lpMx n p i (zswp a b c) := by
  unfold lpMx
  by_cases e : i < n ∧ c < n
  · rw [if_pos e, if_pos ⟨e.1, (zswp_lt ha hb).mpr e.2⟩]
  · rw [if_neg e, if_neg (fun x => e ⟨x.1, (zswp_lt ha hb).mp x.2⟩)]
theorem nsing_swp {m : Nat → Nat → Int} {n a b : Nat} (hn : n ≤ 5) (ha : a < n) (hb : b < n) (h : nsing m n) : nsing (fun i c => m i (zswp a b c)) n := fun y hy h0 c hc => by
  have := h (fun c => y (zswp a b c)) (fun c h1 h2 => hy _ (by have := zswp_lt (k := c) ha hb; omega) (by have := zswp_lt (k := c) (show a < 5 by omega) (show b < 5 by omega); omega)) (fun i hi => by
    rw [← sum5_swp (show a < 5 by omega) (show b < 5 by omega)]
    have e := h0 i hi
    rw [← e]
    congr 1
    funext k
    rw [zswp_zswp]) (zswp a b c) ((zswp_lt (by omega) (by omega)).mpr hc)
  rw [← zswp_zswp (a := a) (b := b) (k := c)]
  exact this
theorem payVal_swp {n a b : Nat} {v : Nat → Int} {p : Nat → Nat} {t : Rat} (hn : n ≤ 5) (ha : a < n) (hb : b < n) (h : payVal n v p t) : payVal n v (fun k => p (zswp a b k)) t := by
  obtain ⟨x, x1, x2, x3, x4, x5⟩ := h
  refine ⟨fun c => x (zswp a b c), fun c => x1 _, fun c hc => x2 _ (by have := zswp_lt (k := c) ha hb; omega), fun i hi => ?_, ?_, ?_⟩
  · rw [x3 i hi, ← sum5_swp (show a < 5 by omega) (show b < 5 by omega)]
    congr 1
    funext k
    rw [lpMx_swp ha hb]
  · have := nsing_swp hn ha hb x4
    rw [show lpMx n (fun k => p (zswp a b k)) = fun i c => lpMx n p i (zswp a b c) by funext i c; exact lpMx_swp ha hb]
    exact this
  · rw [x5, ← sum5_swp (show a < 5 by omega) (show b < 5 by omega)]
/-- a cover's value is no more than what anybody has who satisfies all -/
theorem xS_cover {n : Nat} {p : Nat → Nat} {x w : Nat → Rat} {r : Nat → Rat} (hn : n ≤ 4) (hp : ∀ k, k < n → p k < 2 ^ n) (x2 : ∀ c, n ≤ c → x c = 0) (x3 : ∀ i, i < n → r i = sum5 (fun c => (lpMx n p i c : Rat) * x c)) : sum5 (fun c => xS w (p c) * x c) = zsum n (fun i => w i * r i) := by
  have hz : ∀ c i, n ≤ i → i < 4 → c < n → hb (p c) i = 0 := fun c i h1 h2 h3 => hb_z (hp c h3) h1
  have hcell : ∀ c i, c < 5 → i < 4 → (((hb (p c) i : Nat) : Int) : Rat) * x c = if i < n then (lpMx n p i c : Rat) * x c else 0 := fun c i hc hi => by
    by_cases e : c < n
    · by_cases e2 : i < n
      · rw [if_pos e2]; unfold lpMx; rw [if_pos ⟨e2, e⟩]
      · rw [if_neg e2, hz c i (by omega) hi e]; simp
    · rw [x2 c (by omega)]
      split <;> simp
  have hsum : ∀ i, i < 4 → sum5 (fun c => (((hb (p c) i : Nat) : Int) : Rat) * x c) = if i < n then r i else 0 := fun i hi => by
    have t : sum5 (fun c => (((hb (p c) i : Nat) : Int) : Rat) * x c) = sum5 (fun c => if i < n then (lpMx n p i c : Rat) * x c else 0) := by
      exact sum5_congr fun c hc => hcell c i hc hi
    rw [t]
    by_cases e : i < n
    · rw [if_pos e, x3 i e]
      congr 1
      funext c
      rw [if_pos e]
    · rw [if_neg e]
      unfold sum5
      simp only [if_neg e]
      grind
  have h0 := hsum 0 (by omega)
  have h1 := hsum 1 (by omega)
  have h2 := hsum 2 (by omega)
  have h3 := hsum 3 (by omega)
  have e1 : sum5 (fun c => xS w (p c) * x c) = w 0 * sum5 (fun c => (((hb (p c) 0 : Nat) : Int) : Rat) * x c) + w 1 * sum5 (fun c => (((hb (p c) 1 : Nat) : Int) : Rat) * x c) + w 2 * sum5 (fun c => (((hb (p c) 2 : Nat) : Int) : Rat) * x c) + w 3 * sum5 (fun c => (((hb (p c) 3 : Nat) : Int) : Rat) * x c) := by
    unfold sum5 xS
    grind
  rw [e1, h0, h1, h2, h3]
  have hc : n = 0 ∨ n = 1 ∨ n = 2 ∨ n = 3 ∨ n = 4 := by omega
  rcases hc with rfl | rfl | rfl | rfl | rfl <;> simp [zsum] <;> grind
theorem xS_all {n : Nat} {w : Nat → Rat} (hn : n ≤ 4) : xS w (2 ^ n - 1) = zsum n w := by
  have hc : n = 0 ∨ n = 1 ∨ n = 2 ∨ n = 3 ∨ n = 4 := by omega
  have h : ∀ n, n < 5 → ∀ i, i < 4 → hb (2 ^ n - 1) i = if i < n then 1 else 0 := by decide +kernel
  unfold xS
  rw [h n (by omega) 0 (by omega), h n (by omega) 1 (by omega), h n (by omega) 2 (by omega), h n (by omega) 3 (by omega)]
  rcases hc with rfl | rfl | rfl | rfl | rfl <;> simp [zsum] <;> grind
