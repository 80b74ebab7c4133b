/-! the reference's least pay: values, the best, the next row -/
theorem ratacc {a b v : Int} {x : Rat} (hb : b ≠ 0) : (((a * (x.den : Int) + v * x.num * b : Int) : Rat)) / ((b * (x.den : Int) : Int) : Rat) = (a : Rat) / (b : Rat) + (v : Rat) * x := by
  have h1 : (x.den : Rat) ≠ 0 := fun e => by
    have : x.den = 0 := by exact_mod_cast e
    exact x.den_nz this
  have h2 : (b : Rat) ≠ 0 := fun e => hb (ratInt_inj (by rw [e]; rfl))
  have e1 := rat_md x
  push_cast
  rw [← e1]
  grind
/-- the value of a row of sets, where it is the weights of a cover -/
def nsing (m : Nat → Nat → Int) (n : Nat) : Prop := ∀ y : Nat → Rat, (∀ c, n ≤ c → c < 5 → y c = 0) → (∀ i, i < 5 → sum5 (fun c => (m i c : Rat) * y c) = 0) → ∀ c, c < 5 → y c = 0
def payVal (n : Nat) (v : Nat → Int) (p : Nat → Nat) (t : Rat) : Prop := ∃ x : Nat → Rat, (∀ c, 0 ≤ x c) ∧ (∀ c, n ≤ c → x c = 0) ∧ (∀ i, i < 5 → (if i < n then (1 : Rat) else 0) = sum5 (fun c => (lpMx n p i c : Rat) * x c)) ∧ nsing (lpMx n p) n ∧ t = sum5 (fun c => (v (p c) : Rat) * x c)
theorem lp137 {n : Nat} {v : Nat → Int} {p : Nat → Nat} {x : Nat → Rat} {rec42 : Int32 → zS → Option zS} {a1 : Int32} {s : zS} (hu : uOk s n v) (hp : ∀ k, k < n → p k < 16) (hpk : pkE s n p) (hx : ∀ c, c < n → rCell s (6 * c + 5) (x c) ∧ (x c).num.natAbs ≤ 75 ∧ (x c).den ≤ 15) :
    ∀ m f k (a b P : Int), k + m = n → m < f → 1 ≤ P → P * 16 ^ m ≤ 65536 → (0 < b ∧ b ≤ P) → (-(75000 * P) ≤ a ∧ a ≤ 75000 * P) → (∀ c, c < k → 0 ≤ x c) → (a : Rat) / (b : Rat) = zsum k (fun c => (v (p c) : Rat) * x c) →
    (D_X9_layPay_L137 rec42 s a1 f (n32 1) (n64 a) (n64 b) (n32 (k : Int)) = D_X9_layPay_J289 rec42 s a1 ∧ ∃ c, c < n ∧ x c < 0) ∨
    ∃ a' b' : Int, D_X9_layPay_L137 rec42 s a1 f (n32 1) (n64 a) (n64 b) (n32 (k : Int)) = D_X9_layPay_J231 rec42 s a1 (n32 1) (n64 a') (n64 b') ∧ (0 < b' ∧ b' ≤ 65536) ∧ (-4915200000 ≤ a' ∧ a' ≤ 4915200000) ∧ (∀ c, c < n → 0 ≤ x c) ∧ (a' : Rat) / (b' : Rat) = zsum n (fun c => (v (p c) : Rat) * x c) := by
  obtain ⟨u1, u2, u3, u4, u5⟩ := hu
  intro m
  induction m with
  | zero =>
    intro f k a b P hk hf hP1 hP hb ha hpos hval
    obtain ⟨f, rfl⟩ : ∃ t, f = t + 1 := ⟨f - 1, by omega⟩
    obtain rfl : k = n := by omega
    right
    refine ⟨a, b, ?_, ⟨hb.1, by omega⟩, by omega, hpos, hval⟩
    rw [D_X9_layPay_L137_s]
    unfold D_X9_layPay_B137
    rw [u1, zif_t (Int32.le_refl _)]
  | succ m ih =>
    intro f k a b P hk hf hP1 hP hb ha hpos hval
    obtain ⟨f, rfl⟩ : ∃ t, f = t + 1 := ⟨f - 1, by omega⟩
    have hP16 : P * 16 * 16 ^ m ≤ 65536 := by rw [Int.pow_succ] at hP; grind
    have hPle : P * 16 ≤ 65536 := by
      have h1 : (1 : Int) ≤ 16 ^ m := Int.pow_pos (by decide)
      have := Int.mul_le_mul_of_nonneg_left h1 (show (0 : Int) ≤ P * 16 by omega)
      omega
    obtain ⟨hc, hx1, hx2⟩ := hx k (by omega)
    have hv := u5 (p k) (hp k (by omega))
    have hn1 := natb hx1
    have hd1 : (0 : Int) < (x k).den := by have := (x k).den_pos; omega
    have m1 := abs_mul (a := a) (b := ((x k).den : Int)) (A := 75000 * P) (B := 15) ha.1 ha.2 (by omega) (by omega)
    have m2 := abs_mul (a := v (p k)) (b := (x k).num) (A := 1000) (B := 75) hv.1 hv.2 hn1.1 hn1.2
    have m3 := abs_mul (a := v (p k) * (x k).num) (b := b) (A := 75000) (B := P) m2.1 m2.2 (by omega) hb.2
    have m4 := abs_mul (a := b) (b := ((x k).den : Int)) (A := P) (B := 15) (by omega) hb.2 (by omega) (by omega)
    have m5 : 0 < b * ((x k).den : Int) := Int.mul_pos hb.1 hd1
    have hJ : ∀ w : Int, D_X9_layPay_J190 rec42 (D_X9_layPay_L137 rec42 s a1 f) s a1 (n64 a) (n64 b) (n32 (k : Int)) (n64 (x k).num) (n64 ((x k).den : Int)) (n32 w) = D_X9_layPay_L137 rec42 s a1 f (n32 w) (n64 (a * ((x k).den : Int) + v (p k) * (x k).num * b)) (n64 (b * ((x k).den : Int))) (n32 ((k + 1 : Nat) : Int)) := fun w => by
      unfold D_X9_layPay_J190
      rw [zgd_t (czin (by omega) (by omega)), n32_xn (by omega), hpk k (by omega), zgd_t (czin (by have := hp k (by omega); omega) (hp k (by omega))), n32_xn (by have := hp k (by omega); omega), u4 (p k) (hp k (by omega)), n32_64 (by omega) (by omega), nsuc, n64_mul, n64_mul, n64_mul, n64_mul, n64_add]
    rw [D_X9_layPay_L137_s]
    unfold D_X9_layPay_B137
    have i65 : (6 : Int32) * n32 (k : Int) + (5 : Int32) = n32 ((6 * k + 5 : Nat) : Int) := ix6 k 5
    rw [u1, zif_f (by rw [c32_le (by omega) (by omega)]; omega), zif_f (by decide), i65, zgd_t (czin (by omega) (by omega)), zgd_t (czin (by omega) (by omega)), n32_xn (by omega), hc.1, hc.2]
    by_cases hneg : (x k).num < 0
    · left
      refine ⟨?_, k, by omega, Rat.not_le.mp (fun h => by have := Rat.num_nonneg.mpr h; omega)⟩
      rw [zif_t (by rw [l64_0, lgc_lt (by omega) (by omega) (by omega) (by omega)]; exact hneg)]
      have := hJ 0
      have e0 : D_X9_layPay_J190 rec42 (D_X9_layPay_L137 rec42 s a1 f) s a1 (n64 a) (n64 b) (n32 (k : Int)) (n64 (x k).num) (n64 ((x k).den : Int)) (0 : Int32) = D_X9_layPay_L137 rec42 s a1 f (0 : Int32) (n64 (a * ((x k).den : Int) + v (p k) * (x k).num * b)) (n64 (b * ((x k).den : Int))) (n32 ((k + 1 : Nat) : Int)) := this
      rw [e0]
      obtain ⟨f, rfl⟩ : ∃ t, f = t + 1 := ⟨f - 1, by omega⟩
      rw [D_X9_layPay_L137_s]
      unfold D_X9_layPay_B137
      have hz : D_X9_layPay_J231 rec42 s a1 (0 : Int32) (n64 (a * ((x k).den : Int) + v (p k) * (x k).num * b)) (n64 (b * ((x k).den : Int))) = D_X9_layPay_J289 rec42 s a1 := by
        unfold D_X9_layPay_J231
        rw [zif_t rfl]
      by_cases e : s.1 66 0 ≤ n32 ((k + 1 : Nat) : Int)
      · rw [zif_t e, hz]
      · rw [zif_f e, zif_t rfl, hz]
    · rw [zif_f (by rw [l64_0, lgc_lt (by omega) (by omega) (by omega) (by omega)]; exact hneg)]
      have e0 : D_X9_layPay_J190 rec42 (D_X9_layPay_L137 rec42 s a1 f) s a1 (n64 a) (n64 b) (n32 (k : Int)) (n64 (x k).num) (n64 ((x k).den : Int)) (1 : Int32) = D_X9_layPay_L137 rec42 s a1 f (n32 1) (n64 (a * ((x k).den : Int) + v (p k) * (x k).num * b)) (n64 (b * ((x k).den : Int))) (n32 ((k + 1 : Nat) : Int)) := hJ 1
      rw [e0]
      refine ih f (k + 1) _ _ (P * 16) (by omega) (by omega) (by omega) hP16 ⟨m5, by omega⟩ ⟨by omega, by omega⟩ (fun c hc => ?_) ?_
      · by_cases e : c = k
        · rw [e]; exact Rat.num_nonneg.mp (by omega)
        · exact hpos c (by omega)
      · rw [ratacc (by omega), hval, zsum]
/-- the best so far as it lies -/
def bstE (s : zS) : Option Rat → Prop
  | none => s.2 66 33 = 0 ∧ s.2 66 34 = 0
  | some t => s.2 66 33 = n64 t.num ∧ s.2 66 34 = n64 (t.den : Int)
def bstS (N D : Nat) : Option Rat → Prop
  | none => True
  | some t => t.num.natAbs ≤ N ∧ t.den ≤ D
def bstM (o : Option Rat) (t : Rat) : Option Rat := match o with
  | none => some t
  | some u => if u < t then some t else some u
theorem bstM_lt {u t : Rat} (e : u < t) : bstM (some u) t = some t := if_pos e
theorem bstM_ge {u t : Rat} (e : ¬ u < t) : bstM (some u) t = some u := if_neg e
theorem lp_cmp {t : Rat} {a b : Int} (hb : 0 < b) : a * (t.den : Int) ≤ t.num * b ↔ ¬ t < (a : Rat) / (b : Rat) := by
  have hbr : (0 : Rat) < (b : Rat) := rat_pos hb
  have hd : (0 : Rat) < (t.den : Rat) := by
    have : (0 : Int) < (t.den : Int) := by have := t.den_pos; omega
    exact_mod_cast rat_pos this
  have e1 := rat_md t
  rw [Rat.lt_div_iff hbr, Rat.not_lt]
  constructor
  · intro h
    have h1 : ((a * (t.den : Int) : Int) : Rat) ≤ ((t.num * b : Int) : Rat) := Rat.intCast_le_intCast.mpr h
    push_cast at h1
    rw [← e1] at h1
    have h2 : (a : Rat) * (t.den : Rat) ≤ (t * (b : Rat)) * (t.den : Rat) := by grind
    exact Rat.le_of_mul_le_mul_right h2 hd
  · intro h
    have h2 : (a : Rat) * (t.den : Rat) ≤ (t * (b : Rat)) * (t.den : Rat) := Rat.mul_le_mul_of_nonneg_right h (Rat.le_of_lt hd)
    have h1 : ((a * (t.den : Int) : Int) : Rat) ≤ ((t.num * b : Int) : Rat) := by
      push_cast
      rw [← e1]
      grind
    exact Rat.intCast_le_intCast.mp h1
theorem lp_cmp' {t : Rat} {a b : Int} (hb : 0 < b) : t.num * b < a * (t.den : Int) ↔ t < (a : Rat) / (b : Rat) := by
  have := lp_cmp (t := t) (a := a) hb
  constructor
  · intro h
    by_cases e : t < (a : Rat) / (b : Rat)
    · exact e
    · have := this.mpr e; omega
  · intro h
    by_cases e : a * (t.den : Int) ≤ t.num * b
    · exact absurd h (this.mp e)
    · omega
theorem rat_bd2 {a b : Int} (hb : 0 < b) : ((a : Rat) / (b : Rat)).num.natAbs ≤ a.natAbs ∧ ((a : Rat) / (b : Rat)).den ≤ b.natAbs :=
  rat_bd (by omega) (Rat.div_mul_cancel (fun e => by have := ratInt_inj (a := b) (b := 0) (by rw [e]; rfl); omega))
/-- what lies at 33, 34 changes -/
theorem frm33 (s : zS) (x y : Int64) : uFrm s (zwL (zwL s 66 33 x) 66 34 y) := ⟨fun _ _ _ _ _ _ _ => rfl, fun c k h _ _ _ _ _ => by
  rw [zwL_at, if_neg (fun q => by have := h q.1; omega), zwL_at, if_neg (fun q => by have := h q.1; omega)]⟩
theorem lp231 {rec42 : Int32 → zS → Option zS} {a1 : Int32} {s : zS} {a b : Int} {o : Option Rat} (hb : 0 < b ∧ b ≤ 65536) (ha : -4915200000 ≤ a ∧ a ≤ 4915200000) (h : bstE s o) (hs : bstS 4915200000 65536 o) :
    ∃ s', D_X9_layPay_J231 rec42 s a1 (n32 1) (n64 a) (n64 b) = D_X9_layPay_J289 rec42 s' a1 ∧ uFrm s s' ∧ s'.1 = s.1 ∧ bstE s' (bstM o ((a : Rat) / (b : Rat))) ∧ bstS 4915200000 65536 (bstM o ((a : Rat) / (b : Rat))) := by
  have hg0 : (Int.gcd a b : Int) ≠ 0 := by
    intro q
    have := Int.gcd_eq_zero_iff.mp (by exact_mod_cast q)
    omega
  have hgle : Int.gcd a b ≤ b.natAbs := Nat.le_of_dvd (by omega) (Nat.gcd_dvd_right _ _)
  have hbd := rat_bd2 (a := a) hb.1
  have hput : D_X9_layPay_J262 rec42 s a1 (n64 a) (n64 b) = D_X9_layPay_J289 rec42 (zwL (zwL s 66 33 (n64 ((a : Rat) / (b : Rat)).num)) 66 34 (n64 (((a : Rat) / (b : Rat)).den : Int))) a1 := by
    unfold D_X9_layPay_J262
    have hgn : ¬ n64 (Int.gcd a b : Int) = 0 := by
      rw [l64_0, n64_eq (by omega) (by omega) (by omega) (by omega)]; exact hg0
    rw [zgcd9 (by omega) (by omega) (by omega) (by omega), zbs, zif_f hgn, zif_f hgn, n64_div (by omega) (by omega) (by omega) (by omega), n64_div (by omega) (by omega) (by omega) (by omega), rat_num hb.1, rat_den hb.1]
  have hbst : bstE (zwL (zwL s 66 33 (n64 ((a : Rat) / (b : Rat)).num)) 66 34 (n64 (((a : Rat) / (b : Rat)).den : Int))) (some ((a : Rat) / (b : Rat))) := by
    unfold bstE
    refine ⟨?_, ?_⟩
    · rw [zwL_at, if_neg (by omega), zwL_at, if_pos ⟨rfl, rfl⟩]
    · rw [zwL_at, if_pos ⟨rfl, rfl⟩]
  have hbS : bstS 4915200000 65536 (some ((a : Rat) / (b : Rat))) := by
    unfold bstS
    omega
  unfold D_X9_layPay_J231
  rw [zif_f (by decide)]
  cases o with
  | none =>
    obtain ⟨h1, h2⟩ := h
    rw [h2, zif_t (by decide)]
    exact ⟨_, hput, frm33 _ _ _, rfl, hbst, hbS⟩
  | some t =>
    obtain ⟨h1, h2⟩ := h
    obtain ⟨s1, s2⟩ := hs
    have hd1 : (0 : Int) < t.den := by have := t.den_pos; omega
    have hn1 := natb s1
    have m1 := abs_mul (a := a) (b := (t.den : Int)) (A := 4915200000) (B := 65536) ha.1 ha.2 (by omega) (by omega)
    have m2 := abs_mul (a := t.num) (b := b) (A := 4915200000) (B := 65536) hn1.1 hn1.2 (by omega) hb.2
    rw [h1, h2, zif_f (by rw [l64_0, lgc_eq (by omega) (by omega) (by omega) (by omega)]; omega), n64_mul, n64_mul]
    by_cases e : t < (a : Rat) / (b : Rat)
    · rw [zif_f (by rw [lgc_le (by omega) (by omega) (by omega) (by omega), lp_cmp hb.1]; exact fun x => x e)]
      refine ⟨_, hput, frm33 _ _ _, rfl, ?_, ?_⟩
      · rw [bstM_lt e]; exact hbst
      · rw [bstM_lt e]; exact hbS
    · rw [zif_t (by rw [lgc_le (by omega) (by omega) (by omega) (by omega), lp_cmp hb.1]; exact e)]
      refine ⟨s, rfl, uFrm_r s, rfl, ?_, ?_⟩
      · rw [bstM_ge e]; exact ⟨h1, h2⟩
      · rw [bstM_ge e]; exact ⟨s1, s2⟩
theorem uFrm_84 (s : zS) (k : Nat) (x : Int32) : uFrm s (zwI s 84 k x) := ⟨fun c j _ _ _ h84 _ => by rw [zwI_at, if_neg (fun q => h84 q.1)], fun _ _ _ _ _ _ _ _ => rfl⟩
/-- the next row of the least pay -/
theorem lp361 {n a : Nat} {p : Nat → Nat} {rec42 : Int32 → zS → Option zS} {a1 a2 : Int32} (hn : n ≤ 4) (ha : a < n) (hp : ∀ k, k < n → p k < 1000) : ∀ m f k s, k + m = n → a < k → m < f → s.1 66 0 = n32 (n : Int) → pkE s n (fun j => if j < k then cNext p a j else p j) →
    ∃ s', D_X9_layPay_L361 rec42 a1 a2 f (n32 (k : Int)) s = rec42 a2 s' ∧ uFrm s s' ∧ s'.2 = s.2 ∧ pkE s' n (cNext p a) := by
  intro m
  induction m with
  | zero =>
    intro f k s hk hak hf h66 h
    obtain ⟨f, rfl⟩ : ∃ t, f = t + 1 := ⟨f - 1, by omega⟩
    obtain rfl : k = n := by omega
    refine ⟨s, ?_, uFrm_r s, rfl, fun j hj => ?_⟩
    · rw [D_X9_layPay_L361_s]
      unfold D_X9_layPay_B361
      rw [h66, zif_t (Int32.le_refl _)]
    · rw [h j hj]
      dsimp only
      rw [if_pos hj]
  | succ m ih =>
    intro f k s hk hak hf h66 h
    obtain ⟨f, rfl⟩ : ∃ t, f = t + 1 := ⟨f - 1, by omega⟩
    rw [D_X9_layPay_L361_s]
    unfold D_X9_layPay_B361
    have hk1 : n32 (k : Int) - (1 : Int32) = n32 ((k - 1 : Nat) : Int) := by
      rw [l32_1, n32_sub]
      congr 1
      omega
    have hpa := hp a ha
    have hkk := h (k - 1) (by omega)
    dsimp only at hkk
    rw [if_pos (by omega), show cNext p a (k - 1) = p a + 1 + (k - 1 - a) by unfold cNext; rw [if_neg (by omega)]] at hkk
    rw [h66, zif_f (by rw [c32_le (by omega) (by omega)]; omega), hk1, zgd_t (czin (by omega) (by omega)), zgd_t (czin (by omega) (by omega)), n32_xn (by omega), n32_xn (by omega), hkk, nsuc, nsuc]
    obtain ⟨s2, e2, f2, g2, k2⟩ := ih f (k + 1) (zwI s 84 k (n32 ((p a + 1 + (k - 1 - a) + 1 : Nat) : Int))) (by omega) (by omega) (by omega) (by rw [zwI_at, if_neg (by omega)]; exact h66) (fun j hj => by
      rw [zwI_at]
      try dsimp only
      by_cases e : j = k
      · rw [if_pos ⟨rfl, e⟩, if_pos (by omega), e, show cNext p a k = p a + 1 + (k - a) by unfold cNext; rw [if_neg (by omega)], show p a + 1 + (k - 1 - a) + 1 = p a + 1 + (k - a) by omega]
      · rw [if_neg (fun q => e q.2), h j hj]
        try dsimp only
        by_cases e2 : j < k
        · rw [if_pos e2, if_pos (by omega)]
        · rw [if_neg e2, if_neg (by omega)])
    refine ⟨s2, e2, uFrm_t (uFrm_84 _ _ _) f2, g2, k2⟩
theorem lp289 {n M t : Nat} {p : Nat → Nat} {rec42 : Int32 → zS → Option zS} {s : zS} (hn : n ≤ 4) (hM : M < 16) (ht : t + n = M + 1) (hp : cInc n t 1 p) (h66 : s.1 66 0 = n32 (n : Int)) (hpk : pkE s n p) :
    ∀ d f, d ≤ n → d < f → (∀ k, d ≤ k → k < n → p k = t + k) →
    (D_X9_layPay_L297 rec42 s (n32 (M : Int)) f (n32 ((d : Int) - 1)) = rec42 0 s ∧ ∀ k, k < n → p k = t + k) ∨
    ∃ s' a, D_X9_layPay_L297 rec42 s (n32 (M : Int)) f (n32 ((d : Int) - 1)) = rec42 1 s' ∧ uFrm s s' ∧ s'.2 = s.2 ∧ pkE s' n (cNext p a) ∧ a < n ∧ p a < t + a ∧ ∀ k, a < k → k < n → p k = t + k := by
  intro d
  induction d with
  | zero =>
    intro f hd hf hall
    obtain ⟨f, rfl⟩ : ∃ u, f = u + 1 := ⟨f - 1, by omega⟩
    left
    refine ⟨?_, fun k hk => hall k (by omega) hk⟩
    rw [D_X9_layPay_L297_s]
    unfold D_X9_layPay_B297 D_X9_layPay_J329 D_X9_layPay_J339
    rw [zif_t (by decide), zif_t (by decide), zif_t rfl]
  | succ d ih =>
    intro f hd hf hall
    obtain ⟨f, rfl⟩ : ∃ u, f = u + 1 := ⟨f - 1, by omega⟩
    rw [D_X9_layPay_L297_s]
    unfold D_X9_layPay_B297
    have hb := hp.2 d (by omega)
    have hd1 : n32 (((d + 1 : Nat) : Int) - 1) = n32 (d : Int) := by congr 1; omega
    have hneg : ¬ n32 (d : Int) < 0 := by rw [l32_0, n32_lt (by omega) (by omega) (by omega) (by omega)]; omega
    rw [hd1, zif_f hneg, zgd_t (czin (by omega) (by omega)), n32_xn (by omega), hpk d (by omega), h66, n32_sub, n32_add, l32_1, n32_add]
    by_cases e : p d = t + d
    · rw [zif_t (by rw [n32_eq (by omega) (by omega) (by omega) (by omega)]; omega)]
      have hd2 : n32 (d : Int) + -n32 1 = n32 ((d : Int) - 1) := by rw [n32_neg, n32_add]; rfl
      rw [hd2]
      exact ih f (by omega) (by omega) (fun k h1 h2 => by
        by_cases e2 : k = d
        · rw [e2]; exact e
        · exact hall k (by omega) h2)
    · rw [zif_f (by rw [n32_eq (by omega) (by omega) (by omega) (by omega)]; omega)]
      right
      unfold D_X9_layPay_J329
      rw [zif_f hneg]
      unfold D_X9_layPay_J339
      rw [zif_f (by decide), zgd_t (czin (by omega) (by omega)), zgd_t (czin (by omega) (by omega)), n32_xn (by omega), hpk d (by omega), nsuc, nsuc]
      obtain ⟨s2, e2, f2, g2, k2⟩ := lp361 (p := p) (rec42 := rec42) (a1 := n32 (M : Int)) (a2 := (1 : Int32)) hn (show d < n by omega) (fun k hk => by have := (hp.2 k hk).2; omega) (n - (d + 1)) zFU (d + 1) (zwI s 84 d (n32 ((p d + 1 : Nat) : Int))) (by omega) (by omega) (zFU_lt (by omega)) (by rw [zwI_at, if_neg (by omega)]; exact h66) (fun j hj => by
        rw [zwI_at]
        try dsimp only
        by_cases e3 : j = d
        · rw [if_pos ⟨rfl, e3⟩, if_pos (by omega), e3, show cNext p d d = p d + 1 by unfold cNext; rw [if_neg (by omega)]; omega]
        · rw [if_neg (fun q => e3 q.2), hpk j hj]
          by_cases e4 : j < d + 1
          · rw [if_pos e4, show cNext p d j = p j by unfold cNext; rw [if_pos (by omega)]]
          · rw [if_neg e4])
      exact ⟨s2, d, e2, uFrm_t (uFrm_84 _ _ _) f2, g2, k2, by omega, by omega, fun k h1 h2 => hall k (by omega) h2⟩
