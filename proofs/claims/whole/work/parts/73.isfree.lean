/-! is a set free of the fixed ones: rows of whole numbers, eliminated -/
theorem zsum_swp {n a b : Nat} {f : Nat → Rat} (ha : a < n) (hb : b < n) : zsum n (fun r => f (zswp a b r)) = zsum n f := by
  by_cases e : a = b
  · refine zsum_congr n (fun r _ => ?_)
    unfold zswp
    subst e
    by_cases q : r = a
    · rw [if_pos q, q]
    · rw [if_neg q, if_neg q]
  · have h : zsum n (fun r => f (zswp a b r)) = zsum n (fun r => (f r + if r = a then f b - f a else 0) + if r = b then f a - f b else 0) := zsum_congr n (fun r _ => by
      unfold zswp
      by_cases q : r = a
      · rw [if_pos q, if_pos q, if_neg (by omega), q]; grind
      · rw [if_neg q, if_neg q]
        by_cases q2 : r = b
        · rw [if_pos q2, if_pos q2, q2]; grind
        · rw [if_neg q2, if_neg q2]; grind)
    rw [h, zsum_add, zsum_add, zsum_single (c := a) ha (fun j _ hj => if_neg hj), zsum_single (c := b) hb (fun j _ hj => if_neg hj), if_pos rfl, if_pos rfl]
    grind
theorem linI_swp {k d x y : Nat} {a : Nat → Nat → Rat} (hx : x < k) (hy : y < k) (h : linI k d a) : linI k d (fun r => a (zswp x y r)) := by
  intro c hc r hr
  have := h (fun r => c (zswp x y r)) (fun j hj => by
    rw [← hc j hj, ← zsum_swp hx hy]
    refine zsum_congr k (fun r _ => ?_)
    rw [zswp_zswp]) (zswp x y r) ((zswp_lt hx hy).mpr hr)
  rw [← zswp_zswp (a := x) (b := y) (k := r)]
  exact this
theorem linI_swp' {k d x y : Nat} {a : Nat → Nat → Rat} (hx : x < k) (hy : y < k) : linI k d (fun r => a (zswp x y r)) ↔ linI k d a := by
  refine ⟨fun h => ?_, linI_swp hx hy⟩
  have := linI_swp hx hy h
  have e : (fun r => a (zswp x y (zswp x y r))) = a := by funext r; rw [zswp_zswp]
  rw [e] at this
  exact this
/-- what is cleared below row k by p and f -/
def clrR (k : Nat) (p : Rat) (f : Nat → Rat) (a : Nat → Nat → Rat) : Nat → Nat → Rat := fun r j => if k < r then p * a r j - f r * a k j else a r j
theorem zsum_clr {n k : Nat} {p : Rat} {f c : Nat → Rat} {a : Nat → Nat → Rat} {j : Nat} (hk : k < n) : zsum n (fun r => c r * clrR k p f a r j) = zsum n (fun r => (if k < r then p * c r else if r = k then c k - zsum n (fun r => if k < r then c r * f r else 0) else c r) * a r j) := by
  have h1 : zsum n (fun r => c r * clrR k p f a r j) = zsum n (fun r => (if k < r then p * c r else c r) * a r j) - zsum n (fun r => (if k < r then c r * f r else 0) * a k j) := by
    rw [← zsum_sub]
    refine zsum_congr n (fun r _ => ?_)
    unfold clrR
    by_cases e : k < r
    · rw [if_pos e, if_pos e, if_pos e]; grind
    · rw [if_neg e, if_neg e, if_neg e]; grind
  rw [h1, zsum_mulr]
  have h2 : zsum n (fun r => (if k < r then p * c r else if r = k then c k - zsum n (fun r => if k < r then c r * f r else 0) else c r) * a r j) = zsum n (fun r => (if k < r then p * c r else c r) * a r j + if r = k then -(zsum n (fun r => if k < r then c r * f r else 0)) * a k j else 0) := zsum_congr n (fun r _ => by
    by_cases e : r = k
    · rw [if_neg (by omega), if_pos e, if_neg (by omega), if_pos e, e]; grind
    · rw [if_neg e, if_neg e]; grind)
  rw [h2, zsum_add, zsum_single (c := k) hk (fun j _ hj => if_neg hj), if_pos rfl]
  grind
theorem linI_clr {n d k : Nat} {p : Rat} {f : Nat → Rat} {a : Nat → Nat → Rat} (hk : k < n) (hp : p ≠ 0) : linI n d (clrR k p f a) ↔ linI n d a := by
  constructor
  · intro h c hc
    have hdiv : ∀ x : Rat, p * (x / p) = x := fun x => by rw [Rat.mul_comm]; exact Rat.div_mul_cancel hp
    have h0 := h (fun r => if k < r then c r / p else if r = k then c k + zsum n (fun r => if k < r then c r / p * f r else 0) else c r) (fun j hj => by
      rw [zsum_clr hk]
      refine Eq.trans (zsum_congr n (fun r _ => ?_)) (hc j hj)
      have e1 : zsum n (fun r => if k < r then (if k < r then c r / p else if r = k then c k + zsum n (fun r => if k < r then c r / p * f r else 0) else c r) * f r else 0) = zsum n (fun r => if k < r then c r / p * f r else 0) := zsum_congr n (fun r _ => by
        by_cases e : k < r
        · rw [if_pos e, if_pos e, if_pos e]
        · rw [if_neg e, if_neg e])
      rw [e1]
      by_cases e : k < r
      · rw [if_pos e, if_pos e, hdiv]
      · rw [if_neg e]
        by_cases e2 : r = k
        · rw [if_pos e2, if_neg (Nat.lt_irrefl k), if_pos rfl, e2]; grind
        · rw [if_neg e2, if_neg e, if_neg e2])
    have hgt : ∀ r, k < r → r < n → c r = 0 := fun r h1 h2 => by
      have := h0 r h2
      try dsimp only at this
      rw [if_pos h1] at this
      rw [← hdiv (c r), this]; grind
    intro r hr
    by_cases e : k < r
    · exact hgt r e hr
    · have := h0 r hr
      try dsimp only at this
      rw [if_neg e] at this
      by_cases e2 : r = k
      · rw [if_pos e2, zsum_zero n (fun i hi => by
          by_cases e3 : k < i
          · rw [if_pos e3, hgt i e3 hi, Rat.div_def]; grind
          · rw [if_neg e3])] at this
        rw [e2]; grind
      · rw [if_neg e2] at this; exact this
  · intro h c hc
    have h0 := h _ (fun j hj => by rw [← zsum_clr (p := p) (f := f) (c := c) (a := a) hk]; exact hc j hj)
    have hgt : ∀ r, k < r → r < n → c r = 0 := fun r h1 h2 => by
      have := h0 r h2
      try dsimp only at this
      rw [if_pos h1] at this
      rcases Rat.mul_eq_zero.mp this with q | q
      · exact absurd q hp
      · exact q
    intro r hr
    by_cases e : k < r
    · exact hgt r e hr
    · have := h0 r hr
      try dsimp only at this
      rw [if_neg e] at this
      by_cases e2 : r = k
      · rw [if_pos e2, zsum_zero n (fun i hi => by
          by_cases e3 : k < i
          · rw [if_pos e3, hgt i e3 hi]; grind
          · rw [if_neg e3])] at this
        rw [e2]; grind
      · rw [if_neg e2] at this; exact this
theorem linI_ext {k d : Nat} {a b : Nat → Nat → Rat} (h : ∀ r, r < k → ∀ j, j < d → a r j = b r j) (ha : linI k d a) : linI k d b := by
  intro c hc
  exact ha c (fun j hj => by rw [← hc j hj]; exact zsum_congr k (fun r hr => by rw [h r hr j hj]))
/-- rows with steps are independent -/
theorem linI_tri {k d : Nat} {a : Nat → Nat → Rat} {pc : Nat → Nat} (h1 : ∀ r, r < k → pc r < d ∧ a r (pc r) ≠ 0) (h2 : ∀ r r', r < r' → r' < k → a r' (pc r) = 0) : linI k d a := by
  intro c hc r
  induction r using Nat.strongRecOn with
  | ind r ih =>
    intro hr
    have h := hc (pc r) (h1 r hr).1
    rw [zsum_single (c := r) hr (fun i hi hne => by
      by_cases e : i < r
      · rw [ih i e hi]; grind
      · rw [h2 r i (by omega) hi]; grind)] at h
    rcases Rat.mul_eq_zero.mp h with q | q
    · exact q
    · exact absurd q (h1 r hr).2
/-! on the cells -/
def jFrm (s s' : zS) : Prop := s'.1 = s.1 ∧ ∀ c k, c ≠ 82 → s'.2 c k = s.2 c k
theorem jFrm_r (s : zS) : jFrm s s := ⟨rfl, fun _ _ _ => rfl⟩
theorem jFrm_t {s s' s'' : zS} (h : jFrm s s') (h' : jFrm s' s'') : jFrm s s'' := ⟨h'.1.trans h.1, fun c k a => (h'.2 c k a).trans (h.2 c k a)⟩
theorem jFrm_w (s : zS) (k : Nat) (x : Int64) : jFrm s (zwL s 82 k x) := ⟨rfl, fun c k' h => by rw [zwL_at, if_neg (fun q => h q.1)]⟩
theorem uFrm_j {s s' : zS} (h : jFrm s s') : uFrm s s' := ⟨fun c k _ _ _ _ _ => by rw [h.1], fun c k _ _ _ _ _ h82 => h.2 c k h82⟩
def iE (s : zS) (m : Nat) (A : Nat → Nat → Int) : Prop := ∀ r, r ≤ m → ∀ c, c < 4 → s.2 82 (4 * r + c) = n64 (A r c)
theorem ix4 (r c : Nat) : (4 : Int32) * n32 (r : Int) + n32 (c : Int) = n32 ((4 * r + c : Nat) : Int) := by
  rw [l32_4, n32_mul, n32_add]; rfl
theorem iE_w {s : zS} {m r c : Nat} {A : Nat → Nat → Int} {x : Int} (h : iE s m A) (hc : c < 4) : iE (zwL s 82 (4 * r + c) (n64 x)) m (fun r' c' => if r' = r ∧ c' = c then x else A r' c') := by
  intro r' hr' c' hc'
  rw [zwL_at]
  dsimp only
  by_cases q : r' = r ∧ c' = c
  · rw [if_pos q, if_pos ⟨rfl, by omega⟩]
  · rw [if_neg q, if_neg (fun x => q (by have := x.2; omega))]; exact h r' hr' c' hc'
theorem iE_ext {s : zS} {m : Nat} {A B : Nat → Nat → Int} (h : iE s m A) (e : ∀ r, r ≤ m → ∀ c, c < 4 → A r c = B r c) : iE s m B := fun r hr c hc => by rw [← e r hr c hc]; exact h r hr c hc
section IF
variable {m n : Nat}
theorem if237 {k r j : Nat} {A : Nat → Nat → Int} {rec79 : Int32 → Int32 → zS → Option (Int32 × zS)} {rec200 : Int32 → zS → Option (Int32 × zS)} {f p : Int} (hm : m ≤ 4) (hr : r ≤ m) (hk : k ≤ m) (hkr : k ≠ r) : ∀ d fu c s, c + d = 4 → d < fu → iE s m (fun r' c' => if r' = r ∧ c' < c then A r c' * p - A k c' * f else A r' c') →
    ∃ s', D_X9_isFree_L237 rec79 rec200 (n32 (k : Int)) (n32 (j : Int)) (n32 (r : Int)) (n64 f) (n64 p) fu (n32 (c : Int)) s = rec200 (n32 ((r + 1 : Nat) : Int)) s' ∧ jFrm s s' ∧ iE s' m (fun r' c' => if r' = r then A r c' * p - A k c' * f else A r' c') := by
  intro d
  induction d with
  | zero =>
    intro fu c s hc hf h
    obtain ⟨fu, rfl⟩ : ∃ t, fu = t + 1 := ⟨fu - 1, by omega⟩
    obtain rfl : c = 4 := by omega
    refine ⟨s, ?_, jFrm_r s, iE_ext h (fun r' hr' c' hc' => by
      by_cases e : r' = r
      · rw [if_pos e, if_pos ⟨e, hc'⟩]
      · rw [if_neg e, if_neg (fun x => e x.1)])⟩
    rw [D_X9_isFree_L237_s]
    unfold D_X9_isFree_B237
    rw [zif_t (by decide), nsuc]
  | succ d ih =>
    intro fu c s hc hf h
    obtain ⟨fu, rfl⟩ : ∃ t, fu = t + 1 := ⟨fu - 1, by omega⟩
    rw [D_X9_isFree_L237_s]
    unfold D_X9_isFree_B237
    have v1 := h r hr c (by omega)
    have v2 := h k hk c (by omega)
    dsimp only at v1 v2
    rw [if_neg (by omega)] at v1 v2
    rw [zif_f (by rw [l32_4, show n32 4 = n32 ((4 : Nat) : Int) from rfl, c32_le (by omega) (by omega)]; omega)]
    simp only [ix4, zgd_t (czin (show 4 * r + c < 2147483648 by omega) (show 4 * r + c < 20 by omega)), zgd_t (czin (show 4 * k + c < 2147483648 by omega) (show 4 * k + c < 20 by omega)), n32_xn (show 4 * r + c < 2147483648 by omega), n32_xn (show 4 * k + c < 2147483648 by omega), nsuc]
    rw [v1, v2, n64_mul, n64_mul, n64_sub]
    obtain ⟨s2, e2, f2, g2⟩ := ih fu (c + 1) _ (by omega) (by omega) (iE_ext (iE_w (r := r) (c := c) (x := A r c * p - A k c * f) h (by omega)) (fun r' hr' c' hc' => by
      try dsimp only
      by_cases e : r' = r ∧ c' = c
      · rw [if_pos e, if_pos ⟨e.1, by omega⟩, e.2]
      · rw [if_neg e]
        by_cases e2 : r' = r ∧ c' < c
        · rw [if_pos e2, if_pos ⟨e2.1, by omega⟩]
        · rw [if_neg e2, if_neg (by omega)]))
    exact ⟨s2, e2, jFrm_t (jFrm_w _ _ _) f2, g2⟩
/-- whole numbers cleared -/
def clrZ (k j : Nat) (A : Nat → Nat → Int) : Nat → Nat → Int := fun r c => if k < r then A r c * A k j - A k c * A r j else A r c
theorem if200 {k j : Nat} {A : Nat → Nat → Int} {rec79 : Int32 → Int32 → zS → Option (Int32 × zS)} (hm : m ≤ 4) (hj : j < 4) (hk : k ≤ m) : ∀ d fu r s, r + d = m + 1 → k < r → d < fu → s.1 66 23 = n32 (m : Int) → iE s m (fun r' c' => if k < r' ∧ r' < r then clrZ k j A r' c' else A r' c') →
    ∃ s', D_X9_isFree_L200 rec79 (n32 (k : Int)) (n32 (j : Int)) fu (n32 (r : Int)) s = rec79 (n32 ((k + 1 : Nat) : Int)) (n32 ((j + 1 : Nat) : Int)) s' ∧ jFrm s s' ∧ iE s' m (clrZ k j A) := by
  intro d
  induction d with
  | zero =>
    intro fu r s hr hkr hf h23 h
    obtain ⟨fu, rfl⟩ : ∃ t, fu = t + 1 := ⟨fu - 1, by omega⟩
    refine ⟨s, ?_, jFrm_r s, iE_ext h (fun r' hr' c' hc' => by
      by_cases e : k < r'
      · rw [if_pos ⟨e, by omega⟩]
      · rw [if_neg (fun x => e x.1)]
        unfold clrZ
        rw [if_neg e])⟩
    rw [D_X9_isFree_L200_s]
    unfold D_X9_isFree_B200
    rw [h23, zif_t (by rw [c32_lt (by omega) (by omega)]; omega), nsuc, nsuc]
  | succ d ih =>
    intro fu r s hr hkr hf h23 h
    obtain ⟨fu, rfl⟩ : ∃ t, fu = t + 1 := ⟨fu - 1, by omega⟩
    have v1 := h r (by omega) j hj
    have v2 := h k hk j hj
    dsimp only at v1 v2
    rw [if_neg (by omega)] at v1 v2
    rw [D_X9_isFree_L200_s]
    unfold D_X9_isFree_B200
    rw [h23, zif_f (by rw [c32_lt (by omega) (by omega)]; omega), ix4, ix4, zgd_t (czin (by omega) (by omega)), zgd_t (czin (by omega) (by omega)), n32_xn (by omega), n32_xn (by omega), v1, v2]
    obtain ⟨s1, e1, f1, g1⟩ := if237 (A := fun r' c' => if k < r' ∧ r' < r then clrZ k j A r' c' else A r' c') (rec79 := rec79) (rec200 := D_X9_isFree_L200 rec79 (n32 (k : Int)) (n32 (j : Int)) fu) (k := k) (r := r) (j := j) (f := A r j) (p := A k j) hm (show r ≤ m by omega) hk (by omega) 4 zFU 0 s (by omega) (zFU_lt (by omega)) (iE_ext h (fun r' hr' c' hc' => by rw [if_neg (show ¬ (r' = r ∧ c' < 0) by omega)]))
    have e1' : D_X9_isFree_L237 rec79 (D_X9_isFree_L200 rec79 (n32 (k : Int)) (n32 (j : Int)) fu) (n32 (k : Int)) (n32 (j : Int)) (n32 (r : Int)) (n64 (A r j)) (n64 (A k j)) zFU (0 : Int32) s = D_X9_isFree_L200 rec79 (n32 (k : Int)) (n32 (j : Int)) fu (n32 ((r + 1 : Nat) : Int)) s1 := e1
    rw [e1']
    obtain ⟨s2, e2, f2, g2⟩ := ih fu (r + 1) s1 (by omega) (by omega) (by omega) (by rw [f1.1]; exact h23) (iE_ext g1 (fun r' hr' c' hc' => by
      try dsimp only
      by_cases e : r' = r
      · rw [if_pos e, if_neg (show ¬ (k < r ∧ r < r) by omega), if_neg (show ¬ (k < k ∧ k < r) by omega), if_pos (show k < r' ∧ r' < r + 1 by omega)]
        unfold clrZ
        rw [if_pos (show k < r' by omega), e]
      · rw [if_neg e]
        by_cases e2 : k < r' ∧ r' < r
        · rw [if_pos e2, if_pos ⟨e2.1, by omega⟩]
        · rw [if_neg e2, if_neg (by omega)]))
    exact ⟨s2, e2, jFrm_t f1 f2, g2⟩
theorem if133 {k j p : Nat} {A : Nat → Nat → Int} {rec79 : Int32 → Int32 → zS → Option (Int32 × zS)} (hm : m ≤ 4) (hp : p ≤ m) (hk : k ≤ m) : ∀ d fu c s, c + d = 4 → d < fu → iE s m (fun r' c' => if c' < c then A (zswp k p r') c' else A r' c') →
    ∃ s', D_X9_isFree_L133 rec79 (n32 (k : Int)) (n32 (j : Int)) (n32 (p : Int)) fu (n32 (c : Int)) s = D_X9_isFree_L200 rec79 (n32 (k : Int)) (n32 (j : Int)) zFU (n32 ((k + 1 : Nat) : Int)) s' ∧ jFrm s s' ∧ iE s' m (fun r' c' => A (zswp k p r') c') := by
  intro d
  induction d with
  | zero =>
    intro fu c s hc hf h
    obtain ⟨fu, rfl⟩ : ∃ t, fu = t + 1 := ⟨fu - 1, by omega⟩
    obtain rfl : c = 4 := by omega
    refine ⟨s, ?_, jFrm_r s, iE_ext h (fun r' hr' c' hc' => by rw [if_pos hc'])⟩
    rw [D_X9_isFree_L133_s]
    unfold D_X9_isFree_B133
    rw [zif_t (by decide), nsuc]
  | succ d ih =>
    intro fu c s hc hf h
    obtain ⟨fu, rfl⟩ : ∃ t, fu = t + 1 := ⟨fu - 1, by omega⟩
    have v1 := h p hp c (by omega)
    have v2 := h k hk c (by omega)
    dsimp only at v1 v2
    rw [if_neg (by omega)] at v1 v2
    rw [D_X9_isFree_L133_s]
    unfold D_X9_isFree_B133
    rw [zif_f (by rw [l32_4, show n32 4 = n32 ((4 : Nat) : Int) from rfl, c32_le (by omega) (by omega)]; omega)]
    simp only [ix4, zgd_t (czin (show 4 * p + c < 2147483648 by omega) (show 4 * p + c < 20 by omega)), zgd_t (czin (show 4 * k + c < 2147483648 by omega) (show 4 * k + c < 20 by omega)), n32_xn (show 4 * p + c < 2147483648 by omega), n32_xn (show 4 * k + c < 2147483648 by omega), nsuc]
    rw [v1, v2]
    obtain ⟨s2, e2, f2, g2⟩ := ih fu (c + 1) _ (by omega) (by omega) (iE_ext (iE_w (r := k) (c := c) (x := A p c) (iE_w (r := p) (c := c) (x := A k c) h (by omega)) (by omega)) (fun r' hr' c' hc' => by
      try dsimp only
      by_cases e1 : c' = c
      · rw [if_pos (show c' < c + 1 by omega)]
        by_cases e : r' = k
        · rw [if_pos ⟨e, e1⟩, e1, show zswp k p r' = p by unfold zswp; rw [if_pos e]]
        · rw [if_neg (fun x => e x.1)]
          by_cases e3 : r' = p
          · rw [if_pos ⟨e3, e1⟩, e1, show zswp k p r' = k by unfold zswp; rw [if_neg e, if_pos e3]]
          · rw [if_neg (fun x => e3 x.1), if_neg (by omega), zswp_fix e e3]
      · rw [if_neg (fun x => e1 x.2), if_neg (fun x => e1 x.2)]
        by_cases e3 : c' < c
        · rw [if_pos e3, if_pos (by omega)]
        · rw [if_neg e3, if_neg (by omega)]))
    exact ⟨s2, e2, jFrm_t (jFrm_w _ _ _) (jFrm_t (jFrm_w _ _ _) f2), g2⟩
end IF
