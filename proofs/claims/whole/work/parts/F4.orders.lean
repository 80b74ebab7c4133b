/-! claims: all orders, as sums over sets -/
def sI (f : Nat → Int) : Nat → Int
  | 0 => 0
  | n + 1 => sI f n + f n
theorem sI_congr {f g : Nat → Int} : ∀ n : Nat, (∀ i, i < n → f i = g i) → sI f n = sI g n := by
  intro n
  induction n with
  | zero => intro _; rfl
  | succ n ih => intro h; rw [sI, sI, ih (fun i hi => h i (by omega)), h n (by omega)]
theorem sI_add {f g : Nat → Int} : ∀ n : Nat, sI (fun i => f i + g i) n = sI f n + sI g n := by
  intro n
  induction n with
  | zero => rfl
  | succ n ih => rw [sI, sI, sI, ih]; omega
theorem sI_0 : ∀ n : Nat, sI (fun _ => 0) n = 0 := by
  intro n
  induction n with
  | zero => rfl
  | succ n ih => rw [sI, ih]; rfl
theorem sI_mul {f : Nat → Int} {c : Int} : ∀ n : Nat, sI (fun i => f i * c) n = sI f n * c := by
  intro n
  induction n with
  | zero => rw [sI, sI, Int.zero_mul]
  | succ n ih => rw [sI, sI, ih, Int.add_mul]
theorem sI_one {f : Nat → Int} {c : Nat} : ∀ n : Nat, sI (fun i => if i = c then f i else 0) n = if c < n then f c else 0 := by
  intro n
  induction n with
  | zero => rw [sI, if_neg (by omega)]
  | succ n ih =>
    rw [sI, ih]
    by_cases e : n = c
    · rw [if_pos e, if_neg (by omega), if_pos (by omega), e]; omega
    · rw [if_neg e]
      by_cases e2 : c < n
      · rw [if_pos e2, if_pos (by omega)]; omega
      · rw [if_neg e2, if_neg (by omega)]; rfl
theorem sI_swap {f : Nat → Nat → Int} {k : Nat} : ∀ n : Nat, sI (fun i => sI (fun j => f i j) k) n = sI (fun j => sI (fun i => f i j) n) k := by
  intro n
  induction n with
  | zero => rw [sI]; exact (sI_0 k).symm
  | succ n ih => rw [sI, ih, ← sI_add]; rfl
theorem sI_split {H : Nat → Nat → Int} {m : Nat} (hm : 1 ≤ m) : ∀ N : Nat, sI (fun a => H (a % m) (a / m)) (N * m) = sI (fun r => sI (fun b => H r b) N) m := by
  have hblock : ∀ (N l : Nat), l ≤ m → sI (fun a => H (a % m) (a / m)) (N * m + l) = sI (fun a => H (a % m) (a / m)) (N * m) + sI (fun r => H r N) l := by
    intro N l
    induction l with
    | zero => intro _; rw [sI, Int.add_zero, Nat.add_zero]
    | succ l ih =>
      intro hl
      have e1 : (N * m + l) % m = l := by rw [Nat.mul_comm, Nat.mul_add_mod]; exact Nat.mod_eq_of_lt (by omega)
      have e2 : (N * m + l) / m = N := by rw [Nat.mul_comm, Nat.mul_add_div (by omega), Nat.div_eq_of_lt (by omega)]; rfl
      rw [← Nat.add_assoc, sI, ih (by omega), sI, e1, e2]
      omega
  intro N
  induction N with
  | zero => rw [Nat.zero_mul, sI]; exact (sI_0 m).symm
  | succ N ih =>
    rw [Nat.succ_mul, hblock N m (Nat.le_refl _), ih, ← sI_add]; rfl
section OR
variable {m k : Nat} {f : Nat → Int}
/-- a number's digits stand for an order of what is left -/
def pmB (m : Nat) : Nat → Nat → Nat → Bool
  | 0, _, _ => true
  | p + 1, t, a => !t.testBit (a % m) && pmB m p (t ||| 2 ^ (a % m)) (a / m)
/-- what k has by it -/
def tkS (m k : Nat) (f : Nat → Int) : Nat → Nat → Nat → Int
  | 0, _, _ => 0
  | p + 1, t, a => (if a % m = k then f t else 0) + tkS m k f p (t ||| 2 ^ (a % m)) (a / m)
def gvS (m k : Nat) (f : Nat → Int) : Nat → Nat → Nat → Int
  | 0, _, _ => 0
  | p + 1, t, a => if t.testBit (a % m) then 0 else if a % m = k then (if pmB m p (t ||| 2 ^ (a % m)) (a / m) then f t else 0) else gvS m k f p (t ||| 2 ^ (a % m)) (a / m)
theorem tk_0 : ∀ p t a : Nat, t.testBit k = true → pmB m p t a = true → tkS m k f p t a = 0 := by
  intro p
  induction p with
  | zero => intro t a _ _; rfl
  | succ p ih =>
    intro t a h1 h2
    rw [pmB, Bool.and_eq_true] at h2
    have hne : ¬ a % m = k := fun q => by rw [q, h1] at h2; exact absurd h2.1 (by decide)
    rw [tkS, if_neg hne, ih _ _ (by rw [or_bit, h1, Bool.true_or]) h2.2]; rfl
theorem gv_is : ∀ p t a : Nat, t.testBit k = false → gvS m k f p t a = if pmB m p t a then tkS m k f p t a else 0 := by
  intro p
  induction p with
  | zero => intro t a _; rw [gvS, pmB, if_pos rfl]; rfl
  | succ p ih =>
    intro t a h
    rw [gvS, pmB, tkS]
    cases q : t.testBit (a % m)
    · rw [if_neg (by decide), Bool.not_false, Bool.true_and]
      by_cases q2 : a % m = k
      · rw [if_pos q2, if_pos q2]
        cases q3 : pmB m p (t ||| 2 ^ (a % m)) (a / m)
        · rw [if_neg (by decide), if_neg (by decide)]
        · rw [if_pos rfl, if_pos rfl, tk_0 _ _ _ (by rw [or_bit, decide_eq_true q2, Bool.or_true]) q3, Int.add_zero]
      · rw [if_neg q2, if_neg q2, Int.zero_add]
        exact ih _ _ (by rw [or_bit, decide_eq_false q2, Bool.or_false]; exact h)
    · rw [if_pos rfl, Bool.not_true, Bool.false_and]; rfl
/-- the sum by places, and by sets -/
def cfI (m k : Nat) (f : Nat → Int) : Nat → Nat → Int
  | 0, _ => 0
  | p + 1, t => sI (fun r => if t.testBit r then 0 else if r = k then f t * (facN p : Int) else cfI m k f p (t ||| 2 ^ r)) m
def sNt (f : Nat → Nat) : Nat → Nat
  | 0 => 0
  | n + 1 => sNt f n + f n
def cfN (m k : Nat) : Nat → Nat → Nat → Nat
  | 0, _, _ => 0
  | p + 1, t, S => sNt (fun r => if t.testBit r then 0 else if r = k then (if S = t then facN p else 0) else cfN m k p (t ||| 2 ^ r) S) m
theorem facN_s : ∀ p : Nat, p < 6 → facN (p + 1) = (p + 1) * facN p := by decide
theorem ones_put {t r : Nat} (hr : r < m) (h : t.testBit r = false) : onesV m (t ||| 2 ^ r) = onesV m t + 1 := ld_put hr h
theorem sI_free {c : Int} {t : Nat} : ∀ n : Nat, sI (fun r => if t.testBit r then 0 else c) n = ((n : Int) - onesV n t) * c := by
  intro n
  induction n with
  | zero => simp [sI, onesV, ldV]
  | succ n ih =>
    have h1 : onesV (n + 1) t = onesV n t + if t.testBit n then 1 else 0 := rfl
    rw [sI, ih, h1]
    cases t.testBit n
    · rw [if_neg (by decide), if_neg (by decide), show ((n + 1 : Nat) : Int) - (onesV n t + 0) = ((n : Int) - onesV n t) + 1 by omega, Int.add_mul, Int.one_mul]
    · rw [if_pos rfl, if_pos rfl, show ((n + 1 : Nat) : Int) - (onesV n t + 1) = (n : Int) - onesV n t by omega, Int.add_zero]
theorem pm_cnt (hm : 1 ≤ m) (hm6 : m ≤ 6) : ∀ p t : Nat, onesV m t = (m : Int) - (p : Int) → sI (fun a => if pmB m p t a then 1 else 0) (m ^ p) = (facN p : Int) := by
  intro p
  induction p with
  | zero => intro t _; rfl
  | succ p ih =>
    intro t ht
    have hob := ones_bd (D := t) m
    rw [Nat.pow_succ]
    have e := sI_split (H := fun r b => if (!t.testBit r && pmB m p (t ||| 2 ^ r) b) = true then 1 else 0) hm (m ^ p)
    have e' : sI (fun a => if pmB m (p + 1) t a then 1 else 0) (m ^ p * m) = _ := e
    rw [e', sI_congr m (g := fun r => if t.testBit r then 0 else (facN p : Int)) (fun r hr => ?_), sI_free, ht, facN_s p (by omega)]
    · push_cast
      rw [show (m : Int) - ((m : Int) - ((p : Int) + 1)) = (p : Int) + 1 by omega]
    · try dsimp only
      cases q : t.testBit r
      · rw [if_neg (by decide), ← ih (t ||| 2 ^ r) (by rw [ones_put hr q, ht]; push_cast; omega)]
        exact sI_congr _ (fun b _ => by rw [Bool.not_false, Bool.true_and])
      · rw [if_pos rfl]
        exact (sI_congr _ (fun b _ => by rw [Bool.not_true, Bool.false_and]; rfl)).trans (sI_0 _)
theorem gv_sum (hm : 1 ≤ m) (hm6 : m ≤ 6) : ∀ p t : Nat, onesV m t = (m : Int) - (p : Int) → sI (gvS m k f p t) (m ^ p) = cfI m k f p t := by
  intro p
  induction p with
  | zero => intro t _; rfl
  | succ p ih =>
    intro t ht
    have hob := ones_bd (D := t) m
    rw [Nat.pow_succ, cfI]
    have e := sI_split (H := fun r b => if t.testBit r then 0 else if r = k then (if pmB m p (t ||| 2 ^ r) b then f t else 0) else gvS m k f p (t ||| 2 ^ r) b) hm (m ^ p)
    have e' : sI (gvS m k f (p + 1) t) (m ^ p * m) = _ := e
    rw [e']
    refine sI_congr m (fun r hr => ?_)
    try dsimp only
    cases q : t.testBit r
    · rw [if_neg (by decide)]
      by_cases q2 : r = k
      · rw [if_pos q2, ← pm_cnt hm hm6 p (t ||| 2 ^ r) (by rw [ones_put hr q, ht]; push_cast; omega), Int.mul_comm, ← sI_mul]
        refine sI_congr _ (fun b _ => ?_)
        try dsimp only
        rw [if_neg (by decide), if_pos q2]
        cases pmB m p (t ||| 2 ^ r) b
        · rw [if_neg (by decide), if_neg (by decide), Int.zero_mul]
        · rw [if_pos rfl, if_pos rfl, Int.one_mul]
      · rw [if_neg q2, ← ih (t ||| 2 ^ r) (by rw [ones_put hr q, ht]; push_cast; omega)]
        refine sI_congr _ (fun b _ => ?_)
        try dsimp only
        rw [if_neg (by decide), if_neg q2]
    · rw [if_pos rfl]
      exact (sI_congr _ (fun b _ => by (try dsimp only); rw [if_pos rfl])).trans (sI_0 _)
theorem sNt_cast {g : Nat → Nat} : ∀ n : Nat, ((sNt g n : Nat) : Int) = sI (fun r => (g r : Int)) n := by
  intro n
  induction n with
  | zero => rfl
  | succ n ih => rw [sNt, sI, ← ih]; push_cast; rfl
theorem cf_lin : ∀ p t : Nat, t < 2 ^ m → cfI m k f p t = sI (fun S => (cfN m k p t S : Int) * f S) (2 ^ m) := by
  intro p
  induction p with
  | zero =>
    intro t _
    rw [cfI]
    exact ((sI_congr _ (fun S _ => by rw [cfN]; exact Int.zero_mul _)).trans (sI_0 _)).symm
  | succ p ih =>
    intro t ht
    rw [cfI, sI_congr (2 ^ m) (g := fun S => sI (fun r => ((if t.testBit r then 0 else if r = k then (if S = t then facN p else 0) else cfN m k p (t ||| 2 ^ r) S : Nat) : Int) * f S) m) (fun S _ => by
      rw [cfN, sNt_cast, ← sI_mul]), ← sI_swap]
    refine sI_congr m (fun r hr => ?_)
    try dsimp only
    cases q : t.testBit r
    · rw [if_neg (by decide)]
      by_cases q2 : r = k
      · rw [if_pos q2]
        have h1 := sI_one (f := fun S => (facN p : Int) * f S) (c := t) (2 ^ m)
        rw [if_pos ht] at h1
        rw [Int.mul_comm, ← h1]
        refine sI_congr _ (fun S _ => ?_)
        try dsimp only
        rw [if_neg (show ¬ false = true by decide), if_pos q2]
        by_cases q3 : S = t
        · rw [if_pos q3, if_pos q3]
        · rw [if_neg q3, if_neg q3]; exact (Int.zero_mul _).symm
      · rw [if_neg q2, ih _ (or_ltp ht hr)]
        refine sI_congr _ (fun S _ => ?_)
        try dsimp only
        rw [if_neg (by decide), if_neg q2]
    · rw [if_pos rfl]
      refine ((sI_congr _ (fun S _ => ?_)).trans (sI_0 _)).symm
      try dsimp only
      rw [if_pos rfl]; exact Int.zero_mul _
theorem cnt_dif {S t : Nat} {c : Int} : ∀ l : Nat, (∀ j, j < l → t.testBit j = true → S.testBit j = true) → sI (fun r => if (S.testBit r && !t.testBit r) then c else 0) l = (onesV l S - onesV l t) * c := by
  intro l
  induction l with
  | zero => intro _; simp [sI, onesV, ldV]
  | succ l ih =>
    intro h
    have h1 : onesV (l + 1) S = onesV l S + if S.testBit l then 1 else 0 := rfl
    have h2 : onesV (l + 1) t = onesV l t + if t.testBit l then 1 else 0 := rfl
    have h3 := h l (by omega)
    rw [sI, ih (fun j hj => h j (by omega)), h1, h2]
    cases q : t.testBit l
    · cases q2 : S.testBit l
      · rw [if_neg (show ¬ (false && !false) = true by decide), if_neg (show ¬ false = true by decide), Int.add_zero, Int.add_zero, Int.add_zero]
      · rw [if_pos (show (true && !false) = true from rfl), if_pos (show true = true from rfl), if_neg (show ¬ false = true by decide), Int.add_zero, show onesV l S + 1 - onesV l t = (onesV l S - onesV l t) + 1 by omega, Int.add_mul, Int.one_mul]
    · rw [h3 q, Bool.not_true, Bool.and_false, if_neg (show ¬ false = true by decide), if_pos (show true = true from rfl), Int.add_zero, show onesV l S + 1 - (onesV l t + 1) = onesV l S - onesV l t by omega]
theorem ones_sub {S t : Nat} : ∀ l : Nat, (∀ j, j < l → t.testBit j = true → S.testBit j = true) → onesV l t ≤ onesV l S ∧ (onesV l S = onesV l t → ∀ j, j < l → S.testBit j = t.testBit j) := by
  intro l
  induction l with
  | zero => intro _; exact ⟨Int.le_refl _, fun _ j hj => by omega⟩
  | succ l ih =>
    intro h
    obtain ⟨i1, i2⟩ := ih (fun j hj => h j (by omega))
    have h1 : onesV (l + 1) S = onesV l S + if S.testBit l then 1 else 0 := rfl
    have h2 : onesV (l + 1) t = onesV l t + if t.testBit l then 1 else 0 := rfl
    have h3 := h l (by omega)
    rw [h1, h2]
    have hb : (if t.testBit l then (1 : Int) else 0) ≤ (if S.testBit l then 1 else 0) := by
      cases q : t.testBit l
      · rw [if_neg (by decide)]; split <;> omega
      · rw [h3 q, if_pos rfl]; exact Int.le_refl _
    refine ⟨by omega, fun e j hj => ?_⟩
    by_cases q : j = l
    · rw [q]
      cases q1 : t.testBit l
      · cases q2 : S.testBit l
        · rfl
        · rw [q1, q2, if_pos rfl, if_neg (by decide)] at e
          omega
      · exact h3 q1
    · exact i2 (by omega) j (by omega)
/-- a set holds what is taken, and not k -/
def sbB (m k t S : Nat) : Bool := !S.testBit k && zall (fun j => !t.testBit j || S.testBit j) m 0
def clV (m k t S : Nat) : Int := if sbB m k t S then ((facN (pc8 S - pc8 t) * facN (m - 1 - pc8 S) : Nat) : Int) else 0
theorem sbB_iff {S t : Nat} : sbB m k t S = true ↔ S.testBit k = false ∧ ∀ j, j < m → t.testBit j = true → S.testBit j = true := by
  unfold sbB
  rw [Bool.and_eq_true, zall_iff]
  constructor
  · rintro ⟨h1, h2⟩
    refine ⟨by simpa using h1, fun j hj hb => ?_⟩
    have := h2 j (by omega) (by omega)
    rw [hb] at this
    simpa using this
  · rintro ⟨h1, h2⟩
    refine ⟨by rw [h1]; rfl, fun j _ hj => ?_⟩
    cases q : t.testBit j
    · rfl
    · rw [h2 j (by omega) q]; rfl
theorem clV_0 {S t : Nat} (h : ¬ (S.testBit k = false ∧ ∀ j, j < m → t.testBit j = true → S.testBit j = true)) : clV m k t S = 0 := if_neg (fun q => h (sbB_iff.mp q))
theorem clV_1 {S t : Nat} (h1 : S.testBit k = false) (h2 : ∀ j, j < m → t.testBit j = true → S.testBit j = true) : clV m k t S = ((facN (pc8 S - pc8 t) * facN (m - 1 - pc8 S) : Nat) : Int) := if_pos (sbB_iff.mpr ⟨h1, h2⟩)
theorem cf_cl (hk : k < m) (hm6 : m ≤ 6) {S : Nat} (hS : S < 2 ^ m) : ∀ p t : Nat, t < 2 ^ m → onesV m t = (m : Int) - (p : Int) → t.testBit k = false → (cfN m k p t S : Int) = clV m k t S := by
  have hpS := pc8_ones m (by omega) S hS
  intro p
  induction p with
  | zero =>
    intro t ht ho hkt
    have := ones_all (D := t) m (by omega) k hk
    rw [this] at hkt
    exact absurd hkt (by decide)
  | succ p ih =>
    intro t ht ho hkt
    have hpt := pc8_ones m (by omega) t ht
    have hob := ones_bd (D := t) m
    rw [cfN, sNt_cast]
    -- the term of each r
    have t1 : ∀ r, t.testBit r = true → (((if t.testBit r then 0 else if r = k then (if S = t then facN p else 0) else cfN m k p (t ||| 2 ^ r) S : Nat)) : Int) = 0 := fun r q => by rw [if_pos q]; rfl
    have t2 : ∀ r, r = k → (((if t.testBit r then 0 else if r = k then (if S = t then facN p else 0) else cfN m k p (t ||| 2 ^ r) S : Nat)) : Int) = if S = t then (facN p : Int) else 0 := fun r q => by
      rw [if_neg (show ¬ t.testBit r = true by rw [q, hkt]; decide), if_pos q]
      by_cases q3 : S = t
      · rw [if_pos q3, if_pos q3]
      · rw [if_neg q3, if_neg q3]; rfl
    have t3 : ∀ r, r < m → t.testBit r = false → r ≠ k → (((if t.testBit r then 0 else if r = k then (if S = t then facN p else 0) else cfN m k p (t ||| 2 ^ r) S : Nat)) : Int) = clV m k (t ||| 2 ^ r) S := fun r hr hrt hrk => by
      rw [if_neg (show ¬ t.testBit r = true by rw [hrt]; decide), if_neg hrk]
      exact ih (t ||| 2 ^ r) (or_ltp ht hr) (by rw [ones_put hr hrt, ho]; push_cast; omega) (by rw [or_bit, hkt, decide_eq_false hrk]; rfl)
    by_cases hkS : S.testBit k = true
    · have hno : ¬ S.testBit k = false := fun q => by rw [hkS] at q; exact absurd q (by decide)
      have hSt : ¬ S = t := fun q => by rw [q, hkt] at hkS; exact absurd hkS (by decide)
      rw [clV_0 (fun q => hno q.1)]
      refine (sI_congr m (fun r hr => ?_)).trans (sI_0 m)
      by_cases q : t.testBit r = true
      · exact t1 r q
      · have q' : t.testBit r = false := by simpa using q
        by_cases q2 : r = k
        · exact (t2 r q2).trans (if_neg hSt)
        · exact (t3 r hr q' q2).trans (clV_0 (fun z => hno z.1))
    · have hkS' : S.testBit k = false := by simpa using hkS
      by_cases hsub : ∀ j, j < m → t.testBit j = true → S.testBit j = true
      · obtain ⟨o1, o2⟩ := ones_sub m hsub
        rw [clV_1 hkS' hsub]
        by_cases hSt : S = t
        · rw [sI_congr m (g := fun r => if r = k then (facN p : Int) else 0) (fun r hr => by
            by_cases q2 : r = k
            · exact ((t2 r q2).trans (if_pos hSt)).trans (if_pos q2).symm
            · refine Eq.trans ?_ (if_neg q2).symm
              by_cases q : t.testBit r = true
              · exact t1 r q
              · have q' : t.testBit r = false := by simpa using q
                refine (t3 r hr q' q2).trans (clV_0 (fun z => ?_))
                have := z.2 r hr (by rw [or_bit, decide_eq_true rfl, Bool.or_true])
                rw [hSt, q'] at this
                exact absurd this (by decide)), sI_one, if_pos hk, hSt, Nat.sub_self, show m - 1 - pc8 t = p by omega]
          show (facN p : Int) = ((1 * facN p : Nat) : Int)
          rw [Nat.one_mul]
        · have hlt : pc8 t < pc8 S := by
            refine Classical.byContradiction fun q => hSt ?_
            refine Nat.eq_of_testBit_eq (fun j => ?_)
            by_cases q2 : j < m
            · exact o2 (by omega) j q2
            · rw [tb_hi hS (by omega), tb_hi ht (by omega)]
          have hbS := ones_bd (D := S) m
          rw [sI_congr m (g := fun r => if (S.testBit r && !t.testBit r) then ((facN (pc8 S - (pc8 t + 1)) * facN (m - 1 - pc8 S) : Nat) : Int) else 0) (fun r hr => by
            by_cases q : t.testBit r = true
            · refine (t1 r q).trans ?_
              rw [q, Bool.not_true, Bool.and_false]; rfl
            · have q' : t.testBit r = false := by simpa using q
              by_cases q2 : r = k
              · refine ((t2 r q2).trans (if_neg hSt)).trans ?_
                rw [q2, hkS', Bool.false_and]; rfl
              · have hpr := pc8_ones m (by omega) (t ||| 2 ^ r) (or_ltp ht hr)
                rw [ones_put hr q'] at hpr
                refine (t3 r hr q' q2).trans ?_
                rw [q']
                cases q3 : S.testBit r
                · rw [clV_0 (fun z => by
                    have := z.2 r hr (by rw [or_bit, decide_eq_true rfl, Bool.or_true])
                    rw [q3] at this
                    exact absurd this (by decide))]; rfl
                · rw [clV_1 hkS' (fun j hj hb => by
                    rw [or_bit] at hb
                    by_cases q4 : r = j
                    · rw [← q4]; exact q3
                    · rw [decide_eq_false q4, Bool.or_false] at hb
                      exact hsub j hj hb), show pc8 (t ||| 2 ^ r) = pc8 t + 1 by omega]; rfl), cnt_dif m hsub, ← hpS, ← hpt]
          obtain ⟨n, hn⟩ : ∃ n, pc8 S - pc8 t = n + 1 := ⟨pc8 S - pc8 t - 1, by omega⟩
          rw [hn, show pc8 S - (pc8 t + 1) = n by omega, facN_s n (by omega), show (pc8 S : Int) - (pc8 t : Int) = ((n + 1 : Nat) : Int) by omega, ← Int.natCast_mul, Nat.mul_assoc]
      · have hSt : ¬ S = t := fun q => hsub (fun j _ h => by rw [q]; exact h)
        rw [clV_0 (fun q => hsub q.2)]
        refine (sI_congr m (fun r hr => ?_)).trans (sI_0 m)
        by_cases q : t.testBit r = true
        · exact t1 r q
        · have q' : t.testBit r = false := by simpa using q
          by_cases q2 : r = k
          · exact (t2 r q2).trans (if_neg hSt)
          · exact (t3 r hr q' q2).trans (clV_0 (fun z => hsub (fun j hj h => z.2 j hj (by rw [or_bit, h, Bool.true_or]))))
theorem cf_is (hk : k < m) (hm6 : m ≤ 6) {S : Nat} (hS : S < 2 ^ m) (hz : onesV m 0 = 0) : cfN m k m 0 S = if S.testBit k then 0 else facN (pc8 S) * facN (m - 1 - pc8 S) := by
  have h := cf_cl hk hm6 hS m 0 Nat.one_le_two_pow (by rw [hz]; omega) (Nat.zero_testBit _)
  have h0 : pc8 0 = 0 := by decide
  cases q : S.testBit k
  · rw [clV_1 q (fun j _ hb => by rw [Nat.zero_testBit] at hb; exact absurd hb (by decide)), h0, Nat.sub_zero] at h
    rw [if_neg (by decide)]
    omega
  · rw [clV_0 (fun z => by rw [q] at z; exact absurd z.1 (by decide))] at h
    rw [if_pos rfl]
    omega
/-- over all orders k has the sum over sets ahead -/
theorem orders_sum (hk : k < m) (hm6 : m ≤ 6) : sI (gvS m k f m 0) (m ^ m) = sI (fun S => (if S.testBit k then 0 else ((facN (pc8 S) * facN (m - 1 - pc8 S) : Nat) : Int) * f S)) (2 ^ m) := by
  have hz : onesV m 0 = 0 := by
    have : ∀ l, onesV l 0 = 0 := by
      intro l
      induction l with
      | zero => rfl
      | succ l ih =>
        have h1 : onesV (l + 1) 0 = onesV l 0 + if Nat.testBit 0 l then 1 else 0 := rfl
        rw [h1, ih, Nat.zero_testBit]; rfl
    exact this m
  rw [gv_sum (by omega) hm6 m 0 (by rw [hz]; omega), cf_lin m 0 Nat.one_le_two_pow]
  refine sI_congr _ (fun S hS => ?_)
  rw [cf_is hk hm6 hS hz]
  cases S.testBit k
  · rw [if_neg (by decide), if_neg (by decide)]
  · rw [if_pos rfl, if_pos rfl]; exact Int.zero_mul _
end OR
