/-! the market: what the buyers from one on can have at most -/
section GV
variable {B S : Nat} {G : Nat → Nat → Int}
/-- the greatest of a start and of what a stretch offers -/
def mxF (ok : Nat → Bool) (val : Nat → Int) (k : Nat) (t : Int) : Int := if ok k then (if t < val k then val k else t) else t
theorem mx_ge {ok : Nat → Bool} {val : Nat → Int} : ∀ (m k : Nat) (t : Int), t ≤ zit (mxF ok val) m k t ∧ ∀ j, k ≤ j → j < k + m → ok j = true → val j ≤ zit (mxF ok val) m k t := by
  intro m
  induction m with
  | zero => intro k t; exact ⟨Int.le_refl _, fun j h1 h2 => by omega⟩
  | succ m ih =>
    intro k t
    obtain ⟨i1, i2⟩ := ih (k + 1) (mxF ok val k t)
    rw [zit]
    have h1 : t ≤ mxF ok val k t := by unfold mxF; (repeat' split) <;> omega
    refine ⟨by omega, fun j a b c => ?_⟩
    by_cases e : j = k
    · have h2 : val j ≤ mxF ok val k t := by
        unfold mxF
        rw [e] at c ⊢
        rw [c, if_pos rfl]
        split <;> omega
      omega
    · exact i2 j (by omega) (by omega) c
theorem mx_is {ok : Nat → Bool} {val : Nat → Int} : ∀ (m k : Nat) (t : Int), zit (mxF ok val) m k t = t ∨ ∃ j, k ≤ j ∧ j < k + m ∧ ok j = true ∧ zit (mxF ok val) m k t = val j := by
  intro m
  induction m with
  | zero => intro k t; exact Or.inl rfl
  | succ m ih =>
    intro k t
    rw [zit]
    rcases ih (k + 1) (mxF ok val k t) with h | ⟨j, a, b, c, h⟩
    · rw [h]
      unfold mxF
      by_cases e : ok k = true
      · rw [if_pos e]
        split
        · exact Or.inr ⟨k, Nat.le_refl _, by omega, e, rfl⟩
        · exact Or.inl rfl
      · rw [if_neg e]; exact Or.inl rfl
    · exact Or.inr ⟨j, by omega, by omega, c, h⟩
/-- a thing's seller, and whether it can be had -/
def thS (tw : Int) (j : Nat) : Nat := if j < 4 then j else tw.toNat
def thO (S : Nat) (tw : Int) (gone j : Nat) : Bool := (if j < 4 then decide (j < S) else decide (0 ≤ tw ∧ tw < (S : Int))) && !gone.testBit j
/-- what the last d buyers have at most when things are gone -/
def gvR (B S : Nat) (G : Nat → Nat → Int) (tw : Int) : Nat → Nat → Int
  | 0, _ => 0
  | d + 1, gone => zit (mxF (thO S tw gone) (fun j => G (B - (d + 1)) (thS tw j) + gvR B S G tw d (gone ||| 2 ^ j))) 5 0 (gvR B S G tw d gone)
/-- how many of the last d buyers go to seller i by a row -/
def gvC (B : Nat) (x : Nat → Nat) (i : Nat) : Nat → Nat
  | 0 => 0
  | d + 1 => gvC B x i d + if x (B - (d + 1)) = i + 1 then 1 else 0
def gvW (B : Nat) (G : Nat → Nat → Int) (x : Nat → Nat) : Nat → Int
  | 0 => 0
  | d + 1 => gvW B G x d + if x (B - (d + 1)) = 0 then 0 else G (B - (d + 1)) (x (B - (d + 1)) - 1)
/-- how many of a seller's things are left -/
def gvA (tw : Int) (gone i : Nat) : Nat := (if gone.testBit i then 0 else 1) + if tw = (i : Int) ∧ gone.testBit 4 = false then 1 else 0
/-- a row that can be for the last d buyers -/
def gvP (B S : Nat) (tw : Int) (gone : Nat) (x : Nat → Nat) (d : Nat) : Prop := (∀ e, e < d → x (B - (e + 1)) ≤ S) ∧ ∀ i, i < S → gvC B x i d ≤ gvA tw gone i
theorem gvR_up {tw : Int} {d gone : Nat} : gvR B S G tw d gone ≤ gvR B S G tw (d + 1) gone := (mx_ge 5 0 _).1
theorem gvR_th {tw : Int} {d gone j : Nat} (hj : j < 5) (h : thO S tw gone j = true) : G (B - (d + 1)) (thS tw j) + gvR B S G tw d (gone ||| 2 ^ j) ≤ gvR B S G tw (d + 1) gone := (mx_ge (ok := thO S tw gone) (val := fun j => G (B - (d + 1)) (thS tw j) + gvR B S G tw d (gone ||| 2 ^ j)) 5 0 _).2 j (by omega) (by omega) h
theorem gvA_or {tw : Int} {gone i j : Nat} (hi : i < 4) : gvA tw (gone ||| 2 ^ j) i = (if gone.testBit i = true ∨ j = i then 0 else 1) + if tw = (i : Int) ∧ gone.testBit 4 = false ∧ j ≠ 4 then 1 else 0 := by
  unfold gvA
  rw [or_bit, or_bit]
  congr 1
  · cases gone.testBit i <;> by_cases e : j = i <;> simp [e]
  · cases gone.testBit 4 <;> by_cases e : j = 4 <;> simp [e]
theorem gv_le (hS : S ≤ 4) {tw : Int} {x : Nat → Nat} : ∀ (d gone : Nat), gvP B S tw gone x d → gvW B G x d ≤ gvR B S G tw d gone := by
  intro d
  induction d with
  | zero => intro gone _; exact Int.le_refl _
  | succ d ih =>
    intro gone ⟨h1, h2⟩
    have hx := h1 d (by omega)
    rw [gvW]
    by_cases e : x (B - (d + 1)) = 0
    · rw [if_pos e, Int.add_zero]
      refine Int.le_trans (ih gone ⟨fun e he => h1 e (by omega), fun i hi => ?_⟩) gvR_up
      have := h2 i hi
      rw [gvC, if_neg (by omega)] at this
      omega
    · rw [if_neg e]
      obtain ⟨i, hi⟩ : ∃ i, x (B - (d + 1)) = i + 1 := ⟨x (B - (d + 1)) - 1, by omega⟩
      have hiS : i < S := by omega
      rw [hi, Nat.add_sub_cancel]
      have hav := h2 i hiS
      rw [gvC, hi, if_pos rfl] at hav
      -- the thing that is had
      obtain ⟨j, hj5, hjs, hjo, hjA⟩ : ∃ j, j < 5 ∧ thS tw j = i ∧ thO S tw gone j = true ∧ ∀ l, l < S → gvA tw gone l ≤ gvA tw (gone ||| 2 ^ j) l + if l = i then 1 else 0 := by
        by_cases e2 : gone.testBit i = true
        · have e3 : tw = (i : Int) ∧ gone.testBit 4 = false := by
            unfold gvA at hav
            rw [e2, if_pos rfl] at hav
            refine Classical.byContradiction fun q => ?_
            rw [if_neg q] at hav
            omega
          refine ⟨4, by omega, ?_, ?_, fun l hl => ?_⟩
          · unfold thS; rw [if_neg (by omega), e3.1]; rfl
          · unfold thO; rw [if_neg (by omega), e3.2, decide_eq_true (by omega)]; rfl
          · rw [gvA_or (by omega)]
            unfold gvA
            by_cases e4 : l = i
            · rw [if_pos e4]
              (repeat' split) <;> first | omega | (simp_all; done) | (simp_all; omega)
            · have : ¬ tw = (l : Int) := by omega
              rw [if_neg e4, if_neg (show ¬ (tw = (l : Int) ∧ gone.testBit 4 = false) from fun q => this q.1), if_neg (show ¬ (tw = (l : Int) ∧ gone.testBit 4 = false ∧ 4 ≠ 4) from fun q => this q.1)]
              by_cases q : gone.testBit l = true
              · rw [if_pos q, if_pos (Or.inl q)]; omega
              · rw [if_neg q, if_neg (show ¬ (gone.testBit l = true ∨ 4 = l) from fun z => z.elim q (fun z => by omega))]; omega
        · refine ⟨i, by omega, ?_, ?_, fun l hl => ?_⟩
          · unfold thS; rw [if_pos (by omega)]
          · unfold thO; rw [if_pos (by omega), decide_eq_true hiS, show gone.testBit i = false by simpa using e2]; rfl
          · rw [gvA_or (by omega)]
            unfold gvA
            by_cases e4 : l = i
            · rw [if_pos e4]
              (repeat' split) <;> first | omega | (simp_all; done) | (simp_all; omega)
            · rw [if_neg e4]
              (repeat' split) <;> first | omega | (simp_all; done) | (simp_all; omega)
      have h3 := gvR_th (B := B) (S := S) (G := G) (tw := tw) (d := d) (gone := gone) hj5 hjo
      rw [hjs] at h3
      have h4 := ih (gone ||| 2 ^ j) ⟨fun e he => h1 e (by omega), fun l hl => by
        have q1 := h2 l hl
        have q2 := hjA l hl
        rw [gvC, hi] at q1
        by_cases e4 : l = i
        · rw [if_pos e4] at q2
          rw [if_pos (by omega)] at q1
          omega
        · rw [if_neg e4] at q2
          rw [if_neg (by omega)] at q1
          omega⟩
      omega
/-- only the last buyers' places tell -/
theorem gvC_congr {x y : Nat → Nat} {i : Nat} : ∀ d, (∀ e, e < d → x (B - (e + 1)) = y (B - (e + 1))) → gvC B x i d = gvC B y i d := by
  intro d
  induction d with
  | zero => intro _; rfl
  | succ d ih => intro h; rw [gvC, gvC, ih (fun e he => h e (by omega)), h d (by omega)]
theorem gvW_congr {x y : Nat → Nat} : ∀ d, (∀ e, e < d → x (B - (e + 1)) = y (B - (e + 1))) → gvW B G x d = gvW B G y d := by
  intro d
  induction d with
  | zero => intro _; rfl
  | succ d ih => intro h; rw [gvW, gvW, ih (fun e he => h e (by omega)), h d (by omega)]
theorem gvP_congr {x y : Nat → Nat} {tw : Int} {gone : Nat} (d : Nat) (h : ∀ e, e < d → x (B - (e + 1)) = y (B - (e + 1))) (ho : gvP B S tw gone x d) : gvP B S tw gone y d := ⟨fun e he => by rw [← h e he]; exact ho.1 e he, fun i hi => by rw [← gvC_congr d h]; exact ho.2 i hi⟩
theorem th_s {tw : Int} {gone j : Nat} (htw : tw < 4) (ho : thO S tw gone j = true) : thS tw j < S ∧ gone.testBit j = false ∧ (¬ j < 4 → 0 ≤ tw) := by
  unfold thO at ho
  unfold thS
  obtain ⟨h1, h2⟩ := (Bool.and_eq_true _ _).mp ho
  have h3 : gone.testBit j = false := by simpa using h2
  by_cases e : j < 4
  · rw [if_pos e] at h1 ⊢
    exact ⟨of_decide_eq_true h1, h3, fun q => absurd e q⟩
  · rw [if_neg e] at h1 ⊢
    have := of_decide_eq_true h1
    exact ⟨by omega, h3, fun _ => this.1⟩
theorem gvA_put (hS : S ≤ 4) {tw : Int} {gone j i : Nat} (hj : j < 5) (htw : tw < 4) (ho : thO S tw gone j = true) (hi : i < S) : gvA tw (gone ||| 2 ^ j) i + (if thS tw j = i then 1 else 0) ≤ gvA tw gone i := by
  obtain ⟨-, hgb, h0⟩ := th_s htw ho
  unfold gvA
  rw [or_bit, or_bit]
  by_cases e4 : j < 4
  · have e5 : thS tw j = j := if_pos e4
    rw [e5, decide_eq_false (show ¬ j = 4 by omega), Bool.or_false]
    by_cases e : j = i
    · rw [e] at hgb ⊢
      rw [hgb, decide_eq_true rfl, Bool.false_or, if_pos (rfl : true = true), if_neg (show ¬ false = true by decide), if_pos (rfl : i = i)]
      omega
    · rw [decide_eq_false e, Bool.or_false, if_neg e]
      exact Nat.le_refl _
  · have e5 : j = 4 := by omega
    have e6 : thS tw j = tw.toNat := if_neg e4
    have h0' := h0 e4
    rw [e6, e5, decide_eq_false (show ¬ 4 = i by omega), Bool.or_false, decide_eq_true rfl, Bool.or_true, if_neg (show ¬ (tw = (i : Int) ∧ true = false) from fun q => absurd q.2 (by decide))]
    rw [e5] at hgb
    by_cases e : tw.toNat = i
    · rw [if_pos e, if_pos (show tw = (i : Int) ∧ gone.testBit 4 = false from ⟨by omega, hgb⟩)]
      omega
    · rw [if_neg e]
      omega
/-- one more buyer goes to a thing -/
theorem gv_put (hS : S ≤ 4) {tw : Int} {gone j d : Nat} {y : Nat → Nat} (hd : d < B) (hj : j < 5) (htw : tw < 4) (ho : thO S tw gone j = true) (hy : gvP B S tw (gone ||| 2 ^ j) y d) : gvP B S tw gone (fun b => if b = B - (d + 1) then thS tw j + 1 else y b) (d + 1) ∧ gvW B G (fun b => if b = B - (d + 1) then thS tw j + 1 else y b) (d + 1) = gvW B G y d + G (B - (d + 1)) (thS tw j) := by
  have hsame : ∀ e, e < d → y (B - (e + 1)) = (fun b => if b = B - (d + 1) then thS tw j + 1 else y b) (B - (e + 1)) := fun e he => by
    try dsimp only
    rw [if_neg (by omega)]
  have hsl : thS tw j < S := (th_s htw ho).1
  refine ⟨⟨fun e he => ?_, fun i hi => ?_⟩, ?_⟩
  · try dsimp only
    by_cases q : e = d
    · rw [q, if_pos rfl]; omega
    · rw [if_neg (by omega)]; exact hy.1 e (by omega)
  · have h1 := hy.2 i hi
    have h2 := gvA_put hS hj htw ho hi
    rw [gvC_congr (y := fun b => if b = B - (d + 1) then thS tw j + 1 else y b) d hsame] at h1
    rw [gvC]
    try dsimp only
    rw [if_pos rfl]
    by_cases e : thS tw j = i
    · rw [if_pos e] at h2
      rw [if_pos (by omega)]
      omega
    · rw [if_neg e] at h2
      rw [if_neg (by omega)]
      omega
  · rw [gvW, ← gvW_congr (y := fun b => if b = B - (d + 1) then thS tw j + 1 else y b) d hsame]
    try dsimp only
    rw [if_pos rfl, if_neg (by omega), Nat.add_sub_cancel]
theorem gv_no {tw : Int} {gone d : Nat} {y : Nat → Nat} (hd : d < B) (hy : gvP B S tw gone y d) : gvP B S tw gone (fun b => if b = B - (d + 1) then 0 else y b) (d + 1) ∧ gvW B G (fun b => if b = B - (d + 1) then 0 else y b) (d + 1) = gvW B G y d := by
  have hsame : ∀ e, e < d → y (B - (e + 1)) = (fun b => if b = B - (d + 1) then 0 else y b) (B - (e + 1)) := fun e he => by
    try dsimp only
    rw [if_neg (by omega)]
  refine ⟨⟨fun e he => ?_, fun i hi => ?_⟩, ?_⟩
  · try dsimp only
    by_cases q : e = d
    · rw [q, if_pos rfl]; omega
    · rw [if_neg (by omega)]; exact hy.1 e (by omega)
  · have h1 := hy.2 i hi
    rw [gvC_congr (y := fun b => if b = B - (d + 1) then 0 else y b) d hsame] at h1
    rw [gvC]
    try dsimp only
    rw [if_pos rfl, if_neg (by omega)]
    exact h1
  · rw [gvW, ← gvW_congr (y := fun b => if b = B - (d + 1) then 0 else y b) d hsame]
    try dsimp only
    rw [if_pos rfl, if_pos rfl, Int.add_zero]
/-- it is had by some row -/
theorem gv_ex (hS : S ≤ 4) {tw : Int} (htw : tw < 4) : ∀ (d gone : Nat), d ≤ B → ∃ x, gvP B S tw gone x d ∧ gvW B G x d = gvR B S G tw d gone := by
  intro d
  induction d with
  | zero => intro gone _; exact ⟨fun _ => 0, ⟨fun e he => by omega, fun i _ => Nat.zero_le _⟩, rfl⟩
  | succ d ih =>
    intro gone hd
    rcases mx_is (ok := thO S tw gone) (val := fun j => G (B - (d + 1)) (thS tw j) + gvR B S G tw d (gone ||| 2 ^ j)) 5 0 (gvR B S G tw d gone) with h | ⟨j, h1, h2, h3, h4⟩
    · obtain ⟨y, y1, y2⟩ := ih gone (by omega)
      obtain ⟨p1, p2⟩ := gv_no (G := G) (show d < B by omega) y1
      refine ⟨_, p1, ?_⟩
      rw [p2, y2, gvR, h]
    · obtain ⟨y, y1, y2⟩ := ih (gone ||| 2 ^ j) (by omega)
      obtain ⟨p1, p2⟩ := gv_put (G := G) hS (show d < B by omega) (by omega) htw h3 y1
      refine ⟨_, p1, ?_⟩
      rw [p2, y2, gvR, h4]
      try dsimp only
      omega
end GV
