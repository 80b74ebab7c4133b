/-! two voters change places -/
def sL (f : Nat → Int) : List Nat → Int
  | [] => 0
  | a :: l => f a + sL f l
theorem sL_app {f : Nat → Int} (l : List Nat) (x : Nat) : sL f (l ++ [x]) = sL f l + f x := by
  induction l with
  | nil => simp [sL]
  | cons a l ih => rw [List.cons_append, sL, sL, ih]; omega
theorem sL_map {f : Nat → Int} {g : Nat → Nat} (l : List Nat) : sL f (l.map g) = sL (fun i => f (g i)) l := by
  induction l with
  | nil => rfl
  | cons a l ih => rw [List.map_cons, sL, sL, ih]
theorem sL_perm {f : Nat → Int} {l l' : List Nat} (h : l.Perm l') : sL f l = sL f l' := by
  induction h with
  | nil => rfl
  | cons x _ ih => rw [sL, sL, ih]
  | swap x y l => rw [sL, sL, sL, sL]; omega
  | trans _ _ i1 i2 => rw [i1, i2]
theorem sL_le {f g : Nat → Int} : ∀ l : List Nat, (∀ i, i ∈ l → f i ≤ g i) → sL f l ≤ sL g l
  | [], _ => Int.le_refl _
  | a :: l, h => by
    have h1 := sL_le l (fun i hi => h i (List.mem_cons_of_mem _ hi))
    have h2 := h a (List.mem_cons_self ..)
    rw [sL, sL]; omega
theorem sL_eq {f g : Nat → Int} : ∀ l : List Nat, (∀ i, i ∈ l → f i ≤ g i) → sL g l ≤ sL f l → ∀ i, i ∈ l → f i = g i
  | [], _, _, i, hi => absurd hi (List.not_mem_nil)
  | a :: l, h, he, i, hi => by
    have h1 := sL_le l (fun i hi => h i (List.mem_cons_of_mem _ hi))
    have h2 := h a (List.mem_cons_self ..)
    rw [sL, sL] at he
    rcases List.mem_cons.mp hi with e | e
    · rw [e]; omega
    · exact sL_eq l (fun i hi => h i (List.mem_cons_of_mem _ hi)) (by omega) i e
theorem sL_cg {f g : Nat → Int} : ∀ l : List Nat, (∀ i, i ∈ l → f i = g i) → sL f l = sL g l
  | [], _ => rfl
  | a :: l, h => by rw [sL, sL, h a (List.mem_cons_self ..), sL_cg l (fun i hi => h i (List.mem_cons_of_mem _ hi))]
def swI (a b i : Nat) : Nat := if i = a then b else if i = b then a else i
def swS (a b S : Nat) : Nat := if S.testBit a = S.testBit b then S else S ^^^ (2 ^ a + 2 ^ b)
theorem swI_p : ∀ m : Nat, m < 6 → ∀ a : Nat, a < m → ∀ b : Nat, b < m → ((List.range m).map (swI a b)).isPerm (List.range m) = true := by decide +kernel
theorem swS_p : ∀ m : Nat, m < 6 → ∀ a : Nat, a < m → ∀ b : Nat, b < m → ((List.range (2 ^ m)).map (swS a b)).isPerm (List.range (2 ^ m)) = true := by decide +kernel
theorem swS_b : ∀ a : Nat, a < 5 → ∀ b : Nat, b < 5 → a ≠ b → ∀ S : Nat, S < 32 → ∀ i : Nat, i < 5 → (swS a b S).testBit i = S.testBit (swI a b i) := by decide +kernel
theorem swS_lt : ∀ m : Nat, m < 6 → ∀ a : Nat, a < m → ∀ b : Nat, b < m → ∀ S : Nat, S < 2 ^ m → swS a b S < 2 ^ m := by decide +kernel
theorem swI_i (a b i : Nat) : swI a b (swI a b i) = i := by
  unfold swI
  split
  · split <;> first | omega | (split <;> omega)
  · split
    · split <;> omega
    · rfl
theorem swI_lt {a b i m : Nat} (ha : a < m) (hb : b < m) (hi : i < m) : swI a b i < m := by
  unfold swI
  split
  · exact hb
  · split
    · exact ha
    · exact hi
theorem sI_sw {f : Nat → Int} {m a b : Nat} (hm : m < 6) (ha : a < m) (hb : b < m) : sL (fun i => f (swI a b i)) (List.range m) = sL f (List.range m) := by
  rw [← sL_map]
  exact sL_perm (List.isPerm_iff.mp (swI_p m hm a ha b hb))
theorem sS_sw {f : Nat → Int} {m a b : Nat} (hm : m < 6) (ha : a < m) (hb : b < m) : sL (fun i => f (swS a b i)) (List.range (2 ^ m)) = sL f (List.range (2 ^ m)) := by
  rw [← sL_map]
  exact sL_perm (List.isPerm_iff.mp (swS_p m hm a ha b hb))
theorem ld_sL {W : Nat → Int} {S : Nat} : ∀ m : Nat, ldV W m S = sL (fun i => if S.testBit i then W i else 0) (List.range m)
  | 0 => rfl
  | m + 1 => by rw [List.range_succ, sL_app, ldV, ld_sL m]
theorem rs_sL {r : Nat → Nat} : ∀ m : Nat, (rSum r m : Int) = sL (fun i => (r i : Int)) (List.range m)
  | 0 => rfl
  | m + 1 => by rw [List.range_succ, sL_app, rSum, ← rs_sL m]; omega
section SW
variable {m a b : Nat} {W : Nat → Int} {q : Int}
theorem ld_sw {r : Nat → Int} (hm : m < 6) (ha : a < m) (hb : b < m) (hne : a ≠ b) {S : Nat} (hS : S < 2 ^ m) : ldV (fun i => r (swI a b i)) m S = ldV r m (swS a b S) := by
  have hp : 2 ^ m ≤ 32 := Nat.pow_le_pow_right (show 1 ≤ 2 by decide) (show m ≤ 5 by omega)
  rw [ld_sL, ld_sL, ← sI_sw (f := fun i => if (swS a b S).testBit i then r i else 0) hm ha hb]
  refine sL_cg _ (fun i hi => ?_)
  have hi2 := List.mem_range.mp hi
  rw [swS_b a (by omega) b (by omega) hne S (by omega) _ (by have := swI_lt ha hb hi2; omega), swI_i]
theorem rs_sw {r : Nat → Nat} (hm : m < 6) (ha : a < m) (hb : b < m) : rSum (fun i => r (swI a b i)) m = rSum r m := by
  have h1 := rs_sL (r := fun i => r (swI a b i)) m
  have h2 := rs_sL (r := r) m
  have h3 := sI_sw (f := fun i => (r i : Int)) hm ha hb
  omega
theorem vw_cg {A B : Nat} (h : ∀ i, i < m → A.testBit i = B.testBit i) : vwin m W q A = vwin m W q B := by
  unfold vwin
  rw [ld_congr m h]
def tuV (m : Nat) (W : Nat → Int) (q : Int) (j : Nat) : Nat := zit (tuF m W q j) (2 ^ m) 0 0
theorem tu_sL {j : Nat} : ∀ n : Nat, ((zit (tuF m W q j) n 0 0 : Nat) : Int) = sL (fun S => if vturn m W q j S then 1 else 0) (List.range n)
  | 0 => rfl
  | n + 1 => by
    rw [List.range_succ, sL_app, zit_last, Nat.zero_add, ← tu_sL n]
    unfold tuF
    split <;> omega
/-- what two voters' weights say of their sets -/
theorem sw_win {r : Nat → Nat} {p : Nat} (hm : m < 6) (ha : a < m) (hb : b < m) (hne : a ≠ b) (hr : smR m W q r p) (hle : r a ≤ r b) {A B T : Nat} (hA : A < 2 ^ m) (hB : B < 2 ^ m) (hTa : T.testBit a = false) (hTb : T.testBit b = false) (h1 : ∀ i, i < m → A.testBit i = (T.testBit i || decide (i = a))) (h2 : ∀ i, i < m → B.testBit i = (T.testBit i || decide (i = b))) (h : vwin m W q A = true) : vwin m W q B = true := by
  have hw := of_decide_eq_true h
  have g1 := (hr.2 A hA).mpr hw
  have e1 := ld_add (W := fun i => (r i : Int)) (A := A) (B := T) (j := a) (by rw [h1 a ha, decide_eq_true rfl, Bool.or_true]) hTa m ha (fun i hi hn => by rw [h1 i hi, decide_eq_false hn, Bool.or_false])
  have e2 := ld_add (W := fun i => (r i : Int)) (A := B) (B := T) (j := b) (by rw [h2 b hb, decide_eq_true rfl, Bool.or_true]) hTb m hb (fun i hi hn => by rw [h2 i hi, decide_eq_false hn, Bool.or_false])
  exact decide_eq_true ((hr.2 B hB).mp (by omega))
theorem turn_le {r : Nat → Nat} {p : Nat} (hm : m < 6) (ha : a < m) (hb : b < m) (hne : a ≠ b) (hr : smR m W q r p) (hle : r a ≤ r b) {S : Nat} (hS : S < 2 ^ m) (h : vturn m W q a S = true) : vturn m W q b (swS a b S) = true := by
  have hp : 2 ^ m ≤ 32 := Nat.pow_le_pow_right (show 1 ≤ 2 by decide) (show m ≤ 5 by omega)
  have hbit := fun i (hi : i < m) => swS_b a (by omega) b (by omega) hne S (by omega) i (by omega)
  have hlt := swS_lt m hm a ha b hb S hS
  unfold vturn at h ⊢
  rw [Bool.and_eq_true, Bool.and_eq_true] at h
  obtain ⟨h1, h2, h3⟩ := h
  have hSa : S.testBit a = false := by cases q : S.testBit a <;> simp_all
  have hb' : (swS a b S).testBit b = false := by
    rw [hbit b hb]
    unfold swI
    rw [if_neg (fun z => hne z.symm), if_pos rfl]; exact hSa
  rw [Bool.and_eq_true, Bool.and_eq_true, hb']
  refine ⟨rfl, ?_, ?_⟩
  · cases q2 : S.testBit b
    · have : vwin m W q (swS a b S) = vwin m W q S := vw_cg (fun i hi => by
        rw [hbit i hi]
        unfold swI
        split
        · next z => rw [z, q2, hSa]
        · split
          · next z => rw [z, q2, hSa]
          · rfl)
      rw [this]; exact h2
    · cases q3 : vwin m W q (swS a b S)
      · rfl
      · have hsb := sub_bit S (by omega) b (by omega) q2
        have := sw_win (A := swS a b S) (B := S) (T := S - 2 ^ b) hm ha hb hne hr hle hlt hS (by rw [hsb a (by omega), hSa]; rfl) (by rw [hsb b (by omega), decide_eq_false (fun z => z rfl), Bool.and_false]) (fun i hi => by
            rw [hbit i hi, hsb i (by omega)]
            unfold swI
            split
            · next z => rw [q2, decide_eq_true z, Bool.or_true]
            · next z =>
              rw [decide_eq_false z, Bool.or_false]
              split
              · next z2 => rw [hSa, z2, decide_eq_false (fun y => y rfl), Bool.and_false]
              · next z2 => rw [decide_eq_true z2, Bool.and_true]) (fun i hi => by
            rw [hsb i (by omega)]
            by_cases z : i = b
            · rw [z, q2, decide_eq_true rfl, Bool.or_true]
            · rw [decide_eq_true z, decide_eq_false z, Bool.and_true, Bool.or_false]) q3
        rw [this] at h2
        exact absurd h2 (by decide)
  · cases q2 : S.testBit b
    · refine sw_win (A := S ||| 2 ^ a) (B := swS a b S ||| 2 ^ b) (T := S) hm ha hb hne hr hle (or_ltp hS ha) (or_ltp hlt hb) hSa q2 (fun i hi => ?_) (fun i hi => ?_) h3
      · rw [or_bit]; congr 1; exact decide_eq_decide.mpr ⟨fun z => z.symm, fun z => z.symm⟩
      · rw [or_bit, hbit i hi]
        have e1 : S.testBit (swI a b i) = S.testBit i := by
          unfold swI
          split
          · next z => rw [z, q2, hSa]
          · split
            · next z => rw [z, q2, hSa]
            · rfl
        rw [e1]; congr 1; exact decide_eq_decide.mpr ⟨fun z => z.symm, fun z => z.symm⟩
    · rw [← h3]
      refine vw_cg (fun i hi => ?_)
      rw [or_bit, or_bit, hbit i hi]
      unfold swI
      split
      · next z => rw [z, q2, decide_eq_true (rfl : a = a), Bool.or_true]; rfl
      · next z =>
        rw [decide_eq_false (fun y : a = i => z y.symm), Bool.or_false]
        split
        · next z2 => rw [z2, q2, hSa, decide_eq_true rfl]; rfl
        · next z2 => rw [decide_eq_false (fun y : b = i => z2 y.symm), Bool.or_false]
theorem tu_le {r : Nat → Nat} {p : Nat} (hm : m < 6) (ha : a < m) (hb : b < m) (hne : a ≠ b) (hr : smR m W q r p) (hle : r a ≤ r b) : tuV m W q a ≤ tuV m W q b := by
  have h1 := tu_sL (m := m) (W := W) (q := q) (j := a) (2 ^ m)
  have h2 := tu_sL (m := m) (W := W) (q := q) (j := b) (2 ^ m)
  rw [← sS_sw hm ha hb] at h2
  have h3 := sL_le (f := fun S => if vturn m W q a S then 1 else 0) (g := fun S => if vturn m W q b (swS a b S) then 1 else 0) (List.range (2 ^ m)) (fun S hS => by
    try dsimp only
    cases z : vturn m W q a S
    · rw [if_neg (by decide)]; split <;> decide
    · rw [turn_le hm ha hb hne hr hle (List.mem_range.mp hS) z]; decide)
  unfold tuV
  omega
/-- equal turns: the two change places and nothing changes -/
theorem tu_sym {r : Nat → Nat} {p : Nat} (hm : m < 6) (hW : ∀ i, i < m → 0 ≤ W i) (ha : a < m) (hb : b < m) (hne : a ≠ b) (hr : smR m W q r p) (hle : r a ≤ r b) (he : tuV m W q b ≤ tuV m W q a) {S : Nat} (hS : S < 2 ^ m) : vwin m W q (swS a b S) = vwin m W q S := by
  have hp : 2 ^ m ≤ 32 := Nat.pow_le_pow_right (show 1 ≤ 2 by decide) (show m ≤ 5 by omega)
  have h1 := tu_sL (m := m) (W := W) (q := q) (j := a) (2 ^ m)
  have h2 := tu_sL (m := m) (W := W) (q := q) (j := b) (2 ^ m)
  rw [← sS_sw hm ha hb] at h2
  unfold tuV at he
  have h3 := sL_eq (f := fun S => if vturn m W q a S then 1 else 0) (g := fun S => if vturn m W q b (swS a b S) then 1 else 0) (List.range (2 ^ m)) (fun S hS => by
    try dsimp only
    cases z : vturn m W q a S
    · rw [if_neg (by decide)]; split <;> decide
    · rw [turn_le hm ha hb hne hr hle (List.mem_range.mp hS) z]; decide) (by omega)
  -- for sets without both
  have key : ∀ T, T < 2 ^ m → T.testBit a = false → T.testBit b = false → vwin m W q (T ||| 2 ^ a) = vwin m W q (T ||| 2 ^ b) := fun T hT hTa hTb => by
    cases q3 : vwin m W q T
    · have g := h3 T (List.mem_range.mpr hT)
      have e : swS a b T = T := by unfold swS; rw [hTa, hTb, if_pos rfl]
      try dsimp only at g
      rw [e] at g
      unfold vturn at g
      rw [hTa, hTb, q3] at g
      cases z1 : vwin m W q (T ||| 2 ^ a) <;> cases z2 : vwin m W q (T ||| 2 ^ b) <;> simp_all
    · have q4 := of_decide_eq_true q3
      have g1 := ld_mono (W := W) (A := T) (B := T ||| 2 ^ a) m hW (fun i _ h => by rw [or_bit, h]; rfl)
      have g2 := ld_mono (W := W) (A := T) (B := T ||| 2 ^ b) m hW (fun i _ h => by rw [or_bit, h]; rfl)
      have f1 : vwin m W q (T ||| 2 ^ a) = true := decide_eq_true (by omega)
      have f2 : vwin m W q (T ||| 2 ^ b) = true := decide_eq_true (by omega)
      rw [f1, f2]
  have hbit := fun i (hi : i < m) => swS_b a (by omega) b (by omega) hne S (by omega) i (by omega)
  have hbits := fun (c : Nat) (hc : c < m) (qc : S.testBit c = true) => sub_bit S (by omega) c (by omega) qc
  cases q1 : S.testBit a
  · cases q2 : S.testBit b
    · have e : swS a b S = S := by unfold swS; rw [q1, q2, if_pos rfl]
      rw [e]
    · have hs := hbits b hb q2
      have g := key (S - 2 ^ b) (Nat.lt_of_le_of_lt (Nat.sub_le _ _) hS) (by rw [hs a (by omega), q1]; rfl) (by rw [hs b (by omega), decide_eq_false (fun z => z rfl), Bool.and_false])
      have eA : vwin m W q (swS a b S) = vwin m W q ((S - 2 ^ b) ||| 2 ^ a) := vw_cg (fun i hi => by
        rw [hbit i hi, or_bit, hs i (by omega)]
        unfold swI
        split
        · next z => rw [q2, z, decide_eq_true (rfl : a = a), Bool.or_true]
        · next z =>
          rw [decide_eq_false (fun y : a = i => z y.symm), Bool.or_false]
          split
          · next z2 => rw [q1, z2, decide_eq_false (fun y => y rfl), Bool.and_false]
          · next z2 => rw [decide_eq_true z2, Bool.and_true])
      have eB : vwin m W q S = vwin m W q ((S - 2 ^ b) ||| 2 ^ b) := vw_cg (fun i hi => by
        rw [or_bit, hs i (by omega)]
        by_cases z : i = b
        · rw [z, q2, decide_eq_true (rfl : b = b), Bool.or_true]
        · rw [decide_eq_true z, decide_eq_false (fun y : b = i => z y.symm), Bool.and_true, Bool.or_false])
      rw [eA, eB, g]
  · cases q2 : S.testBit b
    · have hs := hbits a ha q1
      have g := key (S - 2 ^ a) (Nat.lt_of_le_of_lt (Nat.sub_le _ _) hS) (by rw [hs a (by omega), decide_eq_false (fun z => z rfl), Bool.and_false]) (by rw [hs b (by omega), q2]; rfl)
      have eB : vwin m W q S = vwin m W q ((S - 2 ^ a) ||| 2 ^ a) := vw_cg (fun i hi => by
        rw [or_bit, hs i (by omega)]
        by_cases z : i = a
        · rw [z, q1, decide_eq_true (rfl : a = a), Bool.or_true]
        · rw [decide_eq_true z, decide_eq_false (fun y : a = i => z y.symm), Bool.and_true, Bool.or_false])
      have eA : vwin m W q (swS a b S) = vwin m W q ((S - 2 ^ a) ||| 2 ^ b) := vw_cg (fun i hi => by
        rw [hbit i hi, or_bit, hs i (by omega)]
        unfold swI
        split
        · next z => rw [q2, z, decide_eq_false (fun y : a ≠ a => y rfl), Bool.and_false, decide_eq_false (fun y : b = a => hne y.symm)]; rfl
        · next z =>
          split
          · next z2 => rw [q1, z2, decide_eq_true (rfl : b = b), Bool.or_true]
          · next z2 => rw [decide_eq_true z, decide_eq_false (fun y : b = i => z2 y.symm), Bool.and_true, Bool.or_false])
      rw [eA, eB, g]
    · have e : swS a b S = S := by unfold swS; rw [q1, q2, if_pos rfl]
      rw [e]
/-- the rows that the class weighs -/
def rkP (m : Nat) (W : Nat → Int) (q : Int) (r : Nat → Nat) : Prop := ∀ a b, a < b → b < m → if tuV m W q a ≤ tuV m W q b then (if tuV m W q b ≤ tuV m W q a then r a ≤ r b else r a < r b) else r b < r a
/-- a row that is not ranked has an earlier one -/
theorem rk_min {r : Nat → Nat} {p : Nat} (hm : m < 6) (hW : ∀ i, i < m → 0 ≤ W i) (hd : ∀ i, i < m → r i < 16) (hr : smR m W q r p) (hmin : ∀ r', (∀ i, i < m → r' i < 16) → rSum r' m = rSum r m → smR m W q r' p → cCode m r ≤ cCode m r') : rkP m W q r := by
  intro a b hab hb
  have hmono := fun x y (hx : x < m) (hy : y < m) (hxy : x ≠ y) (hle : r x ≤ r y) => tu_le (a := x) (b := y) hm hx hy hxy hr hle
  split
  · next h1 =>
    split
    · next h2 =>
      refine Classical.byContradiction fun hlt => ?_
      -- the two change places
      have hsym := fun S (hS : S < 2 ^ m) => tu_sym (a := b) (b := a) hm hW hb (by omega) (by omega) hr (by omega) h1 hS
      have h3 := hmin (fun i => r (swI b a i)) (fun i hi => hd _ (swI_lt hb (by omega) hi)) (rs_sw hm hb (by omega)) ⟨hr.1, fun S hS => by
        have hl := swS_lt m hm b hb a (by omega) S hS
        have e1 : ldV (fun i => ((r (swI b a i) : Nat) : Int)) m S = ldV (fun i => (r i : Int)) m (swS b a S) := ld_sw (r := fun i => (r i : Int)) hm hb (by omega) (by omega) hS
        rw [e1, hr.2 _ hl]
        have h4 := hsym S hS
        unfold vwin at h4
        exact decide_eq_decide.mp h4⟩
      have h5 := cCode_lt (p := fun i => r (swI b a i)) (q := r) (d := a) (fun k hk => by
        try dsimp only
        unfold swI
        rw [if_neg (by omega), if_neg (by omega)]) (by
        try dsimp only
        unfold swI
        rw [if_neg (by omega), if_pos rfl]; omega) m (by omega) (fun k hk => ⟨hd _ (swI_lt hb (by omega) hk), hd k hk⟩)
      omega
    · next h2 =>
      refine Classical.byContradiction fun hlt => ?_
      have := hmono b a hb (by omega) (by omega) (by omega)
      omega
  · next h1 =>
    refine Classical.byContradiction fun hlt => ?_
    have := hmono a b (by omega) hb (by omega) (by omega)
    omega
end SW
