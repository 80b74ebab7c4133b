/-! sums of rationals; Bland's rule comes to an end -/
def zsum : Nat → (Nat → Rat) → Rat
  | 0, _ => 0
  | n + 1, f => zsum n f + f n
theorem zsum_congr {f g : Nat → Rat} : ∀ n, (∀ j, j < n → f j = g j) → zsum n f = zsum n g
  | 0, _ => rfl
  | n + 1, h => by rw [zsum, zsum, zsum_congr n (fun j hj => h j (by omega)), h n (by omega)]
theorem zsum_add {f g : Nat → Rat} : ∀ n, zsum n (fun j => f j + g j) = zsum n f + zsum n g
  | 0 => by rw [zsum, zsum, zsum]; grind
  | n + 1 => by rw [zsum, zsum, zsum, zsum_add n]; grind
theorem zsum_sub {f g : Nat → Rat} : ∀ n, zsum n (fun j => f j - g j) = zsum n f - zsum n g
  | 0 => by rw [zsum, zsum, zsum]; grind
  | n + 1 => by rw [zsum, zsum, zsum, zsum_sub n]; grind
theorem zsum_mul {f : Nat → Rat} {c : Rat} : ∀ n, zsum n (fun j => c * f j) = c * zsum n f
  | 0 => by simp [zsum]
  | n + 1 => by rw [zsum, zsum, zsum_mul n]; grind
theorem zsum_zero {f : Nat → Rat} : ∀ n, (∀ j, j < n → f j = 0) → zsum n f = 0
  | 0, _ => rfl
  | n + 1, h => by rw [zsum, zsum_zero n (fun j hj => h j (by omega)), h n (by omega)]; grind
theorem zsum_one {f : Nat → Rat} {c : Nat} {x : Rat} : ∀ n, c < n → zsum n (fun j => if j = c then x else f j) = zsum n f - f c + x
  | 0, h => by omega
  | n + 1, h => by
    rw [zsum, zsum]
    by_cases hc : c = n
    · subst hc
      rw [zsum_congr c (fun j hj => if_neg (by omega)), if_pos rfl]
      grind
    · rw [zsum_one n (by omega), if_neg (fun q => hc q.symm)]
      grind
theorem zsum_nonneg {f : Nat → Rat} : ∀ n, (∀ j, j < n → 0 ≤ f j) → 0 ≤ zsum n f
  | 0, _ => by simp [zsum]
  | n + 1, h => by
    rw [zsum]
    have h1 := zsum_nonneg n (fun j hj => h j (by omega))
    have h2 := h n (by omega)
    grind
theorem zsum_pos_ex {f : Nat → Rat} : ∀ n, 0 < zsum n f → ∃ j, j < n ∧ 0 < f j
  | 0, h => by simp [zsum] at h
  | n + 1, h => by
    rw [zsum] at h
    by_cases h1 : 0 < f n
    · exact ⟨n, by omega, h1⟩
    · have h2 : 0 < zsum n f := by grind
      obtain ⟨j, hj, h3⟩ := zsum_pos_ex n h2
      exact ⟨j, by omega, h3⟩
theorem zpigeon : ∀ (K : Nat) (f : Nat → Nat), (∀ i, i ≤ K → f i < K) → ∃ i j, i < j ∧ j ≤ K ∧ f i = f j
  | 0, f, h => by have := h 0 (by omega); omega
  | K + 1, f, h => by
    by_cases hx : ∃ i, i < K + 1 ∧ f i = f (K + 1)
    · obtain ⟨i, hi, e⟩ := hx
      exact ⟨i, K + 1, hi, by omega, e⟩
    · -- the last value is taken out
      have hne : ∀ i, i < K + 1 → f i ≠ f (K + 1) := fun i hi e => hx ⟨i, hi, e⟩
      obtain ⟨i, j, h1, h2, h3⟩ := zpigeon K (fun i => if f i < f (K + 1) then f i else f i - 1) (fun i hi => by
        have h4 := h i (by omega)
        have h5 := hne i (by omega)
        have h6 := h (K + 1) (by omega)
        show (if f i < f (K + 1) then f i else f i - 1) < K
        split <;> omega)
      refine ⟨i, j, h1, by omega, ?_⟩
      have h5 := hne i (by omega)
      have h6 := hne j (by omega)
      split at h3 <;> split at h3 <;> omega
/-- the columns' names as one number -/
def zmsk (cn : Nat → Nat) : Nat → Nat
  | 0 => 0
  | n + 1 => zmsk cn n ||| (1 <<< cn n)
theorem zmsk_bit (cn : Nat → Nat) (x : Nat) : ∀ n, (zmsk cn n).testBit x = true ↔ ∃ j, j < n ∧ cn j = x
  | 0 => by simp [zmsk]
  | n + 1 => by
    rw [zmsk, Nat.testBit_or, Bool.or_eq_true, zmsk_bit cn x n, Nat.one_shiftLeft, Nat.testBit_two_pow]
    constructor
    · rintro (⟨j, hj, e⟩ | h)
      · exact ⟨j, by omega, e⟩
      · exact ⟨n, by omega, by simpa using h⟩
    · rintro ⟨j, hj, e⟩
      by_cases hn : j = n
      · subst hn; exact Or.inr (by simpa using e)
      · exact Or.inl ⟨j, by omega, e⟩
theorem zmsk_lt (cn : Nat → Nat) : ∀ n, (∀ j, j < n → cn j < 16) → zmsk cn n < 65536
  | 0, _ => by simp [zmsk]
  | n + 1, h => by
    rw [zmsk]
    refine Nat.or_lt_two_pow (n := 16) (zmsk_lt cn n (fun j hj => h j (by omega))) ?_
    rw [Nat.one_shiftLeft]
    exact Nat.pow_lt_pow_right (by omega) (h n (by omega))
section BL
variable {W : Type} {A : W → Prop} {room : Nat → W → Rat} {R C N : Nat} {zf : W → Rat} {k : Nat → Nat → Rat} {a : Nat → Nat → Nat → Rat} {kz : Nat → Rat} {az : Nat → Nat → Rat} {rn cn : Nat → Nat → Nat} {e l : Nat → Nat}
/-- a run of exchanges by Bland's rule: rows k + sum a, objective kz + sum az, names of rows and columns, who enters, who leaves -/
def bRun (A : W → Prop) (room : Nat → W → Rat) (R C N : Nat) (zf : W → Rat) (k : Nat → Nat → Rat) (a : Nat → Nat → Nat → Rat) (kz : Nat → Rat) (az : Nat → Nat → Rat) (rn cn : Nat → Nat → Nat) (e l : Nat → Nat) : Prop :=
  (∀ i, i ≤ N → ∀ w, A w → ∀ r, r < R → rn i r ≠ 0 → room (rn i r) w = k i r + zsum C (fun j => a i r j * room (cn i j) w)) ∧
  (∀ i, i ≤ N → ∀ w, A w → zf w = kz i + zsum C (fun j => az i j * room (cn i j) w)) ∧
  (∀ i, i ≤ N → ∀ t : Nat → Rat, ∃ w, A w ∧ ∀ j, j < C → room (cn i j) w = t j) ∧
  (∀ i, i ≤ N → ∀ r, r < R → rn i r ≠ 0 → 0 ≤ k i r) ∧
  (∀ i, i ≤ N → (∀ j j', j < C → j' < C → cn i j = cn i j' → j = j') ∧ (∀ r r', r < R → r' < R → rn i r ≠ 0 → rn i r = rn i r' → r = r') ∧ (∀ r j, r < R → j < C → rn i r ≠ cn i j) ∧ (∀ j, j < C → cn i j ≠ 0 ∧ cn i j < 16)) ∧
  (∀ i, i < N → (∀ r, rn (i + 1) r = if r = l i then cn i (e i) else rn i r) ∧ (∀ j, cn (i + 1) j = if j = e i then rn i (l i) else cn i j)) ∧
  (∀ i, i < N → e i < C ∧ 0 < az i (e i) ∧ ∀ j, j < C → 0 < az i j → cn i (e i) ≤ cn i j) ∧
  (∀ i, i < N → l i < R ∧ rn i (l i) ≠ 0 ∧ a i (l i) (e i) < 0 ∧ ∀ r, r < R → rn i r ≠ 0 → a i r (e i) < 0 → (k i (l i) * (-a i r (e i)) < k i r * (-a i (l i) (e i)) ∨ (k i (l i) * (-a i r (e i)) = k i r * (-a i (l i) (e i)) ∧ rn i (l i) ≤ rn i r))) ∧
  (∀ i, i < N → kz (i + 1) = kz i + az i (e i) * (k i (l i) / (-a i (l i) (e i))))
def isC (C : Nat) (cn : Nat → Nat → Nat) (i x : Nat) : Prop := ∃ j, j < C ∧ cn i j = x
/-- a name that was no column and is one has left the rows in between -/
theorem bl_in (h6 : ∀ i, i < N → (∀ r, rn (i + 1) r = if r = l i then cn i (e i) else rn i r) ∧ (∀ j, cn (i + 1) j = if j = e i then rn i (l i) else cn i j)) {x : Nat} : ∀ (d i : Nat), i + d ≤ N → ¬ isC C cn i x → isC C cn (i + d) x → ∃ p, i ≤ p ∧ p < i + d ∧ rn p (l p) = x
  | 0, i, _, h1, h2 => absurd h2 h1
  | d + 1, i, hN, h1, h2 => by
    by_cases h3 : isC C cn (i + d) x
    · obtain ⟨p, a1, a2, a3⟩ := bl_in h6 d i (by omega) h1 h3
      exact ⟨p, a1, by omega, a3⟩
    · obtain ⟨j, hj, ej⟩ := h2
      rw [show i + (d + 1) = (i + d) + 1 by omega, (h6 (i + d) (by omega)).2 j] at ej
      by_cases hje : j = e (i + d)
      · rw [if_pos hje] at ej
        exact ⟨i + d, by omega, by omega, ej⟩
      · rw [if_neg hje] at ej
        exact absurd ⟨j, hj, ej⟩ h3
/-- a name that was a column and is none has entered in between -/
theorem bl_out (h6 : ∀ i, i < N → (∀ r, rn (i + 1) r = if r = l i then cn i (e i) else rn i r) ∧ (∀ j, cn (i + 1) j = if j = e i then rn i (l i) else cn i j)) {x : Nat} : ∀ (d i : Nat), i + d ≤ N → isC C cn i x → ¬ isC C cn (i + d) x → ∃ p, i ≤ p ∧ p < i + d ∧ cn p (e p) = x
  | 0, i, _, h1, h2 => absurd h1 h2
  | d + 1, i, hN, h1, h2 => by
    by_cases h3 : isC C cn (i + d) x
    · obtain ⟨j, hj, ej⟩ := h3
      by_cases hje : j = e (i + d)
      · exact ⟨i + d, by omega, by omega, by rw [← hje]; exact ej⟩
      · refine absurd ⟨j, hj, ?_⟩ h2
        rw [show i + (d + 1) = (i + d) + 1 by omega, (h6 (i + d) (by omega)).2 j, if_neg hje]
        exact ej
    · obtain ⟨p, a1, a2, a3⟩ := bl_out h6 d i (by omega) h1 h3
      exact ⟨p, a1, by omega, a3⟩
theorem bland (h : bRun A room R C N zf k a kz az rn cn e l) : N < 65536 := by
  rcases Nat.lt_or_ge N 65536 with hN | hN
  · exact hN
  exfalso
  obtain ⟨h1, h2, h3, h4, h5, h6, h7, h8, h9⟩ := h
  obtain ⟨i0, j0, hij, hj0, hm⟩ := zpigeon 65536 (fun i => zmsk (cn i) C) (fun i hi => zmsk_lt _ _ (fun j hj => ((h5 i (by omega)).2.2.2 j hj).2))
  have hsame : ∀ x, isC C cn i0 x ↔ isC C cn j0 x := fun x => by
    unfold isC
    rw [← zmsk_bit, ← zmsk_bit]
    have hm' : zmsk (cn i0) C = zmsk (cn j0) C := hm
    rw [hm']
  -- the common point
  obtain ⟨w0, hA0, hw0⟩ := h3 i0 (by omega) (fun _ => 0)
  have hz : ∀ i, i ≤ N → (∀ j, j < C → room (cn i j) w0 = 0) → zf w0 = kz i := fun i hi hc => by
    rw [h2 i hi w0 hA0, zsum_zero C (fun j hj => by rw [hc j hj]; grind)]
    grind
  have hth : ∀ i, i < N → 0 ≤ k i (l i) / (-a i (l i) (e i)) ∧ (k i (l i) / (-a i (l i) (e i)) = 0 → k i (l i) = 0) := fun i hi => by
    obtain ⟨hl, hl0, hla, -⟩ := h8 i hi
    have hk := h4 i (by omega) (l i) hl hl0
    have hp : 0 < -a i (l i) (e i) := by grind
    constructor
    · rw [Rat.div_def]
      exact Rat.mul_nonneg hk (Rat.le_of_lt (Rat.inv_pos.mpr hp))
    · intro q
      have := Rat.div_mul_cancel (a := k i (l i)) (b := -a i (l i) (e i)) (by grind)
      rw [q] at this
      grind
  have hup : ∀ d i, i + d ≤ N → kz i ≤ kz (i + d) := by
    intro d
    induction d with
    | zero => intro i _; exact Rat.le_refl
    | succ d ih =>
      intro i hi
      have q1 := ih i (by omega)
      have q2 := h9 (i + d) (by omega)
      have q3 := Rat.mul_nonneg (Rat.le_of_lt (h7 (i + d) (by omega)).2.1) (hth (i + d) (by omega)).1
      rw [show i + (d + 1) = i + d + 1 by omega]
      grind
  have hzj : kz i0 = kz j0 := by
    rw [← hz i0 (by omega) hw0, ← hz j0 (by omega) (fun j hj => by
      obtain ⟨j', hj', ej⟩ := (hsame (cn j0 j)).mpr ⟨j, hj, rfl⟩
      rw [← ej]; exact hw0 j' hj')]
  have hdeg : ∀ i, i0 ≤ i → i < j0 → k i (l i) = 0 := fun i hi1 hi2 => by
    have q1 := hup (i - i0) i0 (by omega)
    have q2 := hup (j0 - (i + 1)) (i + 1) (by omega)
    rw [show i0 + (i - i0) = i by omega] at q1
    rw [show i + 1 + (j0 - (i + 1)) = j0 by omega] at q2
    have q3 := h9 i (by omega)
    have q4 := (h7 i (by omega)).2.1
    have q5 := (hth i (by omega)).1
    refine (hth i (by omega)).2 ?_
    have q6 : az i (e i) * (k i (l i) / (-a i (l i) (e i))) ≤ 0 := by grind
    rcases Rat.le_iff_lt_or_eq.mp q5 with q7 | q7
    · have := Rat.mul_pos q4 q7
      grind
    · exact q7.symm
  have hbase : ∀ d, i0 + d ≤ j0 → ∀ j, j < C → room (cn (i0 + d) j) w0 = 0 := by
    intro d
    induction d with
    | zero => intro _ j hj; exact hw0 j hj
    | succ d ih =>
      intro hd j hj
      have ih := ih (by omega)
      rw [show i0 + (d + 1) = i0 + d + 1 by omega, (h6 (i0 + d) (by omega)).2 j]
      by_cases hje : j = e (i0 + d)
      · rw [if_pos hje]
        obtain ⟨hl, hl0, -, -⟩ := h8 (i0 + d) (by omega)
        rw [h1 (i0 + d) (by omega) w0 hA0 _ hl hl0, zsum_zero C (fun j hj => by rw [ih j hj]; grind), hdeg (i0 + d) (by omega) (by omega)]
        grind
      · rw [if_neg hje]
        exact ih j hj
  have hval : ∀ i, i0 ≤ i → i ≤ j0 → ∀ r, r < R → rn i r ≠ 0 → room (rn i r) w0 = k i r := fun i hi1 hi2 r hr hr0 => by
    have hb := hbase (i - i0) (by omega)
    rw [show i0 + (i - i0) = i by omega] at hb
    rw [h1 i (by omega) w0 hA0 r hr hr0, zsum_zero C (fun j hj => by rw [hb j hj]; grind)]
    grind
  -- who leaves last by name
  have hmax : ∃ p, i0 ≤ p ∧ p < j0 ∧ ∀ p', i0 ≤ p' → p' < j0 → rn p' (l p') ≤ rn p (l p) := by
    have : ∀ d, 0 < d → i0 + d ≤ j0 → ∃ p, i0 ≤ p ∧ p < i0 + d ∧ ∀ p', i0 ≤ p' → p' < i0 + d → rn p' (l p') ≤ rn p (l p) := by
      intro d
      induction d with
      | zero => intro h; omega
      | succ d ih =>
        intro _ hd
        by_cases hd0 : d = 0
        · subst hd0
          exact ⟨i0, by omega, by omega, fun p' a1 a2 => by rw [show p' = i0 by omega]; exact Nat.le_refl _⟩
        · obtain ⟨p, b1, b2, b3⟩ := ih (by omega) (by omega)
          rcases Nat.le_total (rn (i0 + d) (l (i0 + d))) (rn p (l p)) with q | q
          · refine ⟨p, b1, by omega, fun p' a1 a2 => ?_⟩
            by_cases hp : p' = i0 + d
            · rw [hp]; exact q
            · exact b3 p' a1 (by omega)
          · refine ⟨i0 + d, by omega, by omega, fun p' a1 a2 => ?_⟩
            by_cases hp : p' = i0 + d
            · rw [hp]; exact Nat.le_refl _
            · exact Nat.le_trans (b3 p' a1 (by omega)) q
    obtain ⟨p, b1, b2, b3⟩ := this (j0 - i0) (by omega) (by omega)
    exact ⟨p, b1, by omega, fun p' a1 a2 => b3 p' a1 (by omega)⟩
  obtain ⟨p, hp1, hp2, hpm⟩ := hmax
  -- every name that enters or leaves in between leaves in between
  have hfe : ∀ q, i0 ≤ q → q < j0 → cn q (e q) ≤ rn p (l p) := fun q hq1 hq2 => by
    have hcol : isC C cn q (cn q (e q)) := ⟨e q, (h7 q (by omega)).1, rfl⟩
    by_cases hc : isC C cn i0 (cn q (e q))
    · have hc2 := (hsame _).mp hc
      have hno : ¬ isC C cn (q + 1) (cn q (e q)) := by
        rintro ⟨j, hj, ej⟩
        rw [(h6 q (by omega)).2 j] at ej
        by_cases hje : j = e q
        · rw [if_pos hje] at ej
          exact (h5 q (by omega)).2.2.1 (l q) (e q) (h8 q (by omega)).1 (h7 q (by omega)).1 ej
        · rw [if_neg hje] at ej
          exact hje ((h5 q (by omega)).1 j (e q) hj (h7 q (by omega)).1 ej)
      obtain ⟨q', a1, a2, a3⟩ := bl_in h6 (j0 - (q + 1)) (q + 1) (by omega) hno (by rw [show q + 1 + (j0 - (q + 1)) = j0 by omega]; exact hc2)
      rw [← a3]
      exact hpm q' (by omega) (by omega)
    · obtain ⟨q', a1, a2, a3⟩ := bl_in h6 (q - i0) i0 (by omega) hc (by rw [show i0 + (q - i0) = q by omega]; exact hcol)
      rw [← a3]
      exact hpm q' (by omega) (by omega)
  have hch : ∀ i i' x, i0 ≤ i → i ≤ j0 → i0 ≤ i' → i' ≤ j0 → ¬ isC C cn i x → isC C cn i' x → x ≤ rn p (l p) := fun i i' x b1 b2 b3 b4 hn hy => by
    rcases Nat.lt_or_ge i i' with q | q
    · obtain ⟨q', a1, a2, a3⟩ := bl_in h6 (i' - i) i (by omega) hn (by rw [show i + (i' - i) = i' by omega]; exact hy)
      rw [← a3]
      exact hpm q' (by omega) (by omega)
    · obtain ⟨q', a1, a2, a3⟩ := bl_out h6 (i - i') i' (by omega) hy (by rw [show i' + (i - i') = i by omega]; exact hn)
      rw [← a3]
      exact hfe q' (by omega) (by omega)
  -- it enters, too
  have hq : ∃ q, i0 ≤ q ∧ q < j0 ∧ cn q (e q) = rn p (l p) := by
    obtain ⟨hl, hl0, -, -⟩ := h8 p (by omega)
    have hno : ¬ isC C cn p (rn p (l p)) := by
      rintro ⟨j, hj, ej⟩
      exact (h5 p (by omega)).2.2.1 (l p) j hl hj ej.symm
    have hyes : isC C cn (p + 1) (rn p (l p)) := ⟨e p, (h7 p (by omega)).1, by rw [(h6 p (by omega)).2 (e p), if_pos rfl]⟩
    by_cases hc : isC C cn i0 (rn p (l p))
    · obtain ⟨q, a1, a2, a3⟩ := bl_out h6 (p - i0) i0 (by omega) hc (by rw [show i0 + (p - i0) = p by omega]; exact hno)
      exact ⟨q, by omega, by omega, a3⟩
    · have hc2 : ¬ isC C cn j0 (rn p (l p)) := fun z => hc ((hsame _).mpr z)
      obtain ⟨q, a1, a2, a3⟩ := bl_out h6 (j0 - (p + 1)) (p + 1) (by omega) hyes (by rw [show p + 1 + (j0 - (p + 1)) = j0 by omega]; exact hc2)
      exact ⟨q, by omega, by omega, a3⟩
  obtain ⟨q, hq1, hq2, hqt⟩ := hq
  -- two points, the entering column apart
  obtain ⟨w1, hA1, hw1⟩ := h3 p (by omega) (fun j => if j = e p then 1 else 0)
  obtain ⟨w2, hA2, hw2⟩ := h3 p (by omega) (fun _ => 0)
  have hep := (h7 p (by omega)).1
  have hz1 : zf w1 - zf w2 = az p (e p) := by
    rw [h2 p (by omega) w1 hA1, h2 p (by omega) w2 hA2]
    have s1 : zsum C (fun j => az p j * room (cn p j) w1) = az p (e p) := by
      rw [zsum_congr C (g := fun j => if j = e p then az p (e p) else 0) (fun j hj => by
        rw [hw1 j hj]
        by_cases hje : j = e p
        · rw [if_pos hje, if_pos hje, hje]; grind
        · rw [if_neg hje, if_neg hje]; grind), zsum_one (f := fun _ => 0) C hep, zsum_zero C (fun _ _ => rfl)]
      grind
    have s2 : zsum C (fun j => az p j * room (cn p j) w2) = 0 := zsum_zero C (fun j hj => by rw [hw2 j hj]; grind)
    rw [s1, s2]
    grind
  have hz2 : zf w1 - zf w2 = zsum C (fun j => az q j * (room (cn q j) w1 - room (cn q j) w2)) := by
    rw [h2 q (by omega) w1 hA1, h2 q (by omega) w2 hA2]
    have : zsum C (fun j => az q j * (room (cn q j) w1 - room (cn q j) w2)) = zsum C (fun j => az q j * room (cn q j) w1) - zsum C (fun j => az q j * room (cn q j) w2) := by
      rw [← zsum_sub]
      exact zsum_congr C (fun j _ => by grind)
    rw [this]
    grind
  have hpos : 0 < zsum C (fun j => az q j * (room (cn q j) w1 - room (cn q j) w2)) := by
    rw [← hz2, hz1]
    exact (h7 p (by omega)).2.1
  obtain ⟨j, hj, hjp⟩ := zsum_pos_ex C hpos
  -- the name x of that column, in p
  by_cases hcol : isC C cn p (cn q j)
  · obtain ⟨j', hj', ej⟩ := hcol
    rw [← ej, hw1 j' hj', hw2 j' hj'] at hjp
    by_cases hje : j' = e p
    · rw [if_pos hje] at hjp
      have hazq : 0 < az q j := by grind
      have b1 := (h7 q (by omega)).2.2 j hj hazq
      rw [hqt] at b1
      have b2 := hfe p hp1 hp2
      rw [hje] at ej
      rw [← ej] at b1
      have b3 : rn p (l p) = cn p (e p) := by omega
      exact (h5 p (by omega)).2.2.1 (l p) (e p) (h8 p (by omega)).1 hep b3
    · rw [if_neg hje] at hjp
      grind
  · -- a row of p
    have hx : cn q j ≤ rn p (l p) := hch p q _ hp1 (by omega) hq1 (by omega) hcol ⟨j, hj, rfl⟩
    have hrow : ∃ r, r < R ∧ rn p r = cn q j := by
      -- a name is a column or a row, all the way
      have key : ∀ d i, i + d ≤ N → (isC C cn i (cn q j) ∨ ∃ r, r < R ∧ rn i r = cn q j) → (isC C cn (i + d) (cn q j) ∨ ∃ r, r < R ∧ rn (i + d) r = cn q j) := by
        intro d
        induction d with
        | zero => intro i _ h; exact h
        | succ d ih =>
          intro i hi h
          rcases ih i (by omega) h with ⟨j2, hj2, ej2⟩ | ⟨r2, hr2, er2⟩
          · by_cases hje : j2 = e (i + d)
            · refine Or.inr ⟨l (i + d), (h8 (i + d) (by omega)).1, ?_⟩
              rw [show i + (d + 1) = i + d + 1 by omega, (h6 (i + d) (by omega)).1, if_pos rfl, ← hje]
              exact ej2
            · refine Or.inl ⟨j2, hj2, ?_⟩
              rw [show i + (d + 1) = i + d + 1 by omega, (h6 (i + d) (by omega)).2, if_neg hje]
              exact ej2
          · by_cases hre : r2 = l (i + d)
            · refine Or.inl ⟨e (i + d), (h7 (i + d) (by omega)).1, ?_⟩
              rw [show i + (d + 1) = i + d + 1 by omega, (h6 (i + d) (by omega)).2, if_pos rfl, ← hre]
              exact er2
            · refine Or.inr ⟨r2, hr2, ?_⟩
              rw [show i + (d + 1) = i + d + 1 by omega, (h6 (i + d) (by omega)).1, if_neg hre]
              exact er2
      rcases Nat.lt_or_ge q p with hqp | hqp
      · rcases key (p - q) q (by omega) (Or.inl ⟨j, hj, rfl⟩) with h | h
        · rw [show q + (p - q) = p by omega] at h
          exact absurd h hcol
        · rw [show q + (p - q) = p by omega] at h
          exact h
      · -- by the period: a column at j0, so at i0, so a row or column at p
        rcases key (j0 - q) q (by omega) (Or.inl ⟨j, hj, rfl⟩) with h | ⟨r, hr, er⟩
        · rw [show q + (j0 - q) = j0 by omega] at h
          rcases key (p - i0) i0 (by omega) (Or.inl ((hsame _).mpr h)) with h | h
          · rw [show i0 + (p - i0) = p by omega] at h
            exact absurd h hcol
          · rw [show i0 + (p - i0) = p by omega] at h
            exact h
        · -- a row at j0: it became a column between p and q, so it left the rows there
          obtain ⟨q', a1, a2, a3⟩ := bl_in h6 (q - p) p (by omega) hcol (by rw [show p + (q - p) = q by omega]; exact ⟨j, hj, rfl⟩)
          -- rows between p and q': take the first such q'
          have first : ∀ d, p + d ≤ N → (∀ i, p ≤ i → i < p + d → rn i (l i) ≠ cn q j) → (∃ r, r < R ∧ rn (p + d) r = cn q j) → ∃ r, r < R ∧ rn p r = cn q j := by
            intro d
            induction d with
            | zero => intro _ _ h; exact h
            | succ d ih =>
              intro hd hno h
              refine ih (by omega) (fun i b1 b2 => hno i b1 (by omega)) ?_
              obtain ⟨r, hr, er⟩ := h
              rw [show p + (d + 1) = p + d + 1 by omega, (h6 (p + d) (by omega)).1] at er
              by_cases hrl : r = l (p + d)
              · rw [if_pos hrl] at er
                -- it entered at p + d: a column there, so it had left before
                exfalso
                obtain ⟨q'', c1, c2, c3⟩ := bl_in h6 d p (by omega) hcol ⟨e (p + d), (h7 (p + d) (by omega)).1, er⟩
                exact hno q'' c1 (by omega) c3
              · rw [if_neg hrl] at er
                exact ⟨r, hr, er⟩
          have least : ∀ d, (∃ i, p ≤ i ∧ i < p + d ∧ rn i (l i) = cn q j) → ∃ i, p ≤ i ∧ i < p + d ∧ rn i (l i) = cn q j ∧ ∀ i', p ≤ i' → i' < i → rn i' (l i') ≠ cn q j := by
            intro d
            induction d with
            | zero => rintro ⟨i, b1, b2, -⟩; omega
            | succ d ih =>
              rintro ⟨i, b1, b2, b3⟩
              by_cases hx2 : ∃ i, p ≤ i ∧ i < p + d ∧ rn i (l i) = cn q j
              · obtain ⟨i', c1, c2, c3, c4⟩ := ih hx2
                exact ⟨i', c1, by omega, c3, c4⟩
              · refine ⟨i, b1, b2, b3, fun i' c1 c2 c3 => hx2 ⟨i', c1, by omega, c3⟩⟩
          obtain ⟨i1, b1, b2, b3, b4⟩ := least (q - p) ⟨q', a1, by omega, a3⟩
          exact first (i1 - p) (by omega) (fun i c1 c2 => b4 i c1 (by omega)) ⟨l i1, (h8 i1 (by omega)).1, by rw [show p + (i1 - p) = i1 by omega]; exact b3⟩
    obtain ⟨r, hr, er⟩ := hrow
    have hr0 : rn p r ≠ 0 := by rw [er]; exact ((h5 q (by omega)).2.2.2 j hj).1
    have hd : room (cn q j) w1 - room (cn q j) w2 = a p r (e p) := by
      rw [← er, h1 p (by omega) w1 hA1 r hr hr0, h1 p (by omega) w2 hA2 r hr hr0]
      have s1 : zsum C (fun j => a p r j * room (cn p j) w1) = a p r (e p) := by
        rw [zsum_congr C (g := fun j => if j = e p then a p r (e p) else 0) (fun j hj => by
          rw [hw1 j hj]
          by_cases hje : j = e p
          · rw [if_pos hje, if_pos hje, hje]; grind
          · rw [if_neg hje, if_neg hje]; grind), zsum_one (f := fun _ => 0) C hep, zsum_zero C (fun _ _ => rfl)]
        grind
      have s2 : zsum C (fun j => a p r j * room (cn p j) w2) = 0 := zsum_zero C (fun j hj => by rw [hw2 j hj]; grind)
      rw [s1, s2]
      grind
    rw [hd] at hjp
    obtain ⟨hl, hl0, hla, hlr⟩ := h8 p (by omega)
    by_cases hxt : cn q j = rn p (l p)
    · -- the leaving one itself
      have e1 : r = l p := (h5 p (by omega)).2.1 r (l p) hr hl hr0 (by rw [er, hxt])
      have e2 : j = e q := (h5 q (by omega)).1 j (e q) hj (h7 q (by omega)).1 (by rw [hxt, hqt])
      rw [e1, e2] at hjp
      have b1 := (h7 q (by omega)).2.1
      have b2 := Rat.mul_pos b1 (show 0 < -a p (l p) (e p) by grind)
      grind
    · have hlt : cn q j < rn p (l p) := by omega
      have hazq : ¬ 0 < az q j := fun z => by
        have b1 := (h7 q (by omega)).2.2 j hj z
        rw [hqt] at b1
        omega
      have har : a p r (e p) < 0 := by
        by_cases z : a p r (e p) < 0
        · exact z
        · exfalso
          have b1 : 0 ≤ (-az q j) * a p r (e p) := Rat.mul_nonneg (by grind) (by grind)
          grind
      have hk0 : k p r = 0 := by
        rw [← hval p hp1 (by omega) r hr hr0, er]
        have hb := hbase (q - i0) (by omega) j hj
        rw [show i0 + (q - i0) = q by omega] at hb
        exact hb
      have hkl := h4 p (by omega) (l p) hl hl0
      have b1 : 0 ≤ k p (l p) * (-a p r (e p)) := Rat.mul_nonneg hkl (by grind)
      rcases hlr r hr hr0 har with b2 | ⟨-, b2⟩
      · rw [hk0] at b2
        grind
      · rw [er] at b2
        omega
end BL
