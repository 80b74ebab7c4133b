/-! the calls wins, minimal, power and deegan -/
theorem idx8 {m : Nat} {k : Int} (hm : m ≤ 100) (h1 : -2147483648 ≤ k) (h2 : k < 2147483648) : ((D_X8_within (n32 k) 0 (n32 (m : Int) - 1)).bind fun p => zgd (p = 0 ∨ p = 1) <| some p) = if 0 ≤ k ∧ k < (m : Int) then some 1 else some 0 := by
  rw [l32_1, n32_sub, l32_0, in8 h1 h2 (by omega) (by omega) (by omega) (by omega)]
  by_cases e : 0 ≤ k ∧ k < (m : Int)
  · rw [if_pos e, if_pos (by omega)]; rfl
  · rw [if_neg e, if_neg (by omega)]; rfl
theorem idx9 {m : Nat} {k : Int} (hm : m ≤ 100) (h1 : -2147483648 ≤ k) (h2 : k < 2147483648) : D_X9_in (n32 k).toInt64 0 (n32 (m : Int) - 1).toInt64 = if 0 ≤ k ∧ k < (m : Int) then some 1 else some 0 := by
  rw [l32_1, n32_sub, n32_64 (a := (m : Int) - 1) (by omega) (by omega), l64_0, in9L h1 h2 (by omega) (by omega) (by omega) (by omega)]
  by_cases e : 0 ≤ k ∧ k < (m : Int)
  · rw [if_pos e, if_pos (by omega)]; rfl
  · rw [if_neg e, if_neg (by omega)]
theorem zgd_if {α : Type} {c : Prop} [Decidable c] {f : Int32 → Option α} : ((if c then some (1 : Int32) else some 0).bind fun p => zgd (p = 0 ∨ p = 1) <| f p) = (if c then some (1 : Int32) else some 0).bind f := by split <;> rfl
theorem set8 {m : Nat} {k : Int} (hm : m ≤ 10) (h1 : -2147483648 ≤ k) (h2 : k < 2147483648) : D_X8_within (n32 k) 0 (n32 ((2 ^ m - 1 : Nat) : Int)) = if 0 ≤ k ∧ k < ((2 ^ m : Nat) : Int) then some 1 else some 0 := by
  have hp : 2 ^ m ≤ 2 ^ 10 := Nat.pow_le_pow_right (by omega) hm
  have hp1 : 1 ≤ 2 ^ m := Nat.one_le_two_pow
  rw [l32_0, in8 h1 h2 (by omega) (by omega) (by omega) (by omega)]
  by_cases e : 0 ≤ k ∧ k < ((2 ^ m : Nat) : Int)
  · rw [if_pos e, if_pos (by omega)]
  · rw [if_neg e, if_neg (by omega)]; rfl
theorem setL9 {m : Nat} {k : Int} (hm : m ≤ 10) (h1 : -2147483648 ≤ k) (h2 : k < 2147483648) : D_X9_in (n32 k).toInt64 0 (n32 ((2 ^ m - 1 : Nat) : Int)).toInt64 = if 0 ≤ k ∧ k < ((2 ^ m : Nat) : Int) then some 1 else some 0 := by
  have hp : 2 ^ m ≤ 2 ^ 10 := Nat.pow_le_pow_right (by omega) hm
  have hp1 : 1 ≤ 2 ^ m := Nat.one_le_two_pow
  rw [n32_64 (a := ((2 ^ m - 1 : Nat) : Int)) (by omega) (by omega), l64_0, in9L h1 h2 (by omega) (by omega) (by omega) (by omega)]
  by_cases e : 0 ≤ k ∧ k < ((2 ^ m : Nat) : Int)
  · rw [if_pos e, if_pos (by omega)]
  · rw [if_neg e, if_neg (by omega)]
section VP
variable {s : zS} {m : Nat} {W : Nat → Int} {q : Int}
theorem voter8 (hv : vRel s m W q) {k : Int} (h1 : -2147483648 ≤ k) (h2 : k < 2147483648) : D_X5_knowsVoter s (n32 k) = if 0 ≤ k ∧ k < (m : Int) then some 1 else some 0 := by
  unfold D_X5_knowsVoter
  rw [hv.1.1]
  exact idx8 (by have := hv.1.2.2; omega) h1 h2
theorem voter9 (hv : vRel s m W q) {k : Int} (h1 : -2147483648 ≤ k) (h2 : k < 2147483648) : D_X9_isVoter s (n32 k) = if 0 ≤ k ∧ k < (m : Int) then some 1 else some 0 := by
  unfold D_X9_isVoter
  rw [hv.1.2.1, idx9 (by have := hv.1.2.2; omega) h1 h2, zgd_if]
  split <;> rfl
theorem call_wins (hv : vRel s m W q) (a : Int32) : cPu (D_X8_wins s a) (D_X9_wins s a) := by
  obtain ⟨k, rfl, h1, h2⟩ := i32_of a
  have hm := hv.1.2.2
  unfold D_X8_wins D_X9_wins
  rw [c_allv hv, r_allv hv, zbs, zbs, set8 (by omega) h1 h2, setL9 (by omega) h1 h2]
  by_cases e : 0 ≤ k ∧ k < ((2 ^ m : Nat) : Int)
  · obtain ⟨S, rfl⟩ : ∃ t : Nat, k = (t : Int) := ⟨k.toNat, by omega⟩
    rw [if_pos e, zbs, zbs, zi1, zi1, c_win hv (by omega), r_win hv (by omega), zbs]
    cases vwin m W q S <;> exact ⟨_, rfl, rfl⟩
  · rw [if_neg e, zbs, zbs, zi0, zi0]
    exact ⟨_, rfl, rfl⟩
/-- how many least ones, or the one asked for -/
def mnR (m : Nat) (W : Nat → Int) (q what : Int) : Nat → Nat → Nat → Int
  | 0, _, c => if what = -1 then (c : Int) else -1
  | d + 1, S, c => if vleast m W q S then (if (c : Int) = what then (S : Int) else mnR m W q what d (S + 1) (c + 1)) else mnR m W q what d (S + 1) c
theorem r_min (hv : vRel s m W q) {what : Int} (h0 : -1 ≤ what) (hw : what < 2147483648) : ∀ (d f S c : Nat), S + d = 2 ^ m → d < f → c ≤ S → D_X9_minimal_L12 s (n32 what) f (n32 (c : Int)) (n32 (S : Int)) = some (n32 (mnR m W q what d S c)) := by
  have hm := hv.1.2.2
  have hp := pow_le8 hm
  intro d
  induction d with
  | zero =>
    intro f S c hS hf hc
    obtain ⟨f, rfl⟩ : ∃ j, f = j + 1 := ⟨f - 1, by omega⟩
    rw [D_X9_minimal_L12_s]
    unfold D_X9_minimal_B12
    rw [r_allv hv, zbs, zif_t (by rw [c32_lt (by omega) (by omega)]; omega), mnR]
    by_cases e : what = -1
    · rw [if_pos e, zif_t (by rw [e]; decide)]
    · rw [if_neg e, zif_f (fun h => e (by rw [l32_m1] at h; exact (n32_eq (by omega) (by omega) (by omega) (by omega)).mp h))]; rfl
  | succ d ih =>
    intro f S c hS hf hc
    obtain ⟨f, rfl⟩ : ∃ j, f = j + 1 := ⟨f - 1, by omega⟩
    rw [D_X9_minimal_L12_s]
    unfold D_X9_minimal_B12
    rw [r_allv hv, zbs, zif_f (by rw [c32_lt (by omega) (by omega)]; omega), r_least hv (by omega), zbs, mnR, nsuc]
    cases vleast m W q S
    · rw [zb0, if_neg (by decide)]
      exact ih f (S + 1) c (by omega) (by omega) (by omega)
    · rw [zb1, if_pos rfl, nsuc]
      by_cases e : (c : Int) = what
      · rw [zif_t (by rw [e]), if_pos e]
      · rw [zif_f (fun h => e ((n32_eq (by omega) (by omega) (by omega) (by omega)).mp h)), if_neg e]
        exact ih f (S + 1) (c + 1) (by omega) (by omega) (by omega)
theorem c_min (hv : vRel s m W q) {what : Int} (h0 : 0 ≤ what) (hw : what < 2147483648) : ∀ (d f S c : Nat), S + d = 2 ^ m → d < f → c ≤ S → D_X5_leastSetAt_L4 s (n32 what) f (n32 (c : Int)) (n32 (S : Int)) = some (n32 (mnR m W q what d S c)) := by
  have hm := hv.1.2.2
  have hp := pow_le8 hm
  intro d
  induction d with
  | zero =>
    intro f S c hS hf hc
    obtain ⟨f, rfl⟩ : ∃ j, f = j + 1 := ⟨f - 1, by omega⟩
    rw [D_X5_leastSetAt_L4_s]
    unfold D_X5_leastSetAt_B4
    rw [c_allv hv, zbs, zif_t (by rw [c32_lt (by omega) (by omega)]; omega), mnR, if_neg (by omega)]; rfl
  | succ d ih =>
    intro f S c hS hf hc
    obtain ⟨f, rfl⟩ : ∃ j, f = j + 1 := ⟨f - 1, by omega⟩
    rw [D_X5_leastSetAt_L4_s]
    unfold D_X5_leastSetAt_B4
    rw [c_allv hv, zbs, zif_f (by rw [c32_lt (by omega) (by omega)]; omega), c_least hv (by omega), zbs, mnR, nsuc]
    cases vleast m W q S
    · rw [zb0, if_neg (by decide)]
      exact ih f (S + 1) c (by omega) (by omega) (by omega)
    · rw [zb1, if_pos rfl, nsuc]
      by_cases e : (c : Int) = what
      · rw [zif_t (by rw [e]), if_pos e]
      · rw [zif_f (fun h => e ((n32_eq (by omega) (by omega) (by omega) (by omega)).mp h)), if_neg e]
        exact ih f (S + 1) (c + 1) (by omega) (by omega) (by omega)
def lcF (m : Nat) (W : Nat → Int) (q : Int) (S c : Nat) : Nat := if vleast m W q S then c + 1 else c
theorem lc_le : ∀ (d S c : Nat), zit (lcF m W q) d S c ≤ c + d
  | 0, S, c => Nat.le_refl _
  | d + 1, S, c => by
    rw [zit]
    have := lc_le d (S + 1) (lcF m W q S c)
    have h : lcF m W q S c ≤ c + 1 := by unfold lcF; split <;> omega
    omega
theorem mn_lc : ∀ (d S c : Nat), mnR m W q (-1) d S c = ((zit (lcF m W q) d S c : Nat) : Int)
  | 0, S, c => by rw [mnR, if_pos rfl, zit]
  | d + 1, S, c => by
    rw [mnR, zit, lcF]
    cases vleast m W q S
    · rw [if_neg (by decide), if_neg (by decide)]; exact mn_lc d (S + 1) c
    · rw [if_pos rfl, if_pos rfl, if_neg (by omega)]; exact mn_lc d (S + 1) (c + 1)
theorem c_sets (hv : vRel s m W q) : D_X5_leastSets s = some (n32 ((zit (lcF m W q) (2 ^ m - 1) 1 0 : Nat) : Int)) := by
  have hm := hv.1.2.2
  have hp := pow_le8 hm
  refine zfold (lo := 1) (hi := 2 ^ m) (step := lcF m W q) (fin := fun t : Nat => some (n32 (t : Int))) (fun f S c => D_X5_leastSets_L4 s f (n32 (c : Int)) (n32 (S : Int))) (fun f S c h1 h2 => ?_) (fun f c => ?_) (2 ^ m - 1) zFU 1 0 (by omega) (by omega) (zFU_lt (by omega))
  · try dsimp only
    rw [D_X5_leastSets_L4_s]
    unfold D_X5_leastSets_B4 lcF
    rw [c_allv hv, zbs, zif_f (by rw [c32_lt (by omega) (by omega)]; omega), c_least hv (by omega), zbs, nsuc, nsuc]
    cases vleast m W q S
    · rw [zb0]; rfl
    · rw [zb1]; rfl
  · try dsimp only
    rw [D_X5_leastSets_L4_s]
    unfold D_X5_leastSets_B4
    rw [c_allv hv, zbs, zif_t (by rw [c32_lt (by omega) (by omega)]; omega)]
theorem zit_0 {τ : Type} {step : Nat → τ → τ} {d : Nat} {t : τ} (hd : 1 ≤ d) (h : step 0 t = t) : zit step d 0 t = zit step (d - 1) 1 t := by
  obtain ⟨d, rfl⟩ : ∃ j, d = j + 1 := ⟨d - 1, by omega⟩
  rw [zit, h]; rfl
theorem mn_0 (hv : vRel s m W q) {what : Int} : mnR m W q what (2 ^ m) 0 0 = mnR m W q what (2 ^ m - 1) 1 0 := by
  have hp := pow_le8 hv.1.2.2
  obtain ⟨d, hd⟩ : ∃ j, 2 ^ m = j + 1 := ⟨2 ^ m - 1, by omega⟩
  rw [hd, mnR, least_0 hv, if_neg (by decide)]; rfl
theorem call_minimal (hv : vRel s m W q) (a : Int32) : cPu (D_X8_minimal s a) (D_X9_minimal s a) := by
  obtain ⟨k, rfl, h1, h2⟩ := i32_of a
  have hm := hv.1.2.2
  have hp := pow_le8 hm
  unfold D_X8_minimal D_X9_minimal D_X5_leastSetAt
  by_cases e : -1 ≤ k
  · have r : D_X9_minimal_L12 s (n32 k) zFU 0 0 = _ := r_min hv e h2 (2 ^ m) zFU 0 0 (by omega) (zFU_lt (by omega)) (by omega)
    have hle : (-1 : Int32) ≤ n32 k := by rw [l32_m1, n32_le (by omega) (by omega) (by omega) (by omega)]; omega
    rw [if_pos hle, if_pos hle, r, mn_0 hv]
    by_cases e2 : k = -1
    · subst e2
      rw [zif_t (show n32 (-1) = (-1 : Int32) by decide), c_sets hv, mn_lc]
      exact ⟨_, rfl, rfl⟩
    · have c : D_X5_leastSetAt_L4 s (n32 k) zFU 0 1 = _ := c_min hv (by omega) h2 (2 ^ m - 1) zFU 1 0 (by omega) (zFU_lt (by omega)) (by omega)
      rw [zif_f (fun h => e2 (by rw [l32_m1] at h; exact (n32_eq (by omega) (by omega) (by omega) (by omega)).mp h)), c]
      exact ⟨_, rfl, rfl⟩
  · have hle : ¬ (-1 : Int32) ≤ n32 k := by rw [l32_m1, n32_le (by omega) (by omega) (by omega) (by omega)]; omega
    rw [if_neg hle, if_neg hle]
    exact ⟨_, rfl, rfl⟩
end VP
