/-! votes: sets that win, least ones -/
theorem n32_or (a b : Nat) : n32 (a : Int) ||| n32 (b : Int) = n32 ((a ||| b : Nat) : Int) := by
  rw [← n32_nI, ← n32_nI, ← n32_nI]
  show Int32.ofBitVec (BitVec.ofNat 32 a) ||| Int32.ofBitVec (BitVec.ofNat 32 b) = Int32.ofBitVec (BitVec.ofNat 32 (a ||| b))
  rw [BitVec.ofNat_or]; rfl
theorem pow_le8 {m : Nat} (h : m ≤ 8) : 2 ^ m ≤ 256 ∧ 1 ≤ 2 ^ m := ⟨Nat.pow_le_pow_right (by omega) h, Nat.one_le_two_pow⟩
theorem tb_ge {S i : Nat} (h : S.testBit i = true) : 2 ^ i ≤ S := by
  refine Classical.byContradiction fun q => ?_
  rw [Nat.testBit_lt_two_pow (by omega)] at h
  exact absurd h (by decide)
theorem no_bit : ∀ S : Nat, S < 256 → ∀ i : Nat, i < 8 → S.testBit i = true → (n32 (S : Int) &&& (n32 ((2 ^ i : Nat) : Int) ^^^ (-1 : Int32))) = n32 ((S - 2 ^ i : Nat) : Int) := by decide +kernel
theorem sub_bit : ∀ S : Nat, S < 256 → ∀ i : Nat, i < 8 → S.testBit i = true → ∀ j : Nat, j < 8 → (S - 2 ^ i).testBit j = (S.testBit j && decide (j ≠ i)) := by decide +kernel
theorem or_bit (S i j : Nat) : (S ||| 2 ^ i).testBit j = (S.testBit j || decide (i = j)) := by rw [Nat.testBit_or, Nat.testBit_two_pow]
theorem or_ltp {S i m : Nat} (hS : S < 2 ^ m) (hi : i < m) : S ||| 2 ^ i < 2 ^ m := Nat.or_lt_two_pow hS (Nat.pow_lt_pow_right (by omega) hi)
def pc8 (S : Nat) : Nat := hb S 0 + hb S 1 + hb S 2 + hb S 3 + hb S 4 + hb S 5 + hb S 6 + hb S 7
theorem j6_pc8 : ∀ S : Nat, S < 256 → D_J6_bitCount_0f7a4 (n32 (S : Int)) = some (n32 (pc8 S : Int)) := by decide +kernel
theorem r_pc8 : ∀ S : Nat, S < 256 → D_X9_bits (n32 (S : Int)) = some (n32 (pc8 S : Int)) := by decide +kernel
theorem pc8_lt : ∀ m : Nat, m < 9 → ∀ S : Nat, S < 2 ^ m → ∀ i : Nat, i < m → S.testBit i = false → pc8 S < m := by decide +kernel
theorem pc8_pos : ∀ S : Nat, S < 256 → ∀ i : Nat, i < 8 → S.testBit i = true → 1 ≤ pc8 S := by decide +kernel
theorem pc8_le (S : Nat) : pc8 S ≤ 8 := by
  have h0 := hb_01 S 0
  have h1 := hb_01 S 1
  have h2 := hb_01 S 2
  have h3 := hb_01 S 3
  have h4 := hb_01 S 4
  have h5 := hb_01 S 5
  have h6 := hb_01 S 6
  have h7 := hb_01 S 7
  unfold pc8
  omega
theorem ld_zit (W : Nat → Int) (S : Nat) : ∀ m, zit (fun i (t : Int) => if S.testBit i then t + W i else t) m 0 0 = ldV W m S := by
  intro m
  induction m with
  | zero => rfl
  | succ m ih =>
    rw [zit_last, Nat.zero_add, ih, ldV]
    try dsimp only
    split
    · rfl
    · omega
theorem ld_bd {W : Nat → Int} {A : Int} {S : Nat} : ∀ m : Nat, (∀ i, i < m → 0 ≤ W i ∧ W i ≤ A) → 0 ≤ ldV W m S ∧ ldV W m S ≤ A * (m : Int) := by
  intro m
  induction m with
  | zero => intro _; simp [ldV]
  | succ m ih =>
    intro h
    have h1 := ih (fun i hi => h i (by omega))
    have h2 := h m (by omega)
    rw [ldV, show A * ((m + 1 : Nat) : Int) = A * (m : Int) + A by push_cast; rw [Int.mul_add, Int.mul_one]]
    split <;> omega
theorem ld_congr {W : Nat → Int} {A B : Nat} : ∀ m : Nat, (∀ i, i < m → A.testBit i = B.testBit i) → ldV W m A = ldV W m B := by
  intro m
  induction m with
  | zero => intro _; rfl
  | succ m ih =>
    intro h
    rw [ldV, ldV, ih (fun i hi => h i (by omega)), h m (by omega)]
theorem ld_add {W : Nat → Int} {A B j : Nat} (ha : A.testBit j = true) (hb : B.testBit j = false) : ∀ m : Nat, j < m → (∀ i, i < m → i ≠ j → A.testBit i = B.testBit i) → ldV W m A = ldV W m B + W j := by
  intro m
  induction m with
  | zero => intro h; omega
  | succ m ih =>
    intro hj h
    by_cases e : j = m
    · rw [ldV, ldV, ld_congr m (fun i hi => h i (by omega) (by omega)), ← e, ha, hb, if_pos rfl, if_neg (by decide)]
      omega
    · rw [ldV, ldV, ih (by omega) (fun i hi => h i (by omega)), h m (by omega) (fun q => e q.symm)]
      omega
theorem ld_mono {W : Nat → Int} {A B : Nat} : ∀ m : Nat, (∀ i, i < m → 0 ≤ W i) → (∀ i, i < m → A.testBit i = true → B.testBit i = true) → ldV W m A ≤ ldV W m B := by
  intro m
  induction m with
  | zero => intro _ _; exact Int.le_refl _
  | succ m ih =>
    intro hW h
    have h1 := ih (fun i hi => hW i (by omega)) (fun i hi => h i (by omega))
    have h2 := hW m (by omega)
    have h3 := h m (by omega)
    rw [ldV, ldV]
    cases e : A.testBit m
    · rw [if_neg (by decide)]
      split <;> omega
    · rw [h3 e, if_pos rfl]
      omega
def vwin (m : Nat) (W : Nat → Int) (q : Int) (S : Nat) : Bool := decide (q ≤ ldV W m S)
def vleast (m : Nat) (W : Nat → Int) (q : Int) (S : Nat) : Bool := vwin m W q S && zall (fun i => !S.testBit i || !vwin m W q (S - 2 ^ i)) m 0
section VO
variable {s : zS} {m : Nat} {W : Nat → Int} {q : Int}
theorem v_bd (hv : vRel s m W q) {S : Nat} : 0 ≤ ldV W m S ∧ ldV W m S ≤ 400 := by
  have h := ld_bd (W := W) (A := 50) (S := S) m (fun i hi => (hv.2.1 i hi).2.2)
  have := hv.1.2.2
  omega
theorem c_allv (hv : vRel s m W q) : D_X5_allVoters s = some (n32 ((2 ^ m - 1 : Nat) : Int)) := by
  have hp := pow_le8 hv.1.2.2
  unfold D_X5_allVoters
  rw [hv.1.1, shlL m (by have := hv.1.2.2; omega), l32_1, n32_sub, show ((2 ^ m : Nat) : Int) - 1 = ((2 ^ m - 1 : Nat) : Int) by omega]
theorem r_allv (hv : vRel s m W q) : D_X9_allVoters s = some (n32 ((2 ^ m - 1 : Nat) : Int)) := by
  have hp := pow_le8 hv.1.2.2
  unfold D_X9_allVoters
  rw [hv.1.2.1, shlL m (by have := hv.1.2.2; omega), l32_1, n32_sub, show ((2 ^ m : Nat) : Int) - 1 = ((2 ^ m - 1 : Nat) : Int) by omega]
theorem c_win (hv : vRel s m W q) {S : Nat} (hS : S < 2 ^ m) : D_X5_isWinning s (n32 (S : Int)) = some (zfl (vwin m W q S)) := by
  have hp := pow_le8 hv.1.2.2
  have hb := v_bd hv (S := S)
  have hq := hv.2.2.1.2.2
  unfold D_X5_isWinning vwin
  rw [zgd_t (czin (by omega) (by omega)), n32_xn (by omega), hv.2.2.2.1 S hS, hv.2.2.1.1]
  by_cases e : q ≤ ldV W m S
  · rw [zif_f (by rw [n32_lt (by omega) (by omega) (by omega) (by omega)]; omega), decide_eq_true e]; rfl
  · rw [zif_t (by rw [n32_lt (by omega) (by omega) (by omega) (by omega)]; omega), decide_eq_false e]; rfl
theorem r_win (hv : vRel s m W q) {S : Nat} (hS : S < 2 ^ m) : D_X9_doesWin s (n32 (S : Int)) = some (zfl (vwin m W q S)) := by
  have hm := hv.1.2.2
  have hp := pow_le8 hm
  have hb := v_bd hv (S := S)
  have hq := hv.2.2.1.2.2
  have h := zfold (lo := 0) (hi := m) (step := fun i (t : Int) => if S.testBit i then t + W i else t) (fin := fun t : Int => if n32 t < n32 q then some 0 else some 1) (fun f i t => D_X9_doesWin_L4 s (n32 (S : Int)) f (n32 t) (n32 (i : Int))) (fun f i t _ hi => by
    try dsimp only
    rw [D_X9_doesWin_L4_s]
    unfold D_X9_doesWin_B4 D_X9_doesWin_J31
    rw [hv.1.2.1, zif_f (by rw [c32_le (by omega) (by omega)]; omega), x9_hasL S (by omega) i (by omega), in_ite, nsuc]
    by_cases e : S.testBit i = true
    · rw [if_pos e, if_pos e, zi1, zgd_t (czin (by omega) (by omega)), n32_xn (by omega), (hv.2.1 i hi).2.1, n32_add]
    · rw [if_neg e, if_neg e, zi0, n32_0r]) (fun f t => by
    try dsimp only
    rw [D_X9_doesWin_L4_s]
    unfold D_X9_doesWin_B4
    rw [hv.1.2.1, zif_t (Int32.le_refl _), hv.2.2.1.2.1]) m zFU 0 0 (by omega) (by omega) (zFU_lt (by omega))
  rw [ld_zit] at h
  have h' : D_X9_doesWin s (n32 (S : Int)) = _ := h
  rw [h']
  unfold vwin
  by_cases e : q ≤ ldV W m S
  · rw [zif_f (by rw [n32_lt (by omega) (by omega) (by omega) (by omega)]; omega), decide_eq_true e]; rfl
  · rw [zif_t (by rw [n32_lt (by omega) (by omega) (by omega) (by omega)]; omega), decide_eq_false e]; rfl
theorem c_least (hv : vRel s m W q) {S : Nat} (hS : S < 2 ^ m) : D_X5_isLeastSet s (n32 (S : Int)) = some (zfl (vleast m W q S)) := by
  have hm := hv.1.2.2
  have hp := pow_le8 hm
  have h := zchk (lo := 0) (hi := m) (p := fun i => !S.testBit i || !vwin m W q (S - 2 ^ i)) (ok := some (1 : Int32)) (bad := some 0) (fun f i => D_X5_isLeastSet_L12 s (n32 (S : Int)) f (n32 (i : Int))) (fun f i _ hi => by
    try dsimp only
    rw [D_X5_isLeastSet_L12_s]
    unfold D_X5_isLeastSet_B12
    rw [hv.1.1, zif_f (by rw [c32_le (by omega) (by omega)]; omega), x8_hasL S (by omega) i (by omega), in_ite, nsuc]
    by_cases e : S.testBit i = true
    · have hge := tb_ge e
      have h2i : 1 ≤ 2 ^ i := Nat.one_le_two_pow
      rw [if_pos e, zi1, shlL i (by omega), n32_sub, show (S : Int) - ((2 ^ i : Nat) : Int) = ((S - 2 ^ i : Nat) : Int) by omega, c_win hv (by omega), zbs, e]
      cases vwin m W q (S - 2 ^ i)
      · rw [zb0]; rfl
      · rw [zb1]; rfl
    · rw [if_neg e, zi0, show S.testBit i = false by simpa using e]; rfl) (fun f => by
    try dsimp only
    rw [D_X5_isLeastSet_L12_s]
    unfold D_X5_isLeastSet_B12
    rw [hv.1.1, zif_t (Int32.le_refl _)]) m zFU 0 (by omega) (by omega) (zFU_lt (by omega))
  have h' : D_X5_isLeastSet_L12 s (n32 (S : Int)) zFU 0 = _ := h
  unfold D_X5_isLeastSet vleast
  rw [c_win hv hS, zbs, h']
  cases vwin m W q S
  · rw [zb0, Bool.false_and]; rfl
  · rw [zb1, Bool.true_and]
    cases zall (fun i => !S.testBit i || !vwin m W q (S - 2 ^ i)) m 0 <;> rfl
theorem r_least (hv : vRel s m W q) {S : Nat} (hS : S < 2 ^ m) : D_X9_isLeast s (n32 (S : Int)) = some (zfl (vleast m W q S)) := by
  have hm := hv.1.2.2
  have hp := pow_le8 hm
  have h := fun b => zfold (lo := 0) (hi := m) (step := fun i b => b && (!S.testBit i || !vwin m W q (S - 2 ^ i))) (fin := fun b => some (zfl b)) (fun f i b => D_X9_isLeast_L8 s (n32 (S : Int)) f (zfl b) (n32 (i : Int))) (fun f i b _ hi => by
    try dsimp only
    rw [D_X9_isLeast_L8_s]
    unfold D_X9_isLeast_B8 D_X9_isLeast_J42 D_X9_isLeast_J46
    rw [hv.1.2.1, zif_f (by rw [c32_le (by omega) (by omega)]; omega), nsuc]
    cases b
    · rw [zb0, Bool.false_and]; rfl
    · rw [zb1, Bool.true_and, x9_hasL S (by omega) i (by omega), in_ite]
      by_cases e : S.testBit i = true
      · have h2i : 1 ≤ 2 ^ i := Nat.one_le_two_pow
        rw [if_pos e, zi1, shlL i (by omega), no_bit S (by omega) i (by omega) e, r_win hv (by omega), zbs, e]
        cases vwin m W q (S - 2 ^ i)
        · rw [zb0]; rfl
        · rw [zb1]; rfl
      · rw [if_neg e, zi0, show S.testBit i = false by simpa using e]; rfl) (fun f b => by
    try dsimp only
    rw [D_X9_isLeast_L8_s]
    unfold D_X9_isLeast_B8
    rw [hv.1.2.1, zif_t (Int32.le_refl _)]
    cases b <;> rfl) m zFU 0 b (by omega) (by omega) (zFU_lt (by omega))
  unfold D_X9_isLeast vleast
  rw [r_win hv hS, zbs]
  have h' := h (vwin m W q S)
  rw [zit_and] at h'
  exact h'
theorem least_0 (hv : vRel s m W q) : vleast m W q 0 = false := by
  have h : vwin m W q 0 = false := by
    have hz : ∀ m, ldV W m 0 = 0 := by
      intro m
      induction m with
      | zero => rfl
      | succ m ih => rw [ldV, ih, Nat.zero_testBit]; rfl
    unfold vwin
    rw [hz]
    exact decide_eq_false (by have := hv.2.2.1.2.2; omega)
  unfold vleast
  rw [h, Bool.false_and]
end VO
