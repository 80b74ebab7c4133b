/-! the calls complaint, surplus, even and better -/
section SH
variable {s : zS} {n : Nat} {v : Nat → Int} {g : Nat → Nat → Int}
/-- what a told share gives a set -/
def shV (g : Nat → Nat → Int) (sh S m : Nat) : Int := zit (fun i (t : Int) => if S.testBit i then t + g sh i else t) m 0 0
theorem shV_n {sh S : Nat} (hn : n ≤ 4) (hS : S < 2 ^ n) : shV g sh S 4 = shV g sh S n := by
  unfold shV
  rw [show 4 = n + (4 - n) by omega, zit_add]
  refine zit_id _ _ _ (fun j t h1 h2 => ?_)
  rw [tb_hi hS (by omega)]
  rfl
theorem shV_bd (hg : gRel s g) {sh S : Nat} (hs : sh < 2) : ∀ m : Nat, m ≤ 4 → -(10000 * (m : Int)) ≤ shV g sh S m ∧ shV g sh S m ≤ 10000 * (m : Int) := by
  intro m
  unfold shV
  induction m with
  | zero => intro _; simp [zit]
  | succ m ih =>
    intro hm
    have h1 := ih (by omega)
    have h2 := hg sh m hs (by omega)
    rw [zit_last, Nat.zero_add]
    push_cast
    split <;> omega
theorem c_share (hg : gRel s g) {sh S : Nat} (hs : sh < 2) (hS : S < 16) : D_X3_shareOf s (n32 (sh : Int)) (n32 (S : Int)) = some (n32 (shV g sh S 4)) := by
  have h := zfold (lo := 0) (hi := 4) (step := fun i (t : Int) => if S.testBit i then t + g sh i else t) (fin := fun t : Int => some (n32 t)) (fun f k t => D_X3_shareOf_L5 s (n32 (sh : Int)) (n32 (S : Int)) f (n32 t) (n32 (k : Int))) (fun f k t _ hk => by
    rw [D_X3_shareOf_L5_s]
    unfold D_X3_shareOf_B5
    rw [l32_4, zif_f (by rw [n32_le (by omega) (by omega) (by omega) (by omega)]; omega), x8_hasL S (by omega) k (by omega), in_ite]
    by_cases e : S.testBit k = true
    · rw [if_pos e, if_pos e, zi1, zgd_t (czin (by omega) (by omega)), zT5 sh hs, zgd_t (zoI6 sh hs k hk), n32_xn (by omega), (hg sh k hs hk).1, n32_add, nsuc]
    · rw [if_neg e, if_neg e, zi0, nsuc]) (fun f t => by
    rw [D_X3_shareOf_L5_s]
    unfold D_X3_shareOf_B5
    rw [zif_t (by decide)]) 4 zFU 0 0 rfl (Nat.zero_le _) (zFU_lt (by omega))
  exact h
theorem r_sumOf (hw : wRel s n v) (hg : gRel s g) {sh S : Nat} (hs : sh < 2) (hS : S < 2 ^ n) : D_X9_sumOf s (n32 (sh : Int)) (n32 (S : Int)) = some (n32 (shV g sh S 4)) := by
  have hn := hw.1.2.2.1
  have hp := pow_le4 hn
  have h := zfold (lo := 0) (hi := n) (step := fun i (t : Int) => if S.testBit i then t + g sh i else t) (fin := fun t : Int => some (n32 t)) (fun f k t => D_X9_sumOf_L5 s (n32 (sh : Int)) (n32 (S : Int)) f (n32 t) (n32 (k : Int))) (fun f k t _ hk => by
    have hix : (4 : Int32) * n32 (sh : Int) + n32 (k : Int) = n32 ((4 * sh + k : Nat) : Int) := by
      rw [l32_4, n32_mul, n32_add]; congr 1
    rw [D_X9_sumOf_L5_s]
    unfold D_X9_sumOf_B5 D_X9_sumOf_J39
    rw [hw.2.1.1, zif_f (by rw [c32_le (by omega) (by omega)]; omega), x9_hasL S (by omega) k (by omega), in_ite]
    by_cases e : S.testBit k = true
    · rw [if_pos e, if_pos e, zi1, hix, zgd_t (czin (by omega) (by omega)), n32_xn (by omega), (hg sh k hs (by omega)).2.1, n32_add, nsuc]
    · rw [if_neg e, if_neg e, zi0, nsuc, n32_0r]) (fun f t => by
    rw [D_X9_sumOf_L5_s]
    unfold D_X9_sumOf_B5
    rw [hw.2.1.1, zif_t (Int32.le_refl _)]) n zFU 0 0 (by omega) (Nat.zero_le _) (zFU_lt (by omega))
  rw [shV_n hn hS]
  exact h
/-- a set's complaint -/
def coV (v : Nat → Int) (g : Nat → Nat → Int) (sh S : Nat) : Int := v S - shV g sh S 4
theorem coV_bd (hw : wRel s n v) (hg : gRel s g) {sh S : Nat} (hs : sh < 2) (hS : S < 16) : -41000 ≤ coV v g sh S ∧ coV v g sh S ≤ 41000 := by
  have h1 := shV_bd hg (S := S) hs 4 (by omega)
  have h2 := hw.1.2.2.2.2 S hS
  unfold coV
  omega
theorem c_complaint (hw : wRel s n v) (hg : gRel s g) {sh S : Nat} (hs : sh < 2) (hS : S < 16) : D_X3_complaintOf s (n32 (sh : Int)) (n32 (S : Int)) = some (n32 (coV v g sh S)) := by
  unfold D_X3_complaintOf coV
  rw [zgd_t (czin (by omega) hS), c_share hg hs hS, zbs, n32_xn (by omega), hw.1.2.2.2.1 S hS, n32_sub]
theorem call_complaint (hw : wRel s n v) (hg : gRel s g) (a b : Int32) : cPu (D_X8_complaint s a b) (D_X9_complaint s a b) := by
  obtain ⟨k, rfl, h1, h2⟩ := i32_of a
  obtain ⟨j, rfl, h3, h4⟩ := i32_of b
  have hp := pow_le4 hw.1.2.2.1
  unfold D_X8_complaint D_X9_complaint D_X9_complaint_J31
  rw [share8 h1 h2, share9 h1 h2, set7 hw h3 h4, set9 hw h3 h4]
  by_cases e : 0 ≤ k ∧ k ≤ 1
  · rw [if_pos e, zbs, zbs, zi1, zi1]
    by_cases e2 : 1 ≤ j ∧ j < ((2 ^ n : Nat) : Int)
    · obtain ⟨sh, rfl⟩ : ∃ t : Nat, k = (t : Int) := ⟨k.toNat, by omega⟩
      obtain ⟨S, rfl⟩ : ∃ t : Nat, j = (t : Int) := ⟨j.toNat, by omega⟩
      rw [if_pos e2, zbs, zbs, zi1, zi1, c_complaint hw hg (by omega) (by omega), zgd_t (czin (by omega) (by omega)), r_sumOf hw hg (by omega) (by omega), zbs, zbs, n32_xn (by omega), hw.2.1.2.2.2.1 S (by omega), n32_sub]
      exact ⟨_, rfl, rfl⟩
    · rw [if_neg e2, zbs, zbs, zi0, zi0]
      exact ⟨_, rfl, rfl⟩
  · rw [if_neg e, zbs, zbs, zi0, zi0]
    exact ⟨_, rfl, rfl⟩
theorem zmax_n {a b : Int} (h1 : -2147483648 ≤ a ∧ a < 2147483648) (h2 : -2147483648 ≤ b ∧ b < 2147483648) : zmax (n32 a) (n32 b) = n32 (if a < b then b else a) := by
  unfold zmax
  by_cases e : a < b
  · rw [zif_t ((n32_lt h1.1 h1.2 h2.1 h2.2).mpr e), if_pos e]
  · rw [zif_f (fun q => e ((n32_lt h1.1 h1.2 h2.1 h2.2).mp q)), if_neg e]
theorem zmin_n {a b : Int} (h1 : -2147483648 ≤ a ∧ a < 2147483648) (h2 : -2147483648 ≤ b ∧ b < 2147483648) : zmin (n32 a) (n32 b) = n32 (if b < a then b else a) := by
  unfold zmin
  by_cases e : b < a
  · rw [zif_t ((n32_lt h2.1 h2.2 h1.1 h1.2).mpr e), if_pos e]
  · rw [zif_f (fun q => e ((n32_lt h2.1 h2.2 h1.1 h1.2).mp q)), if_neg e]
/-- the greatest complaint with i and without k, from a least one on -/
def suF (v : Nat → Int) (g : Nat → Nat → Int) (sh i k : Nat) (S : Nat) (t : Int) : Int := if S.testBit i = true ∧ S.testBit k = false then (if t < coV v g sh S then coV v g sh S else t) else t
theorem suF_t {sh i k S : Nat} {t : Int} (e : S.testBit i = true) (e2 : ¬ S.testBit k = true) : suF v g sh i k S t = if t < coV v g sh S then coV v g sh S else t := if_pos ⟨e, by simpa using e2⟩
theorem suF_f {sh i k S : Nat} {t : Int} (e : ¬ S.testBit i = true) : suF v g sh i k S t = t := if_neg (fun q => e q.1)
theorem suF_g {sh i k S : Nat} {t : Int} (e : S.testBit k = true) : suF v g sh i k S t = t := if_neg (fun q => by rw [e] at q; exact absurd q.2 (by decide))
theorem c_surplus (hw : wRel s n v) (hg : gRel s g) {sh i k : Nat} (hs : sh < 2) (hi : i < 4) (hk : k < 4) : D_X3_surplusOver s (n32 (sh : Int)) (n32 (i : Int)) (n32 (k : Int)) = some (n32 (zit (suF v g sh i k) (2 ^ n - 1) 1 (-1000000))) := by
  have hp := pow_le4 hw.1.2.2.1
  have hp1 : 1 ≤ 2 ^ n := Nat.one_le_two_pow
  have h := zfoldP (lo := 1) (hi := 2 ^ n) (step := suF v g sh i k) (fin := fun t : Int => some (n32 t)) (fun _ t => -10000000 ≤ t ∧ t ≤ 41000) (fun f S t => D_X3_surplusOver_L7 s (n32 (sh : Int)) (n32 (i : Int)) (n32 (k : Int)) f (n32 t) (n32 (S : Int))) (fun f S t h1 h2 hP => by
    have hb := coV_bd hw hg hs (show S < 16 by omega)
    refine ⟨by unfold suF; (repeat' split) <;> omega, ?_⟩
    rw [D_X3_surplusOver_L7_s]
    unfold D_X3_surplusOver_B7
    rw [all7 hw, zbs, zif_f (by rw [c32_lt (by omega) (by omega)]; omega), x8_hasL S (by omega) i (by omega), in_ite, x8_hasL S (by omega) k (by omega)]
    by_cases e : S.testBit i = true
    · rw [if_pos e, zi1, in_ite]
      by_cases e2 : S.testBit k = true
      · rw [if_pos e2, zi1, suF_g e2, nsuc]
      · rw [if_neg e2, zi0, suF_t e e2, c_complaint hw hg hs (by omega), zbs, zmax_n (by omega) (by omega), nsuc]
    · rw [if_neg e, zi0, suF_f e, nsuc]) (fun f t _ => by
    rw [D_X3_surplusOver_L7_s]
    unfold D_X3_surplusOver_B7
    rw [all7 hw, zbs, zif_t (by rw [c32_lt (by omega) (by omega)]; omega)]) (2 ^ n - 1) zFU 1 (-1000000) (by omega) (by omega) (zFU_lt (by omega)) ⟨by omega, by omega⟩
  exact h.2
theorem r_surplus (hw : wRel s n v) (hg : gRel s g) {sh i k : Nat} (hs : sh < 2) (hi : i < 4) (hk : k < 4) : D_X9_surplusOf s (n32 (sh : Int)) (n32 (i : Int)) (n32 (k : Int)) = some (n32 (zit (suF v g sh i k) (2 ^ n - 1) 1 (-10000000))) := by
  have hp := pow_le4 hw.1.2.2.1
  have hp1 : 1 ≤ 2 ^ n := Nat.one_le_two_pow
  have h := zfoldP (lo := 1) (hi := 2 ^ n) (step := suF v g sh i k) (fin := fun t : Int => some (n32 t)) (fun _ t => -10000000 ≤ t ∧ t ≤ 41000) (fun f S t => D_X9_surplusOf_L7 s (n32 (sh : Int)) (n32 (i : Int)) (n32 (k : Int)) f (n32 t) (n32 (S : Int))) (fun f S t h1 h2 hP => by
    have hb := coV_bd hw hg hs (show S < 16 by omega)
    refine ⟨by unfold suF; (repeat' split) <;> omega, ?_⟩
    rw [D_X9_surplusOf_L7_s]
    unfold D_X9_surplusOf_B7 D_X9_surplusOf_J63
    rw [all9 hw, zbs, zif_f (by rw [c32_lt (by omega) (by omega)]; omega), zgd_t (czin (by omega) (by omega)), r_sumOf hw hg hs h2, zbs, n32_xn (by omega), hw.2.1.2.2.2.1 S (by omega), n32_sub, x9_hasL S (by omega) i (by omega), in_ite, x9_hasL S (by omega) k (by omega)]
    have hc : v S - shV g sh S 4 = coV v g sh S := rfl
    rw [hc]
    by_cases e : S.testBit i = true
    · rw [if_pos e, zi1, in_ite]
      by_cases e2 : S.testBit k = true
      · rw [if_pos e2, zi1, suF_g e2, nsuc]
      · rw [if_neg e2, zi0, suF_t e e2]
        by_cases e3 : t < coV v g sh S
        · rw [zif_f (by rw [n32_le (by omega) (by omega) (by omega) (by omega)]; omega), if_pos e3, nsuc]
        · rw [zif_t (by rw [n32_le (by omega) (by omega) (by omega) (by omega)]; omega), if_neg e3, nsuc]
    · rw [if_neg e, zi0, suF_f e, nsuc]) (fun f t _ => by
    rw [D_X9_surplusOf_L7_s]
    unfold D_X9_surplusOf_B7
    rw [all9 hw, zbs, zif_t (by rw [c32_lt (by omega) (by omega)]; omega)]) (2 ^ n - 1) zFU 1 (-10000000) (by omega) (by omega) (zFU_lt (by omega)) ⟨by omega, by omega⟩
  exact h.2
theorem su_same (hw : wRel s n v) (hg : gRel s g) {sh i k : Nat} (hs : sh < 2) (hi : i < n) (hik : i ≠ k) : zit (suF v g sh i k) (2 ^ n - 1) 1 (-10000000) = zit (suF v g sh i k) (2 ^ n - 1) 1 (-1000000) := by
  have hp := pow_le4 hw.1.2.2.1
  have hp1 : 1 ≤ 2 ^ n := Nat.one_le_two_pow
  have hlt : 2 ^ i < 2 ^ n := Nat.pow_lt_pow_right (by omega) hi
  have h := zit_rel (s1 := suF v g sh i k) (s2 := suF v g sh i k) (fun j t u => t = u ∨ (t = -10000000 ∧ u = -1000000 ∧ j ≤ 2 ^ i)) (2 ^ n - 1) 1 (-10000000) (-1000000) (Or.inr ⟨rfl, rfl, Nat.one_le_two_pow⟩) (fun S t u h1 h2 hP => by
    have hb := coV_bd hw hg hs (show S < 16 by omega)
    rcases hP with rfl | ⟨rfl, rfl, h3⟩
    · exact Or.inl rfl
    · unfold suF
      by_cases e : S.testBit i = true ∧ S.testBit k = false
      · rw [if_pos e, if_pos e, if_pos (by omega), if_pos (by omega)]
        exact Or.inl rfl
      · rw [if_neg e, if_neg e]
        refine Or.inr ⟨rfl, rfl, ?_⟩
        by_cases e2 : S = 2 ^ i
        · exfalso
          refine e ⟨?_, ?_⟩
          · rw [e2, Nat.testBit_two_pow_self]
          · rw [e2, Nat.testBit_two_pow_of_ne hik]
        · omega)
  rcases h with h | ⟨-, -, h⟩
  · exact h
  · omega
theorem call_surplus (hw : wRel s n v) (hg : gRel s g) (a b c : Int32) : cPu (D_X8_surplus s a b c) (D_X9_surplus s a b c) := by
  obtain ⟨k, rfl, h1, h2⟩ := i32_of a
  obtain ⟨i, rfl, h3, h4⟩ := i32_of b
  obtain ⟨j, rfl, h5, h6⟩ := i32_of c
  have hn := hw.1.2.2.1
  unfold D_X8_surplus D_X9_surplus D_X9_surplus_J38
  rw [share8 h1 h2, share9 h1 h2, knows7 hw h3 h4, knows9 hw h3 h4, knows7 hw h5 h6, knows9 hw h5 h6]
  by_cases e : 0 ≤ k ∧ k ≤ 1
  · rw [if_pos e, zbs, zbs, zi1, zi1]
    by_cases e2 : 0 ≤ i ∧ i ≤ (n : Int) - 1
    · rw [if_pos e2, zbs, zbs, zi1, zi1]
      by_cases e3 : 0 ≤ j ∧ j ≤ (n : Int) - 1
      · rw [if_pos e3, zbs, zbs, zi1, zi1]
        by_cases e4 : i = j
        · rw [e4, zif_t rfl, zif_t rfl]
          exact ⟨_, rfl, rfl⟩
        · obtain ⟨sh, rfl⟩ : ∃ t : Nat, k = (t : Int) := ⟨k.toNat, by omega⟩
          obtain ⟨i, rfl⟩ : ∃ t : Nat, i = (t : Int) := ⟨i.toNat, by omega⟩
          obtain ⟨j, rfl⟩ : ∃ t : Nat, j = (t : Int) := ⟨j.toNat, by omega⟩
          have hne : ¬ n32 (i : Int) = n32 (j : Int) := fun q => e4 ((n32_eq h3 h4 h5 h6).mp q)
          rw [zif_f hne, zif_f hne, c_surplus hw hg (by omega) (by omega) (by omega), r_surplus hw hg (by omega) (by omega) (by omega), su_same hw hg (by omega) (by omega) (by omega)]
          exact ⟨_, rfl, rfl⟩
      · rw [if_neg e3, zbs, zbs, zi0, zi0]
        exact ⟨_, rfl, rfl⟩
    · rw [if_neg e2, zbs, zbs, zi0, zi0]
      exact ⟨_, rfl, rfl⟩
  · rw [if_neg e, zbs, zbs, zi0, zi0]
    exact ⟨_, rfl, rfl⟩
end SH
