/-! the calls power and deegan -/
section VQ
variable {s : zS} {m : Nat} {W : Nat → Int} {q : Int} {j : Nat}
/-- a voter turns a set -/
def vturn (m : Nat) (W : Nat → Int) (q : Int) (j S : Nat) : Bool := !S.testBit j && (!vwin m W q S && vwin m W q (S ||| 2 ^ j))
def piC (m S : Nat) : Nat := facN (pc8 S) * facN (m - 1 - pc8 S)
def tuF (m : Nat) (W : Nat → Int) (q : Int) (j S t : Nat) : Nat := if vturn m W q j S then t + 1 else t
def piF (m : Nat) (W : Nat → Int) (q : Int) (j S t : Nat) : Nat := if vturn m W q j S then t + piC m S else t
theorem c_turned (hv : vRel s m W q) {S : Nat} (hj : j < m) (hS : S < 2 ^ m) : D_X5_isTurned s (n32 (S : Int)) (n32 (j : Int)) = some (zfl (vturn m W q j S)) := by
  have hm := hv.1.2.2
  have hp := pow_le8 hm
  unfold D_X5_isTurned D_X5_isTurned_J32 vturn
  rw [x8_hasL S (by omega) j (by omega), in_ite]
  by_cases e : S.testBit j = true
  · rw [if_pos e, zi1, e]; rfl
  · rw [if_neg e, zi0, c_win hv hS, zbs, shlL j (by omega), n32_or, c_win hv (or_ltp hS hj), zbs, show S.testBit j = false by simpa using e]
    cases vwin m W q S
    · rw [zb0]
      cases vwin m W q (S ||| 2 ^ j) <;> rfl
    · rw [zb1]; rfl
theorem c_turns (hv : vRel s m W q) (hj : j < m) : D_X5_turnsOf s (n32 (j : Int)) = some (n32 ((zit (tuF m W q j) (2 ^ m) 0 0 : Nat) : Int)) := by
  have hm := hv.1.2.2
  have hp := pow_le8 hm
  refine zfold (lo := 0) (hi := 2 ^ m) (step := tuF m W q j) (fin := fun t : Nat => some (n32 (t : Int))) (fun f S t => D_X5_turnsOf_L4 s (n32 (j : Int)) f (n32 (t : Int)) (n32 (S : Int))) (fun f S t _ hS => ?_) (fun f t => ?_) (2 ^ m) zFU 0 0 (by omega) (by omega) (zFU_lt (by omega))
  · try dsimp only
    rw [D_X5_turnsOf_L4_s]
    unfold D_X5_turnsOf_B4 tuF
    rw [c_allv hv, zbs, zif_f (by rw [c32_lt (by omega) (by omega)]; omega), c_turned hv hj hS, zbs, nsuc, nsuc]
    cases vturn m W q j S
    · rw [zb0]; rfl
    · rw [zb1]; rfl
  · try dsimp only
    rw [D_X5_turnsOf_L4_s]
    unfold D_X5_turnsOf_B4
    rw [c_allv hv, zbs, zif_t (by rw [c32_lt (by omega) (by omega)]; omega)]
theorem turn_nb {S : Nat} (h : vturn m W q j S = true) : S.testBit j = false := by
  unfold vturn at h
  cases e : S.testBit j
  · rfl
  · rw [e, Bool.not_true, Bool.false_and] at h; exact absurd h (by decide)
theorem c_pivots (hv : vRel s m W q) (hj : j < m) : D_X5_pivotsOf s (n32 (j : Int)) = some (n32 ((zit (piF m W q j) (2 ^ m) 0 0 : Nat) : Int)) := by
  have hm := hv.1.2.2
  have hp := pow_le8 hm
  refine zfold (lo := 0) (hi := 2 ^ m) (step := piF m W q j) (fin := fun t : Nat => some (n32 (t : Int))) (fun f S t => D_X5_pivotsOf_L4 s (n32 (j : Int)) f (n32 (t : Int)) (n32 (S : Int))) (fun f S t _ hS => ?_) (fun f t => ?_) (2 ^ m) zFU 0 0 (by omega) (by omega) (zFU_lt (by omega))
  · try dsimp only
    rw [D_X5_pivotsOf_L4_s]
    unfold D_X5_pivotsOf_B4 piF
    rw [c_allv hv, zbs, zif_f (by rw [c32_lt (by omega) (by omega)]; omega), c_turned hv hj hS, zbs, nsuc]
    cases e : vturn m W q j S
    · rw [zb0]; rfl
    · have hlt := pc8_lt m (by omega) S hS j hj (turn_nb e)
      rw [zb1, j6_pc8 S (by omega), zbs, hv.1.1, c_behind hlt hm, zbs, n32_add, if_pos rfl]
      rfl
  · try dsimp only
    rw [D_X5_pivotsOf_L4_s]
    unfold D_X5_pivotsOf_B4
    rw [c_allv hv, zbs, zif_t (by rw [c32_lt (by omega) (by omega)]; omega)]
theorem r_power (hv : vRel s m W q) {what : Int32} (hj : j < m) (b : Bool) : D_X9_power_L44 s (n32 (j : Int)) what zFU 0 0 (zfl b) 1 0 = if what = 0 then some (n32 ((zit (tuF m W q j) (2 ^ m) 0 0 : Nat) : Int)) else if what = 1 then some (n32 ((zit (piF m W q j) (2 ^ m) 0 0 : Nat) : Int)) else if what = 2 then some (zfl (b && zall (fun S => S.testBit j || !vwin m W q S) (2 ^ m) 0)) else some (zfl (zall (fun S => !S.testBit j || !vleast m W q S) (2 ^ m) 0)) := by
  have hm := hv.1.2.2
  have hp := pow_le8 hm
  have h := zfold (lo := 0) (hi := 2 ^ m) (step := fun S (t : Nat × Nat × Bool × Bool) => (tuF m W q j S t.1, (piF m W q j S t.2.1, (t.2.2.1 && (S.testBit j || !vwin m W q S), t.2.2.2 && (!S.testBit j || !vleast m W q S))))) (fin := fun t : Nat × Nat × Bool × Bool => if what = 0 then some (n32 (t.1 : Int)) else if what = 1 then some (n32 (t.2.1 : Int)) else if what = 2 then some (zfl t.2.2.1) else some (zfl t.2.2.2)) (fun f S t => D_X9_power_L44 s (n32 (j : Int)) what f (n32 (t.1 : Int)) (n32 (t.2.1 : Int)) (zfl t.2.2.1) (zfl t.2.2.2) (n32 (S : Int))) (fun f S t _ hS => ?_) (fun f t => ?_) (2 ^ m) zFU 0 (0, 0, b, true) (by omega) (by omega) (zFU_lt (by omega))
  · rw [zit_pair (f := tuF m W q j) (g := fun S (t : Nat × Bool × Bool) => (piF m W q j S t.1, (t.2.1 && (S.testBit j || !vwin m W q S), t.2.2 && (!S.testBit j || !vleast m W q S)))), zit_pair (f := piF m W q j) (g := fun S (t : Bool × Bool) => (t.1 && (S.testBit j || !vwin m W q S), t.2 && (!S.testBit j || !vleast m W q S))), zit_pair (f := fun S b => b && (S.testBit j || !vwin m W q S)) (g := fun S b => b && (!S.testBit j || !vleast m W q S)), zit_and, zit_and, Bool.true_and] at h
    exact h
  · obtain ⟨t1, t2, t3, t4⟩ := t
    try dsimp only
    rw [D_X9_power_L44_s]
    unfold D_X9_power_B44 D_X9_power_J104 D_X9_power_J80 D_X9_power_J81
    rw [r_allv hv, zbs, zif_f (by rw [c32_lt (by omega) (by omega)]; omega), x9_hasL S (by omega) j (by omega), in_ite, nsuc]
    have key : ∀ (k : Bool), D_X9_power_J105 (D_X9_power_L44 s (n32 (j : Int)) what f) s (n32 (j : Int)) what (n32 (t1 : Int)) (n32 (t2 : Int)) (zfl t4) (n32 (S : Int)) (zfl k) = D_X9_power_L44 s (n32 (j : Int)) what f (n32 ((if (!vwin m W q S && vwin m W q (S ||| 2 ^ j)) then t1 + 1 else t1 : Nat) : Int)) (n32 ((if (!vwin m W q S && vwin m W q (S ||| 2 ^ j)) ∧ S.testBit j = false then t2 + piC m S else if (!vwin m W q S && vwin m W q (S ||| 2 ^ j)) then t2 + facN (pc8 S) * facN (m - 1 - pc8 S) else t2 : Nat) : Int)) (zfl k) (zfl t4) (n32 ((S + 1 : Nat) : Int)) ∨ S.testBit j = true := fun k => by
      by_cases e : S.testBit j = true
      · exact Or.inr e
      · left
        have e' : S.testBit j = false := by simpa using e
        have hlt := pc8_lt m (by omega) S hS j hj e'
        have hm1 : n32 (m : Int) - 1 - n32 (pc8 S : Int) = n32 ((m - 1 - pc8 S : Nat) : Int) := by
          rw [l32_1, n32_sub, n32_sub]; congr 1; omega
        unfold D_X9_power_J105 piC
        rw [r_win hv hS, zbs, shlL j (by omega), n32_or, nsuc]
        cases vwin m W q S
        · rw [zb0, r_win hv (or_ltp hS hj), zbs]
          cases vwin m W q (S ||| 2 ^ j)
          · rw [zb0]; rfl
          · rw [zb1, r_pc8 S (by omega), zbs, r_fac _ (by omega), zbs, zbs, hv.1.2.1, hm1, r_fac _ (by omega), zbs, n32_mul, n32_add, nsuc, e']
            rfl
        · rw [zb1]; rfl
    unfold tuF piF vturn
    by_cases e : S.testBit j = true
    · rw [if_pos e, zi1, e]
      cases t4
      · rw [zb0]
        cases t3 <;> rfl
      · rw [zb1, r_least hv hS, zbs]
        cases vleast m W q S
        · rw [zb0]
          cases t3 <;> rfl
        · rw [zb1]
          cases t3 <;> rfl
    · have e' : S.testBit j = false := by simpa using e
      have key2 := fun k => (key k).elim id (fun h => absurd h e)
      have key3 : ∀ k, D_X9_power_J105 (D_X9_power_L44 s (n32 (j : Int)) what f) s (n32 (j : Int)) what (n32 (t1 : Int)) (n32 (t2 : Int)) (zfl t4) (n32 (S : Int)) (zfl k) = D_X9_power_L44 s (n32 (j : Int)) what f (n32 ((if (!S.testBit j && (!vwin m W q S && vwin m W q (S ||| 2 ^ j))) then t1 + 1 else t1 : Nat) : Int)) (n32 ((if (!S.testBit j && (!vwin m W q S && vwin m W q (S ||| 2 ^ j))) then t2 + piC m S else t2 : Nat) : Int)) (zfl k) (zfl t4) (n32 ((S + 1 : Nat) : Int)) := fun k => by
        rw [key2, e', Bool.not_false, Bool.true_and]
        cases (!vwin m W q S && vwin m W q (S ||| 2 ^ j)) <;> rfl
      rw [if_neg e, zi0]
      have k0 : ∀ k, D_X9_power_J105 (D_X9_power_L44 s (n32 (j : Int)) what f) s (n32 (j : Int)) what (n32 (t1 : Int)) (n32 (t2 : Int)) (zfl t4) (n32 (S : Int)) (zfl k) = D_X9_power_L44 s (n32 (j : Int)) what f _ _ (zfl k) (zfl t4) (n32 ((S + 1 : Nat) : Int)) := key3
      have k00 : D_X9_power_J105 (D_X9_power_L44 s (n32 (j : Int)) what f) s (n32 (j : Int)) what (n32 (t1 : Int)) (n32 (t2 : Int)) (zfl t4) (n32 (S : Int)) 0 = _ := key3 false
      have k11 : D_X9_power_J105 (D_X9_power_L44 s (n32 (j : Int)) what f) s (n32 (j : Int)) what (n32 (t1 : Int)) (n32 (t2 : Int)) (zfl t4) (n32 (S : Int)) 1 = _ := key3 true
      have ht4 : (t4 && (!S.testBit j || !vleast m W q S)) = t4 := by rw [e']; cases t4 <;> rfl
      rw [ht4]
      cases t3
      · rw [zb0, k00]; rfl
      · rw [zb1, r_win hv hS, zbs]
        have ht3 : (true && (S.testBit j || !vwin m W q S)) = !vwin m W q S := by rw [e']; rfl
        rw [ht3, k00, k11]
        cases vwin m W q S
        · rw [zb0]; rfl
        · rw [zb1]; rfl
  · try dsimp only
    rw [D_X9_power_L44_s]
    unfold D_X9_power_B44
    rw [r_allv hv, zbs, zif_t (by rw [c32_lt (by omega) (by omega)]; omega)]
    obtain ⟨t1, t2, t3, t4⟩ := t
    try dsimp only
    (repeat' split) <;> first | rfl | (cases t3 <;> first | rfl | contradiction) | (cases t4 <;> first | rfl | contradiction)
end VQ
