/-! linear algebra of few vectors -/
/-- no combination of the first k of them is 0 in the first d places -/
def linI (k d : Nat) (a : Nat → Nat → Rat) : Prop := ∀ c : Nat → Rat, (∀ j, j < d → zsum k (fun r => c r * a r j) = 0) → ∀ r, r < k → c r = 0
theorem zsum_swap {k d : Nat} {f : Nat → Nat → Rat} : zsum k (fun r => zsum d (fun j => f r j)) = zsum d (fun j => zsum k (fun r => f r j)) := by
  induction k with
  | zero => simp only [zsum]; exact (zsum_zero d (fun j _ => rfl)).symm
  | succ k ih => simp only [zsum]; rw [ih, ← zsum_add]
theorem zsum_mulr {f : Nat → Rat} {c : Rat} (n : Nat) : zsum n (fun j => f j * c) = zsum n f * c := by
  rw [zsum_congr n (fun j _ => Rat.mul_comm (f j) c), zsum_mul, Rat.mul_comm]
/-- independent vectors take any values on some z -/
theorem lin_V {d : Nat} : ∀ (k : Nat) (a : Nat → Nat → Rat) (b : Nat → Rat), linI k d a → ∃ z : Nat → Rat, ∀ r, r < k → zsum d (fun j => a r j * z j) = b r
  | 0, a, b, h => ⟨fun _ => 0, fun r hr => by omega⟩
  | k + 1, a, b, h => by
    have hnz : ∃ j, j < d ∧ a k j ≠ 0 := by
      by_cases e : ∃ j, j < d ∧ a k j ≠ 0
      · exact e
      · exfalso
        have := h (fun r => if r = k then 1 else 0) (fun j hj => by
          refine zsum_zero (k + 1) (fun r hr => ?_)
          by_cases e1 : r = k
          · rw [if_pos e1, e1]
            have : a k j = 0 := Classical.byContradiction fun q => e ⟨j, hj, q⟩
            rw [this]; grind
          · rw [if_neg e1]; grind) k (by omega)
        rw [if_pos rfl] at this
        exact absurd this (by decide)
    obtain ⟨j0, hj0, hne⟩ := hnz
    have hdiv : ∀ x : Rat, x / a k j0 * a k j0 = x := fun x => Rat.div_mul_cancel hne
    obtain ⟨z, hz⟩ := lin_V k (fun r j => a r j - a r j0 / a k j0 * a k j) (fun r => b r - a r j0 / a k j0 * b k) (fun c hc r hr => by
      have := h (fun r => if r = k then -zsum k (fun r => c r * (a r j0 / a k j0)) else c r) (fun j hj => by
        have e1 := hc j hj
        rw [zsum, if_pos rfl]
        have e2 : zsum k (fun r => (if r = k then -zsum k (fun r => c r * (a r j0 / a k j0)) else c r) * a r j) = zsum k (fun r => c r * a r j) := zsum_congr k (fun r hr => by rw [if_neg (by omega)])
        have e3 : zsum k (fun r => c r * (a r j - a r j0 / a k j0 * a k j)) = zsum k (fun r => c r * a r j) - zsum k (fun r => c r * (a r j0 / a k j0)) * a k j := by
          rw [← zsum_mulr, ← zsum_sub]
          exact zsum_congr k (fun r hr => by grind)
        rw [e2]
        grind) r (by omega)
      rwa [if_neg (by omega)] at this)
    refine ⟨fun j => if j = j0 then z j0 + (b k - zsum d (fun j => a k j * z j)) / a k j0 else z j, fun r hr => ?_⟩
    have hup : ∀ r, zsum d (fun j => a r j * if j = j0 then z j0 + (b k - zsum d (fun j => a k j * z j)) / a k j0 else z j) = zsum d (fun j => a r j * z j) + a r j0 * ((b k - zsum d (fun j => a k j * z j)) / a k j0) := fun r => by
      have e1 : zsum d (fun j => a r j * if j = j0 then z j0 + (b k - zsum d (fun j => a k j * z j)) / a k j0 else z j) = zsum d (fun j => a r j * z j + if j = j0 then a r j0 * ((b k - zsum d (fun j => a k j * z j)) / a k j0) else 0) := zsum_congr d (fun j hj => by
        by_cases e : j = j0
        · rw [if_pos e, if_pos e, e]; grind
        · rw [if_neg e, if_neg e]; grind)
      rw [e1, zsum_add]
      congr 1
      rw [zsum_single (c := j0) hj0 (fun j hj e => if_neg e), if_pos rfl]
    rw [hup]
    by_cases e : r = k
    · subst e
      have := hdiv (b r - zsum d (fun j => a r j * z j))
      grind
    · have h1 := hz r (by omega)
      have e3 : zsum d (fun j => (a r j - a r j0 / a k j0 * a k j) * z j) = zsum d (fun j => a r j * z j) - a r j0 / a k j0 * zsum d (fun j => a k j * z j) := by
        rw [← zsum_mul, ← zsum_sub]
        exact zsum_congr d (fun j hj => by grind)
      rw [e3] at h1
      have h2 := hdiv (b k - zsum d (fun j => a k j * z j))
      have h3 := hdiv (a r j0)
      generalize zsum d (fun j => a k j * z j) = t at *
      have h4 : a r j0 * ((b k - t) / a k j0) = a r j0 / a k j0 * (b k - t) := by rw [Rat.div_def, Rat.div_def]; grind
      rw [h4]
      grind
/-- fewer vectors than places: something but 0 is 0 on all -/
theorem lin_U : ∀ (d k : Nat) (a : Nat → Nat → Rat), k < d → ∃ z : Nat → Rat, (∃ j, j < d ∧ z j ≠ 0) ∧ (∀ j, d ≤ j → z j = 0) ∧ ∀ r, r < k → zsum d (fun j => a r j * z j) = 0
  | 0, k, a, h => by omega
  | d + 1, k, a, h => by
    by_cases hz : ∀ r, r < k → a r d = 0
    · refine ⟨fun j => if j = d then 1 else 0, ⟨d, by omega, by dsimp only; rw [if_pos rfl]; decide⟩, fun j hj => if_neg (by omega), fun r hr => zsum_zero (d + 1) (fun j hj => ?_)⟩
      dsimp only
      by_cases e : j = d
      · rw [e, hz r hr]; grind
      · rw [if_neg e]; grind
    · obtain ⟨p, hp, hpa⟩ : ∃ p, p < k ∧ a p d ≠ 0 := by
        refine Classical.byContradiction fun q => hz fun r hr => Classical.byContradiction fun q2 => q ⟨r, hr, q2⟩
      obtain ⟨z, ⟨j1, j2, j3⟩, z2, z3⟩ := lin_U d (k - 1) (fun r j => a (if r < p then r else r + 1) j - a (if r < p then r else r + 1) d / a p d * a p j) (by omega)
      have hdiv : ∀ x : Rat, x / a p d * a p d = x := fun x => Rat.div_mul_cancel hpa
      refine ⟨fun j => if j = d then -(zsum d (fun j => a p j * z j)) / a p d else z j, ⟨j1, by omega, by dsimp only; rw [if_neg (by omega)]; exact j3⟩, fun j hj => by dsimp only; rw [if_neg (by omega)]; exact z2 j (by omega), fun r hr => ?_⟩
      dsimp only
      have e0 : zsum d (fun j => a r j * if j = d then -(zsum d (fun j => a p j * z j)) / a p d else z j) = zsum d (fun j => a r j * z j) := zsum_congr d (fun j hj => by rw [if_neg (by omega)])
      rw [zsum, if_pos rfl, e0]
      by_cases e : r = p
      · subst e
        have := hdiv (-(zsum d (fun j => a r j * z j)))
        grind
      · have key : zsum d (fun j => (a r j - a r d / a p d * a p j) * z j) = 0 := by
          by_cases e2 : r < p
          · have := z3 r (by omega)
            rw [if_pos e2] at this
            exact this
          · have := z3 (r - 1) (by omega)
            rw [if_neg (by omega), show r - 1 + 1 = r by omega] at this
            exact this
        have e3 : zsum d (fun j => (a r j - a r d / a p d * a p j) * z j) = zsum d (fun j => a r j * z j) - a r d / a p d * zsum d (fun j => a p j * z j) := by
          rw [← zsum_mul, ← zsum_sub]
          exact zsum_congr d (fun j hj => by grind)
        rw [e3] at key
        have h3 := hdiv (a r d)
        generalize zsum d (fun j => a p j * z j) = t at *
        have h4 : a r d * (-t / a p d) = a r d / a p d * -t := by rw [Rat.div_def, Rat.div_def]; grind
        rw [h4]
        grind
