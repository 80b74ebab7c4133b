/-! names, rest and vectors of the least pay's board at its start -/
theorem bits_pos : ∀ S : Nat, S < 16 → S ≠ 0 → 1 ≤ hb S 0 + hb S 1 + hb S 2 + hb S 3 := by decide +kernel
theorem lpR_pos {n r : Nat} (h : lpR n r ≠ 0) : n < r ∧ lpR n r = r - n := by
  unfold lpR at *
  by_cases q : r ≤ n
  · rw [if_pos q] at h; exact absurd rfl h
  · rw [if_neg q]; exact ⟨by omega, rfl⟩
theorem lp_names {n : Nat} {v : Nat → Int} : bN (fun _ : Nat → Rat => True) (fun S w => xS w S - (v S : Rat)) (n + 2 ^ n) n (lpR n) (fun _ => 0) (fun r w => xS w (lpS n r) - (lpv n v r : Rat)) (fun j w => 1000 - w j) := by
  refine ⟨fun w _ r hr hn => ?_, fun w _ j hj hn => absurd rfl hn, fun j j' _ _ hn _ => absurd rfl hn, fun r r' hr hr' hn e => ?_, fun r j hr hj hn e => hn e⟩
  · obtain ⟨h1, h2⟩ := lpR_pos hn
    have e1 : lpS n r = lpR n r := by unfold lpS; rw [if_neg (by omega), if_neg (by omega), h2]
    have e2 : lpv n v r = v (lpR n r) := by unfold lpv; rw [if_neg (by omega), h2]
    show xS w (lpS n r) - (lpv n v r : Rat) = _
    rw [e1, e2]
  · obtain ⟨h1, h2⟩ := lpR_pos hn
    obtain ⟨h3, h4⟩ := lpR_pos (n := n) (r := r') (by rw [← e]; exact hn)
    omega
theorem lp_rest {s : zS} {n : Nat} {v : Nat → Int} (hw : wOk s n v) : bF (n + 2 ^ n) (lpR n) (lpT n v) := by
  intro r hr hn
  obtain ⟨w1, w2, w3, w4, w5⟩ := hw
  have hp := pow_le4 w3
  obtain ⟨h1, h2⟩ := lpR_pos hn
  have e : lpT n v r 1 = 1000 * ((hb (r - n) 0 + hb (r - n) 1 + hb (r - n) 2 + hb (r - n) 3 : Nat) : Int) - v (r - n) := by
    unfold lpT; rw [if_neg (by omega), if_neg (by omega)]; rfl
  have b := bits_pos (r - n) (by omega) (by omega)
  have := w5 (r - n) (by omega)
  rw [e]; omega
theorem lp_vecs {n : Nat} {v : Nat → Int} : bV (n + 2 ^ n) n lpVec (fun S => (v S : Rat)) (lpM n) (fun j => if j < n then -1000 else 0) (lpR n) (fun _ => 0) (fun r => lpVec (lpS n r)) (fun r => (lpv n v r : Rat)) (lpM n) (fun j => if j < n then -1000 else 0) := by
  refine ⟨fun r hr hn => ?_, fun j hj hn => absurd rfl hn, fun j hj => ⟨rfl, rfl⟩⟩
  obtain ⟨h1, h2⟩ := lpR_pos hn
  have e1 : lpS n r = lpR n r := by unfold lpS; rw [if_neg (by omega), if_neg (by omega), h2]
  have e2 : lpv n v r = v (lpR n r) := by unfold lpv; rw [if_neg (by omega), h2]
  exact ⟨by show lpVec (lpS n r) = _; rw [e1], by show (lpv n v r : Rat) = (v (lpR n r) : Rat); rw [e2]⟩
