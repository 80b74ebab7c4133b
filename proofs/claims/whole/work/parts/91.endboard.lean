/-! the ends: the class's side -/
section ED
variable {n : Nat} {v : Nat → Int}
theorem least_end2 {s : zS} (hw : wOk s n v) :
    ∃ s' rs cs cell idr, D_X3_layLeastPay s = some s' ∧ bFrm s s' ∧ bD s' (fun _ : Nat → Rat => True) (n + 2 ^ n) n (lpX n) 1 1000 (lpRoom n v) (lpNm n) lpVec (fun S => (v S : Rat)) (lpM n) (fun j => if j < n then -1000 else 0) rs idr rs cs cell ∧ rs n = 0 ∧ (idr n = fun w => xS w (2 ^ n - 1)) ∧ (∀ j, j < n → 0 ≤ cell n (2 + j)) ∧ ∀ r, r < n → rs r = 0 ∧ idr r = fun w => w r := by
  obtain ⟨w1, w2, w3, w4, w5⟩ := id hw
  have hp := pow_le4 w3
  obtain ⟨s1, e1, f1, g1⟩ := b_restart w3 (lpR n) (lpT n v) (s := s)
  obtain ⟨s2, f2, g2, e2⟩ := layp15 (v := v) n zFU 0 s1 (by omega) (zFU_lt (by omega)) (wOk_f hw f1) g1
  have hw2 := wOk_f (wOk_f hw f1) f2
  obtain ⟨s3, rs3, cs3, cell3, idr3, e3, f3, D3, P3, z3, -⟩ := b_enterAll (Nm := lpNm n) (lp_start hw2 g2) lp_names2 (lp_rest hw2) lp_vecs lp_present (fun S hS => by have := hS.1; omega) (fun c hc w0 w1 _ _ hall => by
    have h := hall (2 ^ c) ⟨Nat.pos_of_ne_zero (by intro q; have := Nat.pow_eq_zero.mp q; omega), Nat.pow_lt_pow_right (by omega) hc⟩
    rw [lpRoom_t ⟨Nat.pos_of_ne_zero (by intro q; have := Nat.pow_eq_zero.mp q; omega), Nat.pow_lt_pow_right (by omega) hc⟩, lpRoom_t ⟨Nat.pos_of_ne_zero (by intro q; have := Nat.pow_eq_zero.mp q; omega), Nat.pow_lt_pow_right (by omega) hc⟩, xS_single w3 hc, xS_single w3 hc] at h
    grind)
  have zn := z3 n (by unfold lpR; rw [if_pos (by omega)])
  obtain ⟨s4, rs4, cs4, cell4, e4, f4, D4, B4⟩ := b_drive (r0 := n) (sg := -1) D3 (by omega) zn.1 (Or.inr rfl)
  have hlay : D_X3_layLeastPay s = some s4 := by
    unfold D_X3_layLeastPay
    rw [w1, e1, zbs]
    have e2' : D_X3_layLeastPay_L15 (n32 (n : Int)) zFU (0 : Int32) s1 = (D_X0_enterAll s2).bind fun p80 => (D_X0_drive p80 (n32 (n : Int)) (-1 : Int32)).bind fun p89 => some p89 := e2
    rw [e2', e3, zbs]
    have e4' : D_X0_drive s3 (n32 (n : Int)) (-1 : Int32) = some s4 := e4
    rw [e4', zbs]
  obtain ⟨idr, idc, vr, kr, M, kM, hI, hN, hF, hc, hZ, hV, hP⟩ := id D4
  have hid : idr n = fun w => xS w (2 ^ n - 1) := by
    rw [(hZ n).2 zn.1, zn.2]
    funext w
    show xS w (lpS n n) - (lpv n v n : Rat) = _
    unfold lpS lpv
    rw [if_neg (by omega), if_pos rfl, if_pos (by omega), Rat.intCast_zero, Rat.sub_eq_add_neg, Rat.neg_zero, Rat.add_zero]
  have hrs : rs4 n = 0 := (hZ n).1.mpr zn.1
  refine ⟨s4, rs4, cs4, cell4, idr, hlay, bFrm_t f1 (bFrm_t f2 (bFrm_t f3 f4)), ⟨idr, idc, vr, kr, M, kM, hI, hN, hF, hc, fun r => ⟨Iff.rfl, fun _ => rfl⟩, hV, hP⟩, hrs, hid, ?_, fun r hr => ?_⟩
  · rcases B4 with b | ⟨c, hc1, hc2, hno⟩
    · intro j hj
      have := b j hj
      omega
    · exfalso
      obtain ⟨w0, w1', -, -, hall, hray⟩ := ray_ex hI.2.1 hN hP (fun S hS => by have := hS.1; omega) hc1 hno
      have hN' := hall (2 ^ n - 1) ⟨by omega, by omega⟩
      rw [lpRoom_t ⟨by omega, by omega⟩, lpRoom_t ⟨by omega, by omega⟩] at hN'
      have hr := hray n (by omega)
      rw [hid] at hr
      have p0 := rat_pos (hI.2.1.1 n (by omega))
      have hneg : (cell4 n (2 + c) : Rat) < 0 := Rat.intCast_neg_iff.mpr (by omega)
      have hle : (cell4 n 0 : Rat) * xS w0 (2 ^ n - 1) ≤ (cell4 n 0 : Rat) * xS w1' (2 ^ n - 1) := Rat.mul_le_mul_of_nonneg_left (by grind) (Rat.le_of_lt p0)
      dsimp only at hr
      grind
  · have zr := z3 r (by unfold lpR; rw [if_pos (by omega)])
    refine ⟨(hZ r).1.mpr zr.1, ?_⟩
    rw [(hZ r).2 zr.1, zr.2]
    funext w
    show xS w (lpS n r) - (lpv n v r : Rat) = _
    unfold lpS lpv
    rw [if_pos hr, if_pos (by omega), xS_single w3 hr, Rat.intCast_zero, Rat.sub_eq_add_neg, Rat.neg_zero, Rat.add_zero]
/-- a point of the core -/
def coreP (n : Nat) (v : Nat → Int) (x : Nat → Rat) : Prop := (∀ S, lpNm n S → (v S : Rat) ≤ xS x S) ∧ xS x (2 ^ n - 1) = (v (2 ^ n - 1) : Rat)
/-- the sets that bind at it tell all of it -/
def vtxP (n : Nat) (v : Nat → Int) (x : Nat → Rat) : Prop := ∀ z : Nat → Rat, (∀ S, lpNm n S → xS x S = (v S : Rat) → xS z S = 0) → ∀ i, i < n → z i = 0
end ED
