/-! the reference's calm share: the loop -/
section CL
variable {n m : Nat} {g : Nat → Nat} {v : Nat → Int} {xc : Nat → Rat} {T : Int}
def q15 (m : Nat) : Int := if m ≤ 1 then 1 else if m = 2 then 15 else if m = 3 then 225 else 3375
theorem calm_xb (hn : n ≤ 4) (hv : ∀ S, S < 16 → -1000 ≤ v S ∧ v S ≤ 1000) (hok : calmOk n v xc) : ∀ S, S < 2 ^ n → -4000 ≤ xS xc S ∧ xS xc S ≤ 4000 := by
  have hp := pow_le4 hn
  obtain ⟨hN, -, -, hok4⟩ := hok
  have hvr : ∀ S, S < 16 → (-1000 : Rat) ≤ (v S : Rat) ∧ (v S : Rat) ≤ 1000 := fun S hS => by
    have := hv S hS
    exact ⟨show ((-1000 : Int) : Rat) ≤ _ from Rat.intCast_le_intCast.mpr this.1, show _ ≤ ((1000 : Int) : Rat) from Rat.intCast_le_intCast.mpr this.2⟩
  have hlo : ∀ S, cNm n S → -3000 ≤ xS xc S := fun S hS => by
    have h1 := hok4 S hS
    have h2 := hvr S (by have := hS.2; omega)
    grind
  intro S hS
  have hNv := hvr (2 ^ n - 1) (by omega)
  by_cases e0 : S = 0
  · have hz : xS xc S = 0 := by
      rw [e0]
      have h0 : ∀ i, i < 4 → hb 0 i = 0 := by decide +kernel
      unfold xS
      rw [h0 0 (by omega), h0 1 (by omega), h0 2 (by omega), h0 3 (by omega)]
      have c0 : (((0 : Nat) : Int) : Rat) = 0 := rfl
      simp only [c0]; grind
    rw [hz]; exact ⟨by decide, by decide⟩
  · by_cases eN : S = 2 ^ n - 1
    · rw [eN, hN]; constructor <;> grind
    · have h1 := hlo S ⟨by omega, by omega⟩
      have h2 := hlo (2 ^ n - 1 - S) ⟨by omega, by omega⟩
      rw [xS_compl (by omega) hS, hN] at h2
      constructor <;> grind
theorem begin_shares {s : zS} (hu : uOk s n v) (hN : xS xc (2 ^ n - 1) = (v (2 ^ n - 1) : Rat)) : ∃ s', D_X9_beginShares s = some s' ∧ uFrm s s' ∧ csP s' n 1 (gS 0 (fun _ => 0) (2 ^ n - 1)) v xc 1 := by
  obtain ⟨u1, u2, u3, u4, u5⟩ := id hu
  have hp := pow_le4 u3
  unfold D_X9_beginShares
  dsimp only
  have f0 : uFrm s (zwI s 66 23 0) := ⟨fun c k h _ _ _ _ => by rw [zwI_at, if_neg (fun q => (h q.1).1 q.2)], fun _ _ _ _ _ _ _ _ => rfl⟩
  have hu0 := uOk_f hu f0
  have hx0 : fxE (zwI s 66 23 0) n 0 (fun _ => 0) := ⟨hu0.1, by rw [zwI_at, if_pos ⟨rfl, rfl⟩]; rfl, fun e he => by omega⟩
  have hv := u5 (2 ^ n - 1) (by omega)
  rw [x9_all hu0.1 (by omega), zbs, zbs, zgd_t (czin (by omega) (by omega)), n32_xn (by omega), hu0.2.2.2.1 (2 ^ n - 1) (by omega), n32_64 (by omega) (by omega), l64_1]
  obtain ⟨s1, e1, f1, x1, k1, k2, -, k4, k5⟩ := fx_fix (ta := v (2 ^ n - 1)) (tb := 1) (S := 2 ^ n - 1) (show 0 ≤ 4 by omega) (by omega) hx0
  rw [e1, zbs]
  have hgS : gS 0 (fun _ => 0) (2 ^ n - 1) 0 = 2 ^ n - 1 := by unfold gS; rw [if_neg (by omega)]
  refine ⟨s1, rfl, uFrm_t f0 f1, uOk_f hu0 f1, x1, fun e he => ?_, fun e he => ?_, ?_, ⟨0, by omega, hgS⟩, by omega⟩
  · obtain rfl : e = 0 := by omega
    dsimp only
    rw [hgS, hN]
    refine ⟨_, _, k1, k2, by omega, by omega, by grind, v (2 ^ n - 1), by grind, by omega, by omega⟩
  · obtain rfl : e = 0 := by omega
    rw [hgS]; omega
  · intro c hc r hr
    obtain rfl : r = 0 := by omega
    have h1 := hc 0 (by omega)
    rw [zsum, zsum] at h1
    dsimp only at h1
    rw [hgS] at h1
    have h2 : ∀ n, n < 5 → 1 ≤ n → hb (2 ^ n - 1) 0 = 1 := by decide +kernel
    rw [h2 n (by omega) u2] at h1
    have c1 : (((1 : Nat) : Int) : Rat) = 1 := rfl
    rw [c1] at h1
    grind
theorem calm_loop {side : Nat} (hn : n ≤ 4) (hs : side < n) (hv : ∀ S, S < 16 → -1000 ≤ v S ∧ v S ≤ 1000) (hok : calmOk n v xc) : ∀ d fu m g T s, n ≤ m + d → d < fu → 1 ≤ T → T ≤ q15 m → csP s n m g v xc T →
    ∃ s', D_X9_calm_L15 (n32 (side : Int)) fu s = some (1, zwL (zwL s' 66 3 (n64 (xc side).num)) 66 4 (n64 ((xc side).den : Int))) ∧ uFrm s s' := by
  have hp := pow_le4 hn
  have hend : ∀ fu m g T s, m = n → 1 ≤ T → T ≤ q15 m → csP s n m g v xc T → ∃ s', D_X9_calm_L15 (n32 (side : Int)) (fu + 1) s = some (1, zwL (zwL s' 66 3 (n64 (xc side).num)) 66 4 (n64 ((xc side).den : Int))) ∧ uFrm s s' := fun fu m g T s hm h1 h2 hcs => by
    subst hm
    obtain ⟨s', e', f'⟩ := cm_end (side := side) (by omega) hn ⟨h1, Int.le_trans h2 (by unfold q15; (repeat' split) <;> omega)⟩ hs (hok.2.1 side hs) hcs
    refine ⟨s', ?_, f'⟩
    rw [D_X9_calm_L15_s]
    unfold D_X9_calm_B15
    rw [hcs.2.1.1, hcs.2.1.2.1, zif_t (Int32.le_refl _)]
    exact e'
  intro d
  induction d with
  | zero =>
    intro fu m g T s hm hf h1 h2 hcs
    obtain ⟨fu, rfl⟩ : ∃ t, fu = t + 1 := ⟨fu - 1, by omega⟩
    have := linI_le hcs.2.2.2.2.1
    exact hend fu m g T s (by omega) h1 h2 hcs
  | succ d ih =>
    intro fu m g T s hm hf h1 h2 hcs
    obtain ⟨fu, rfl⟩ : ∃ t, fu = t + 1 := ⟨fu - 1, by omega⟩
    have hmn := linI_le hcs.2.2.2.2.1
    by_cases e : m = n
    · exact hend fu m g T s e h1 h2 hcs
    · obtain ⟨hu, hx, htf, hg, hgi, hN, hm1⟩ := id hcs
      have hT : 1 ≤ T ∧ T ≤ 225 := ⟨h1, Int.le_trans h2 (by unfold q15; (repeat' split) <;> omega)⟩
      rw [D_X9_calm_L15_s]
      have hif : ∀ X Y : Option (Int32 × zS), (if (s.1 66 0) ≤ (s.1 66 23) then X else Y) = Y := fun X Y => by rw [hx.1, hx.2.1]; exact zif_f (by rw [c32_le (by omega) (by omega)]; omega)
      unfold D_X9_calm_B15
      rw [hif]
      obtain ⟨s1, c, e1, f1, u1, x1, t1, hst, -, -⟩ := lay_strain (t := fun e => xS xc (g e)) (by omega) hn hm1 (by omega) hg hgi hN (hok.2.2.1 (gP m g) hN) (fun _ _ => rfl) ⟨hT.1, by omega⟩ hu hx htf
      rw [e1, zbs]
      obtain ⟨⟨c33, c34⟩, ⟨cn, cd⟩, ⟨D, z', ⟨D0, D1, D2⟩, hDz⟩, B, bp, B1, B4, h32, h85, hbp⟩ := hst
      rw [c33, c34]
      obtain ⟨k, hk1, hk15, z, hkz⟩ : ∃ k : Int, 1 ≤ k ∧ k ≤ 15 ∧ ∃ z : Int, ((k * T : Int) : Rat) * c = (z : Rat) := by
        rcases Int.lt_or_lt_of_ne D0 with q | q
        · refine ⟨-D, by omega, by omega, -z', ?_⟩
          push_cast
          rw [← hDz]; push_cast; grind
        · exact ⟨D, by omega, by omega, z', hDz⟩
      have hkT : T ≤ k * T := by
        have := Int.mul_le_mul_of_nonneg_right hk1 (show (0 : Int) ≤ T by omega)
        omega
      have hkT2 : k * T ≤ 15 * T := Int.mul_le_mul_of_nonneg_right hk15 (by omega)
      have hcd := com_bd (x := c) (A := (z.natAbs : Int)) (B := k * T) (show k * T ≠ 0 by omega) hkz (by omega) (by omega)
      have hfr0 : ∀ i, i < B → bp i < 2 ^ n ∧ (v (bp i) : Rat) - xS xc (bp i) = c := fun i hi => by
        have := hbp i hi
        exact ⟨by have := this.1.1.2; omega, this.2⟩
      have hcs1 : csP s1 n m g v xc (k * T) := ⟨u1, x1, tfE_up hk1 h1 t1, hg, hgi, hN, hm1⟩
      obtain ⟨s2, m2, g2, e2, f2, cs2, -, hm2⟩ := cm44 (xc := xc) (c := c) (B := B) (bp := bp) (T := k * T) (rec15 := D_X9_calm_L15 (n32 (side : Int)) fu) (a1 := n32 (side : Int)) hn ⟨by omega, by omega⟩ ⟨⟨by omega, by omega⟩, hcd.2.2, z, hkz⟩ (calm_xb hn hv hok) hfr0 B4 B zFU 0 s1 m g (by omega) (zFU_lt (by omega)) hcs1 h32 h85
      have hlt := hm2 (by omega) (hbp 0 (by omega)).1.2
      have hmn2 := linI_le cs2.2.2.2.2.1
      have e2' : D_X9_calm_L44 (D_X9_calm_L15 (n32 (side : Int)) fu) (n32 (side : Int)) (n64 c.num) (n64 (c.den : Int)) zFU (0 : Int32) s1 = D_X9_calm_L15 (n32 (side : Int)) fu s2 := e2
      rw [e2']
      obtain ⟨s3, e3, f3⟩ := ih fu m2 g2 (k * T) s2 (by omega) (by omega) (by omega) (Int.le_trans hkT2 (by
        revert h2
        unfold q15
        (repeat' split) <;> omega)) cs2
      exact ⟨s3, e3, uFrm_t f1 (uFrm_t f2 f3)⟩
end CL
