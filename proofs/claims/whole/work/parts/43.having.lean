/-! rows of the least pay -/
/-- the row of a set: S pays 1000 for each of it, less what its columns hold back, less v -/
def rHavK (k S : Nat) (v : Int) : Nat → Int := fun i => if i = 0 then 1 else if i = 1 then 1000 * ((hb S 0 + hb S 1 + hb S 2 + hb S 3 : Nat) : Int) - v else if i < 2 + k then -(hb S (i - 2) : Int) else 0
theorem b_hav25 {R n S : Nat} {rs cs : Nat → Nat} {v : Int} (hS : S < 16) (hn4 : n ≤ 4) : ∀ m f k s cell, k + m = n → m < f → bEnc s (R + 1) n rs cs cell → cell R = rHavK k S v → ∃ s', D_X3_addHaving_L25 (n32 (n : Int)) (n32 (S : Int)) (n32 (R : Int)) f (n32 (k : Int)) s = some s' ∧ sAll s s' ∧ bEnc s' (R + 1) n rs cs (xSwap cell R (rHavK n S v)) := by
  intro m
  induction m with
  | zero =>
    intro f k s cell hk hf h hc
    obtain ⟨f, rfl⟩ : ∃ j, f = j + 1 := ⟨f - 1, by omega⟩
    obtain rfl : k = n := by omega
    rw [D_X3_addHaving_L25_s]
    unfold D_X3_addHaving_B25
    rw [zif_t (Int32.le_refl _)]
    refine ⟨s, rfl, ⟨rfl, fun _ _ _ => rfl⟩, ?_⟩
    have : xSwap cell R (rHavK k S v) = cell := by
      funext r; unfold xSwap; split
      · next q => rw [q, hc]
      · rfl
    rw [this]; exact h
  | succ m ih =>
    intro f k s cell hk hf h hc
    obtain ⟨f, rfl⟩ : ∃ j, f = j + 1 := ⟨f - 1, by omega⟩
    have ks : n32 (k : Int) + 1 = n32 ((k + 1 : Nat) : Int) := by rw [l32_1, n32_add]; rfl
    rw [D_X3_addHaving_L25_s]
    unfold D_X3_addHaving_B25 D_X3_addHaving_J55
    rw [zif_f (by rw [c32_le (by omega) (by omega)]; omega), x8_has S hS k (by omega), zbs, ks]
    obtain ⟨s1, e1, f1, g1⟩ := b_put (v := -(hb S k : Int)) h (show R < R + 1 by omega) (show k < n by omega)
    have hrow : xSwap cell R (xSwap (cell R) (2 + k) (-(hb S k : Int))) R = rHavK (k + 1) S v := by
      rw [xSwap_s, hc]
      funext i
      by_cases q : i = 2 + k
      · subst q
        rw [xSwap_s]
        unfold rHavK
        rw [if_neg (by omega), if_neg (by omega), if_pos (by omega), show 2 + k - 2 = k by omega]
      · rw [xSwap_n q]
        unfold rHavK
        by_cases q1 : i < 2 + k
        · rw [if_pos q1, if_pos (show i < 2 + (k + 1) by omega)]
        · rw [if_neg q1, if_neg (show ¬ i < 2 + (k + 1) by omega)]
    obtain ⟨s2, e2, f2, g2⟩ := ih f (k + 1) s1 _ (by omega) (by omega) g1 hrow
    have hsw : xSwap (xSwap cell R (xSwap (cell R) (2 + k) (-(hb S k : Int)))) R (rHavK n S v) = xSwap cell R (rHavK n S v) := by
      funext r; unfold xSwap; split <;> rfl
    rw [hsw] at g2
    refine ⟨s2, ?_, sAll_t f1 f2, g2⟩
    rcases hb_01 S k with q | q
    · rw [q, zif_t (by decide)]
      have e1' : D_X0_putFactor s (n32 (R : Int)) (n32 (k : Int)) (0 : Int64) = some s1 := by rw [← e1, q]; rfl
      rw [e1', zbs]; exact e2
    · rw [q, zif_f (by decide)]
      have e1' : D_X0_putFactor s (n32 (R : Int)) (n32 (k : Int)) (-1 : Int64) = some s1 := by rw [← e1, q]; rfl
      rw [e1', zbs]; exact e2
theorem b_having {s : zS} {R n S nm : Nat} {rs cs : Nat → Nat} {cell : Nat → Nat → Int} {v : Int} (h : bEnc s R n rs cs cell) (hR : R < 20) (hS : S < 16) (hnm : nm < 16) (hv1 : -100000 ≤ v) (hv2 : v ≤ 100000) : ∃ s', D_X3_addHaving s (n32 (n : Int)) (n32 (nm : Int)) (n32 (S : Int)) (n32 v) = some s' ∧ bFrm s s' ∧ bEnc s' (R + 1) n (xSwap rs R nm) cs (xSwap cell R (rHavK n S v)) := by
  have hn4 := h.2.1
  have b0 := hb_01 S 0
  have b1 := hb_01 S 1
  have b2 := hb_01 S 2
  have b3 := hb_01 S 3
  obtain ⟨s1, e1, f1, g1⟩ := b_addRow (k := 1000 * ((hb S 0 + hb S 1 + hb S 2 + hb S 3 : Nat) : Int) - v) h hR hnm
  obtain ⟨s2, e2, f2, g2⟩ := b_hav25 (v := v) hS hn4 n zFU 0 s1 _ (by omega) (zFU_lt (by omega)) g1 (by
    rw [xSwap_s]
    funext i
    unfold rNew rHavK
    by_cases q0 : i = 0
    · rw [if_pos q0, if_pos q0]
    · rw [if_neg q0, if_neg q0]
      by_cases q1 : i = 1
      · rw [if_pos q1, if_pos q1]
      · rw [if_neg q1, if_neg q1, if_neg (show ¬ i < 2 + 0 by omega)])
  have hsw : xSwap (xSwap cell R (rNew (1000 * ((hb S 0 + hb S 1 + hb S 2 + hb S 3 : Nat) : Int) - v))) R (rHavK n S v) = xSwap cell R (rHavK n S v) := by
    funext r; unfold xSwap; split <;> rfl
  rw [hsw] at g2
  refine ⟨s2, ?_, bFrm_t f1 (bFrm_a f2), g2⟩
  unfold D_X3_addHaving
  rw [j6_bits S hS, zbs, show (1000 : Int32) = n32 1000 from rfl, n32_mul, n32_sub, n32_64 (by omega) (by omega), e1, zbs]
  exact e2
