/-! rows laid on the board -/
def hb (S i : Nat) : Nat := if S.testBit i then 1 else 0
theorem x8_has : ∀ S : Nat, S < 16 → ∀ i : Nat, i < 4 → D_X8_has (n32 (S : Int)) (n32 (i : Int)) = some (n32 (hb S i : Int)) := by decide +kernel
theorem hb_01 (S i : Nat) : hb S i = 0 ∨ hb S i = 1 := by unfold hb; split <;> omega
theorem j6_bits : ∀ S : Nat, S < 16 → D_J6_bitCount_0f7a4 (n32 (S : Int)) = some (n32 ((hb S 0 + hb S 1 + hb S 2 + hb S 3 : Nat) : Int)) := by decide +kernel
theorem shl1 : ∀ i : Nat, i < 5 → (1 : Int32) <<< (n32 (i : Int) &&& 31) = n32 ((2 ^ i : Nat) : Int) := by decide +kernel
theorem x7_all {s : zS} {n : Nat} (h : s.1 2 0 = n32 (n : Int)) (hn : n < 5) : D_X7_all s = some (n32 ((2 ^ n - 1 : Nat) : Int)) := by
  unfold D_X7_all
  rw [h, shl1 n hn, l32_1, n32_sub]
  have : 0 < 2 ^ n := Nat.pos_of_ne_zero (by intro q; have := Nat.pow_eq_zero.mp q; omega)
  congr 2; omega
theorem zlen9 {r : Nat} (hr : r < 20) : zlen (10 + r) = 6 := by
  unfold zlen; rw [zshp9 r hr]; rfl
theorem b_put {s : zS} {R C : Nat} {rs cs : Nat → Nat} {cell : Nat → Nat → Int} {v : Int} {r j : Nat} (h : bEnc s R C rs cs cell) (hr : r < R) (hj : j < C) : ∃ s', D_X0_putFactor s (n32 (r : Int)) (n32 (j : Int)) (n64 v) = some s' ∧ sAll s s' ∧ bEnc s' R C rs cs (xSwap cell r (xSwap (cell r) (2 + j) v)) := by
  have h1 := h.1
  have h2 := h.2.1
  unfold D_X0_putFactor
  rw [h.2.2.1, h.2.2.2.1, l32_0, zif_f (by rw [n32_lt (by omega) (by omega) (by omega) (by omega)]; omega), zif_f (by rw [c32_le (by omega) (by omega)]; omega), zif_f (by rw [n32_lt (by omega) (by omega) (by omega) (by omega)]; omega), zif_f (by rw [c32_le (by omega) (by omega)]; omega), zgd_t (czin (by omega) (by omega)), zT9 r (by omega), l32_2, n32_add, show (2 : Int) + (j : Int) = ((2 + j : Nat) : Int) by omega, zoL9 (by omega), zgd_t (czin (by omega) (by omega)), n32_xn (by omega)]
  refine ⟨_, rfl, sAll_of (r := r) (by omega) (sBut_w _ _ _ _), bEnc_I h rfl (fun r' hr' i hi => ?_)⟩
  rw [zwL_at]
  by_cases q : r' = r
  · subst q
    rw [xSwap_s]
    by_cases q2 : i = 2 + j
    · subst q2; rw [if_pos ⟨rfl, rfl⟩, xSwap_s]
    · rw [if_neg (fun q => q2 q.2), xSwap_n q2]; exact h.2.2.2.2.2.2.1 r' hr' i hi
  · rw [if_neg (fun q' => q (by have := q'.1; omega)), xSwap_n q]; exact h.2.2.2.2.2.2.1 r' hr' i hi
/-- a fresh row -/
def rNew (k : Int) : Nat → Int := fun i => if i = 0 then 1 else if i = 1 then k else 0
theorem b_add25 {R C : Nat} {rs cs : Nat → Nat} {cell : Nat → Nat → Int} {nm : Nat} {k : Int} (hR : R < 20) (hnm : nm < 16) : ∀ m n i s, i + m = 6 → m < n → bEnc s R C rs cs cell → (∀ p, p < i → s.2 (10 + R) p = 0) → ∃ s', D_X0_addRow_L25 (n32 (nm : Int)) (n64 k) (10 + R) n (n32 (i : Int)) s = some (n32 (R : Int), s') ∧ bFrm s s' ∧ bEnc s' (R + 1) C (xSwap rs R nm) cs (xSwap cell R (rNew k)) := by
  intro m
  induction m with
  | zero =>
    intro n i s hi hn h hz
    obtain ⟨n, rfl⟩ : ∃ j, n = j + 1 := ⟨n - 1, by omega⟩
    obtain rfl : i = 6 := by omega
    have x0 : (0 : Int32).toNatClampNeg = 0 := by decide
    have x1 : (1 : Int32).toNatClampNeg = 1 := by decide
    have a1 : zoL (10 + R) 1 = true := by rw [zoL9 hR]; decide
    obtain ⟨h1, h2, h3, h4, h5, h6, h7, h8, h9⟩ := h
    rw [D_X0_addRow_L25_s]
    unfold D_X0_addRow_B25
    rw [zgd_t (by rw [zshp9 R hR]; decide), zlen9 hR, zif_t (by decide), zgd_t (zoL9_0 hR), x0, x1]
    dsimp only
    rw [zgd_t a1]
    have e3 : (zwL (zwL s (10 + R) 0 1) (10 + R) 1 (n64 k)).1 8 3 = n32 (R : Int) := h3
    rw [e3, zgd_t (czin (by omega) (by omega)), n32_xn (by omega)]
    have e4 : ∀ x, (zwI (zwL (zwL s (10 + R) 0 1) (10 + R) 1 (n64 k)) 30 R x).1 8 3 = n32 (R : Int) := fun x => by
      rw [zwI_at, if_neg (fun q => by have := q.1; omega)]; exact h3
    rw [e4]
    have e5 : ∀ y : zS, (zwI y 8 3 (n32 (R : Int) + 1)).1 8 3 - 1 = n32 (R : Int) := fun y => by
      rw [zwI_at, if_pos ⟨rfl, rfl⟩, l32_1, n32_add, n32_sub]; congr 1; omega
    rw [e5]
    refine ⟨_, rfl, ?_, ?_⟩
    · refine ⟨fun c k' q1 q2 q3 => ?_, fun c k' q => ?_⟩
      · rw [zwI_at, if_neg (fun q => by have := q3 q.1; omega), zwI_at, if_neg (fun q => q1 q.1)]; rfl
      · show (zwL (zwL s (10 + R) 0 1) (10 + R) 1 (n64 k)).2 c k' = _
        rw [zwL_at, if_neg (fun q' => by have := q'.1; omega), zwL_at, if_neg (fun q' => by have := q'.1; omega)]
    · refine ⟨by omega, h2, ?_, ?_, fun r hr => ?_, fun j hj => ?_, fun r hr i hi => ?_, fun r hr => ?_, h9⟩
      · rw [zwI_at, if_pos ⟨rfl, rfl⟩, l32_1, n32_add]; rfl
      · rw [zwI_at, if_neg (fun q => by have := q.2; omega), zwI_at, if_neg (fun q => by have := q.1; omega)]; exact h4
      · rw [zwI_at, if_neg (fun q => by have := q.1; omega), zwI_at]
        by_cases q : r = R
        · rw [if_pos ⟨rfl, q⟩, q, xSwap_s]
        · rw [if_neg (fun q' => q q'.2), xSwap_n q]; exact h5 r (by omega)
      · rw [zwI_at, if_neg (fun q => by have := q.1; omega), zwI_at, if_neg (fun q => by have := q.1; omega)]; exact h6 j hj
      · show (zwL (zwL s (10 + R) 0 1) (10 + R) 1 (n64 k)).2 (10 + r) i = _
        rw [zwL_at, zwL_at]
        by_cases q : r = R
        · subst q
          rw [xSwap_s]
          unfold rNew
          by_cases q1 : i = 1
          · rw [if_pos ⟨rfl, q1⟩, if_neg (by omega), if_pos q1]
          · rw [if_neg (fun q' => q1 q'.2)]
            by_cases q0 : i = 0
            · rw [if_pos ⟨rfl, q0⟩, if_pos q0]; rfl
            · rw [if_neg (fun q' => q0 q'.2), if_neg q0, if_neg q1, hz i (by omega)]; rfl
        · rw [if_neg (fun q' => q (by have := q'.1; omega)), if_neg (fun q' => q (by have := q'.1; omega)), xSwap_n q]
          exact h7 r (by omega) i hi
      · by_cases q : r = R
        · rw [q, xSwap_s]; exact hnm
        · rw [xSwap_n q]; exact h8 r (by omega)
  | succ m ih =>
    intro n i s hi hn h hz
    obtain ⟨n, rfl⟩ : ∃ j, n = j + 1 := ⟨n - 1, by omega⟩
    have is : n32 (i : Int) + 1 = n32 ((i + 1 : Nat) : Int) := by rw [l32_1, n32_add]; rfl
    rw [D_X0_addRow_L25_s]
    unfold D_X0_addRow_B25
    rw [zgd_t (by rw [zshp9 R hR]; decide), zlen9 hR, zif_f (by rw [show Int32.ofNat 6 = n32 ((6 : Nat) : Int) from rfl, c32_le (by omega) (by omega)]; omega), zoL9 hR, zgd_t (czin (by omega) (by omega)), n32_xn (by omega), is]
    dsimp only
    obtain ⟨s', e1, e2, e3⟩ := ih n (i + 1) (zwL s (10 + R) i 0) (by omega) (by omega) (bEnc_I h rfl (fun r hr p hp => by
      rw [zwL_at, if_neg (fun q => by have := q.1; omega)]; exact h.2.2.2.2.2.2.1 r hr p hp)) (fun p hp => by
      rw [zwL_at]
      by_cases q : p = i
      · rw [if_pos ⟨rfl, q⟩]
      · rw [if_neg (fun q' => q q'.2)]; exact hz p (by omega))
    exact ⟨s', e1, bFrm_t (bFrm_a (sAll_of hR (sBut_w _ _ _ _))) e2, e3⟩
theorem b_addRow {s : zS} {R C : Nat} {rs cs : Nat → Nat} {cell : Nat → Nat → Int} {nm : Nat} {k : Int} (h : bEnc s R C rs cs cell) (hR : R < 20) (hnm : nm < 16) : ∃ s', D_X0_addRow s (n32 (nm : Int)) (n64 k) = some (n32 (R : Int), s') ∧ bFrm s s' ∧ bEnc s' (R + 1) C (xSwap rs R nm) cs (xSwap cell R (rNew k)) := by
  obtain ⟨s', e1, e2, e3⟩ := b_add25 (k := k) hR hnm 6 zFU 0 s (by omega) (zFU_lt (by omega)) h (fun p hp => by omega)
  refine ⟨s', ?_, e2, e3⟩
  unfold D_X0_addRow
  rw [h.2.2.1, zif_t (by rw [show (20 : Int32) = n32 ((20 : Nat) : Int) from rfl, c32_lt (by omega) (by omega)]; exact hR), zgd_t (czin (by omega) (by omega)), zT9 R hR]
  exact e1
