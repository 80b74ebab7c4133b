/-! the board of whole shares -/
/-- the row of a set: its share of the whole by the last side's, with the first k factors, less a number -/
def rWhK (k n S : Nat) (vN a : Int) : Nat → Int := fun i => if i = 0 then 1 else if i = 1 then (hb S (n - 1) : Int) * vN - a else if i < 2 + k then (hb S (i - 2) : Int) - (hb S (n - 1) : Int) else 0
theorem hb_cases {α : Type} {S i : Nat} {x y : Option α} (h : (hb S i = 0 → x = y) ∧ (hb S i = 1 → x = y)) : x = y := (hb_01 S i).elim h.1 h.2
theorem b_wh51 {R n S : Nat} {rs cs : Nat → Nat} {vN a : Int} (hS : S < 16) (hn1 : 1 ≤ n) (hn4 : n ≤ 4) : ∀ m f k s cell, k + m = n - 1 → m < f → bEnc s (R + 1) (n - 1) rs cs cell → cell R = rWhK k n S vN a → ∃ s', D_X3_addWholeHaving_L51 (n32 (S : Int)) (n32 ((n - 1 : Nat) : Int)) (n32 (R : Int)) f (n32 (k : Int)) s = some s' ∧ sAll s s' ∧ bEnc s' (R + 1) (n - 1) rs cs (xSwap cell R (rWhK (n - 1) n S vN a)) := by
  intro m
  induction m with
  | zero =>
    intro f k s cell hk hf h hc
    obtain ⟨f, rfl⟩ : ∃ j, f = j + 1 := ⟨f - 1, by omega⟩
    obtain rfl : k = n - 1 := by omega
    rw [D_X3_addWholeHaving_L51_s]
    unfold D_X3_addWholeHaving_B51
    rw [zif_t (Int32.le_refl _)]
    refine ⟨s, rfl, ⟨rfl, fun _ _ _ => rfl⟩, ?_⟩
    rw [xSwap_self hc]; exact h
  | succ m ih =>
    intro f k s cell hk hf h hc
    obtain ⟨f, rfl⟩ : ∃ j, f = j + 1 := ⟨f - 1, by omega⟩
    rw [D_X3_addWholeHaving_L51_s]
    unfold D_X3_addWholeHaving_B51 D_X3_addWholeHaving_J72 D_X3_addWholeHaving_J88
    rw [zif_f (by rw [c32_le (by omega) (by omega)]; omega), x8_has S hS k (by omega), x8_has S hS (n - 1) (by omega), nsuc]
    obtain ⟨s1, e1, f1, g1⟩ := b_put (v := (hb S k : Int) - (hb S (n - 1) : Int)) h (show R < R + 1 by omega) (show k < n - 1 by omega)
    have hrow : xSwap cell R (xSwap (cell R) (2 + k) ((hb S k : Int) - (hb S (n - 1) : Int))) R = rWhK (k + 1) n S vN a := by
      rw [xSwap_s, hc]
      funext i
      by_cases q : i = 2 + k
      · subst q
        rw [xSwap_s]
        unfold rWhK
        rw [if_neg (by omega), if_neg (by omega), if_pos (by omega), show 2 + k - 2 = k by omega]
      · rw [xSwap_n q]
        unfold rWhK
        by_cases q1 : i < 2 + k
        · rw [if_pos q1, if_pos (show i < 2 + (k + 1) by omega)]
        · rw [if_neg q1, if_neg (show ¬ i < 2 + (k + 1) by omega)]
    obtain ⟨s2, e2, f2, g2⟩ := ih f (k + 1) s1 _ (by omega) (by omega) g1 hrow
    have hsw : xSwap (xSwap cell R (xSwap (cell R) (2 + k) ((hb S k : Int) - (hb S (n - 1) : Int)))) R (rWhK (n - 1) n S vN a) = xSwap cell R (rWhK (n - 1) n S vN a) := by
      funext r; unfold xSwap; split <;> rfl
    rw [hsw] at g2
    refine ⟨s2, ?_, sAll_t f1 f2, g2⟩
    have key : ∀ x y : Int32, x = n32 (hb S k : Int) → y = n32 (hb S (n - 1) : Int) → (x - y).toInt64 = n64 ((hb S k : Int) - (hb S (n - 1) : Int)) := fun x y hx hy => by
      have a1 := hb_01 S k
      have a2 := hb_01 S (n - 1)
      rw [hx, hy, n32_sub, n32_64 (by omega) (by omega)]
    rcases hb_01 S k with q | q <;> rcases hb_01 S (n - 1) with q' | q'
    · rw [q, q', zbs, zif_t (by decide), zbs, zif_t (by decide), key 0 0 (by rw [q]; rfl) (by rw [q']; rfl), e1, zbs]; exact e2
    · rw [q, q', zbs, zif_t (by decide), zbs, zif_f (by decide), key 0 1 (by rw [q]; rfl) (by rw [q']; rfl), e1, zbs]; exact e2
    · rw [q, q', zbs, zif_f (by decide), zbs, zif_t (by decide), key 1 0 (by rw [q]; rfl) (by rw [q']; rfl), e1, zbs]; exact e2
    · rw [q, q', zbs, zif_f (by decide), zbs, zif_f (by decide), key 1 1 (by rw [q]; rfl) (by rw [q']; rfl), e1, zbs]; exact e2
theorem b_whole {s : zS} {R n S nm : Nat} {v : Nat → Int} {rs cs : Nat → Nat} {cell : Nat → Nat → Int} {a : Int} (hw : wOk s n v) (h : bEnc s R (n - 1) rs cs cell) (hR : R < 20) (hS : S < 16) (hnm : nm < 16) (ha1 : -2000000 ≤ a) (ha2 : a ≤ 2000000) : ∃ s', D_X3_addWholeHaving s (n32 (nm : Int)) (n32 (S : Int)) (n32 a) = some s' ∧ bFrm s s' ∧ bEnc s' (R + 1) (n - 1) (xSwap rs R nm) cs (xSwap cell R (rWhK (n - 1) n S (v (2 ^ n - 1)) a)) := by
  obtain ⟨w1, w2, w3, w4, w5⟩ := id hw
  have hp := pow_le4 w3
  have hvN := w5 (2 ^ n - 1) (by omega)
  have h01 := hb_01 S (n - 1)
  have hvb : -1000 ≤ (hb S (n - 1) : Int) * v (2 ^ n - 1) ∧ (hb S (n - 1) : Int) * v (2 ^ n - 1) ≤ 1000 := by
    rcases h01 with q | q <;> rw [q] <;> simp <;> omega
  obtain ⟨s1, e1, f1, g1⟩ := b_addRow (k := (hb S (n - 1) : Int) * v (2 ^ n - 1) - a) h hR hnm
  obtain ⟨s2, e2, f2, g2⟩ := b_wh51 (vN := v (2 ^ n - 1)) (a := a) hS w2 w3 (n - 1) zFU 0 s1 _ (by omega) (zFU_lt (by omega)) g1 (by
    rw [xSwap_s]
    funext i
    unfold rNew rWhK
    by_cases q0 : i = 0
    · rw [if_pos q0, if_pos q0]
    · rw [if_neg q0, if_neg q0]
      by_cases q1 : i = 1
      · rw [if_pos q1, if_pos q1]
      · rw [if_neg q1, if_neg q1, if_neg (show ¬ i < 2 + 0 by omega)])
  have hsw : xSwap (xSwap cell R (rNew ((hb S (n - 1) : Int) * v (2 ^ n - 1) - a))) R (rWhK (n - 1) n S (v (2 ^ n - 1)) a) = xSwap cell R (rWhK (n - 1) n S (v (2 ^ n - 1)) a) := by
    funext r; unfold xSwap; split <;> rfl
  rw [hsw] at g2
  refine ⟨s2, ?_, bFrm_t f1 (bFrm_a f2), g2⟩
  have hn1 : n32 (n : Int) - (1 : Int32) = n32 ((n - 1 : Nat) : Int) := by
    rw [l32_1, n32_sub]
    congr 1
    omega
  have hJ : ∀ x : Int32, x = n32 ((hb S (n - 1) : Int) * v (2 ^ n - 1)) → D_X3_addWholeHaving_J30 s (n32 (nm : Int)) (n32 (S : Int)) (n32 a) (n32 ((n - 1 : Nat) : Int)) x = some s2 := fun x hx => by
    unfold D_X3_addWholeHaving_J30
    rw [hx, n32_sub, n32_64 (by omega) (by omega), e1, zbs]
    exact e2
  unfold D_X3_addWholeHaving
  rw [w1, hn1, x8_has S hS (n - 1) (by omega), zbs]
  rcases h01 with q | q
  · rw [q, zif_t (by decide)]
    exact hJ 0 (by rw [q]; simp; rfl)
  · rw [q, zif_f (by decide), x7_all w1 (by omega), zbs, zgd_t (czin (by omega) (by omega)), n32_xn (by omega), w4 (2 ^ n - 1) (by omega)]
    exact hJ _ (by rw [q]; simp)
def whR (n r : Nat) : Nat := if r < n then 0 else r - n + 1
def whT (n : Nat) (v : Nat → Int) (b : Int) (r : Nat) : Nat → Int := if r < n then rWhK (n - 1) n (2 ^ r) (v (2 ^ n - 1)) 0 else rWhK (n - 1) n (r - n + 1) (v (2 ^ n - 1)) (v (r - n + 1) - b)
theorem lw50 {n : Nat} {v : Nat → Int} {b : Int} {cs : Nat → Nat} (hb1 : -1000000 ≤ b) (hb2 : b ≤ 1000000) : ∀ m f k s, k + m = 2 ^ n - 1 → 1 ≤ k → m < f → wOk s n v → bEnc s (n + k - 1) (n - 1) (whR n) cs (whT n v b) → ∃ s', D_X3_layWhole_L50 (n32 b) f (n32 (k : Int)) s = some (n32 b, s') ∧ bFrm s s' ∧ bEnc s' (n + 2 ^ n - 2) (n - 1) (whR n) cs (whT n v b) := by
  intro m
  induction m with
  | zero =>
    intro f k s hk h1 hf hw h
    obtain ⟨f, rfl⟩ : ∃ j, f = j + 1 := ⟨f - 1, by omega⟩
    have hp := pow_le4 hw.2.2.1
    have hn1 := hw.2.1
    obtain rfl : k = 2 ^ n - 1 := by omega
    refine ⟨s, ?_, bFrm_r s, by rw [show n + 2 ^ n - 2 = n + (2 ^ n - 1) - 1 by omega]; exact h⟩
    rw [D_X3_layWhole_L50_s]
    unfold D_X3_layWhole_B50
    rw [x7_all hw.1 (by have := hw.2.2.1; omega), zbs, zif_t (Int32.le_refl _)]
  | succ m ih =>
    intro f k s hk h1 hf hw h
    obtain ⟨f, rfl⟩ : ∃ j, f = j + 1 := ⟨f - 1, by omega⟩
    have hp := pow_le4 hw.2.2.1
    have hn4 := hw.2.2.1
    have hn1 := hw.2.1
    have hv := hw.2.2.2.2 k (by omega)
    rw [D_X3_layWhole_L50_s]
    unfold D_X3_layWhole_B50
    rw [x7_all hw.1 (by omega), zbs, zif_f (by rw [c32_le (by omega) (by omega)]; omega), zgd_t (czin (by omega) (by omega)), n32_xn (by omega), hw.2.2.2.1 k (by omega), n32_sub, nsuc]
    have hRb : n + k - 1 < 20 := by
      have hc : n = 1 ∨ n = 2 ∨ n = 3 ∨ n = 4 := by omega
      rcases hc with rfl | rfl | rfl | rfl <;> simp at hk <;> omega
    obtain ⟨s1, e1, f1, g1⟩ := b_whole (S := k) (nm := k) (a := v k - b) hw h hRb (by omega) (by omega) (by omega) (by omega)
    rw [e1, zbs]
    rw [xSwap_self (show whR n (n + k - 1) = k by unfold whR; rw [if_neg (by omega)]; omega), xSwap_self (show whT n v b (n + k - 1) = rWhK (n - 1) n k (v (2 ^ n - 1)) (v k - b) by unfold whT; rw [if_neg (by omega), show n + k - 1 - n + 1 = k by omega])] at g1
    obtain ⟨s2, e2, f2, g2⟩ := ih f (k + 1) s1 (by omega) (by omega) (by omega) (wOk_f hw f1) (by rw [show n + (k + 1) - 1 = n + k - 1 + 1 by omega]; exact g1)
    exact ⟨s2, e2, bFrm_t f1 f2, g2⟩
theorem lw24 {n : Nat} {v : Nat → Int} {b : Int} {cs : Nat → Nat} (hb1 : -1000000 ≤ b) (hb2 : b ≤ 1000000) : ∀ m f k s, k + m = n → m < f → wOk s n v → bEnc s k (n - 1) (whR n) cs (whT n v b) → ∃ s', D_X3_layWhole_L24 (n32 (n : Int)) (n32 b) f (n32 (k : Int)) s = some (n32 b, s') ∧ bFrm s s' ∧ bEnc s' (n + 2 ^ n - 2) (n - 1) (whR n) cs (whT n v b) := by
  intro m
  induction m with
  | zero =>
    intro f k s hk hf hw h
    obtain ⟨f, rfl⟩ : ∃ j, f = j + 1 := ⟨f - 1, by omega⟩
    obtain rfl : k = n := by omega
    have hp := pow_le4 hw.2.2.1
    rw [D_X3_layWhole_L24_s]
    unfold D_X3_layWhole_B24
    rw [zif_t (Int32.le_refl _)]
    exact lw50 hb1 hb2 (2 ^ k - 2) zFU 1 s (by have := hw.2.1; omega) (by omega) (zFU_lt (by omega)) hw (by rw [show k + 1 - 1 = k by omega]; exact h)
  | succ m ih =>
    intro f k s hk hf hw h
    obtain ⟨f, rfl⟩ : ∃ j, f = j + 1 := ⟨f - 1, by omega⟩
    have hn4 := hw.2.2.1
    have hk8 : 2 ^ k < 16 := Nat.lt_of_lt_of_le (Nat.pow_lt_pow_right (by omega) (show k < 4 by omega)) (by decide)
    rw [D_X3_layWhole_L24_s]
    unfold D_X3_layWhole_B24
    rw [zif_f (by rw [c32_le (by omega) (by omega)]; omega), shl1 k (by omega), nsuc]
    obtain ⟨s1, e1, f1, g1⟩ := b_whole (S := 2 ^ k) (nm := 0) (a := 0) hw h (by omega) hk8 (by omega) (by omega) (by omega)
    have e1' : D_X3_addWholeHaving s (0 : Int32) (n32 ((2 ^ k : Nat) : Int)) (0 : Int32) = some s1 := e1
    rw [e1', zbs]
    rw [xSwap_self (show whR n k = 0 by unfold whR; rw [if_pos (by omega)]), xSwap_self (show whT n v b k = rWhK (n - 1) n (2 ^ k) (v (2 ^ n - 1)) 0 by unfold whT; rw [if_pos (by omega)])] at g1
    obtain ⟨s2, e2, f2, g2⟩ := ih f (k + 1) s1 (by omega) (by omega) (wOk_f hw f1) g1
    exact ⟨s2, e2, bFrm_t f1 f2, g2⟩
/-- the greatest complaint where the last side has all -/
def gcP (n : Nat) (v : Nat → Int) (k : Nat) (b : Int) : Prop := (∀ S, 1 ≤ S → S < k → v S - (hb S (n - 1) : Int) * v (2 ^ n - 1) ≤ b) ∧ ((b = -1000000 ∧ k = 1) ∨ ∃ S, 1 ≤ S ∧ S < k ∧ b = v S - (hb S (n - 1) : Int) * v (2 ^ n - 1))
theorem gc5 {s : zS} {n : Nat} {v : Nat → Int} (hw : wOk s n v) : ∀ m f k (b : Int), k + m = 2 ^ n - 1 → 1 ≤ k → m < f → gcP n v k b → ∃ b', D_X3_greatestComplaintByLast_L5 s f (n32 b) (n32 (k : Int)) = some (n32 b') ∧ gcP n v (2 ^ n - 1) b' := by
  obtain ⟨w1, w2, w3, w4, w5⟩ := id hw
  have hp := pow_le4 w3
  intro m
  induction m with
  | zero =>
    intro f k b hk h1 hf h
    obtain ⟨f, rfl⟩ : ∃ j, f = j + 1 := ⟨f - 1, by omega⟩
    obtain rfl : k = 2 ^ n - 1 := by omega
    refine ⟨b, ?_, h⟩
    rw [D_X3_greatestComplaintByLast_L5_s]
    unfold D_X3_greatestComplaintByLast_B5
    rw [x7_all w1 (by omega), zbs, zif_t (Int32.le_refl _)]
  | succ m ih =>
    intro f k b hk h1 hf h
    obtain ⟨f, rfl⟩ : ∃ j, f = j + 1 := ⟨f - 1, by omega⟩
    have hv := w5 k (by omega)
    have hvN := w5 (2 ^ n - 1) (by omega)
    have h01 := hb_01 k (n - 1)
    have hn1 : n32 (n : Int) - (1 : Int32) = n32 ((n - 1 : Nat) : Int) := by
      rw [l32_1, n32_sub]
      congr 1
      omega
    have hbb : -1000000 ≤ b ∧ b ≤ 2000 := by
      rcases h.2 with q | ⟨S, q1, q2, q3⟩
      · omega
      · have := w5 S (by omega)
        rcases hb_01 S (n - 1) with e | e <;> rw [e] at q3 <;> simp at q3 <;> omega
    have hx : -2000 ≤ v k - (hb k (n - 1) : Int) * v (2 ^ n - 1) ∧ v k - (hb k (n - 1) : Int) * v (2 ^ n - 1) ≤ 2000 := by
      rcases h01 with q | q <;> rw [q] <;> simp <;> omega
    have hmx : zmax (n32 b) (n32 (v k - (hb k (n - 1) : Int) * v (2 ^ n - 1))) = n32 (max b (v k - (hb k (n - 1) : Int) * v (2 ^ n - 1))) := by
      unfold zmax
      have hl := n32_lt (a := b) (b := v k - (hb k (n - 1) : Int) * v (2 ^ n - 1)) (by omega) (by omega) (by omega) (by omega)
      by_cases e : b < v k - (hb k (n - 1) : Int) * v (2 ^ n - 1)
      · rw [if_pos (hl.mpr e)]; congr 1; omega
      · rw [if_neg (fun h => e (hl.mp h))]; congr 1; omega
    have hJ : ∀ x : Int32, x = n32 ((hb k (n - 1) : Int) * v (2 ^ n - 1)) → ∃ b', D_X3_greatestComplaintByLast_J39 (D_X3_greatestComplaintByLast_L5 s f) s (n32 b) (n32 (k : Int)) x = some (n32 b') ∧ gcP n v (2 ^ n - 1) b' := fun x hx2 => by
      unfold D_X3_greatestComplaintByLast_J39
      rw [zgd_t (czin (by omega) (by omega)), n32_xn (by omega), w4 k (by omega), hx2, n32_sub, hmx, nsuc]
      refine ih f (k + 1) _ (by omega) (by omega) (by omega) ⟨fun S s1 s2 => ?_, Or.inr ?_⟩
      · by_cases e : S = k
        · rw [e]; omega
        · have := h.1 S s1 (by omega); omega
      · by_cases e : b ≤ v k - (hb k (n - 1) : Int) * v (2 ^ n - 1)
        · exact ⟨k, h1, by omega, by omega⟩
        · rcases h.2 with q | ⟨S, q1, q2, q3⟩
          · omega
          · exact ⟨S, q1, by omega, by omega⟩
    rw [D_X3_greatestComplaintByLast_L5_s]
    unfold D_X3_greatestComplaintByLast_B5
    rw [x7_all w1 (by omega), zbs, zif_f (by rw [c32_le (by omega) (by omega)]; omega), w1, hn1, x8_has k (by omega) (n - 1) (by omega), zbs]
    rcases h01 with q | q
    · rw [q, zif_t (by decide)]
      exact hJ 0 (by rw [q]; simp; rfl)
    · rw [q, zif_f (by decide), zbs, zgd_t (czin (by omega) (by omega)), n32_xn (by omega), w4 (2 ^ n - 1) (by omega)]
      exact hJ _ (by rw [q]; simp)
/-- the board of whole shares is laid -/
theorem lay_whole {s : zS} {n : Nat} {v : Nat → Int} (hw : wOk s n v) : ∃ (b : Int) (s' : zS), D_X3_layWhole s = some (n32 b, s') ∧ bFrm s s' ∧ bEnc s' (n + 2 ^ n - 2) (n - 1) (whR n) (fun _ => 0) (whT n v b) ∧ gcP n v (2 ^ n - 1) b := by
  obtain ⟨w1, w2, w3, w4, w5⟩ := id hw
  have hp := pow_le4 w3
  obtain ⟨b, e1, g⟩ := gc5 hw (2 ^ n - 2) zFU 1 (-1000000) (by omega) (by omega) (zFU_lt (by omega)) ⟨fun S h1 h2 => by omega, Or.inl ⟨rfl, rfl⟩⟩
  have hbb : -1000000 ≤ b ∧ b ≤ 2000 := by
    rcases g.2 with q | ⟨S, q1, q2, q3⟩
    · omega
    · have h1 := w5 S (by omega)
      have h2 := w5 (2 ^ n - 1) (by omega)
      rcases hb_01 S (n - 1) with e | e <;> rw [e] at q3 <;> simp at q3 <;> omega
  have hn1 : n32 (n : Int) - (1 : Int32) = n32 ((n - 1 : Nat) : Int) := by
    rw [l32_1, n32_sub]
    congr 1
    omega
  obtain ⟨s1, e2, f1, g1⟩ := b_restart (s := s) (show n - 1 ≤ 4 by omega) (whR n) (whT n v b)
  obtain ⟨s2, e3, f2, g2⟩ := lw24 hbb.1 (by omega) n zFU 0 s1 (by omega) (zFU_lt (by omega)) (wOk_f hw f1) g1
  refine ⟨b, s2, ?_, bFrm_t f1 f2, g2, g⟩
  unfold D_X3_layWhole D_X3_greatestComplaintByLast
  have e1' : D_X3_greatestComplaintByLast_L5 s zFU (-1000000 : Int32) (1 : Int32) = some (n32 b) := e1
  rw [e1', zbs, w1, hn1, e2, zbs]
  exact e3
