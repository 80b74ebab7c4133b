/-! the board of the least pay -/
theorem xSwap_self {α : Type} {f : Nat → α} {i : Nat} {x : α} (h : f i = x) : xSwap f i x = f := by
  funext j; unfold xSwap; split
  · next q => rw [q, h]
  · rfl
theorem b_restart {s : zS} {n : Nat} (hn : n ≤ 4) (rs : Nat → Nat) (cell : Nat → Nat → Int) : ∃ s', D_X0_restart s (n32 (n : Int)) = some s' ∧ bFrm s s' ∧ bEnc s' 0 n rs (fun _ => 0) cell := by
  have hm : ∀ n : Nat, n ≤ 4 → zmin (n32 (n : Int)) (4 : Int32) = n32 (n : Int) := by decide +kernel
  have key : ∀ (m f i : Nat) (s : zS), i + m = 4 → m < f → s.1 8 3 = n32 ((0 : Nat) : Int) → s.1 8 4 = n32 (n : Int) → (∀ p : Nat, p < i → s.1 31 p = 0) → ∃ s', D_X0_restart_L16 f (n32 (i : Int)) s = some s' ∧ bFrm s s' ∧ bEnc s' 0 n rs (fun _ => 0) cell := by
    intro m
    induction m with
    | zero =>
      intro f i s hi hf h3 h4 hz
      obtain ⟨f, rfl⟩ : ∃ j, f = j + 1 := ⟨f - 1, by omega⟩
      obtain rfl : i = 4 := by omega
      rw [D_X0_restart_L16_s]
      unfold D_X0_restart_B16
      rw [zif_t (by decide)]
      exact ⟨s, rfl, bFrm_r s, by omega, hn, h3, h4, fun r hr => by omega, fun j hj => hz j (by omega), fun r hr => by omega, fun r hr => by omega, fun j hj => by show (0 : Nat) < 16; omega⟩
    | succ m ih =>
      intro f i s hi hf h3 h4 hz
      obtain ⟨f, rfl⟩ : ∃ j, f = j + 1 := ⟨f - 1, by omega⟩
      have is : n32 (i : Int) + 1 = n32 ((i + 1 : Nat) : Int) := by rw [l32_1, n32_add]; rfl
      rw [D_X0_restart_L16_s]
      unfold D_X0_restart_B16
      rw [zif_f (by rw [show (4 : Int32) = n32 ((4 : Nat) : Int) from rfl, c32_le (by omega) (by omega)]; omega), zgd_t (czin (by omega) (by omega)), n32_xn (by omega), is]
      dsimp only
      obtain ⟨s', e1, e2, e3⟩ := ih f (i + 1) (zwI s 31 i 0) (by omega) (by omega) (by rw [zwI_at, if_neg (fun q => by have := q.1; omega)]; exact h3) (by rw [zwI_at, if_neg (fun q => by have := q.1; omega)]; exact h4) (fun p hp => by
        rw [zwI_at]
        by_cases q : p = i
        · rw [if_pos ⟨rfl, q⟩]
        · rw [if_neg (fun q' => q q'.2)]; exact hz p (by omega))
      exact ⟨s', e1, bFrm_t (bFrm_31 _ _ _) e2, e3⟩
  unfold D_X0_restart
  rw [hm n hn]
  obtain ⟨s', e1, e2, e3⟩ := key 4 zFU 0 (zwI (zwI s 8 3 0) 8 4 (n32 (n : Int))) (by omega) (zFU_lt (by omega)) (by rw [zwI_at, if_neg (fun q => by have := q.2; omega), zwI_at, if_pos ⟨rfl, rfl⟩]; rfl) (by rw [zwI_at, if_pos ⟨rfl, rfl⟩]) (fun p hp => by omega)
  have f0 : bFrm s (zwI (zwI s 8 3 0) 8 4 (n32 (n : Int))) := ⟨fun c k a b d => by
    rw [zwI_at, if_neg (fun q => by have := d q.1; omega), zwI_at, if_neg (fun q => by have := d q.1; omega)], fun _ _ _ => rfl⟩
  exact ⟨s', e1, bFrm_t f0 e2, e3⟩
def lpR (n r : Nat) : Nat := if r ≤ n then 0 else r - n
def lpT (n : Nat) (v : Nat → Int) (r : Nat) : Nat → Int := if r < n then rHavK n (2 ^ r) 0 else if r = n then rHavK n (2 ^ n - 1) 0 else rHavK n (r - n) (v (r - n))
/-- worths as they lie -/
def wOk (s : zS) (n : Nat) (v : Nat → Int) : Prop := s.1 2 0 = n32 (n : Int) ∧ 1 ≤ n ∧ n ≤ 4 ∧ (∀ S, S < 16 → s.1 3 S = n32 (v S)) ∧ ∀ S, S < 16 → -1000 ≤ v S ∧ v S ≤ 1000
theorem wOk_f {s s' : zS} {n : Nat} {v : Nat → Int} (h : wOk s n v) (f : bFrm s s') : wOk s' n v := by
  obtain ⟨h1, h2, h3, h4, h5⟩ := h
  refine ⟨?_, h2, h3, fun S hS => ?_, h5⟩
  · rw [f.1 2 0 (by omega) (by omega) (fun q => by omega)]; exact h1
  · rw [f.1 3 S (by omega) (by omega) (fun q => by omega)]; exact h4 S hS
theorem pow_le4 {n : Nat} (h : n ≤ 4) : 2 ^ n ≤ 16 ∧ n < 2 ^ n := by
  have : n = 0 ∨ n = 1 ∨ n = 2 ∨ n = 3 ∨ n = 4 := by omega
  rcases this with rfl | rfl | rfl | rfl | rfl <;> decide
theorem layp49 {n : Nat} {v : Nat → Int} {cs : Nat → Nat} {fin : zS → Option zS} : ∀ m f k s, k + m = 2 ^ n → 1 ≤ k → m < f → wOk s n v → bEnc s (n + k) n (lpR n) cs (lpT n v) → ∃ s', bFrm s s' ∧ bEnc s' (n + 2 ^ n) n (lpR n) cs (lpT n v) ∧ D_X3_layLeastPay_L49 (n32 (n : Int)) f (n32 (k : Int)) s = (D_X0_enterAll s').bind fun p80 => (D_X0_drive p80 (n32 (n : Int)) (-1 : Int32)).bind fun p89 => some p89 := by
  intro m
  induction m with
  | zero =>
    intro f k s hk h1 hf hw h
    obtain ⟨f, rfl⟩ : ∃ j, f = j + 1 := ⟨f - 1, by omega⟩
    have hp := pow_le4 hw.2.2.1
    refine ⟨s, bFrm_r s, by rw [← hk]; exact h, ?_⟩
    rw [D_X3_layLeastPay_L49_s]
    unfold D_X3_layLeastPay_B49
    rw [x7_all hw.1 (by have := hw.2.2.1; omega), zbs, zif_t (by rw [c32_lt (by omega) (by omega)]; omega)]
  | succ m ih =>
    intro f k s hk h1 hf hw h
    obtain ⟨f, rfl⟩ : ∃ j, f = j + 1 := ⟨f - 1, by omega⟩
    have hp := pow_le4 hw.2.2.1
    have hn4 := hw.2.2.1
    have ks : n32 (k : Int) + 1 = n32 ((k + 1 : Nat) : Int) := by rw [l32_1, n32_add]; rfl
    have hb := hw.2.2.2.2 k (by omega)
    rw [D_X3_layLeastPay_L49_s]
    unfold D_X3_layLeastPay_B49
    rw [x7_all hw.1 (by omega), zbs, zif_f (by rw [c32_lt (by omega) (by omega)]; omega), zgd_t (czin (by omega) (by omega)), n32_xn (by omega), hw.2.2.2.1 k (by omega), ks]
    obtain ⟨s1, e1, f1, g1⟩ := b_having (S := k) (nm := k) (v := v k) h (by omega) (by omega) (by omega) (by omega) (by omega)
    rw [e1, zbs]
    rw [xSwap_self (show lpR n (n + k) = k by unfold lpR; rw [if_neg (by omega)]; omega), xSwap_self (show lpT n v (n + k) = rHavK n k (v k) by unfold lpT; rw [if_neg (by omega), if_neg (by omega), show n + k - n = k by omega])] at g1
    obtain ⟨s2, f2, g2, e2⟩ := ih f (k + 1) s1 (by omega) (by omega) (by omega) (wOk_f hw f1) g1
    exact ⟨s2, bFrm_t f1 f2, g2, e2⟩
theorem layp15 {n : Nat} {v : Nat → Int} {cs : Nat → Nat} : ∀ m f k s, k + m = n → m < f → wOk s n v → bEnc s k n (lpR n) cs (lpT n v) → ∃ s', bFrm s s' ∧ bEnc s' (n + 2 ^ n) n (lpR n) cs (lpT n v) ∧ D_X3_layLeastPay_L15 (n32 (n : Int)) f (n32 (k : Int)) s = (D_X0_enterAll s').bind fun p80 => (D_X0_drive p80 (n32 (n : Int)) (-1 : Int32)).bind fun p89 => some p89 := by
  intro m
  induction m with
  | zero =>
    intro f k s hk hf hw h
    obtain ⟨f, rfl⟩ : ∃ j, f = j + 1 := ⟨f - 1, by omega⟩
    obtain rfl : k = n := by omega
    have hp := pow_le4 hw.2.2.1
    have hn4 := hw.2.2.1
    rw [D_X3_layLeastPay_L15_s]
    unfold D_X3_layLeastPay_B15
    rw [zif_t (Int32.le_refl _), x7_all hw.1 (by omega), zbs]
    obtain ⟨s1, e1, f1, g1⟩ := b_having (S := 2 ^ k - 1) (nm := 0) (v := 0) h (by omega) (by omega) (by omega) (by omega) (by omega)
    rw [show (0 : Int32) = n32 ((0 : Nat) : Int) from rfl]
    have e1' : D_X3_addHaving s (n32 (k : Int)) (n32 ((0 : Nat) : Int)) (n32 ((2 ^ k - 1 : Nat) : Int)) (n32 ((0 : Nat) : Int)) = some s1 := e1
    rw [e1', zbs]
    rw [xSwap_self (show lpR k k = 0 by unfold lpR; rw [if_pos (by omega)]), xSwap_self (show lpT k v k = rHavK k (2 ^ k - 1) 0 by unfold lpT; rw [if_neg (by omega), if_pos rfl])] at g1
    obtain ⟨s2, f2, g2, e2⟩ := layp49 (v := v) (fin := some) (2 ^ k - 1) zFU 1 s1 (by omega) (by omega) (zFU_lt (by omega)) (wOk_f hw f1) g1
    exact ⟨s2, bFrm_t f1 f2, g2, e2⟩
  | succ m ih =>
    intro f k s hk hf hw h
    obtain ⟨f, rfl⟩ : ∃ j, f = j + 1 := ⟨f - 1, by omega⟩
    have hn4 := hw.2.2.1
    have hk8 : 2 ^ k < 16 := Nat.lt_of_lt_of_le (Nat.pow_lt_pow_right (by omega) (show k < 4 by omega)) (by decide)
    have ks : n32 (k : Int) + 1 = n32 ((k + 1 : Nat) : Int) := by rw [l32_1, n32_add]; rfl
    rw [D_X3_layLeastPay_L15_s]
    unfold D_X3_layLeastPay_B15
    rw [zif_f (by rw [c32_le (by omega) (by omega)]; omega), shl1 k (by omega), ks]
    obtain ⟨s1, e1, f1, g1⟩ := b_having (S := 2 ^ k) (nm := 0) (v := 0) h (by omega) hk8 (by omega) (by omega) (by omega)
    have e1' : D_X3_addHaving s (n32 (n : Int)) (0 : Int32) (n32 ((2 ^ k : Nat) : Int)) (0 : Int32) = some s1 := e1
    rw [e1', zbs]
    rw [xSwap_self (show lpR n k = 0 by unfold lpR; rw [if_pos (by omega)]), xSwap_self (show lpT n v k = rHavK n (2 ^ k) 0 by unfold lpT; rw [if_pos (by omega)])] at g1
    obtain ⟨s2, f2, g2, e2⟩ := ih f (k + 1) s1 (by omega) (by omega) (wOk_f hw f1) g1
    exact ⟨s2, bFrm_t f1 f2, g2, e2⟩
