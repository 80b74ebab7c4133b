/-! rows that can change no more are released; the column that draws in -/
theorem n32_pos {a : Nat} (h : a < 2147483648) : (n32 (a : Int) ≤ 0) ↔ a = 0 := by
  rw [l32_0, n32_le (by omega) (by omega) (by omega) (by omega)]
  omega
def relR (C : Nat) (cell : Nat → Nat → Int) (rs : Nat → Nat) (r : Nat) : Nat := if ∀ j, j < C → cell r (2 + j) = 0 then 0 else rs r
theorem rl14 {s : zS} {R C r : Nat} {rs cs : Nat → Nat} {cell : Nat → Nat → Int} {B K : Int} {rec2 : Int32 → zS → Option zS} (h : bEnc s R C rs cs cell) (hs : bSml R C cell B K) (hr : r < R) :
    ∀ m f j, j + m = C → m < f →
    ((∀ i, i < j → cell r (2 + i) = 0) → D_X0_releaseFlatRows_L14 rec2 s (n32 (r : Int)) f 1 (n32 (j : Int)) = rec2 (n32 ((r + 1 : Nat) : Int)) (if ∀ i, i < C → cell r (2 + i) = 0 then zwI s 30 r 0 else s)) ∧
    ((¬ ∀ i, i < C → cell r (2 + i) = 0) → D_X0_releaseFlatRows_L14 rec2 s (n32 (r : Int)) f 0 (n32 (j : Int)) = rec2 (n32 ((r + 1 : Nat) : Int)) s) := by
  have hR := h.1
  have hC := h.2.1
  have hB := B_small hs.1 hs.2.2.1
  intro m
  induction m with
  | zero =>
    intro f j hj hf
    obtain ⟨f, rfl⟩ : ∃ t, f = t + 1 := ⟨f - 1, by omega⟩
    obtain rfl : j = C := by omega
    refine ⟨fun hz => ?_, fun hz => ?_⟩
    · rw [D_X0_releaseFlatRows_L14_s]
      unfold D_X0_releaseFlatRows_B14
      rw [h.2.2.2.1, zif_t (Int32.le_refl _), zif_f (by decide), zgd_t (czin (by omega) (by omega)), n32_xn (by omega), nsuc, if_pos hz]
    · rw [D_X0_releaseFlatRows_L14_s]
      unfold D_X0_releaseFlatRows_B14
      rw [h.2.2.2.1, zif_t (Int32.le_refl _), zif_t rfl, nsuc]
  | succ m ih =>
    intro f j hj hf
    obtain ⟨f, rfl⟩ : ∃ t, f = t + 1 := ⟨f - 1, by omega⟩
    have hbd := (hs.2.2.2.2 r hr).2.2 j (by omega)
    refine ⟨fun hz => ?_, fun hz => ?_⟩
    · rw [D_X0_releaseFlatRows_L14_s]
      unfold D_X0_releaseFlatRows_B14 D_X0_releaseFlatRows_J41
      rw [h.2.2.2.1, zif_f (by rw [c32_le (by omega) (by omega)]; omega), zif_f (by decide), b_factor h hr (by omega), zbs, l64_0, nsuc]
      by_cases e : cell r (2 + j) = 0
      · rw [zif_t (by rw [lgc_eq (by omega) (by omega) (by omega) (by omega)]; exact e)]
        exact (ih f (j + 1) (by omega) (by omega)).1 (fun i hi => by
          by_cases e2 : i = j
          · rw [e2]; exact e
          · exact hz i (by omega))
      · rw [zif_f (by rw [lgc_eq (by omega) (by omega) (by omega) (by omega)]; exact e)]
        have hn : ¬ ∀ i, i < C → cell r (2 + i) = 0 := fun q => e (q j (by omega))
        rw [if_neg hn]
        exact (ih f (j + 1) (by omega) (by omega)).2 hn
    · rw [D_X0_releaseFlatRows_L14_s]
      unfold D_X0_releaseFlatRows_B14 D_X0_releaseFlatRows_J41
      rw [h.2.2.2.1, zif_f (by rw [c32_le (by omega) (by omega)]; omega), zif_t rfl, nsuc]
      exact (ih f (j + 1) (by omega) (by omega)).2 hz
theorem rl2 {R C : Nat} {rs cs : Nat → Nat} {cell : Nat → Nat → Int} {B K : Int} (hs : bSml R C cell B K) : ∀ m f k s, k + m = R → m < f → bEnc s R C (fun r => if r < k then relR C cell rs r else rs r) cs cell →
    ∃ s', D_X0_releaseFlatRows_L2 f (n32 (k : Int)) s = some s' ∧ bFrm s s' ∧ bEnc s' R C (relR C cell rs) cs cell := by
  intro m
  induction m with
  | zero =>
    intro f k s hk hf h
    obtain ⟨f, rfl⟩ : ∃ t, f = t + 1 := ⟨f - 1, by omega⟩
    obtain rfl : k = R := by omega
    refine ⟨s, ?_, bFrm_r s, bEnc_ext h (fun r hr => by rw [if_pos hr]) (fun _ _ => rfl) (fun _ _ _ _ => rfl)⟩
    rw [D_X0_releaseFlatRows_L2_s]
    unfold D_X0_releaseFlatRows_B2
    rw [h.2.2.1, zif_t (Int32.le_refl _)]
  | succ m ih =>
    intro f k s hk hf h
    obtain ⟨f, rfl⟩ : ∃ t, f = t + 1 := ⟨f - 1, by omega⟩
    have hR := h.1
    rw [D_X0_releaseFlatRows_L2_s]
    unfold D_X0_releaseFlatRows_B2
    rw [h.2.2.1, zif_f (by rw [c32_le (by omega) (by omega)]; omega)]
    have e := (rl14 (rec2 := D_X0_releaseFlatRows_L2 f) h hs (show k < R by omega) C zFU 0 (by omega) (zFU_lt (by have := h.2.1; omega))).1 (fun i hi => by omega)
    have e' : D_X0_releaseFlatRows_L14 (D_X0_releaseFlatRows_L2 f) s (n32 (k : Int)) zFU (1 : Int32) (0 : Int32) = D_X0_releaseFlatRows_L2 f (n32 ((k + 1 : Nat) : Int)) (if ∀ i, i < C → cell k (2 + i) = 0 then zwI s 30 k 0 else s) := e
    rw [e']
    by_cases hz : ∀ i, i < C → cell k (2 + i) = 0
    · rw [if_pos hz]
      obtain ⟨s2, e2, f2, g2⟩ := ih f (k + 1) (zwI s 30 k 0) (by omega) (by omega) (bEnc_ext (bEnc_rs (x := 0) (r := k) h (by omega)) (fun r hr => by
        by_cases q : r = k
        · subst q
          rw [xSwap_s, if_pos (by omega)]
          unfold relR
          rw [if_pos hz]
        · rw [xSwap_n q]
          (repeat' split) <;> first | rfl | (exfalso; omega)) (fun _ _ => rfl) (fun _ _ _ _ => rfl))
      exact ⟨s2, e2, bFrm_t (bFrm_30 _ _ _) f2, g2⟩
    · rw [if_neg hz]
      exact ih f (k + 1) s (by omega) (by omega) (bEnc_ext h (fun r hr => by
        by_cases q : r = k
        · subst q
          rw [if_neg (by omega), if_pos (by omega)]
          unfold relR
          rw [if_neg hz]
        · (repeat' split) <;> first | rfl | (exfalso; omega)) (fun _ _ => rfl) (fun _ _ _ _ => rfl))
theorem b_release {s : zS} {R C : Nat} {rs cs : Nat → Nat} {cell : Nat → Nat → Int} {B K : Int} (h : bEnc s R C rs cs cell) (hs : bSml R C cell B K) : ∃ s', D_X0_releaseFlatRows s = some s' ∧ bFrm s s' ∧ bEnc s' R C (relR C cell rs) cs cell :=
  rl2 hs R zFU 0 s (by omega) (zFU_lt (by have := h.1; omega)) (bEnc_ext h (fun r hr => by rw [if_neg (by omega)]) (fun _ _ => rfl) (fun _ _ _ _ => rfl))
/-- sums of whole numbers -/
def isum : Nat → (Nat → Int) → Int
  | 0, _ => 0
  | n + 1, f => isum n f + f n
theorem isum_rat {f : Nat → Int} : ∀ n, ((isum n f : Int) : Rat) = zsum n (fun j => (f j : Rat))
  | 0 => rfl
  | n + 1 => by rw [isum, zsum, Rat.intCast_add, isum_rat n]
/-- the new column's factor of a row -/
def drF (C : Nat) (rs : Nat → Nat) (cell : Nat → Nat → Int) (r : Nat) : Int := (if rs r = 0 then 0 else -cell r 0) + isum C (fun j => cell r (2 + j))
def drC (C : Nat) (rs : Nat → Nat) (cell : Nat → Nat → Int) (r k : Nat) : Int := if k = 2 + C then drF C rs cell r else cell r k
theorem dr43 {s : zS} {R C r : Nat} {rs cs : Nat → Nat} {cell : Nat → Nat → Int} {rec12 : Int32 → zS → Option (Int32 × zS)} (h : bEnc s R C rs cs cell) (hr : r < R) (hC : C < 4) (b : Int) : ∀ m f j, j + m = C → m < f →
    D_X0_addDrawingIn_L43 rec12 s (n32 (r : Int)) f (n64 (b + isum j (fun j => cell r (2 + j)))) (n32 (j : Int)) = rec12 (n32 ((r + 1 : Nat) : Int)) (zwL s (10 + r) (2 + C) (n64 (b + isum C (fun j => cell r (2 + j))))) := by
  have hR := h.1
  intro m
  induction m with
  | zero =>
    intro f j hj hf
    obtain ⟨f, rfl⟩ : ∃ t, f = t + 1 := ⟨f - 1, by omega⟩
    obtain rfl : j = C := by omega
    have i1 : (2 : Int32) + n32 (j : Int) = n32 ((2 + j : Nat) : Int) := by rw [l32_2, n32_add]; rfl
    rw [D_X0_addDrawingIn_L43_s]
    unfold D_X0_addDrawingIn_B43
    rw [h.2.2.2.1, zif_t (Int32.le_refl _), zgd_t (czin (by omega) (by omega)), zT9 r (by omega), i1, zoL9 (by omega), zgd_t (czin (by omega) (by omega)), n32_xn (by omega), nsuc]
  | succ m ih =>
    intro f j hj hf
    obtain ⟨f, rfl⟩ : ∃ t, f = t + 1 := ⟨f - 1, by omega⟩
    rw [D_X0_addDrawingIn_L43_s]
    unfold D_X0_addDrawingIn_B43
    rw [h.2.2.2.1, zif_f (by rw [c32_le (by omega) (by omega)]; omega), b_factor h hr (by omega), zbs, nsuc, n64_add]
    have := ih f (j + 1) (by omega) (by omega)
    rw [isum, ← Int.add_assoc] at this
    exact this
theorem dr12 {R C : Nat} {rs cs : Nat → Nat} {cell : Nat → Nat → Int} (hC : C < 4) : ∀ m f k s, k + m = R → m < f → bEnc s R C rs cs cell → (∀ r, r < k → s.2 (10 + r) (2 + C) = n64 (drF C rs cell r)) →
    ∃ s', D_X0_addDrawingIn_L12 f (n32 (k : Int)) s = some (n32 (C : Int), s') ∧ bFrm s s' ∧ bEnc s' R (C + 1) rs (xSwap cs C 0) (drC C rs cell) := by
  intro m
  induction m with
  | zero =>
    intro f k s hk hf h hn
    obtain ⟨f, rfl⟩ : ∃ t, f = t + 1 := ⟨f - 1, by omega⟩
    obtain rfl : k = R := by omega
    obtain ⟨a1, a2, a3, a4, a5, a6, a7, a8, a9⟩ := h
    have i1 : n32 (C : Int) + 1 - (1 : Int32) = n32 (C : Int) := by
      rw [l32_1, n32_add, n32_sub]
      congr 1
      omega
    refine ⟨zwI (zwI s 31 C 0) 8 4 (n32 (C : Int) + 1), ?_, bFrm_t (bFrm_31 _ _ _) ⟨fun c k _ _ h8 => by rw [zwI_at, if_neg (fun q => (h8 q.1).2 q.2)], fun _ _ _ => rfl⟩, a1, by omega, ?_, ?_, fun r hr => ?_, fun j hj => ?_, fun r hr i hi => ?_, a8, fun j hj => ?_⟩
    · rw [D_X0_addDrawingIn_L12_s]
      unfold D_X0_addDrawingIn_B12
      rw [a3, zif_t (Int32.le_refl _), a4, zgd_t (czin (by omega) (by omega)), n32_xn (by omega)]
      dsimp only
      rw [show (zwI s 31 C 0).1 8 4 = n32 (C : Int) by rw [zwI_at, if_neg (fun q => by have := q.1; omega)]; exact a4, zwI_at, if_pos ⟨rfl, rfl⟩, i1]
    · rw [zwI_at, if_neg (fun q => by have := q.2; omega), zwI_at, if_neg (fun q => by have := q.1; omega)]; exact a3
    · rw [zwI_at, if_pos ⟨rfl, rfl⟩, nsuc]
    · rw [zwI_at, if_neg (fun q => by have := q.1; omega), zwI_at, if_neg (fun q => by have := q.1; omega)]; exact a5 r hr
    · rw [zwI_at, if_neg (fun q => by have := q.1; omega), zwI_at]
      by_cases e : j = C
      · rw [if_pos ⟨rfl, e⟩, e, xSwap_s]; rfl
      · rw [if_neg (fun q => e q.2), xSwap_n e]; exact a6 j (by omega)
    · unfold drC
      by_cases e : i = 2 + C
      · rw [if_pos e, e]; exact hn r hr
      · rw [if_neg e]; exact a7 r hr i (by omega)
    · by_cases e : j = C
      · rw [e, xSwap_s]; omega
      · rw [xSwap_n e]; exact a9 j (by omega)
  | succ m ih =>
    intro f k s hk hf h hn
    obtain ⟨f, rfl⟩ : ∃ t, f = t + 1 := ⟨f - 1, by omega⟩
    have hR := h.1
    have h16 := h.2.2.2.2.2.2.2.1 k (by omega)
    have hnext : ∀ x, x = drF C rs cell k → ∃ s', D_X0_addDrawingIn_L12 f (n32 ((k + 1 : Nat) : Int)) (zwL s (10 + k) (2 + C) (n64 x)) = some (n32 (C : Int), s') ∧ bFrm s s' ∧ bEnc s' R (C + 1) rs (xSwap cs C 0) (drC C rs cell) := fun x hx => by
      obtain ⟨s2, e2, f2, g2⟩ := ih f (k + 1) (zwL s (10 + k) (2 + C) (n64 x)) (by omega) (by omega) (bEnc_ext (bEnc_w (r := k) (k := 2 + C) (x := x) h (by omega)) (fun _ _ => rfl) (fun _ _ => rfl) (fun r hr i hi => by
        by_cases e : r = k
        · subst e
          rw [xSwap_s, xSwap_n (by omega)]
        · rw [xSwap_n e])) (fun r hr => by
        rw [zwL_at]
        by_cases e : r = k
        · rw [if_pos ⟨by omega, rfl⟩, e, hx]
        · rw [if_neg (fun q => e (by have := q.1; omega))]; exact hn r (by omega))
      exact ⟨s2, e2, bFrm_t (bFrm_L (by omega)) f2, g2⟩
    rw [D_X0_addDrawingIn_L12_s]
    unfold D_X0_addDrawingIn_B12 D_X0_addDrawingIn_J39
    rw [h.2.2.1, zif_f (by rw [c32_le (by omega) (by omega)]; omega), zgd_t (czin (by omega) (by omega)), n32_xn (by omega), h.2.2.2.2.1 k (by omega)]
    by_cases e : rs k = 0
    · rw [zif_t ((n32_pos (by omega)).mpr e)]
      have e1 := dr43 (rec12 := D_X0_addDrawingIn_L12 f) h (show k < R by omega) hC 0 C zFU 0 (by omega) (zFU_lt (by omega))
      have e1' : D_X0_addDrawingIn_L43 (D_X0_addDrawingIn_L12 f) s (n32 (k : Int)) zFU (0 : Int64) (0 : Int32) = D_X0_addDrawingIn_L12 f (n32 ((k + 1 : Nat) : Int)) (zwL s (10 + k) (2 + C) (n64 (0 + isum C (fun j => cell k (2 + j))))) := e1
      rw [e1']
      exact hnext _ (by unfold drF; rw [if_pos e])
    · rw [zif_f (fun q => e ((n32_pos (by omega)).mp q)), b_below h (by omega), zbs, n64_neg]
      have e1 := dr43 (rec12 := D_X0_addDrawingIn_L12 f) h (show k < R by omega) hC (-cell k 0) C zFU 0 (by omega) (zFU_lt (by omega))
      rw [isum, Int.add_zero] at e1
      have e1' : D_X0_addDrawingIn_L43 (D_X0_addDrawingIn_L12 f) s (n32 (k : Int)) zFU (n64 (-cell k 0)) (0 : Int32) = D_X0_addDrawingIn_L12 f (n32 ((k + 1 : Nat) : Int)) (zwL s (10 + k) (2 + C) (n64 (-cell k 0 + isum C (fun j => cell k (2 + j))))) := e1
      rw [e1']
      exact hnext _ (by unfold drF; rw [if_neg e])
theorem b_draw {s : zS} {R C : Nat} {rs cs : Nat → Nat} {cell : Nat → Nat → Int} (hC : C < 4) (h : bEnc s R C rs cs cell) : ∃ s', D_X0_addDrawingIn s = some (n32 (C : Int), s') ∧ bFrm s s' ∧ bEnc s' R (C + 1) rs (xSwap cs C 0) (drC C rs cell) := by
  unfold D_X0_addDrawingIn
  rw [h.2.2.2.1, zif_t (by rw [show (4 : Int32) = n32 ((4 : Nat) : Int) from rfl, c32_lt (by omega) (by omega)]; exact hC)]
  exact dr12 hC R zFU 0 s (by omega) (zFU_lt (by have := h.1; omega)) h (fun r hr => by omega)
