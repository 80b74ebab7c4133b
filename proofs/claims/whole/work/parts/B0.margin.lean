/-! the call margin -/
def dg (n code p : Nat) : Nat := (code >>> (2 * (n - 1 - p))) &&& 3
theorem dg_c : ∀ n : Nat, n < 5 → ∀ code : Nat, code < 256 → ∀ p : Nat, p < n → ((n32 (code : Int) >>> ((2 * ((n32 (n : Int) - 1) - n32 (p : Int))) &&& 31)) &&& 3) = n32 (dg n code p : Int) := by decide +kernel
theorem dg_r : ∀ code : Nat, code < 256 → ∀ k : Nat, k < 4 → ((n32 (code : Int) >>> ((2 * n32 (k : Int)) &&& 31)) &&& 3) = n32 (((code >>> (2 * k)) &&& 3 : Nat) : Int) := by decide +kernel
theorem dg_lt (n code p : Nat) : dg n code p < 4 := Nat.lt_of_le_of_lt Nat.and_le_right (by decide)
def kS (n code : Nat) : Nat → Nat → Nat → Nat
  | 0, _, t => t
  | m + 1, p, t => kS n code m (p + 1) (t ||| 2 ^ dg n code p)
def mgA (n code side : Nat) : Nat → Nat → Nat → Nat
  | 0, _, t => t
  | m + 1, p, t => if dg n code p = side then t else mgA n code side m (p + 1) (t ||| 2 ^ dg n code p)
def mgR (n code side : Nat) : Nat → Nat → Nat → Option Nat
  | 0, _, w => some w
  | k + 1, t, w => if n ≤ (code >>> (2 * k)) &&& 3 then none else if t.testBit ((code >>> (2 * k)) &&& 3) then none else mgR n code side k (t ||| 2 ^ ((code >>> (2 * k)) &&& 3)) (if (code >>> (2 * k)) &&& 3 = side then t else w)
def mgOk (n code side : Nat) : Bool := if kS n code n 0 0 = 2 ^ n - 1 then (mgR n code side n 0 16 == some (mgA n code side n 0 0)) && decide (mgA n code side n 0 0 < 2 ^ n) else mgR n code side n 0 16 == none
theorem mg_all : ∀ n : Nat, n < 5 → ∀ code : Nat, code < 4 ^ n → ∀ side : Nat, side < n → mgOk n code side = true := by decide +kernel
theorem mg_both (n : Nat) (hn : n < 5) (code : Nat) (hc : code < 4 ^ n) (side : Nat) (hs : side < n) : (kS n code n 0 0 = 2 ^ n - 1 → mgR n code side n 0 16 = some (mgA n code side n 0 0) ∧ mgA n code side n 0 0 < 2 ^ n) ∧ (¬ kS n code n 0 0 = 2 ^ n - 1 → mgR n code side n 0 16 = none) := by
  have h := mg_all n hn code hc side hs
  unfold mgOk at h
  by_cases e : kS n code n 0 0 = 2 ^ n - 1
  · rw [if_pos e, Bool.and_eq_true] at h
    exact ⟨fun _ => ⟨eq_of_beq h.1, of_decide_eq_true h.2⟩, fun q => absurd e q⟩
  · rw [if_neg e] at h
    exact ⟨fun q => absurd q e, fun _ => eq_of_beq h⟩
theorem pow4 : ∀ n : Nat, n < 5 → (((1 : Int32) <<< ((2 * n32 (n : Int)) &&& 31)) - 1) = n32 ((4 ^ n - 1 : Nat) : Int) ∧ 4 ^ n ≤ 256 ∧ 1 ≤ 4 ^ n := by decide +kernel
section MG
variable {s : zS} {n : Nat} {v : Nat → Int}
theorem c_digit (hw : wRel s n v) {code p : Nat} (hc : code < 256) (hp : p < n) : D_X7_digitAt s (n32 (code : Int)) (n32 (p : Int)) = some (n32 (dg n code p : Int)) := by
  unfold D_X7_digitAt
  rw [hw.1.1, dg_c n (by have := hw.1.2.2.1; omega) code hc p hp]
theorem pow2_16 {d : Nat} (h : d < 4) : 2 ^ d < 16 := by
  have : d = 0 ∨ d = 1 ∨ d = 2 ∨ d = 3 := by omega
  rcases this with rfl | rfl | rfl | rfl <;> decide
theorem or_16 {t d : Nat} (ht : t < 16) (h : d < 4) : t ||| 2 ^ d < 16 := Nat.or_lt_two_pow (n := 4) ht (pow2_16 h)
theorem c_knows24 (hw : wRel s n v) {code : Nat} (hc : code < 256) : ∀ (m f p t : Nat), p + m = n → m < f → t < 16 → kS n code m p t < 16 ∧ D_X7_knowsOrder_L24 s (n32 (code : Int)) f (n32 (t : Int)) (n32 (p : Int)) = if kS n code m p t = 2 ^ n - 1 then some 1 else some 0 := by
  have hn := hw.1.2.2.1
  have hp4 := pow_le4 hn
  intro m
  induction m with
  | zero =>
    intro f p t hp hf ht
    obtain ⟨f, rfl⟩ : ∃ j, f = j + 1 := ⟨f - 1, by omega⟩
    obtain rfl : p = n := by omega
    refine ⟨ht, ?_⟩
    rw [D_X7_knowsOrder_L24_s]
    unfold D_X7_knowsOrder_B24
    rw [hw.1.1, zif_t (Int32.le_refl _), all7 hw, zbs, kS]
    by_cases e : t = 2 ^ p - 1
    · rw [if_pos e, zif_t (by rw [e])]
    · rw [if_neg e, zif_f (fun q => e (by have := (n32_eq (by omega) (by omega) (by omega) (by omega)).mp q; omega))]
  | succ m ih =>
    intro f p t hp hf ht
    obtain ⟨f, rfl⟩ : ∃ j, f = j + 1 := ⟨f - 1, by omega⟩
    have hd := dg_lt n code p
    rw [D_X7_knowsOrder_L24_s]
    unfold D_X7_knowsOrder_B24
    rw [hw.1.1, zif_f (by rw [c32_le (by omega) (by omega)]; omega), c_digit hw hc (by omega), zbs, shl1 _ (by omega), dv_or _ (pow2_16 hd) t ht, nsuc, kS]
    exact ih f (p + 1) _ (by omega) (by omega) (or_16 ht hd)
theorem c_margin5 (hw : wRel s n v) {code side : Nat} (hc : code < 256) (hs : side < n) : ∀ (m f p t : Nat), p + m = n → m < f → t < 16 → D_X7_marginIn_L5 s (n32 (code : Int)) (n32 (side : Int)) f (n32 (t : Int)) (n32 (p : Int)) = (D_X7_added s (n32 (mgA n code side m p t : Int)) (n32 (side : Int))).bind fun x => some x := by
  have hn := hw.1.2.2.1
  intro m
  induction m with
  | zero =>
    intro f p t hp hf ht
    obtain ⟨f, rfl⟩ : ∃ j, f = j + 1 := ⟨f - 1, by omega⟩
    obtain rfl : p = n := by omega
    rw [D_X7_marginIn_L5_s]
    unfold D_X7_marginIn_B5 D_X7_marginIn_J45
    rw [hw.1.1, zif_t (Int32.le_refl _), mgA]
  | succ m ih =>
    intro f p t hp hf ht
    obtain ⟨f, rfl⟩ : ∃ j, f = j + 1 := ⟨f - 1, by omega⟩
    have hd := dg_lt n code p
    rw [D_X7_marginIn_L5_s]
    unfold D_X7_marginIn_B5
    rw [hw.1.1, zif_f (by rw [c32_le (by omega) (by omega)]; omega), c_digit hw hc (by omega), zbs, mgA]
    by_cases e : dg n code p = side
    · rw [zif_t (by rw [e]), if_pos e]; rfl
    · rw [zif_f (fun q => e (by have := (n32_eq (by omega) (by omega) (by omega) (by omega)).mp q; omega)), if_neg e, shl1 _ (by omega), dv_or _ (pow2_16 hd) t ht, nsuc]
      exact ih f (p + 1) _ (by omega) (by omega) (or_16 ht hd)
/-- what the reference has at a set ahead -/
def mgV (v : Nat → Int) (side w : Nat) : Int := if w = 16 then 0 else v (w ||| 2 ^ side) - v w
theorem r_margin44 (hw : wRel s n v) {code side : Nat} (hc : code < 256) (hs : side < n) : ∀ (m f t w : Nat), m ≤ n → m < f → t < 16 → D_X9_margin_L44 s (n32 (code : Int)) (n32 (side : Int)) f (n32 (t : Int)) (n32 (mgV v side w)) (n32 ((m : Int) - 1)) = match mgR n code side m t w with
    | none => some (-100000)
    | some w' => some (n32 (mgV v side w')) := by
  have hn := hw.1.2.2.1
  intro m
  induction m with
  | zero =>
    intro f t w hm hf ht
    obtain ⟨f, rfl⟩ : ∃ j, f = j + 1 := ⟨f - 1, by omega⟩
    rw [D_X9_margin_L44_s]
    unfold D_X9_margin_B44
    rw [zif_t (by decide), mgR]
  | succ m ih =>
    intro f t w hm hf ht
    obtain ⟨f, rfl⟩ : ∃ j, f = j + 1 := ⟨f - 1, by omega⟩
    have hd : (code >>> (2 * m)) &&& 3 < 4 := Nat.lt_of_le_of_lt Nat.and_le_right (by decide)
    have hm1 : n32 (((m + 1 : Nat) : Int) - 1) = n32 (m : Int) := by congr 1; omega
    have hback : n32 (m : Int) + -1 = n32 ((m : Int) - 1) := by rw [l32_1, n32_neg, n32_add]; rfl
    rw [D_X9_margin_L44_s]
    unfold D_X9_margin_B44 D_X9_margin_J109
    rw [hm1, zif_f (by rw [l32_0, n32_lt (by omega) (by omega) (by omega) (by omega)]; omega), dg_r code hc m (by omega), mgR]
    generalize (code >>> (2 * m)) &&& 3 = d at hd ⊢
    rw [hw.2.1.1]
    by_cases e : n ≤ d
    · rw [zif_t (by rw [c32_le (by omega) (by omega)]; exact e), if_pos e]
    · rw [zif_f (by rw [c32_le (by omega) (by omega)]; exact e), if_neg e, x9_hasL t (by omega) d (by omega), in_ite]
      by_cases e2 : t.testBit d = true
      · rw [if_pos e2, if_pos e2, zi1]
      · rw [if_neg e2, if_neg e2, zi0, shl1 d (by omega), dv_or _ (pow2_16 hd) t ht, hback]
        have ho := or_16 ht hd
        by_cases e3 : d = side
        · have hval : n32 (v (t ||| 2 ^ d)) - n32 (v t) = n32 (mgV v side t) := by
            unfold mgV
            rw [if_neg (by omega), e3, n32_sub]
          rw [zif_t (by rw [e3]), zgd_t (czin (by omega) (by omega)), zgd_t (czin (by omega) (by omega)), n32_xn (by omega), n32_xn (by omega), hw.2.1.2.2.2.1 _ ho, hw.2.1.2.2.2.1 t ht, hval, if_pos e3]
          exact ih f _ _ (by omega) (by omega) ho
        · rw [zif_f (fun q => e3 (by have := (n32_eq (by omega) (by omega) (by omega) (by omega)).mp q; omega)), if_neg e3]
          exact ih f _ _ (by omega) (by omega) ho
theorem call_margin (hw : wRel s n v) (a b : Int32) : cPu (D_X8_margin s a b) (D_X9_margin s a b) := by
  obtain ⟨k, rfl, h1, h2⟩ := i32_of a
  obtain ⟨x, rfl, h3, h4⟩ := i32_of b
  have hn := hw.1.2.2.1
  obtain ⟨q1, q2, q3⟩ := pow4 n (by omega)
  have i8 : D_X8_within (n32 k) 0 (n32 ((4 ^ n - 1 : Nat) : Int)) = if 0 ≤ k ∧ k ≤ ((4 ^ n - 1 : Nat) : Int) then some 1 else some 0 := in8 (lo := 0) h1 h2 (by omega) (by omega) (by omega) (by omega)
  have i9 : D_X9_in (n32 k).toInt64 0 (n32 ((4 ^ n - 1 : Nat) : Int)).toInt64 = if 0 ≤ k ∧ k ≤ ((4 ^ n - 1 : Nat) : Int) then some 1 else some 0 := by
    rw [n32_64 (a := ((4 ^ n - 1 : Nat) : Int)) (by omega) (by omega)]
    exact in9L (lo := 0) h1 h2 (by omega) (by omega) (by omega) (by omega)
  unfold D_X8_margin D_X9_margin D_X7_knowsOrder D_X7_marginIn
  rw [knows7 hw h3 h4, knows9 hw h3 h4]
  by_cases e : 0 ≤ x ∧ x ≤ (n : Int) - 1
  · obtain ⟨side, rfl⟩ : ∃ t : Nat, x = (t : Int) := ⟨x.toNat, by omega⟩
    have hs : side < n := by omega
    rw [if_pos e, zbs, zbs, zi1, zi1, hw.1.1, hw.2.1.1, q1, i8, i9]
    by_cases e2 : 0 ≤ k ∧ k ≤ ((4 ^ n - 1 : Nat) : Int)
    · obtain ⟨code, rfl⟩ : ∃ t : Nat, k = (t : Int) := ⟨k.toNat, by omega⟩
      have hc : code < 256 := by omega
      obtain ⟨m1, m2⟩ := mg_both n (by omega) code (by omega) side hs
      have c24 : D_X7_knowsOrder_L24 s (n32 (code : Int)) zFU 0 0 = _ := (c_knows24 hw hc n zFU 0 0 (by omega) (zFU_lt (by omega)) (by omega)).2
      have r44 : D_X9_margin_L44 s (n32 (code : Int)) (n32 (side : Int)) zFU 0 0 (n32 ((n : Int) - 1)) = _ := r_margin44 hw hc hs n zFU 0 16 (Nat.le_refl _) (zFU_lt (by omega)) (by omega)
      rw [if_pos e2, zbs, zbs, zi1, zi1, l32_1, n32_sub, r44, c24, in_ite]
      by_cases e3 : kS n code n 0 0 = 2 ^ n - 1
      · obtain ⟨m3, m4⟩ := m1 e3
        have hp := pow_le4 hn
        have c5 : D_X7_marginIn_L5 s (n32 (code : Int)) (n32 (side : Int)) zFU 0 0 = _ := c_margin5 hw hc hs n zFU 0 0 (by omega) (zFU_lt (by omega)) (by omega)
        rw [if_pos e3, m3, zi1, c5, c_added hw m4 hs]
        have hv : mgV v side (mgA n code side n 0 0) = v (mgA n code side n 0 0 ||| 2 ^ side) - v (mgA n code side n 0 0) := if_neg (by omega)
        refine ⟨_, rfl, ?_⟩
        show some (n32 (mgV v side (mgA n code side n 0 0))) = _
        rw [hv]
      · rw [if_neg e3, m2 e3, zi0]
        exact ⟨_, rfl, rfl⟩
    · rw [if_neg e2, zbs, zbs, zi0, zi0, zbs, zi0]
      exact ⟨_, rfl, rfl⟩
  · rw [if_neg e, zbs, zbs, zi0, zi0]
    exact ⟨_, rfl, rfl⟩
end MG
