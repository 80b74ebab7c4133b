/-! the calls on shares: calm -/
theorem x8_in {a lo hi : Int} (h1 : -2147483648 ≤ a ∧ a < 2147483648) (h2 : -2147483648 ≤ lo ∧ lo < 2147483648) (h3 : -2147483648 ≤ hi ∧ hi < 2147483648) : D_X8_within (n32 a) (n32 lo) (n32 hi) = some (if lo ≤ a ∧ a ≤ hi then 1 else 0) := by
  unfold D_X8_within D_X8_within_J14
  by_cases e1 : a < lo
  · rw [zif_t ((n32_lt h1.1 h1.2 h2.1 h2.2).mpr e1), if_neg (by omega)]
  · rw [zif_f (fun q => e1 ((n32_lt h1.1 h1.2 h2.1 h2.2).mp q))]
    by_cases e2 : hi < a
    · rw [zif_t ((n32_lt h3.1 h3.2 h1.1 h1.2).mpr e2), if_neg (by omega)]
    · rw [zif_f (fun q => e2 ((n32_lt h3.1 h3.2 h1.1 h1.2).mp q)), if_pos (by omega)]
theorem x9_in {a lo hi : Int} (h1 : -9223372036854775808 ≤ a ∧ a < 9223372036854775808) (h2 : -9223372036854775808 ≤ lo ∧ lo < 9223372036854775808) (h3 : -9223372036854775808 ≤ hi ∧ hi < 9223372036854775808) : D_X9_in (n64 a) (n64 lo) (n64 hi) = some (if lo ≤ a ∧ a ≤ hi then 1 else 0) := by
  unfold D_X9_in D_X9_in_J17
  by_cases e1 : a < lo
  · rw [zif_t ((lgc_lt h1.1 h1.2 h2.1 h2.2).mpr e1), if_neg (by omega)]
  · rw [zif_f (fun q => e1 ((lgc_lt h1.1 h1.2 h2.1 h2.2).mp q))]
    by_cases e2 : hi < a
    · rw [zif_t ((lgc_gt h1.1 h1.2 h3.1 h3.2).mpr e2), if_neg (by omega)]
    · rw [zif_f (fun q => e2 ((lgc_gt h1.1 h1.2 h3.1 h3.2).mp q)), if_pos (by omega)]
theorem i32_of (a : Int32) : ∃ k : Int, a = n32 k ∧ -2147483648 ≤ k ∧ k < 2147483648 := ⟨a.toInt, n32_of a, by have := Int32.le_toInt a; exact this, by have := Int32.toInt_lt a; exact this⟩
theorem x9_in32 {a lo hi : Int} (h1 : -2147483648 ≤ a ∧ a < 2147483648) (h2 : -2147483648 ≤ lo ∧ lo < 2147483648) (h3 : -2147483648 ≤ hi ∧ hi < 2147483648) : D_X9_in (n32 a).toInt64 (n64 lo) (n64 hi) = some (if lo ≤ a ∧ a ≤ hi then 1 else 0) := by
  rw [n32_64 h1.1 h1.2, x9_in (by omega) (by omega) (by omega)]
section SC
variable {n : Nat} {v : Nat → Int}
theorem zgd_ite01 {α : Type} {c : Prop} [Decidable c] {x : Option α} : zgd ((if c then (1 : Int32) else 0) = 0 ∨ (if c then (1 : Int32) else 0) = 1) x = x := zgd_t (by split; exact Or.inr rfl; exact Or.inl rfl)
theorem x7_side {s : zS} {a : Int} (h : s.1 2 0 = n32 (n : Int)) (hn : 1 ≤ n ∧ n ≤ 4) (h1 : -2147483648 ≤ a ∧ a < 2147483648) : D_X7_knowsSide s (n32 a) = some (if 0 ≤ a ∧ a ≤ (n : Int) - 1 then 1 else 0) := by
  unfold D_X7_knowsSide
  rw [h, l32_1, n32_sub, l32_0, x8_in h1 (by omega) (by omega), zbs]
  exact zgd_ite01
theorem x9_side {s : zS} {a : Int} (h : s.1 66 0 = n32 (n : Int)) (hn : 1 ≤ n ∧ n ≤ 4) (h1 : -2147483648 ≤ a ∧ a < 2147483648) : D_X9_isSide s (n32 a) = some (if 0 ≤ a ∧ a ≤ (n : Int) - 1 then 1 else 0) := by
  unfold D_X9_isSide
  rw [h, l32_1, n32_sub, n32_64 (a := (n : Int) - 1) (by omega) (by omega), l64_0, x9_in32 h1 (by omega) (by omega), zbs]
  exact zgd_ite01
/-- what the class's answers on shares may write -/
def cFrm (s s' : zS) : Prop := (∀ c k, c ≠ 30 → c ≠ 31 → (c = 8 → k ≠ 3 ∧ k ≠ 4) → (c = 4 → k ≠ 4) → s'.1 c k = s.1 c k) ∧ ∀ c k, (c < 10 ∨ 38 ≤ c) → c ≠ 1 → s'.2 c k = s.2 c k
/-- and the reference's -/
def vFrm (s s' : zS) : Prop := (∀ c k, (c = 66 → k ≠ 23 ∧ k ≠ 28 ∧ k ≠ 32) → c ≠ 79 → c ≠ 83 → c ≠ 84 → c ≠ 85 → s'.1 c k = s.1 c k) ∧ ∀ c k, (c = 66 → (k < 33 ∨ 36 < k) ∧ k ≠ 3 ∧ k ≠ 4) → c ≠ 77 → c ≠ 78 → c ≠ 80 → c ≠ 81 → c ≠ 82 → s'.2 c k = s.2 c k
theorem cFrm_r (s : zS) : cFrm s s := ⟨fun _ _ _ _ _ _ => rfl, fun _ _ _ _ => rfl⟩
theorem vFrm_r (s : zS) : vFrm s s := ⟨fun _ _ _ _ _ _ _ => rfl, fun _ _ _ _ _ _ _ _ => rfl⟩
theorem cFrm_k {s s' : zS} (h : kFrm s s') : cFrm s s' := ⟨h.1, fun c k a _ => h.2 c k a⟩
theorem vFrm_u {s s' : zS} (h : uFrm s s') : vFrm s s' := ⟨h.1, fun c k a b d e f g => h.2 c k (fun q => (a q).1) b d e f g⟩
theorem cFrm_t {s s' s'' : zS} (h : cFrm s s') (h' : cFrm s' s'') : cFrm s s'' := ⟨fun c k a b d e => (h'.1 c k a b d e).trans (h.1 c k a b d e), fun c k a b => (h'.2 c k a b).trans (h.2 c k a b)⟩
theorem vFrm_t {s s' s'' : zS} (h : vFrm s s') (h' : vFrm s' s'') : vFrm s s'' := ⟨fun c k a b d e f => (h'.1 c k a b d e f).trans (h.1 c k a b d e f), fun c k a b d e f g => (h'.2 c k a b d e f g).trans (h.2 c k a b d e f g)⟩
theorem cFrm_w (s : zS) (x y : Int64) : cFrm s (zwL (zwL s 1 0 x) 1 1 y) := ⟨fun _ _ _ _ _ _ => rfl, fun c k _ h => by rw [zwL_at, if_neg (fun q => h q.1), zwL_at, if_neg (fun q => h q.1)]⟩
theorem vFrm_w (s : zS) (x y : Int64) : vFrm s (zwL (zwL s 66 3 x) 66 4 y) := ⟨fun _ _ _ _ _ _ _ => rfl, fun c k h _ _ _ _ _ => by rw [zwL_at, if_neg (fun q => (h q.1).2.2 q.2), zwL_at, if_neg (fun q => (h q.1).2.1 q.2)]⟩
theorem uOk_c {s s' : zS} (h : uOk s n v) (f : cFrm s s') : uOk s' n v := by
  obtain ⟨h1, h2, h3, h4, h5⟩ := h
  exact ⟨by rw [f.1 66 0 (by omega) (by omega) (by omega) (by omega)]; exact h1, h2, h3, fun S hS => by rw [f.1 67 S (by omega) (by omega) (by omega) (by omega)]; exact h4 S hS, h5⟩
theorem wOk_c {s s' : zS} (h : wOk s n v) (f : cFrm s s') : wOk s' n v := by
  obtain ⟨h1, h2, h3, h4, h5⟩ := h
  exact ⟨by rw [f.1 2 0 (by omega) (by omega) (by omega) (by omega)]; exact h1, h2, h3, fun S hS => by rw [f.1 3 S (by omega) (by omega) (by omega) (by omega)]; exact h4 S hS, h5⟩
theorem wOk_v {s s' : zS} (h : wOk s n v) (f : vFrm s s') : wOk s' n v := by
  obtain ⟨h1, h2, h3, h4, h5⟩ := h
  exact ⟨by rw [f.1 2 0 (by omega) (by omega) (by omega) (by omega) (by omega)]; exact h1, h2, h3, fun S hS => by rw [f.1 3 S (by omega) (by omega) (by omega) (by omega) (by omega)]; exact h4 S hS, h5⟩
theorem uOk_v {s s' : zS} (h : uOk s n v) (f : vFrm s s') : uOk s' n v := by
  obtain ⟨h1, h2, h3, h4, h5⟩ := h
  exact ⟨by rw [f.1 66 0 (by omega) (by omega) (by omega) (by omega) (by omega)]; exact h1, h2, h3, fun S hS => by rw [f.1 67 S (by omega) (by omega) (by omega) (by omega) (by omega)]; exact h4 S hS, h5⟩
theorem calmE_f {s s' : zS} {x : Nat → Rat} (h : calmE s n x) (hn : n ≤ 4) (f : ∀ c k, 33 ≤ c → c < 37 → s'.2 c k = s.2 c k) : calmE s' n x := fun r hr => by
  have := h r hr
  exact ⟨by rw [f _ _ (by omega) (by omega)]; exact this.1, by rw [f _ _ (by omega) (by omega)]; exact this.2⟩
theorem calmK_v {s s' : zS} (h : calmK s n v) (hn : n ≤ 4) (f : vFrm s s') : calmK s' n v := by
  rcases h with h | ⟨x, h1, h2, h3⟩
  · exact Or.inl (by rw [f.1 4 4 (by omega) (by omega) (by omega) (by omega) (by omega)]; exact h)
  · refine Or.inr ⟨x, calmE_f h1 hn (fun c k a b => f.2 c k (by omega) (by omega) (by omega) (by omega) (by omega) (by omega)), h2, fun q => ?_⟩
    obtain ⟨E, hE, hs⟩ := h3 q
    exact ⟨E, ⟨by rw [f.2 37 0 (by omega) (by omega) (by omega) (by omega) (by omega) (by omega)]; exact hE.1, by rw [f.2 37 1 (by omega) (by omega) (by omega) (by omega) (by omega) (by omega)]; exact hE.2⟩, hs⟩
/-- the two answers' fractions are the same -/
def frEq (s : zS) : Prop := s.2 1 0 = s.2 66 3 ∧ s.2 1 1 = s.2 66 4
/-- both answer the same, and all keeps standing -/
def shC (s : zS) (n : Nat) (v : Nat → Int) (c8 c9 : zS → Option (Int32 × zS)) : Prop := ∃ (r : Int32) (s1 s2 : zS), c8 s = some (r, s1) ∧ c9 s1 = some (r, s2) ∧ cFrm s s1 ∧ vFrm s1 s2 ∧ calmK s2 n v ∧ frEq s2
theorem sh_same {s : zS} {r : Int32} {c8 c9 : zS → Option (Int32 × zS)} (hk : calmK s n v) (hf : frEq s) (h8 : c8 s = some (r, s)) (h9 : c9 s = some (r, s)) : shC s n v c8 c9 := ⟨r, s, s, h8, h9, cFrm_r s, vFrm_r s, hk, hf⟩
theorem zshp1 : zshp 1 = (0, 2, [1, 1]) := by decide
theorem call_calm {s : zS} (hw : wOk s n v) (hu : uOk s n v) (hk : calmK s n v) (hf : frEq s) (a : Int32) : shC s n v (fun s => D_X8_calm s a) (fun s => D_X9_calm s a) := by
  obtain ⟨k, rfl, hk1, hk2⟩ := i32_of a
  obtain ⟨w1, w2, w3, w4, w5⟩ := id hw
  by_cases e : 0 ≤ k ∧ k ≤ (n : Int) - 1
  · obtain ⟨side, rfl⟩ : ∃ j : Nat, k = (j : Int) := ⟨k.toNat, by omega⟩
    have hs : side < n := by omega
    obtain ⟨s1, x, e1, f1, w', g1, ok, hE⟩ := find_calm hw hk
    obtain ⟨d1, d2⟩ := ok.2.1 side hs
    have hdp := (x side).den_pos
    have e2 : D_X8_calm s (n32 (side : Int)) = some (1, zwL (zwL s1 1 0 (n64 (x side).num)) 1 1 (n64 ((x side).den : Int))) := by
      unfold D_X8_calm
      rw [x7_side w1 ⟨w2, w3⟩ ⟨hk1, hk2⟩, zbs, if_pos e, zif_f (by decide), e1, zbs]
      unfold D_X3_tellCalm
      rw [zT32 side (by omega), zgd_t (czin (by omega) (by omega)), zgd_t (zshp33 side (by omega)), zgd_t (czin (by omega) (by omega)), zgd_t (zshp33 side (by omega)), (g1 side hs).1, (g1 side hs).2, f8_put zshp1 (by omega) (by omega) (by omega), zbs, zbs, rat_n1]
    have hc := cFrm_t (cFrm_k f1) (cFrm_w s1 (n64 (x side).num) (n64 ((x side).den : Int)))
    have hu1 := uOk_c hu hc
    obtain ⟨s2, e3, f3, cs3⟩ := begin_shares (xc := x) hu1 ok.1
    obtain ⟨s3, e4, f4⟩ := calm_loop (xc := x) w3 hs w5 ok n zFU 1 _ 1 s2 (by omega) (zFU_lt (by omega)) (by omega) (by decide) cs3
    have hv := vFrm_t (vFrm_u (uFrm_t f3 f4)) (vFrm_w s3 (n64 (x side).num) (n64 ((x side).den : Int)))
    refine ⟨1, _, _, e2, ?_, hc, hv, ?_, ?_⟩
    · try dsimp only
      unfold D_X9_calm
      rw [x9_side hu1.1 ⟨w2, w3⟩ ⟨hk1, hk2⟩, zbs, if_pos e, zif_f (by decide), e3, zbs, e4]
    · refine calmK_v (Or.inr ⟨x, calmE_f g1 w3 (fun c k a b => ?_), ok, fun q => ?_⟩) w3 hv
      · rw [zwL_at, if_neg (fun q => by have := q.1; omega), zwL_at, if_neg (fun q => by have := q.1; omega)]
      · obtain ⟨E, hE, hs⟩ := hE q
        refine ⟨E, ⟨?_, ?_⟩, hs⟩
        · rw [zwL_at, if_neg (by omega), zwL_at, if_neg (by omega)]; exact hE.1
        · rw [zwL_at, if_neg (by omega), zwL_at, if_neg (by omega)]; exact hE.2
    · have f5 := uFrm_t f3 f4
      refine ⟨?_, ?_⟩
      · rw [zwL_at, if_neg (by omega), zwL_at, if_neg (by omega), f5.2 1 0 (by omega) (by omega) (by omega) (by omega) (by omega) (by omega), zwL_at, if_neg (by omega), zwL_at, if_pos ⟨rfl, rfl⟩, zwL_at, if_neg (by omega), zwL_at, if_pos ⟨rfl, rfl⟩]
      · rw [zwL_at, if_neg (by omega), zwL_at, if_neg (by omega), f5.2 1 1 (by omega) (by omega) (by omega) (by omega) (by omega) (by omega), zwL_at, if_pos ⟨rfl, rfl⟩, zwL_at, if_pos ⟨rfl, rfl⟩]
  · refine sh_same hk hf (r := -2) ?_ ?_
    · try dsimp only
      unfold D_X8_calm
      rw [x7_side w1 ⟨w2, w3⟩ ⟨hk1, hk2⟩, zbs, if_neg e, zif_t rfl]
    · try dsimp only
      unfold D_X9_calm
      rw [x9_side hu.1 ⟨w2, w3⟩ ⟨hk1, hk2⟩, zbs, if_neg e, zif_t rfl]
end SC
