/-! the reference's least pay: rows of sets, weighed -/
theorem x9_has : ∀ S : Nat, S < 16 → ∀ i : Nat, i < 5 → D_X9_has (n32 (S : Int)) (n32 (i : Int)) = some (n32 (hb S i : Int)) := by decide +kernel
theorem x9_all {s : zS} {n : Nat} (h : s.1 66 0 = n32 (n : Int)) (hn : n < 5) : D_X9_all s = some (n32 ((2 ^ n - 1 : Nat) : Int)) := by
  unfold D_X9_all
  rw [h, shl1 n hn, l32_1, n32_sub]
  have : 1 ≤ 2 ^ n := Nat.one_le_two_pow
  congr 2
  omega
/-- the reference's worths as they lie -/
def uOk (s : zS) (n : Nat) (v : Nat → Int) : Prop := s.1 66 0 = n32 (n : Int) ∧ 1 ≤ n ∧ n ≤ 4 ∧ (∀ S, S < 16 → s.1 67 S = n32 (v S)) ∧ ∀ S, S < 16 → -1000 ≤ v S ∧ v S ≤ 1000
/-- what the reference's answers on shares may write -/
def uFrm (s s' : zS) : Prop := (∀ c k, (c = 66 → k ≠ 23 ∧ k ≠ 28 ∧ k ≠ 32) → c ≠ 79 → c ≠ 83 → c ≠ 84 → c ≠ 85 → s'.1 c k = s.1 c k) ∧ ∀ c k, (c = 66 → k < 33 ∨ 36 < k) → c ≠ 77 → c ≠ 78 → c ≠ 80 → c ≠ 81 → c ≠ 82 → s'.2 c k = s.2 c k
theorem uFrm_r (s : zS) : uFrm s s := ⟨fun _ _ _ _ _ _ _ => rfl, fun _ _ _ _ _ _ _ _ => rfl⟩
theorem uFrm_t {s s' s'' : zS} (h : uFrm s s') (h' : uFrm s' s'') : uFrm s s'' :=
  ⟨fun c k a b d e f => (h'.1 c k a b d e f).trans (h.1 c k a b d e f), fun c k a b d e f g => (h'.2 c k a b d e f g).trans (h.2 c k a b d e f g)⟩
theorem uFrm_m {s s' : zS} (h : mFrm s s') : uFrm s s' := ⟨fun c k _ _ _ _ _ => by rw [h.1], fun c k _ h1 h2 _ _ _ => h.2 c k h1 h2⟩
theorem uOk_f {s s' : zS} {n : Nat} {v : Nat → Int} (h : uOk s n v) (f : uFrm s s') : uOk s' n v := by
  obtain ⟨h1, h2, h3, h4, h5⟩ := h
  refine ⟨?_, h2, h3, fun S hS => ?_, h5⟩
  · rw [f.1 66 0 (fun _ => by omega) (by omega) (by omega) (by omega) (by omega)]; exact h1
  · rw [f.1 67 S (fun e => by omega) (by omega) (by omega) (by omega) (by omega)]; exact h4 S hS
def pkE (s : zS) (K : Nat) (p : Nat → Nat) : Prop := ∀ k, k < K → s.1 84 k = n32 (p k : Int)
theorem pkE_m {s s' : zS} {K : Nat} {p : Nat → Nat} (h : pkE s K p) (f : mFrm s s') : pkE s' K p := fun k hk => by rw [f.1]; exact h k hk
theorem mE_put1 {s : zS} {n r c : Nat} {q : Nat → Nat → Rat} {a : Int} (h : mE s n q) (hn : n ≤ 5) (hr : r < n) (hc : c < 6) (ha1 : -4611686018427387904 < a) (ha2 : a < 4611686018427387904) :
    ∃ s', D_X9_put s (n32 (r : Int)) (n32 (c : Int)) (n64 a) (1 : Int64) = some s' ∧ mFrm s s' ∧ mE s' n (qUpd q r c (a : Rat)) :=
  mE_put h hn hr hc ha1 ha2 (b := 1) (by omega) (by omega) (by omega) (by rw [Rat.intCast_one]; grind)
theorem r_noRows (s : zS) : ∃ s', D_X9_noRows s = some s' ∧ mFrm s s' ∧ mE s' 5 (fun _ _ => 0) := by
  have key : ∀ m f k s0, k + m = 30 → m < f → mFrm s s0 → (∀ i, i < k → s0.2 77 i = 0 ∧ s0.2 78 i = 1) → ∃ s', D_X9_noRows_L2 f (n32 (k : Int)) s0 = some s' ∧ mFrm s s' ∧ mE s' 5 (fun _ _ => 0) := by
    intro m
    induction m with
    | zero =>
      intro f k s0 hk hf h0 h
      obtain ⟨f, rfl⟩ : ∃ t, f = t + 1 := ⟨f - 1, by omega⟩
      obtain rfl : k = 30 := by omega
      refine ⟨s0, ?_, h0, fun r hr c hc => ⟨(h (6 * r + c) (by omega)).1, (h (6 * r + c) (by omega)).2⟩⟩
      rw [D_X9_noRows_L2_s]
      unfold D_X9_noRows_B2
      rw [zif_t (by decide)]
    | succ m ih =>
      intro f k s0 hk hf h0 h
      obtain ⟨f, rfl⟩ : ∃ t, f = t + 1 := ⟨f - 1, by omega⟩
      rw [D_X9_noRows_L2_s]
      unfold D_X9_noRows_B2
      rw [zif_f (by rw [show (30 : Int32) = n32 ((30 : Nat) : Int) from rfl, c32_le (by omega) (by omega)]; omega), zgd_t (czin (by omega) (by omega)), zgd_t (czin (by omega) (by omega)), n32_xn (by omega), nsuc]
      refine ih f (k + 1) _ (by omega) (by omega) (mFrm_t h0 ⟨rfl, fun c k' h1 h2 => by rw [zwL_at, if_neg (fun q => h2 q.1), zwL_at, if_neg (fun q => h1 q.1)]⟩) (fun i hi => ?_)
      simp only [zwL_at, true_and, false_and, if_false, show ((77 : Nat) = 78) = False from eq_false (by omega), show ((78 : Nat) = 77) = False from eq_false (by omega)]
      by_cases e : i = k
      · rw [if_pos e, if_pos e]; exact ⟨rfl, rfl⟩
      · rw [if_neg e, if_neg e]; exact h i (by omega)
  exact key 30 zFU 0 s (by omega) (zFU_lt (by omega)) (mFrm_r s) (fun i hi => by omega)
theorem zsum_sum5 {n : Nat} {f : Nat → Rat} (hn : n ≤ 5) (h : ∀ c, n ≤ c → c < 5 → f c = 0) : zsum n f = sum5 f := by
  have hc : n = 0 ∨ n = 1 ∨ n = 2 ∨ n = 3 ∨ n = 4 ∨ n = 5 := by omega
  unfold sum5
  rcases hc with rfl | rfl | rfl | rfl | rfl | rfl
  · rw [h 0 (by omega) (by omega), h 1 (by omega) (by omega), h 2 (by omega) (by omega), h 3 (by omega) (by omega), h 4 (by omega) (by omega)]; simp only [zsum]; grind
  · rw [h 1 (by omega) (by omega), h 2 (by omega) (by omega), h 3 (by omega) (by omega), h 4 (by omega) (by omega)]; simp only [zsum]; grind
  · rw [h 2 (by omega) (by omega), h 3 (by omega) (by omega), h 4 (by omega) (by omega)]; simp only [zsum]; grind
  · rw [h 3 (by omega) (by omega), h 4 (by omega) (by omega)]; simp only [zsum]; grind
  · rw [h 4 (by omega) (by omega)]; simp only [zsum]; grind
  · simp only [zsum]; grind
/-- the matrix of a row of sets -/
def lpMx (n : Nat) (p : Nat → Nat) (i c : Nat) : Int := if i < n ∧ c < n then (hb (p c) i : Int) else 0
def lpMq (n : Nat) (p : Nat → Nat) (i c : Nat) : Rat := if c < 5 then (lpMx n p i c : Rat) else if i < n then 1 else 0
theorem lpMx_pm (n : Nat) (p : Nat → Nat) (c : Nat) : pm1 (fun i => lpMx n p i c) := ⟨1, Or.inl rfl, fun i _ => by
  show 1 * lpMx n p i c = 0 ∨ 1 * lpMx n p i c = 1
  unfold lpMx
  split
  · have := hb_01 (p c) i
    omega
  · exact Or.inl rfl⟩
theorem lp_sMt (n : Nat) (p : Nat → Nat) : sMt (lpMx n p) (lpMq n p) 1 1 := by
  refine ⟨fun i _ c hc => if_pos hc, fun c _ => lpMx_pm n p c, fun i _ => ?_, by omega, by omega⟩
  by_cases e : i < n
  · exact ⟨1, by unfold lpMq; rw [if_neg (by omega), if_pos e]; exact Rat.mul_one _, by omega, by omega⟩
  · exact ⟨0, by unfold lpMq; rw [if_neg (by omega), if_neg e]; exact Rat.mul_zero _, by omega, by omega⟩
theorem lp63 {n i : Nat} {p : Nat → Nat} {rec42 rec52 : Int32 → zS → Option zS} {a1 : Int32} (hn : n ≤ 4) (hi : i < n) (hp : ∀ k, k < n → p k < 16) : ∀ m f k s, k + m = n → m < f → s.1 66 0 = n32 (n : Int) → pkE s n p → mE s 5 (fun r c => if r < i ∨ (r = i ∧ c < k) then lpMq n p r c else 0) →
    ∃ s', mFrm s s' ∧ mE s' 5 (fun r c => if r < i + 1 then lpMq n p r c else 0) ∧ D_X9_layPay_L63 rec42 rec52 a1 (n32 (i : Int)) f (n32 (k : Int)) s = rec52 (n32 ((i + 1 : Nat) : Int)) s' := by
  intro m
  induction m with
  | zero =>
    intro f k s hk hf h66 hpk h
    obtain ⟨f, rfl⟩ : ∃ t, f = t + 1 := ⟨f - 1, by omega⟩
    obtain rfl : k = n := by omega
    obtain ⟨s1, e1, f1, g1⟩ := mE_put1 h (by omega) (show i < 5 by omega) (show 5 < 6 by omega) (a := 1) (by omega) (by omega)
    refine ⟨s1, f1, mE_ext g1 (fun r hr c hc => ?_), ?_⟩
    · unfold qUpd
      try dsimp only
      by_cases e : r = i ∧ c = 5
      · rw [if_pos e, if_pos (by omega)]
        unfold lpMq
        rw [if_neg (by omega), if_pos (by omega)]; rfl
      · rw [if_neg e]
        by_cases e2 : r < i ∨ (r = i ∧ c < k)
        · rw [if_pos e2, if_pos (by omega)]
        · rw [if_neg e2]
          by_cases e3 : r < i + 1
          · rw [if_pos e3]
            unfold lpMq
            rw [if_pos (by omega)]
            unfold lpMx
            rw [if_neg (by omega)]; rfl
          · rw [if_neg e3]
    · rw [D_X9_layPay_L63_s]
      unfold D_X9_layPay_B63
      rw [h66, zif_t (Int32.le_refl _)]
      have e1' : D_X9_put s (n32 (i : Int)) (5 : Int32) (1 : Int64) (1 : Int64) = some s1 := e1
      rw [e1', zbs, nsuc]
  | succ m ih =>
    intro f k s hk hf h66 hpk h
    obtain ⟨f, rfl⟩ : ∃ t, f = t + 1 := ⟨f - 1, by omega⟩
    rw [D_X9_layPay_L63_s]
    unfold D_X9_layPay_B63
    rw [h66, zif_f (by rw [c32_le (by omega) (by omega)]; omega), zgd_t (czin (by omega) (by omega)), n32_xn (by omega), hpk k (by omega), x9_has (p k) (hp k (by omega)) i (by omega), zbs]
    have hstep : ∀ a : Int, a = (hb (p k) i : Int) → ∃ s', mFrm s s' ∧ mE s' 5 (fun r c => if r < i + 1 then lpMq n p r c else 0) ∧ D_X9_layPay_J95 rec42 rec52 (D_X9_layPay_L63 rec42 rec52 a1 (n32 (i : Int)) f) s a1 (n32 (i : Int)) (n32 (k : Int)) (n32 (i : Int)) (n32 (k : Int)) (n64 a) = rec52 (n32 ((i + 1 : Nat) : Int)) s' := fun a ha => by
      have h01 := hb_01 (p k) i
      obtain ⟨s1, e1, f1, g1⟩ := mE_put1 h (by omega) (show i < 5 by omega) (show k < 6 by omega) (a := a) (by omega) (by omega)
      unfold D_X9_layPay_J95
      rw [e1, zbs, nsuc]
      obtain ⟨s2, f2, g2, e2⟩ := ih f (k + 1) s1 (by omega) (by omega) (by rw [f1.1]; exact h66) (pkE_m hpk f1) (mE_ext g1 (fun r hr c hc => by
        try dsimp only
        unfold qUpd
        try dsimp only
        by_cases e : r = i ∧ c = k
        · rw [if_pos e, if_pos (by omega)]
          unfold lpMq
          rw [if_pos (by omega)]
          unfold lpMx
          rw [if_pos (by omega), e.1, e.2, ha]
        · rw [if_neg e]
          by_cases e2 : r < i ∨ (r = i ∧ c < k)
          · rw [if_pos e2, if_pos (by omega)]
          · rw [if_neg e2, if_neg (by omega)]))
      exact ⟨s2, mFrm_t f1 f2, g2, e2⟩
    have h01 := hb_01 (p k) i
    rcases h01 with e | e
    · rw [e, zif_t (by decide)]; exact hstep 0 (by rw [e]; rfl)
    · rw [e, zif_f (by decide)]; exact hstep 1 (by rw [e]; rfl)
theorem lp52 {n : Nat} {p : Nat → Nat} {rec42 : Int32 → zS → Option zS} {a1 : Int32} (hn : n ≤ 4) (hp : ∀ k, k < n → p k < 16) : ∀ m f i s, i + m = n → m < f → s.1 66 0 = n32 (n : Int) → pkE s n p → mE s 5 (fun r c => if r < i then lpMq n p r c else 0) →
    ∃ s', mFrm s s' ∧ mE s' 5 (lpMq n p) ∧ D_X9_layPay_L52 rec42 a1 f (n32 (i : Int)) s = (D_X9_solve s' (n32 (n : Int))).bind fun p124 => D_X9_layPay_L137 rec42 p124.2 a1 zFU p124.1 (0 : Int64) (1 : Int64) (0 : Int32) := by
  intro m
  induction m with
  | zero =>
    intro f i s hi hf h66 hpk h
    obtain ⟨f, rfl⟩ : ∃ t, f = t + 1 := ⟨f - 1, by omega⟩
    obtain rfl : i = n := by omega
    refine ⟨s, mFrm_r s, mE_ext h (fun r hr c hc => ?_), ?_⟩
    · try dsimp only
      unfold lpMq lpMx
      (repeat' split) <;> first | rfl | (exfalso; omega)
    · rw [D_X9_layPay_L52_s]
      unfold D_X9_layPay_B52
      rw [h66, zif_t (Int32.le_refl _)]
  | succ m ih =>
    intro f i s hi hf h66 hpk h
    obtain ⟨f, rfl⟩ : ∃ t, f = t + 1 := ⟨f - 1, by omega⟩
    rw [D_X9_layPay_L52_s]
    unfold D_X9_layPay_B52
    rw [h66, zif_f (by rw [c32_le (by omega) (by omega)]; omega)]
    obtain ⟨s1, f1, g1, e1⟩ := lp63 (rec42 := rec42) (rec52 := D_X9_layPay_L52 rec42 a1 f) (a1 := a1) hn (show i < n by omega) hp n zFU 0 s (by omega) (zFU_lt (by omega)) h66 hpk (mE_ext h (fun r hr c hc => by
      try dsimp only
      by_cases e : r < i
      · rw [if_pos e, if_pos (Or.inl e)]
      · rw [if_neg e, if_neg (by omega)]))
    have e1' : D_X9_layPay_L63 rec42 (D_X9_layPay_L52 rec42 a1 f) a1 (n32 (i : Int)) zFU (0 : Int32) s = D_X9_layPay_L52 rec42 a1 f (n32 ((i + 1 : Nat) : Int)) s1 := e1
    rw [e1']
    obtain ⟨s2, f2, g2, e2⟩ := ih f (i + 1) s1 (by omega) (by omega) (by rw [f1.1]; exact h66) (pkE_m hpk f1) g1
    exact ⟨s2, mFrm_t f1 f2, g2, e2⟩
