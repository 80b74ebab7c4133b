/-! the exchange of a row and a column -/
def sAll (s s' : zS) : Prop := s'.1 = s.1 ∧ ∀ c k, (c < 10 ∨ 30 ≤ c) → s'.2 c k = s.2 c k
theorem sAll_of {s s' : zS} {r : Nat} (hr : r < 20) (h : sBut s s' (10 + r)) : sAll s s' := ⟨h.1, fun c k hc => h.2 c k (by omega)⟩
theorem sAll_t {s s' s'' : zS} (h : sAll s s') (h' : sAll s' s'') : sAll s s'' := ⟨h'.1.trans h.1, fun c k hc => (h'.2 c k hc).trans (h.2 c k hc)⟩
theorem zoL9_0 {r : Nat} (hr : r < 20) : zoL (10 + r) 0 = true := by rw [zoL9 hr]; decide
theorem b_turn {s : zS} {r N c : Nat} {ρ : Nat → Int} (hr : r < 20) (hN : N ≤ 6) (hc : 2 + c < N) (h : bRow s (10 + r) N ρ) : ∃ s', D_X0_turnRow s (10 + r) ((2 : Int32) + n32 (c : Int)) = some s' ∧ sBut s s' (10 + r) ∧ bRow s' (10 + r) N (rTurn ρ c) := by
  have e2 : (2 : Int32) + n32 (c : Int) = n32 ((2 + c : Nat) : Int) := by rw [l32_2, n32_add]; congr 1
  have x0 : (0 : Int32).toNatClampNeg = 0 := by decide
  unfold D_X0_turnRow
  rw [e2, zoL9 hr, zgd_t (by decide), zoL9 hr, zgd_t (czin (by omega) (by omega)), zgd_t (by decide), zgd_t (czin (by omega) (by omega)), n32_xn (by omega), x0, h _ hc, h 0 (by omega), n64_neg, n64_neg]
  refine ⟨_, rfl, sBut_t (sBut_w _ _ _ _) (sBut_w _ _ _ _), fun k hk => ?_⟩
  rw [zwL_at, zwL_at]
  unfold rTurn
  by_cases k0 : k = 0
  · subst k0
    rw [if_neg (fun q => by have := q.2; omega), if_pos ⟨rfl, rfl⟩, if_pos rfl]
  · by_cases k2 : k = 2 + c
    · rw [if_pos ⟨rfl, k2⟩, if_neg k0, if_pos k2]
    · rw [if_neg (fun q => k2 q.2), if_neg (fun q => k0 q.2), if_neg k0, if_neg k2, h k hk]
theorem rc21 {N r r0 c : Nat} {ρ τ : Nat → Int} (hr : r < 20) (hr0 : r0 < 20) (hne : r ≠ r0) (hN : N ≤ 6) (hc : 2 + c < N) : ∀ m n k s, 1 ≤ k → k + m = N → m < n → (∀ i, i < N → s.2 (10 + r) i = n64 (if i < k then rRep ρ τ c i else if i = 2 + c then 0 else ρ i)) → bRow s (10 + r0) N τ → (2 : Int32) + s.1 8 4 = n32 (N : Int) → ∃ s', D_X0_replaceColumn_L21 (10 + r) (10 + r0) (n64 (ρ (2 + c))) n (n32 (k : Int)) s = some s' ∧ sBut s s' (10 + r) ∧ bRow s' (10 + r) N (rRep ρ τ c) := by
  intro m
  induction m with
  | zero =>
    intro n k s h1 hk hn hP hT hC
    obtain ⟨n, rfl⟩ : ∃ j, n = j + 1 := ⟨n - 1, by omega⟩
    have : k = N := by omega
    subst this
    refine ⟨s, ?_, sBut_r _ _, fun i hi => ?_⟩
    · rw [D_X0_replaceColumn_L21_s]
      unfold D_X0_replaceColumn_B21
      rw [hC, zif_t (by rw [c32_le (by omega) (by omega)]; omega)]
    · rw [hP i hi, if_pos hi]
  | succ m ih =>
    intro n k s h1 hk hn hP hT hC
    obtain ⟨n, rfl⟩ : ∃ j, n = j + 1 := ⟨n - 1, by omega⟩
    have x0 : (0 : Int32).toNatClampNeg = 0 := by decide
    rw [D_X0_replaceColumn_L21_s]
    unfold D_X0_replaceColumn_B21
    rw [hC, zif_f (by rw [c32_le (by omega) (by omega)]; omega), zoL9 hr, zgd_t (czin (by omega) (by omega)), zoL9 hr0, zgd_t (by decide), zoL9 hr0, zgd_t (czin (by omega) (by omega)), zgd_t (czin (by omega) (by omega)), n32_xn (by omega), x0, hP k (by omega), hT 0 (by omega), hT k (by omega), if_neg (by omega), n64_mul, n64_mul, n64_add, l32_1, n32_succ]
    have ev : (if k = 2 + c then 0 else ρ k) * τ 0 + ρ (2 + c) * τ k = rRep ρ τ c k := by
      unfold rRep
      rw [if_neg (show ¬ k = 0 by omega)]
      by_cases k2 : k = 2 + c
      · rw [if_pos k2, if_pos k2, k2]; simp
      · rw [if_neg k2, if_neg k2]
    rw [ev]
    dsimp only
    obtain ⟨s', e1, e2, e3⟩ := ih n (k + 1) (zwL s (10 + r) k (n64 (rRep ρ τ c k))) (by omega) (by omega) (by omega) (fun i hi => by
      rw [zwL_at]
      by_cases hik : i = k
      · rw [if_pos ⟨rfl, hik⟩, if_pos (by omega), hik]
      · rw [if_neg (fun q => hik q.2), hP i hi]
        by_cases hlt : i < k
        · rw [if_pos hlt, if_pos (by omega)]
        · rw [if_neg hlt, if_neg (show ¬ i < k + 1 by omega)]) (fun i hi => by rw [zwL_at, if_neg (fun q => by have := q.1; omega)]; exact hT i hi) hC
    exact ⟨s', e1, sBut_t (sBut_w _ _ _ _) e2, e3⟩
theorem b_replace {s : zS} {r r0 N c : Nat} {ρ τ : Nat → Int} (hr : r < 20) (hr0 : r0 < 20) (hne : r ≠ r0) (hN : N ≤ 6) (hc : 2 + c < N) (h : bRow s (10 + r) N ρ) (hT : bRow s (10 + r0) N τ) (hC : (2 : Int32) + s.1 8 4 = n32 (N : Int)) : ∃ s', D_X0_replaceColumn s (10 + r) (10 + r0) ((2 : Int32) + n32 (c : Int)) = some s' ∧ sBut s s' (10 + r) ∧ bRow s' (10 + r) N (rRep ρ τ c) := by
  have e2 : (2 : Int32) + n32 (c : Int) = n32 ((2 + c : Nat) : Int) := by rw [l32_2, n32_add]; congr 1
  have x0 : (0 : Int32).toNatClampNeg = 0 := by decide
  have f1 : ∀ x, (zwL s (10 + r) (2 + c) x).2 (10 + r) 0 = n64 (ρ 0) := fun x => by
    rw [zwL_at, if_neg (fun q => by have := q.2; omega)]; exact h 0 (by omega)
  have f2 : ∀ x, (zwL s (10 + r) (2 + c) x).2 (10 + r0) 0 = n64 (τ 0) := fun x => by
    rw [zwL_at, if_neg (fun q => by have := q.1; omega)]; exact hT 0 (by omega)
  unfold D_X0_replaceColumn
  rw [e2, zoL9 hr, zgd_t (czin (by omega) (by omega)), zgd_t (czin (by omega) (by omega)), n32_xn (by omega), x0]
  dsimp only
  rw [zgd_t (zoL9_0 hr), zgd_t (zoL9_0 hr0), zgd_t (zoL9_0 hr), f1, f2, n64_mul, h _ hc]
  obtain ⟨s', e1, e3, e4⟩ := rc21 (ρ := ρ) (τ := τ) (c := c) hr hr0 hne hN hc (N - 1) zFU 1 (zwL (zwL s (10 + r) (2 + c) 0) (10 + r) 0 (n64 (ρ 0 * τ 0))) (by omega) (by omega) (zFU_lt (by omega)) (fun i hi => by
      rw [zwL_at]
      by_cases i0 : i = 0
      · rw [if_pos ⟨rfl, i0⟩, if_pos (by omega)]
        unfold rRep
        rw [if_pos i0]
      · rw [if_neg (fun q => i0 q.2), if_neg (by omega), zwL_at]
        by_cases i2 : i = 2 + c
        · rw [if_pos ⟨rfl, i2⟩, if_pos i2]; rfl
        · rw [if_neg (fun q => i2 q.2), if_neg i2]; exact h i hi) (fun i hi => by
      rw [zwL_at, if_neg (fun q => by have := q.1; omega), zwL_at, if_neg (fun q => by have := q.1; omega)]; exact hT i hi) hC
  exact ⟨s', e1, sBut_t (sBut_t (sBut_w _ _ _ _) (sBut_w _ _ _ _)) e3, e4⟩
theorem rep_small {ρ τ : Nat → Int} {C c : Nat} {B K : Int} (hc : c < C) (q1 : 2 * (B * B) < 4611686018427387904) (q2 : 2 * (B * K) < 4611686018427387904) (hB : 1 ≤ B) (hK : 1 ≤ K) (r0 : -B ≤ ρ 0 ∧ ρ 0 ≤ B) (r1 : -K ≤ ρ 1 ∧ ρ 1 ≤ K) (r2 : ∀ j, j < C → -B ≤ ρ (2 + j) ∧ ρ (2 + j) ≤ B) (t0 : -B ≤ τ 0 ∧ τ 0 ≤ B) (t1 : -K ≤ τ 1 ∧ τ 1 ≤ K) (t2 : ∀ j, j < C → -B ≤ τ (2 + j) ∧ τ (2 + j) ≤ B) : ∀ k, k < 2 + C → -4611686018427387904 < rRep ρ τ c k ∧ rRep ρ τ c k < 4611686018427387904 := by
  intro k hk
  have f := r2 c hc
  unfold rRep
  by_cases k0 : k = 0
  · rw [if_pos k0]
    have := abs_mul r0.1 r0.2 t0.1 t0.2
    have := Int.mul_nonneg (show 0 ≤ B by omega) (show 0 ≤ B by omega)
    omega
  · rw [if_neg k0]
    by_cases k2 : k = 2 + c
    · rw [if_pos k2]
      have := abs_mul f.1 f.2 (t2 c hc).1 (t2 c hc).2
      have := Int.mul_nonneg (show 0 ≤ B by omega) (show 0 ≤ B by omega)
      omega
    · rw [if_neg k2]
      by_cases k1 : k = 1
      · subst k1
        have a1 := abs_mul t0.1 t0.2 r1.1 r1.2
        have a2 := abs_mul f.1 f.2 t1.1 t1.2
        rw [Int.mul_comm (τ 0)] at a1
        omega
      · have a1 := abs_mul (r2 (k - 2) (by omega)).1 (r2 (k - 2) (by omega)).2 t0.1 t0.2
        have a2 := abs_mul f.1 f.2 (t2 (k - 2) (by omega)).1 (t2 (k - 2) (by omega)).2
        rw [show 2 + (k - 2) = k by omega] at a1 a2
        omega
theorem bEnc_C {s : zS} {R C : Nat} {rs cs : Nat → Nat} {cell : Nat → Nat → Int} (h : bEnc s R C rs cs cell) : (2 : Int32) + s.1 8 4 = n32 ((2 + C : Nat) : Int) := by
  rw [h.2.2.2.1, l32_2, n32_add]; congr 1
theorem bEnc_I {s s' : zS} {R C : Nat} {rs cs : Nat → Nat} {cell cell' : Nat → Nat → Int} (h : bEnc s R C rs cs cell) (hi : s'.1 = s.1) (hc : ∀ r, r < R → bRow s' (10 + r) (2 + C) (cell' r)) : bEnc s' R C rs cs cell' := by
  obtain ⟨h1, h2, h3, h4, h5, h6, h7, h8, h9⟩ := h
  exact ⟨h1, h2, by rw [hi]; exact h3, by rw [hi]; exact h4, by rw [hi]; exact h5, by rw [hi]; exact h6, hc, h8, h9⟩
theorem b_ex37 {R C : Nat} {rs cs : Nat → Nat} {cell : Nat → Nat → Int} {B K : Int} {r0 c0 : Nat} {τ : Nat → Int} (hs : bSml R C cell B K) (hr0 : r0 < R) (hc0 : c0 < C) (tp : 0 < τ 0) (t0 : -B ≤ τ 0 ∧ τ 0 ≤ B) (t1 : -K ≤ τ 1 ∧ τ 1 ≤ K) (t2 : ∀ j, j < C → -B ≤ τ (2 + j) ∧ τ (2 + j) ≤ B) : ∀ m n k s cell', k + m = R → m < n → bEnc s R C rs cs cell' → cell' r0 = τ → (∀ r, k ≤ r → r ≠ r0 → cell' r = cell r) → (∀ r, r < k → r ≠ r0 → (cell r (2 + c0) ≠ 0 → rgcd (cell' r) (2 + C) = 1) ∧ (cell r (2 + c0) = 0 → cell' r = cell r) ∧ (cell r (2 + c0) ≠ 0 → rLow C (rRep (cell r) τ c0) (cell' r))) →
    ∃ s1 s2 cell2, D_X0_exchange_L37 (n32 (r0 : Int)) (n32 (c0 : Int)) n (n32 (k : Int)) s = some s2 ∧ sAll s s1 ∧ bEnc s1 R C rs cs cell2 ∧ s2 = zwI (zwI s1 30 r0 (n32 (cs c0 : Int))) 31 c0 (n32 (rs r0 : Int)) ∧ cell2 r0 = τ ∧ (∀ r, r < R → r ≠ r0 → (cell r (2 + c0) ≠ 0 → rgcd (cell2 r) (2 + C) = 1) ∧ (cell r (2 + c0) = 0 → cell2 r = cell r) ∧ (cell r (2 + c0) ≠ 0 → rLow C (rRep (cell r) τ c0) (cell2 r))) := by
  obtain ⟨q1, q2, q3, q4, q5⟩ := id hs
  have hB := B_small q1 q3
  have hK := K_small q2 q3 q4
  intro m
  induction m with
  | zero =>
    intro n k s cell' hk hn he hτ hP hQ
    obtain ⟨n, rfl⟩ : ∃ j, n = j + 1 := ⟨n - 1, by omega⟩
    obtain rfl : k = R := by omega
    have h1 := he.1
    have h2 := he.2.1
    refine ⟨s, _, cell', ?_, ⟨rfl, fun _ _ _ => rfl⟩, he, rfl, hτ, hQ⟩
    rw [D_X0_exchange_L37_s]
    unfold D_X0_exchange_B37
    rw [he.2.2.1, zif_t (by rw [c32_le (by omega) (by omega)]; omega), zgd_t (czin (by omega) (by omega)), zgd_t (czin (by omega) (by omega)), zgd_t (czin (by omega) (by omega)), n32_xn (by omega), n32_xn (by omega), he.2.2.2.2.2.1 c0 hc0, he.2.2.2.2.1 r0 hr0]
    dsimp only
    rw [zgd_t (czin (by omega) (by omega))]
  | succ m ih =>
    intro n k s cell' hk hn he hτ hP hQ
    obtain ⟨n, rfl⟩ : ∃ j, n = j + 1 := ⟨n - 1, by omega⟩
    have h1 := he.1
    have h2 := he.2.1
    have ks : n32 (k : Int) + 1 = n32 ((k + 1 : Nat) : Int) := by rw [l32_1, n32_add]; rfl
    rw [D_X0_exchange_L37_s]
    unfold D_X0_exchange_B37
    rw [he.2.2.1, zif_f (by rw [c32_le (by omega) (by omega)]; omega), ks]
    by_cases hkr : k = r0
    · rw [zif_t (by rw [hkr])]
      exact ih n (k + 1) s cell' (by omega) (by omega) he hτ (fun r hr hne => hP r (by omega) hne) (fun r hr hne => by
        exact hQ r (by omega) hne)
    · have hck : cell' k = cell k := hP k (by omega) hkr
      have bf := (q5 k (by omega)).2.2 c0 hc0
      rw [zif_f (by rw [n32_eq (by omega) (by omega) (by omega) (by omega)]; omega), b_factor he (by omega) hc0, zbs, hck, l64_0]
      by_cases hz : cell k (2 + c0) = 0
      · rw [zif_t ((lgc_eq (by omega) (by omega) (by omega) (by omega)).mpr hz)]
        exact ih n (k + 1) s cell' (by omega) (by omega) he hτ (fun r hr hne => hP r (by omega) hne) (fun r hr hne => by
          by_cases hrk : r = k
          · subst hrk
            exact ⟨fun h => absurd hz h, fun _ => hck, fun h => absurd hz h⟩
          · exact hQ r (by omega) hne)
      · rw [zif_f (by rw [lgc_eq (by omega) (by omega) (by omega) (by omega)]; exact hz), zgd_t (czin (by omega) (by omega)), zgd_t (czin (by omega) (by omega)), zT9 k (by omega), zT9 r0 (by omega)]
        have hrow : bRow s (10 + k) (2 + C) (cell k) := by rw [← hck]; exact he.2.2.2.2.2.2.1 k (by omega)
        have hrow0 : bRow s (10 + r0) (2 + C) τ := by rw [← hτ]; exact he.2.2.2.2.2.2.1 r0 hr0
        obtain ⟨s1, e1, f1, g1⟩ := b_replace (c := c0) (show k < 20 by omega) (show r0 < 20 by omega) hkr (show 2 + C ≤ 6 by omega) (by omega) hrow hrow0 (bEnc_C he)
        have hi1 : (2 : Int32) + s1.1 8 4 = n32 ((2 + C : Nat) : Int) := by rw [f1.1]; exact bEnc_C he
        have qk := q5 k (by omega)
        have hp0 : 0 < rRep (cell k) τ c0 0 := by
          unfold rRep
          rw [if_pos rfl]
          exact Int.mul_pos qk.1.1 tp
        obtain ⟨s2, τ', e2, f2, g2, l2, u2⟩ := b_shorten (show k < 20 by omega) (by omega) (show 2 + C ≤ 6 by omega) hp0 (rep_small hc0 q1 q2 q3 q4 (by omega) qk.2.1 qk.2.2 t0 t1 t2) g1 hi1
        rw [e1, zbs, zgd_t (czin (by omega) (by omega)), e2, zbs]
        have f12 := sBut_t f1 f2
        have he' : bEnc s2 R C rs cs (xSwap cell' k τ') := bEnc_I he f12.1 (fun r hr => by
          unfold xSwap
          by_cases hrk : r = k
          · rw [if_pos hrk, hrk]; exact g2
          · rw [if_neg hrk]
            intro i hi
            rw [f12.2 _ _ (by omega)]
            exact he.2.2.2.2.2.2.1 r hr i hi)
        obtain ⟨s3, s4, cell2, i1, i2, i3, i4, i5, i6⟩ := ih n (k + 1) s2 (xSwap cell' k τ') (by omega) (by omega) he' (by unfold xSwap; rw [if_neg (fun q => hkr q.symm)]; exact hτ) (fun r hr hne => by unfold xSwap; rw [if_neg (by omega)]; exact hP r (by omega) hne) (fun r hr hne => by
          unfold xSwap
          by_cases hrk : r = k
          · rw [if_pos hrk, hrk]
            exact ⟨fun _ => u2, fun h => absurd h hz, fun _ => l2⟩
          · rw [if_neg hrk]
            exact hQ r (by omega) hne)
        exact ⟨s3, s4, cell2, i1, sAll_t (sAll_of (by omega) f12) i2, i3, i4, i5, i6⟩
