/-! who stops; shortening a row -/
section BS
variable {s : zS} {R C : Nat} {rs cs : Nat → Nat} {cell : Nat → Nat → Int} {B K : Int}
def isCnd (rs : Nat → Nat) (cell : Nat → Nat → Int) (c r : Nat) : Prop := 0 < rs r ∧ cell r (2 + c) < 0
theorem stpA_trans {c x y z : Nat} (hx : cell x (2 + c) < 0) (hy : cell y (2 + c) < 0) (hz : cell z (2 + c) < 0) (h1 : stpA rs cell c x y) (h2 : stpA rs cell c y z) : stpA rs cell c x z := by
  unfold stpA at *
  generalize cell x 1 = p1 at *
  generalize cell y 1 = p2 at *
  generalize cell z 1 = p3 at *
  obtain ⟨q1, e1⟩ : ∃ q, q = -cell x (2 + c) := ⟨_, rfl⟩
  obtain ⟨q2, e2⟩ : ∃ q, q = -cell y (2 + c) := ⟨_, rfl⟩
  obtain ⟨q3, e3⟩ : ∃ q, q = -cell z (2 + c) := ⟨_, rfl⟩
  rw [← e1, ← e2] at h1
  rw [← e2, ← e3] at h2
  rw [← e1, ← e3]
  have g1 : 0 < q1 := by omega
  have g2 : 0 < q2 := by omega
  have g3 : 0 < q3 := by omega
  have a1 : p1 * q2 ≤ p2 * q1 := by rcases h1 with h | ⟨h, -⟩ <;> omega
  have a2 : p2 * q3 ≤ p3 * q2 := by rcases h2 with h | ⟨h, -⟩ <;> omega
  have b1 : p1 * q2 * q3 ≤ p2 * q1 * q3 := Int.mul_le_mul_of_nonneg_right a1 (by omega)
  have b2 : p2 * q3 * q1 ≤ p3 * q2 * q1 := Int.mul_le_mul_of_nonneg_right a2 (by omega)
  have c1 : q2 * (p1 * q3) ≤ q2 * (p3 * q1) := by
    have e4 : q2 * (p1 * q3) = p1 * q2 * q3 := by grind
    have e5 : q2 * (p3 * q1) = p3 * q2 * q1 := by grind
    have e6 : p2 * q1 * q3 = p2 * q3 * q1 := by grind
    omega
  have c2 : p1 * q3 ≤ p3 * q1 := Int.le_of_mul_le_mul_left c1 g2
  by_cases hlt : p1 * q3 < p3 * q1
  · exact Or.inl hlt
  · have heq : p1 * q3 = p3 * q1 := by omega
    refine Or.inr ⟨heq, ?_⟩
    have d0 : q2 * (p1 * q3) = q2 * (p3 * q1) := by rw [heq]
    have n1 : ¬ p1 * q2 < p2 * q1 := by
      intro h
      have := Int.mul_lt_mul_of_pos_right h g3
      have e4 : q2 * (p1 * q3) = p1 * q2 * q3 := by grind
      have e5 : q2 * (p3 * q1) = p3 * q2 * q1 := by grind
      have e6 : p2 * q1 * q3 = p2 * q3 * q1 := by grind
      omega
    have n2 : ¬ p2 * q3 < p3 * q2 := by
      intro h
      have := Int.mul_lt_mul_of_pos_right h g1
      have e4 : q2 * (p1 * q3) = p1 * q2 * q3 := by grind
      have e5 : q2 * (p3 * q1) = p3 * q2 * q1 := by grind
      have e6 : p2 * q1 * q3 = p2 * q3 * q1 := by grind
      omega
    rcases h1 with h | ⟨-, h⟩
    · exact absurd h n1
    · rcases h2 with h' | ⟨-, h'⟩
      · exact absurd h' n2
      · omega
/-- who stops, of the first n rows -/
def isStp (rs : Nat → Nat) (cell : Nat → Nat → Int) (c n : Nat) (x : Int) : Prop := (x = -1 ∧ ∀ r, r < n → ¬ isCnd rs cell c r) ∨ ∃ a : Nat, x = a ∧ a < n ∧ isCnd rs cell c a ∧ ∀ r, r < n → isCnd rs cell c r → ¬ stpA rs cell c r a
theorem stpA_irr {c x : Nat} : ¬ stpA rs cell c x x := by
  unfold stpA; omega
theorem isStp_skip {c k : Nat} {x : Int} (hP : isStp rs cell c k x) (h : ¬ isCnd rs cell c k) : isStp rs cell c (k + 1) x := by
  rcases hP with ⟨e, p⟩ | ⟨a, e, c1, c2, c3⟩
  · refine Or.inl ⟨e, fun j hj => ?_⟩
    by_cases hjk : j = k
    · subst hjk; exact h
    · exact p j (by omega)
  · refine Or.inr ⟨a, e, by omega, c2, fun j hj hp => ?_⟩
    by_cases hjk : j = k
    · subst hjk; exact absurd hp h
    · exact c3 j (by omega) hp
theorem isStp_keep {c k a : Nat} (hP : isStp rs cell c k (a : Int)) (h : ¬ stpA rs cell c k a) : isStp rs cell c (k + 1) (a : Int) := by
  rcases hP with ⟨e, p⟩ | ⟨a', e, c1, c2, c3⟩
  · omega
  · obtain rfl : a = a' := by omega
    refine Or.inr ⟨a, e, by omega, c2, fun j hj hp => ?_⟩
    by_cases hjk : j = k
    · rw [hjk]; exact h
    · exact c3 j (by omega) hp
theorem isStp_take {c k : Nat} {x : Int} (hP : isStp rs cell c k x) (h : isCnd rs cell c k) (hx : x = -1 ∨ ∃ a : Nat, x = a ∧ stpA rs cell c k a) : isStp rs cell c (k + 1) (k : Int) := by
  refine Or.inr ⟨k, rfl, by omega, h, fun j hj hp => ?_⟩
  by_cases hjk : j = k
  · rw [hjk]; exact stpA_irr
  · rcases hP with ⟨e, p⟩ | ⟨a', e, c1, c2, c3⟩
    · exact absurd hp (p j (by omega))
    · rcases hx with hx | ⟨a, hx, ha⟩
      · omega
      · obtain rfl : a = a' := by omega
        intro q
        exact c3 j (by omega) hp (stpA_trans hp.2 h.2 c2.2 q ha)
theorem b_stp_t (h : bEnc s R C rs cs cell) (hs : bSml R C cell B K) {c : Nat} (hc : c < C) {n k : Nat} {x : Int} (hk : k < R) (hP : isStp rs cell c k x) : ∃ x' : Int, isStp rs cell c (k + 1) x' ∧ D_X0_firstStopping_L4 s (n32 (c : Int)) (n + 1) (n32 x) (n32 (k : Int)) = D_X0_firstStopping_L4 s (n32 (c : Int)) n (n32 x') (n32 ((k + 1 : Nat) : Int)) := by
  obtain ⟨h1, h2, h3, h4, h5, h6, h7, h8, h9⟩ := id h
  obtain ⟨s1, s2, s3, s4, s5⟩ := id hs
  have hB := B_small s1 s3
  have bf := (s5 k hk).2.2 c (by omega)
  have ks : n32 (k : Int) + 1 = n32 ((k + 1 : Nat) : Int) := by rw [l32_1, n32_add]; rfl
  have b8 := h8 k hk
  rw [D_X0_firstStopping_L4_s]
  unfold D_X0_firstStopping_B4 D_X0_firstStopping_J47
  rw [h3, zif_f (by rw [c32_le (by omega) (by omega)]; omega), zgd_t (czin (by omega) (by omega)), n32_xn (by omega), h5 k hk]
  by_cases hr0 : rs k = 0
  · rw [zif_t (by rw [hr0]; decide), ks]
    exact ⟨x, isStp_skip hP (fun q => by have := q.1; omega), rfl⟩
  · rw [zif_f (by rw [l32_0, show (n32 0) = n32 ((0 : Nat) : Int) from rfl, c32_le (by omega) (by omega)]; omega), b_factor h hk hc, zbs, l64_0]
    by_cases hd : 0 ≤ cell k (2 + c)
    · rw [zif_t ((lgc_ge (by omega) (by omega) (by omega) (by omega)).mpr hd), ks]
      exact ⟨x, isStp_skip hP (fun q => by have := q.2; omega), rfl⟩
    · have hcn : isCnd rs cell c k := ⟨by omega, by omega⟩
      rw [zif_f (by rw [lgc_ge (by omega) (by omega) (by omega) (by omega)]; exact hd)]
      rcases id hP with ⟨e, p⟩ | ⟨a, e, c1, c2, c3⟩
      · rw [zif_t (by rw [e]; rfl), ks]
        exact ⟨k, isStp_take hP hcn (Or.inl e), rfl⟩
      · subst e
        rw [zif_f (by rw [l32_m1, n32_eq (by omega) (by omega) (by omega) (by omega)]; omega)]
        rcases b_ahead h hs hk (show a < R by omega) hc with ⟨e1, e2⟩ | ⟨e1, e2⟩
        · rw [e1, zbs, zif_f (by decide), ks]
          exact ⟨k, isStp_take hP hcn (Or.inr ⟨a, rfl, e2⟩), rfl⟩
        · rw [e1, zbs, zif_t rfl, ks]
          exact ⟨a, isStp_keep hP e2, rfl⟩
theorem b_stopping (h : bEnc s R C rs cs cell) (hs : bSml R C cell B K) {c : Nat} (hc : c < C) : ∃ x : Int, D_X0_firstStopping s (n32 (c : Int)) = some (n32 x) ∧ isStp rs cell c R x := by
  have key : ∀ (m n k : Nat) (x : Int), k + m = R → m < n → isStp rs cell c k x → ∃ x' : Int, D_X0_firstStopping_L4 s (n32 (c : Int)) n (n32 x) (n32 (k : Int)) = some (n32 x') ∧ isStp rs cell c R x' := by
    intro m
    induction m with
    | zero =>
      intro n k x hk hn hP
      obtain ⟨n, rfl⟩ : ∃ j, n = j + 1 := ⟨n - 1, by omega⟩
      have : k = R := by omega
      subst this
      refine ⟨x, ?_, hP⟩
      have h1 := h.1
      rw [D_X0_firstStopping_L4_s]
      unfold D_X0_firstStopping_B4
      rw [h.2.2.1, zif_t (by rw [c32_le (by omega) (by omega)]; omega)]
    | succ m ih =>
      intro n k x hk hn hP
      obtain ⟨n, rfl⟩ : ∃ j, n = j + 1 := ⟨n - 1, by omega⟩
      obtain ⟨x', p, e⟩ := b_stp_t (n := n) h hs hc (by omega) hP
      rw [e]
      exact ih n (k + 1) x' (by omega) (by omega) p
  have h1 := h.1
  obtain ⟨x', e, p⟩ := key R zFU 0 (-1) (by omega) (zFU_lt (by omega)) (Or.inl ⟨rfl, fun j hj => by omega⟩)
  refine ⟨x', ?_, p⟩
  unfold D_X0_firstStopping
  rw [l32_m1, l32_0]
  exact e
end BS
/-! a row of the board -/
def bRow (s : zS) (T n : Nat) (ρ : Nat → Int) : Prop := ∀ k, k < n → s.2 T k = n64 (ρ k)
def sBut (s s' : zS) (T : Nat) : Prop := s'.1 = s.1 ∧ ∀ c k, c ≠ T → s'.2 c k = s.2 c k
theorem sBut_w (s : zS) (T k : Nat) (x : Int64) : sBut s (zwL s T k x) T := ⟨rfl, fun c k' hc => by rw [zwL_at, if_neg (fun q => hc q.1)]⟩
theorem sBut_t {s s' s'' : zS} {T : Nat} (h : sBut s s' T) (h' : sBut s' s'' T) : sBut s s'' T := ⟨h'.1.trans h.1, fun c k hc => (h'.2 c k hc).trans (h.2 c k hc)⟩
theorem sBut_r (s : zS) (T : Nat) : sBut s s T := ⟨rfl, fun _ _ _ => rfl⟩
theorem rgcd_at {ρ : Nat → Int} : ∀ {n i : Nat}, i < n → rgcd ρ n ∣ (ρ i).natAbs
  | 0, i, h => by omega
  | n + 1, i, h => by
    by_cases hi : i = n
    · subst hi; exact Nat.gcd_dvd_right _ _
    · exact Nat.dvd_trans (Nat.gcd_dvd_left _ _) (rgcd_at (by omega))
theorem rgcd_pos {ρ : Nat → Int} {n : Nat} (hn : 0 < n) (h : ρ 0 ≠ 0) : 0 < rgcd ρ n ∧ rgcd ρ n ≤ (ρ 0).natAbs := by
  have h1 := rgcd_at (ρ := ρ) hn
  have h2 : 0 < (ρ 0).natAbs := by omega
  exact ⟨Nat.pos_of_dvd_of_pos h1 h2, Nat.le_of_dvd h2 h1⟩
theorem rgcd_one {ρ : Nat → Int} {k : Nat} (h : rgcd ρ k = 1) : ∀ m, rgcd ρ (k + m) = 1
  | 0 => h
  | m + 1 => by
    have := rgcd_one h m
    show Nat.gcd (rgcd ρ (k + m)) _ = 1
    rw [this]; exact Nat.gcd_one_left _
theorem rgcd_mul {ρ τ : Nat → Int} {g : Nat} : ∀ {n : Nat}, (∀ k, k < n → ρ k = (g : Int) * τ k) → rgcd ρ n = g * rgcd τ n
  | 0, _ => by simp [rgcd]
  | n + 1, h => by
    rw [rgcd, rgcd, rgcd_mul (fun k hk => h k (by omega)), h n (by omega), Int.natAbs_mul, Int.natAbs_natCast, Nat.gcd_mul_left]
theorem sh7 {s : zS} {r N : Nat} {ρ : Nat → Int} (hr : r < 20) (hN : N ≤ 6) (h0 : ρ 0 ≠ 0) (hb : ∀ k, k < N → -4611686018427387904 < ρ k ∧ ρ k < 4611686018427387904) (h : bRow s (10 + r) N ρ) (hC : (2 : Int32) + s.1 8 4 = n32 (N : Int)) : ∀ m n k, 1 ≤ k → k + m = N → m < n → D_X0_shorten_L7 s (10 + r) n (n64 (rgcd ρ k : Int)) (n32 (k : Int)) = D_X0_shorten_J39 s (10 + r) (n64 (rgcd ρ N : Int)) := by
  intro m
  induction m with
  | zero =>
    intro n k h1 hk hn
    obtain ⟨n, rfl⟩ : ∃ j, n = j + 1 := ⟨n - 1, by omega⟩
    have : k = N := by omega
    subst this
    rw [D_X0_shorten_L7_s]
    unfold D_X0_shorten_B7
    rw [hC, zif_t (by rw [c32_le (by omega) (by omega)]; omega)]
  | succ m ih =>
    intro n k h1 hk hn
    obtain ⟨n, rfl⟩ : ∃ j, n = j + 1 := ⟨n - 1, by omega⟩
    have hg := rgcd_pos (ρ := ρ) (n := k) (by omega) h0
    have hb0 := hb 0 (by omega)
    rw [D_X0_shorten_L7_s]
    unfold D_X0_shorten_B7
    rw [hC, zif_f (by rw [c32_le (by omega) (by omega)]; omega), l64_1]
    by_cases hg1 : rgcd ρ k = 1
    · rw [zif_t ((lgc_eq (by omega) (by omega) (by omega) (by omega)).mpr (by rw [hg1]; rfl))]
      have := rgcd_one hg1 (m + 1)
      rw [hk] at this
      rw [hg1, this]
    · have hbk := hb k (by omega)
      rw [zif_f (by rw [lgc_eq (by omega) (by omega) (by omega) (by omega)]; omega), zoL9 hr, zgd_t (czin (by omega) (by omega)), n32_xn (by omega), h k (by omega), zgcd8 (by omega) (by omega) (by omega) (by omega), zbs, l32_1, n32_succ]
      have e : Int.gcd (rgcd ρ k : Int) (ρ k) = rgcd ρ (k + 1) := by
        rw [rgcd]; unfold Int.gcd; rw [Int.natAbs_natCast]
      rw [e]
      exact ih n (k + 1) (by omega) (by omega) (by omega)
theorem sh48 {r N : Nat} {ρ : Nat → Int} {g : Int} (hr : r < 20) (hN : N ≤ 6) (hg : 1 < g) (hg2 : g < 4611686018427387904) (hb : ∀ k, k < N → -4611686018427387904 < ρ k ∧ ρ k < 4611686018427387904) : ∀ m n k s, k + m = N → m < n → (∀ i, i < N → s.2 (10 + r) i = n64 (if i < k then (ρ i).tdiv g else ρ i)) → (2 : Int32) + s.1 8 4 = n32 (N : Int) → ∃ s', D_X0_shorten_L48 (10 + r) (n64 g) n (n32 (k : Int)) s = some s' ∧ sBut s s' (10 + r) ∧ bRow s' (10 + r) N (fun i => (ρ i).tdiv g) := by
  intro m
  induction m with
  | zero =>
    intro n k s hk hn hP hC
    obtain ⟨n, rfl⟩ : ∃ j, n = j + 1 := ⟨n - 1, by omega⟩
    have : k = N := by omega
    subst this
    refine ⟨s, ?_, sBut_r _ _, fun i hi => ?_⟩
    · rw [D_X0_shorten_L48_s]
      unfold D_X0_shorten_B48
      rw [hC, zif_t (by rw [c32_le (by omega) (by omega)]; omega)]
    · rw [hP i hi, if_pos hi]
  | succ m ih =>
    intro n k s hk hn hP hC
    obtain ⟨n, rfl⟩ : ∃ j, n = j + 1 := ⟨n - 1, by omega⟩
    have hbk := hb k (by omega)
    rw [D_X0_shorten_L48_s]
    unfold D_X0_shorten_B48
    rw [hC, zif_f (by rw [c32_le (by omega) (by omega)]; omega), zoL9 hr, zgd_t (czin (by omega) (by omega)), zif_f (by rw [l64_0, n64_eq (by omega) (by omega) (by omega) (by omega)]; omega), zgd_t (czin (by omega) (by omega)), n32_xn (by omega), hP k (by omega), if_neg (by omega), n64_div (by omega) (by omega) (by omega) (by omega), l32_1, n32_succ]
    dsimp only
    obtain ⟨s', e1, e2, e3⟩ := ih n (k + 1) (zwL s (10 + r) k (n64 ((ρ k).tdiv g))) (by omega) (by omega) (fun i hi => by
      rw [zwL_at]
      by_cases hik : i = k
      · rw [if_pos ⟨rfl, hik⟩, if_pos (by omega), hik]
      · rw [if_neg (fun q => hik q.2), hP i hi]
        by_cases hlt : i < k
        · rw [if_pos hlt, if_pos (by omega)]
        · rw [if_neg hlt, if_neg (by omega)]) hC
    exact ⟨s', e1, sBut_t (sBut_w _ _ _ _) e2, e3⟩
theorem b_shorten {s : zS} {r N : Nat} {ρ : Nat → Int} (hr : r < 20) (hN1 : 1 ≤ N) (hN : N ≤ 6) (h0 : 0 < ρ 0) (hb : ∀ k, k < N → -4611686018427387904 < ρ k ∧ ρ k < 4611686018427387904) (h : bRow s (10 + r) N ρ) (hC : (2 : Int32) + s.1 8 4 = n32 (N : Int)) : ∃ s' τ, D_X0_shorten s (10 + r) = some s' ∧ sBut s s' (10 + r) ∧ bRow s' (10 + r) N τ ∧ (∃ g : Int, 0 < g ∧ ∀ k, k < N → ρ k = g * τ k) ∧ rgcd τ N = 1 := by
  have hg := rgcd_pos (ρ := ρ) (n := N) (by omega) (by omega)
  have hb0 := hb 0 (by omega)
  have fin : ∀ τ : Nat → Int, (∀ k, k < N → ρ k = (rgcd ρ N : Int) * τ k) → rgcd τ N = 1 := fun τ hτ => by
    have := rgcd_mul hτ
    have h2 : rgcd ρ N * rgcd τ N = rgcd ρ N * 1 := by omega
    exact Nat.eq_of_mul_eq_mul_left hg.1 h2
  have e7 := sh7 hr hN (by omega) hb h hC (N - 1) zFU 1 (by omega) (by omega) (zFU_lt (by omega))
  have e0 : D_X0_shorten s (10 + r) = D_X0_shorten_J39 s (10 + r) (n64 (rgcd ρ N : Int)) := by
    have e1 : (rgcd ρ 1 : Int) = ρ 0 := by
      simp only [rgcd, Nat.gcd_zero_left]; omega
    unfold D_X0_shorten
    rw [zoL9 hr, zgd_t (by decide)]
    have e2 : s.2 (10 + r) (0 : Int32).toNatClampNeg = n64 (ρ 0) := h 0 (by omega)
    rw [e2, ← e1]
    exact e7
  rw [e0]
  unfold D_X0_shorten_J39
  rw [l64_1]
  by_cases hg1 : rgcd ρ N ≤ 1
  · have hg2 : rgcd ρ N = 1 := by omega
    rw [zif_t ((lgc_le (by omega) (by omega) (by omega) (by omega)).mpr (by omega))]
    exact ⟨s, ρ, rfl, sBut_r _ _, h, ⟨1, by omega, fun k hk => by omega⟩, hg2⟩
  · rw [zif_f (by rw [lgc_le (by omega) (by omega) (by omega) (by omega)]; omega)]
    obtain ⟨s', e1, e2, e3⟩ := sh48 (g := (rgcd ρ N : Int)) hr hN (by omega) (by omega) hb N zFU 0 s (by omega) (zFU_lt (by omega)) (fun i hi => by rw [if_neg (by omega)]; exact h i hi) hC
    have hdiv : ∀ k, k < N → ρ k = (rgcd ρ N : Int) * (ρ k).tdiv (rgcd ρ N : Int) := fun k hk => by
      have hd : (rgcd ρ N : Int) ∣ ρ k := Int.natAbs_dvd_natAbs.mp (by rw [Int.natAbs_natCast]; exact rgcd_at hk)
      rw [Int.mul_tdiv_cancel' hd]
    exact ⟨s', _, e1, e2, e3, ⟨(rgcd ρ N : Int), by omega, hdiv⟩, fin _ hdiv⟩
