/-! the reference's matrix of reduced fractions -/
theorem tdiv_ex {a g : Int} (hg : g ≠ 0) (h : g ∣ a) : a.tdiv g = a / g := by
  obtain ⟨k, rfl⟩ := h
  rw [Int.mul_tdiv_cancel_left _ hg, Int.mul_ediv_cancel_left _ hg]
theorem rat_num {a b : Int} (hb : 0 < b) : ((a : Rat) / (b : Rat)).num = a.tdiv (Int.gcd a b : Int) := by
  have hg : (Int.gcd a b : Int) ≠ 0 := by
    intro q
    have := Int.gcd_eq_zero_iff.mp (by exact_mod_cast q)
    omega
  rw [← Rat.divInt_eq_div, Rat.num_divInt, Int.sign_eq_one_of_pos hb, Int.one_mul, Int.gcd_comm, tdiv_ex hg (Int.gcd_dvd_left ..)]
theorem rat_den {a b : Int} (hb : 0 < b) : ((((a : Rat) / (b : Rat)).den : Nat) : Int) = b.tdiv (Int.gcd a b : Int) := by
  have hg : (Int.gcd a b : Int) ≠ 0 := by
    intro q
    have := Int.gcd_eq_zero_iff.mp (by exact_mod_cast q)
    omega
  rw [← Rat.divInt_eq_div, Rat.den_divInt, if_neg (by omega), Int.gcd_comm, tdiv_ex hg (Int.gcd_dvd_right ..), Int.natCast_ediv, show ((b.natAbs : Nat) : Int) = b by omega]
theorem rat_nn' {a b : Int} : ((-a : Int) : Rat) / ((-b : Int) : Rat) = (a : Rat) / (b : Rat) := by
  by_cases q : b = 0
  · subst q; simp [Rat.div_def]
  · have hb : (b : Rat) ≠ 0 := by
      intro h
      exact q (by exact_mod_cast h)
    push_cast
    have e1 : (a : Rat) = (a : Rat) / (b : Rat) * (b : Rat) := (Rat.div_mul_cancel hb).symm
    have e2 : -(a : Rat) = (a : Rat) / (b : Rat) * -(b : Rat) := by grind
    rw [e2, Rat.mul_div_cancel (by grind)]
/-- one cell holds a fraction -/
def rCell (s : zS) (k : Nat) (q : Rat) : Prop := s.2 77 k = n64 q.num ∧ s.2 78 k = n64 ((q.den : Nat) : Int)
def mFrm (s s' : zS) : Prop := s'.1 = s.1 ∧ ∀ c k, c ≠ 77 → c ≠ 78 → s'.2 c k = s.2 c k
theorem mFrm_r (s : zS) : mFrm s s := ⟨rfl, fun _ _ _ _ => rfl⟩
theorem mFrm_t {s s' s'' : zS} (h : mFrm s s') (h' : mFrm s' s'') : mFrm s s'' := ⟨h'.1.trans h.1, fun c k a b => (h'.2 c k a b).trans (h.2 c k a b)⟩
theorem r_put {s : zS} {r c : Nat} {a b : Int} (hr : r < 5) (hc : c < 6) (ha1 : -4611686018427387904 < a) (ha2 : a < 4611686018427387904) (hb1 : -4611686018427387904 < b) (hb2 : b < 4611686018427387904) (hb0 : b ≠ 0) :
    ∃ s', D_X9_put s (n32 (r : Int)) (n32 (c : Int)) (n64 a) (n64 b) = some s' ∧ mFrm s s' ∧ rCell s' (6 * r + c) ((a : Rat) / (b : Rat)) ∧ ∀ k, k ≠ 6 * r + c → s'.2 77 k = s.2 77 k ∧ s'.2 78 k = s.2 78 k := by
  have hg0 : (Int.gcd a b : Int) ≠ 0 := by
    intro q
    have := Int.gcd_eq_zero_iff.mp (by exact_mod_cast q)
    omega
  have hgle : Int.gcd a b ≤ b.natAbs := Nat.le_of_dvd (by omega) (Nat.gcd_dvd_right _ _)
  have hk : (6 : Int32) * n32 (r : Int) + n32 (c : Int) = n32 ((6 * r + c : Nat) : Int) := by
    rw [l32_6, n32_mul, n32_add]; rfl
  have fin : ∀ (x y : Int), s.2 = s.2 → ∃ s', s' = zwL (zwL s 77 (6 * r + c) (n64 x)) 78 (6 * r + c) (n64 y) ∧ mFrm s s' ∧ (s'.2 77 (6 * r + c) = n64 x ∧ s'.2 78 (6 * r + c) = n64 y) ∧ ∀ k, k ≠ 6 * r + c → s'.2 77 k = s.2 77 k ∧ s'.2 78 k = s.2 78 k := fun x y _ => by
    refine ⟨_, rfl, ⟨rfl, fun c' k h1 h2 => ?_⟩, ⟨?_, ?_⟩, fun k hk => ⟨?_, ?_⟩⟩
    · rw [zwL_at, if_neg (fun q => h2 q.1), zwL_at, if_neg (fun q => h1 q.1)]
    · rw [zwL_at, if_neg (fun q => by have := q.1; omega), zwL_at, if_pos ⟨rfl, rfl⟩]
    · rw [zwL_at, if_pos ⟨rfl, rfl⟩]
    · rw [zwL_at, if_neg (fun q => hk q.2), zwL_at, if_neg (fun q => hk q.2)]
    · rw [zwL_at, if_neg (fun q => hk q.2), zwL_at, if_neg (fun q => hk q.2)]
  have hgn : ¬ n64 (Int.gcd a b : Int) = n64 0 := by
    rw [n64_eq (by omega) (by omega) (by omega) (by omega)]; exact hg0
  unfold D_X9_put D_X9_put_J37 D_X9_put_J69
  rw [zgcd9 ha1 ha2 hb1 hb2, zbs, hk, l64_0]
  by_cases hpos : 0 ≤ b
  · rw [zif_t ((lgc_ge (by omega) (by omega) (by omega) (by omega)).mpr hpos), zif_f hgn, zgd_t (czin (by omega) (by omega)), n64_div (by omega) (by omega) (by omega) (by omega), n64_div (by omega) (by omega) (by omega) (by omega), n32_xn (by omega)]
    dsimp only
    rw [zif_t ((lgc_ge (by omega) (by omega) (by omega) (by omega)).mpr hpos), zif_f hgn, zgd_t (czin (by omega) (by omega))]
    obtain ⟨s', e, f1, f2, f3⟩ := fin (a.tdiv (Int.gcd a b : Int)) (b.tdiv (Int.gcd a b : Int)) rfl
    refine ⟨s', by rw [e], f1, ⟨?_, ?_⟩, f3⟩
    · rw [f2.1, rat_num (by omega)]
    · rw [f2.2, rat_den (by omega)]
  · rw [zif_f (by rw [lgc_ge (by omega) (by omega) (by omega) (by omega)]; exact hpos), zif_f hgn, zgd_t (czin (by omega) (by omega)), n64_neg, n64_neg, n64_div (by omega) (by omega) (by omega) (by omega), n64_div (by omega) (by omega) (by omega) (by omega), n32_xn (by omega)]
    dsimp only
    rw [zif_f (by rw [lgc_ge (by omega) (by omega) (by omega) (by omega)]; exact hpos), zif_f hgn, zgd_t (czin (by omega) (by omega))]
    obtain ⟨s', e, f1, f2, f3⟩ := fin ((-a).tdiv (Int.gcd a b : Int)) ((-b).tdiv (Int.gcd a b : Int)) rfl
    have hgg : Int.gcd (-a) (-b) = Int.gcd a b := by unfold Int.gcd; rw [Int.natAbs_neg, Int.natAbs_neg]
    refine ⟨s', by rw [e, n64_div (by omega) (by omega) (by omega) (by omega)], f1, ⟨?_, ?_⟩, f3⟩
    · rw [f2.1, ← rat_nn', rat_num (by omega), hgg]
    · rw [f2.2, ← rat_nn', rat_den (by omega), hgg]
