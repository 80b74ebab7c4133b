/-! the class weighs ranked rows -/
section RK
variable {s : zS} {m : Nat} {W : Nat → Int} {q : Int} {r : Nat → Nat}
def rkT (m : Nat) (W : Nat → Int) (q : Int) (r : Nat → Nat) (a b : Nat) : Bool := if tuV m W q a ≤ tuV m W q b then (if tuV m W q b ≤ tuV m W q a then decide (r a ≤ r b) else decide (r a < r b)) else decide (r b < r a)
def rkB (m : Nat) (W : Nat → Int) (q : Int) (r : Nat → Nat) : Bool := zall (fun a => zall (fun b => rkT m W q r a b) (m - (a + 1)) (a + 1)) m 0
theorem rkB_iff : rkB m W q r = true ↔ rkP m W q r := by
  have ht : ∀ a b, rkT m W q r a b = true ↔ (if tuV m W q a ≤ tuV m W q b then (if tuV m W q b ≤ tuV m W q a then r a ≤ r b else r a < r b) else r b < r a) := fun a b => by
    unfold rkT
    split
    · split
      · exact decide_eq_true_iff
      · exact decide_eq_true_iff
    · exact decide_eq_true_iff
  unfold rkB rkP
  rw [zall_iff]
  constructor
  · intro h a b hab hb
    have h1 := h a (by omega) (by omega)
    rw [zall_iff] at h1
    exact (ht a b).mp (h1 b (by omega) (by omega))
  · intro h a _ ha
    rw [zall_iff]
    intro b hab hb
    exact (ht a b).mpr (h a b (by omega) (by omega))
theorem tuV_le {j : Nat} (hm : m < 6) : tuV m W q j ≤ 32 := by
  have hp : 2 ^ m ≤ 32 := Nat.pow_le_pow_right (show 1 ≤ 2 by decide) (show m ≤ 5 by omega)
  have h : ∀ n : Nat, zit (tuF m W q j) n 0 0 ≤ n := by
    intro n
    induction n with
    | zero => exact Nat.le_refl _
    | succ n ih =>
      rw [zit_last, Nat.zero_add]
      generalize zit (tuF m W q j) n 0 0 = z at ih ⊢
      unfold tuF
      split <;> omega
  have := h (2 ^ m)
  unfold tuV
  omega
theorem c_ranked (hm : m < 6) (h0 : s.1 38 0 = n32 (m : Int)) (ht : ∀ i, i < m → s.1 41 i = n32 (tuV m W q i : Int)) (hr : ∀ i, i < m → s.1 42 i = n32 (r i : Int)) (hb : ∀ i, i < m → r i < 100) : D_X5_isRanked s = some (zfl (rkB m W q r)) := by
  have hin : ∀ (rec2 : Int32 → Option Int32) (a : Nat), a < m → D_X5_isRanked_L14 rec2 s (n32 (a : Int)) zFU (n32 ((a + 1 : Nat) : Int)) = if zall (fun b => rkT m W q r a b) (m - (a + 1)) (a + 1) then rec2 (n32 ((a + 1 : Nat) : Int)) else some 0 := fun rec2 a ha => by
    refine zchk (lo := a + 1) (hi := m) (fun f b => D_X5_isRanked_L14 rec2 s (n32 (a : Int)) f (n32 (b : Int))) (fun f b hb1 hb2 => ?_) (fun f => ?_) (m - (a + 1)) zFU (a + 1) (by omega) (by omega) (zFU_lt (by omega))
    · have g1 := tuV_le (W := W) (q := q) (j := a) hm
      have g2 := tuV_le (W := W) (q := q) (j := b) hm
      have g3 := hb a ha
      have g4 := hb b hb2
      have hend : ∀ x : Bool, D_X5_isRanked_J118 rec2 (fun c => D_X5_isRanked_L14 rec2 s (n32 (a : Int)) f c) s (n32 (a : Int)) (n32 (b : Int)) (zfl x) = if x = true then D_X5_isRanked_L14 rec2 s (n32 (a : Int)) f (n32 ((b + 1 : Nat) : Int)) else some 0 := fun x => by
        unfold D_X5_isRanked_J118
        rw [nsuc]
        cases x
        · rw [zb0, if_neg (by decide)]
        · rw [zb1, if_pos rfl]
      try dsimp only
      rw [D_X5_isRanked_L14_s]
      unfold D_X5_isRanked_B14 rkT
      rw [h0, zif_f (by rw [c32_le (by omega) (by omega)]; omega), zgd_t (czin (by omega) (by omega)), zgd_t (czin (by omega) (by omega)), n32_xn (by omega), n32_xn (by omega), ht a ha, ht b hb2, hr a ha, hr b hb2]
      by_cases e1 : tuV m W q a ≤ tuV m W q b
      · rw [zif_t (by rw [c32_le (by omega) (by omega)]; exact e1), zgd_t (czin (by omega) (by omega)), zgd_t (czin (by omega) (by omega)), if_pos e1]
        by_cases e2 : tuV m W q b ≤ tuV m W q a
        · rw [zif_t (by rw [c32_le (by omega) (by omega)]; exact e2), zgd_t (czin (by omega) (by omega)), zgd_t (czin (by omega) (by omega)), if_pos e2]
          by_cases e3 : r a ≤ r b
          · rw [zif_f (by rw [c32_lt (by omega) (by omega)]; omega), decide_eq_true e3]; exact hend true
          · rw [zif_t (by rw [c32_lt (by omega) (by omega)]; omega), decide_eq_false e3]; exact hend false
        · rw [zif_f (by rw [c32_le (by omega) (by omega)]; exact e2), zgd_t (czin (by omega) (by omega)), zgd_t (czin (by omega) (by omega)), if_neg e2]
          by_cases e3 : r a < r b
          · rw [zif_f (by rw [c32_le (by omega) (by omega)]; omega), decide_eq_true e3]; exact hend true
          · rw [zif_t (by rw [c32_le (by omega) (by omega)]; omega), decide_eq_false e3]; exact hend false
      · rw [zif_f (by rw [c32_le (by omega) (by omega)]; exact e1), zgd_t (czin (by omega) (by omega)), zgd_t (czin (by omega) (by omega)), if_neg e1]
        by_cases e3 : r b < r a
        · rw [zif_f (by rw [c32_le (by omega) (by omega)]; omega), decide_eq_true e3]; exact hend true
        · rw [zif_t (by rw [c32_le (by omega) (by omega)]; omega), decide_eq_false e3]; exact hend false
    · try dsimp only
      rw [D_X5_isRanked_L14_s]
      unfold D_X5_isRanked_B14
      rw [h0, zif_t (Int32.le_refl _), nsuc]
  have hout := zchk (p := fun a => zall (fun b => rkT m W q r a b) (m - (a + 1)) (a + 1)) (ok := some (1 : Int32)) (bad := some (0 : Int32)) (lo := 0) (hi := m) (fun f a => D_X5_isRanked_L2 s f (n32 (a : Int))) (fun f a _ ha => by
    try dsimp only
    rw [D_X5_isRanked_L2_s]
    unfold D_X5_isRanked_B2
    rw [h0, zif_f (by rw [c32_le (by omega) (by omega)]; omega), nsuc, hin _ a ha]) (fun f => by
    try dsimp only
    rw [D_X5_isRanked_L2_s]
    unfold D_X5_isRanked_B2
    rw [h0, zif_t (Int32.le_refl _)]) m zFU 0 (by omega) (by omega) (zFU_lt (by omega))
  have hout' : D_X5_isRanked s = _ := hout
  rw [hout']
  unfold rkB
  split
  · next z => rw [z]; rfl
  · next z => rw [Bool.eq_false_iff.mpr z]; rfl
/-- the least quota of a row -/
def qoP (m : Nat) (W : Nat → Int) (q : Int) (r : Nat → Nat) (x : Int) : Prop := (x = -1 ∧ ∀ p, ¬ smR m W q r p) ∨ ∃ p : Nat, x = (p : Int) ∧ p ≤ 13 ∧ smR m W q r p ∧ ∀ p', smR m W q r p' → p ≤ p'
def lhP (m : Nat) (W : Nat → Int) (q : Int) (r : Nat → Nat) (S : Nat) (t : Int × Int) : Prop := (∀ T, T < S → ¬ q ≤ ldV W m T → ldV (fun i => (r i : Int)) m T ≤ t.1) ∧ (t.1 = 0 ∨ ∃ T, T < S ∧ ¬ q ≤ ldV W m T ∧ t.1 = ldV (fun i => (r i : Int)) m T) ∧ (∀ T, T < S → q ≤ ldV W m T → t.2 ≤ ldV (fun i => (r i : Int)) m T) ∧ (t.2 = 13 ∨ ∃ T, T < S ∧ q ≤ ldV W m T ∧ t.2 = ldV (fun i => (r i : Int)) m T)
theorem ld_0 {U : Nat → Int} : ∀ m, ldV U m 0 = 0
  | 0 => rfl
  | m + 1 => by rw [ldV, ld_0 m, Nat.zero_testBit]; rfl
theorem ld_rs {S : Nat} : ∀ m, 0 ≤ ldV (fun i => (r i : Int)) m S ∧ ldV (fun i => (r i : Int)) m S ≤ (rSum r m : Int)
  | 0 => ⟨Int.le_refl _, Int.le_refl _⟩
  | m + 1 => by
    have := ld_rs (S := S) m
    rw [ldV, rSum]
    split <;> omega
theorem lh_end {t : Int × Int} (hs : rSum r m ≤ 12) (h : lhP m W q r (2 ^ m) t) : qoP m W q r (if t.2 ≤ t.1 then -1 else t.1 + 1) := by
  obtain ⟨h1, h2, h3, h4⟩ := h
  have hb := fun S => ld_rs (r := r) (S := S) m
  have hlo : 0 ≤ t.1 ∧ t.1 ≤ 12 := by
    rcases h2 with e | ⟨T, -, -, e⟩
    · omega
    · have := hb T; omega
  by_cases e : t.2 ≤ t.1
  · rw [if_pos e]
    refine Or.inl ⟨rfl, fun p hp => ?_⟩
    rcases h4 with e4 | ⟨T, g1, g2, g3⟩
    · omega
    · have k1 := (hp.2 T g1).mpr g2
      rcases h2 with e2 | ⟨T2, l1, l2, l3⟩
      · have := hp.1; omega
      · exact l2 ((hp.2 T2 l1).mp (by omega))
  · rw [if_neg e]
    refine Or.inr ⟨(t.1 + 1).toNat, by omega, by omega, ⟨by omega, fun S hS => ⟨fun g => ?_, fun g => ?_⟩⟩, fun p' hp => ?_⟩
    · refine Classical.byContradiction fun z => ?_
      have := h1 S hS z
      omega
    · have := h3 S hS g
      omega
    · rcases h2 with e2 | ⟨T2, l1, l2, l3⟩
      · have := hp.1; omega
      · refine Classical.byContradiction fun z => ?_
        exact l2 ((hp.2 T2 l1).mp (by omega))
theorem c_quotaOf (hv : vRel s m W q) (hm : 1 ≤ m ∧ m ≤ 5) (hr : ∀ i, i < m → s.1 42 i = n32 (r i : Int)) (hs : rSum r m ≤ 12) : ∃ s' x, D_X5_quotaOfRow s = some (n32 x, s') ∧ (∀ c k, c ≠ 43 → s'.1 c k = s.1 c k) ∧ s'.2 = s.2 ∧ s'.1 43 0 = 0 ∧ qoP m W q r x := by
  have hp := pow_le8 (show m ≤ 8 by omega)
  have hp5 : 2 ^ m ≤ 32 := Nat.pow_le_pow_right (show 1 ≤ 2 by decide) hm.2
  obtain ⟨s1, e1, f1, g1, k1⟩ := add_up (s := s) (m := m) (K := 5) (a0 := 42) (a2 := 43) (W := fun i => (r i : Int)) rfl rfl (by decide) hm.2 (by decide) hr hv.2.2.2.2.2
  have hv1 : vRel s1 m W q := ⟨⟨(f1 38 0 (by decide)).trans hv.1.1, (f1 66 5 (by decide)).trans hv.1.2.1, hv.1.2.2⟩, fun i hi => ⟨(f1 39 i (by decide)).trans (hv.2.1 i hi).1, (f1 69 i (by decide)).trans (hv.2.1 i hi).2.1, (hv.2.1 i hi).2.2⟩, ⟨(f1 38 1 (by decide)).trans hv.2.2.1.1, (f1 66 7 (by decide)).trans hv.2.2.1.2.1, hv.2.2.1.2.2⟩, fun S hS => (f1 40 S (by decide)).trans (hv.2.2.2.1 S hS), by
      rcases hv.2.2.2.2.1 with e | ⟨a1, a2, a3⟩
      · exact Or.inl ((f1 38 9 (by decide)).trans e)
      · refine Or.inr ⟨a1, a2, ?_⟩
        rcases a3 with ⟨b1, b2⟩ | ⟨r', p', b1, b2, b3⟩
        · exact Or.inl ⟨(f1 38 8 (by decide)).trans b1, b2⟩
        · exact Or.inr ⟨r', p', b1, (f1 38 8 (by decide)).trans b2, fun i hi => (f1 44 i (by decide)).trans (b3 i hi)⟩, by rw [k1 0 (by omega), ld_0]; rfl⟩
  have hb := fun S => ld_rs (r := r) (S := S) m
  have hq := hv.2.2.1.2.2
  obtain ⟨t, hR, -, hE⟩ := zloop (fun f S (t : Int × Int) => D_X5_quotaOfRow_L22 s1 f (n32 t.1) (n32 t.2) (n32 (S : Int))) (2 ^ m) (fun S t => lhP m W q r S t ∧ (0 ≤ t.1 ∧ t.1 ≤ 12) ∧ 0 ≤ t.2 ∧ t.2 ≤ 13) (fun t => some (n32 (if t.2 ≤ t.1 then -1 else t.1 + 1), s1)) (fun t => lhP m W q r (2 ^ m) t) (fun f S t hS hP => by
      obtain ⟨⟨h1, h2, h3, h4⟩, h5, h6⟩ := hP
      have hbS := hb S
      try dsimp only
      rw [D_X5_quotaOfRow_L22_s]
      unfold D_X5_quotaOfRow_B22
      rw [c_allv hv1, zbs, zif_f (by rw [c32_lt (by omega) (by omega)]; omega), l32_32, zif_f (by rw [n32_le (by omega) (by omega) (by omega) (by omega)]; omega), c_win hv1 hS, zbs, zgd_t (czin (by omega) (by omega)), zgd_t (czin (by omega) (by omega)), n32_xn (by omega), k1 S hS, nsuc, zmax_n (by omega) (by omega), zmin_n (by omega) (by omega)]
      by_cases e : q ≤ ldV W m S
      · rw [show vwin m W q S = true from decide_eq_true e, zb1]
        refine ⟨(t.1, if ldV (fun i => (r i : Int)) m S < t.2 then ldV (fun i => (r i : Int)) m S else t.2), ⟨⟨fun T hT hn => ?_, ?_, fun T hT hn => ?_, ?_⟩, h5, ?_⟩, rfl⟩
        · by_cases eT : T = S
          · rw [eT] at hn; exact absurd e hn
          · exact h1 T (by omega) hn
        · rcases h2 with a | ⟨T, b1, b2, b3⟩
          · exact Or.inl a
          · exact Or.inr ⟨T, by omega, b2, b3⟩
        · try dsimp only
          by_cases eT : T = S
          · rw [eT]; split <;> omega
          · have := h3 T (by omega) hn
            split <;> omega
        · try dsimp only
          by_cases e2 : ldV (fun i => (r i : Int)) m S < t.2
          · rw [if_pos e2]; exact Or.inr ⟨S, by omega, e, rfl⟩
          · rw [if_neg e2]
            rcases h4 with a | ⟨T, b1, b2, b3⟩
            · exact Or.inl a
            · exact Or.inr ⟨T, by omega, b2, b3⟩
        · try dsimp only
          split <;> omega
      · rw [show vwin m W q S = false from decide_eq_false e, zb0]
        refine ⟨(if t.1 < ldV (fun i => (r i : Int)) m S then ldV (fun i => (r i : Int)) m S else t.1, t.2), ⟨⟨fun T hT hn => ?_, ?_, fun T hT hn => ?_, ?_⟩, ?_, h6⟩, rfl⟩
        · try dsimp only
          by_cases eT : T = S
          · rw [eT]; split <;> omega
          · have := h1 T (by omega) hn
            split <;> omega
        · try dsimp only
          by_cases e2 : t.1 < ldV (fun i => (r i : Int)) m S
          · rw [if_pos e2]; exact Or.inr ⟨S, by omega, e, rfl⟩
          · rw [if_neg e2]
            rcases h2 with a | ⟨T, b1, b2, b3⟩
            · exact Or.inl a
            · exact Or.inr ⟨T, by omega, b2, b3⟩
        · by_cases eT : T = S
          · rw [eT] at hn; exact absurd hn e
          · exact h3 T (by omega) hn
        · rcases h4 with a | ⟨T, b1, b2, b3⟩
          · exact Or.inl a
          · exact Or.inr ⟨T, by omega, b2, b3⟩
        · try dsimp only
          split <;> omega) (fun f t hP => by
      obtain ⟨h0, h5, h6⟩ := hP
      try dsimp only
      rw [D_X5_quotaOfRow_L22_s]
      unfold D_X5_quotaOfRow_B22 D_X5_quotaOfRow_J78
      rw [c_allv hv1, zbs, zif_t (by rw [c32_lt (by omega) (by omega)]; omega)]
      refine ⟨h0, ?_⟩
      by_cases e : t.2 ≤ t.1
      · rw [if_pos e, zif_t (by rw [n32_le (by omega) (by omega) (by omega) (by omega)]; exact e)]; rfl
      · rw [if_neg e, zif_f (by rw [n32_le (by omega) (by omega) (by omega) (by omega)]; exact e), l32_1, n32_add]) (2 ^ m - 1) zFU 1 (0, 13) (by omega) (zFU_lt (by omega)) ⟨⟨fun T hT hn => by rw [show T = 0 by omega, ld_0]; exact Int.le_refl _, Or.inl rfl, fun T hT hn => by rw [show T = 0 by omega, ld_0] at hn; omega, Or.inl rfl⟩, by decide, by decide⟩
  refine ⟨s1, _, ?_, f1, g1, by rw [k1 0 (by omega), ld_0]; rfl, lh_end hs hR⟩
  unfold D_X5_quotaOfRow
  rw [hv.1.1, e1, zbs]
  exact hE
end RK
