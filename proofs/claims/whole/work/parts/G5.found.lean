/-! the class finds the row -/
section FS
variable {s : zS} {m σ : Nat} {W : Nat → Int} {q : Int} {r t : Nat → Nat}
theorem bsI_s {s' : zS} {Q : (Nat → Nat) → Prop} (h : bsI s m W q σ Q) (e1 : s'.1 38 8 = s.1 38 8) (e2 : ∀ i, i < m → s'.1 44 i = s.1 44 i) : bsI s' m W q σ Q := by
  rcases h with ⟨a, b⟩ | ⟨t0, p0, a, b, c, d, e, f, g⟩
  · exact Or.inl ⟨e1.trans a, b⟩
  · exact Or.inr ⟨t0, p0, a, b, c, e1.trans d, e, fun i hi => (e2 i hi).trans (f i hi), g⟩
theorem pow13 (hm : m ≤ 5) : 13 ^ m ≤ 371293 := Nat.pow_le_pow_right (show 1 ≤ 13 by decide) hm
theorem c_walk (hm : 1 ≤ m ∧ m ≤ 5) (hσ : σ ≤ 12) : ∀ (d f a3 : Nat) (s : zS) (r : Nat → Nat), cbA 13 m r + d = 13 ^ m → a3 ≤ cbA 13 m r → d < f → vRel s m W q → s.1 38 9 = 0 → (∀ i, i < m → s.1 41 i = n32 (tuV m W q i : Int)) → (∀ i, i < m → s.1 42 i = n32 (r i : Int)) → rSum r m = σ → bsI s m W q σ (fun t => cCode m t < cCode m r) → ∃ s', D_X5_findSameOfSum_L39 f 1 (n32 (a3 : Int)) s = some s' ∧ smF s s' ∧ bsI s' m W q σ (fun _ => True) := by
  have hp13 := pow13 hm.2
  intro d
  induction d using Nat.strongRecOn with
  | _ d ih =>
    intro f a3 s r hd ha hf hv h9 ht hr hs hI
    have hdg : ∀ (t : Nat → Nat), rSum t m = σ → ∀ i, i < m → t i ≤ 12 := fun t h i hi => by have := rs_le (r := t) hi; omega
    have hrd := hdg r hs
    have hlt := cbA_bd (B := 13) m (fun k hk => show r k < 13 by have := hrd k hk; omega)
    obtain ⟨f, rfl⟩ : ∃ j, f = j + 1 := ⟨f - 1, by omega⟩
    obtain ⟨s2, e2, f2, r2, b2⟩ := c_weigh (a3 := n32 (a3 : Int)) (rec39 := fun x y z => D_X5_findSameOfSum_L39 f x y z) hm hσ hv h9 ht hr hs hI
    obtain ⟨hv2, h92⟩ := vRel_k hv h9 f2
    have ht2 : ∀ i, i < m → s2.1 41 i = n32 (tuV m W q i : Int) := fun i hi => (f2.1 41 i (by decide) (by decide) (by decide) (fun z => absurd z (by decide))).trans (ht i hi)
    have he : D_X5_findSameOfSum_L39 (f + 1) 1 (n32 (a3 : Int)) s = D_X5_findSameOfSum_J112 (fun x y z => D_X5_findSameOfSum_L39 f x y z) s2 (n32 (a3 : Int)) := by
      rw [D_X5_findSameOfSum_L39_s]
      unfold D_X5_findSameOfSum_B39
      rw [zif_f (by rw [l32_1000000, n32_le (by omega) (by omega) (by omega) (by omega)]; omega), zif_f (by decide)]
      exact e2
    have hsucc : n32 (a3 : Int) + 1 = n32 ((a3 + 1 : Nat) : Int) := nsuc a3
    rw [he]
    unfold D_X5_findSameOfSum_J112
    rw [hsucc]
    rcases c_next hm hv2.1.1 r2 (fun i hi => by have := hrd i hi; omega) with ⟨hz, en⟩ | ⟨a, h1, h2, h3, hz, s3, en, f3, g3, r3⟩
    · obtain ⟨f, rfl⟩ : ∃ j, f = j + 1 := ⟨f - 1, by omega⟩
      refine ⟨s2, ?_, f2, bsI_imp b2 (fun t k1 _ => nx_none hm.1 hz (fun k hk => ⟨by have := hrd k hk; omega, by have := hdg t k1 k hk; omega⟩) (by omega)) (fun _ _ _ => trivial)⟩
      rw [en, zbs]
      dsimp only
      rw [D_X5_findSameOfSum_L39_s]
      unfold D_X5_findSameOfSum_B39
      rw [zif_f (by rw [l32_1000000, n32_le (by omega) (by omega) (by omega) (by omega)]; omega), zif_t rfl]
    · have hs3 : rSum (nxR m a r) m = σ := (nx_sum h1 h2 h3 hz).trans hs
      have hnd := hdg _ hs3
      have hgt13 : cbA 13 m r < cbA 13 m (nxR m a r) := cbA_lt (d := a - 1) (fun k hk => (nx_lo h2 (by omega)).symm) (by rw [nx_up h2 h1]; omega) m (by omega) (fun k hk => ⟨by have := hrd k hk; omega, by have := hnd k hk; omega⟩)
      have hgt : cCode m r < cCode m (nxR m a r) := cCode_lt (d := a - 1) (fun k hk => (nx_lo h2 (by omega)).symm) (by rw [nx_up h2 h1]; omega) m (by omega) (fun k hk => ⟨by have := hrd k hk; omega, by have := hnd k hk; omega⟩)
      have hlt2 := cbA_bd (B := 13) m (fun k hk => show nxR m a r k < 13 by have := hnd k hk; omega)
      have f3' : smF s2 s3 := ⟨fun c k z _ _ _ => f3 c k z, g3, fun z => (f3 43 0 (by decide)).trans z⟩
      obtain ⟨hv3, h93⟩ := vRel_k hv2 h92 f3'
      obtain ⟨s4, e4, f4, b4⟩ := ih (13 ^ m - cbA 13 m (nxR m a r)) (by omega) f (a3 + 1) s3 (nxR m a r) (by omega) (by omega) (by omega) hv3 h93 (fun i hi => (f3 41 i (by decide)).trans (ht2 i hi)) r3 hs3 (bsI_s (bsI_imp b2 (fun t k1 k2 => by
        refine Classical.byContradiction fun hn => ?_
        have := nx_least (t := t) h1 h2 h3 hz (fun k hk => ⟨by have := hrd k hk; omega, by have := hdg t k1 k hk; omega⟩) (fun k hk => by have := hnd k hk; omega) (by omega) (by omega)
        omega) (fun t _ k2 => by omega)) (f3 38 8 (by decide)) (fun i _ => f3 44 i (by decide)))
      refine ⟨s4, ?_, smF_t f2 (smF_t f3' f4), b4⟩
      rw [en, zbs]
      exact e4
theorem c_lay2 (hm : 1 ≤ m ∧ m ≤ 5) : ∀ (d f k : Nat) (s : zS), k + d = m → d < f → s.1 38 0 = n32 (m : Int) → (∀ i, i < k → s.1 42 i = 0) → ∃ s1, D_X5_findSameOfSum_L2 (n32 (σ : Int)) f (n32 (k : Int)) s = D_X5_findSameOfSum_L39 zFU 1 0 s1 ∧ (∀ c k, c ≠ 42 → s1.1 c k = s.1 c k) ∧ s1.2 = s.2 ∧ ∀ i, i < m → s1.1 42 i = n32 (fsR m σ i : Int) := by
  intro d
  induction d with
  | zero =>
    intro f k s hk hf h0 hz
    obtain ⟨f, rfl⟩ : ∃ j, f = j + 1 := ⟨f - 1, by omega⟩
    obtain rfl : k = m := by omega
    have hlm : n32 (k : Int) - 1 = n32 ((k - 1 : Nat) : Int) := by rw [l32_1, n32_sub]; congr 1; omega
    refine ⟨zwI s 42 (k - 1) (n32 (σ : Int)), ?_, fun c j hc => ?_, rfl, fun i hi => ?_⟩
    · rw [D_X5_findSameOfSum_L2_s]
      unfold D_X5_findSameOfSum_B2
      rw [h0, zif_t (Int32.le_refl _), hlm, zgd_t (czin (by omega) (by omega)), n32_xn (by omega)]
    · rw [zwI_at, if_neg (fun z => hc z.1)]
    · unfold fsR
      by_cases e : i = k - 1
      · rw [zwI_at, if_pos ⟨rfl, e⟩, if_pos e]
      · rw [zwI_row e, if_neg e]; exact hz i hi
  | succ d ih =>
    intro f k s hk hf h0 hz
    obtain ⟨f, rfl⟩ : ∃ j, f = j + 1 := ⟨f - 1, by omega⟩
    obtain ⟨s1, e1, f1, g1, k1⟩ := ih f (k + 1) (zwI s 42 k 0) (by omega) (by omega) (by rw [zwI_at, if_neg (by omega)]; exact h0) (fun i hi => by
      by_cases e : i = k
      · rw [zwI_at, if_pos ⟨rfl, e⟩]
      · rw [zwI_row e]; exact hz i (by omega))
    refine ⟨s1, ?_, fun c j hc => ?_, g1, k1⟩
    · rw [D_X5_findSameOfSum_L2_s]
      unfold D_X5_findSameOfSum_B2
      rw [h0, zif_f (by rw [c32_le (by omega) (by omega)]; omega), zgd_t (czin (by omega) (by omega)), n32_xn (by omega), nsuc]
      exact e1
    · rw [f1 c j hc, zwI_at, if_neg (fun z => hc z.1)]
theorem least_nat {P : Nat → Prop} : ∀ n, P n → ∃ k, P k ∧ ∀ j, P j → k ≤ j := by
  intro n
  induction n using Nat.strongRecOn with
  | _ n ih =>
    intro hn
    by_cases e : ∃ j, j < n ∧ P j
    · obtain ⟨j, h1, h2⟩ := e
      exact ih j h1 h2
    · exact ⟨n, hn, fun j hj => Nat.le_of_not_lt (fun z => e ⟨j, z, hj⟩)⟩
theorem min_ex {p : Nat} (h1 : rSum t m = σ) (h2 : smR m W q t p) : ∃ (t0 : Nat → Nat) (p0 : Nat), rSum t0 m = σ ∧ smR m W q t0 p0 ∧ ∀ t' p', rSum t' m = σ → smR m W q t' p' → p0 < p' ∨ (p0 = p' ∧ cCode m t0 ≤ cCode m t') := by
  obtain ⟨p0, ⟨t1, a1, a2⟩, a3⟩ := least_nat (P := fun p => ∃ t : Nat → Nat, rSum t m = σ ∧ smR m W q t p) p ⟨t, h1, h2⟩
  obtain ⟨c0, ⟨t0, b1, b2, b3⟩, b4⟩ := least_nat (P := fun c => ∃ t : Nat → Nat, rSum t m = σ ∧ smR m W q t p0 ∧ cCode m t = c) (cCode m t1) ⟨t1, a1, a2, rfl⟩
  refine ⟨t0, p0, b1, b2, fun t' p' k1 k2 => ?_⟩
  have := a3 p' ⟨t', k1, k2⟩
  by_cases e : p0 = p'
  · refine Or.inr ⟨e, ?_⟩
    have := b4 (cCode m t') ⟨t', k1, by rw [e]; exact k2, rfl⟩
    omega
  · exact Or.inl (by omega)
/-- of all rows of the sum -/
theorem bs_all (hm : 1 ≤ m ∧ m ≤ 5) (hσ : σ ≤ 12) (hW : ∀ i, i < m → 0 ≤ W i) (h : bsI s m W q σ (fun _ => True)) : (s.1 38 8 = n32 (-1) ∧ ∀ t p, rSum t m = σ → ¬ smR m W q t p) ∨ ∃ (t0 : Nat → Nat) (p0 : Nat), smR m W q t0 p0 ∧ rSum t0 m = σ ∧ s.1 38 8 = n32 (p0 : Int) ∧ (∀ i, i < m → s.1 44 i = n32 (t0 i : Int)) ∧ ∀ t p, rSum t m = σ → smR m W q t p → p0 < p ∨ (p0 = p ∧ cCode m t0 ≤ cCode m t) := by
  have hdg : ∀ (t : Nat → Nat), rSum t m = σ → ∀ i, i < m → t i < 16 := fun t h i hi => by have := rs_le (r := t) hi; omega
  have hrk : ∀ (t0 : Nat → Nat) (p0 : Nat), rSum t0 m = σ → smR m W q t0 p0 → (∀ t' p', rSum t' m = σ → smR m W q t' p' → p0 < p' ∨ (p0 = p' ∧ cCode m t0 ≤ cCode m t')) → rkP m W q t0 := fun t0 p0 a b c => rk_min (by omega) hW (hdg t0 a) b (fun r' _ k1 k2 => by
    rcases c r' p0 (by omega) k2 with z | z
    · omega
    · exact z.2)
  rcases h with ⟨a, b⟩ | ⟨t0, p0, a, b, -, d, e, f, g⟩
  · refine Or.inl ⟨a, fun t p k1 k2 => ?_⟩
    obtain ⟨t0, p0, c1, c2, c3⟩ := min_ex k1 k2
    exact b t0 p0 c1 trivial (hrk t0 p0 c1 c2 c3) c2
  · refine Or.inr ⟨t0, p0, a, b, d, f, fun t p k1 k2 => ?_⟩
    obtain ⟨t1, p1, c1, c2, c3⟩ := min_ex k1 k2
    have g1 := g t1 p1 c1 trivial (hrk t1 p1 c1 c2 c3) c2
    have g2 := c3 t p k1 k2
    omega
theorem c_ofSum (hm : 1 ≤ m ∧ m ≤ 5) (hσ : σ ≤ 12) (hv : vRel s m W q) (h9 : s.1 38 9 = 0) (ht : ∀ i, i < m → s.1 41 i = n32 (tuV m W q i : Int)) (h8 : s.1 38 8 = n32 (-1)) : ∃ s', D_X5_findSameOfSum s (n32 (σ : Int)) = some s' ∧ smF s s' ∧ bsI s' m W q σ (fun _ => True) := by
  have hp13 := pow13 hm.2
  obtain ⟨s1, e1, f1, g1, k1⟩ := c_lay2 (σ := σ) hm m zFU 0 s (by omega) (zFU_lt (by omega)) hv.1.1 (fun i hi => by omega)
  have f1' : smF s s1 := ⟨fun c k z _ _ _ => f1 c k z, g1, fun z => (f1 43 0 (by decide)).trans z⟩
  obtain ⟨hv1, h91⟩ := vRel_k hv h9 f1'
  have hfs := fs_sum (m := m) (σ := σ) hm.1
  have hdg : ∀ (t : Nat → Nat), rSum t m = σ → ∀ i, i < m → t i ≤ 12 := fun t h i hi => by have := rs_le (r := t) hi; omega
  have hb := cbA_bd (B := 13) m (fun k hk => show fsR m σ k < 13 by have := hdg _ hfs k hk; omega)
  obtain ⟨s2, e2, f2, b2⟩ := c_walk (W := W) (q := q) hm hσ (13 ^ m - cbA 13 m (fsR m σ)) zFU 0 s1 (fsR m σ) (by omega) (by omega) (zFU_lt (by omega)) hv1 h91 (fun i hi => (f1 41 i (by decide)).trans (ht i hi)) k1 hfs (Or.inl ⟨(f1 38 8 (by decide)).trans h8, fun t p a b => by
    have := fs_least (t := t) (σ := σ) hm.1 (by omega) (fun k hk => by have := hdg t a k hk; omega) a
    have b' : cCode m t < cCode m (fsR m σ) := b
    omega⟩)
  exact ⟨s2, (show D_X5_findSameOfSum s (n32 (σ : Int)) = _ from e1).trans e2, smF_t f1' f2, b2⟩
/-- from sum to sum -/
theorem c_sums (hm : 1 ≤ m ∧ m ≤ 5) (hW : ∀ i, i < m → 0 ≤ W i) : ∀ (d f σ : Nat) (s : zS), σ + d = 13 → d < f → vRel s m W q → s.1 38 9 = 0 → (∀ i, i < m → s.1 41 i = n32 (tuV m W q i : Int)) → ((s.1 38 8 = n32 (-1) ∧ ∀ t p, rSum t m < σ → ¬ smR m W q t p) ∨ ∃ t0 p0, smA m W q t0 p0 ∧ s.1 38 8 = n32 (p0 : Int) ∧ ∀ i, i < m → s.1 44 i = n32 (t0 i : Int)) → ∃ s', D_X5_findSame_L42 f (n32 (σ : Int)) s = some (zwI s' 38 9 1) ∧ smF s s' ∧ smK s' m W q := by
  intro d
  induction d with
  | zero =>
    intro f σ s hσ hf hv h9 ht hI
    obtain ⟨f, rfl⟩ : ∃ j, f = j + 1 := ⟨f - 1, by omega⟩
    refine ⟨s, ?_, smF_r s, ?_⟩
    · rw [D_X5_findSame_L42_s]
      unfold D_X5_findSame_B42 D_X5_findSame_J67
      rw [l32_12, zif_t (by rw [n32_lt (by omega) (by omega) (by omega) (by omega)]; omega)]
    · rcases hI with ⟨a, b⟩ | h
      · exact Or.inl ⟨a, fun t p hs => b t p (by omega)⟩
      · exact Or.inr h
  | succ d ih =>
    intro f σ s hσ hf hv h9 ht hI
    obtain ⟨f, rfl⟩ : ∃ j, f = j + 1 := ⟨f - 1, by omega⟩
    rcases hI with ⟨a, b⟩ | ⟨t0, p0, a, b, c⟩
    · obtain ⟨s1, e1, f1, b1⟩ := c_ofSum hm (show σ ≤ 12 by omega) hv h9 ht a
      obtain ⟨hv1, h91⟩ := vRel_k hv h9 f1
      obtain ⟨s2, e2, f2, b2⟩ := ih f (σ + 1) s1 (by omega) (by omega) hv1 h91 (fun i hi => (f1.1 41 i (by decide) (by decide) (by decide) (fun z => absurd z (by decide))).trans (ht i hi)) (by
        rcases bs_all hm (by omega) hW b1 with ⟨c1, c2⟩ | ⟨t0, p0, c1, c2, c3, c4, c5⟩
        · refine Or.inl ⟨c1, fun t p hs => ?_⟩
          by_cases e : rSum t m = σ
          · exact c2 t p e
          · exact b t p (by omega)
        · refine Or.inr ⟨t0, p0, ⟨by omega, c1, fun r' p' k1 k2 => ?_⟩, c3, c4⟩
          by_cases e : rSum r' m = σ
          · have := c5 r' p' e k2
            exact Or.inr ⟨by omega, this⟩
          · refine Or.inl ?_
            have : ¬ rSum r' m < σ := fun z => b r' p' z k2
            omega)
      refine ⟨s2, ?_, smF_t f1 f2, b2⟩
      rw [D_X5_findSame_L42_s]
      unfold D_X5_findSame_B42
      rw [l32_12, zif_f (by rw [n32_lt (by omega) (by omega) (by omega) (by omega)]; omega), zif_t (by rw [a]; decide), e1, zbs, nsuc]
      exact e2
    · refine ⟨s, ?_, smF_r s, Or.inr ⟨t0, p0, a, b, c⟩⟩
      have h13 : p0 < 1000 ∨ 1000 ≤ p0 := by omega
      have hne : ¬ s.1 38 8 = -1 := by
        -- a quota of the first row is at most thirteen
        have hle : p0 ≤ 13 := by
          refine Classical.byContradiction fun hn => ?_
          have hk := a.2.2 t0 13 a.1 ⟨by decide, fun S hS => ?_⟩
          · omega
          · have h1 := a.2.1.2 S hS
            have h2 := ld_rs (r := t0) (S := S) m
            have h3 := a.1
            constructor
            · intro z; omega
            · intro z; have := h1.mpr z; omega
        rw [b, show (-1 : Int32) = n32 (-1) by decide, n32_eq (by omega) (by omega) (by omega) (by omega)]; omega
      rw [D_X5_findSame_L42_s]
      unfold D_X5_findSame_B42 D_X5_findSame_J67
      rw [l32_12, zif_f (by rw [n32_lt (by omega) (by omega) (by omega) (by omega)]; omega), zif_f hne]
theorem c_turns15 (hm : 1 ≤ m ∧ m ≤ 5) : ∀ (d f k : Nat) (s : zS), k + d = m → d < f → vRel s m W q → s.1 38 9 = 0 → (∀ i, i < k → s.1 41 i = n32 (tuV m W q i : Int)) → ∃ s', D_X5_findSame_L15 f (n32 (k : Int)) s = D_X5_findSame_L42 zFU 0 s' ∧ (∀ c k, c ≠ 41 → s'.1 c k = s.1 c k) ∧ s'.2 = s.2 ∧ vRel s' m W q ∧ ∀ i, i < m → s'.1 41 i = n32 (tuV m W q i : Int) := by
  intro d
  induction d with
  | zero =>
    intro f k s hk hf hv h9 ht
    obtain ⟨f, rfl⟩ : ∃ j, f = j + 1 := ⟨f - 1, by omega⟩
    obtain rfl : k = m := by omega
    refine ⟨s, ?_, fun _ _ _ => rfl, rfl, hv, ht⟩
    rw [D_X5_findSame_L15_s]
    unfold D_X5_findSame_B15
    rw [hv.1.1, zif_t (Int32.le_refl _)]
  | succ d ih =>
    intro f k s hk hf hv h9 ht
    obtain ⟨f, rfl⟩ : ∃ j, f = j + 1 := ⟨f - 1, by omega⟩
    have hv' : vRel (zwI s 41 k (n32 (tuV m W q k : Int))) m W q := hv
    obtain ⟨s1, e1, f1, g1, v1, k1⟩ := ih f (k + 1) (zwI s 41 k (n32 (tuV m W q k : Int))) (by omega) (by omega) hv' h9 (fun i hi => by
      by_cases e : i = k
      · rw [zwI_at, if_pos ⟨rfl, e⟩, e]
      · rw [zwI_at, if_neg (fun z => e z.2)]; exact ht i (by omega))
    refine ⟨s1, ?_, fun c j hc => ?_, g1, v1, k1⟩
    · have htu : D_X5_turnsOf s (n32 (k : Int)) = some (n32 (tuV m W q k : Int)) := c_turns hv (show k < m by omega)
      rw [D_X5_findSame_L15_s]
      unfold D_X5_findSame_B15
      rw [hv.1.1, zif_f (by rw [c32_le (by omega) (by omega)]; omega), htu, zbs, zgd_t (czin (by omega) (by omega)), n32_xn (by omega), nsuc]
      exact e1
    · rw [f1 c j hc, zwI_at, if_neg (fun z => hc z.1)]
theorem c_find (hm : 1 ≤ m ∧ m ≤ 5) (hv : vRel s m W q) : ∃ s', D_X5_findSame s = some s' ∧ fr (fun i => i = 3) s s' ∧ vRel s' m W q ∧ smK s' m W q := by
  have hW : ∀ i, i < m → 0 ≤ W i := fun i hi => (hv.2.1 i hi).2.2.1
  have h3 : ∀ c k, 38 ≤ c → c ≤ 44 → own c k = 3 := fun c k a b => by
    unfold own
    rw [if_neg (by omega), if_neg (by omega), if_pos (by omega)]
  by_cases h9 : s.1 38 9 = 0
  · have hv0 : vRel (zwI s 38 8 (-1)) m W q := ⟨⟨by rw [zwI_at, if_neg (by omega)]; exact hv.1.1, hv.1.2.1, hv.1.2.2⟩, hv.2.1, ⟨by rw [zwI_at, if_neg (by omega)]; exact hv.2.2.1.1, hv.2.2.1.2⟩, hv.2.2.2.1, Or.inl (by rw [zwI_at, if_neg (by omega)]; exact h9), hv.2.2.2.2.2⟩
    have h90 : (zwI s 38 8 (-1)).1 38 9 = 0 := by rw [zwI_at, if_neg (by omega)]; exact h9
    obtain ⟨s1, e1, f1, g1, v1, k1⟩ := c_turns15 hm m zFU 0 (zwI s 38 8 (-1)) (by omega) (zFU_lt (by omega)) hv0 h90 (fun i hi => by omega)
    obtain ⟨s2, e2, f2, b2⟩ := c_sums hm hW 13 zFU 0 s1 (by omega) (zFU_lt (by omega)) v1 ((f1 38 9 (by decide)).trans h90) k1 (Or.inl ⟨by rw [f1 38 8 (by decide), zwI_at, if_pos ⟨rfl, rfl⟩]; decide, fun t p h => by omega⟩)
    obtain ⟨v2, h92⟩ := vRel_k v1 ((f1 38 9 (by decide)).trans h90) f2
    have hK : smK (zwI s2 38 9 1) m W q := by
      rcases b2 with ⟨a, b⟩ | ⟨r', p', a, b, c⟩
      · exact Or.inl ⟨by rw [zwI_at, if_neg (by omega)]; exact a, b⟩
      · exact Or.inr ⟨r', p', a, by rw [zwI_at, if_neg (by omega)]; exact b, c⟩
    refine ⟨zwI s2 38 9 1, ?_, ⟨fun c k a b => ?_, fun c k _ _ => ?_⟩, ⟨⟨by rw [zwI_at, if_neg (by omega)]; exact v2.1.1, v2.1.2.1, v2.1.2.2⟩, v2.2.1, ⟨by rw [zwI_at, if_neg (by omega)]; exact v2.2.2.1.1, v2.2.2.1.2⟩, v2.2.2.2.1, Or.inr ⟨hm.1, hm.2, hK⟩, v2.2.2.2.2.2⟩, hK⟩
    · unfold D_X5_findSame
      rw [zif_t h9]
      exact e1.trans e2
    · have hc : ¬ (38 ≤ c ∧ c ≤ 44) := fun z => b (h3 c k z.1 z.2)
      rw [zwI_at, if_neg (fun z => by omega), f2.1 c k (by omega) (by omega) (by omega) (fun z => by omega), f1 c k (by omega), zwI_at, if_neg (fun z => by omega)]
    · have : (zwI s2 38 9 1).2 = s2.2 := rfl
      rw [this, f2.2.1, g1]; rfl
  · refine ⟨s, ?_, fr_r _ _, hv, ?_⟩
    · unfold D_X5_findSame
      rw [zif_f h9]
    · rcases hv.2.2.2.2.1 with z | ⟨-, -, z⟩
      · exact absurd z h9
      · exact z
end FS
