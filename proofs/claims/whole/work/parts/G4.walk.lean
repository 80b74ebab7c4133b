/-! the class walks the rows of a sum -/
theorem h2cp (f g : Nat → Int32) (n j : Nat) (h : j < n) : va_cpy f g 0 0 n j = f j := by
  unfold va_cpy
  rw [if_pos ⟨Nat.zero_le _, by omega⟩, Nat.sub_zero, Nat.zero_add]
theorem zcopy_o {s : zS} {src dst c k : Nat} {sp dp n : Int32} (h : c ≠ dst) : (zcopy s src sp dst dp n).1 c k = s.1 c k := by
  unfold zcopy
  dsimp only
  rw [if_neg h]
theorem zcopy_d {s : zS} {src dst k m : Nat} (hm : m < 2147483648) (h : k < m) : (zcopy s src 0 dst 0 (n32 (m : Int))).1 dst k = s.1 src k := by
  unfold zcopy
  dsimp only
  rw [if_pos rfl, n32_xn hm]
  exact h2cp _ _ _ _ h
section WK
variable {s : zS} {m σ : Nat} {W : Nat → Int} {q : Int} {r t : Nat → Nat}
theorem smR_cg {p : Nat} (h : ∀ i, i < m → r i = t i) (hr : smR m W q r p) : smR m W q t p := by
  have e : ∀ S : Nat, ldV (fun i => (r i : Int)) m S = ldV (fun i => (t i : Int)) m S := fun S => by
    rw [ld_sL, ld_sL]
    refine sL_cg _ (fun i hi => ?_)
    rw [h i (List.mem_range.mp hi)]
  exact ⟨hr.1, fun S hS => by rw [← e S]; exact hr.2 S hS⟩
theorem rkP_cg (h : ∀ i, i < m → r i = t i) (hr : rkP m W q r) : rkP m W q t := fun a b hab hb => by
  have := hr a b hab hb
  rw [h a (by omega), h b hb] at this
  exact this
theorem zwI_row {j : Nat} {x : Int32} {i : Nat} (h : i ≠ j) : (zwI s 42 j x).1 42 i = s.1 42 i := by rw [zwI_at, if_neg (fun z => h z.2)]
theorem c_next7 (hm : 1 ≤ m ∧ m ≤ 5) (h0 : s.1 38 0 = n32 (m : Int)) (hr : ∀ i, i < m → s.1 42 i = n32 (r i : Int)) (hb : ∀ i, i < m → r i < 100) : ∀ a f : Nat, a < m → a < f → (∀ j, a < j → j < m → r j = 0) → ((∀ j, 0 < j → j < m → r j = 0) ∧ D_X5_nextRow_L7 s f (n32 (a : Int)) = some (0, s)) ∨ ∃ a' : Nat, 1 ≤ a' ∧ a' < m ∧ 1 ≤ r a' ∧ (∀ j, a' < j → j < m → r j = 0) ∧ ∃ s', D_X5_nextRow_L7 s f (n32 (a : Int)) = some (1, s') ∧ (∀ c k, c ≠ 42 → s'.1 c k = s.1 c k) ∧ s'.2 = s.2 ∧ ∀ i, i < m → s'.1 42 i = n32 (nxR m a' r i : Int) := by
  intro a
  induction a with
  | zero =>
    intro f _ hf hz
    obtain ⟨f, rfl⟩ : ∃ j, f = j + 1 := ⟨f - 1, by omega⟩
    refine Or.inl ⟨hz, ?_⟩
    rw [D_X5_nextRow_L7_s]
    unfold D_X5_nextRow_B7 D_X5_nextRow_J26
    rw [zif_t (by decide), zif_t (show n32 ((0 : Nat) : Int) = 0 from rfl)]
  | succ a ih =>
    intro f ha hf hz
    obtain ⟨f, rfl⟩ : ∃ j, f = j + 1 := ⟨f - 1, by omega⟩
    have hba := hb (a + 1) ha
    have hba1 := hb a (by omega)
    rw [D_X5_nextRow_L7_s]
    unfold D_X5_nextRow_B7
    rw [l32_0, zif_f (by rw [n32_le (by omega) (by omega) (by omega) (by omega)]; omega), zgd_t (czin (by omega) (by omega)), n32_xn (by omega), hr (a + 1) ha]
    by_cases e : r (a + 1) = 0
    · have hback : n32 ((a + 1 : Nat) : Int) + -1 = n32 (a : Int) := by rw [l32_1, n32_neg, n32_add]; congr 1; omega
      rw [zif_t (by rw [e]; rfl), hback]
      exact ih f (by omega) (by omega) (fun j h1 h2 => by
        by_cases e2 : j = a + 1
        · rw [e2]; exact e
        · exact hz j (by omega) h2)
    · have hpm : n32 ((a + 1 : Nat) : Int) - 1 = n32 (a : Int) := by rw [l32_1, n32_sub]; congr 1; omega
      have hlm : n32 (m : Int) - 1 = n32 ((m - 1 : Nat) : Int) := by rw [l32_1, n32_sub]; congr 1; omega
      refine Or.inr ⟨a + 1, by omega, ha, by omega, hz, zwI (zwI (zwI s 42 (a + 1) 0) 42 a (n32 ((r a + 1 : Nat) : Int))) 42 (m - 1) (n32 ((r (a + 1) - 1 : Nat) : Int)), ?_, fun c k hc => ?_, rfl, fun i hi => ?_⟩
      · rw [zif_f (by rw [n32_eq (by omega) (by omega) (by omega) (by omega)]; omega)]
        unfold D_X5_nextRow_J26
        rw [zif_f (by rw [l32_0, n32_eq (by omega) (by omega) (by omega) (by omega)]; omega), zgd_t (czin (by omega) (by omega)), zgd_t (czin (by omega) (by omega)), n32_xn (by omega), hpm, n32_xn (by omega)]
        dsimp only
        rw [zgd_t (czin (by omega) (by omega)), zgd_t (czin (by omega) (by omega)), zwI_row (show a ≠ a + 1 by omega), hr a (by omega), nsuc, show (zwI (zwI s 42 (a + 1) 0) 42 a (n32 ((r a + 1 : Nat) : Int))).1 38 0 = n32 (m : Int) from h0, hlm, zgd_t (czin (by omega) (by omega)), n32_xn (by omega), hr (a + 1) ha, show n32 (r (a + 1) : Int) - 1 = n32 ((r (a + 1) - 1 : Nat) : Int) by rw [l32_1, n32_sub]; congr 1; omega]
      · rw [zwI_at, if_neg (fun z => hc z.1), zwI_at, if_neg (fun z => hc z.1), zwI_at, if_neg (fun z => hc z.1)]
      · unfold nxR
        rw [show a + 1 - 1 = a by omega]
        by_cases e1 : i = m - 1
        · rw [zwI_at, if_pos ⟨rfl, e1⟩, if_pos e1]
        · rw [zwI_row e1, if_neg e1]
          by_cases e2 : i = a
          · rw [zwI_at, if_pos ⟨rfl, e2⟩, if_pos e2]
          · rw [zwI_row e2, if_neg e2]
            by_cases e3 : i = a + 1
            · rw [zwI_at, if_pos ⟨rfl, e3⟩, if_pos e3]; rfl
            · rw [zwI_row e3, if_neg e3]; exact hr i hi
theorem c_next (hm : 1 ≤ m ∧ m ≤ 5) (h0 : s.1 38 0 = n32 (m : Int)) (hr : ∀ i, i < m → s.1 42 i = n32 (r i : Int)) (hb : ∀ i, i < m → r i < 100) : ((∀ j, 0 < j → j < m → r j = 0) ∧ D_X5_nextRow s = some (0, s)) ∨ ∃ a' : Nat, 1 ≤ a' ∧ a' < m ∧ 1 ≤ r a' ∧ (∀ j, a' < j → j < m → r j = 0) ∧ ∃ s', D_X5_nextRow s = some (1, s') ∧ (∀ c k, c ≠ 42 → s'.1 c k = s.1 c k) ∧ s'.2 = s.2 ∧ ∀ i, i < m → s'.1 42 i = n32 (nxR m a' r i : Int) := by
  have hlm : n32 (m : Int) - 1 = n32 ((m - 1 : Nat) : Int) := by rw [l32_1, n32_sub]; congr 1; omega
  have := c_next7 hm h0 hr hb (m - 1) zFU (by omega) (zFU_lt (by omega)) (fun j h1 h2 => by omega)
  unfold D_X5_nextRow
  rw [h0, hlm]
  exact this
def bsI (s : zS) (m : Nat) (W : Nat → Int) (q : Int) (σ : Nat) (Q : (Nat → Nat) → Prop) : Prop := (s.1 38 8 = n32 (-1) ∧ ∀ t p, rSum t m = σ → Q t → rkP m W q t → ¬ smR m W q t p) ∨ ∃ (t0 : Nat → Nat) (p0 : Nat), smR m W q t0 p0 ∧ rSum t0 m = σ ∧ Q t0 ∧ s.1 38 8 = n32 (p0 : Int) ∧ p0 ≤ 13 ∧ (∀ i, i < m → s.1 44 i = n32 (t0 i : Int)) ∧ ∀ t p, rSum t m = σ → Q t → rkP m W q t → smR m W q t p → p0 < p ∨ (p0 = p ∧ cCode m t0 ≤ cCode m t)
theorem bsI_imp {Q Q' : (Nat → Nat) → Prop} (h : bsI s m W q σ Q) (h1 : ∀ t, rSum t m = σ → Q' t → Q t) (h2 : ∀ t, rSum t m = σ → Q t → Q' t) : bsI s m W q σ Q' := by
  rcases h with ⟨a, b⟩ | ⟨t0, p0, a, b, c, d, e, f, g⟩
  · exact Or.inl ⟨a, fun t p ht hq => b t p ht (h1 t ht hq)⟩
  · exact Or.inr ⟨t0, p0, a, b, h2 t0 b c, d, e, f, fun t p ht hq => g t p ht (h1 t ht hq)⟩
def smF (s s' : zS) : Prop := (∀ c k, c ≠ 42 → c ≠ 43 → c ≠ 44 → (c = 38 → k ≠ 8) → s'.1 c k = s.1 c k) ∧ s'.2 = s.2 ∧ (s.1 43 0 = 0 → s'.1 43 0 = 0)
theorem smF_r (s : zS) : smF s s := ⟨fun _ _ _ _ _ _ => rfl, rfl, fun h => h⟩
theorem smF_t {s s' s'' : zS} (h : smF s s') (h' : smF s' s'') : smF s s'' := ⟨fun c k a b d e => (h'.1 c k a b d e).trans (h.1 c k a b d e), h'.2.1.trans h.2.1, fun z => h'.2.2 (h.2.2 z)⟩
theorem vRel_k {s' : zS} (hv : vRel s m W q) (h9 : s.1 38 9 = 0) (f : smF s s') : vRel s' m W q ∧ s'.1 38 9 = 0 := by
  have o : ∀ c k, c ≠ 42 → c ≠ 43 → c ≠ 44 → (c = 38 → k ≠ 8) → s'.1 c k = s.1 c k := f.1
  have o9 : s'.1 38 9 = 0 := (o 38 9 (by decide) (by decide) (by decide) (by decide)).trans h9
  exact ⟨⟨⟨(o 38 0 (by decide) (by decide) (by decide) (by decide)).trans hv.1.1, (o 66 5 (by decide) (by decide) (by decide) (by decide)).trans hv.1.2.1, hv.1.2.2⟩, fun i hi => ⟨(o 39 i (by decide) (by decide) (by decide) (fun z => absurd z (by decide))).trans (hv.2.1 i hi).1, (o 69 i (by decide) (by decide) (by decide) (fun z => absurd z (by decide))).trans (hv.2.1 i hi).2.1, (hv.2.1 i hi).2.2⟩, ⟨(o 38 1 (by decide) (by decide) (by decide) (by decide)).trans hv.2.2.1.1, (o 66 7 (by decide) (by decide) (by decide) (by decide)).trans hv.2.2.1.2.1, hv.2.2.1.2.2⟩, fun S hS => (o 40 S (by decide) (by decide) (by decide) (fun z => absurd z (by decide))).trans (hv.2.2.2.1 S hS), Or.inl o9, f.2.2 hv.2.2.2.2.2⟩, o9⟩
theorem c_weigh {a3 : Int32} {rec39 : Int32 → Int32 → zS → Option zS} (hm : 1 ≤ m ∧ m ≤ 5) (hσ : σ ≤ 12) (hv : vRel s m W q) (h9 : s.1 38 9 = 0) (ht : ∀ i, i < m → s.1 41 i = n32 (tuV m W q i : Int)) (hr : ∀ i, i < m → s.1 42 i = n32 (r i : Int)) (hs : rSum r m = σ) (hI : bsI s m W q σ (fun t => cCode m t < cCode m r)) : ∃ s2, ((D_X5_isRanked s).bind fun p50 => if p50 = 0 then D_X5_findSameOfSum_J64 rec39 s a3 (-1 : Int32) else (D_X5_quotaOfRow s).bind fun p57 => D_X5_findSameOfSum_J64 rec39 p57.2 a3 p57.1) = D_X5_findSameOfSum_J112 rec39 s2 a3 ∧ smF s s2 ∧ (∀ i, i < m → s2.1 42 i = n32 (r i : Int)) ∧ bsI s2 m W q σ (fun t => cCode m t ≤ cCode m r) := by
  have hdg : ∀ (t : Nat → Nat), rSum t m = σ → ∀ i, i < m → t i ≤ 12 := fun t h i hi => by have := rs_le (r := t) hi; omega
  have hrd := hdg r hs
  have hsame : ∀ (t : Nat → Nat), rSum t m = σ → cCode m t = cCode m r → ∀ i, i < m → t i = r i := fun t h e => cCode_inj m (fun k hk => ⟨by have := hdg t h k hk; omega, by have := hrd k hk; omega⟩) e
  rw [c_ranked (by omega) hv.1.1 ht hr (fun i hi => by have := hrd i hi; omega), zbs]
  -- when this row has nothing to say
  have hno : ∀ s', s'.1 38 8 = s.1 38 8 → (∀ i, i < m → s'.1 44 i = s.1 44 i) → (∀ p, rkP m W q r → ¬ smR m W q r p) → bsI s' m W q σ (fun t => cCode m t ≤ cCode m r) := fun s' e1 e2 hz => by
    rcases hI with ⟨a, b⟩ | ⟨t0, p0, a, b, c, d, e, f, g⟩
    · refine Or.inl ⟨e1.trans a, fun t p k1 k2 k3 k4 => ?_⟩
      by_cases e3 : cCode m t = cCode m r
      · exact hz p (rkP_cg (hsame t k1 e3) k3) (smR_cg (hsame t k1 e3) k4)
      · exact b t p k1 (show cCode m t < cCode m r by have : cCode m t ≤ cCode m r := k2; omega) k3 k4
    · refine Or.inr ⟨t0, p0, a, b, Nat.le_of_lt c, e1.trans d, e, fun i hi => (e2 i hi).trans (f i hi), fun t p k1 k2 k3 k4 => ?_⟩
      by_cases e3 : cCode m t = cCode m r
      · exact absurd (smR_cg (hsame t k1 e3) k4) (hz p (rkP_cg (hsame t k1 e3) k3))
      · exact g t p k1 (show cCode m t < cCode m r by have : cCode m t ≤ cCode m r := k2; omega) k3 k4
  by_cases hrk : rkP m W q r
  · obtain ⟨s1, x, e1, f1, g1, z1, hx⟩ := c_quotaOf hv hm hr (by omega)
    have fk : smF s s1 := ⟨fun c k _ b _ _ => f1 c k b, g1, fun _ => z1⟩
    rw [rkB_iff.mpr hrk, zb1, e1, zbs]
    dsimp only
    unfold D_X5_findSameOfSum_J64
    rcases hx with ⟨rfl, hx⟩ | ⟨p, rfl, hp, hx1, hx2⟩
    · rw [zif_t (show n32 (-1) = -1 by decide)]
      exact ⟨s1, rfl, fk, fun i hi => (f1 42 i (by decide)).trans (hr i hi), hno s1 (f1 38 8 (by decide)) (fun i hi => f1 44 i (by decide)) (fun p _ h => hx p h)⟩
    · have hne : ¬ n32 (p : Int) = -1 := by
        rw [show (-1 : Int32) = n32 (-1) by decide, n32_eq (by omega) (by omega) (by omega) (by omega)]; omega
      rw [zif_f hne, f1 38 8 (by decide)]
      -- when this row is taken
      have htake : (∀ t p', rSum t m = σ → cCode m t < cCode m r → rkP m W q t → smR m W q t p' → p < p') → ∃ s2, D_X5_findSameOfSum_J89 rec39 s1 a3 (n32 (p : Int)) = D_X5_findSameOfSum_J112 rec39 s2 a3 ∧ smF s s2 ∧ (∀ i, i < m → s2.1 42 i = n32 (r i : Int)) ∧ bsI s2 m W q σ (fun t => cCode m t ≤ cCode m r) := fun hlt => by
        have hcok : ∀ m : Nat, m ≤ 5 → zcok 42 0 44 0 (n32 (m : Int)) = true := by decide
        have h380 : (zwI s1 38 8 (n32 (p : Int))).1 38 0 = n32 (m : Int) := by
          rw [zwI_at, if_neg (by omega), f1 38 0 (by decide)]; exact hv.1.1
        refine ⟨zcopy (zwI s1 38 8 (n32 (p : Int))) 42 0 44 0 (n32 (m : Int)), ?_, ⟨fun c k a b d e => ?_, g1, fun _ => z1⟩, fun i hi => ?_, Or.inr ⟨r, p, hx1, hs, Nat.le_refl _, ?_, hp, fun i hi => ?_, fun t p' k1 k2 k3 k4 => ?_⟩⟩
        · unfold D_X5_findSameOfSum_J89
          dsimp only
          rw [h380, zgd_t (hcok m hm.2)]
        · rw [zcopy_o d, zwI_at, if_neg (fun z => e z.1 z.2)]
          exact f1 c k b
        · rw [zcopy_o (by decide), zwI_at, if_neg (by omega), f1 42 i (by decide)]
          exact hr i hi
        · rw [zcopy_o (by decide), zwI_at, if_pos ⟨rfl, rfl⟩]
        · rw [zcopy_d (by omega) hi, zwI_at, if_neg (by omega), f1 42 i (by decide)]
          exact hr i hi
        · by_cases e3 : cCode m t = cCode m r
          · have := hx2 p' (smR_cg (hsame t k1 e3) k4)
            omega
          · exact Or.inl (hlt t p' k1 (show cCode m t < cCode m r by have : cCode m t ≤ cCode m r := k2; omega) k3 k4)
      rcases hI with ⟨a, b⟩ | ⟨t0, p0, a, b, c, d, e, f, g⟩
      · rw [zif_t (by rw [a]; decide)]
        exact htake (fun t p' k1 k2 k3 k4 => absurd k4 (b t p' k1 k2 k3))
      · have hne0 : ¬ s.1 38 8 = -1 := by
          rw [d, show (-1 : Int32) = n32 (-1) by decide, n32_eq (by omega) (by omega) (by omega) (by omega)]; omega
        rw [zif_f hne0, d]
        by_cases e4 : p0 ≤ p
        · rw [zif_t (by rw [c32_le (by omega) (by omega)]; exact e4)]
          refine ⟨s1, rfl, fk, fun i hi => (f1 42 i (by decide)).trans (hr i hi), Or.inr ⟨t0, p0, a, b, Nat.le_of_lt c, (f1 38 8 (by decide)).trans d, e, fun i hi => (f1 44 i (by decide)).trans (f i hi), fun t p' k1 k2 k3 k4 => ?_⟩⟩
          by_cases e3 : cCode m t = cCode m r
          · have := hx2 p' (smR_cg (hsame t k1 e3) k4)
            have : cCode m t0 < cCode m r := c
            omega
          · exact g t p' k1 (show cCode m t < cCode m r by have : cCode m t ≤ cCode m r := k2; omega) k3 k4
        · rw [zif_f (by rw [c32_le (by omega) (by omega)]; exact e4)]
          refine htake (fun t p' k1 k2 k3 k4 => ?_)
          have := g t p' k1 k2 k3 k4
          omega
  · rw [show rkB m W q r = false from Bool.eq_false_iff.mpr (fun z => hrk (rkB_iff.mp z)), zb0]
    unfold D_X5_findSameOfSum_J64
    rw [zif_t rfl]
    exact ⟨s, rfl, smF_r s, hr, hno s rfl (fun _ _ => rfl) (fun p h => absurd h hrk)⟩
end WK
