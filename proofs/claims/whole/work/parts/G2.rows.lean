/-! rows of a sum, rising -/
section RO
variable {r t : Nat → Nat} {m : Nat}
theorem rs_cg : ∀ n : Nat, (∀ i, i < n → r i = t i) → rSum r n = rSum t n
  | 0, _ => rfl
  | n + 1, h => by rw [rSum, rSum, rs_cg n (fun i hi => h i (by omega)), h n (by omega)]
theorem rs_mono {a : Nat} : ∀ b : Nat, a ≤ b → rSum r a ≤ rSum r b
  | 0, h => by rw [show a = 0 by omega]; exact Nat.le_refl _
  | b + 1, h => by
    by_cases e : a = b + 1
    · rw [e]; exact Nat.le_refl _
    · have := rs_mono b (show a ≤ b by omega)
      rw [rSum]; omega
theorem rs_le {i : Nat} (h : i < m) : r i ≤ rSum r m := by
  have h1 := rs_mono (r := r) m (show i + 1 ≤ m by omega)
  rw [rSum] at h1
  omega
theorem rs_tail {a : Nat} : ∀ b : Nat, a ≤ b → (∀ j, a ≤ j → j < b → r j = 0) → rSum r b = rSum r a
  | 0, h, _ => by rw [show a = 0 by omega]
  | b + 1, h, hz => by
    by_cases e : a = b + 1
    · rw [e]
    · rw [rSum, rs_tail b (by omega) (fun j h1 h2 => hz j h1 (by omega)), hz b (by omega) (by omega)]; rfl
def nxR (m a : Nat) (r : Nat → Nat) (i : Nat) : Nat := if i = m - 1 then r a - 1 else if i = a - 1 then r (a - 1) + 1 else if i = a then 0 else r i
theorem nx_lo {a i : Nat} (hm : a < m) (h : i + 1 < a) : nxR m a r i = r i := by
  unfold nxR
  rw [if_neg (by omega), if_neg (by omega), if_neg (by omega)]
theorem nx_up {a : Nat} (hm : a < m) (h1 : 1 ≤ a) : nxR m a r (a - 1) = r (a - 1) + 1 := by
  unfold nxR
  rw [if_neg (by omega), if_pos rfl]
theorem nx_0 {a i : Nat} (hz : ∀ j, a < j → j < m → r j = 0) (h1 : 1 ≤ a) (h2 : a ≤ i) (h3 : i + 1 < m) : nxR m a r i = 0 := by
  unfold nxR
  rw [if_neg (by omega), if_neg (by omega)]
  split
  · rfl
  · exact hz i (by omega) (by omega)
theorem nx_last {a : Nat} : nxR m a r (m - 1) = r a - 1 := if_pos rfl
theorem nx_sum {a : Nat} (h1 : 1 ≤ a) (ha : a < m) (hr : 1 ≤ r a) (hz : ∀ j, a < j → j < m → r j = 0) : rSum (nxR m a r) m = rSum r m := by
  have e1 : rSum (nxR m a r) m = rSum (nxR m a r) (m - 1) + nxR m a r (m - 1) := by
    rw [show m = (m - 1) + 1 by omega, rSum]; rfl
  have e2 : rSum (nxR m a r) (m - 1) = rSum (nxR m a r) a := rs_tail _ (by omega) (fun j g1 g2 => nx_0 hz h1 g1 (by omega))
  have e3 : rSum (nxR m a r) a = rSum (nxR m a r) (a - 1) + nxR m a r (a - 1) := by
    rw [show a = (a - 1) + 1 by omega, rSum]; rfl
  have e4 : rSum (nxR m a r) (a - 1) = rSum r (a - 1) := rs_cg _ (fun i hi => nx_lo ha (by omega))
  have e5 : rSum r m = rSum r (a + 1) := rs_tail _ (by omega) (fun j g1 g2 => hz j (by omega) g2)
  have e6 : rSum r a = rSum r (a - 1) + r (a - 1) := by
    rw [show a = (a - 1) + 1 by omega, rSum]; rfl
  have e7 : rSum r (a + 1) = rSum r a + r a := rfl
  have e8 := nx_up (r := r) ha h1
  have e9 := nx_last (r := r) (m := m) (a := a)
  omega
theorem first_dif : ∀ n a : Nat, (∀ j, a ≤ j → j < n → t j = 0) ∨ ∃ d, a ≤ d ∧ d < n ∧ t d ≠ 0 ∧ ∀ j, a ≤ j → j < d → t j = 0
  | 0, a => Or.inl (fun j _ h => by omega)
  | n + 1, a => by
    rcases first_dif n a with h | ⟨d, h1, h2, h3, h4⟩
    · by_cases e : a ≤ n ∧ t n ≠ 0
      · exact Or.inr ⟨n, e.1, by omega, e.2, h⟩
      · refine Or.inl (fun j h1 h2 => ?_)
        by_cases e2 : j = n
        · rw [e2]; refine Classical.byContradiction fun z => e ⟨by omega, z⟩
        · exact h j h1 (by omega)
    · exact Or.inr ⟨d, h1, by omega, h3, h4⟩
/-- where a greater row of the same sum differs -/
theorem dif_lt {a d : Nat} (ha : a < m) (hz : ∀ j, a < j → j < m → r j = 0) (hs : rSum t m = rSum r m) (hd : d < m) (h1 : ∀ k, k < d → r k = t k) (h2 : r d < t d) : d < a := by
  refine Classical.byContradiction fun hn => ?_
  have e1 := rs_mono (r := t) m (show d + 1 ≤ m by omega)
  have e2 : rSum t (d + 1) = rSum t d + t d := rfl
  have e3 : rSum r d = rSum t d := rs_cg d h1
  have e4 : rSum r m = rSum r (d + 1) := rs_tail m (by omega) (fun j g1 g2 => hz j (by omega) g2)
  have e5 : rSum r (d + 1) = rSum r d + r d := rfl
  omega
theorem nx_least {a : Nat} (h1 : 1 ≤ a) (ha : a < m) (hr : 1 ≤ r a) (hz : ∀ j, a < j → j < m → r j = 0) (hb : ∀ k, k < m → r k < 16 ∧ t k < 16) (hn : ∀ k, k < m → nxR m a r k < 16) (hs : rSum t m = rSum r m) (h : cCode m r < cCode m t) : cCode m (nxR m a r) ≤ cCode m t := by
  obtain ⟨d, hd, g1, g2⟩ := cCode_dif m hb h
  have hda := dif_lt ha hz hs hd g1 g2
  have hbb : ∀ k, k < m → nxR m a r k < 16 ∧ t k < 16 := fun k hk => ⟨hn k hk, (hb k hk).2⟩
  have hsn := nx_sum h1 ha hr hz
  have hup := nx_up (r := r) ha h1
  by_cases e : d + 1 < a
  · refine Nat.le_of_lt (cCode_lt (d := d) (fun k hk => ?_) ?_ m hd hbb)
    · rw [nx_lo ha (by omega)]; exact g1 k hk
    · rw [nx_lo ha e]; exact g2
  · have e0 : d = a - 1 := by omega
    by_cases e1 : t d = r d + 1
    · have hlow : ∀ k, k < a → nxR m a r k = t k := fun k hk => by
        by_cases e2 : k = a - 1
        · rw [e2, hup, ← e0, e1]
        · rw [nx_lo ha (by omega)]; exact g1 k (by omega)
      rcases first_dif (t := t) (m - 1) a with f | ⟨j, f1, f2, f3, f4⟩
      · -- the same row
        have e3 : rSum t m = rSum t (m - 1) + t (m - 1) := by rw [show m = (m - 1) + 1 by omega, rSum]; rfl
        have e4 : rSum (nxR m a r) m = rSum (nxR m a r) (m - 1) + nxR m a r (m - 1) := by rw [show m = (m - 1) + 1 by omega, rSum]; rfl
        have e5 : rSum t (m - 1) = rSum (nxR m a r) (m - 1) := rs_cg _ (fun i hi => by
          by_cases e6 : i < a
          · exact (hlow i e6).symm
          · rw [f i (by omega) hi, nx_0 hz h1 (by omega) (by omega)])
        refine Nat.le_of_eq (cCode_congr m (fun i hi => ?_))
        by_cases e6 : i < a
        · exact hlow i e6
        · by_cases e7 : i = m - 1
          · rw [e7]; omega
          · rw [f i (by omega) (by omega), nx_0 hz h1 (by omega) (by omega)]
      · refine Nat.le_of_lt (cCode_lt (d := j) (fun k hk => ?_) ?_ m (by omega) hbb)
        · by_cases e6 : k < a
          · exact hlow k e6
          · rw [f4 k (by omega) hk, nx_0 hz h1 (by omega) (by omega)]
        · rw [nx_0 hz h1 f1 (by omega)]; omega
    · refine Nat.le_of_lt (cCode_lt (d := d) (fun k hk => ?_) ?_ m hd hbb)
      · rw [nx_lo ha (by omega)]; exact g1 k hk
      · rw [e0, hup]; rw [e0] at e1 g2; omega
theorem nx_none (hm : 1 ≤ m) (hz : ∀ j, 0 < j → j < m → r j = 0) (hb : ∀ k, k < m → r k < 16 ∧ t k < 16) (hs : rSum t m = rSum r m) : cCode m t ≤ cCode m r := by
  refine Classical.byContradiction fun h => ?_
  obtain ⟨d, hd, g1, g2⟩ := cCode_dif m hb (by omega)
  have := dif_lt (a := 0) (by omega) hz hs hd g1 g2
  omega
def fsR (m σ i : Nat) : Nat := if i = m - 1 then σ else 0
theorem fs_sum {σ : Nat} (hm : 1 ≤ m) : rSum (fsR m σ) m = σ := by
  have e1 : rSum (fsR m σ) m = rSum (fsR m σ) (m - 1) + fsR m σ (m - 1) := by rw [show m = (m - 1) + 1 by omega, rSum]; rfl
  have e2 : rSum (fsR m σ) (m - 1) = rSum (fsR m σ) 0 := rs_tail _ (by omega) (fun j _ g => if_neg (by omega))
  have e3 : fsR m σ (m - 1) = σ := if_pos rfl
  have e4 : rSum (fsR m σ) 0 = 0 := rfl
  omega
theorem fs_least {σ : Nat} (hm : 1 ≤ m) (hσ : σ < 16) (hb : ∀ k, k < m → t k < 16) (hs : rSum t m = σ) : cCode m (fsR m σ) ≤ cCode m t := by
  have hf : ∀ k, k < m → fsR m σ k < 16 ∧ t k < 16 := fun k hk => ⟨by unfold fsR; split <;> omega, hb k hk⟩
  rcases first_dif (t := t) (m - 1) 0 with f | ⟨j, f1, f2, f3, f4⟩
  · refine Nat.le_of_eq (cCode_congr m (fun i hi => ?_))
    have e3 : rSum t m = rSum t (m - 1) + t (m - 1) := by rw [show m = (m - 1) + 1 by omega, rSum]; rfl
    have e2 : rSum t (m - 1) = rSum t 0 := rs_tail _ (by omega) (fun j _ g => f j (by omega) g)
    have e4 : rSum t 0 = 0 := rfl
    unfold fsR
    split
    · next z => rw [z]; omega
    · rw [f i (by omega) (by omega)]
  · refine Nat.le_of_lt (cCode_lt (d := j) (fun k hk => ?_) ?_ m (by omega) hf)
    · rw [f4 k (by omega) hk]; exact if_neg (by omega)
    · rw [show fsR m σ j = 0 from if_neg (by omega)]; omega
/-! codes of any base -/
def cbA (B : Nat) : Nat → (Nat → Nat) → Nat
  | 0, _ => 0
  | k + 1, p => cbA B k p * B + p k
theorem cbA_cg {B : Nat} : ∀ K, (∀ k, k < K → r k = t k) → cbA B K r = cbA B K t
  | 0, _ => rfl
  | K + 1, h => by rw [cbA, cbA, cbA_cg K (fun k hk => h k (by omega)), h K (by omega)]
theorem cbA_bd {B : Nat} : ∀ K, (∀ k, k < K → r k < B) → cbA B K r < B ^ K
  | 0, _ => by rw [Nat.pow_zero]; exact Nat.one_pos
  | K + 1, h => by
    have h1 := cbA_bd K (fun k hk => h k (by omega))
    have h2 := h K (by omega)
    have h3 := Nat.mul_le_mul_right B (show cbA B K r + 1 ≤ B ^ K from h1)
    rw [cbA, Nat.pow_succ]
    rw [Nat.add_mul, Nat.one_mul] at h3
    omega
theorem cbA_lt {B d : Nat} (h1 : ∀ k, k < d → r k = t k) (h2 : r d < t d) : ∀ K, d < K → (∀ k, k < K → r k < B ∧ t k < B) → cbA B K r < cbA B K t
  | 0, h, _ => by omega
  | K + 1, h, hb => by
    rw [cbA, cbA]
    have hk := hb K (by omega)
    by_cases e : d = K
    · rw [cbA_cg K (fun k hk => h1 k (by omega))]
      rw [e] at h2
      omega
    · have h3 := cbA_lt h1 h2 K (by omega) (fun k hk => hb k (by omega))
      have h4 := Nat.mul_le_mul_right B (show cbA B K r + 1 ≤ cbA B K t from h3)
      rw [Nat.add_mul, Nat.one_mul] at h4
      omega
theorem cbA_iff {B : Nat} (hB : B ≤ 16) (hb : ∀ k, k < m → r k < B ∧ t k < B) : cbA B m r < cbA B m t ↔ cCode m r < cCode m t := by
  have hb2 : ∀ k, k < m → r k < 16 ∧ t k < 16 := fun k hk => ⟨by have := hb k hk; omega, by have := hb k hk; omega⟩
  constructor
  · intro h
    refine Classical.byContradiction fun hn => ?_
    by_cases e : cCode m t < cCode m r
    · obtain ⟨d, hd, g1, g2⟩ := cCode_dif m (fun k hk => ⟨(hb2 k hk).2, (hb2 k hk).1⟩) e
      have := cbA_lt (B := B) g1 g2 m hd (fun k hk => ⟨(hb k hk).2, (hb k hk).1⟩)
      omega
    · have := cbA_cg (B := B) m (cCode_inj m hb2 (by omega))
      omega
  · intro h
    obtain ⟨d, hd, g1, g2⟩ := cCode_dif m hb2 h
    exact cbA_lt g1 g2 m hd hb
def dgB (B : Nat) : Nat → Nat → Nat → Nat
  | 0, _, _ => 0
  | K + 1, c, i => if i = K then c % B else dgB B K (c / B) i
theorem dgB_lt {B : Nat} (hB : 1 ≤ B) : ∀ K c i, dgB B K c i < B
  | 0, _, _ => by rw [dgB]; omega
  | K + 1, c, i => by
    rw [dgB]
    split
    · exact Nat.mod_lt _ (by omega)
    · exact dgB_lt hB K _ i
theorem cd_dg {B : Nat} (hB : 1 ≤ B) : ∀ K c, c < B ^ K → cbA B K (dgB B K c) = c
  | 0, c, h => by rw [Nat.pow_zero] at h; rw [cbA]; omega
  | K + 1, c, h => by
    have h1 : c / B < B ^ K := by
      rw [Nat.pow_succ] at h
      exact Nat.div_lt_of_lt_mul (by rw [Nat.mul_comm]; exact h)
    have h2 : cbA B K (dgB B (K + 1) c) = cbA B K (dgB B K (c / B)) := cbA_cg K (fun k hk => if_neg (by omega))
    have h3 : dgB B (K + 1) c K = c % B := if_pos rfl
    rw [cbA, h2, cd_dg hB K _ h1, h3]
    have := Nat.div_add_mod c B
    rw [Nat.mul_comm]; omega
theorem dg_cd {B : Nat} (hB : 1 ≤ B) : ∀ K, (∀ k, k < K → r k < B) → ∀ i, i < K → dgB B K (cbA B K r) i = r i
  | 0, _, i, h => by omega
  | K + 1, hb, i, h => by
    have hk := hb K (by omega)
    have e1 : cbA B (K + 1) r % B = r K := by rw [cbA, Nat.mul_add_mod_self_right, Nat.mod_eq_of_lt hk]
    have e2 : cbA B (K + 1) r / B = cbA B K r := by
      rw [cbA, Nat.add_comm, Nat.add_mul_div_right _ _ (by omega), Nat.div_eq_of_lt hk, Nat.zero_add]
    rw [dgB, e1, e2]
    split
    · next z => rw [z]
    · exact dg_cd hB K (fun k hk => hb k (by omega)) i (by omega)
end RO
