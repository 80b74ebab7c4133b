/-! rising rows of numbers, in their order -/
def cCode : Nat → (Nat → Nat) → Nat
  | 0, _ => 0
  | k + 1, p => cCode k p * 16 + p k
/-- rising, from o on, the k-th at most t + k -/
def cInc (K t o : Nat) (p : Nat → Nat) : Prop := (∀ k, k + 1 < K → p k < p (k + 1)) ∧ ∀ k, k < K → o ≤ p k ∧ p k ≤ t + k
theorem cCode_congr {p q : Nat → Nat} : ∀ K, (∀ k, k < K → p k = q k) → cCode K p = cCode K q
  | 0, _ => rfl
  | K + 1, h => by rw [cCode, cCode, cCode_congr K (fun k hk => h k (by omega)), h K (by omega)]
theorem cCode_le {p q : Nat → Nat} : ∀ K, (∀ k, k < K → p k ≤ q k) → cCode K p ≤ cCode K q
  | 0, _ => Nat.le_refl _
  | K + 1, h => by
    have h1 := cCode_le K (fun k hk => h k (by omega))
    have h2 := h K (by omega)
    rw [cCode, cCode]; omega
theorem cCode_bd {p : Nat → Nat} : ∀ K, (∀ k, k < K → p k < 16) → cCode K p < 16 ^ K
  | 0, _ => by rw [cCode]; decide
  | K + 1, h => by
    have h1 := cCode_bd K (fun k hk => h k (by omega))
    have h2 := h K (by omega)
    rw [cCode, Nat.pow_succ]; omega
theorem cCode_inj {p q : Nat → Nat} : ∀ K, (∀ k, k < K → p k < 16 ∧ q k < 16) → cCode K p = cCode K q → ∀ k, k < K → p k = q k
  | 0, _, _, k, hk => by omega
  | K + 1, hb, h, k, hk => by
    rw [cCode, cCode] at h
    have h2 := hb K (by omega)
    have e1 : cCode K p = cCode K q := by omega
    by_cases e : k = K
    · subst e; omega
    · exact cCode_inj K (fun k hk => hb k (by omega)) e1 k (by omega)
/-- the first place where they differ -/
theorem cCode_dif {p q : Nat → Nat} : ∀ K, (∀ k, k < K → p k < 16 ∧ q k < 16) → cCode K p < cCode K q → ∃ d, d < K ∧ (∀ k, k < d → p k = q k) ∧ p d < q d
  | 0, _, h => absurd h (Nat.lt_irrefl _)
  | K + 1, hb, h => by
    rw [cCode, cCode] at h
    have h2 := hb K (by omega)
    by_cases e : cCode K p < cCode K q
    · obtain ⟨d, a, b, c⟩ := cCode_dif K (fun k hk => hb k (by omega)) e
      exact ⟨d, by omega, b, c⟩
    · by_cases e2 : cCode K q < cCode K p
      · omega
      · have e3 : cCode K p = cCode K q := by omega
        by_cases e4 : ∀ k, k < K → p k = q k
        · exact ⟨K, by omega, e4, by omega⟩
        · exfalso
          have hne := cCode_inj K (fun k hk => hb k (by omega)) e3
          exact e4 hne
theorem cCode_lt {p q : Nat → Nat} {d : Nat} (h1 : ∀ k, k < d → p k = q k) (h2 : p d < q d) : ∀ K, d < K → (∀ k, k < K → p k < 16 ∧ q k < 16) → cCode K p < cCode K q
  | 0, h, _ => by omega
  | K + 1, h, hb => by
    rw [cCode, cCode]
    have h3 := hb K (by omega)
    by_cases e : d = K
    · subst e
      rw [cCode_congr d h1]; omega
    · have := cCode_lt h1 h2 K (by omega) (fun k hk => hb k (by omega))
      omega
/-- the next row: one more at a place, and behind it each one more than the one ahead -/
def cNext (p : Nat → Nat) (a : Nat) : Nat → Nat := fun k => if k < a then p k else p a + 1 + (k - a)
theorem cNext_ok {K t o a : Nat} {p : Nat → Nat} (hK : t + K ≤ 16) (hp : cInc K t o p) (ha : a < K) (hlt : p a < t + a) (hge : ∀ k, a < k → k < K → p k = t + k) :
    cInc K t o (cNext p a) ∧ cCode K p < cCode K (cNext p a) ∧ ∀ q, cInc K t o q → cCode K q < cCode K (cNext p a) → cCode K q ≤ cCode K p := by
  have hn : cInc K t o (cNext p a) := by
    refine ⟨fun k hk => ?_, fun k hk => ?_⟩
    · unfold cNext
      by_cases e : k + 1 < a
      · rw [if_pos (by omega), if_pos e]; exact hp.1 k hk
      · by_cases e2 : k < a
        · obtain rfl : k + 1 = a := by omega
          rw [if_pos e2, if_neg (by omega)]
          have := hp.1 k hk
          omega
        · rw [if_neg e2, if_neg (by omega)]; omega
    · unfold cNext
      have hpk := hp.2 k hk
      have hpa := hp.2 a ha
      by_cases e : k < a
      · rw [if_pos e]; exact hpk
      · rw [if_neg e]; omega
  have hb : ∀ q, cInc K t o q → ∀ k, k < K → q k < 16 := fun q hq k hk => by
    have := (hq.2 k hk).2
    omega
  refine ⟨hn, cCode_lt (d := a) (fun k hk => by unfold cNext; rw [if_pos hk]) (by unfold cNext; rw [if_neg (by omega)]; omega) K ha (fun k hk => ⟨hb _ hp k hk, hb _ hn k hk⟩), fun q hq hlt2 => ?_⟩
  by_cases e : cCode K q ≤ cCode K p
  · exact e
  · exfalso
    obtain ⟨d, d1, d2, d3⟩ := cCode_dif K (fun k hk => ⟨hb _ hp k hk, hb _ hq k hk⟩) (show cCode K p < cCode K q by omega)
    by_cases e1 : a < d
    · have := hge d e1 d1
      have := (hq.2 d d1).2
      omega
    · by_cases e2 : d < a
      · have := cCode_lt (p := cNext p a) (q := q) (d := d) (fun k hk => by unfold cNext; rw [if_pos (by omega)]; exact d2 k hk) (by unfold cNext; rw [if_pos e2]; exact d3) K d1 (fun k hk => ⟨hb _ hn k hk, hb _ hq k hk⟩)
        omega
      · obtain rfl : d = a := by omega
        have hstep : ∀ m, d + m < K → p d + 1 + m ≤ q (d + m) := by
          intro m
          induction m with
          | zero => intro _; exact d3
          | succ m ih =>
            intro h
            have h1 := ih (by omega)
            have h2 := hq.1 (d + m) (by omega)
            rw [Nat.add_assoc] at h2
            omega
        have := cCode_le (p := cNext p d) (q := q) K (fun k hk => by
          unfold cNext
          by_cases e3 : k < d
          · rw [if_pos e3]; exact Nat.le_of_eq (d2 k e3)
          · rw [if_neg e3]
            have := hstep (k - d) (by omega)
            rw [show d + (k - d) = k by omega] at this
            exact this)
        omega
theorem cLast {K t o : Nat} {p : Nat → Nat} (hge : ∀ k, k < K → p k = t + k) : ∀ q, cInc K t o q → cCode K q ≤ cCode K p := fun q hq => cCode_le K (fun k hk => by rw [hge k hk]; exact (hq.2 k hk).2)
theorem cInc_bd {K t o : Nat} {p : Nat → Nat} (hK : t + K ≤ 16) (hp : cInc K t o p) : ∀ k, k < K → p k < 16 := fun k hk => by
  have := (hp.2 k hk).2
  omega
