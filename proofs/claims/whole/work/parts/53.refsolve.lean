/-! the reference's elimination whole -/
section SV
variable {n : Nat} {m : Nat → Nat → Int} {M0 : Nat → Nat → Rat} {Q V : Int}
/-- numbers that fit for the elimination -/
def sFit (Q V : Int) : Prop := 30 * (75 * (Q * V) * (15 * Q)) < 4611686018427387904 ∧ 15 * (15 * Q * (15 * Q)) < 4611686018427387904
theorem sIv_qSm {j : Nat} {B : Nat → Nat → Int} {q : Nat → Nat → Rat} (h : sIv n j M0 B q) (hm : sMt m M0 Q V) (hn : n ≤ 5) : qSm n q (75 * (Q * V)).toNat (15 * Q).toNat := fun r hr c hc => sIv_small h hm (by omega) hc
theorem sFit_n (hf : sFit Q V) (hQ : 1 ≤ Q) (hV : 1 ≤ V) : 15 ≤ (75 * (Q * V)).toNat ∧ 15 ≤ (15 * Q).toNat ∧ 30 * ((75 * (Q * V)).toNat * (15 * Q).toNat) < 4611686018427387904 ∧ 15 * ((15 * Q).toNat * (15 * Q).toNat) < 4611686018427387904 := by
  have h1 : 1 ≤ Q * V := by
    have := Int.mul_le_mul_of_nonneg_left hV (show (0 : Int) ≤ Q by omega)
    omega
  obtain ⟨f1, f2⟩ := hf
  refine ⟨by omega, by omega, ?_, ?_⟩
  · have : ((30 * ((75 * (Q * V)).toNat * (15 * Q).toNat) : Nat) : Int) < 4611686018427387904 := by
      push_cast
      rw [show ((75 * (Q * V)).toNat : Int) = 75 * (Q * V) by omega, show ((15 * Q).toNat : Int) = 15 * Q by omega]
      exact f1
    omega
  · have : ((15 * ((15 * Q).toNat * (15 * Q).toNat) : Nat) : Int) < 4611686018427387904 := by
      push_cast
      rw [show ((15 * Q).toNat : Int) = 15 * Q by omega]
      exact f2
    omega
/-- one column -/
theorem rs_col {j : Nat} {B : Nat → Nat → Int} {q : Nat → Nat → Rat} {rec2 : Int32 → zS → Option (Int32 × zS)} (hm : sMt m M0 Q V) (hfit : sFit Q V) (hn : n ≤ 5) (hj : j < n) (h : sIv n j M0 B q) {s : zS} (he : mE s n q) :
    ∀ d f p, j ≤ p → p + d = n → d < f → (∀ i, j ≤ i → i < p → q i j = 0) → (D_X9_solve_L9 rec2 s (n32 (n : Int)) (n32 (j : Int)) f (n32 (p : Int)) = some (n32 0, s) ∧ ∀ i, j ≤ i → i < n → q i j = 0) ∨
      ∃ s' B' q', D_X9_solve_L9 rec2 s (n32 (n : Int)) (n32 (j : Int)) f (n32 (p : Int)) = rec2 (n32 ((j + 1 : Nat) : Int)) s' ∧ mFrm s s' ∧ sIv n (j + 1) M0 B' q' ∧ mE s' n q' := by
  obtain ⟨u1, u2, u3, u4⟩ := sFit_n hfit hm.2.2.2.1 hm.2.2.2.2
  intro d
  induction d with
  | zero =>
    intro f p hjp hp hf hz
    obtain ⟨f, rfl⟩ : ∃ t, f = t + 1 := ⟨f - 1, by omega⟩
    obtain rfl : p = n := by omega
    refine Or.inl ⟨?_, hz⟩
    rw [D_X9_solve_L9_s]
    unfold D_X9_solve_B9 D_X9_solve_J36
    rw [zif_t (Int32.le_refl _), zif_t rfl]
    rfl
  | succ d ih =>
    intro f p hjp hp hf hz
    obtain ⟨f, rfl⟩ : ∃ t, f = t + 1 := ⟨f - 1, by omega⟩
    rw [D_X9_solve_L9_s]
    unfold D_X9_solve_B9
    have hc := he p (by omega) j (by omega)
    have hb := sIv_qSm h hm hn p (by omega) j (by omega)
    rw [if_pos (by omega)] at hb
    have hb1 := natb hb.1
    rw [zif_f (by rw [c32_le (by omega) (by omega)]; omega), zgd_t (ix6z (by omega) (by omega)), ix6n (by omega) (by omega), hc.1]
    by_cases hq : q p j = 0
    · rw [zif_t (by rw [hq]; decide), nsuc]
      exact ih f (p + 1) (by omega) (by omega) (by omega) (fun i h1 h2 => by
        by_cases e : i = p
        · rw [e]; exact hq
        · exact hz i h1 (by omega))
    · right
      rw [zif_f (by rw [l64_0, lgc_eq (by omega) (by omega) (by omega) (by omega)]; exact fun e => hq (Rat.num_eq_zero.mp e))]
      unfold D_X9_solve_J36
      rw [zif_f (by rw [n32_eq (by omega) (by omega) (by omega) (by omega)]; omega)]
      have hp5 : p < n := by omega
      have hqj : qSwp j p q j j = q p j := by unfold qSwp zswp; rw [if_pos rfl]
      have hsw : ∀ r, r < n → zswp j p r < n := fun r hr => by unfold zswp; (split; exact hp5; (split <;> omega))
      have hI := sIv_step h hm hn hjp hp5 hq
      have hS := sIv_qSm h hm hn
      have hS1 : qSm n (qSwp j p q) (75 * (Q * V)).toNat (15 * Q).toNat := fun r hr c hc => hS _ (hsw r hr) c hc
      have hS2 := sIv_qSm hI hm hn
      obtain ⟨s1, f1, g1, e1⟩ := rs46 (q := q) (rec2 := rec2) hn hj hp5 6 zFU 0 s (by omega) (zFU_lt (by omega)) (mE_ext he (fun r hr c hc => by (try dsimp only); rw [if_neg (by omega)]))
      obtain ⟨s2, f2, g2, e2⟩ := rs192 (q := qSwp j p q) (rec2 := rec2) hn hj hS1 u1 u2 u3 (by rw [hqj]; exact hq) (6 - j) zFU j s1 (Nat.le_refl _) (by omega) (zFU_lt (by omega)) (mE_ext g1 (fun r hr c hc => by (try dsimp only); rw [if_neg (by omega)]))
      have hz0 : ∀ c, c < j → qSwp j p q j c = 0 := fun c hc => by
        unfold qSwp
        rw [show zswp j p j = p by unfold zswp; rw [if_pos rfl], h.2.2.2.1 c hc p (by omega), if_neg (by omega)]
      have hone : qSwp j p q j j / qSwp j p q j j = 1 := by rw [Rat.div_def]; exact Rat.mul_inv_cancel _ (by rw [hqj]; exact hq)
      have hstep : ∀ r c, qStp j (qSwp j p q) r c = if r = j then qSwp j p q j c / qSwp j p q j j else qSwp j p q r c - qSwp j p q r j * (qSwp j p q j c / qSwp j p q j j) := fun r c => rfl
      obtain ⟨s3, f3, g3, e3⟩ := rs245 (q := fun r c => if r = j ∧ j ≤ c then qSwp j p q r c / qSwp j p q j j else qSwp j p q r c) (rec2 := rec2) (A := (75 * (Q * V)).toNat) (D := (15 * Q).toNat) hn hj (fun r hr c hc => by
          try dsimp only
          by_cases e : r = j ∧ j ≤ c
          · rw [if_pos e]
            have := qSm_w hS2 u1 u2 (r := j) (c := c) hj hc
            rw [hstep, if_pos rfl] at this
            rw [e.1]; exact this
          · rw [if_neg e]
            exact qSm_w hS1 u1 u2 hr hc) (fun r hr => by
          by_cases e : r = j ∧ j ≤ j
          · rw [if_pos e, e.1, hone]; decide
          · rw [if_neg e]
            have := hS1 r hr j (by omega)
            rw [if_pos (by omega), if_pos (by omega)] at this
            exact this) u3 u4 n zFU 0 s2 (by omega) (zFU_lt (by omega)) (mE_ext g2 (fun r hr c hc => by (try dsimp only); ((repeat' split) <;> first | rfl | (exfalso; omega) | grind)))
      refine ⟨s3, _, qStp j (qSwp j p q), ?_, mFrm_t f1 (mFrm_t f2 f3), hI, mE_ext g3 (fun r hr c hc => ?_)⟩
      · have e1' : D_X9_solve_L46 rec2 (n32 (n : Int)) (n32 (j : Int)) (n32 (p : Int)) zFU (0 : Int32) s = D_X9_solve_L192 rec2 (n32 (n : Int)) (n32 (j : Int)) (n64 (qSwp j p q j j).num) (n64 ((qSwp j p q j j).den : Int)) zFU (n32 (j : Int)) s1 := e1
        have e3' : D_X9_solve_L245 rec2 (n32 (n : Int)) (n32 (j : Int)) zFU (0 : Int32) s2 = rec2 (n32 ((j + 1 : Nat) : Int)) s3 := e3
        rw [e1', e2, e3']
      · rw [hstep]
        try dsimp only
        by_cases e1 : r = j
        · subst e1
          (repeat' split) <;> first | rfl | (exfalso; omega) | (rw [hz0 c (by omega), Rat.div_def]; grind)
        · (repeat' split) <;> first | rfl | (exfalso; omega) | (rw [hz0 c (by omega), Rat.div_def]; grind)
theorem rs_loop (hm : sMt m M0 Q V) (hfit : sFit Q V) (hn : n ≤ 5) : ∀ d f j s B q, j + d = n → d < f → sIv n j M0 B q → mE s n q →
    (∃ s', D_X9_solve_L2 (n32 (n : Int)) f (n32 (j : Int)) s = some (n32 0, s') ∧ mFrm s s' ∧ ∃ y : Nat → Rat, (∃ c, c < n ∧ y c ≠ 0) ∧ (∀ c, n ≤ c → y c = 0) ∧ ∀ i, i < 5 → sum5 (fun c => (m i c : Rat) * y c) = 0) ∨
    ∃ s' B' q', D_X9_solve_L2 (n32 (n : Int)) f (n32 (j : Int)) s = some (n32 1, s') ∧ mFrm s s' ∧ sIv n n M0 B' q' ∧ mE s' n q' := by
  intro d
  induction d with
  | zero =>
    intro f j s B q hj hf h he
    obtain ⟨f, rfl⟩ : ∃ t, f = t + 1 := ⟨f - 1, by omega⟩
    obtain rfl : j = n := by omega
    right
    refine ⟨s, B, q, ?_, mFrm_r s, h, he⟩
    rw [D_X9_solve_L2_s]
    unfold D_X9_solve_B2
    rw [zif_t (Int32.le_refl _)]
    rfl
  | succ d ih =>
    intro f j s B q hj hf h he
    obtain ⟨f, rfl⟩ : ∃ t, f = t + 1 := ⟨f - 1, by omega⟩
    rw [D_X9_solve_L2_s]
    unfold D_X9_solve_B2
    rw [zif_f (by rw [c32_le (by omega) (by omega)]; omega)]
    rcases rs_col (rec2 := D_X9_solve_L2 (n32 (n : Int)) f) hm hfit hn (show j < n by omega) h he (n - j) zFU j (Nat.le_refl _) (by omega) (zFU_lt (by omega)) (fun i h1 h2 => by omega) with ⟨e1, e2⟩ | ⟨s1, B1, q1, e1, f1, h1, g1⟩
    · left
      obtain ⟨y, y1, y2, y3⟩ := sIv_fail h hm hn (by omega) e2
      exact ⟨s, e1, mFrm_r s, y, ⟨j, by omega, y1⟩, y2, y3⟩
    · rw [e1]
      rcases ih f (j + 1) s1 B1 q1 (by omega) (by omega) h1 g1 with ⟨s2, e2, f2, k⟩ | ⟨s2, B2, q2, e2, f2, k⟩
      · exact Or.inl ⟨s2, e2, mFrm_t f1 f2, k⟩
      · exact Or.inr ⟨s2, B2, q2, e2, mFrm_t f1 f2, k⟩
/-- the reference solves what can be solved -/
theorem r_solve {s : zS} (hm : sMt m M0 Q V) (hfit : sFit Q V) (hn : n ≤ 5) (h0 : ∀ k c, n ≤ k → k < 5 → c < 6 → M0 k c = 0) (he : mE s n M0) :
    (∃ s', D_X9_solve s (n32 (n : Int)) = some (0, s') ∧ mFrm s s' ∧ ∃ y : Nat → Rat, (∃ c, c < n ∧ y c ≠ 0) ∧ (∀ c, n ≤ c → y c = 0) ∧ ∀ i, i < 5 → sum5 (fun c => (m i c : Rat) * y c) = 0) ∨
    ∃ (s' : zS) (x : Nat → Rat), D_X9_solve s (n32 (n : Int)) = some (1, s') ∧ mFrm s s' ∧ (∀ c, c < n → rCell s' (6 * c + 5) (x c) ∧ (x c).num.natAbs ≤ (75 * (Q * V)).toNat ∧ (x c).den ≤ (15 * Q).toNat) ∧ (∀ c, n ≤ c → x c = 0) ∧ (∀ i, i < 5 → M0 i 5 = sum5 (fun c => (m i c : Rat) * x c)) ∧ ∀ y : Nat → Rat, (∀ c, n ≤ c → c < 5 → y c = 0) → (∀ i, i < 5 → sum5 (fun c => (m i c : Rat) * y c) = 0) → ∀ c, c < 5 → y c = 0 := by
  rcases rs_loop hm hfit hn n zFU 0 s _ M0 (by omega) (zFU_lt (by omega)) (sIv_zero h0) he with ⟨s', e1, e2, e3⟩ | ⟨s', B', q', e1, e2, e3, e4⟩
  · exact Or.inl ⟨s', e1, e2, e3⟩
  · right
    obtain ⟨k1, k2⟩ := sIv_end e3 hm hn
    refine ⟨s', fun c => if c < n then q' c 5 else 0, e1, e2, fun c hc => ?_, fun c hc => if_neg (by omega), k1, k2⟩
    have := sIv_small e3 hm (show c < 5 by omega) (show 5 < 6 by omega)
    rw [if_neg (by omega), if_neg (by omega)] at this
    show rCell s' (6 * c + 5) (if c < n then q' c 5 else 0) ∧ (if c < n then q' c 5 else 0).num.natAbs ≤ _ ∧ (if c < n then q' c 5 else 0).den ≤ _
    rw [if_pos hc]
    exact ⟨e4 c hc 5 (by omega), this⟩
end SV
