/-! the answer's fractions have one denominator -/
theorem sIv_com {n j : Nat} {M0 q : Nat → Nat → Rat} {B m : Nat → Nat → Int} {Q V : Int} (h : sIv n j M0 B q) (hm : sMt m M0 Q V) : ∃ D : Int, D ≠ 0 ∧ -(15 * Q) ≤ D ∧ D ≤ 15 * Q ∧ ∀ k, k < 5 → ∃ z : Int, (D : Rat) * q k 5 = (z : Rat) ∧ -(75 * (Q * V)) ≤ z ∧ z ≤ 75 * (Q * V) := by
  obtain ⟨h1, h2, h3, -, -⟩ := h
  obtain ⟨m1, m2, m3, m4, m5⟩ := hm
  have hdb := det5_pm h1
  obtain ⟨z, hz⟩ : ∃ z : Nat → Int, ∀ i, i < 5 → (Q : Rat) * M0 i 5 = (z i : Rat) ∧ -(Q * V) ≤ z i ∧ z i ≤ Q * V :=
    ⟨fun i => if hi : i < 5 then Classical.choose (m3 i hi) else 0, fun i hi => by dsimp only; rw [dif_pos hi]; exact Classical.choose_spec (m3 i hi)⟩
  have hq : (0 : Int) ≤ Q := by omega
  have t1 : Q * det5 B ≤ Q * 15 := Int.mul_le_mul_of_nonneg_left hdb.2 hq
  have t2 : Q * -15 ≤ Q * det5 B := Int.mul_le_mul_of_nonneg_left hdb.1 hq
  refine ⟨Q * det5 B, Int.mul_ne_zero (by omega) h2, by omega, by omega, fun k hk => ⟨det5 (zrep B k z), ?_, det5_big hk h1 (fun i hi => (hz i hi).2)⟩⟩
  have hc2 := cramR (m := B) (b := z) (x := fun k => (Q : Rat) * q k 5) (fun i hi => by
    rw [← (hz i hi).1, h3 i hi 5 (by omega)]
    unfold sum5; grind) hk
  rw [hc2]; push_cast; grind
theorem r_solve2 {n : Nat} {m : Nat → Nat → Int} {M0 : Nat → Nat → Rat} {Q V : Int} {s : zS} (hm : sMt m M0 Q V) (hfit : sFit Q V) (hn : n ≤ 5) (h0 : ∀ k c, n ≤ k → k < 5 → c < 6 → M0 k c = 0) (he : mE s n M0) :
    (∃ s', D_X9_solve s (n32 (n : Int)) = some (0, s') ∧ mFrm s s' ∧ ∃ y : Nat → Rat, (∃ c, c < n ∧ y c ≠ 0) ∧ (∀ c, n ≤ c → y c = 0) ∧ ∀ i, i < 5 → sum5 (fun c => (m i c : Rat) * y c) = 0) ∨
    ∃ (s' : zS) (x : Nat → Rat) (D : Int), D_X9_solve s (n32 (n : Int)) = some (1, s') ∧ mFrm s s' ∧ (∀ c, c < n → rCell s' (6 * c + 5) (x c)) ∧ (∀ c, n ≤ c → x c = 0) ∧ (∀ i, i < 5 → M0 i 5 = sum5 (fun c => (m i c : Rat) * x c)) ∧ (∀ y : Nat → Rat, (∀ c, n ≤ c → c < 5 → y c = 0) → (∀ i, i < 5 → sum5 (fun c => (m i c : Rat) * y c) = 0) → ∀ c, c < 5 → y c = 0) ∧
      (D ≠ 0 ∧ -(15 * Q) ≤ D ∧ D ≤ 15 * Q) ∧ (∀ c, ∃ z : Int, (D : Rat) * x c = (z : Rat) ∧ -(75 * (Q * V)) ≤ z ∧ z ≤ 75 * (Q * V)) := by
  rcases rs_loop hm hfit hn n zFU 0 s _ M0 (by omega) (zFU_lt (by omega)) (sIv_zero h0) he with ⟨s', e1, e2, e3⟩ | ⟨s', B', q', e1, e2, e3, e4⟩
  · exact Or.inl ⟨s', e1, e2, e3⟩
  · right
    obtain ⟨k1, k2⟩ := sIv_end e3 hm hn
    obtain ⟨D, d1, d2, d3, d4⟩ := sIv_com e3 hm
    have hQV : 0 ≤ Q * V := Int.mul_nonneg (by have := hm.2.2.2.1; omega) (by have := hm.2.2.2.2; omega)
    refine ⟨s', fun c => if c < n then q' c 5 else 0, D, e1, e2, fun c hc => ?_, fun c hc => if_neg (by omega), k1, k2, ⟨d1, d2, d3⟩, fun c => ?_⟩
    · dsimp only
      rw [if_pos hc]
      exact e4 c hc 5 (by omega)
    · dsimp only
      by_cases e : c < n
      · rw [if_pos e]; exact d4 c (by omega)
      · rw [if_neg e]; exact ⟨0, by rw [Rat.mul_zero]; rfl, by omega, by omega⟩
theorem com_bd {x : Rat} {D z : Int} {A B : Int} (hD : D ≠ 0) (h : (D : Rat) * x = (z : Rat)) (hz : -A ≤ z ∧ z ≤ A) (hDb : -B ≤ D ∧ D ≤ B) : (-A ≤ x.num ∧ x.num ≤ A) ∧ (0 < (x.den : Int) ∧ (x.den : Int) ≤ B) := by
  have h1 := rat_bd (x := x) hD (by rw [Rat.mul_comm]; exact h)
  have h2 := x.den_pos
  omega
/-! the free sets, in their order -/
/-- the fixed sets as they lie -/
def fxE (s : zS) (n m : Nat) (g : Nat → Nat) : Prop := s.1 66 0 = n32 (n : Int) ∧ s.1 66 23 = n32 (m : Int) ∧ ∀ e, e < m → s.1 79 e = n32 (g e : Int)
def frE (s : zS) (F : Nat) (fr : Nat → Nat) : Prop := s.1 66 28 = n32 (F : Int) ∧ ∀ k, k < F → s.1 83 k = n32 (fr k : Int)
/-- the list of those below S -/
def frL (n m : Nat) (g : Nat → Nat) (S F : Nat) (fr : Nat → Nat) : Prop := (∀ k, k < F → fr k < S ∧ frP n m g (fr k)) ∧ (∀ k k', k < k' → k' < F → fr k < fr k') ∧ ∀ T, T < S → frP n m g T → ∃ k, k < F ∧ fr k = T
theorem frL_F {n m S F : Nat} {g fr : Nat → Nat} (h : frL n m g S F fr) : ∀ k, k < F → k < fr k := by
  intro k
  induction k with
  | zero => intro hk; have := (h.1 0 hk).2.1.1; omega
  | succ k ih => intro hk; have h1 := ih (by omega); have h2 := h.2.1 k (k + 1) (by omega) hk; omega
/-- frame of laying the free ones -/
def lFrm (s s' : zS) : Prop := (∀ c k, (c = 66 → k ≠ 28) → c ≠ 83 → s'.1 c k = s.1 c k) ∧ ∀ c k, c ≠ 82 → s'.2 c k = s.2 c k
theorem lFrm_t {s s' s'' : zS} (h : lFrm s s') (h' : lFrm s' s'') : lFrm s s'' := ⟨fun c k a b => (h'.1 c k a b).trans (h.1 c k a b), fun c k a => (h'.2 c k a).trans (h.2 c k a)⟩
theorem lFrm_j {s s' : zS} (h : jFrm s s') : lFrm s s' := ⟨fun c k _ _ => by rw [h.1], h.2⟩
theorem uFrm_l {s s' : zS} (h : lFrm s s') : uFrm s s' := ⟨fun c k h66 _ h83 _ _ => h.1 c k (fun e => (h66 e).2.1) h83, fun c k _ _ _ _ _ h82 => h.2 c k h82⟩
section LF
variable {n m : Nat} {g : Nat → Nat}
theorem lf7 (hn : n ≤ 4) (hm : m ≤ 4) (hg : ∀ e, e < m → g e < 2 ^ n) (hgi : linI m n (fun r c => ((hb (g r) c : Int) : Rat))) : ∀ d fu S F fr s, S + d = 2 ^ n - 1 → 1 ≤ S → d < fu → fxE s n m g → frE s F fr → frL n m g S F fr →
    ∃ s' F' fr', D_X9_layFree_L7 fu (n32 (S : Int)) s = some s' ∧ lFrm s s' ∧ fxE s' n m g ∧ frE s' F' fr' ∧ frL n m g (2 ^ n - 1) F' fr' := by
  have hp := pow_le4 hn
  intro d
  induction d with
  | zero =>
    intro fu S F fr s hS h1 hf hx he hl
    obtain ⟨fu, rfl⟩ : ∃ t, fu = t + 1 := ⟨fu - 1, by omega⟩
    obtain rfl : S = 2 ^ n - 1 := by omega
    refine ⟨s, F, fr, ?_, ⟨fun _ _ _ _ => rfl, fun _ _ _ => rfl⟩, hx, he, hl⟩
    rw [D_X9_layFree_L7_s]
    unfold D_X9_layFree_B7
    rw [x9_all hx.1 (by omega), zbs, zif_t (Int32.le_refl _)]
  | succ d ih =>
    intro fu S F fr s hS h1 hf hx he hl
    obtain ⟨fu, rfl⟩ : ∃ t, fu = t + 1 := ⟨fu - 1, by omega⟩
    have hF : F ≤ 13 := by
      by_cases e : F = 0
      · omega
      · have h2 := frL_F hl (F - 1) (by omega)
        have h3 := (hl.1 (F - 1) (by omega)).1
        omega
    rw [D_X9_layFree_L7_s]
    unfold D_X9_layFree_B7
    rw [x9_all hx.1 (by omega), zbs, zif_f (by rw [c32_le (by omega) (by omega)]; omega)]
    obtain ⟨s1, f1, r1⟩ := isFree_is (S := S) hm hn (fun e he => by have := hg e he; omega) (by omega) hx.1 hx.2.1 hx.2.2
    have hx1 : fxE s1 n m g := ⟨by rw [f1.1]; exact hx.1, by rw [f1.1]; exact hx.2.1, fun e he => by rw [f1.1]; exact hx.2.2 e he⟩
    have hcn : cNm n S := ⟨h1, by omega⟩
    have hfd := free_dep (S := S) hn hg (by omega) hgi
    rcases r1 with ⟨e1, hi⟩ | ⟨e1, hi⟩
    · rw [e1, zbs]
      dsimp only
      have h28 : s1.1 66 28 = n32 (F : Int) := by rw [f1.1]; exact he.1
      rw [zif_f (by decide), h28, zgd_t (czin (by omega) (by omega)), n32_xn (by omega), nsuc]
      have h28' : (zwI s1 83 F (n32 (S : Int))).1 66 28 = n32 (F : Int) := by rw [zwI_at, if_neg (fun q => by have := q.1; omega)]; exact h28
      rw [h28', nsuc]
      have hfrS : frP n m g S := ⟨hcn, hfd.mp hi⟩
      obtain ⟨s2, F', fr', e2, f2, x2, g2, l2⟩ := ih fu (S + 1) (F + 1) (fun k => if k = F then S else fr k) (zwI (zwI s1 83 F (n32 (S : Int))) 66 28 (n32 ((F + 1 : Nat) : Int))) (by omega) (by omega) (by omega) ⟨by rw [zwI_at, if_neg (by omega), zwI_at, if_neg (by omega)]; exact hx1.1, by rw [zwI_at, if_neg (by omega), zwI_at, if_neg (by omega)]; exact hx1.2.1, fun e he => by rw [zwI_at, if_neg (by omega), zwI_at, if_neg (by omega)]; exact hx1.2.2 e he⟩ ⟨by rw [zwI_at, if_pos ⟨rfl, rfl⟩], fun k hk => by
          rw [zwI_at, if_neg (by omega), zwI_at]
          dsimp only
          by_cases e : k = F
          · rw [if_pos ⟨rfl, e⟩, if_pos e]
          · rw [if_neg (fun q => e q.2), if_neg e, f1.1]; exact he.2 k (by omega)⟩ ⟨fun k hk => by
          dsimp only
          by_cases e : k = F
          · rw [if_pos e]; exact ⟨by omega, hfrS⟩
          · rw [if_neg e]
            have := hl.1 k (by omega)
            exact ⟨by omega, this.2⟩, fun k k' hk hk' => by
          dsimp only
          rw [if_neg (by omega)]
          by_cases e : k' = F
          · rw [if_pos e]; exact (hl.1 k (by omega)).1
          · rw [if_neg e]; exact hl.2.1 k k' hk (by omega), fun T hT hTf => by
          by_cases e : T = S
          · exact ⟨F, by omega, by dsimp only; rw [if_pos rfl, e]⟩
          · obtain ⟨k, hk, ek⟩ := hl.2.2 T (by omega) hTf
            exact ⟨k, by omega, by dsimp only; rw [if_neg (by omega)]; exact ek⟩⟩
      refine ⟨s2, F', fr', e2, lFrm_t (lFrm_j f1) (lFrm_t ?_ f2), x2, g2, l2⟩
      refine ⟨fun c k h66 h83 => ?_, fun _ _ _ => rfl⟩
      rw [zwI_at, if_neg (fun q => h66 q.1 q.2), zwI_at, if_neg (fun q => h83 q.1)]
    · rw [e1, zbs]
      dsimp only
      rw [zif_t rfl, nsuc]
      obtain ⟨s2, F', fr', e2, f2, x2, g2, l2⟩ := ih fu (S + 1) F fr s1 (by omega) (by omega) (by omega) hx1 ⟨by rw [f1.1]; exact he.1, fun k hk => by rw [f1.1]; exact he.2 k hk⟩ ⟨fun k hk => by
          have := hl.1 k hk
          exact ⟨by omega, this.2⟩, hl.2.1, fun T hT hTf => by
          by_cases e : T = S
          · rw [e] at hTf
            exact absurd (hfd.mpr hTf.2) hi
          · exact hl.2.2 T (by omega) hTf⟩
      exact ⟨s2, F', fr', e2, lFrm_t (lFrm_j f1) f2, x2, g2, l2⟩
theorem lay_free {s : zS} (hn1 : 1 ≤ n) (hn : n ≤ 4) (hm : m ≤ 4) (hg : ∀ e, e < m → g e < 2 ^ n) (hgi : linI m n (fun r c => ((hb (g r) c : Int) : Rat))) (hx : fxE s n m g) : ∃ s' F fr, D_X9_layFree s = some s' ∧ lFrm s s' ∧ fxE s' n m g ∧ frE s' F fr ∧ frL n m g (2 ^ n - 1) F fr := by
  have h2 : 2 ≤ 2 ^ n := by
    have := Nat.pow_le_pow_right (show 0 < 2 by omega) hn1
    omega
  have hp := pow_le4 hn
  obtain ⟨s', F, fr, e, f, x, g2, l⟩ := lf7 hn hm hg hgi (2 ^ n - 2) zFU 1 0 (fun _ => 0) (zwI s 66 28 0) (by omega) (by omega) (zFU_lt (by omega)) ⟨by rw [zwI_at, if_neg (by omega)]; exact hx.1, by rw [zwI_at, if_neg (by omega)]; exact hx.2.1, fun e he => by rw [zwI_at, if_neg (by omega)]; exact hx.2.2 e he⟩ ⟨by rw [zwI_at, if_pos ⟨rfl, rfl⟩]; rfl, fun k hk => by omega⟩ ⟨fun k hk => by omega, fun k k' _ hk => by omega, fun T hT hTf => by have := hTf.1.1; omega⟩
  refine ⟨s', F, fr, e, lFrm_t ?_ f, x, g2, l⟩
  refine ⟨fun c k h66 h83 => ?_, fun _ _ _ => rfl⟩
  rw [zwI_at, if_neg (fun q => h66 q.1 q.2)]
end LF
