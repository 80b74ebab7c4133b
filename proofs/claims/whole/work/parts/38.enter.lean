/-! the exchange whole, and what stays of the other cells -/
def bFrm (s s' : zS) : Prop := (∀ c k, c ≠ 30 → c ≠ 31 → (c = 8 → k ≠ 3 ∧ k ≠ 4) → s'.1 c k = s.1 c k) ∧ ∀ c k, (c < 10 ∨ 30 ≤ c) → s'.2 c k = s.2 c k
theorem bFrm_r (s : zS) : bFrm s s := ⟨fun _ _ _ _ _ => rfl, fun _ _ _ => rfl⟩
theorem bFrm_t {s s' s'' : zS} (h : bFrm s s') (h' : bFrm s' s'') : bFrm s s'' := ⟨fun c k a b d => (h'.1 c k a b d).trans (h.1 c k a b d), fun c k a => (h'.2 c k a).trans (h.2 c k a)⟩
theorem bFrm_a {s s' : zS} (h : sAll s s') : bFrm s s' := ⟨fun c k _ _ _ => by rw [h.1], h.2⟩
theorem bFrm_30 (s : zS) (k : Nat) (x : Int32) : bFrm s (zwI s 30 k x) := ⟨fun c k' a b d => by rw [zwI_at, if_neg (fun q => a q.1)], fun _ _ _ => rfl⟩
theorem bFrm_31 (s : zS) (k : Nat) (x : Int32) : bFrm s (zwI s 31 k x) := ⟨fun c k' a b d => by rw [zwI_at, if_neg (fun q => b q.1)], fun _ _ _ => rfl⟩
theorem rTurn_small {ρ : Nat → Int} {C c : Nat} {B K : Int} (hc : c < C) (r0 : -B ≤ ρ 0 ∧ ρ 0 ≤ B) (r1 : -K ≤ ρ 1 ∧ ρ 1 ≤ K) (r2 : ∀ j, j < C → -B ≤ ρ (2 + j) ∧ ρ (2 + j) ≤ B) : (-B ≤ rTurn ρ c 0 ∧ rTurn ρ c 0 ≤ B) ∧ (-K ≤ rTurn ρ c 1 ∧ rTurn ρ c 1 ≤ K) ∧ ∀ j, j < C → -B ≤ rTurn ρ c (2 + j) ∧ rTurn ρ c (2 + j) ≤ B := by
  have := r2 c hc
  unfold rTurn
  refine ⟨by rw [if_pos rfl]; omega, by rw [if_neg (by omega), if_neg (by omega)]; exact r1, fun j hj => ?_⟩
  rw [if_neg (by omega)]
  by_cases q : 2 + j = 2 + c
  · rw [if_pos q]; omega
  · rw [if_neg q]; exact r2 j hj
theorem zdivle {g x B : Int} (hg : 0 < g) (h1 : -B ≤ g * x) (h2 : g * x ≤ B) : -B ≤ x ∧ x ≤ B := by
  have a : (g * x).natAbs = g.natAbs * x.natAbs := Int.natAbs_mul _ _
  have b : 1 * x.natAbs ≤ g.natAbs * x.natAbs := Nat.mul_le_mul_right _ (by omega)
  omega
theorem low_small {ρ τ : Nat → Int} {C : Nat} {B K : Int} (h : rLow C ρ τ) (r0 : -B ≤ ρ 0 ∧ ρ 0 ≤ B) (r1 : -K ≤ ρ 1 ∧ ρ 1 ≤ K) (r2 : ∀ j, j < C → -B ≤ ρ (2 + j) ∧ ρ (2 + j) ≤ B) : (-B ≤ τ 0 ∧ τ 0 ≤ B) ∧ (-K ≤ τ 1 ∧ τ 1 ≤ K) ∧ ∀ j, j < C → -B ≤ τ (2 + j) ∧ τ (2 + j) ≤ B := by
  obtain ⟨g, hg, hk⟩ := h
  rw [hk 0 (by omega)] at r0
  rw [hk 1 (by omega)] at r1
  refine ⟨zdivle hg r0.1 r0.2, zdivle hg r1.1 r1.2, fun j hj => ?_⟩
  have := r2 j hj
  rw [hk (2 + j) (by omega)] at this
  exact zdivle hg this.1 this.2
theorem b_exchange {s : zS} {R C : Nat} {rs cs : Nat → Nat} {cell : Nat → Nat → Int} {B K : Int} {r0 c0 : Nat} (h : bEnc s R C rs cs cell) (hs : bSml R C cell B K) (hr0 : r0 < R) (hc0 : c0 < C) (hp : cell r0 (2 + c0) < 0) :
    ∃ s' cell', D_X0_exchange s (n32 (r0 : Int)) (n32 (c0 : Int)) = some s' ∧ bFrm s s' ∧ bEnc s' R C (xSwap rs r0 (cs c0)) (xSwap cs c0 (rs r0)) cell' ∧ xOk R C cell cell' r0 c0 ∧ ∀ r, r < R → cell' r = cell r ∨ rgcd (cell' r) (2 + C) = 1 := by
  obtain ⟨q1, q2, q3, q4, q5⟩ := id hs
  have hB := B_small q1 q3
  have hK := K_small q2 q3 q4
  have h1 := h.1
  have h2 := h.2.1
  have qr := q5 r0 hr0
  have bf := qr.2.2 c0 hc0
  have ts := rTurn_small hc0 (show -B ≤ cell r0 0 ∧ cell r0 0 ≤ B by omega) qr.2.1 qr.2.2
  obtain ⟨s1, e1, f1, g1⟩ := b_turn (c := c0) (show r0 < 20 by omega) (show 2 + C ≤ 6 by omega) (by omega) (h.2.2.2.2.2.2.1 r0 hr0)
  have hp0 : 0 < rTurn (cell r0) c0 0 := by unfold rTurn; rw [if_pos rfl]; omega
  obtain ⟨s2, τ, e2, f2, g2, l2, u2⟩ := b_shorten (show r0 < 20 by omega) (by omega) (show 2 + C ≤ 6 by omega) hp0 (fun k hk => by
    by_cases k0 : k = 0
    · subst k0; omega
    · by_cases k1 : k = 1
      · subst k1; omega
      · have := ts.2.2 (k - 2) (by omega)
        rw [show 2 + (k - 2) = k by omega] at this
        omega) g1 (by rw [f1.1]; exact bEnc_C h)
  have f12 := sBut_t f1 f2
  have tsm := low_small l2 ts.1 ts.2.1 ts.2.2
  have tp : 0 < τ 0 := by
    obtain ⟨g, hg0, hk⟩ := l2
    have e := hk 0 (by omega)
    exact zpm hg0 (by rw [← e]; exact hp0)
  have he : bEnc s2 R C rs cs (xSwap cell r0 τ) := bEnc_I h f12.1 (fun r hr => by
    unfold xSwap
    by_cases hrk : r = r0
    · rw [if_pos hrk, hrk]; exact g2
    · rw [if_neg hrk]
      intro i hi
      rw [f12.2 _ _ (by omega)]
      exact h.2.2.2.2.2.2.1 r hr i hi)
  obtain ⟨s3, s4, cell2, i1, i2, i3, i4, i5, i6⟩ := b_ex37 hs hr0 hc0 tp tsm.1 tsm.2.1 tsm.2.2 R zFU 0 s2 (xSwap cell r0 τ) (by omega) (zFU_lt (by omega)) he (by unfold xSwap; rw [if_pos rfl]) (fun r _ hne => by unfold xSwap; rw [if_neg hne]) (fun r hr => by omega)
  refine ⟨s4, cell2, ?_, ?_, ?_, ⟨?_, fun r hr hne => ?_⟩, fun r hr => ?_⟩
  · unfold D_X0_exchange
    rw [b_factor h hr0 hc0, zbs, l64_0, zif_t ((lgc_lt (by omega) (by omega) (by omega) (by omega)).mpr hp), zgd_t (czin (by omega) (by omega)), zT9 r0 (by omega), e1, zbs, zgd_t (czin (by omega) (by omega)), e2, zbs]
    exact i1
  · rw [i4]
    exact bFrm_t (bFrm_a (sAll_t (sAll_of (by omega) f12) i2)) (bFrm_t (bFrm_30 _ _ _) (bFrm_31 _ _ _))
  · obtain ⟨a1, a2, a3, a4, a5, a6, a7, a8, a9⟩ := i3
    rw [i4]
    refine ⟨a1, a2, ?_, ?_, fun r hr => ?_, fun j hj => ?_, a7, fun r hr => ?_, fun j hj => ?_⟩
    · rw [zwI_at, if_neg (fun q => by have := q.1; omega), zwI_at, if_neg (fun q => by have := q.1; omega)]; exact a3
    · rw [zwI_at, if_neg (fun q => by have := q.1; omega), zwI_at, if_neg (fun q => by have := q.1; omega)]; exact a4
    · rw [zwI_at, if_neg (fun q => by have := q.1; omega), zwI_at]
      unfold xSwap
      by_cases hrr : r = r0
      · rw [if_pos ⟨rfl, hrr⟩, if_pos hrr]
      · rw [if_neg (fun q => hrr q.2), if_neg hrr]; exact a5 r hr
    · rw [zwI_at]
      unfold xSwap
      by_cases hjc : j = c0
      · rw [if_pos ⟨rfl, hjc⟩, if_pos hjc]
      · rw [if_neg (fun q => hjc q.2), if_neg hjc, zwI_at, if_neg (fun q => by have := q.1; omega)]; exact a6 j hj
    · unfold xSwap
      by_cases hrr : r = r0
      · rw [if_pos hrr]; exact a9 c0 hc0
      · rw [if_neg hrr]; exact a8 r hr
    · unfold xSwap
      by_cases hjc : j = c0
      · rw [if_pos hjc]; exact a8 r0 hr0
      · rw [if_neg hjc]; exact a9 j hj
  · rw [i5]; exact l2
  · rw [i5]; exact (i6 r hr hne).2
  · by_cases hrr : r = r0
    · rw [hrr, i5]; exact Or.inr u2
    · by_cases hz : cell r (2 + c0) = 0
      · exact Or.inl ((i6 r hr hrr).2.1 hz)
      · exact Or.inr ((i6 r hr hrr).1 hz)
/-! the board's whole invariant -/
/-- rows are small -/
def rSm (R C : Nat) (cell : Nat → Nat → Int) (Q V : Int) : Prop := ∀ r, r < R → cell r 0 ≤ 15 * Q ∧ (-(90 * (Q * V)) ≤ cell r 1 ∧ cell r 1 ≤ 90 * (Q * V)) ∧ ∀ j, j < C → -(15 * Q) ≤ cell r (2 + j) ∧ cell r (2 + j) ≤ 15 * Q
def bI {W : Type} (s : zS) (A : W → Prop) (R C : Nat) (rs cs : Nat → Nat) (cell : Nat → Nat → Int) (idr idc : Nat → W → Rat) (X : W → Nat → Rat) (vr : Nat → Nat → Int) (kr : Nat → Rat) (M : Nat → Nat → Int) (kM : Nat → Rat) (Q V : Int) : Prop :=
  bEnc s R C rs cs cell ∧ dInv A R C cell idr idc ∧ fInv A R C idr idc X vr kr M kM Q V ∧ rSm R C cell Q V ∧ 1 ≤ Q ∧ 1 ≤ V ∧ 2700 * (Q * (Q * V)) < 4611686018427387904
theorem bI_small {W : Type} {s : zS} {A : W → Prop} {R C : Nat} {rs cs : Nat → Nat} {cell : Nat → Nat → Int} {idr idc : Nat → W → Rat} {X : W → Nat → Rat} {vr : Nat → Nat → Int} {kr : Nat → Rat} {M : Nat → Nat → Int} {kM : Nat → Rat} {Q V : Int} (h : bI s A R C rs cs cell idr idc X vr kr M kM Q V) : bSml R C cell (15 * Q) (90 * (Q * V)) := by
  obtain ⟨-, d, f, g, hQ, hV, hb⟩ := h
  have q1 : Q * 1 ≤ Q * V := Int.mul_le_mul_of_nonneg_left hV (by omega)
  have q2 : Q * (Q * 1) ≤ Q * (Q * V) := Int.mul_le_mul_of_nonneg_left q1 (by omega)
  have e1 : 15 * Q * (15 * Q) = 225 * (Q * (Q * 1)) := by grind
  have e2 : 15 * Q * (90 * (Q * V)) = 1350 * (Q * (Q * V)) := by grind
  refine ⟨by omega, by omega, by omega, by omega, fun r hr => ?_⟩
  have := g r hr
  exact ⟨⟨d.1 r hr, this.1⟩, this.2.1, this.2.2⟩
theorem bI_exch {W : Type} {s : zS} {A : W → Prop} {R C : Nat} {rs cs : Nat → Nat} {cell : Nat → Nat → Int} {idr idc : Nat → W → Rat} {X : W → Nat → Rat} {vr : Nat → Nat → Int} {kr : Nat → Rat} {M : Nat → Nat → Int} {kM : Nat → Rat} {Q V : Int} (h : bI s A R C rs cs cell idr idc X vr kr M kM Q V) {r0 c0 : Nat} (hr0 : r0 < R) (hc0 : c0 < C) (hp : cell r0 (2 + c0) < 0) :
    ∃ s' cell', D_X0_exchange s (n32 (r0 : Int)) (n32 (c0 : Int)) = some s' ∧ bFrm s s' ∧ xOk R C cell cell' r0 c0 ∧ bI s' A R C (xSwap rs r0 (cs c0)) (xSwap cs c0 (rs r0)) cell' (xSwap idr r0 (idc c0)) (xSwap idc c0 (idr r0)) X (xSwap vr r0 (fun i => M i c0)) (xSwap kr r0 (kM c0)) (zrep M c0 (vr r0)) (xSwap kM c0 (kr r0)) Q V := by
  have hsm := bI_small h
  obtain ⟨e, d, f, g, hQ, hV, hb⟩ := h
  obtain ⟨s', cell', a1, a2, a3, a4, a5⟩ := b_exchange e hsm hr0 hc0 hp
  have d' := dInv_exch d hr0 hc0 hp a4
  have f' := fInv_exch d f hr0 hc0 hp
  refine ⟨s', cell', a1, a2, a4, a3, d', f', fun r hr => ?_, hQ, hV, hb⟩
  rcases a5 r hr with e1 | e1
  · rw [e1]; exact g r hr
  · exact f_small d' f' hr e1
