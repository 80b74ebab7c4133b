/-! one turn of the drive: who enters, who stops; names and rest -/
section TU
variable {W : Type} {s : zS} {A : W → Prop} {R C : Nat} {rs cs : Nat → Nat} {cell cell' : Nat → Nat → Int} {idr idc : Nat → W → Rat} {X : W → Nat → Rat} {vr : Nat → Nat → Int} {kr : Nat → Rat} {M : Nat → Nat → Int} {kM : Nat → Rat} {Q V : Int} {room : Nat → W → Rat}
def bN (A : W → Prop) (room : Nat → W → Rat) (R C : Nat) (rs cs : Nat → Nat) (idr idc : Nat → W → Rat) : Prop :=
  (∀ w, A w → ∀ r, r < R → rs r ≠ 0 → idr r w = room (rs r) w) ∧ (∀ w, A w → ∀ j, j < C → cs j ≠ 0 → idc j w = room (cs j) w) ∧
  (∀ j j', j < C → j' < C → cs j ≠ 0 → cs j = cs j' → j = j') ∧ (∀ r r', r < R → r' < R → rs r ≠ 0 → rs r = rs r' → r = r') ∧ (∀ r j, r < R → j < C → rs r ≠ 0 → rs r ≠ cs j)
def bF (R : Nat) (rs : Nat → Nat) (cell : Nat → Nat → Int) : Prop := ∀ r, r < R → rs r ≠ 0 → 0 ≤ cell r 1
theorem xSwap_s {α : Type} {f : Nat → α} {i : Nat} {x : α} : xSwap f i x i = x := if_pos rfl
theorem xSwap_n {α : Type} {f : Nat → α} {i j : Nat} {x : α} (h : j ≠ i) : xSwap f i x j = f j := if_neg h
theorem bN_swap {r0 c0 : Nat} (h : bN A room R C rs cs idr idc) (hr : r0 < R) (hc : c0 < C) (hn : rs r0 ≠ 0) : bN A room R C (xSwap rs r0 (cs c0)) (xSwap cs c0 (rs r0)) (xSwap idr r0 (idc c0)) (xSwap idc c0 (idr r0)) := by
  obtain ⟨h1, h2, h3, h4, h5⟩ := h
  refine ⟨fun w hA r hr' hn' => ?_, fun w hA j hj hn' => ?_, fun j j' hj hj' hn' e => ?_, fun r r' hr' hr'' hn' e => ?_, fun r j hr' hj hn' e => ?_⟩
  · by_cases q : r = r0
    · subst q; rw [xSwap_s] at hn' ⊢; rw [xSwap_s]; exact h2 w hA c0 hc hn'
    · rw [xSwap_n q] at hn' ⊢; rw [xSwap_n q]; exact h1 w hA r hr' hn'
  · by_cases q : j = c0
    · subst q; rw [xSwap_s] at hn' ⊢; rw [xSwap_s]; exact h1 w hA r0 hr hn'
    · rw [xSwap_n q] at hn' ⊢; rw [xSwap_n q]; exact h2 w hA j hj hn'
  · by_cases q : j = c0 <;> by_cases q' : j' = c0
    · rw [q, q']
    · subst q; rw [xSwap_s, xSwap_n q'] at e; exact absurd e (h5 r0 j' hr hj' hn)
    · subst q'; rw [xSwap_s, xSwap_n q] at e; exact absurd e.symm (h5 r0 j hr hj hn)
    · rw [xSwap_n q] at e hn'; rw [xSwap_n q'] at e; exact h3 j j' hj hj' hn' e
  · by_cases q : r = r0 <;> by_cases q' : r' = r0
    · rw [q, q']
    · subst q; rw [xSwap_s] at hn' e; rw [xSwap_n q'] at e
      exact absurd e.symm (h5 r' c0 hr'' hc (by rw [← e]; exact hn'))
    · subst q'; rw [xSwap_n q] at hn' e; rw [xSwap_s] at e
      exact absurd e (h5 r c0 hr' hc hn')
    · rw [xSwap_n q] at e hn'; rw [xSwap_n q'] at e; exact h4 r r' hr' hr'' hn' e
  · by_cases q : r = r0 <;> by_cases q' : j = c0
    · subst q; subst q'; rw [xSwap_s] at e hn'; rw [xSwap_s] at e
      exact h5 r j hr hc hn e.symm
    · subst q; rw [xSwap_s] at e hn'; rw [xSwap_n q'] at e
      exact q' (h3 c0 j hc hj hn' e).symm
    · subst q'; rw [xSwap_n q] at e hn'; rw [xSwap_s] at e
      exact q (h4 r r0 hr' hr hn' e)
    · rw [xSwap_n q] at e hn'; rw [xSwap_n q'] at e
      exact h5 r j hr' hj hn' e
theorem bF_exch {r0 c0 : Nat} (hF : bF R rs cell) (hx : xOk R C cell cell' r0 c0) (hpos : 0 < cell' r0 0) (hr0 : r0 < R) (hc0 : c0 < C) (hst : isStp rs cell c0 R (r0 : Int)) : bF R (xSwap rs r0 (cs c0)) cell' := by
  rcases hst with ⟨q, -⟩ | ⟨a, qa, q1, q2, q3⟩
  · omega
  obtain rfl : r0 = a := by omega
  obtain ⟨⟨g, hg, hk⟩, x2⟩ := hx
  have k1 := hk 1 (by omega)
  have k0 := hk 0 (by omega)
  unfold rTurn at k1 k0
  rw [if_neg (by omega), if_neg (by omega)] at k1
  rw [if_pos rfl] at k0
  have hn0 : rs r0 ≠ 0 := by have := q2.1; omega
  have c0n := hF r0 hr0 hn0
  have t1 : 0 ≤ cell' r0 1 := by
    by_cases q : 0 ≤ cell' r0 1
    · exact q
    · have := Int.mul_lt_mul_of_pos_left (show cell' r0 1 < 0 by omega) hg
      omega
  intro r hr hn
  by_cases hrr : r = r0
  · rw [hrr]; exact t1
  · rw [xSwap_n hrr] at hn
    obtain ⟨y1, y2⟩ := x2 r hr hrr
    by_cases hz : cell r (2 + c0) = 0
    · rw [y1 hz]; exact hF r hr hn
    · obtain ⟨g', hg', hk'⟩ := y2 hz
      have e1 := hk' 1 (by omega)
      unfold rRep at e1
      rw [if_neg (by omega), if_neg (by omega)] at e1
      have cr := hF r hr hn
      have main : 0 ≤ cell r 1 * cell' r0 0 + cell r (2 + c0) * cell' r0 1 := by
        by_cases hp : 0 < cell r (2 + c0)
        · have a1 := Int.mul_nonneg cr (show 0 ≤ cell' r0 0 by omega)
          have a2 := Int.mul_nonneg (show 0 ≤ cell r (2 + c0) by omega) t1
          omega
        · have hcand : isCnd rs cell c0 r := ⟨by omega, by omega⟩
          have hb := q3 r hr hcand
          unfold stpA at hb
          have e3 : g * (cell r 1 * cell' r0 0 + cell r (2 + c0) * cell' r0 1) = cell r 1 * -cell r0 (2 + c0) + cell r (2 + c0) * cell r0 1 := by
            rw [k0, k1]; grind
          have e4 : cell r (2 + c0) * cell r0 1 = -(cell r0 1 * -cell r (2 + c0)) := by grind
          by_cases q : 0 ≤ cell r 1 * cell' r0 0 + cell r (2 + c0) * cell' r0 1
          · exact q
          · have := Int.mul_lt_mul_of_pos_left (show cell r 1 * cell' r0 0 + cell r (2 + c0) * cell' r0 1 < 0 by omega) hg
            omega
      by_cases q : 0 ≤ cell' r 1
      · exact q
      · have := Int.mul_lt_mul_of_pos_left (show cell' r 1 < 0 by omega) hg'
        omega
theorem b_enter (h : bI s A R C rs cs cell idr idc X vr kr M kM Q V) (hN : bN A room R C rs cs idr idc) (hF : bF R rs cell) {c0 : Nat} (hc0 : c0 < C) :
    (D_X0_enter s (n32 (c0 : Int)) = some (n32 (-1), s) ∧ ∀ r, r < R → ¬ isCnd rs cell c0 r) ∨
    ∃ r0 s' cell', r0 < R ∧ isStp rs cell c0 R ((r0 : Nat) : Int) ∧ D_X0_enter s (n32 (c0 : Int)) = some (n32 (r0 : Int), s') ∧ bFrm s s' ∧ xOk R C cell cell' r0 c0 ∧ rs r0 ≠ 0 ∧ cell r0 (2 + c0) < 0 ∧ bI s' A R C (xSwap rs r0 (cs c0)) (xSwap cs c0 (rs r0)) cell' (xSwap idr r0 (idc c0)) (xSwap idc c0 (idr r0)) X (xSwap vr r0 (fun i => M i c0)) (xSwap kr r0 (kM c0)) (zrep M c0 (vr r0)) (xSwap kM c0 (kr r0)) Q V ∧ bN A room R C (xSwap rs r0 (cs c0)) (xSwap cs c0 (rs r0)) (xSwap idr r0 (idc c0)) (xSwap idc c0 (idr r0)) ∧ bF R (xSwap rs r0 (cs c0)) cell' := by
  obtain ⟨x, e1, hst⟩ := b_stopping h.1 (bI_small h) hc0
  have hR := h.1.1
  rcases id hst with ⟨q, p⟩ | ⟨r0, q, q1, q2, q3⟩
  · refine Or.inl ⟨?_, p⟩
    unfold D_X0_enter
    rw [e1, zbs, q, zif_t (show n32 (-1) = -1 from rfl)]
  · subst q
    obtain ⟨s', cell', a1, a2, a3, a4⟩ := bI_exch h q1 hc0 q2.2
    have hn0 : rs r0 ≠ 0 := by have := q2.1; omega
    refine Or.inr ⟨r0, s', cell', q1, hst, ?_, a2, a3, hn0, q2.2, a4, bN_swap hN q1 hc0 hn0, bF_exch hF a3 (a4.2.1.1 r0 q1) q1 hc0 hst⟩
    unfold D_X0_enter
    rw [e1, zbs, zif_f (by rw [l32_m1, n32_eq (by omega) (by omega) (by omega) (by omega)]; omega), a1, zbs]
end TU
