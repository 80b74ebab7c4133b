/-! a column goes; a row's bound is frozen -/
theorem bFrm_L {s : zS} {r k : Nat} {x : Int64} (hr : r < 20) : bFrm s (zwL s (10 + r) k x) := ⟨fun _ _ _ _ _ => rfl, fun c k' h => by rw [zwL_at, if_neg (fun q => by have := q.1; omega)]⟩
theorem bEnc_w {s : zS} {R C : Nat} {rs cs : Nat → Nat} {cell : Nat → Nat → Int} {r k : Nat} {x : Int} (h : bEnc s R C rs cs cell) (hr : r < R) : bEnc (zwL s (10 + r) k (n64 x)) R C rs cs (xSwap cell r (xSwap (cell r) k x)) :=
  bEnc_I h rfl (fun r' hr' i hi => by
    rw [zwL_at]
    by_cases q : r' = r
    · subst q
      rw [xSwap_s]
      by_cases q2 : i = k
      · subst q2; rw [if_pos ⟨rfl, rfl⟩, xSwap_s]
      · rw [if_neg (fun q => q2 q.2), xSwap_n q2]; exact h.2.2.2.2.2.2.1 r' hr' i hi
    · rw [if_neg (fun q' => q (by have := q'.1; omega)), xSwap_n q]; exact h.2.2.2.2.2.2.1 r' hr' i hi)
theorem bEnc_cs {s : zS} {R C : Nat} {rs cs : Nat → Nat} {cell : Nat → Nat → Int} {j x : Nat} (h : bEnc s R C rs cs cell) (hx : x < 16) : bEnc (zwI s 31 j (n32 (x : Int))) R C rs (xSwap cs j x) cell := by
  obtain ⟨a1, a2, a3, a4, a5, a6, a7, a8, a9⟩ := h
  refine ⟨a1, a2, ?_, ?_, fun r hr => ?_, fun j' hj => ?_, a7, a8, fun j' hj => ?_⟩
  · rw [zwI_at, if_neg (fun q => by have := q.1; omega)]; exact a3
  · rw [zwI_at, if_neg (fun q => by have := q.1; omega)]; exact a4
  · rw [zwI_at, if_neg (fun q => by have := q.1; omega)]; exact a5 r hr
  · rw [zwI_at]
    by_cases q : j' = j
    · rw [if_pos ⟨rfl, q⟩, q, xSwap_s]
    · rw [if_neg (fun q' => q q'.2), xSwap_n q]; exact a6 j' hj
  · by_cases q : j' = j
    · rw [q, xSwap_s]; exact hx
    · rw [xSwap_n q]; exact a9 j' hj
theorem bEnc_rs {s : zS} {R C : Nat} {rs cs : Nat → Nat} {cell : Nat → Nat → Int} {r x : Nat} (h : bEnc s R C rs cs cell) (hx : x < 16) : bEnc (zwI s 30 r (n32 (x : Int))) R C (xSwap rs r x) cs cell := by
  obtain ⟨a1, a2, a3, a4, a5, a6, a7, a8, a9⟩ := h
  refine ⟨a1, a2, ?_, ?_, fun r' hr => ?_, fun j' hj => ?_, a7, fun r' hr => ?_, a9⟩
  · rw [zwI_at, if_neg (fun q => by have := q.1; omega)]; exact a3
  · rw [zwI_at, if_neg (fun q => by have := q.1; omega)]; exact a4
  · rw [zwI_at]
    by_cases q : r' = r
    · rw [if_pos ⟨rfl, q⟩, q, xSwap_s]
    · rw [if_neg (fun q' => q q'.2), xSwap_n q]; exact a5 r' hr
  · rw [zwI_at, if_neg (fun q => by have := q.1; omega)]; exact a6 j' hj
  · by_cases q : r' = r
    · rw [q, xSwap_s]; exact hx
    · rw [xSwap_n q]; exact a8 r' hr
theorem bEnc_ext {s : zS} {R C : Nat} {rs cs rs' cs' : Nat → Nat} {cell cell' : Nat → Nat → Int} (h : bEnc s R C rs cs cell) (h1 : ∀ r, r < R → rs r = rs' r) (h2 : ∀ j, j < C → cs j = cs' j) (h3 : ∀ r, r < R → ∀ k, k < 2 + C → cell r k = cell' r k) : bEnc s R C rs' cs' cell' := by
  obtain ⟨a1, a2, a3, a4, a5, a6, a7, a8, a9⟩ := h
  exact ⟨a1, a2, a3, a4, fun r hr => by rw [← h1 r hr]; exact a5 r hr, fun j hj => by rw [← h2 j hj]; exact a6 j hj, fun r hr k hk => by rw [← h3 r hr k hk]; exact a7 r hr k hk, fun r hr => by rw [← h1 r hr]; exact a8 r hr, fun j hj => by rw [← h2 j hj]; exact a9 j hj⟩
/-- what stands behind c moves one ahead, up to t -/
def shT (c t : Nat) {α : Type} (f : Nat → α) : Nat → α := fun j => if c ≤ j ∧ j < t then f (j + 1) else f j
theorem rm28 {R C c t : Nat} {rs cs : Nat → Nat} {cell : Nat → Nat → Int} {rec4 : Int32 → zS → Option zS} (hc : c ≤ t) (ht : t + 1 < C) : ∀ m f k s, k + m = R → m < f → bEnc s R C rs cs (fun r => if r < k then shT (2 + c) (2 + t + 1) (cell r) else shT (2 + c) (2 + t) (cell r)) →
    ∃ s', D_X0_removeColumn_L28 rec4 (n32 ((t + 1 : Nat) : Int)) f (n32 (k : Int)) s = rec4 (n32 ((t + 1 + 1 : Nat) : Int)) s' ∧ bFrm s s' ∧ bEnc s' R C rs cs (fun r => shT (2 + c) (2 + t + 1) (cell r)) := by
  intro m
  induction m with
  | zero =>
    intro f k s hk hf h
    obtain ⟨f, rfl⟩ : ∃ j, f = j + 1 := ⟨f - 1, by omega⟩
    obtain rfl : k = R := by omega
    refine ⟨s, ?_, bFrm_r s, bEnc_ext h (fun _ _ => rfl) (fun _ _ => rfl) (fun r hr k _ => by rw [if_pos hr])⟩
    rw [D_X0_removeColumn_L28_s]
    unfold D_X0_removeColumn_B28
    rw [h.2.2.1, zif_t (Int32.le_refl _), nsuc]
  | succ m ih =>
    intro f k s hk hf h
    obtain ⟨f, rfl⟩ : ∃ j, f = j + 1 := ⟨f - 1, by omega⟩
    have h1 := h.1
    have h2 := h.2.1
    have hval := h.2.2.2.2.2.2.1 k (by omega) (2 + (t + 1)) (by omega)
    dsimp only at hval
    rw [if_neg (by omega)] at hval
    have i1 : (2 : Int32) + n32 ((t + 1 : Nat) : Int) = n32 ((2 + (t + 1) : Nat) : Int) := by rw [l32_2, n32_add]; rfl
    have i2 : n32 ((2 + (t + 1) : Nat) : Int) - (1 : Int32) = n32 ((2 + t : Nat) : Int) := by
      rw [l32_1, n32_sub]
      congr 1
      omega
    rw [D_X0_removeColumn_L28_s]
    unfold D_X0_removeColumn_B28
    rw [h.2.2.1, zif_f (by rw [c32_le (by omega) (by omega)]; omega), zgd_t (czin (by omega) (by omega)), zgd_t (czin (by omega) (by omega)), zT9 k (by omega), i1, i2, zoL9 (by omega), zoL9 (by omega), zgd_t (czin (by omega) (by omega)), zgd_t (czin (by omega) (by omega)), n32_xn (by omega), n32_xn (by omega), hval, nsuc]
    obtain ⟨s2, e2, f2, g2⟩ := ih f (k + 1) _ (by omega) (by omega) (bEnc_ext (bEnc_w (k := 2 + t) (x := shT (2 + c) (2 + t) (cell k) (2 + (t + 1))) h (show k < R by omega)) (fun _ _ => rfl) (fun _ _ => rfl) (fun r hr i hi => by
      by_cases e : r = k
      · subst e
        rw [xSwap_s]
        try dsimp only
        rw [if_neg (show ¬ r < r by omega), if_pos (show r < r + 1 by omega)]
        by_cases e2 : i = 2 + t
        · subst e2
          rw [xSwap_s]
          unfold shT
          rw [if_neg (by omega), if_pos (show 2 + c ≤ 2 + t ∧ 2 + t < 2 + t + 1 by omega)]
          rfl
        · rw [xSwap_n e2]
          unfold shT
          by_cases e3 : 2 + c ≤ i ∧ i < 2 + t
          · rw [if_pos e3, if_pos (show 2 + c ≤ i ∧ i < 2 + t + 1 by omega)]
          · rw [if_neg e3, if_neg (show ¬ (2 + c ≤ i ∧ i < 2 + t + 1) by omega)]
      · rw [xSwap_n e]
        (repeat' split) <;> first | rfl | (exfalso; omega)))
    exact ⟨s2, e2, bFrm_t (bFrm_L (by omega)) f2, g2⟩
theorem rm4 {R C c : Nat} {rs cs : Nat → Nat} {cell : Nat → Nat → Int} (hc : c < C) : ∀ m f t s, t + m = C → m < f → c < t → bEnc s R C rs (shT c (t - 1) cs) (fun r => shT (2 + c) (2 + (t - 1)) (cell r)) →
    ∃ s', D_X0_removeColumn_L4 f (n32 (t : Int)) s = some s' ∧ bFrm s s' ∧ bEnc s' R (C - 1) rs (shT c (C - 1) cs) (fun r => shT (2 + c) (2 + (C - 1)) (cell r)) := by
  intro m
  induction m with
  | zero =>
    intro f t s ht hf hct h
    obtain ⟨f, rfl⟩ : ∃ j, f = j + 1 := ⟨f - 1, by omega⟩
    obtain rfl : t = C := by omega
    obtain ⟨a1, a2, a3, a4, a5, a6, a7, a8, a9⟩ := h
    have i2 : n32 (t : Int) - (1 : Int32) = n32 ((t - 1 : Nat) : Int) := by
      rw [l32_1, n32_sub]
      congr 1
      omega
    refine ⟨zwI s 8 4 (n32 ((t - 1 : Nat) : Int)), ?_, ⟨fun c k _ _ h8 => by rw [zwI_at, if_neg (fun q => (h8 q.1).2 q.2)], fun _ _ _ => rfl⟩, a1, by omega, ?_, ?_, fun r hr => ?_, fun j hj => ?_, fun r hr k hk => ?_, a8, fun j hj => a9 j (by omega)⟩
    · rw [D_X0_removeColumn_L4_s]
      unfold D_X0_removeColumn_B4
      rw [a4, zif_t (Int32.le_refl _), i2]
    · rw [zwI_at, if_neg (fun q => by have := q.2; omega)]; exact a3
    · rw [zwI_at, if_pos ⟨rfl, rfl⟩]
    · rw [zwI_at, if_neg (fun q => by have := q.1; omega)]; exact a5 r hr
    · rw [zwI_at, if_neg (fun q => by have := q.1; omega)]; exact a6 j (by omega)
    · exact a7 r hr k (by omega)
  | succ m ih =>
    intro f t s ht hf hct h
    obtain ⟨f, rfl⟩ : ∃ j, f = j + 1 := ⟨f - 1, by omega⟩
    have h2 := h.2.1
    have i2 : n32 (t : Int) - (1 : Int32) = n32 ((t - 1 : Nat) : Int) := by
      rw [l32_1, n32_sub]
      congr 1
      omega
    have hcs := h.2.2.2.2.2.1 t (by omega)
    have h9 := h.2.2.2.2.2.2.2.2 t (by omega)
    rw [D_X0_removeColumn_L4_s]
    unfold D_X0_removeColumn_B4
    rw [h.2.2.2.1, zif_f (by rw [c32_le (by omega) (by omega)]; omega), i2, zgd_t (czin (by omega) (by omega)), zgd_t (czin (by omega) (by omega)), n32_xn (by omega), n32_xn (by omega), hcs]
    obtain ⟨s1, e1, f1, g1⟩ := rm28 (c := c) (t := t - 1) (cell := cell) (rec4 := D_X0_removeColumn_L4 f) (by omega) (by omega) R zFU 0 (zwI s 31 (t - 1) (n32 ((shT c (t - 1) cs t : Nat) : Int))) (by omega) (zFU_lt (by have := h.1; omega)) (bEnc_ext (bEnc_cs (j := t - 1) h h9) (fun _ _ => rfl) (fun _ _ => rfl) (fun r hr k _ => by rw [if_neg (by omega)]))
    have e1' : D_X0_removeColumn_L28 (D_X0_removeColumn_L4 f) (n32 (t : Int)) zFU (0 : Int32) (zwI s 31 (t - 1) (n32 ((shT c (t - 1) cs t : Nat) : Int))) = D_X0_removeColumn_L4 f (n32 ((t + 1 : Nat) : Int)) s1 := by
      rw [show t - 1 + 1 = t by omega] at e1
      exact e1
    dsimp only
    rw [e1']
    obtain ⟨s2, e2, f2, g2⟩ := ih f (t + 1) s1 (by omega) (by omega) (by omega) (bEnc_ext g1 (fun _ _ => rfl) (fun j hj => by
      by_cases e : j = t - 1
      · rw [e, xSwap_s]
        unfold shT
        rw [if_neg (by omega), if_pos (by omega), show t - 1 + 1 = t by omega]
      · rw [xSwap_n e]
        unfold shT
        by_cases e3 : c ≤ j ∧ j < t - 1
        · rw [if_pos e3, if_pos (by omega)]
        · rw [if_neg e3, if_neg (by omega)]) (fun r hr k hk => by
      show shT (2 + c) (2 + (t - 1) + 1) (cell r) k = shT (2 + c) (2 + (t + 1 - 1)) (cell r) k
      rw [show 2 + (t - 1) + 1 = 2 + (t + 1 - 1) by omega]))
    exact ⟨s2, e2, bFrm_t (bFrm_31 _ _ _) (bFrm_t f1 f2), g2⟩
theorem rm_col {s : zS} {R C c : Nat} {rs cs : Nat → Nat} {cell : Nat → Nat → Int} (hc : c < C) (h : bEnc s R C rs cs cell) : ∃ s', D_X0_removeColumn s (n32 (c : Int)) = some s' ∧ bFrm s s' ∧ bEnc s' R (C - 1) rs (shT c (C - 1) cs) (fun r => shT (2 + c) (2 + (C - 1)) (cell r)) := by
  have h2 := h.2.1
  obtain ⟨s', e, f, g⟩ := rm4 hc (C - (c + 1)) zFU (c + 1) s (by omega) (zFU_lt (by omega)) (by omega) (bEnc_ext h (fun _ _ => rfl) (fun j hj => by unfold shT; rw [if_neg (by omega)]) (fun r hr k hk => by unfold shT; rw [if_neg (by omega)]))
  refine ⟨s', ?_, f, g⟩
  unfold D_X0_removeColumn
  rw [nsuc]
  exact e
/-- positions of a frame where c goes behind the others -/
def rotI (c k j : Nat) : Nat := if j < c ∨ c + k < j then j else if j = c + k then c else j + 1
theorem rotI_det {M : Nat → Nat → Int} {c : Nat} : ∀ k, c + k < 5 → det5 M ≠ 0 → det5 (fun i j => M i (rotI c k j)) ≠ 0
  | 0, h, hd => by
    rw [show (fun i j => M i (rotI c 0 j)) = M by
      funext i j
      unfold rotI
      by_cases e : j = c
      · rw [if_neg (by omega), if_pos (by omega), e]
      · rw [if_pos (by omega)]]
    exact hd
  | k + 1, h, hd => by
    have h1 := det5_swp (a := c + k) (b := c + k + 1) (by omega) (by omega) (rotI_det (c := c) k (by omega) hd)
    rw [show (fun i j => M i (rotI c (k + 1) j)) = fun i j => M i (rotI c k (zswp (c + k) (c + k + 1) j)) by
      funext i j
      congr 1
      unfold rotI zswp
      (repeat' split) <;> omega]
    exact h1
theorem rotI_lt {c C j : Nat} (hc : c < C) (hj : j < C - 1) : rotI c (C - 1 - c) j = if c ≤ j then j + 1 else j := by
  unfold rotI
  by_cases e : c ≤ j
  · rw [if_neg (by omega), if_neg (by omega), if_pos e]
  · rw [if_pos (by omega), if_neg e]
theorem shT_lt {α : Type} {f : Nat → α} {c C j : Nat} (hj : j < C - 1) : shT c (C - 1) f j = f (if c ≤ j then j + 1 else j) := by
  unfold shT
  by_cases e : c ≤ j
  · rw [if_pos ⟨e, hj⟩, if_pos e]
  · rw [if_neg (fun x => e x.1), if_neg e]
theorem zsum_rm {f : Nat → Rat} {c : Nat} : ∀ n, c < n → f c = 0 → zsum n f = zsum (n - 1) (fun j => f (if c ≤ j then j + 1 else j))
  | 0, h, _ => by omega
  | n + 1, h, h0 => by
    by_cases e : c = n
    · subst e
      rw [zsum, h0]
      have : zsum (c + 1 - 1) (fun j => f (if c ≤ j then j + 1 else j)) = zsum c f := zsum_congr c (fun j hj => by rw [if_neg (by omega)])
      rw [this]; grind
    · have hn : n = n - 1 + 1 := by omega
      rw [zsum, zsum_rm n (by omega) h0]
      show _ = zsum n _
      rw [hn, zsum, ← hn]
      congr 1
      show f n = f (if c ≤ n - 1 then n else n - 1)
      rw [if_pos (by omega)]
section RM
variable {W : Type} {s : zS} {A : W → Prop} {R C : Nat} {rs cs : Nat → Nat} {cell : Nat → Nat → Int} {idr idc : Nat → W → Rat} {X : W → Nat → Rat} {vr : Nat → Nat → Int} {kr : Nat → Rat} {M : Nat → Nat → Int} {kM : Nat → Rat} {Q V : Int}
theorem bI_rm {c : Nat} (h : bI s A R C rs cs cell idr idc X vr kr M kM Q V) (hc : c < C) : ∃ s', D_X0_removeColumn s (n32 (c : Int)) = some s' ∧ bFrm s s' ∧
    bI s' (fun w => A w ∧ idc c w = 0) R (C - 1) rs (shT c (C - 1) cs) (fun r => shT (2 + c) (2 + (C - 1)) (cell r)) idr (shT c (C - 1) idc) X vr kr (fun i j => M i (rotI c (C - 1 - c) j)) (fun j => kM (rotI c (C - 1 - c) j)) Q V := by
  obtain ⟨e, ⟨d1, d2, d3⟩, ⟨f1, f2, f3, f4, f5, f6, f7, f8, f9, f10⟩, g, hQ, hV, hb⟩ := h
  obtain ⟨s', e1, fr, e2⟩ := rm_col hc e
  have hC4 := e.2.1
  have hcell0 : ∀ r, shT (2 + c) (2 + (C - 1)) (cell r) 0 = cell r 0 := fun r => by unfold shT; rw [if_neg (by omega)]
  have hcell1 : ∀ r, shT (2 + c) (2 + (C - 1)) (cell r) 1 = cell r 1 := fun r => by unfold shT; rw [if_neg (by omega)]
  have hcellj : ∀ r j, j < C - 1 → shT (2 + c) (2 + (C - 1)) (cell r) (2 + j) = cell r (2 + if c ≤ j then j + 1 else j) := fun r j hj => by
    unfold shT
    by_cases q : c ≤ j
    · rw [if_pos (by omega), if_pos q]; rfl
    · rw [if_neg (by omega), if_neg q]
  have hlt : ∀ j, j < C - 1 → (if c ≤ j then j + 1 else j) < C := fun j hj => by split <;> omega
  refine ⟨s', e1, fr, e2, ⟨fun r hr => by (try dsimp only); rw [hcell0]; exact d1 r hr, fun w hw r hr => ?_, fun t => ?_⟩, ⟨by omega, fun w hw r hr => f2 w hw.1 r hr, fun w hw j hj => ?_, fun w hw j hj1 hj2 => ?_, f5, fun j hj => ?_, ?_, f8, f9, fun j hj => ?_⟩, fun r hr => ?_, hQ, hV, hb⟩
  · have h0 := d2 w hw.1 r hr
    unfold rV at h0 ⊢
    try dsimp only
    rw [hcell0, hcell1, h0, zsum_rm C hc (by rw [hw.2]; grind)]
    congr 1
    exact zsum_congr (C - 1) (fun j hj => by rw [hcellj r j hj, shT_lt hj])
  · obtain ⟨w, w1, w2⟩ := d3 (fun j => if j = c then 0 else if j < c then t j else t (j - 1))
    refine ⟨w, ⟨w1, by rw [w2 c hc, if_pos rfl]⟩, fun j hj => ?_⟩
    rw [shT_lt hj, w2 _ (hlt j hj)]
    by_cases q : c ≤ j
    · rw [if_pos q, if_neg (by omega), if_neg (by omega)]; rfl
    · rw [if_neg q, if_neg (by omega), if_pos (by omega)]
  · try dsimp only
    rw [shT_lt hj, rotI_lt hc hj]
    exact f3 w hw.1 _ (hlt j hj)
  · by_cases q : j = C - 1
    · have : rotI c (C - 1 - c) j = c := by unfold rotI; rw [if_neg (by omega), if_pos (by omega)]
      try dsimp only
      rw [this]
      have := f3 w hw.1 c hc
      rw [hw.2] at this
      grind
    · have : rotI c (C - 1 - c) j = j := by unfold rotI; rw [if_pos (by omega)]
      try dsimp only
      rw [this]
      exact f4 w hw.1 j (by omega) hj2
  · have : rotI c (C - 1 - c) j < 5 := by unfold rotI; (split; omega; (split <;> omega))
    exact f6 _ this
  · exact rotI_det _ (by omega) f7
  · have : rotI c (C - 1 - c) j < 5 := by unfold rotI; (split; omega; (split <;> omega))
    exact f10 _ this
  · have := g r hr
    try dsimp only
    rw [hcell0, hcell1]
    refine ⟨this.1, this.2.1, fun j hj => ?_⟩
    rw [hcellj r j hj]
    exact this.2.2 _ (hlt j hj)
end RM
