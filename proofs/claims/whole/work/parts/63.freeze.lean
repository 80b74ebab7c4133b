/-! a row's bound is frozen: the columns that it hangs on go -/
section FZ
variable {W : Type} {R : Nat} {rs : Nat → Nat} {X : W → Nat → Rat} {Q V : Int}
theorem bI_iff {s : zS} {A A' : W → Prop} {C : Nat} {cs : Nat → Nat} {cell : Nat → Nat → Int} {idr idc : Nat → W → Rat} {vr : Nat → Nat → Int} {kr : Nat → Rat} {M : Nat → Nat → Int} {kM : Nat → Rat} (h : bI s A R C rs cs cell idr idc X vr kr M kM Q V) (e : ∀ w, A w ↔ A' w) : bI s A' R C rs cs cell idr idc X vr kr M kM Q V := by
  have : A = A' := funext fun w => propext (e w)
  rw [← this]; exact h
/-- which columns remain: those behind k that the row doesn't hang on, and all ahead -/
def fzOk (C k Cc : Nat) (f : Nat → Int) (σ : Nat → Nat) : Prop :=
  k ≤ Cc ∧ Cc ≤ C ∧ (∀ j, j < k → σ j = j) ∧ (∀ j, k ≤ j → j < Cc → k ≤ σ j ∧ σ j < C ∧ f (σ j) = 0) ∧ (∀ j j', j < Cc → j' < Cc → σ j = σ j' → j = j') ∧ ∀ j0, k ≤ j0 → j0 < C → f j0 = 0 → ∃ j, j < Cc ∧ σ j = j0
theorem fzOk_lt {C k Cc : Nat} {f : Nat → Int} {σ : Nat → Nat} (h : fzOk C k Cc f σ) {j : Nat} (hj : j < Cc) : σ j < C := by
  obtain ⟨h1, h2, h3, h4, -, -⟩ := h
  by_cases e : j < k
  · rw [h3 j e]; omega
  · exact (h4 j (by omega) hj).2.1
theorem fz7 {A : W → Prop} {C r0 : Nat} {cs : Nat → Nat} {cell : Nat → Nat → Int} {idr idc : Nat → W → Rat} {vr : Nat → Nat → Int} {kr : Nat → Rat} {M : Nat → Nat → Int} {kM : Nat → Rat} (hr0 : r0 < R) : ∀ k f s Cc σ cs1 cell1 idc1 M1 kM1, k < f → fzOk C k Cc (fun j => cell r0 (2 + j)) σ →
    bI s (fun w => A w ∧ ∀ j, k ≤ j → j < C → cell r0 (2 + j) ≠ 0 → idc j w = 0) R Cc rs cs1 cell1 idr idc1 X vr kr M1 kM1 Q V →
    (∀ j, j < Cc → cs1 j = cs (σ j) ∧ idc1 j = idc (σ j) ∧ (∀ i, M1 i j = M i (σ j)) ∧ kM1 j = kM (σ j) ∧ ∀ r, r < R → cell1 r (2 + j) = cell r (2 + σ j)) → (∀ r, r < R → cell1 r 0 = cell r 0 ∧ cell1 r 1 = cell r 1) →
    ∃ s' C' σ' cs' cell' idc' M' kM', D_X0_freeze_L7 (n32 (r0 : Int)) f (n32 ((k : Int) - 1)) s = some s' ∧ bFrm s s' ∧ fzOk C 0 C' (fun j => cell r0 (2 + j)) σ' ∧
      bI s' (fun w => A w ∧ ∀ j, j < C → cell r0 (2 + j) ≠ 0 → idc j w = 0) R C' rs cs' cell' idr idc' X vr kr M' kM' Q V ∧
      (∀ j, j < C' → cs' j = cs (σ' j) ∧ idc' j = idc (σ' j) ∧ (∀ i, M' i j = M i (σ' j)) ∧ kM' j = kM (σ' j) ∧ ∀ r, r < R → cell' r (2 + j) = cell r (2 + σ' j)) ∧ ∀ r, r < R → cell' r 0 = cell r 0 ∧ cell' r 1 = cell r 1 := by
  intro k
  induction k with
  | zero =>
    intro f s Cc σ cs1 cell1 idc1 M1 kM1 hf hz hI h1 h2
    obtain ⟨f, rfl⟩ : ∃ j, f = j + 1 := ⟨f - 1, by omega⟩
    refine ⟨s, Cc, σ, cs1, cell1, idc1, M1, kM1, ?_, bFrm_r s, hz, bI_iff hI (fun w => ⟨fun h => ⟨h.1, fun j hj => h.2 j (by omega) hj⟩, fun h => ⟨h.1, fun j _ hj => h.2 j hj⟩⟩), h1, h2⟩
    rw [D_X0_freeze_L7_s]
    unfold D_X0_freeze_B7
    rw [zif_t (by decide)]
  | succ k ih =>
    intro f s Cc σ cs1 cell1 idc1 M1 kM1 hf hz hI h1 h2
    obtain ⟨f, rfl⟩ : ∃ j, f = j + 1 := ⟨f - 1, by omega⟩
    obtain ⟨z1, z2, z3, z4, z5, z6⟩ := id hz
    have hC4 := hI.1.2.1
    have hR20 := hI.1.1
    have hsm := (bI_small hI)
    have hk1 : n32 (((k + 1 : Nat) : Int) - 1) = n32 (k : Int) := by congr 1; omega
    have hσk : σ k = k := z3 k (by omega)
    have hck := (h1 k (by omega)).2.2.2.2 r0 hr0
    rw [hσk] at hck
    have hbd := (hsm.2.2.2.2 r0 hr0).2.2 k (by omega)
    have hB := B_small hsm.1 hsm.2.2.1
    rw [D_X0_freeze_L7_s]
    unfold D_X0_freeze_B7
    rw [hk1, zif_f (by rw [l32_0, n32_lt (by omega) (by omega) (by omega) (by omega)]; omega), b_factor hI.1 hr0 (show k < Cc by omega), zbs, l64_0]
    have hd : n32 (k : Int) + -1 = n32 ((k : Int) - 1) := by rw [l32_m1, n32_add]; rfl
    by_cases hzero : cell r0 (2 + k) = 0
    · rw [zif_t (by rw [lgc_eq (by omega) (by omega) (by omega) (by omega), hck]; exact hzero), hd]
      refine ih f s Cc σ cs1 cell1 idc1 M1 kM1 (by omega) ⟨by omega, z2, fun j hj => z3 j (by omega), fun j hj1 hj2 => ?_, z5, fun j0 a b c => ?_⟩ (bI_iff hI (fun w => ⟨fun h => ⟨h.1, fun j a b c => ?_⟩, fun h => ⟨h.1, fun j a b c => h.2 j (by omega) b c⟩⟩)) h1 h2
      · by_cases e : j = k
        · subst e; rw [hσk]; exact ⟨by omega, by omega, hzero⟩
        · have := z4 j (by omega) hj2
          exact ⟨by omega, this.2⟩
      · by_cases e : j0 = k
        · subst e; exact ⟨j0, by omega, hσk⟩
        · exact z6 j0 (by omega) b c
      · by_cases e : j = k
        · subst e; exact absurd hzero c
        · exact h.2 j (by omega) b c
    · rw [zif_f (by rw [lgc_eq (by omega) (by omega) (by omega) (by omega), hck]; exact hzero)]
      obtain ⟨s1, e1, f1, g1⟩ := bI_rm hI (show k < Cc by omega)
      rw [e1, zbs, hd]
      have hidx : ∀ j, j < Cc - 1 → (if k ≤ j then j + 1 else j) < Cc := fun j hj => by split <;> omega
      obtain ⟨s2, C', σ', cs', cell', idc', M', kM', e2, f2, g2⟩ := ih f s1 (Cc - 1) (shT k (Cc - 1) σ) _ _ _ _ _ (by omega) ⟨by omega, by omega, fun j hj => by
          rw [shT_lt (by omega), if_neg (by omega)]; exact z3 j (by omega), fun j hj1 hj2 => by
          rw [shT_lt hj2, if_pos hj1]
          have := z4 (j + 1) (by omega) (by omega)
          exact ⟨by omega, this.2⟩, fun j j' hj hj' e => by
          rw [shT_lt hj, shT_lt hj'] at e
          have := z5 _ _ (hidx j hj) (hidx j' hj') e
          split at this <;> split at this <;> omega, fun j0 a b c => by
          by_cases e : j0 = k
          · subst e; exact absurd c hzero
          · obtain ⟨j, hj, ej⟩ := z6 j0 (by omega) b c
            by_cases e2 : j = k
            · subst e2; omega
            · by_cases e3 : j < k
              · exact ⟨j, by omega, by rw [shT_lt (by omega), if_neg (by omega)]; exact ej⟩
              · refine ⟨j - 1, by omega, ?_⟩
                rw [shT_lt (by omega), if_pos (by omega), show j - 1 + 1 = j by omega]; exact ej⟩ (bI_iff g1 (fun w => by
          have e0 : idc1 k = idc k := by rw [(h1 k (by omega)).2.1, hσk]
          rw [e0]
          exact ⟨fun h => ⟨h.1.1, fun j a b c => by
            by_cases e : j = k
            · subst e; exact h.2
            · exact h.1.2 j (by omega) b c⟩, fun h => ⟨⟨h.1, fun j a b c => h.2 j (by omega) b c⟩, h.2 k (by omega) (by omega) hzero⟩⟩)) (fun j hj => by
          rw [shT_lt hj, shT_lt hj, shT_lt hj]
          obtain ⟨a1, a2, a3, a4, a5⟩ := h1 _ (hidx j hj)
          refine ⟨a1, a2, fun i => ?_, ?_, fun r hr => ?_⟩
          · rw [rotI_lt (by omega) hj]; exact a3 i
          · rw [rotI_lt (by omega) hj]; exact a4
          · have : shT (2 + k) (2 + (Cc - 1)) (cell1 r) (2 + j) = cell1 r (2 + if k ≤ j then j + 1 else j) := by
              unfold shT
              by_cases q : k ≤ j
              · rw [if_pos (by omega), if_pos q]; rfl
              · rw [if_neg (by omega), if_neg q]
            rw [this]; exact a5 r hr) (fun r hr => by
          unfold shT
          rw [if_neg (by omega), if_neg (by omega)]
          exact h2 r hr)
      exact ⟨s2, C', σ', cs', cell', idc', M', kM', e2, bFrm_t f1 f2, g2⟩
theorem b_freeze {s : zS} {A : W → Prop} {C r0 : Nat} {cs : Nat → Nat} {cell : Nat → Nat → Int} {idr idc : Nat → W → Rat} {vr : Nat → Nat → Int} {kr : Nat → Rat} {M : Nat → Nat → Int} {kM : Nat → Rat} (hr0 : r0 < R) (h : bI s A R C rs cs cell idr idc X vr kr M kM Q V) :
    ∃ s' C' σ' cs' cell' idc' M' kM', D_X0_freeze s (n32 (r0 : Int)) = some s' ∧ bFrm s s' ∧ fzOk C 0 C' (fun j => cell r0 (2 + j)) σ' ∧
      bI s' (fun w => A w ∧ ∀ j, j < C → cell r0 (2 + j) ≠ 0 → idc j w = 0) R C' rs cs' cell' idr idc' X vr kr M' kM' Q V ∧
      (∀ j, j < C' → cs' j = cs (σ' j) ∧ idc' j = idc (σ' j) ∧ (∀ i, M' i j = M i (σ' j)) ∧ kM' j = kM (σ' j) ∧ ∀ r, r < R → cell' r (2 + j) = cell r (2 + σ' j)) ∧ ∀ r, r < R → cell' r 0 = cell r 0 ∧ cell' r 1 = cell r 1 := by
  have hC4 := h.1.2.1
  unfold D_X0_freeze
  rw [h.1.2.2.2.1, l32_1, n32_sub]
  exact fz7 (A := A) hr0 C zFU s C (fun j => j) cs cell idc M kM (zFU_lt (by omega)) ⟨Nat.le_refl _, Nat.le_refl _, fun j _ => rfl, fun j a b => by omega, fun j j' _ _ e => e, fun j0 a b => by omega⟩ (bI_iff h (fun w => ⟨fun h => ⟨h, fun j a b => by omega⟩, fun h => h.1⟩)) (fun j hj => ⟨rfl, rfl, fun _ => rfl, rfl, fun _ _ => rfl⟩) (fun r hr => ⟨rfl, rfl⟩)
end FZ
