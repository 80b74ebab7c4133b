/-! the calls on shares: core -/
section SR
variable {n : Nat} {v : Nat → Int} {x : Nat → Rat} {E : Rat}
theorem rnum_pos {q : Rat} : 0 < q.num ↔ 0 < q := by
  constructor
  · intro h
    refine Rat.not_le.mp fun h2 => ?_
    have h3 : q = 0 := Rat.le_antisymm h2 (Rat.num_nonneg.mp (by omega))
    have := Rat.num_eq_zero.mpr h3
    omega
  · intro h
    have h1 := Rat.num_nonneg.mpr (Rat.le_of_lt h)
    refine Classical.byContradiction fun h2 => ?_
    have h3 := Rat.num_eq_zero.mp (show q.num = 0 by omega)
    rw [h3] at h
    exact absurd h (by decide)
theorem ref_core {s : zS} (hu : uOk s n v) (ok : calmOk n v x) (hE : 2 ≤ n → strOk n v x E) : ∃ r s2, D_X9_hasCore s = some (r, s2) ∧ uFrm s s2 ∧ ((r = 1 ∧ (2 ≤ n → E ≤ 0)) ∨ (r = 0 ∧ ¬ (2 ≤ n → E ≤ 0))) := by
  have hn1 := hu.2.1
  have hn := hu.2.2.1
  unfold D_X9_hasCore
  rw [hu.1]
  by_cases en : n = 1
  · refine ⟨1, s, ?_, uFrm_r s, Or.inl ⟨rfl, fun q => by omega⟩⟩
    rw [en, zif_t (show n32 ((1 : Nat) : Int) = (1 : Int32) from rfl)]
  · have hne : ¬ (n32 (n : Int) = 1) := fun q => by rw [l32_1] at q; have := (n32_eq (by omega) (by omega) (by omega) (by omega)).mp q; omega
    have hst := hE (by omega)
    obtain ⟨d1, d2⟩ := hst.1
    obtain ⟨s1, s2, e1, e2, f2, h33, h34⟩ := r_strain (by omega) hu ok hst
    rw [zif_f hne, e1, zbs, e2, zbs, h33, l64_0]
    by_cases e : 0 < E.num
    · refine ⟨0, s2, ?_, f2, Or.inr ⟨rfl, fun q => ?_⟩⟩
      · rw [zif_t ((lgc_gt (by omega) (by omega) (by omega) (by omega)).mpr e)]
      · exact Rat.not_le.mpr (rnum_pos.mp e) (q (by omega))
    · refine ⟨1, s2, ?_, f2, Or.inl ⟨rfl, fun _ => Rat.not_lt.mp fun q => e (rnum_pos.mpr q)⟩⟩
      rw [zif_f (fun q => e ((lgc_gt (by omega) (by omega) (by omega) (by omega)).mp q))]
theorem calm_ex {s : zS} (hw : wOk s n v) (hk : calmK s n v) : ∃ (x : Nat → Rat) (E : Rat), calmOk n v x ∧ (2 ≤ n → strOk n v x E) := by
  obtain ⟨s', x, h1, h2, h3, h4, ok, hE⟩ := find_calm hw hk
  by_cases h : 2 ≤ n
  · obtain ⟨E, -, hs⟩ := hE h
    exact ⟨x, E, ok, fun _ => hs⟩
  · exact ⟨x, 0, ok, fun q => absurd q h⟩
theorem call_core {s : zS} (hw : wOk s n v) (hu : uOk s n v) (hk : calmK s n v) (hf : frEq s) : shC s n v D_X8_core D_X9_core := by
  obtain ⟨w1, w2, w3, w4, w5⟩ := id hw
  obtain ⟨x, E, ok, hE⟩ := calm_ex hw hk
  obtain ⟨s1, rs, cs, cell, L, -, e1, f1, hB, c0, c1, hL, hP, -⟩ := least_cells hw hu
  have hc := cFrm_k (kFrm_b f1)
  have hu1 := uOk_c hu hc
  obtain ⟨r, s2, e2, f2, hr⟩ := ref_core hu1 ok hE
  have hiff := core_iff w2 w3 hP ok hE
  have hv := vFrm_u f2
  rcases is_whole (wOk_f hw f1) hB c0 c1 hL with ⟨e3, h3⟩ | ⟨e3, h3⟩
  · obtain ⟨rfl, -⟩ : r = 1 ∧ True := by
      rcases hr with ⟨q, -⟩ | ⟨-, q⟩
      · exact ⟨q, trivial⟩
      · exact absurd (hiff.mp h3) q
    refine ⟨1, s1, s2, ?_, ?_, hc, hv, calmK_v (calmK_b hk w3 f1) w3 hv, frEq_f hf f1 f2⟩
    · unfold D_X8_core
      rw [e1, zbs, e3, zbs, zif_f (by decide)]
    · unfold D_X9_core
      rw [e2, zbs, zif_f (show ¬ ((1 : Int32) = 0) by decide)]
  · obtain ⟨rfl, -⟩ : r = 0 ∧ True := by
      rcases hr with ⟨-, q⟩ | ⟨q, -⟩
      · exact absurd (hiff.mpr q) h3
      · exact ⟨q, trivial⟩
    refine ⟨0, s1, s2, ?_, ?_, hc, hv, calmK_v (calmK_b hk w3 f1) w3 hv, frEq_f hf f1 f2⟩
    · unfold D_X8_core
      rw [e1, zbs, e3, zbs, zif_t rfl]
    · unfold D_X9_core
      rw [e2, zbs, zif_t rfl]
end SR
