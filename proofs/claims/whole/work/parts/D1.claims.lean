/-! the calls claim, estate and count -/
section DC
variable {s : zS}
theorem Rel_c {s' s1 : zS} {r : Int32} {c8 c9 : zS → Option (Int32 × zS)} {m' : Nat} {C' : Nat → Int} {E' : Int} (h : Rel s) (h8 : c8 s = some (r, s1)) (h9 : c9 s1 = some (r, s')) (ff : fr (fun i => i = 4) s s') (hc : cRel s' m' C' E') : cOk s c8 c9 := by
  obtain ⟨⟨n, v, hw, hk⟩, ⟨g, hg⟩, ⟨m, W, q, hv⟩, -, ⟨p, h', c, w, u, a', y, ht⟩, ⟨B, S, G, Q, hm⟩, hf⟩ := h
  exact ⟨r, s1, s', h8, h9, ⟨n, v, wRel_f hw ff (by decide), calmK_fr hk hw.1.2.2.1 ff (by decide)⟩, ⟨g, gRel_f hg ff (by decide)⟩, ⟨m, W, q, vRel_f hv ff (by decide)⟩, ⟨_, _, _, hc⟩, ⟨p, h', c, w, u, a', y, tRel_f ht ff (by decide)⟩, ⟨B, S, G, Q, mRel_f hm ff (by decide)⟩, frEq_fr hf ff (by decide)⟩
theorem Rel_t {s' s1 : zS} {r : Int32} {c8 c9 : zS → Option (Int32 × zS)} {p' u' : Nat} {h' at' w' : Nat → Nat} {c' y' : Nat → Int} (h : Rel s) (h8 : c8 s = some (r, s1)) (h9 : c9 s1 = some (r, s')) (ff : fr (fun i => i = 5) s s') (ht : tRel s' p' h' c' w' u' at' y') : cOk s c8 c9 := by
  obtain ⟨⟨n, v, hw, hk⟩, ⟨g, hg⟩, ⟨m, W, q, hv⟩, ⟨m', C, E, hc⟩, -, ⟨B, S, G, Q, hm⟩, hf⟩ := h
  exact ⟨r, s1, s', h8, h9, ⟨n, v, wRel_f hw ff (by decide), calmK_fr hk hw.1.2.2.1 ff (by decide)⟩, ⟨g, gRel_f hg ff (by decide)⟩, ⟨m, W, q, vRel_f hv ff (by decide)⟩, ⟨m', C, E, cRel_f hc ff (by decide)⟩, ⟨_, _, _, _, _, _, _, ht⟩, ⟨B, S, G, Q, mRel_f hm ff (by decide)⟩, frEq_fr hf ff (by decide)⟩
theorem Rel_m {s' s1 : zS} {r : Int32} {c8 c9 : zS → Option (Int32 × zS)} {B' S' : Nat} {G' : Nat → Nat → Int} {Q' : Nat → Int} (h : Rel s) (h8 : c8 s = some (r, s1)) (h9 : c9 s1 = some (r, s')) (ff : fr (fun i => i = 6) s s') (hm : mRel s' B' S' G' Q') : cOk s c8 c9 := by
  obtain ⟨⟨n, v, hw, hk⟩, ⟨g, hg⟩, ⟨m, W, q, hv⟩, ⟨m', C, E, hc⟩, ⟨p, h', c, w, u, a', y, ht⟩, -, hf⟩ := h
  exact ⟨r, s1, s', h8, h9, ⟨n, v, wRel_f hw ff (by decide), calmK_fr hk hw.1.2.2.1 ff (by decide)⟩, ⟨g, gRel_f hg ff (by decide)⟩, ⟨m, W, q, vRel_f hv ff (by decide)⟩, ⟨m', C, E, cRel_f hc ff (by decide)⟩, ⟨p, h', c, w, u, a', y, tRel_f ht ff (by decide)⟩, ⟨_, _, _, _, hm⟩, frEq_fr hf ff (by decide)⟩
theorem n32_pred (m : Nat) : n32 ((m + 1 : Nat) : Int) - 1 = n32 (m : Int) := by rw [l32_1, n32_sub]; congr 1; omega
theorem call_claim {m : Nat} {C : Nat → Int} {E : Int} (h : Rel s) (hc : cRel s m C E) (a : Int32) : cOk s (fun s => D_X8_claim s a) (fun s => D_X9_claim s a) := by
  obtain ⟨x, rfl, h1, h2⟩ := i32_of a
  have hm := hc.1.2.2
  have i8 : D_X8_within (n32 x) 0 1000 = if 0 ≤ x ∧ x ≤ 1000 then some 1 else some 0 := in8 (lo := 0) (hi := 1000) h1 h2 (by omega) (by omega) (by omega) (by omega)
  have i9 : D_X9_in (n32 x).toInt64 0 1000 = if 0 ≤ x ∧ x ≤ 1000 then some 1 else some 0 := in9L (lo := 0) (hi := 1000) h1 h2 (by omega) (by omega) (by omega) (by omega)
  by_cases e : 0 ≤ x ∧ x ≤ 1000
  · by_cases e2 : m = 6
    · refine cOk_same h (r := -4) ?_ ?_
      · try dsimp only
        unfold D_X8_claim
        rw [i8, if_pos e, zbs, zi1, hc.1.1, zif_t (by rw [e2]; decide)]
      · try dsimp only
        unfold D_X9_claim
        rw [i9, if_pos e, zbs, zi1, hc.1.2.1, zif_t (by rw [e2]; rfl)]
    · refine Rel_c (r := n32 (m : Int)) (s1 := zwI (zwI s 46 m (n32 x)) 45 0 (n32 ((m + 1 : Nat) : Int))) (s' := zwI (zwI (zwI (zwI s 46 m (n32 x)) 45 0 (n32 ((m + 1 : Nat) : Int))) 70 m (n32 x)) 66 8 (n32 ((m + 1 : Nat) : Int))) (m' := m + 1) (C' := fun i => if i = m then x else C i) (E' := E) h ?_ ?_ ?_ ⟨⟨?_, ?_, by omega⟩, fun i hi => ⟨?_, ?_, ?_⟩, ?_, ?_, hc.2.2.2.2⟩
      · try dsimp only
        unfold D_X8_claim D_X1_addClaim
        rw [i8, if_pos e, zbs, zi1, hc.1.1, zif_f (by rw [l32_6, n32_le (by omega) (by omega) (by omega) (by omega)]; omega), zgd_t (czin (by omega) (by omega)), n32_xn (by omega)]
        dsimp only
        rw [show (zwI s 46 m (n32 x)).1 45 0 = n32 (m : Int) by rw [zwI_at, if_neg (by omega)]; exact hc.1.1, nsuc, zwI_at, if_pos ⟨rfl, rfl⟩, n32_pred, zbs]
      · have e8 : (zwI (zwI s 46 m (n32 x)) 45 0 (n32 ((m + 1 : Nat) : Int))).1 66 8 = n32 (m : Int) := by rw [zwI_at, if_neg (by omega), zwI_at, if_neg (by omega)]; exact hc.1.2.1
        try dsimp only
        unfold D_X9_claim
        rw [i9, if_pos e, zbs, zi1, e8, zif_f (fun q => e2 (by rw [l32_6] at q; have := (n32_eq (by omega) (by omega) (by omega) (by omega)).mp q; omega)), zgd_t (czin (by omega) (by omega)), n32_xn (by omega)]
        dsimp only
        rw [show (zwI (zwI (zwI s 46 m (n32 x)) 45 0 (n32 ((m + 1 : Nat) : Int))) 70 m (n32 x)).1 66 8 = n32 (m : Int) by rw [zwI_at, if_neg (by omega)]; exact e8, nsuc, zwI_at, if_pos ⟨rfl, rfl⟩, n32_pred]
      · exact fr_t (fr_wI s 46 m _ (Or.inr rfl)) (fr_t (fr_wI _ 45 0 _ (Or.inr rfl)) (fr_t (fr_wI _ 70 m _ (Or.inr rfl)) (fr_wI _ 66 8 _ (Or.inr rfl))))
      · rw [zwI_at, if_neg (by omega), zwI_at, if_neg (by omega), zwI_at, if_pos ⟨rfl, rfl⟩]
      · rw [zwI_at, if_pos ⟨rfl, rfl⟩]
      · rw [zwI_at, if_neg (by omega), zwI_at, if_neg (by omega), zwI_at, if_neg (by omega), zwI_at]
        try dsimp only
        by_cases e3 : i = m
        · rw [if_pos ⟨rfl, e3⟩, if_pos e3]
        · rw [if_neg (fun q => e3 q.2), if_neg e3]; exact (hc.2.1 i (by omega)).1
      · rw [zwI_at, if_neg (by omega), zwI_at]
        try dsimp only
        by_cases e3 : i = m
        · rw [if_pos ⟨rfl, e3⟩, if_pos e3]
        · rw [if_neg (fun q => e3 q.2), if_neg e3, zwI_at, if_neg (by omega), zwI_at, if_neg (by omega)]; exact (hc.2.1 i (by omega)).2.1
      · try dsimp only
        by_cases e3 : i = m
        · rw [if_pos e3]; exact e
        · rw [if_neg e3]; exact (hc.2.1 i (by omega)).2.2
      · rw [zwI_at, if_neg (by omega), zwI_at, if_neg (by omega), zwI_at, if_neg (by omega), zwI_at, if_neg (by omega)]; exact hc.2.2.1
      · rw [zwI_at, if_neg (by omega), zwI_at, if_neg (by omega), zwI_at, if_neg (by omega), zwI_at, if_neg (by omega)]; exact hc.2.2.2.1
  · refine cOk_same h (r := -2) ?_ ?_
    · try dsimp only
      unfold D_X8_claim
      rw [i8, if_neg e, zbs, zi0]
    · try dsimp only
      unfold D_X9_claim
      rw [i9, if_neg e, zbs, zi0]
theorem call_estate {m : Nat} {C : Nat → Int} {E : Int} (h : Rel s) (hc : cRel s m C E) (a : Int32) : cOk s (fun s => D_X8_estate s a) (fun s => D_X9_estate s a) := by
  obtain ⟨x, rfl, h1, h2⟩ := i32_of a
  have i8 : D_X8_within (n32 x) 0 6000 = if 0 ≤ x ∧ x ≤ 6000 then some 1 else some 0 := in8 (lo := 0) (hi := 6000) h1 h2 (by omega) (by omega) (by omega) (by omega)
  have i9 : D_X9_in (n32 x).toInt64 0 6000 = if 0 ≤ x ∧ x ≤ 6000 then some 1 else some 0 := in9L (lo := 0) (hi := 6000) h1 h2 (by omega) (by omega) (by omega) (by omega)
  by_cases e : 0 ≤ x ∧ x ≤ 6000
  · refine Rel_c (r := n32 E) (s1 := zwI s 45 1 (n32 x)) (s' := zwI (zwI s 45 1 (n32 x)) 66 10 (n32 x)) (m' := m) (C' := C) (E' := x) h ?_ ?_ ?_ ⟨⟨?_, ?_, hc.1.2.2⟩, fun i hi => ⟨?_, ?_, (hc.2.1 i hi).2.2⟩, ?_, ?_, e⟩
    · try dsimp only
      unfold D_X8_estate D_X1_replaceEstate
      rw [i8, if_pos e, zbs, zi1, hc.2.2.1, zbs]
    · try dsimp only
      unfold D_X9_estate
      rw [i9, if_pos e, zbs, zi1]
      dsimp only
      rw [zwI_at, if_neg (by omega), hc.2.2.2.1]
    · exact fr_t (fr_wI s 45 1 _ (Or.inr rfl)) (fr_wI _ 66 10 _ (Or.inr rfl))
    · rw [zwI_at, if_neg (by omega), zwI_at, if_neg (by omega)]; exact hc.1.1
    · rw [zwI_at, if_neg (by omega), zwI_at, if_neg (by omega)]; exact hc.1.2.1
    · rw [zwI_at, if_neg (by omega), zwI_at, if_neg (by omega)]; exact (hc.2.1 i hi).1
    · rw [zwI_at, if_neg (by omega), zwI_at, if_neg (by omega)]; exact (hc.2.1 i hi).2.1
    · rw [zwI_at, if_neg (by omega), zwI_at, if_pos ⟨rfl, rfl⟩]
    · rw [zwI_at, if_pos ⟨rfl, rfl⟩]
  · refine cOk_same h (r := -2) ?_ ?_
    · try dsimp only
      unfold D_X8_estate
      rw [i8, if_neg e, zbs, zi0]
    · try dsimp only
      unfold D_X9_estate
      rw [i9, if_neg e, zbs, zi0]
theorem call_count (h : Rel s) (a : Int32) : cPu (D_X8_count s a) (D_X9_count s a) := by
  obtain ⟨⟨n, v, hw, hk⟩, ⟨g, hg⟩, ⟨m, W, q, hv⟩, ⟨m', C, E, hc⟩, ⟨p, h', c, w, u, a', y, ht⟩, ⟨B, S, G, Q, hm⟩, hf⟩ := h
  unfold D_X8_count D_X9_count
  rw [hw.1.1, hw.2.1.1, hv.1.1, hv.1.2.1, hc.1.1, hc.1.2.1, ht.1.1, ht.1.2.1, ht.2.2.2.2.1.1, ht.2.2.2.2.1.2.1, hm.1.1, hm.1.2.1, hm.2.1.1, hm.2.1.2.1]
  (repeat' split) <;> exact ⟨_, rfl, rfl⟩
end DC
