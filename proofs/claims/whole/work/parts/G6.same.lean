/-! the reference finds the row; the call same -/
section SM
variable {s : zS} {m σ : Nat} {W : Nat → Int} {q : Int} {r t : Nat → Nat}
def r86 (s s' : zS) : Prop := (∀ c k, c ≠ 86 → s'.1 c k = s.1 c k) ∧ s'.2 = s.2
theorem r86_r (s : zS) : r86 s s := ⟨fun _ _ _ => rfl, rfl⟩
theorem r86_t {s s' s'' : zS} (h : r86 s s') (h' : r86 s' s'') : r86 s s'' := ⟨fun c k a => (h'.1 c k a).trans (h.1 c k a), h'.2.trans h.2⟩
theorem r86_fr {s s' : zS} (h : r86 s s') (P : Nat → Prop) : fr P s s' := ⟨fun c k a _ => h.1 c k (fun z => a (by rw [z]; rfl)), fun c k _ _ => by rw [h.2]⟩
theorem vRel_86 {s' : zS} (hv : vRel s m W q) (h : r86 s s') : vRel s' m W q := vRel_f hv (r86_fr h (fun _ => False)) (fun z => z)
def sameB (m : Nat) (W : Nat → Int) (q : Int) (r : Nat → Nat) (p S : Nat) : Bool := decide ((p : Int) ≤ ldV (fun i => (r i : Int)) m S) == vwin m W q S
theorem sameB_iff {p : Nat} (hp : 1 ≤ p) : zall (sameB m W q r p) (2 ^ m) 0 = true ↔ smR m W q r p := by
  rw [zall_iff]
  constructor
  · intro h
    refine ⟨hp, fun S hS => ?_⟩
    have := h S (by omega) (by omega)
    unfold sameB vwin at this
    exact decide_eq_decide.mp (eq_of_beq this)
  · intro h S _ hS
    unfold sameB vwin
    rw [decide_eq_decide.mpr (h.2 S (by omega))]
    exact beq_self_eq_true _
theorem r_isSame (hv : vRel s m W q) (hm : 1 ≤ m ∧ m ≤ 5) (hr : ∀ i, i < m → s.1 86 i = n32 (r i : Int)) (hs : rSum r m ≤ 12) {p : Nat} (hp : 1 ≤ p ∧ p ≤ 13) : D_X9_isSame s (n32 (p : Int)) = some (zfl (zall (sameB m W q r p) (2 ^ m) 0)) := by
  have hpw := pow_le8 (show m ≤ 8 by omega)
  have hb := fun S => ld_rs (r := r) (S := S) m
  have hrd : ∀ i, i < m → r i ≤ 12 := fun i hi => by have := rs_le (r := r) hi; omega
  have hin : ∀ (rec2 : Int32 → Option Int32) (S : Nat), S < 2 ^ m → D_X9_isSame_L15 rec2 s (n32 (p : Int)) (n32 (S : Int)) zFU 0 0 = if sameB m W q r p S then rec2 (n32 ((S + 1 : Nat) : Int)) else some 0 := fun rec2 S hS => by
    have h := zfold (lo := 0) (hi := m) (step := fun i (t : Int) => if S.testBit i then t + (r i : Int) else t) (fin := fun t : Int => if n32 t < n32 (p : Int) then D_X9_isSame_J63 rec2 s (n32 (p : Int)) (n32 (S : Int)) 0 else D_X9_isSame_J63 rec2 s (n32 (p : Int)) (n32 (S : Int)) 1) (fun f i t => D_X9_isSame_L15 rec2 s (n32 (p : Int)) (n32 (S : Int)) f (n32 t) (n32 (i : Int))) (fun f i t _ hi => by
      try dsimp only
      rw [D_X9_isSame_L15_s]
      unfold D_X9_isSame_B15 D_X9_isSame_J45
      rw [hv.1.2.1, zif_f (by rw [c32_le (by omega) (by omega)]; omega), x9_hasL S (by omega) i (by omega), in_ite, nsuc]
      by_cases e : S.testBit i = true
      · rw [if_pos e, zi1, zgd_t (czin (by omega) (by omega)), n32_xn (by omega), hr i hi, n32_add, if_pos e]
      · rw [if_neg e, zi0, n32_0r, if_neg e]) (fun f t => by
      try dsimp only
      rw [D_X9_isSame_L15_s]
      unfold D_X9_isSame_B15
      rw [hv.1.2.1, zif_t (Int32.le_refl _)]) m zFU 0 0 (by omega) (by omega) (zFU_lt (by omega))
    rw [ld_zit] at h
    have h' : D_X9_isSame_L15 rec2 s (n32 (p : Int)) (n32 (S : Int)) zFU 0 0 = _ := h
    have hbS := hb S
    rw [h']
    have hw := r_win hv hS
    unfold D_X9_isSame_J63 sameB
    rw [hw, zbs, zbs, nsuc]
    by_cases e : (p : Int) ≤ ldV (fun i => (r i : Int)) m S
    · rw [if_neg (show ¬ n32 (ldV (fun i => (r i : Int)) m S) < n32 (p : Int) by rw [n32_lt (by omega) (by omega) (by omega) (by omega)]; omega), decide_eq_true e]
      cases vwin m W q S <;> rfl
    · rw [if_pos (show n32 (ldV (fun i => (r i : Int)) m S) < n32 (p : Int) by rw [n32_lt (by omega) (by omega) (by omega) (by omega)]; omega), decide_eq_false e]
      cases vwin m W q S <;> rfl
  have hout := zchk (p := sameB m W q r p) (ok := some (1 : Int32)) (bad := some (0 : Int32)) (lo := 0) (hi := 2 ^ m) (fun f S => D_X9_isSame_L2 s (n32 (p : Int)) f (n32 (S : Int))) (fun f S _ hS => by
    try dsimp only
    rw [D_X9_isSame_L2_s]
    unfold D_X9_isSame_B2
    rw [r_allv hv, zbs, zif_f (by rw [c32_lt (by omega) (by omega)]; omega), hin _ S hS]) (fun f => by
    try dsimp only
    rw [D_X9_isSame_L2_s]
    unfold D_X9_isSame_B2
    rw [r_allv hv, zbs, zif_t (by rw [c32_lt (by omega) (by omega)]; omega)]) (2 ^ m) zFU 0 (by omega) (by omega) (zFU_lt (by omega))
  have hout' : D_X9_isSame s (n32 (p : Int)) = _ := hout
  rw [hout']
  split
  · next z => rw [z]; rfl
  · next z => rw [Bool.eq_false_iff.mpr z]; rfl
theorem r_lay13 (hσ : σ ≤ 12) : ∀ (k f code acc : Nat) (s : zS), k ≤ 5 → k < f → code < 1000000 → acc + 12 * k ≤ 1000 → ∃ s', D_X9_layRow_L13 (n32 (σ : Int)) f (n32 (code : Int)) (n32 (acc : Int)) (n32 ((k : Int) - 1)) s = some (zfl (decide (acc + rSum (dgB (σ + 1) k code) k = σ)), s') ∧ r86 s s' ∧ (∀ i, i < k → s'.1 86 i = n32 (dgB (σ + 1) k code i : Int)) ∧ ∀ i, k ≤ i → s'.1 86 i = s.1 86 i := by
  intro k
  induction k with
  | zero =>
    intro f code acc s hk hf hcd hacc
    obtain ⟨f, rfl⟩ : ∃ j, f = j + 1 := ⟨f - 1, by omega⟩
    refine ⟨s, ?_, r86_r s, fun i hi => by omega, fun _ _ => rfl⟩
    rw [D_X9_layRow_L13_s]
    unfold D_X9_layRow_B13
    rw [zif_t (by decide), rSum]
    by_cases e : acc = σ
    · rw [zif_t (by rw [e]), decide_eq_true (by omega)]; rfl
    · rw [zif_f (by rw [n32_eq (by omega) (by omega) (by omega) (by omega)]; omega), decide_eq_false (by omega)]; rfl
  | succ k ih =>
    intro f code acc s hk hf hcd hacc
    obtain ⟨f, rfl⟩ : ∃ j, f = j + 1 := ⟨f - 1, by omega⟩
    have hmod : code % (σ + 1) < σ + 1 := Nat.mod_lt _ (by omega)
    have hdiv : code / (σ + 1) ≤ code := Nat.div_le_self _ _
    obtain ⟨s1, e1, f1, k1, l1⟩ := ih f (code / (σ + 1)) (acc + code % (σ + 1)) (zwI s 86 k (n32 ((code % (σ + 1) : Nat) : Int))) (by omega) (by omega) (by omega) (by omega)
    have f0 : r86 s (zwI s 86 k (n32 ((code % (σ + 1) : Nat) : Int))) := ⟨fun c j hc => by rw [zwI_at, if_neg (fun z => hc z.1)], rfl⟩
    refine ⟨s1, ?_, r86_t f0 f1, fun i hi => ?_, fun i hi => ?_⟩
    · have hB : n32 (σ : Int) + 1 = n32 ((σ + 1 : Nat) : Int) := nsuc σ
      have hne : ¬ n32 ((σ + 1 : Nat) : Int) = 0 := by rw [l32_0, n32_eq (by omega) (by omega) (by omega) (by omega)]; omega
      have hk1 : n32 (((k + 1 : Nat) : Int) - 1) = n32 (k : Int) := by congr 1; omega
      have hback : n32 (k : Int) + -1 = n32 ((k : Int) - 1) := by rw [l32_1, n32_neg, n32_add]; rfl
      have hsum : acc + rSum (dgB (σ + 1) (k + 1) code) (k + 1) = acc + code % (σ + 1) + rSum (dgB (σ + 1) k (code / (σ + 1))) k := by
        have e5 : rSum (dgB (σ + 1) (k + 1) code) k = rSum (dgB (σ + 1) k (code / (σ + 1))) k := rs_cg k (fun i hi => if_neg (by omega))
        rw [rSum, e5, show dgB (σ + 1) (k + 1) code k = code % (σ + 1) from if_pos rfl]
        omega
      rw [D_X9_layRow_L13_s]
      unfold D_X9_layRow_B13
      rw [hk1, l32_0, zif_f (by rw [n32_lt (by omega) (by omega) (by omega) (by omega)]; omega), hB, ← l32_0, if_neg hne, zgd_t (czin (by omega) (by omega)), n32_xn (by omega), nt_mod (by omega) (by omega)]
      dsimp only
      rw [if_neg hne, zgd_t (czin (by omega) (by omega)), nt_div (by omega) (by omega), zwI_at, if_pos ⟨rfl, rfl⟩, n32_add, ← Int.natCast_add, hback, e1, hsum]
    · rw [dgB]
      by_cases e : i = k
      · rw [if_pos e, l1 i (by omega), zwI_at, if_pos ⟨rfl, e⟩]
      · rw [if_neg e]; exact k1 i (by omega)
    · rw [l1 i (by omega), zwI_at, if_neg (fun z => by omega)]
theorem r_layRow (hσ : σ ≤ 12) (hm : 1 ≤ m ∧ m ≤ 5) (hv : vRel s m W q) {code : Nat} (hc : code < 1000000) : ∃ s', D_X9_layRow s (n32 (code : Int)) (n32 (σ : Int)) = some (zfl (decide (rSum (dgB (σ + 1) m code) m = σ)), s') ∧ r86 s s' ∧ ∀ i, i < m → s'.1 86 i = n32 (dgB (σ + 1) m code i : Int) := by
  obtain ⟨s1, e1, f1, k1, -⟩ := r_lay13 hσ m zFU code 0 s hm.2 (zFU_lt (by omega)) hc (by omega)
  refine ⟨s1, ?_, f1, k1⟩
  unfold D_X9_layRow
  rw [hv.1.2.1, l32_1, n32_sub]
  rw [Nat.zero_add] at e1
  exact e1
theorem smR_cut {p : Nat} (hs : rSum r m ≤ σ) (h : smR m W q r p) : smR m W q r (if p ≤ σ + 1 then p else σ + 1) := by
  split
  · exact h
  · next e =>
    refine ⟨by omega, fun S hS => ?_⟩
    have h1 := h.2 S hS
    have h2 := ld_rs (r := r) (S := S) m
    constructor
    · intro z; omega
    · intro z; have := h1.mpr z; omega
/-- the quotas tried for a row -/
theorem r_q {rec41 : Int32 → zS → Option (Int32 × zS)} {rec84 : Int32 → Int32 → Int32 → zS → Option (Int32 × zS)} {a1 a3 : Int32} (hσ : σ ≤ 12) (hm : 1 ≤ m ∧ m ≤ 5) (hv : vRel s m W q) (hr : ∀ i, i < m → s.1 86 i = n32 (r i : Int)) (hs : rSum r m = σ) {code best bc : Nat} (hbest : best ≤ 1000) : ∀ (d f p : Nat), p + d = σ + 2 → d < f → 1 ≤ p → (∀ p', smR m W q r p' → p ≤ p') → ∃ best' bc', ((best' = best ∧ bc' = bc ∧ ∀ p', smR m W q r p' → best ≤ p') ∨ (1 ≤ best' ∧ best' ≤ 13 ∧ best' < best ∧ bc' = code ∧ smR m W q r best' ∧ ∀ p', smR m W q r p' → best' ≤ p')) ∧ D_X9_same_L103 rec41 rec84 s a1 (n32 (σ : Int)) a3 (n32 (code : Int)) f (n32 (best : Int)) (n32 (bc : Int)) (n32 (p : Int)) = rec84 (n32 (best' : Int)) (n32 (bc' : Int)) (n32 (code : Int) + 1) s := by
  have hB : n32 (σ : Int) + 1 = n32 ((σ + 1 : Nat) : Int) := nsuc σ
  intro d
  induction d with
  | zero =>
    intro f p hp hf h1 hmin
    obtain ⟨f, rfl⟩ : ∃ j, f = j + 1 := ⟨f - 1, by omega⟩
    refine ⟨best, bc, Or.inl ⟨rfl, rfl, fun p' hp' => ?_⟩, ?_⟩
    · have h2 := hmin _ (smR_cut (σ := σ) (by omega) hp')
      split at h2 <;> omega
    · rw [D_X9_same_L103_s]
      unfold D_X9_same_B103
      rw [hB, zif_t (by rw [c32_lt (by omega) (by omega)]; omega)]
  | succ d ih =>
    intro f p hp hf h1 hmin
    obtain ⟨f, rfl⟩ : ∃ j, f = j + 1 := ⟨f - 1, by omega⟩
    by_cases e : best ≤ p
    · refine ⟨best, bc, Or.inl ⟨rfl, rfl, fun p' hp' => ?_⟩, ?_⟩
      · have := hmin p' hp'; omega
      · rw [D_X9_same_L103_s]
        unfold D_X9_same_B103
        rw [hB, zif_f (by rw [c32_lt (by omega) (by omega)]; omega), zif_t (by rw [c32_le (by omega) (by omega)]; exact e)]
    · by_cases e2 : smR m W q r p
      · refine ⟨p, code, Or.inr ⟨h1, by omega, by omega, rfl, e2, hmin⟩, ?_⟩
        obtain ⟨f, rfl⟩ : ∃ j, f = j + 1 := ⟨f - 1, by omega⟩
        rw [D_X9_same_L103_s]
        unfold D_X9_same_B103
        rw [hB, zif_f (by rw [c32_lt (by omega) (by omega)]; omega), zif_f (by rw [c32_le (by omega) (by omega)]; exact e), r_isSame hv hm hr (by omega) ⟨h1, by omega⟩, zbs, (sameB_iff h1).mpr e2, zb1, nsuc, D_X9_same_L103_s]
        unfold D_X9_same_B103
        rw [hB]
        by_cases e3 : σ + 1 < p + 1
        · rw [zif_t (by rw [c32_lt (by omega) (by omega)]; exact e3)]
        · rw [zif_f (by rw [c32_lt (by omega) (by omega)]; exact e3), zif_t (by rw [c32_le (by omega) (by omega)]; omega)]
      · obtain ⟨best', bc', g1, g2⟩ := ih f (p + 1) (by omega) (by omega) (by omega) (fun p' hp' => by
          have := hmin p' hp'
          refine Classical.byContradiction fun z => ?_
          have : p' = p := by omega
          rw [this] at hp'
          exact e2 hp')
        refine ⟨best', bc', g1, ?_⟩
        rw [D_X9_same_L103_s]
        unfold D_X9_same_B103
        rw [hB, zif_f (by rw [c32_lt (by omega) (by omega)]; omega), zif_f (by rw [c32_le (by omega) (by omega)]; exact e), r_isSame hv hm hr (by omega) ⟨h1, by omega⟩, zbs, show zall (sameB m W q r p) (2 ^ m) 0 = false from Bool.eq_false_iff.mpr (fun z => e2 ((sameB_iff h1).mp z)), zb0, nsuc]
        exact g2
def bcI (m : Nat) (W : Nat → Int) (q : Int) (σ c best bc : Nat) : Prop := (best = 1000 ∧ ∀ t p, rSum t m = σ → cbA (σ + 1) m t < c → ¬ smR m W q t p) ∨ (best ≤ 13 ∧ bc < c ∧ rSum (dgB (σ + 1) m bc) m = σ ∧ smR m W q (dgB (σ + 1) m bc) best ∧ ∀ t p, rSum t m = σ → cbA (σ + 1) m t < c → smR m W q t p → best < p ∨ (best = p ∧ bc ≤ cbA (σ + 1) m t))
theorem r_84 {rec41 : Int32 → zS → Option (Int32 × zS)} {a1 : Int32} (hσ : σ ≤ 12) (hm : 1 ≤ m ∧ m ≤ 5) (hv : vRel s m W q) : ∃ (best bc : Nat) (s' : zS), bcI m W q σ ((σ + 1) ^ m) best bc ∧ r86 s s' ∧ bc ≤ (σ + 1) ^ m ∧ D_X9_same_L84 rec41 a1 (n32 (σ : Int)) (n32 (((σ + 1) ^ m : Nat) : Int)) zFU 1000 0 0 s = if (1000 : Int32) ≤ n32 (best : Int) then rec41 (n32 (σ : Int) + 1) s' else (D_X9_layRow s' (n32 (bc : Int)) (n32 (σ : Int))).bind fun p159 => if a1 = (-1 : Int32) then some (n32 (best : Int), p159.2) else zgd (zin a1 5 = true) <| some (p159.2.1 86 a1.toNatClampNeg, p159.2) := by
  have hpb : (σ + 1) ^ m ≤ 371293 := Nat.le_trans (Nat.pow_le_pow_left (show σ + 1 ≤ 13 by omega) m) (pow13 hm.2)
  have hdg : ∀ (t : Nat → Nat), rSum t m = σ → ∀ i, i < m → t i < σ + 1 := fun t h i hi => by have := rs_le (r := t) hi; omega
  obtain ⟨t, hR, -, hE⟩ := zloop (fun f c (t : Nat × Nat × zS) => D_X9_same_L84 rec41 a1 (n32 (σ : Int)) (n32 (((σ + 1) ^ m : Nat) : Int)) f (n32 (t.1 : Int)) (n32 (t.2.1 : Int)) (n32 (c : Int)) t.2.2) ((σ + 1) ^ m) (fun c t => bcI m W q σ c t.1 t.2.1 ∧ r86 s t.2.2 ∧ t.1 ≤ 1000 ∧ t.2.1 ≤ c) (fun t => if (1000 : Int32) ≤ n32 (t.1 : Int) then rec41 (n32 (σ : Int) + 1) t.2.2 else (D_X9_layRow t.2.2 (n32 (t.2.1 : Int)) (n32 (σ : Int))).bind fun p159 => if a1 = (-1 : Int32) then some (n32 (t.1 : Int), p159.2) else zgd (zin a1 5 = true) <| some (p159.2.1 86 a1.toNatClampNeg, p159.2)) (fun t => bcI m W q σ ((σ + 1) ^ m) t.1 t.2.1 ∧ r86 s t.2.2 ∧ t.2.1 ≤ (σ + 1) ^ m) (fun f c t hc hP => by
      obtain ⟨best, bc, s1⟩ := t
      obtain ⟨hI, hf1, hb1, hb2⟩ := hP
      try dsimp only at hI hf1 hb1 hb2
      have hv1 := vRel_86 hv hf1
      obtain ⟨s2, e2, f2, k2⟩ := r_layRow (W := W) (q := q) hσ hm hv1 (code := c) (by omega)
      have hv2 := vRel_86 hv1 f2
      have hthis : ∀ t : Nat → Nat, rSum t m = σ → cbA (σ + 1) m t = c → ∀ i, i < m → dgB (σ + 1) m c i = t i := fun t h1 h2 => by
        rw [← h2]
        exact dg_cd (by omega) m (hdg t h1)
      have hstep : D_X9_same_L84 rec41 a1 (n32 (σ : Int)) (n32 (((σ + 1) ^ m : Nat) : Int)) (f + 1) (n32 (best : Int)) (n32 (bc : Int)) (n32 (c : Int)) s1 = if zfl (decide (rSum (dgB (σ + 1) m c) m = σ)) = 0 then D_X9_same_L84 rec41 a1 (n32 (σ : Int)) (n32 (((σ + 1) ^ m : Nat) : Int)) f (n32 (best : Int)) (n32 (bc : Int)) (n32 (c : Int) + 1) s2 else D_X9_same_L103 rec41 (fun x y z w => D_X9_same_L84 rec41 a1 (n32 (σ : Int)) (n32 (((σ + 1) ^ m : Nat) : Int)) f x y z w) s2 a1 (n32 (σ : Int)) (n32 (((σ + 1) ^ m : Nat) : Int)) (n32 (c : Int)) zFU (n32 (best : Int)) (n32 (bc : Int)) 1 := by
        rw [D_X9_same_L84_s]
        unfold D_X9_same_B84
        rw [zif_f (by rw [c32_le (by omega) (by omega)]; omega), e2, zbs]
      try dsimp only
      rw [hstep]
      by_cases e : rSum (dgB (σ + 1) m c) m = σ
      · rw [decide_eq_true e, zb1]
        obtain ⟨best', bc', g1, g2⟩ := r_q (rec41 := rec41) (rec84 := fun x y z w => D_X9_same_L84 rec41 a1 (n32 (σ : Int)) (n32 (((σ + 1) ^ m : Nat) : Int)) f x y z w) (a1 := a1) (a3 := n32 (((σ + 1) ^ m : Nat) : Int)) (code := c) (bc := bc) hσ hm hv2 k2 e hb1 (σ + 1) zFU 1 (by omega) (zFU_lt (by omega)) (by omega) (fun p' h => h.1)
        have g2' : D_X9_same_L103 rec41 (fun x y z w => D_X9_same_L84 rec41 a1 (n32 (σ : Int)) (n32 (((σ + 1) ^ m : Nat) : Int)) f x y z w) s2 a1 (n32 (σ : Int)) (n32 (((σ + 1) ^ m : Nat) : Int)) (n32 (c : Int)) zFU (n32 (best : Int)) (n32 (bc : Int)) 1 = _ := g2
        rw [g2', nsuc]
        refine ⟨(best', bc', s2), ⟨?_, r86_t hf1 f2, ?_, ?_⟩, rfl⟩
        · try dsimp only
          rcases g1 with ⟨rfl, rfl, g3⟩ | ⟨h1, h2, h3, rfl, h4, h5⟩
          · rcases hI with ⟨a, b⟩ | ⟨a, b, c1, c2, c3⟩
            · refine Or.inl ⟨a, fun t p k1 k2 k3 => ?_⟩
              by_cases e3 : cbA (σ + 1) m t = c
              · have h6 := smR_cut (σ := σ) (by omega) (smR_cg (fun i hi => (hthis t k1 e3 i hi).symm) k3)
                have h7 := g3 _ h6
                split at h7 <;> omega
              · exact b t p k1 (by omega) k3
            · refine Or.inr ⟨a, by omega, c1, c2, fun t p k1 k2 k3 => ?_⟩
              by_cases e3 : cbA (σ + 1) m t = c
              · have h7 := g3 p (smR_cg (fun i hi => (hthis t k1 e3 i hi).symm) k3)
                omega
              · exact c3 t p k1 (by omega) k3
          · refine Or.inr ⟨h2, by omega, e, h4, fun t p k1 k2 k3 => ?_⟩
            by_cases e3 : cbA (σ + 1) m t = bc'
            · have h7 := h5 p (smR_cg (fun i hi => (hthis t k1 e3 i hi).symm) k3)
              omega
            · rcases hI with ⟨a, b⟩ | ⟨a, b, c1, c2, c3⟩
              · exact absurd k3 (b t p k1 (by omega))
              · have := c3 t p k1 (by omega) k3
                exact Or.inl (by omega)
        · try dsimp only
          rcases g1 with ⟨rfl, rfl, g3⟩ | ⟨h1, h2, h3, rfl, h4, h5⟩ <;> omega
        · try dsimp only
          rcases g1 with ⟨rfl, rfl, g3⟩ | ⟨h1, h2, h3, rfl, h4, h5⟩ <;> omega
      · rw [decide_eq_false e, zb0, nsuc]
        refine ⟨(best, bc, s2), ⟨?_, r86_t hf1 f2, hb1, Nat.le_succ_of_le hb2⟩, rfl⟩
        try dsimp only
        have hno : ∀ t, rSum t m = σ → cbA (σ + 1) m t ≠ c := fun t k1 k2 => e (by rw [rs_cg m (hthis t k1 k2)]; exact k1)
        rcases hI with ⟨a, b⟩ | ⟨a, b, c1, c2, c3⟩
        · exact Or.inl ⟨a, fun t p k1 k2 => b t p k1 (by have := hno t k1; omega)⟩
        · exact Or.inr ⟨a, by omega, c1, c2, fun t p k1 k2 => c3 t p k1 (by have := hno t k1; omega)⟩) (fun f t hP => by
      obtain ⟨hI, hf1, hb1, hb2⟩ := hP
      refine ⟨⟨hI, hf1, hb2⟩, ?_⟩
      try dsimp only
      rw [D_X9_same_L84_s]
      unfold D_X9_same_B84
      rw [zif_t (Int32.le_refl _)]) ((σ + 1) ^ m) zFU 0 (1000, 0, s) (by omega) (zFU_lt (by omega)) ⟨Or.inl ⟨rfl, fun t p _ h => by omega⟩, r86_r s, Nat.le_refl _, Nat.le_refl _⟩
  exact ⟨t.1, t.2.1, t.2.2, hR.1, hR.2.1, hR.2.2, hE⟩
def ansA (a1 : Int32) (t : Nat → Nat) (p : Nat) : Int32 := if a1 = -1 then n32 (p : Int) else n32 (t a1.toNatClampNeg : Int)
theorem r_41 {a1 : Int32} (hm : 1 ≤ m ∧ m ≤ 5) (ha : a1 = -1 ∨ ∃ k : Nat, k < m ∧ a1 = n32 (k : Int)) : ∀ (d f σ : Nat) (s : zS), σ + d = 13 → d < f → vRel s m W q → (∀ t p, rSum t m < σ → ¬ smR m W q t p) → ∃ s', r86 s s' ∧ ((D_X9_same_L41 a1 f (n32 (σ : Int)) s = some (-5, s') ∧ ∀ t p, rSum t m ≤ 12 → ¬ smR m W q t p) ∨ ∃ t p, smA m W q t p ∧ D_X9_same_L41 a1 f (n32 (σ : Int)) s = some (ansA a1 t p, s')) := by
  intro d
  induction d with
  | zero =>
    intro f σ s hσ hf hv hno
    obtain ⟨f, rfl⟩ : ∃ j, f = j + 1 := ⟨f - 1, by omega⟩
    refine ⟨s, r86_r s, Or.inl ⟨?_, fun t p h => hno t p (by omega)⟩⟩
    rw [D_X9_same_L41_s]
    unfold D_X9_same_B41
    rw [l32_12, zif_t (by rw [n32_lt (by omega) (by omega) (by omega) (by omega)]; omega)]
  | succ d ih =>
    intro f σ s hσ hf hv hno
    obtain ⟨f, rfl⟩ : ∃ j, f = j + 1 := ⟨f - 1, by omega⟩
    have hσ12 : σ ≤ 12 := by omega
    have hpb : (σ + 1) ^ m ≤ 371293 := Nat.le_trans (Nat.pow_le_pow_left (show σ + 1 ≤ 13 by omega) m) (pow13 hm.2)
    have hB : n32 (σ : Int) + 1 = n32 ((σ + 1 : Nat) : Int) := nsuc σ
    obtain ⟨best, bc, s1, hI, f1, hbc, e1⟩ := r_84 (rec41 := fun x y => D_X9_same_L41 a1 f x y) (a1 := a1) hσ12 hm hv
    have hv1 := vRel_86 hv f1
    have h52 := zfold (lo := 0) (hi := m) (step := fun _ (t : Nat) => t * (σ + 1)) (fin := fun t : Nat => D_X9_same_L84 (fun x y => D_X9_same_L41 a1 f x y) a1 (n32 (σ : Int)) (n32 (t : Int)) zFU 1000 0 0 s) (fun g i t => D_X9_same_L52 (fun x y => D_X9_same_L41 a1 f x y) s a1 (n32 (σ : Int)) g (n32 (t : Int)) (n32 (i : Int))) (fun g i t _ hi => by
      try dsimp only
      rw [D_X9_same_L52_s]
      unfold D_X9_same_B52
      rw [hv.1.2.1, zif_f (by rw [c32_le (by omega) (by omega)]; omega), hB, n32_mul, nsuc, ← Int.natCast_mul]) (fun g t => by
      try dsimp only
      rw [D_X9_same_L52_s]
      unfold D_X9_same_B52
      rw [hv.1.2.1, zif_t (Int32.le_refl _)]) m zFU 0 1 (by omega) (by omega) (zFU_lt (by omega))
    have hpow : ∀ n : Nat, zit (fun _ (t : Nat) => t * (σ + 1)) n 0 1 = (σ + 1) ^ n := by
      intro n
      induction n with
      | zero => rfl
      | succ n ih => rw [zit_last, ih, Nat.pow_succ]
    rw [hpow] at h52
    have hall : D_X9_same_L41 a1 (f + 1) (n32 (σ : Int)) s = D_X9_same_L84 (fun x y => D_X9_same_L41 a1 f x y) a1 (n32 (σ : Int)) (n32 (((σ + 1) ^ m : Nat) : Int)) zFU 1000 0 0 s := by
      rw [D_X9_same_L41_s]
      unfold D_X9_same_B41
      rw [l32_12, zif_f (by rw [n32_lt (by omega) (by omega) (by omega) (by omega)]; omega)]
      exact h52
    have hlt : ∀ t : Nat → Nat, rSum t m = σ → cbA (σ + 1) m t < (σ + 1) ^ m := fun t h => cbA_bd m (fun k hk => by have := rs_le (r := t) hk; omega)
    rw [hall, e1]
    rcases hI with ⟨a, b⟩ | ⟨a, b, c1, c2, c3⟩
    · obtain ⟨s2, f2, g2⟩ := ih f (σ + 1) s1 (by omega) (by omega) hv1 (fun t p h => by
        by_cases e : rSum t m = σ
        · exact b t p e (hlt t e)
        · exact hno t p (by omega))
      refine ⟨s2, r86_t f1 f2, ?_⟩
      rw [zif_t (by rw [a]; decide), hB]
      exact g2
    · obtain ⟨s2, e2, f2, k2⟩ := r_layRow (W := W) (q := q) hσ12 hm hv1 (code := bc) (by omega)
      refine ⟨s2, r86_t f1 f2, Or.inr ⟨dgB (σ + 1) m bc, best, ⟨by omega, c2, fun r' p' k1 k2 => ?_⟩, ?_⟩⟩
      · by_cases e : rSum r' m = σ
        · refine Or.inr ⟨by omega, ?_⟩
          rcases c3 r' p' e (hlt r' e) k2 with z | ⟨z1, z2⟩
          · exact Or.inl z
          · refine Or.inr ⟨z1, Nat.le_of_not_lt fun z3 => ?_⟩
            have hd : ∀ k, k < m → r' k < σ + 1 ∧ dgB (σ + 1) m bc k < σ + 1 := fun k hk => ⟨by have := rs_le (r := r') hk; omega, dgB_lt (by omega) m bc k⟩
            have := (cbA_iff (by omega) hd).mpr z3
            rw [cd_dg (by omega) m bc (by omega)] at this
            omega
        · refine Or.inl ?_
          have : ¬ rSum r' m < σ := fun z => hno r' p' z k2
          omega
      · rw [show (1000 : Int32) = n32 1000 from rfl, zif_f (by rw [n32_le (by omega) (by omega) (by omega) (by omega)]; omega), e2, zbs]
        dsimp only
        unfold ansA
        by_cases e : a1 = -1
        · rw [if_pos e, if_pos e]
        · rcases ha with z | ⟨k, hk, z⟩
          · exact absurd z e
          · rw [if_neg e, if_neg e, z, zgd_t (czin (by omega) (by omega)), n32_xn (by omega), k2 k hk]
theorem smA_le {p : Nat} (h : smA m W q t p) : p ≤ 13 := by
  refine Classical.byContradiction fun hn => ?_
  have hk := h.2.2 t 13 h.1 ⟨by decide, fun S hS => ?_⟩
  · omega
  · have h1 := h.2.1.2 S hS
    have h2 := ld_rs (r := t) (S := S) m
    have h3 := h.1
    constructor
    · intro z; omega
    · intro z; have := h1.mpr z; omega
theorem smA_one {p p' : Nat} (h : smA m W q t p) (h' : smA m W q r p') : p = p' ∧ ∀ i, i < m → t i = r i := by
  have h1 := h.2.2 r p' h'.1 h'.2.1
  have h2 := h'.2.2 t p h.1 h.2.1
  refine ⟨by omega, cCode_inj m (fun k hk => ⟨?_, ?_⟩) (by omega)⟩
  · have := rs_le (r := t) hk; have := h.1; omega
  · have := rs_le (r := r) hk; have := h'.1; omega
theorem call_same (h : Rel s) (hv : vRel s m W q) (a : Int32) : cOk s (fun s => D_X8_same s a) (fun s => D_X9_same s a) := by
  obtain ⟨x, rfl, h1, h2⟩ := i32_of a
  have hm := hv.1.2.2
  have hm1 : (-1 : Int32) = n32 (-1) := by decide
  have i8 : D_X8_within (n32 (m : Int)) 1 5 = if 1 ≤ (m : Int) ∧ (m : Int) ≤ 5 then some 1 else some 0 := in8 (lo := 1) (hi := 5) (by omega) (by omega) (by omega) (by omega) (by omega) (by omega)
  have i9 : D_X9_in (n32 (m : Int)).toInt64 1 5 = if 1 ≤ (m : Int) ∧ (m : Int) ≤ 5 then some 1 else some 0 := in9L (lo := 1) (hi := 5) (by omega) (by omega) (by omega) (by omega) (by omega) (by omega)
  -- once the one asked for is known
  have go : ∀ c8 c9 : zS → Option (Int32 × zS), x = -1 ∨ (0 ≤ x ∧ x < (m : Int)) → c8 s = D_X8_same_J19 s (n32 x) → (∀ s1, vRel s1 m W q → c9 s1 = D_X9_same_J21 s1 (n32 x)) → cOk s c8 c9 := fun c8 c9 hx hc8 hc9 => by
    by_cases e : 1 ≤ (m : Int) ∧ (m : Int) ≤ 5
    · have hm5 : 1 ≤ m ∧ m ≤ 5 := by omega
      have ha : n32 x = -1 ∨ ∃ k : Nat, k < m ∧ n32 x = n32 (k : Int) := by
        rcases hx with rfl | ⟨z1, z2⟩
        · exact Or.inl hm1.symm
        · exact Or.inr ⟨x.toNat, by omega, by congr 1; omega⟩
      obtain ⟨s1, e1, f1, v1, b1⟩ := c_find hm5 hv
      obtain ⟨s2, f2, g2⟩ := r_41 (W := W) (q := q) hm5 ha 13 zFU 0 s1 (by omega) (zFU_lt (by omega)) v1 (fun t p z => by omega)
      have ff : fr (fun i => i = 3) s s2 := fr_t f1 (r86_fr f2 _)
      have v2 := vRel_86 v1 f2
      have r8 : ∀ y, (if (s1.1 38 8) = (-1 : Int32) then some ((-5 : Int32), s1) else if n32 x = (-1 : Int32) then some ((s1.1 38 8), s1) else zgd (zin (n32 x) 5 = true) <| some ((s1.1 44 (n32 x).toNatClampNeg), s1)) = some (y, s1) → c8 s = some (y, s1) := fun y hy => by
        rw [hc8]
        unfold D_X8_same_J19 D_X5_tellSame
        rw [hv.1.1, i8, if_pos e, zbs, zi1, e1, zbs, hy, zbs]
      have r9 : c9 s1 = D_X9_same_L41 (n32 x) zFU 0 s1 := by
        rw [hc9 s1 v1]
        unfold D_X9_same_J21
        rw [v1.1.2.1, i9, if_pos e, zbs, zi1]
      rcases b1 with ⟨c1, c2⟩ | ⟨t, p, c1, c2, c3⟩
      · rcases g2 with ⟨d1, d2⟩ | ⟨t, p, d1, d2⟩
        · refine Rel_v (r := -5) (s1 := s1) (s' := s2) h (r8 _ ?_) ?_ ff v2
          · rw [if_pos (c1.trans hm1.symm)]
          · rw [r9]; exact d1
        · exact absurd d1.2.1 (c2 t p d1.1)
      · rcases g2 with ⟨d1, d2⟩ | ⟨t', p', d1, d2⟩
        · exact absurd c1.2.1 (d2 t p c1.1)
        · obtain ⟨z1, z2⟩ := smA_one c1 d1
          have hp := smA_le c1
          refine Rel_v (r := ansA (n32 x) t' p') (s1 := s1) (s' := s2) h (r8 _ ?_) ?_ ff v2
          · rw [if_neg (by rw [c2, hm1, n32_eq (by omega) (by omega) (by omega) (by omega)]; omega)]
            unfold ansA
            by_cases e3 : n32 x = -1
            · rw [if_pos e3, if_pos e3, c2, z1]
            · rcases ha with z | ⟨k, hk, z⟩
              · exact absurd z e3
              · rw [if_neg e3, if_neg e3, z, zgd_t (czin (by omega) (by omega)), n32_xn (by omega), c3 k hk, z2 k hk]
          · rw [r9]; exact d2
    · refine cOk_same h (r := -3) ?_ ?_
      · rw [hc8]
        unfold D_X8_same_J19
        rw [hv.1.1, i8, if_neg e, zbs, zi0]
      · rw [hc9 s hv]
        unfold D_X9_same_J21
        rw [hv.1.2.1, i9, if_neg e, zbs, zi0]
  by_cases ex : x = -1
  · refine go _ _ (Or.inl ex) ?_ (fun s1 _ => ?_)
    · try dsimp only
      unfold D_X8_same
      rw [if_pos (by rw [ex]; decide)]
    · try dsimp only
      unfold D_X9_same
      rw [ex, if_neg (by decide), if_pos (by decide)]
  · have hne : ¬ n32 x = -1 := by rw [hm1, n32_eq (by omega) (by omega) (by omega) (by omega)]; exact ex
    by_cases e : 0 ≤ x ∧ x < (m : Int)
    · refine go _ _ (Or.inr e) ?_ (fun s1 v1 => ?_)
      · try dsimp only
        unfold D_X8_same
        rw [if_neg hne, voter8 hv h1 h2, if_pos e, zbs, zi1]
      · try dsimp only
        unfold D_X9_same
        rw [if_neg (by rw [hm1, n32_lt (by omega) (by omega) (by omega) (by omega)]; omega), if_neg (by rw [hm1, n32_le (by omega) (by omega) (by omega) (by omega)]; omega), voter9 v1 h1 h2, if_pos e, zbs, zi1]
    · refine cOk_same h (r := -2) ?_ ?_
      · try dsimp only
        unfold D_X8_same
        rw [if_neg hne, voter8 hv h1 h2, if_neg e, zbs, zi0]
      · try dsimp only
        unfold D_X9_same
        by_cases e2 : x < -1
        · rw [if_pos (by rw [hm1, n32_lt (by omega) (by omega) (by omega) (by omega)]; exact e2)]
        · rw [if_neg (by rw [hm1, n32_lt (by omega) (by omega) (by omega) (by omega)]; omega), if_neg (by rw [hm1, n32_le (by omega) (by omega) (by omega) (by omega)]; omega), voter9 hv h1 h2, if_neg e, zbs, zi0]
end SM
