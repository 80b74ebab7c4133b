/-! claims: even giving, by the class -/
theorem rat_fr {a b c d : Int} (hb : 0 < b) (hd : 0 < d) (h : a * d = c * b) : (a : Rat) / (b : Rat) = (c : Rat) / (d : Rat) := by
  have hb' : (b : Rat) ≠ 0 := fun e => by have := rat_pos hb; rw [e] at this; exact absurd this (by decide)
  have hd' : (d : Rat) ≠ 0 := fun e => by have := rat_pos hd; rw [e] at this; exact absurd this (by decide)
  have h' : (a : Rat) * (d : Rat) = (c : Rat) * (b : Rat) := by rw [← Rat.intCast_mul, ← Rat.intCast_mul, h]
  refine rat_cancel hb' (rat_cancel hd' ?_)
  have e1 : (d : Rat) * ((b : Rat) * ((a : Rat) / (b : Rat))) = (a : Rat) * (d : Rat) := by
    rw [Rat.mul_comm (b : Rat), Rat.div_mul_cancel hb', Rat.mul_comm]
  have e2 : (d : Rat) * ((b : Rat) * ((c : Rat) / (d : Rat))) = (c : Rat) * (b : Rat) := by
    rw [← Rat.mul_assoc, Rat.mul_comm (d : Rat), Rat.mul_assoc, Rat.mul_comm (d : Rat), Rat.div_mul_cancel hd', Rat.mul_comm]
  rw [e1, e2, h']
section CM
variable {s : zS} {m : Nat} {C : Nat → Int} {E : Int}
/-- what a claim and each other one have alike -/
def mnV (C : Nat → Int) (k j : Nat) : Int := if C k < C j then C k else C j
def mtV (C : Nat → Int) (k : Nat) : Nat → Int
  | 0 => 0
  | m + 1 => mtV C k m + mnV C k m
def metB (C : Nat → Int) (m : Nat) (e : Int) (k : Nat) : Bool := decide (mtV C k m ≤ e)
def onesV (m D : Nat) : Int := ldV (fun _ => 1) m D
theorem mt_bd (hc : cRel s m C E) {k : Nat} (hk : k < m) : ∀ l : Nat, l ≤ m → 0 ≤ mtV C k l ∧ mtV C k l ≤ 1000 * (l : Int) := by
  intro l
  induction l with
  | zero => intro _; simp [mtV]
  | succ l ih =>
    intro hl
    have h1 := ih (by omega)
    have h2 := (hc.2.1 k hk).2.2
    have h3 := (hc.2.1 l (by omega)).2.2
    rw [mtV]
    unfold mnV
    split <;> omega
theorem tot_bd (hc : cRel s m C E) (D : Nat) : 0 ≤ ldV C m D ∧ ldV C m D ≤ 6000 := by
  have hm := hc.1.2.2
  have := ld_bd (W := C) (A := 1000) (S := D) m (fun i hi => (hc.2.1 i hi).2.2)
  omega
theorem ones_bd {D : Nat} : ∀ m : Nat, 0 ≤ onesV m D ∧ onesV m D ≤ (m : Int) := by
  intro m
  have := ld_bd (W := fun _ => 1) (A := 1) (S := D) m (fun i _ => ⟨by decide, by decide⟩)
  unfold onesV
  omega
/-- all claims together -/
def totV (C : Nat → Int) (m : Nat) : Int := ldV C m (2 ^ m - 1)
theorem tot_zit : zit (fun j (t : Int) => t + C j) m 0 0 = totV C m := by
  unfold totV
  rw [← ld_zit]
  refine zit_congr m 0 0 (fun j t _ hj => ?_)
  rw [Nat.testBit_two_pow_sub_one, decide_eq_true (by omega), if_pos rfl]
theorem c_total (hc : cRel s m C E) : D_X1_total s = some (n32 (totV C m)) := by
  have hm := hc.1.2.2
  rw [← tot_zit]
  refine zfold (lo := 0) (hi := m) (step := fun j (t : Int) => t + C j) (fin := fun t : Int => some (n32 t)) (fun f j t => D_X1_total_L4 s f (n32 t) (n32 (j : Int))) (fun f j t _ hj => ?_) (fun f t => ?_) m zFU 0 0 (by omega) (by omega) (zFU_lt (by omega))
  · try dsimp only
    rw [D_X1_total_L4_s]
    unfold D_X1_total_B4
    rw [hc.1.1, zif_f (by rw [c32_le (by omega) (by omega)]; omega), zgd_t (czin (by omega) (by omega)), n32_xn (by omega), (hc.2.1 j hj).1, n32_add, nsuc]
  · try dsimp only
    rw [D_X1_total_L4_s]
    unfold D_X1_total_B4
    rw [hc.1.1, zif_t (Int32.le_refl _)]
theorem r_total (hc : cRel s m C E) : D_X9_allClaims s = some (n32 (totV C m)) := by
  have hm := hc.1.2.2
  rw [← tot_zit]
  refine zfold (lo := 0) (hi := m) (step := fun j (t : Int) => t + C j) (fin := fun t : Int => some (n32 t)) (fun f j t => D_X9_allClaims_L4 s f (n32 t) (n32 (j : Int))) (fun f j t _ hj => ?_) (fun f t => ?_) m zFU 0 0 (by omega) (by omega) (zFU_lt (by omega))
  · try dsimp only
    rw [D_X9_allClaims_L4_s]
    unfold D_X9_allClaims_B4
    rw [hc.1.2.1, zif_f (by rw [c32_le (by omega) (by omega)]; omega), zgd_t (czin (by omega) (by omega)), n32_xn (by omega), (hc.2.1 j hj).2.1, n32_add, nsuc]
  · try dsimp only
    rw [D_X9_allClaims_L4_s]
    unfold D_X9_allClaims_B4
    rw [hc.1.2.1, zif_t (Int32.le_refl _)]
theorem mt_zit {k : Nat} : ∀ m, zit (fun j (t : Int) => t + mnV C k j) m 0 0 = mtV C k m := by
  intro m
  induction m with
  | zero => rfl
  | succ m ih => rw [zit_last, Nat.zero_add, ih, mtV]
theorem c_met (hc : cRel s m C E) {k : Nat} {e : Int} (hk : k < m) (he : -20000 ≤ e ∧ e ≤ 20000) : D_X1_isMet s (n32 (k : Int)) (n32 e) = some (zfl (metB C m e k)) := by
  have hm := hc.1.2.2
  have h := zfold (lo := 0) (hi := m) (step := fun j (t : Int) => t + mnV C k j) (fin := fun t : Int => if n32 e < n32 t then some 0 else some 1) (fun f j t => D_X1_isMet_L5 s (n32 (k : Int)) (n32 e) f (n32 t) (n32 (j : Int))) (fun f j t _ hj => by
    have h2 := (hc.2.1 k hk).2.2
    have h3 := (hc.2.1 j hj).2.2
    try dsimp only
    rw [D_X1_isMet_L5_s]
    unfold D_X1_isMet_B5 mnV
    rw [hc.1.1, zif_f (by rw [c32_le (by omega) (by omega)]; omega), zgd_t (czin (by omega) (by omega)), zgd_t (czin (by omega) (by omega)), n32_xn (by omega), n32_xn (by omega), (hc.2.1 j hj).1, (hc.2.1 k hk).1, zmin_n (by omega) (by omega), n32_add, nsuc]) (fun f t => by
    try dsimp only
    rw [D_X1_isMet_L5_s]
    unfold D_X1_isMet_B5
    rw [hc.1.1, zif_t (Int32.le_refl _)]) m zFU 0 0 (by omega) (by omega) (zFU_lt (by omega))
  rw [mt_zit] at h
  have hb := mt_bd hc hk m (Nat.le_refl _)
  have h' : D_X1_isMet s (n32 (k : Int)) (n32 e) = _ := h
  rw [h']
  unfold metB
  by_cases q : mtV C k m ≤ e
  · rw [zif_f (by rw [n32_lt (by omega) (by omega) (by omega) (by omega)]; omega), decide_eq_true q]; rfl
  · rw [zif_t (by rw [n32_lt (by omega) (by omega) (by omega) (by omega)]; omega), decide_eq_false q]; rfl
/-- the claims that even giving meets, as a set -/
def meD (C : Nat → Int) (m : Nat) (e : Int) (D : Nat) : Prop := ∀ j, j < m → D.testBit j = metB C m e j
theorem c_open (hc : cRel s m C E) {D : Nat} {e : Int} (he : -20000 ≤ e ∧ e ≤ 20000) (hD : meD C m e D) : D_X1_openBy s (n32 e) = some (n32 (if 1 < (m : Int) - onesV m D then (m : Int) - onesV m D else 1)) := by
  have hm := hc.1.2.2
  have h := zfoldP (lo := 0) (hi := m) (step := fun j (t : Int) => if metB C m e j then t else t + 1) (fin := fun t : Int => some (zmax 1 (n32 t))) (fun k t => t = (k : Int) - onesV k D) (fun f j t => D_X1_openBy_L4 s (n32 e) f (n32 t) (n32 (j : Int))) (fun f j t _ hj hP => by
    refine ⟨?_, ?_⟩
    · have h1 : onesV (j + 1) D = onesV j D + if D.testBit j then 1 else 0 := rfl
      rw [h1, hP, hD j hj]
      push_cast
      cases metB C m e j
      · rw [if_neg (by decide), if_neg (by decide)]; omega
      · rw [if_pos rfl, if_pos rfl]; omega
    · try dsimp only
      rw [D_X1_openBy_L4_s]
      unfold D_X1_openBy_B4
      rw [hc.1.1, zif_f (by rw [c32_le (by omega) (by omega)]; omega), c_met hc hj he, zbs, l32_1, n32_add]
      cases metB C m e j
      · rw [zb0, if_neg (by decide), n32_add]; rfl
      · rw [zb1, if_pos rfl, n32_add]; rfl) (fun f t _ => by
    try dsimp only
    rw [D_X1_openBy_L4_s]
    unfold D_X1_openBy_B4
    rw [hc.1.1, zif_t (Int32.le_refl _)]) m zFU 0 0 (by omega) (by omega) (zFU_lt (by omega)) (by unfold onesV; rfl)
  have h' : D_X1_openBy s (n32 e) = _ := h.2
  have hb := ones_bd (D := D) m
  rw [h', h.1, l32_1, zmax_n (by omega) (by omega)]
theorem c_even (hc : cRel s m C E) {D k : Nat} {e o : Int} (hk : k < m) (he : -20000 ≤ e ∧ e ≤ 20000) (hD : meD C m e D) : D_X1_evenTimesOpen s (n32 (k : Int)) (n32 e) (n32 o) = some (n32 (if D.testBit k then C k * o else e - ldV C m D)) := by
  have hm := hc.1.2.2
  have h := zfoldP (lo := 0) (hi := m) (step := fun j (t : Int) => if metB C m e j then t - C j else t) (fin := fun t : Int => some (n32 t)) (fun l t => t = e - ldV C l D) (fun f j t => D_X1_evenTimesOpen_L24 s (n32 e) f (n32 t) (n32 (j : Int))) (fun f j t _ hj hP => by
    refine ⟨?_, ?_⟩
    · rw [ldV, hP, hD j hj]
      cases metB C m e j
      · rw [if_neg (by decide), if_neg (by decide)]; omega
      · rw [if_pos rfl, if_pos rfl]; omega
    · try dsimp only
      rw [D_X1_evenTimesOpen_L24_s]
      unfold D_X1_evenTimesOpen_B24
      rw [hc.1.1, zif_f (by rw [c32_le (by omega) (by omega)]; omega), c_met hc hj he, zbs, nsuc]
      cases metB C m e j
      · rw [zb0]; rfl
      · rw [zb1, zgd_t (czin (by omega) (by omega)), n32_xn (by omega), (hc.2.1 j hj).1, n32_sub]; rfl) (fun f t _ => by
    try dsimp only
    rw [D_X1_evenTimesOpen_L24_s]
    unfold D_X1_evenTimesOpen_B24
    rw [hc.1.1, zif_t (Int32.le_refl _)]) m zFU 0 e (by omega) (by omega) (zFU_lt (by omega)) (by rw [ldV, Int.sub_zero])
  unfold D_X1_evenTimesOpen
  rw [c_met hc hk he, zbs, hD k hk]
  have h' : D_X1_evenTimesOpen_L24 s (n32 e) zFU (n32 e) 0 = _ := h.2
  cases metB C m e k
  · rw [zb0, h', h.1]; rfl
  · rw [zb1, zgd_t (czin (by omega) (by omega)), n32_xn (by omega), (hc.2.1 k hk).1, n32_mul]; rfl
/-- a claim and all others are no more than what is met and that claim for all others -/
theorem mt_le {k D : Nat} : ∀ l : Nat, mtV C k l ≤ ldV C l D + ((l : Int) - onesV l D) * C k := by
  intro l
  induction l with
  | zero => simp [mtV, ldV, onesV]
  | succ l ih =>
    have h1 : onesV (l + 1) D = onesV l D + if D.testBit l then 1 else 0 := rfl
    rw [mtV, ldV, h1]
    have hmn : mnV C k l ≤ C l ∧ mnV C k l ≤ C k := by unfold mnV; split <;> omega
    cases D.testBit l
    · rw [if_neg (by decide), if_neg (by decide)]
      have : (((l + 1 : Nat) : Int) - (onesV l D + 0)) * C k = ((l : Int) - onesV l D) * C k + C k := by
        rw [show ((l + 1 : Nat) : Int) - (onesV l D + 0) = ((l : Int) - onesV l D) + 1 by omega, Int.add_mul, Int.one_mul]
      omega
    · rw [if_pos rfl, if_pos rfl]
      have : (((l + 1 : Nat) : Int) - (onesV l D + 1)) * C k = ((l : Int) - onesV l D) * C k := by
        rw [show ((l + 1 : Nat) : Int) - (onesV l D + 1) = (l : Int) - onesV l D by omega]
      omega
/-- and just that, where those met are the lesser ones -/
theorem mt_eq {k D : Nat} : ∀ l : Nat, (∀ j, j < l → if D.testBit j then C j ≤ C k else C k ≤ C j) → mtV C k l = ldV C l D + ((l : Int) - onesV l D) * C k := by
  intro l
  induction l with
  | zero => intro _; simp [mtV, ldV, onesV]
  | succ l ih =>
    intro h
    have h2 := h l (by omega)
    have h1 : onesV (l + 1) D = onesV l D + if D.testBit l then 1 else 0 := rfl
    rw [mtV, ldV, h1, ih (fun j hj => h j (by omega))]
    cases e : D.testBit l
    · rw [e, if_neg (by decide)] at h2
      rw [if_neg (by decide), if_neg (by decide)]
      have h3 : mnV C k l = C k := by unfold mnV; split <;> omega
      have : (((l + 1 : Nat) : Int) - (onesV l D + 0)) * C k = ((l : Int) - onesV l D) * C k + C k := by
        rw [show ((l + 1 : Nat) : Int) - (onesV l D + 0) = ((l : Int) - onesV l D) + 1 by omega, Int.add_mul, Int.one_mul]
      omega
    · rw [e, if_pos rfl] at h2
      rw [if_pos rfl, if_pos rfl]
      have h3 : mnV C k l = C l := by unfold mnV; split <;> omega
      have : (((l + 1 : Nat) : Int) - (onesV l D + 1)) * C k = ((l : Int) - onesV l D) * C k := by
        rw [show ((l + 1 : Nat) : Int) - (onesV l D + 1) = (l : Int) - onesV l D by omega]
      omega
theorem mt_mono {k k' : Nat} (h : C k ≤ C k') : ∀ l : Nat, mtV C k l ≤ mtV C k' l := by
  intro l
  induction l with
  | zero => exact Int.le_refl _
  | succ l ih =>
    rw [mtV, mtV]
    have : mnV C k l ≤ mnV C k' l := by unfold mnV; (repeat' split) <;> omega
    omega
theorem pc8_ones : ∀ m : Nat, m < 7 → ∀ D : Nat, D < 2 ^ m → (pc8 D : Int) = onesV m D := by decide +kernel
theorem least_out {D : Nat} : ∀ m : Nat, (∃ k, k < m ∧ D.testBit k = false) → ∃ k, k < m ∧ D.testBit k = false ∧ ∀ j, j < m → D.testBit j = false → C k ≤ C j := by
  intro m
  induction m with
  | zero => rintro ⟨k, hk, -⟩; omega
  | succ m ih =>
    rintro ⟨k, hk, h⟩
    by_cases e : ∃ k, k < m ∧ D.testBit k = false
    · obtain ⟨l, l1, l2, l3⟩ := ih e
      by_cases q : D.testBit m = false ∧ C m < C l
      · refine ⟨m, by omega, q.1, fun j hj hj2 => ?_⟩
        by_cases q2 : j = m
        · rw [q2]; exact Int.le_refl _
        · have := l3 j (by omega) hj2; omega
      · refine ⟨l, by omega, l2, fun j hj hj2 => ?_⟩
        by_cases q2 : j = m
        · rw [q2] at hj2 ⊢
          refine Classical.byContradiction fun z => q ⟨hj2, by omega⟩
        · exact l3 j (by omega) hj2
    · have hkm : k = m := by
        refine Classical.byContradiction fun z => e ⟨k, by omega, h⟩
      refine ⟨m, by omega, hkm ▸ h, fun j hj hj2 => ?_⟩
      by_cases q2 : j = m
      · rw [q2]; exact Int.le_refl _
      · exact absurd ⟨j, by omega, hj2⟩ e
end CM
