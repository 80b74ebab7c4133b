/-! the call parting -/
def stOf (n code i : Nat) : Nat → Nat → Nat → Nat
  | 0, _, t => t
  | m + 1, k, t => stOf n code i m (k + 1) (if dg n code k = i then t ||| 2 ^ k else t)
def wlB (n code a : Nat) : Bool := decide (dg n code a ≤ a) && decide (dg n code (dg n code a) = dg n code a)
def psN (n code : Nat) : Nat := zit (fun i t => if dg n code i = i then t + 1 else t) n 0 0
def psR (n code : Nat) : Nat := zit (fun i t => if stOf n code i n 0 0 = 0 then t else t + 1) n 0 0
def psV (n : Nat) (v : Nat → Int) (code : Nat) : Int := zit (fun i (t : Int) => t + v (stOf n code i n 0 0)) n 0 0
theorem ps_same : ∀ n : Nat, n < 5 → ∀ code : Nat, code < 256 → zall (wlB n code) n 0 = true → psR n code = psN n code := by decide +kernel
theorem wl_0 : ∀ n : Nat, n < 5 → zall (wlB n 0) n 0 = true := by decide +kernel
theorem st_lt : ∀ n : Nat, n < 5 → ∀ code : Nat, code < 256 → ∀ i : Nat, i < n → stOf n code i n 0 0 < 16 := by decide +kernel
theorem ps_le : ∀ n : Nat, n < 5 → ∀ code : Nat, code < 256 → psN n code ≤ 4 := by decide +kernel
theorem dg_self : ∀ n : Nat, n < 5 → ∀ code : Nat, code < 256 → ∀ p : Nat, p < n → ((n32 (code : Int) >>> ((2 * ((n32 (n : Int) - 1) - n32 (p : Int))) &&& 31)) &&& 3) = n32 (dg n code p : Int) := dg_c
section PA
variable {s : zS} {n : Nat} {v : Nat → Int}
theorem psV_bd (hw : wRel s n v) {code : Nat} (hc : code < 256) : ∀ m : Nat, m ≤ n → -(1000 * (m : Int)) ≤ zit (fun i (t : Int) => t + v (stOf n code i n 0 0)) m 0 0 ∧ zit (fun i (t : Int) => t + v (stOf n code i n 0 0)) m 0 0 ≤ 1000 * (m : Int) := by
  intro m
  induction m with
  | zero => intro _; simp [zit]
  | succ m ih =>
    intro hm
    have h1 := ih (by omega)
    have hn := hw.1.2.2.1
    have h2 := hw.1.2.2.2.2 _ (st_lt n (by omega) code hc m (by omega))
    rw [zit_last, Nat.zero_add]
    push_cast
    omega
theorem psV_b (hw : wRel s n v) {code : Nat} (hc : code < 256) : -4000 ≤ psV n v code ∧ psV n v code ≤ 4000 := by
  have := psV_bd hw hc n (Nat.le_refl _)
  have hn := hw.1.2.2.1
  unfold psV
  omega
theorem c_parting2 (hw : wRel s n v) {code : Nat} (hc : code < 256) : D_X7_isParting s (n32 (code : Int)) = if zall (wlB n code) n 0 then some 1 else some 0 := by
  have hn := hw.1.2.2.1
  refine zchk (lo := 0) (hi := n) (fun f a => D_X7_isParting_L2 s (n32 (code : Int)) f (n32 (a : Int))) (fun f a _ ha => ?_) (fun f => ?_) n zFU 0 (by omega) (by omega) (zFU_lt (by omega))
  · have hd := dg_lt n code a
    try dsimp only
    rw [D_X7_isParting_L2_s]
    unfold D_X7_isParting_B2 wlB
    rw [hw.1.1, zif_f (by rw [c32_le (by omega) (by omega)]; omega), c_digit hw hc ha, zbs, nsuc]
    by_cases e : dg n code a ≤ a
    · have hd2 := dg_lt n code (dg n code a)
      rw [zif_f (by rw [c32_lt (by omega) (by omega)]; omega), c_digit hw hc (by omega), zbs, decide_eq_true e, Bool.true_and]
      by_cases e2 : dg n code (dg n code a) = dg n code a
      · rw [zif_t (by rw [e2]), if_pos (decide_eq_true e2)]
      · rw [zif_f (fun q => e2 (by have := (n32_eq (by omega) (by omega) (by omega) (by omega)).mp q; omega)), if_neg (by rw [decide_eq_true_iff]; exact e2)]
    · rw [zif_t (by rw [c32_lt (by omega) (by omega)]; omega), decide_eq_false e, Bool.false_and]; rfl
  · try dsimp only
    rw [D_X7_isParting_L2_s]
    unfold D_X7_isParting_B2
    rw [hw.1.1, zif_t (Int32.le_refl _)]
theorem c_pw18 (hw : wRel s n v) {code i : Nat} {x : Int} {rec4 : Int32 → Int32 → Option Int32} (hc : code < 256) (hi : i < n) : ∀ (m f k t : Nat), k + m = n → m < f → t < 16 → D_X7_partingWorth_L18 rec4 s (n32 (code : Int)) (n32 x) (n32 (i : Int)) f (n32 (t : Int)) (n32 (k : Int)) = rec4 (n32 (x + v (stOf n code i m k t))) (n32 ((i + 1 : Nat) : Int)) := by
  have hn := hw.1.2.2.1
  intro m
  induction m with
  | zero =>
    intro f k t hk hf ht
    obtain ⟨f, rfl⟩ : ∃ j, f = j + 1 := ⟨f - 1, by omega⟩
    obtain rfl : k = n := by omega
    rw [D_X7_partingWorth_L18_s]
    unfold D_X7_partingWorth_B18
    rw [hw.1.1, zif_t (Int32.le_refl _), zgd_t (czin (by omega) (by omega)), n32_xn (by omega), hw.1.2.2.2.1 t ht, n32_add, nsuc, stOf]
  | succ m ih =>
    intro f k t hk hf ht
    obtain ⟨f, rfl⟩ : ∃ j, f = j + 1 := ⟨f - 1, by omega⟩
    have hd := dg_lt n code k
    rw [D_X7_partingWorth_L18_s]
    unfold D_X7_partingWorth_B18
    rw [hw.1.1, zif_f (by rw [c32_le (by omega) (by omega)]; omega), c_digit hw hc (by omega), zbs, nsuc, stOf]
    by_cases e : dg n code k = i
    · rw [zif_t (by rw [e]), if_pos e, shl1 k (by omega), dv_or _ (pow2_16 (by omega)) t ht]
      exact ih f (k + 1) _ (by omega) (by omega) (or_16 ht (by omega))
    · rw [zif_f (fun q => e (by have := (n32_eq (by omega) (by omega) (by omega) (by omega)).mp q; omega)), if_neg e]
      exact ih f (k + 1) _ (by omega) (by omega) ht
theorem c_pw (hw : wRel s n v) {code : Nat} (hc : code < 256) : D_X7_partingWorth s (n32 (code : Int)) = some (n32 (psV n v code)) := by
  have hn := hw.1.2.2.1
  refine zfold (lo := 0) (hi := n) (step := fun i (t : Int) => t + v (stOf n code i n 0 0)) (fin := fun t : Int => some (n32 t)) (fun f i t => D_X7_partingWorth_L4 s (n32 (code : Int)) f (n32 t) (n32 (i : Int))) (fun f i t _ hi => ?_) (fun f t => ?_) n zFU 0 0 (by omega) (by omega) (zFU_lt (by omega))
  · try dsimp only
    rw [D_X7_partingWorth_L4_s]
    unfold D_X7_partingWorth_B4
    rw [hw.1.1, zif_f (by rw [c32_le (by omega) (by omega)]; omega)]
    exact c_pw18 hw hc hi n zFU 0 0 (by omega) (zFU_lt (by omega)) (by omega)
  · try dsimp only
    rw [D_X7_partingWorth_L4_s]
    unfold D_X7_partingWorth_B4
    rw [hw.1.1, zif_t (Int32.le_refl _)]
theorem c_ps (hw : wRel s n v) {code : Nat} (hc : code < 256) : D_X7_partingSets s (n32 (code : Int)) = some (n32 (psN n code : Int)) := by
  have hn := hw.1.2.2.1
  refine zfold (lo := 0) (hi := n) (step := fun i t => if dg n code i = i then t + 1 else t) (fin := fun t : Nat => some (n32 (t : Int))) (fun f i t => D_X7_partingSets_L4 s (n32 (code : Int)) f (n32 (t : Int)) (n32 (i : Int))) (fun f i t _ hi => ?_) (fun f t => ?_) n zFU 0 0 (by omega) (by omega) (zFU_lt (by omega))
  · have hd := dg_lt n code i
    try dsimp only
    rw [D_X7_partingSets_L4_s]
    unfold D_X7_partingSets_B4
    rw [hw.1.1, zif_f (by rw [c32_le (by omega) (by omega)]; omega), c_digit hw hc hi, zbs, nsuc, nsuc]
    by_cases e : dg n code i = i
    · rw [zif_t (by rw [e]), if_pos e]
    · rw [zif_f (fun q => e (by have := (n32_eq (by omega) (by omega) (by omega) (by omega)).mp q; omega)), if_neg e]
  · try dsimp only
    rw [D_X7_partingSets_L4_s]
    unfold D_X7_partingSets_B4
    rw [hw.1.1, zif_t (Int32.le_refl _)]
/-- a row is better than another -/
def btB (n : Nat) (v : Nat → Int) (a b : Nat) : Bool := decide (psV n v b < psV n v a ∨ (psV n v b = psV n v a ∧ psN n a < psN n b))
theorem c_beats (hw : wRel s n v) {a b : Nat} (ha : a < 256) (hb : b < 256) : D_X7_beats s (n32 (a : Int)) (n32 (b : Int)) = some (zfl (btB n v a b)) := by
  have hn := hw.1.2.2.1
  have h1 := psV_b hw ha
  have h2 := psV_b hw hb
  have h3 := ps_le n (by omega) a ha
  have h4 := ps_le n (by omega) b hb
  unfold D_X7_beats D_X7_beats_J33 D_X7_beats_J37 btB
  rw [c_pw hw ha, zbs, c_pw hw hb, zbs, n32_sub, l32_0]
  by_cases e : psV n v b < psV n v a
  · rw [zif_t (by rw [n32_lt (by omega) (by omega) (by omega) (by omega)]; omega), decide_eq_true (Or.inl e)]; rfl
  · rw [zif_f (by rw [n32_lt (by omega) (by omega) (by omega) (by omega)]; omega)]
    by_cases e2 : psV n v b = psV n v a
    · rw [zif_t (by rw [n32_eq (by omega) (by omega) (by omega) (by omega)]; omega), c_ps hw ha, zbs, c_ps hw hb, zbs]
      by_cases e3 : psN n a < psN n b
      · rw [zif_f (by rw [c32_le (by omega) (by omega)]; omega), decide_eq_true (Or.inr ⟨e2, e3⟩)]; rfl
      · rw [zif_t (by rw [c32_le (by omega) (by omega)]; omega), decide_eq_false (by omega)]; rfl
    · rw [zif_f (by rw [n32_eq (by omega) (by omega) (by omega) (by omega)]; omega), decide_eq_false (by omega)]; rfl
def pbF (n : Nat) (v : Nat → Int) (code best : Nat) : Nat := if zall (wlB n code) n 0 && btB n v code best then code else best
theorem pow4b : ∀ n : Nat, n < 5 → ((1 : Int32) <<< ((2 * n32 (n : Int)) &&& 31)) = n32 ((4 ^ n : Nat) : Int) := by decide +kernel
theorem c_best (hw : wRel s n v) : zit (pbF n v) (4 ^ n - 1) 1 0 < 256 ∧ D_X7_bestParting s = some (n32 ((zit (pbF n v) (4 ^ n - 1) 1 0 : Nat) : Int)) := by
  have hn := hw.1.2.2.1
  obtain ⟨-, q2, q3⟩ := pow4 n (by omega)
  have h := zfoldP (lo := 1) (hi := 4 ^ n) (step := pbF n v) (fin := fun t : Nat => some (n32 (t : Int))) (fun _ t => t < 256) (fun f k t => D_X7_bestParting_L4 s f (n32 (t : Int)) (n32 (k : Int))) (fun f k t h1 h2 ht => ?_) (fun f t _ => ?_) (4 ^ n - 1) zFU 1 0 (by omega) (by omega) (zFU_lt (by omega)) (by omega)
  · exact h
  · refine ⟨by unfold pbF; split <;> omega, ?_⟩
    try dsimp only
    rw [D_X7_bestParting_L4_s]
    unfold D_X7_bestParting_B4 pbF
    rw [hw.1.1, pow4b n (by omega), zif_f (by rw [c32_le (by omega) (by omega)]; omega), c_parting2 hw (by omega), in_ite, c_beats hw (by omega) ht, zbs, nsuc]
    cases zall (wlB n k) n 0
    · rw [if_neg (by decide), zi0, Bool.false_and]; rfl
    · rw [if_pos rfl, zi1, Bool.true_and]
      cases btB n v k t
      · rw [zb0]; rfl
      · rw [zb1]; rfl
  · try dsimp only
    rw [D_X7_bestParting_L4_s]
    unfold D_X7_bestParting_B4
    rw [hw.1.1, pow4b n (by omega), zif_t (Int32.le_refl _)]
end PA
