/-! the call parting: the reference -/
theorem zit_pair {α β : Type} {f : Nat → α → α} {g : Nat → β → β} : ∀ m k a b, zit (fun i (t : α × β) => (f i t.1, g i t.2)) m k (a, b) = (zit f m k a, zit g m k b)
  | 0, _, _, _ => rfl
  | m + 1, k, a, b => zit_pair m (k + 1) (f k a) (g k b)
section PB
variable {s : zS} {n : Nat} {v : Nat → Int} {rec26 : Int32 → Int32 → Int32 → Int32 → Option Int32} {a1 a2 a3 a4 : Int32}
theorem r_p51 (hw : wRel s n v) {code : Nat} {a6 a7 : Int32} (hc : code < 256) : ∀ (m f a : Nat) b, a + m = n → m < f → D_X9_parting_L51 rec26 s a1 a2 a3 a4 (n32 (code : Int)) a6 a7 f (zfl b) (n32 (a : Int)) = D_X9_parting_L127 rec26 s a1 a2 a3 a4 (n32 (code : Int)) (zfl (b && zall (wlB n code) m a)) zFU a6 a7 0 := by
  have hn := hw.1.2.2.1
  intro m f a b ha hf
  have h := zfold (lo := 0) (hi := n) (step := fun a b => b && wlB n code a) (fin := fun b => D_X9_parting_L127 rec26 s a1 a2 a3 a4 (n32 (code : Int)) (zfl b) zFU a6 a7 0) (fun f a b => D_X9_parting_L51 rec26 s a1 a2 a3 a4 (n32 (code : Int)) a6 a7 f (zfl b) (n32 (a : Int))) (fun f a b _ h2 => ?_) (fun f b => ?_) m f a b ha (by omega) hf
  · rw [zit_and] at h; exact h
  · have hd := dg_lt n code a
    try dsimp only
    rw [D_X9_parting_L51_s]
    unfold D_X9_parting_B51 D_X9_parting_J115 wlB
    rw [hw.2.1.1, zif_f (by rw [c32_le (by omega) (by omega)]; omega), nsuc]
    cases b
    · rw [zb0, Bool.false_and]; rfl
    · rw [zb1, Bool.true_and, dg_c n (by omega) code hc a h2]
      by_cases e : dg n code a ≤ a
      · have hd2 := dg_lt n code (dg n code a)
        rw [zif_f (by rw [c32_lt (by omega) (by omega)]; omega), dg_c n (by omega) code hc (dg n code a) (by omega), decide_eq_true e, Bool.true_and]
        by_cases e2 : dg n code (dg n code a) = dg n code a
        · rw [zif_t (by rw [e2]), decide_eq_true e2]; rfl
        · rw [zif_f (fun q => e2 (by have := (n32_eq (by omega) (by omega) (by omega) (by omega)).mp q; omega)), decide_eq_false e2]; rfl
      · rw [zif_t (by rw [c32_lt (by omega) (by omega)]; omega), decide_eq_false e, Bool.false_and]; rfl
  · try dsimp only
    rw [D_X9_parting_L51_s]
    unfold D_X9_parting_B51
    rw [hw.2.1.1, zif_t (Int32.le_refl _)]
theorem r_p147 (hw : wRel s n v) {code i y : Nat} {x : Int} {a8 : Int32} {rec127 : Int32 → Int32 → Int32 → Option Int32} (hc : code < 256) (hi : i < n) : ∀ (m f k t : Nat), k + m = n → m < f → t < 16 → D_X9_parting_L147 rec26 rec127 s a1 a2 a3 a4 (n32 (code : Int)) (n32 x) (n32 (y : Int)) a8 (n32 (i : Int)) f (n32 (t : Int)) (n32 (k : Int)) = rec127 (n32 (x + v (stOf n code i m k t))) (n32 ((if stOf n code i m k t = 0 then y else y + 1 : Nat) : Int)) (n32 ((i + 1 : Nat) : Int)) := by
  have hn := hw.1.2.2.1
  intro m
  induction m with
  | zero =>
    intro f k t hk hf ht
    obtain ⟨f, rfl⟩ : ∃ j, f = j + 1 := ⟨f - 1, by omega⟩
    obtain rfl : k = n := by omega
    rw [D_X9_parting_L147_s]
    unfold D_X9_parting_B147 D_X9_parting_J220
    rw [hw.2.1.1, zif_t (Int32.le_refl _), zgd_t (czin (by omega) (by omega)), n32_xn (by omega), hw.2.1.2.2.2.1 t ht, n32_add, nsuc, stOf]
    by_cases e : t = 0
    · rw [zif_t (by rw [e]; rfl), if_pos e, n32_0r]
    · rw [zif_f (fun q => e (by rw [l32_0] at q; have := (n32_eq (by omega) (by omega) (by omega) (by omega)).mp q; omega)), if_neg e, nsuc]
  | succ m ih =>
    intro f k t hk hf ht
    obtain ⟨f, rfl⟩ : ∃ j, f = j + 1 := ⟨f - 1, by omega⟩
    have hd := dg_lt n code k
    have h0 : n32 (t : Int) ||| 0 = n32 (t : Int) := by
      have : ∀ t : Nat, t < 16 → n32 (t : Int) ||| 0 = n32 (t : Int) := by decide
      exact this t ht
    rw [D_X9_parting_L147_s]
    unfold D_X9_parting_B147 D_X9_parting_J187
    rw [hw.2.1.1, zif_f (by rw [c32_le (by omega) (by omega)]; omega), dg_c n (by omega) code hc k (by omega), nsuc, stOf]
    by_cases e : dg n code k = i
    · rw [zif_t (by rw [e]), if_pos e, shl1 k (by omega), dv_or _ (pow2_16 (by omega)) t ht]
      exact ih f (k + 1) _ (by omega) (by omega) (or_16 ht (by omega))
    · rw [zif_f (fun q => e (by have := (n32_eq (by omega) (by omega) (by omega) (by omega)).mp q; omega)), if_neg e, h0]
      exact ih f (k + 1) _ (by omega) (by omega) ht
theorem r_p127 (hw : wRel s n v) {code : Nat} (hc : code < 256) (b : Bool) : D_X9_parting_L127 rec26 s a1 a2 a3 a4 (n32 (code : Int)) (zfl b) zFU 0 0 0 = if b then D_X9_parting_J229 rec26 s a1 a2 a3 a4 (n32 (code : Int)) (n32 (psV n v code)) (n32 (psR n code : Int)) 1 else rec26 a2 a3 a4 (n32 ((code + 1 : Nat) : Int)) := by
  have hn := hw.1.2.2.1
  have hn1 := hw.1.2.1
  cases b
  · have h := D_X9_parting_L127_s rec26 s a1 a2 a3 a4 (n32 (code : Int)) (zfl false) (zFU - 1) 0 0 0
    have hz : zFU - 1 + 1 = zFU := rfl
    rw [hz] at h
    rw [h]
    unfold D_X9_parting_B127 D_X9_parting_J229
    rw [hw.2.1.1, zif_f (by rw [l32_0, n32_le (by omega) (by omega) (by omega) (by omega)]; omega), zb0, zb0, nsuc]; rfl
  · have h := zfold (lo := 0) (hi := n) (step := fun i (t : Int × Nat) => (t.1 + v (stOf n code i n 0 0), if stOf n code i n 0 0 = 0 then t.2 else t.2 + 1)) (fin := fun t : Int × Nat => D_X9_parting_J229 rec26 s a1 a2 a3 a4 (n32 (code : Int)) (n32 t.1) (n32 (t.2 : Int)) 1) (fun f i t => D_X9_parting_L127 rec26 s a1 a2 a3 a4 (n32 (code : Int)) (zfl true) f (n32 t.1) (n32 (t.2 : Int)) (n32 (i : Int))) (fun f i t _ hi => ?_) (fun f t => ?_) n zFU 0 (0, 0) (by omega) (by omega) (zFU_lt (by omega))
    · rw [zit_pair (f := fun i (x : Int) => x + v (stOf n code i n 0 0)) (g := fun i (y : Nat) => if stOf n code i n 0 0 = 0 then y else y + 1)] at h
      exact h
    · try dsimp only
      rw [D_X9_parting_L127_s]
      unfold D_X9_parting_B127
      rw [hw.2.1.1, zif_f (by rw [c32_le (by omega) (by omega)]; omega), zb1]
      exact r_p147 hw hc hi n zFU 0 0 (by omega) (zFU_lt (by omega)) (by omega)
    · try dsimp only
      rw [D_X9_parting_L127_s]
      unfold D_X9_parting_B127
      rw [hw.2.1.1, zif_t (Int32.le_refl _)]; rfl
theorem r_p26 (hw : wRel s n v) {code : Nat} (hc : code < 4 ^ n) : D_X9_parting_B26 s a1 rec26 a2 a3 a4 (n32 (code : Int)) = if zall (wlB n code) n 0 then D_X9_parting_J229 rec26 s a1 a2 a3 a4 (n32 (code : Int)) (n32 (psV n v code)) (n32 (psN n code : Int)) 1 else rec26 a2 a3 a4 (n32 ((code + 1 : Nat) : Int)) := by
  have hn := hw.1.2.2.1
  obtain ⟨-, q2, q3⟩ := pow4 n (by omega)
  unfold D_X9_parting_B26
  have h51 : D_X9_parting_L51 rec26 s a1 a2 a3 a4 (n32 (code : Int)) 0 0 zFU 1 0 = _ := r_p51 hw (code := code) (a6 := 0) (a7 := 0) (by omega) n zFU 0 true (by omega) (zFU_lt (by omega))
  rw [hw.2.1.1, pow4b n (by omega), zif_f (by rw [c32_le (by omega) (by omega)]; omega), h51, r_p127 hw (by omega), Bool.true_and]
  cases e : zall (wlB n code) n 0
  · rw [if_neg (by decide), if_neg (by decide)]
  · rw [if_pos rfl, if_pos rfl, ps_same n (by omega) code (by omega) e]
theorem r_best (hw : wRel s n v) : D_X9_parting_L26 s a1 zFU (-1) 0 0 0 = if a1 = -1 then some (n32 (psV n v (zit (pbF n v) (4 ^ n - 1) 1 0))) else some ((n32 ((zit (pbF n v) (4 ^ n - 1) 1 0 : Nat) : Int) >>> ((2 * ((n32 (n : Int) - 1) - a1)) &&& 31)) &&& 3) := by
  have hn := hw.1.2.2.1
  obtain ⟨-, q2, q3⟩ := pow4 n (by omega)
  have h0 := D_X9_parting_L26_s s a1 (zFU - 1) (-1) 0 0 0
  have hz : zFU - 1 + 1 = zFU := rfl
  rw [hz] at h0
  have hb0 : D_X9_parting_B26 s a1 (D_X9_parting_L26 s a1 (zFU - 1)) (-1) 0 0 0 = _ := r_p26 hw (a1 := a1) (rec26 := D_X9_parting_L26 s a1 (zFU - 1)) (a2 := -1) (a3 := 0) (a4 := 0) (code := 0) (by omega)
  have hj : ∀ x y, D_X9_parting_J229 (D_X9_parting_L26 s a1 (zFU - 1)) s a1 (-1) 0 0 (n32 ((0 : Nat) : Int)) x y 1 = D_X9_parting_L26 s a1 (zFU - 1) (n32 ((0 : Nat) : Int)) x y (n32 ((0 : Nat) : Int) + 1) := fun x y => by
    unfold D_X9_parting_J229 D_X9_parting_J258
    rw [zi1, zif_t rfl]
  rw [h0, hb0, if_pos (wl_0 n (by omega)), hj, nsuc]
  have h := zfoldP (lo := 1) (hi := 4 ^ n) (step := pbF n v) (fin := fun t : Nat => if a1 = -1 then some (n32 (psV n v t)) else some ((n32 (t : Int) >>> ((2 * ((n32 (n : Int) - 1) - a1)) &&& 31)) &&& 3)) (fun _ t => t < 256) (fun f k t => D_X9_parting_L26 s a1 f (n32 (t : Int)) (n32 (psV n v t)) (n32 (psN n t : Int)) (n32 (k : Int))) (fun f k t h1 h2 ht => ?_) (fun f t _ => ?_) (4 ^ n - 1) (zFU - 1) 1 0 (by omega) (by omega) (by have : 300 < zFU := zFU_lt (by omega); omega) (by omega)
  · exact h.2
  · refine ⟨by unfold pbF; split <;> omega, ?_⟩
    have b1 := psV_b hw (code := k) (by omega)
    have b2 := psV_b hw ht
    have b3 := ps_le n (by omega) k (by omega)
    have b4 := ps_le n (by omega) t ht
    try dsimp only
    rw [D_X9_parting_L26_s, r_p26 hw h2]
    unfold pbF btB D_X9_parting_J229 D_X9_parting_J258
    cases zall (wlB n k) n 0
    · rfl
    · have hm1 : ¬ n32 (t : Int) = -1 := fun q => by
        rw [l32_m1] at q
        have := (n32_eq (by omega) (by omega) (by omega) (by omega)).mp q
        omega
      rw [if_pos rfl, zi1, zif_f hm1, nsuc, Bool.true_and]
      by_cases e : psV n v t < psV n v k
      · rw [zif_t ((n32_lt (by omega) (by omega) (by omega) (by omega)).mpr e), decide_eq_true (Or.inl e)]; rfl
      · rw [zif_f (fun q => e ((n32_lt (by omega) (by omega) (by omega) (by omega)).mp q))]
        by_cases e2 : psV n v t = psV n v k
        · rw [zif_t (by rw [e2])]
          by_cases e3 : psN n k < psN n t
          · rw [zif_f (by rw [c32_le (by omega) (by omega)]; omega), decide_eq_true (Or.inr ⟨e2, e3⟩)]; rfl
          · rw [zif_t (by rw [c32_le (by omega) (by omega)]; omega), decide_eq_false (by omega)]; rfl
        · rw [zif_f (by rw [n32_eq (by omega) (by omega) (by omega) (by omega)]; omega), decide_eq_false (by omega)]; rfl
  · try dsimp only
    rw [D_X9_parting_L26_s]
    unfold D_X9_parting_B26
    rw [hw.2.1.1, pow4b n (by omega), zif_t (Int32.le_refl _)]
theorem call_parting (hw : wRel s n v) (a : Int32) : cPu (D_X8_parting s a) (D_X9_parting s a) := by
  obtain ⟨k, rfl, h1, h2⟩ := i32_of a
  have hn := hw.1.2.2.1
  obtain ⟨c1, c2⟩ := c_best hw
  unfold D_X8_parting D_X9_parting D_X8_parting_J19 D_X9_parting_J16 D_X7_leastBeside
  rw [knows7 hw h1 h2, knows9 hw h1 h2, r_best hw, c2, zbs]
  generalize zit (pbF n v) (4 ^ n - 1) 1 0 = c at c1 c2 ⊢
  by_cases e : n32 k = -1
  · rw [if_pos e, if_pos e, if_pos e, if_pos e, c_pw hw c1]
    exact ⟨_, rfl, rfl⟩
  · rw [if_neg e, if_neg e, if_neg e, if_neg e]
    by_cases e2 : 0 ≤ k ∧ k ≤ (n : Int) - 1
    · obtain ⟨i, rfl⟩ : ∃ t : Nat, k = (t : Int) := ⟨k.toNat, by omega⟩
      rw [if_pos e2, zbs, zbs, zi1, zi1, c_digit hw c1 (by omega), dg_c n (by omega) c c1 i (by omega)]
      exact ⟨_, rfl, rfl⟩
    · rw [if_neg e2, zbs, zbs, zi0, zi0]
      exact ⟨_, rfl, rfl⟩
end PB
