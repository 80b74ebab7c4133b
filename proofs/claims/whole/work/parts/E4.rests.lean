/-! the market: the class's rows of rests -/
theorem zT60 : ∀ b : Nat, b < 5 → zT 60 (n32 (b : Int)) = 61 + b := by decide
theorem zoI61 : ∀ b : Nat, b < 5 → ∀ g : Nat, g < 32 → zoI (61 + b) (n32 (g : Int)) = true := by decide
section RS
variable {s : zS} {B S : Nat} {G : Nat → Nat → Int} {Q : Nat → Int} {tw : Int}
theorem gv_bd (hm : mRel s B S G Q) (htw : tw < 4) : ∀ d gone, d ≤ B → 0 ≤ gvR B S G tw d gone ∧ gvR B S G tw d gone ≤ 1000 * (d : Int) := by
  have hB := hm.1.2.2
  have hS := hm.2.1.2.2
  intro d
  induction d with
  | zero => intro gone _; simp [gvR]
  | succ d ih =>
    intro gone hd
    have h0 := ih gone (by omega)
    have hup := gvR_up (B := B) (S := S) (G := G) (tw := tw) (d := d) (gone := gone)
    refine ⟨by omega, ?_⟩
    rcases mx_is (ok := thO S tw gone) (val := fun j => G (B - (d + 1)) (thS tw j) + gvR B S G tw d (gone ||| 2 ^ j)) 5 0 (gvR B S G tw d gone) with h | ⟨j, h1, h2, h3, h4⟩
    · rw [gvR, h]; omega
    · have h5 := (th_s htw h3).1
      have h6 := hm.2.2.1 (B - (d + 1)) (thS tw j) (by omega) (by omega)
      have h7 := ih (gone ||| 2 ^ j) (by omega)
      rw [gvR, h4]
      try dsimp only
      omega
/-- the rows from b0 on tell what the buyers from there on have at most -/
def rwE (s : zS) (B S : Nat) (G : Nat → Nat → Int) (tw : Int) (b0 : Nat) : Prop := ∀ b, b0 ≤ b → b ≤ B → ∀ gone, gone < 32 → s.1 (61 + b) gone = n32 (gvR B S G tw (B - b) gone)
/-- only rows of rests are written -/
def rFrm (s s' : zS) : Prop := (∀ c k, ¬ (61 ≤ c ∧ c ≤ 65) → s'.1 c k = s.1 c k) ∧ s'.2 = s.2
theorem rFrm_r (s : zS) : rFrm s s := ⟨fun _ _ _ => rfl, rfl⟩
theorem rFrm_t {s s' s'' : zS} (h : rFrm s s') (h' : rFrm s' s'') : rFrm s s'' := ⟨fun c k a => (h'.1 c k a).trans (h.1 c k a), h'.2.trans h.2⟩
theorem rFrm_w {s : zS} {b k : Nat} {x : Int32} (hb : b < 5) : rFrm s (zwI s (61 + b) k x) := ⟨fun c k' a => by rw [zwI_at, if_neg (by omega)], rfl⟩
theorem rFrm_fr {s s' : zS} (h : rFrm s s') (P : Nat → Prop) : fr P s s' := ⟨fun c k a _ => h.1 c k (fun q => a (by
  have : c = 61 ∨ c = 62 ∨ c = 63 ∨ c = 64 ∨ c = 65 := by omega
  rcases this with rfl | rfl | rfl | rfl | rfl <;> rfl)), fun c k _ _ => by rw [h.2]⟩
theorem mRel_r {s s' : zS} (hm : mRel s B S G Q) (h : rFrm s s') : mRel s' B S G Q := mRel_f hm (rFrm_fr h (fun _ => False)) (fun q => q)
theorem or_32 {g j : Nat} (hg : g < 32) (hj : j < 5) : g ||| 2 ^ j < 32 := by
  have h2 : 2 ^ j < 2 ^ 5 := Nat.pow_lt_pow_right (by omega) hj
  exact Nat.or_lt_two_pow (n := 5) hg h2
theorem c_from (hm : mRel s B S G Q) (h1 : -1 ≤ tw) (h2 : tw < 4) {b gone : Nat} (hb : b < B) (hg : gone < 32) (hr : rwE s B S G tw (b + 1)) : D_X4_bestFrom s (n32 (b : Int)) (n32 (gone : Int)) (n32 tw) = some (n32 (gvR B S G tw (B - b) gone)) := by
  have hB := hm.1.2.2
  have hS := hm.2.1.2.2
  have hd : B - b = (B - (b + 1)) + 1 := by omega
  have hbd : B - (B - (b + 1) + 1) = b := by omega
  have r0 := hr (b + 1) (Nat.le_refl _) (by omega) gone hg
  have bd0 := gv_bd hm h2 (B - (b + 1)) gone (by omega)
  have h := zfoldP (lo := 0) (hi := 5) (step := mxF (thO S tw gone) (fun j => G b (thS tw j) + gvR B S G tw (B - (b + 1)) (gone ||| 2 ^ j))) (fin := fun t : Int => some (n32 t)) (fun _ t => 0 ≤ t ∧ t ≤ 4000) (fun f j t => D_X4_bestFrom_L15 s (n32 (b : Int)) (n32 (gone : Int)) (n32 tw) f (n32 t) (n32 (j : Int))) (fun f j t _ hj hP => ?_) (fun f t _ => ?_) 5 zFU 0 (gvR B S G tw (B - (b + 1)) gone) (by omega) (by omega) (zFU_lt (by omega)) ⟨by omega, by omega⟩
  · unfold D_X4_bestFrom
    rw [nsuc, zgd_t (czin (by omega) (by omega)), zT60 (b + 1) (by omega), zgd_t (zoI61 (b + 1) (by omega) gone hg), n32_xn (by omega), r0, hd, gvR, hbd]
    exact h.2
  · have hstep : thO S tw gone j = true → 0 ≤ G b (thS tw j) + gvR B S G tw (B - (b + 1)) (gone ||| 2 ^ j) ∧ G b (thS tw j) + gvR B S G tw (B - (b + 1)) (gone ||| 2 ^ j) ≤ 4000 := fun q => by
      have q1 := (th_s h2 q).1
      have q2 := hm.2.2.1 b (thS tw j) (by omega) (by omega)
      have q3 := gv_bd hm h2 (B - (b + 1)) (gone ||| 2 ^ j) (by omega)
      omega
    refine ⟨by
      unfold mxF
      by_cases q : thO S tw gone j = true
      · have := hstep q
        rw [if_pos q]
        split <;> omega
      · rw [if_neg q]; exact hP, ?_⟩
    try dsimp only
    rw [D_X4_bestFrom_L15_s]
    unfold D_X4_bestFrom_B15 D_X4_sellerOfThing mxF
    have hsel : (if (4 : Int32) ≤ n32 (j : Int) then some (n32 tw) else some (n32 (j : Int))) = some (n32 (if j < 4 then (j : Int) else tw)) := by
      by_cases q : j < 4
      · rw [if_neg (by rw [l32_4, n32_le (by omega) (by omega) (by omega) (by omega)]; omega), if_pos q]
      · rw [if_pos (by rw [l32_4, n32_le (by omega) (by omega) (by omega) (by omega)]; omega), if_neg q]
    rw [l32_5, zif_f (by rw [n32_le (by omega) (by omega) (by omega) (by omega)]; omega), hsel, zbs, seller8 hm (by split <;> omega) (by split <;> omega), x8_hasL gone (by omega) j (by omega), nsuc]
    have hok : thO S tw gone j = (decide (0 ≤ (if j < 4 then (j : Int) else tw) ∧ (if j < 4 then (j : Int) else tw) < (S : Int)) && !gone.testBit j) := by
      unfold thO
      congr 1
      by_cases q : j < 4
      · rw [if_pos q, if_pos q]
        by_cases q2 : j < S
        · rw [decide_eq_true q2, decide_eq_true (by omega)]
        · rw [decide_eq_false q2, decide_eq_false (by omega)]
      · rw [if_neg q, if_neg q]
    by_cases e : 0 ≤ (if j < 4 then (j : Int) else tw) ∧ (if j < 4 then (j : Int) else tw) < (S : Int)
    · rw [if_pos e, zbs, zi1, in_ite]
      by_cases e2 : gone.testBit j = true
      · rw [if_pos e2, zi1, hok, e2, Bool.not_true, Bool.and_false]; rfl
      · have e3 : thO S tw gone j = true := by
          rw [hok, decide_eq_true e, show gone.testBit j = false by simpa using e2]; rfl
        have q1 := (th_s h2 e3).1
        have q2 := hm.2.2.1 b (thS tw j) (by omega) (by omega)
        have q3 := gv_bd hm h2 (B - (b + 1)) (gone ||| 2 ^ j) (by omega)
        have hth : (if j < 4 then (j : Int) else tw) = (thS tw j : Int) := by
          unfold thS
          by_cases q : j < 4
          · rw [if_pos q, if_pos q]
          · rw [if_neg q] at e ⊢
            rw [if_neg q]
            omega
        have hor := or_32 hg hj
        rw [if_neg e2, zi0, hth, zgd_t (czin (by omega) (by omega)), zT54 b (by omega), zgd_t (zoI55 b (by omega) _ (by omega)), nsuc, zgd_t (czin (by omega) (by omega)), zT60 (b + 1) (by omega), shlL j (by omega), n32_or, zgd_t (zoI61 (b + 1) (by omega) _ hor), n32_xn (by omega), n32_xn (by omega), q2.1, hr (b + 1) (Nat.le_refl _) (by omega) _ hor, n32_add, zmax_n (by omega) (by omega), e3]
        rfl
    · rw [if_neg e, zbs, zi0, hok, decide_eq_false e, Bool.false_and]; rfl
  · try dsimp only
    rw [D_X4_bestFrom_L15_s]
    unfold D_X4_bestFrom_B15
    rw [zif_t (by decide)]
theorem c_fr39 (h1 : -1 ≤ tw) (h2 : tw < 4) {b : Nat} {rec33 : Int32 → zS → Option zS} : ∀ (d f g : Nat) (s : zS), g + d = 32 → d < f → mRel s B S G Q → b < B → rwE s B S G tw (b + 1) → (∀ g', g' < g → s.1 (61 + b) g' = n32 (gvR B S G tw (B - b) g')) →
    ∃ s', D_X4_findRests_L39 rec33 (n32 tw) (n32 (b : Int)) f (n32 (g : Int)) s = rec33 (n32 ((b : Int) - 1)) s' ∧ rFrm s s' ∧ rwE s' B S G tw b := by
  intro d
  induction d with
  | zero =>
    intro f g s hg hf hm hb hr hp
    obtain ⟨f, rfl⟩ : ∃ t, f = t + 1 := ⟨f - 1, by omega⟩
    obtain rfl : g = 32 := by omega
    refine ⟨s, ?_, rFrm_r s, fun b' l1 l2 gone hgone => ?_⟩
    · rw [D_X4_findRests_L39_s]
      unfold D_X4_findRests_B39
      rw [zif_t (by decide), l32_1, n32_neg, n32_add]; rfl
    · by_cases e : b' = b
      · rw [e]; exact hp gone hgone
      · exact hr b' (by omega) l2 gone hgone
  | succ d ih =>
    intro f g s hg hf hm hb hr hp
    obtain ⟨f, rfl⟩ : ∃ t, f = t + 1 := ⟨f - 1, by omega⟩
    have hB := hm.1.2.2
    rw [D_X4_findRests_L39_s]
    unfold D_X4_findRests_B39
    rw [l32_32, zif_f (by rw [n32_le (by omega) (by omega) (by omega) (by omega)]; omega), zgd_t (czin (by omega) (by omega)), c_from hm h1 h2 hb (by omega) hr, zbs, zT60 b (by omega), zgd_t (zoI61 b (by omega) g (by omega)), n32_xn (by omega), nsuc]
    dsimp only
    have fw := rFrm_w (s := s) (k := g) (x := n32 (gvR B S G tw (B - b) g)) (show b < 5 by omega)
    obtain ⟨s', e1, f1, g1⟩ := ih f (g + 1) (zwI s (61 + b) g (n32 (gvR B S G tw (B - b) g))) (by omega) (by omega) (mRel_r hm fw) hb (fun b' l1 l2 gone hgone => by
      rw [zwI_at, if_neg (by omega)]; exact hr b' l1 l2 gone hgone) (fun g' hg' => by
      rw [zwI_at]
      by_cases e : g' = g
      · rw [if_pos ⟨rfl, e⟩, e]
      · rw [if_neg (fun q => e q.2)]; exact hp g' (by omega))
    exact ⟨s', e1, rFrm_t fw f1, g1⟩
theorem c_fr33 (h1 : -1 ≤ tw) (h2 : tw < 4) : ∀ (k f : Nat) (s : zS), k ≤ B → k < f → mRel s B S G Q → rwE s B S G tw k → ∃ s', D_X4_findRests_L33 (n32 tw) f (n32 ((k : Int) - 1)) s = some s' ∧ rFrm s s' ∧ rwE s' B S G tw 0 := by
  intro k
  induction k with
  | zero =>
    intro f s hk hf hm hr
    obtain ⟨f, rfl⟩ : ∃ t, f = t + 1 := ⟨f - 1, by omega⟩
    refine ⟨s, ?_, rFrm_r s, hr⟩
    rw [D_X4_findRests_L33_s]
    unfold D_X4_findRests_B33
    rw [zif_t (by decide)]
  | succ k ih =>
    intro f s hk hf hm hr
    obtain ⟨f, rfl⟩ : ∃ t, f = t + 1 := ⟨f - 1, by omega⟩
    have hB := hm.1.2.2
    rw [D_X4_findRests_L33_s]
    unfold D_X4_findRests_B33
    rw [show n32 (((k + 1 : Nat) : Int) - 1) = n32 (k : Int) by congr 1; omega, zif_f (by rw [l32_0, n32_lt (by omega) (by omega) (by omega) (by omega)]; omega)]
    obtain ⟨s1, e1, f1, g1⟩ := c_fr39 (rec33 := D_X4_findRests_L33 (n32 tw) f) h1 h2 32 zFU 0 s (by omega) (zFU_lt (by omega)) hm (show k < B by omega) hr (fun g' h => by omega)
    obtain ⟨s2, e2, f2, g2⟩ := ih f s1 (by omega) (by omega) (mRel_r hm f1) g1
    have e1' : D_X4_findRests_L39 (D_X4_findRests_L33 (n32 tw) f) (n32 tw) (n32 (k : Int)) zFU 0 s = _ := e1
    exact ⟨s2, e1'.trans e2, rFrm_t f1 f2, g2⟩
theorem c_fr2 (h1 : -1 ≤ tw) (h2 : tw < 4) : ∀ (d f g : Nat) (s : zS), g + d = 32 → d < f → mRel s B S G Q → (∀ g', g' < g → s.1 (61 + B) g' = 0) →
    ∃ s', D_X4_findRests_L2 (n32 tw) f (n32 (g : Int)) s = some s' ∧ rFrm s s' ∧ rwE s' B S G tw 0 := by
  intro d
  induction d with
  | zero =>
    intro f g s hg hf hm hp
    obtain ⟨f, rfl⟩ : ∃ t, f = t + 1 := ⟨f - 1, by omega⟩
    obtain rfl : g = 32 := by omega
    have hB := hm.1.2.2
    obtain ⟨s', e1, f1, g1⟩ := c_fr33 h1 h2 B zFU s (Nat.le_refl _) (zFU_lt (by omega)) hm (fun b l1 l2 gone hgone => by
      obtain rfl : b = B := by omega
      rw [hp gone hgone, Nat.sub_self]; rfl)
    refine ⟨s', ?_, f1, g1⟩
    rw [D_X4_findRests_L2_s]
    unfold D_X4_findRests_B2
    rw [zif_t (by decide), hm.1.1, l32_1, n32_sub]
    exact e1
  | succ d ih =>
    intro f g s hg hf hm hp
    obtain ⟨f, rfl⟩ : ∃ t, f = t + 1 := ⟨f - 1, by omega⟩
    have hB := hm.1.2.2
    rw [D_X4_findRests_L2_s]
    unfold D_X4_findRests_B2
    rw [l32_32, zif_f (by rw [n32_le (by omega) (by omega) (by omega) (by omega)]; omega), hm.1.1, zgd_t (czin (by omega) (by omega)), zT60 B (by omega), zgd_t (zoI61 B (by omega) g (by omega)), n32_xn (by omega), nsuc]
    dsimp only
    have fw := rFrm_w (s := s) (k := g) (x := 0) (show B < 5 by omega)
    obtain ⟨s', e1, f1, g1⟩ := ih f (g + 1) (zwI s (61 + B) g 0) (by omega) (by omega) (mRel_r hm fw) (fun g' hg' => by
      rw [zwI_at]
      by_cases e : g' = g
      · rw [if_pos ⟨rfl, e⟩]
      · rw [if_neg (fun q => e q.2)]; exact hp g' (by omega))
    exact ⟨s', e1, rFrm_t fw f1, g1⟩
theorem c_rests (hm : mRel s B S G Q) (h1 : -1 ≤ tw) (h2 : tw < 4) : ∃ s', D_X4_findRests s (n32 tw) = some s' ∧ rFrm s s' ∧ rwE s' B S G tw 0 := c_fr2 h1 h2 32 zFU 0 s (by omega) (zFU_lt (by omega)) hm (fun g' h => by omega)
theorem n32_m1 : n32 (-1) = (-1 : Int32) := by decide
theorem c_most (hm : mRel s B S G Q) : ∃ s', D_X4_greatestSum s = some (n32 (gvR B S G (-1) B 0), s') ∧ rFrm s s' ∧ rwE s' B S G (-1) 0 := by
  obtain ⟨s', e1, f1, g1⟩ := c_rests hm (tw := -1) (by omega) (by omega)
  refine ⟨s', ?_, f1, g1⟩
  rw [n32_m1] at e1
  unfold D_X4_greatestSum
  have z0 : zT 60 (0 : Int32) = 61 := by decide
  rw [e1, zbs, zgd_t (by decide), z0, zgd_t (by decide)]
  have := g1 0 (Nat.le_refl _) (Nat.zero_le _) 0 (by omega)
  have h0 : (0 : Int32).toNatClampNeg = 0 := by decide
  rw [h0, this]
  rfl
theorem c_cheap (hm : mRel s B S G Q) {i : Nat} (hi : i < S) : ∃ s', D_X4_cheapPrice s (n32 (i : Int)) = some (n32 (gvR B S G (i : Int) B 0 - gvR B S G (-1) B 0), s') ∧ rFrm s s' := by
  have hS := hm.2.1.2.2
  obtain ⟨s1, e1, f1, -⟩ := c_most hm
  obtain ⟨s2, e2, f2, g2⟩ := c_rests (mRel_r hm f1) (tw := (i : Int)) (by omega) (by omega)
  refine ⟨s2, ?_, rFrm_t f1 f2⟩
  unfold D_X4_cheapPrice
  have z0 : zT 60 (0 : Int32) = 61 := by decide
  have := g2 0 (Nat.le_refl _) (Nat.zero_le _) 0 (by omega)
  have h0 : (0 : Int32).toNatClampNeg = 0 := by decide
  rw [e1, zbs, e2, zbs, zgd_t (by decide), z0, zgd_t (by decide), h0, this, n32_sub]
  rfl
theorem c_dear (hm : mRel s B S G Q) {i : Nat} (hi : i < S) : ∃ s', D_X4_dearPrice s (n32 (i : Int)) = some (n32 (gvR B S G (-1) B 0 - gvR B S G (-1) B (2 ^ i)), s') ∧ rFrm s s' := by
  have hS := hm.2.1.2.2
  obtain ⟨s1, e1, f1, g1⟩ := c_most hm
  refine ⟨s1, ?_, f1⟩
  have h2i : 2 ^ i < 32 := by
    have := Nat.pow_lt_pow_right (a := 2) (by omega) (show i < 5 by omega)
    omega
  unfold D_X4_dearPrice
  have z0 : zT 60 (0 : Int32) = 61 := by decide
  have hz := zoI61 0 (by omega) (2 ^ i) h2i
  have := g1 0 (Nat.le_refl _) (Nat.zero_le _) (2 ^ i) h2i
  rw [e1, zbs, zgd_t (by decide), z0, shlL i (by omega), zgd_t hz, n32_xn (by omega)]
  dsimp only
  rw [this, n32_sub]
  rfl
end RS
