/-! the market: most, and the calls price and clear -/
theorem Rel_0 {s s' : zS} (h : Rel s) (ff : fr (fun _ => False) s s') : Rel s' := by
  obtain ⟨⟨n, v, hw, hk⟩, ⟨g, hg⟩, ⟨m, W, q, hv⟩, ⟨mc, C, E, hc⟩, ⟨p, h', c, w, u, at', y, ht⟩, ⟨B, S, G, Q, hm⟩, hf⟩ := h
  exact ⟨⟨n, v, wRel_f hw ff (fun q => q), calmK_fr hk hw.1.2.2.1 ff (fun q => q)⟩, ⟨g, gRel_f hg ff (fun q => q)⟩, ⟨m, W, q, vRel_f hv ff (fun q => q)⟩, ⟨mc, C, E, cRel_f hc ff (fun q => q)⟩, ⟨p, h', c, w, u, at', y, tRel_f ht ff (fun q => q)⟩, ⟨B, S, G, Q, mRel_f hm ff (fun q => q)⟩, frEq_fr hf ff (fun q => q)⟩
theorem zwI_zwI {s : zS} {c k : Nat} {x y : Int32} : zwI (zwI s c k x) c k y = zwI s c k y := by
  refine Prod.ext ?_ rfl
  funext a j
  rw [zwI_at, zwI_at]
  by_cases e : a = c ∧ j = k
  · rw [if_pos e, zwI_at, if_pos e]
  · rw [if_neg e, if_neg e, zwI_at, if_neg e]
theorem zwI_self {s : zS} {c k : Nat} : zwI s c k (s.1 c k) = s := by
  refine Prod.ext ?_ rfl
  funext a j
  rw [zwI_at]
  by_cases e : a = c ∧ j = k
  · rw [if_pos e, e.1, e.2]
  · rw [if_neg e]
section MO
variable {s : zS} {B S : Nat} {G : Nat → Nat → Int} {Q : Nat → Int} {tw sl mo : Int} {gone : Nat}
def cdO (B S : Nat) (tw : Int) (gone c : Nat) : Prop := gvP B S tw gone (dec5 B c) B
def cdV (B : Nat) (G : Nat → Nat → Int) (c : Nat) : Int := gvW B G (dec5 B c) B
/-- the first best code up to a code -/
def cdB (B S : Nat) (G : Nat → Nat → Int) (tw : Int) (gone c : Nat) (t : Int × Int32) : Prop := (t.1 = -1 ∧ ∀ c', c' < c → ¬ cdO B S tw gone c') ∨ ∃ c0, c0 < c ∧ cdO B S tw gone c0 ∧ cdV B G c0 = t.1 ∧ t.2 = n32 (c0 : Int) ∧ (∀ c', c' < c → cdO B S tw gone c' → cdV B G c' ≤ t.1) ∧ ∀ c', c' < c0 → cdO B S tw gone c' → cdV B G c' < t.1
theorem gvW_bd (hm : mRel s B S G Q) {x : Nat → Nat} (hx : ∀ b, x b < 5) : ∀ d, d ≤ B → 0 ≤ gvW B G x d ∧ gvW B G x d ≤ 1000 * (d : Int) := by
  intro d
  induction d with
  | zero => intro _; simp [gvW]
  | succ d ih =>
    intro hd
    have h1 := ih (by omega)
    have hB := hm.1.2.2
    rw [gvW]
    by_cases e : x (B - (d + 1)) = 0
    · rw [if_pos e]; omega
    · have h2 := hm.2.2.1 (B - (d + 1)) (x (B - (d + 1)) - 1) (by omega) (by have := hx (B - (d + 1)); omega)
      rw [if_neg e]
      omega
theorem mRel_41 (hm : mRel s B S G Q) (g : Int32) : mRel (zwI s 66 41 g) B S G Q := mRel_f hm (fr_wI (P := fun _ => False) s 66 41 g (Or.inl rfl)) (fun q => q)
theorem r_mostOf (hm : mRel s B S G Q) (htw : tw < 4) (hcap : ∀ i, i < S → gvA tw gone i = cpN sl mo i) (hsl : -1 ≤ sl ∧ sl < 4) (hmo : -1 ≤ mo ∧ mo ≤ 1) : ∃ c : Nat, D_X9_mostOf s (n32 sl) (n32 mo) = some (n32 (gvR B S G tw B gone), zwI s 66 41 (n32 (c : Int))) ∧ c < 5 ^ B ∧ cdO B S tw gone c ∧ cdV B G c = gvR B S G tw B gone ∧ ∀ c', c' < c → cdO B S tw gone c' → cdV B G c' < gvR B S G tw B gone := by
  have hB := hm.1.2.2
  have hS := hm.2.1.2.2
  have h5 : 5 ^ B ≤ 625 := Nat.pow_le_pow_right (n := 5) (by omega) hB
  have h51 : 1 ≤ 5 ^ B := Nat.pow_pos (by omega)
  have h8 := zfold (lo := 0) (hi := B) (step := fun _ (t : Int) => t * 5) (fin := fun t : Int => D_X9_mostOf_L32 (n32 sl) (n32 mo) (n32 t) zFU (-1) 0 s) (fun f k t => D_X9_mostOf_L8 s (n32 sl) (n32 mo) (-1) f (n32 t) (n32 (k : Int))) (fun f k t _ hk => by
    try dsimp only
    rw [D_X9_mostOf_L8_s]
    unfold D_X9_mostOf_B8
    rw [hm.1.2.1, zif_f (by rw [c32_le (by omega) (by omega)]; omega), l32_5, n32_mul, nsuc]) (fun f t => by
    try dsimp only
    rw [D_X9_mostOf_L8_s]
    unfold D_X9_mostOf_B8
    rw [hm.1.2.1, zif_t (Int32.le_refl _)]) B zFU 0 1 (by omega) (by omega) (zFU_lt (by omega))
  have hz : ∀ m k (t : Int), zit (fun _ (t : Int) => t * 5) m k t = t * ((5 ^ m : Nat) : Int) := by
    intro m
    induction m with
    | zero => intro k t; rw [zit, Nat.pow_zero]; omega
    | succ m ih =>
      intro k t
      rw [zit, ih, Nat.pow_succ, Int.natCast_mul, Int.mul_assoc, Int.mul_comm 5]; rfl
  rw [hz, Int.one_mul] at h8
  obtain ⟨t', hR, hP, he⟩ := zloop (fun f c (t : Int × Int32) => D_X9_mostOf_L32 (n32 sl) (n32 mo) (n32 ((5 ^ B : Nat) : Int)) f (n32 t.1) (n32 (c : Int)) (zwI s 66 41 t.2)) (5 ^ B) (fun c t => cdB B S G tw gone c t ∧ -1 ≤ t.1 ∧ t.1 ≤ 4000) (fun t => some (n32 t.1, zwI s 66 41 t.2)) (fun t => cdB B S G tw gone (5 ^ B) t) (fun f c t hc ht => by
    obtain ⟨hcb, ht1, ht2⟩ := ht
    have hm' := mRel_41 hm t.2
    have hdec : ∀ b, dec5 B c b < 5 := dec5_lt B c
    obtain ⟨w', sum', r1, r2, r3⟩ := r_m63 hm' hcap hsl hmo (rec32 := D_X9_mostOf_L32 (n32 sl) (n32 mo) (n32 ((5 ^ B : Nat) : Int)) f) (a3 := n32 t.1) (a4 := n32 ((5 ^ B : Nat) : Int)) (a5 := n32 (c : Int)) hdec B zFU 0 0 true 0 (Nat.le_refl _) (zFU_lt (by omega)) (by
      rw [Nat.sub_self]
      refine ⟨by omega, by omega, fun i _ => ⟨?_, ?_⟩, ?_, fun _ => rfl, by omega, by omega⟩
      · rw [Nat.zero_testBit, gvC]; exact ⟨fun q => absurd q (by decide), fun q => by omega⟩
      · rw [Nat.zero_testBit, gvC]; exact ⟨fun q => absurd q (by decide), fun q => by omega⟩
      · exact ⟨fun _ => ⟨fun e he => by omega, fun i _ => Nat.zero_le _⟩, fun _ => rfl⟩)
    rw [enc5_dec hc B (Nat.le_refl _), Nat.sub_self, Nat.pow_zero, Nat.div_one] at r3
    have hstep : D_X9_mostOf_L32 (n32 sl) (n32 mo) (n32 ((5 ^ B : Nat) : Int)) (f + 1) (n32 t.1) (n32 (c : Int)) (zwI s 66 41 t.2) = if w' then (if n32 sum' ≤ n32 t.1 then D_X9_mostOf_L32 (n32 sl) (n32 mo) (n32 ((5 ^ B : Nat) : Int)) f (n32 t.1) (n32 ((c + 1 : Nat) : Int)) (zwI s 66 41 t.2) else D_X9_mostOf_L32 (n32 sl) (n32 mo) (n32 ((5 ^ B : Nat) : Int)) f (n32 sum') (n32 ((c + 1 : Nat) : Int)) (zwI s 66 41 (n32 (c : Int)))) else D_X9_mostOf_L32 (n32 sl) (n32 mo) (n32 ((5 ^ B : Nat) : Int)) f (n32 t.1) (n32 ((c + 1 : Nat) : Int)) (zwI s 66 41 t.2) := by
      rw [D_X9_mostOf_L32_s]
      unfold D_X9_mostOf_B32
      rw [zif_f (by rw [c32_le (by omega) (by omega)]; omega), hm'.1.2.1, l32_1, n32_sub]
      rw [nsuc, zwI_zwI] at r3
      exact r3
    have hval : 0 ≤ cdV B G c ∧ cdV B G c ≤ 4000 := by
      have := gvW_bd hm hdec B (Nat.le_refl _)
      unfold cdV
      omega
    have hskip : (w' = true → ¬ t.1 < cdV B G c) → cdB B S G tw gone (c + 1) t := fun hno => by
      have hle : cdO B S tw gone c → cdV B G c ≤ t.1 := fun q => by have := hno (r1.mpr q); omega
      rcases hcb with ⟨a, b⟩ | ⟨c0, b0, b1, b2, b3, b4, b5⟩
      · left
        refine ⟨a, fun c' hc' q => ?_⟩
        by_cases e : c' = c
        · rw [e] at q
          have := hle q
          omega
        · exact b c' (by omega) q
      · refine Or.inr ⟨c0, by omega, b1, b2, b3, fun c' hc' q => ?_, b5⟩
        by_cases e : c' = c
        · rw [e] at q ⊢; exact hle q
        · exact b4 c' (by omega) q
    try dsimp only
    rw [hstep]
    cases w'
    · rw [if_neg (by decide)]
      exact ⟨t, ⟨hskip (fun q => absurd q (by decide)), ht1, ht2⟩, rfl⟩
    · rw [if_pos rfl, r2 rfl]
      have hcv : gvW B G (dec5 B c) B = cdV B G c := rfl
      rw [hcv]
      by_cases e : t.1 < cdV B G c
      · rw [zif_f (by rw [n32_le (by omega) (by omega) (by omega) (by omega)]; omega)]
        refine ⟨(cdV B G c, n32 (c : Int)), ⟨Or.inr ⟨c, by omega, r1.mp rfl, rfl, rfl, fun c' hc' q => ?_, fun c' hc' q => ?_⟩, by omega, by omega⟩, rfl⟩
        · try dsimp only
          by_cases e2 : c' = c
          · rw [e2]; omega
          · rcases hcb with ⟨a, b⟩ | ⟨c0, b0, b1, b2, b3, b4, b5⟩
            · exact absurd q (b c' (by omega))
            · have := b4 c' (by omega) q; omega
        · try dsimp only
          rcases hcb with ⟨a, b⟩ | ⟨c0, b0, b1, b2, b3, b4, b5⟩
          · exact absurd q (b c' (by omega))
          · have := b4 c' (by omega) q; omega
      · rw [zif_t (by rw [n32_le (by omega) (by omega) (by omega) (by omega)]; omega)]
        exact ⟨t, ⟨hskip (fun _ => e), ht1, ht2⟩, rfl⟩) (fun f t ht => by
    refine ⟨ht.1, ?_⟩
    try dsimp only
    rw [D_X9_mostOf_L32_s]
    unfold D_X9_mostOf_B32
    rw [zif_t (Int32.le_refl _)]) (5 ^ B) zFU 0 (-1, s.1 66 41) (by omega) (zFU_lt (by omega)) ⟨Or.inl ⟨rfl, fun c' h => by omega⟩, (show (-1 : Int) ≤ -1 by decide), (show (-1 : Int) ≤ 4000 by decide)⟩
  have hok0 : cdO B S tw gone 0 := by
    have hd0 : ∀ b, dec5 B 0 b = 0 := fun b => by unfold dec5; rw [Nat.zero_div]
    have hc0 : ∀ i d, gvC B (dec5 B 0) i d = 0 := by
      intro i d
      induction d with
      | zero => rfl
      | succ d ih => rw [gvC, ih, hd0, if_neg (by omega)]
    exact ⟨fun e _ => by rw [hd0]; exact Nat.zero_le _, fun i _ => by rw [hc0]; exact Nat.zero_le _⟩
  rcases hR with ⟨a, b⟩ | ⟨c, b0, b1, b2, b3, b4, b5⟩
  · exact absurd hok0 (b 0 (by omega))
  · have hM : t'.1 = gvR B S G tw B gone := by
      refine Int.le_antisymm ?_ ?_
      · rw [← b2]
        exact gv_le hS B gone b1
      · obtain ⟨x, x1, x2⟩ := gv_ex (B := B) (G := G) hS htw B gone (Nat.le_refl _)
        have hx5 : ∀ b, b < B → x b < 5 := fun b hb => by
          have := x1.1 (B - 1 - b) (by omega)
          rw [show B - (B - 1 - b + 1) = b by omega] at this
          omega
        have hde := dec5_enc hx5
        have hcg : ∀ e, e < B → x (B - (e + 1)) = dec5 B (enc5 x B) (B - (e + 1)) := fun e he => (hde _ (by omega)).symm
        have h1 : cdO B S tw gone (enc5 x B) := gvP_congr B hcg x1
        have h2 : cdV B G (enc5 x B) = gvR B S G tw B gone := by
          unfold cdV
          rw [← gvW_congr (x := x) B hcg, x2]
        rw [← h2]
        exact b4 _ (enc5_lt B hx5) h1
    refine ⟨c, ?_, b0, b1, by rw [b2, hM], fun c' h q => by rw [← hM]; exact b5 c' h q⟩
    have h8' : D_X9_mostOf s (n32 sl) (n32 mo) = _ := h8
    have he' : D_X9_mostOf_L32 (n32 sl) (n32 mo) (n32 ((5 ^ B : Nat) : Int)) zFU (-1) 0 (zwI s 66 41 (s.1 66 41)) = _ := he
    rw [zwI_self] at he'
    rw [h8', he', hM, b3]
theorem cap_0 : ∀ i, i < S → gvA (-1) 0 i = cpN (-1) 0 i := fun i _ => by
  unfold gvA cpN
  rw [Nat.zero_testBit, if_neg (by decide), if_neg (by omega), if_neg (by omega), if_neg (by omega)]
theorem cap_c {j : Nat} : ∀ i, i < S → gvA (j : Int) 0 i = cpN (j : Int) 1 i := fun i _ => by
  unfold gvA cpN
  simp only [Nat.zero_testBit]
  rw [if_neg (show ¬ false = true by decide), if_neg (show ¬ ((j : Int) = (i : Int) ∧ (1 : Int) = -1) by omega)]
  by_cases e : (j : Int) = (i : Int)
  · simp [e]
  · simp [e]
theorem cap_d {j : Nat} : ∀ i, i < S → gvA (-1) (2 ^ j) i = cpN (j : Int) (-1) i := fun i _ => by
  unfold gvA cpN
  rw [Nat.testBit_two_pow, if_neg (show ¬ ((-1 : Int) = (i : Int) ∧ Nat.testBit (2 ^ j) 4 = false) from fun q => by have := q.1; omega), Nat.add_zero]
  by_cases e : j = i
  · rw [decide_eq_true e, if_pos rfl, if_pos ⟨by omega, rfl⟩]
  · rw [decide_eq_false e, if_neg (by decide), if_neg (show ¬ ((j : Int) = (i : Int) ∧ (-1 : Int) = -1) by omega), if_neg (show ¬ ((j : Int) = (i : Int) ∧ (-1 : Int) = 1) by omega)]
theorem r_most0 (hm : mRel s B S G Q) : ∃ c : Nat, D_X9_mostOf s (-1) 0 = some (n32 (gvR B S G (-1) B 0), zwI s 66 41 (n32 (c : Int))) ∧ c < 5 ^ B ∧ cdO B S (-1) 0 c ∧ cdV B G c = gvR B S G (-1) B 0 ∧ ∀ c', c' < c → cdO B S (-1) 0 c' → cdV B G c' < gvR B S G (-1) B 0 := by
  have h := r_mostOf hm (tw := -1) (sl := -1) (mo := 0) (gone := 0) (by omega) cap_0 (by omega) (by omega)
  rw [n32_m1] at h
  exact h
theorem call_price (h : Rel s) (hm : mRel s B S G Q) (a b : Int32) : cOk s (fun s => D_X8_price s a b) (fun s => D_X9_price s a b) := by
  obtain ⟨k, rfl, h1, h2⟩ := i32_of a
  obtain ⟨x, rfl, h3, h4⟩ := i32_of b
  have hS := hm.2.1.2.2
  have i9 : D_X9_in (n32 x).toInt64 0 1 = if 0 ≤ x ∧ x ≤ 1 then some 1 else some 0 := in9L (lo := 0) (hi := 1) h3 h4 (by omega) (by omega) (by omega) (by omega)
  by_cases e : 0 ≤ k ∧ k < (S : Int)
  · by_cases e2 : 0 ≤ x ∧ x ≤ 1
    · obtain ⟨i, rfl⟩ : ∃ t : Nat, k = (t : Int) := ⟨k.toNat, by omega⟩
      have hi : i < S := by omega
      by_cases ex : x = 0
      · obtain ⟨s1, e1, f1⟩ := c_cheap hm hi
        have hm1 := mRel_r hm f1
        obtain ⟨c, r1, -⟩ := r_most0 hm1
        obtain ⟨c', r2, -⟩ := r_mostOf (mRel_41 hm1 (n32 (c : Int))) (tw := (i : Int)) (sl := (i : Int)) (mo := 1) (gone := 0) (by omega) cap_c (by omega) (by omega)
        refine ⟨n32 (gvR B S G (i : Int) B 0 - gvR B S G (-1) B 0), s1, zwI (zwI s1 66 41 (n32 (c : Int))) 66 41 (n32 (c' : Int)), ?_, ?_, Rel_0 h (fr_t (rFrm_fr f1 _) (fr_t (fr_wI s1 66 41 (n32 (c : Int)) (Or.inl rfl)) (fr_wI _ 66 41 (n32 (c' : Int)) (Or.inl rfl))))⟩
        · try dsimp only
          unfold D_X8_price
          rw [seller8 hm h1 h2, if_pos e, zbs, zi1, share8 h3 h4, if_pos e2, zbs, zi1, zif_t (by rw [ex]; rfl), e1, zbs]
        · try dsimp only
          have r2' : D_X9_mostOf (zwI s1 66 41 (n32 (c : Int))) (n32 (i : Int)) 1 = _ := r2
          unfold D_X9_price
          rw [seller9 hm1 h1 h2, if_pos e, zbs, zi1, i9, if_pos e2, zbs, zi1, r1, zbs, zif_t (by rw [ex]; rfl), r2', zbs, n32_sub]
      · obtain ⟨s1, e1, f1⟩ := c_dear hm hi
        have hm1 := mRel_r hm f1
        obtain ⟨c, r1, -⟩ := r_most0 hm1
        obtain ⟨c', r2, -⟩ := r_mostOf (mRel_41 hm1 (n32 (c : Int))) (tw := -1) (sl := (i : Int)) (mo := -1) (gone := 2 ^ i) (by omega) cap_d (by omega) (by omega)
        have hx0 : ¬ n32 x = 0 := fun q => ex (by rw [l32_0] at q; exact (n32_eq (by omega) (by omega) (by omega) (by omega)).mp q)
        refine ⟨n32 (gvR B S G (-1) B 0 - gvR B S G (-1) B (2 ^ i)), s1, zwI (zwI s1 66 41 (n32 (c : Int))) 66 41 (n32 (c' : Int)), ?_, ?_, Rel_0 h (fr_t (rFrm_fr f1 _) (fr_t (fr_wI s1 66 41 (n32 (c : Int)) (Or.inl rfl)) (fr_wI _ 66 41 (n32 (c' : Int)) (Or.inl rfl))))⟩
        · try dsimp only
          unfold D_X8_price
          rw [seller8 hm h1 h2, if_pos e, zbs, zi1, share8 h3 h4, if_pos e2, zbs, zi1, zif_f hx0, e1, zbs]
        · try dsimp only
          rw [n32_m1] at r2
          unfold D_X9_price
          rw [seller9 hm1 h1 h2, if_pos e, zbs, zi1, i9, if_pos e2, zbs, zi1, r1, zbs, zif_f hx0, r2, zbs, n32_sub]
    · refine cOk_same h (r := -2) ?_ ?_
      · try dsimp only
        unfold D_X8_price
        rw [seller8 hm h1 h2, if_pos e, zbs, zi1, share8 h3 h4, if_neg e2, zbs, zi0]
      · try dsimp only
        unfold D_X9_price
        rw [seller9 hm h1 h2, if_pos e, zbs, zi1, i9, if_neg e2, zbs, zi0]
  · refine cOk_same h (r := -2) ?_ ?_
    · try dsimp only
      unfold D_X8_price
      rw [seller8 hm h1 h2, if_neg e, zbs, zi0]
    · try dsimp only
      unfold D_X9_price
      rw [seller9 hm h1 h2, if_neg e, zbs, zi0]
/-- what a buyer has at most less the price -/
def lpF (G : Nat → Nat → Int) (Q : Nat → Int) (b i : Nat) (t : Int) : Int := if t < G b i - Q i then G b i - Q i else t
theorem lp_bd (hm : mRel s B S G Q) {b : Nat} (hb : b < B) : ∀ m : Nat, m ≤ S → 0 ≤ zit (lpF G Q b) m 0 0 ∧ zit (lpF G Q b) m 0 0 ≤ 1000 := by
  have hB := hm.1.2.2
  have hS := hm.2.1.2.2
  intro m
  induction m with
  | zero => intro _; simp [zit]
  | succ m ih =>
    intro hmm
    have h1 := ih (by omega)
    have h2 := hm.2.2.1 b m (by omega) (by omega)
    have h3 := hm.2.2.2 m (by omega)
    rw [zit_last, Nat.zero_add]
    generalize zit (lpF G Q b) m 0 0 = z at h1 ⊢
    unfold lpF
    split <;> omega
theorem c_less (hm : mRel s B S G Q) {b : Nat} (hb : b < B) : D_X4_greatestLessPrice s (n32 (b : Int)) = some (n32 (zit (lpF G Q b) S 0 0)) := by
  have hB := hm.1.2.2
  have hS := hm.2.1.2.2
  have h := zfoldP (lo := 0) (hi := S) (step := lpF G Q b) (fin := fun t : Int => some (n32 t)) (fun _ t => 0 ≤ t ∧ t ≤ 1000) (fun f i t => D_X4_greatestLessPrice_L4 s (n32 (b : Int)) f (n32 t) (n32 (i : Int))) (fun f i t _ hi hP => by
    have h2 := hm.2.2.1 b i (by omega) (by omega)
    have h3 := hm.2.2.2 i (by omega)
    refine ⟨by unfold lpF; split <;> omega, ?_⟩
    try dsimp only
    rw [D_X4_greatestLessPrice_L4_s]
    unfold D_X4_greatestLessPrice_B4 lpF
    rw [hm.2.1.1, zif_f (by rw [c32_le (by omega) (by omega)]; omega), zgd_t (czin (by omega) (by omega)), zT54 b (by omega), zgd_t (zoI55 b (by omega) i (by omega)), zgd_t (czin (by omega) (by omega)), n32_xn (by omega), h2.1, h3.1, n32_sub, zmax_n (by omega) (by omega), nsuc]) (fun f t _ => by
    try dsimp only
    rw [D_X4_greatestLessPrice_L4_s]
    unfold D_X4_greatestLessPrice_B4
    rw [hm.2.1.1, zif_t (Int32.le_refl _)]) S zFU 0 0 (by omega) (by omega) (zFU_lt (by omega)) ⟨by omega, by omega⟩
  exact h.2
theorem call_clear (h : Rel s) (hm : mRel s B S G Q) : cOk s D_X8_clear D_X9_clear := by
  have hB := hm.1.2.2
  have hS := hm.2.1.2.2
  obtain ⟨s1, e1, f1, -⟩ := c_most hm
  have hm1 := mRel_r hm f1
  obtain ⟨c, r1, -⟩ := r_most0 hm1
  have c4 := zfold (lo := 0) (hi := S) (step := fun i (t : Int) => t + Q i) (fin := fun t : Int => D_X4_pricesFit_L29 s zFU (n32 t) 0) (fun f i t => D_X4_pricesFit_L4 s f (n32 t) (n32 (i : Int))) (fun f i t _ hi => by
    try dsimp only
    rw [D_X4_pricesFit_L4_s]
    unfold D_X4_pricesFit_B4
    rw [hm.2.1.1, zif_f (by rw [c32_le (by omega) (by omega)]; omega), zgd_t (czin (by omega) (by omega)), n32_xn (by omega), (hm.2.2.2 i (by omega)).1, n32_add, nsuc]) (fun f t => by
    try dsimp only
    rw [D_X4_pricesFit_L4_s]
    unfold D_X4_pricesFit_B4
    rw [hm.2.1.1, zif_t (Int32.le_refl _)]) S zFU 0 0 (by omega) (by omega) (zFU_lt (by omega))
  have c29 := fun t0 : Int => zfold (lo := 0) (hi := B) (step := fun b (t : Int) => t + zit (lpF G Q b) S 0 0) (fin := fun t : Int => if n32 t = n32 (gvR B S G (-1) B 0) then some (1, s1) else some (0, s1)) (fun f b t => D_X4_pricesFit_L29 s f (n32 t) (n32 (b : Int))) (fun f b t _ hb => by
    try dsimp only
    rw [D_X4_pricesFit_L29_s]
    unfold D_X4_pricesFit_B29
    rw [hm.1.1, zif_f (by rw [c32_le (by omega) (by omega)]; omega), c_less hm hb, zbs, n32_add, nsuc]) (fun f t => by
    try dsimp only
    rw [D_X4_pricesFit_L29_s]
    unfold D_X4_pricesFit_B29
    rw [hm.1.1, zif_t (Int32.le_refl _), e1, zbs]) B zFU 0 t0 (by omega) (by omega) (zFU_lt (by omega))
  have r4 := zfold (lo := 0) (hi := S) (step := fun i (t : Int) => t + Q i) (fin := fun t : Int => D_X9_clear_L29 s1 zFU (n32 t) 0) (fun f i t => D_X9_clear_L4 s1 f (n32 t) (n32 (i : Int))) (fun f i t _ hi => by
    try dsimp only
    rw [D_X9_clear_L4_s]
    unfold D_X9_clear_B4
    rw [hm1.2.1.2.1, zif_f (by rw [c32_le (by omega) (by omega)]; omega), zgd_t (czin (by omega) (by omega)), n32_xn (by omega), (hm1.2.2.2 i (by omega)).2.1, n32_add, nsuc]) (fun f t => by
    try dsimp only
    rw [D_X9_clear_L4_s]
    unfold D_X9_clear_B4
    rw [hm1.2.1.2.1, zif_t (Int32.le_refl _)]) S zFU 0 0 (by omega) (by omega) (zFU_lt (by omega))
  have r29 := fun t0 : Int => zfold (lo := 0) (hi := B) (step := fun b (t : Int) => t + zit (lpF G Q b) S 0 0) (fin := fun t : Int => if n32 t = n32 (gvR B S G (-1) B 0) then some (1, zwI s1 66 41 (n32 (c : Int))) else some (0, zwI s1 66 41 (n32 (c : Int)))) (fun f b t => D_X9_clear_L29 s1 f (n32 t) (n32 (b : Int))) (fun f b t _ hb => by
    try dsimp only
    rw [D_X9_clear_L29_s]
    unfold D_X9_clear_B29
    rw [hm1.1.2.1, zif_f (by rw [c32_le (by omega) (by omega)]; omega)]
    have h42 := zfoldP (lo := 0) (hi := S) (step := lpF G Q b) (fin := fun x : Int => D_X9_clear_L29 s1 f (n32 (t + x)) (n32 ((b + 1 : Nat) : Int))) (fun _ x => 0 ≤ x ∧ x ≤ 1000) (fun g i x => D_X9_clear_L42 (D_X9_clear_L29 s1 f) s1 (n32 t) (n32 (b : Int)) g (n32 x) (n32 (i : Int))) (fun g i x _ hi hP => by
      have h2 := hm1.2.2.1 b i (by omega) (by omega)
      have h3 := hm1.2.2.2 i (by omega)
      have hix : (4 : Int32) * n32 (b : Int) + n32 (i : Int) = n32 ((4 * b + i : Nat) : Int) := by rw [l32_4, n32_mul, n32_add]; congr 1
      refine ⟨by unfold lpF; split <;> omega, ?_⟩
      try dsimp only
      rw [D_X9_clear_L42_s]
      unfold D_X9_clear_B42 lpF
      rw [hm1.2.1.2.1, zif_f (by rw [c32_le (by omega) (by omega)]; omega), hix, zgd_t (czin (by omega) (by omega)), zgd_t (czin (by omega) (by omega)), n32_xn (by omega), n32_xn (by omega), h2.2.1, h3.2.1, n32_sub, nsuc]
      by_cases e : x < G b i - Q i
      · rw [zif_f (by rw [n32_le (by omega) (by omega) (by omega) (by omega)]; omega), if_pos e]
      · rw [zif_t (by rw [n32_le (by omega) (by omega) (by omega) (by omega)]; omega), if_neg e]) (fun g x _ => by
      try dsimp only
      rw [D_X9_clear_L42_s]
      unfold D_X9_clear_B42
      rw [hm1.2.1.2.1, zif_t (Int32.le_refl _), n32_add, nsuc]) S zFU 0 0 (by omega) (by omega) (zFU_lt (by omega)) ⟨by omega, by omega⟩
    exact h42.2) (fun f t => by
    try dsimp only
    rw [D_X9_clear_L29_s]
    unfold D_X9_clear_B29
    rw [hm1.1.2.1, zif_t (Int32.le_refl _), r1, zbs]) B zFU 0 t0 (by omega) (by omega) (zFU_lt (by omega))
  have c4' : D_X4_pricesFit s = _ := c4
  have c29' : ∀ t0 : Int, D_X4_pricesFit_L29 s zFU (n32 t0) 0 = _ := c29
  have r4' : D_X9_clear s1 = _ := r4
  have r29' : ∀ t0 : Int, D_X9_clear_L29 s1 zFU (n32 t0) 0 = _ := r29
  have ff := fr_t (rFrm_fr f1 (fun _ => False)) (fr_wI s1 66 41 (n32 (c : Int)) (Or.inl rfl))
  by_cases e : n32 (zit (fun b (t : Int) => t + zit (lpF G Q b) S 0 0) B 0 (zit (fun i (t : Int) => t + Q i) S 0 0)) = n32 (gvR B S G (-1) B 0)
  · refine ⟨1, s1, zwI s1 66 41 (n32 (c : Int)), ?_, ?_, Rel_0 h ff⟩
    · unfold D_X8_clear
      rw [c4', c29', if_pos e, zbs, zi1]
    · rw [r4', r29', if_pos e]
  · refine ⟨0, s1, zwI s1 66 41 (n32 (c : Int)), ?_, ?_, Rel_0 h ff⟩
    · unfold D_X8_clear
      rw [c4', c29', if_neg e, zbs, zi0]
    · rw [r4', r29', if_neg e]
end MO
