/-! the call most: the class's way down the rests is the reference's first best row -/
theorem zfst_first {β : Type} {p : Nat → Bool} {val : Nat → β} {d : β} : ∀ (m k i : Nat), k ≤ i → i < k + m → p i = true → (∀ j, k ≤ j → j < i → p j = false) → zfst p val d m k = val i := by
  intro m
  induction m with
  | zero => intro k i h1 h2; omega
  | succ m ih =>
    intro k i h1 h2 h3 h4
    rw [zfst]
    by_cases e : k = i
    · rw [e, h3, if_pos rfl]
    · rw [h4 k (Nat.le_refl _) (by omega), if_neg (by decide)]
      exact ih (k + 1) i (by omega) (by omega) h3 (fun j a b => h4 j (by omega) b)
section MS
variable {s : zS} {B S : Nat} {G : Nat → Nat → Int} {Q : Nat → Int}
/-- where a buyer goes when things are gone -/
def fbP (B S : Nat) (G : Nat → Nat → Int) (b gone i : Nat) : Bool := !gone.testBit i && decide (G b i + gvR B S G (-1) (B - (b + 1)) (gone ||| 2 ^ i) = gvR B S G (-1) (B - b) gone)
def fbV (B S : Nat) (G : Nat → Nat → Int) (b gone : Nat) : Int := if gvR B S G (-1) (B - (b + 1)) gone = gvR B S G (-1) (B - b) gone then -1 else zfst (fbP B S G b gone) (fun i => (i : Int)) (-1) S 0
theorem c_first (hm : mRel s B S G Q) (hr : rwE s B S G (-1) 0) {b gone : Nat} (hb : b < B) (hg : gone < 16) : D_X4_firstBest s (n32 (b : Int)) (n32 (gone : Int)) = some (n32 (fbV B S G b gone)) := by
  have hB := hm.1.2.2
  have hS := hm.2.1.2.2
  have r1 := hr (b + 1) (Nat.zero_le _) (by omega) gone (by omega)
  have r0 := hr b (Nat.zero_le _) (by omega) gone (by omega)
  have b1 := gv_bd hm (tw := -1) (by omega) (B - (b + 1)) gone (by omega)
  have b0 := gv_bd hm (tw := -1) (by omega) (B - b) gone (by omega)
  unfold D_X4_firstBest fbV
  rw [nsuc, zgd_t (czin (by omega) (by omega)), zT60 (b + 1) (by omega), zgd_t (zoI61 (b + 1) (by omega) gone (by omega)), zgd_t (czin (by omega) (by omega)), zT60 b (by omega), zgd_t (zoI61 b (by omega) gone (by omega)), n32_xn (by omega), r1, r0]
  by_cases e : gvR B S G (-1) (B - (b + 1)) gone = gvR B S G (-1) (B - b) gone
  · rw [zif_t (by rw [e]), if_pos e, n32_m1]
  · rw [zif_f (fun q => e ((n32_eq (by omega) (by omega) (by omega) (by omega)).mp q)), if_neg e, zfst_map (fun z : Int => some (n32 z))]
    refine zfirst (lo := 0) (hi := S) (fun f i => D_X4_firstBest_L25 s (n32 (b : Int)) (n32 (gone : Int)) f (n32 (i : Int))) (fun f i _ hi => ?_) (fun f => ?_) S zFU 0 (by omega) (by omega) (zFU_lt (by omega))
    · have hor := or_32 (g := gone) (j := i) (by omega) (by omega)
      have r2 := hr (b + 1) (Nat.zero_le _) (by omega) (gone ||| 2 ^ i) hor
      have b2 := gv_bd hm (tw := -1) (by omega) (B - (b + 1)) (gone ||| 2 ^ i) (by omega)
      have g1 := hm.2.2.1 b i (by omega) (by omega)
      try dsimp only
      rw [D_X4_firstBest_L25_s]
      unfold D_X4_firstBest_B25 fbP
      rw [hm.2.1.1, zif_f (by rw [c32_le (by omega) (by omega)]; omega), x8_hasL gone (by omega) i (by omega), in_ite, nsuc, nsuc]
      cases gone.testBit i
      · rw [if_neg (by decide), zi0, zgd_t (czin (by omega) (by omega)), zT54 b (by omega), zgd_t (zoI55 b (by omega) i (by omega)), zgd_t (czin (by omega) (by omega)), zT60 (b + 1) (by omega), shlL i (by omega), n32_or, zgd_t (zoI61 (b + 1) (by omega) _ hor), zgd_t (czin (by omega) (by omega)), zT60 b (by omega), zgd_t (zoI61 b (by omega) gone (by omega)), n32_xn (by omega), n32_xn (by omega), n32_xn (by omega), g1.1, r2, r0, n32_add, Bool.not_false, Bool.true_and]
        by_cases e2 : G b i + gvR B S G (-1) (B - (b + 1)) (gone ||| 2 ^ i) = gvR B S G (-1) (B - b) gone
        · rw [zif_t (by rw [e2]), if_pos (decide_eq_true e2)]
        · rw [zif_f (fun q => e2 ((n32_eq (by omega) (by omega) (by omega) (by omega)).mp q)), if_neg (by rw [decide_eq_true_iff]; exact e2)]
      · rw [if_pos rfl, zi1, Bool.not_true, Bool.false_and]; rfl
    · try dsimp only
      rw [D_X4_firstBest_L25_s]
      unfold D_X4_firstBest_B25
      rw [hm.2.1.1, zif_t (Int32.le_refl _), n32_m1]
/-- the things that a row's first buyers take -/
def goN (x : Nat → Nat) : Nat → Nat
  | 0 => 0
  | b + 1 => if x b = 0 then goN x b else goN x b ||| 2 ^ (x b - 1)
theorem goN_lt {x : Nat → Nat} (hx : ∀ e, x e < 5) : ∀ b, goN x b < 16 := by
  intro b
  induction b with
  | zero => exact Nat.zero_lt_succ _
  | succ b ih =>
    rw [goN]
    have := hx b
    split
    · exact ih
    · exact or_16 ih (by omega)
/-- what the row keeps to at a buyer -/
def grI (B S : Nat) (G : Nat → Nat → Int) (x : Nat → Nat) (b : Nat) : Prop := gvP B S (-1) (goN x b) x (B - b) ∧ gvW B G x (B - b) = gvR B S G (-1) (B - b) (goN x b) ∧ ∀ y : Nat → Nat, (∀ e, y e < 5) → (∀ e, e < b → y e = x e) → gvP B S (-1) (goN x b) y (B - b) → gvW B G y (B - b) = gvR B S G (-1) (B - b) (goN x b) → ¬ enc5 y B < enc5 x B
theorem gr_step (hm : mRel s B S G Q) {x : Nat → Nat} {b : Nat} (hb : b < B) (hx : ∀ e, x e < 5) (h : grI B S G x b) : fbV B S G b (goN x b) = (x b : Int) - 1 ∧ grI B S G x (b + 1) := by
  obtain ⟨h1, h2, h3⟩ := h
  have hB := hm.1.2.2
  have hS := hm.2.1.2.2
  obtain ⟨d, hd⟩ : ∃ d, B = b + 1 + d := ⟨B - (b + 1), by omega⟩
  have e1 : B - b = d + 1 := by omega
  have e2 : B - (b + 1) = d := by omega
  have e3 : B - (d + 1) = b := by omega
  rw [e1] at h1 h2 h3
  -- a row that turns off at b
  have hturn : ∀ (c : Nat) (y : Nat → Nat), c < x b → gvP B S (-1) (goN x b) (fun b' => if b' = b then c else y b') (d + 1) → gvW B G (fun b' => if b' = b then c else y b') (d + 1) = gvR B S G (-1) (d + 1) (goN x b) → False := fun c y hc hp hw => by
    have hcg : ∀ e, e < d + 1 → (fun b' => if b' = b then c else y b') (B - (e + 1)) = (fun b' => if b' < b then x b' else if b' = b then c else if b' < B then y b' else 0) (B - (e + 1)) := fun e he => by
      try dsimp only
      rw [if_neg (show ¬ B - (e + 1) < b by omega)]
      by_cases q : B - (e + 1) = b
      · rw [if_pos q, if_pos q]
      · rw [if_neg q, if_neg q, if_pos (by omega)]
    refine h3 (fun b' => if b' < b then x b' else if b' = b then c else if b' < B then y b' else 0) (fun e => ?_) (fun e he => if_pos he) (gvP_congr (d + 1) hcg hp) (by rw [← gvW_congr (x := fun b' => if b' = b then c else y b') (d + 1) hcg]; exact hw) (enc5_less (b := b) (fun e => ?_) (fun e he => if_pos he) ?_ B hb)
    · have hxe := hx e
      have hxb := hx b
      try dsimp only
      by_cases q1 : e < b
      · rw [if_pos q1]; exact hxe
      · rw [if_neg q1]
        by_cases q2 : e = b
        · rw [if_pos q2]; omega
        · rw [if_neg q2]
          by_cases q3 : e < B
          · have := hp.1 (B - 1 - e) (by omega)
            rw [show B - (B - 1 - e + 1) = e by omega] at this
            try dsimp only at this
            rw [if_neg q2] at this
            rw [if_pos q3]; omega
          · rw [if_neg q3]; omega
    · have hxe := hx e
      have hxb := hx b
      try dsimp only
      by_cases q1 : e < b
      · rw [if_pos q1]; exact hxe
      · rw [if_neg q1]
        by_cases q2 : e = b
        · rw [if_pos q2]; omega
        · rw [if_neg q2]
          by_cases q3 : e < B
          · have := hp.1 (B - 1 - e) (by omega)
            rw [show B - (B - 1 - e + 1) = e by omega] at this
            try dsimp only at this
            rw [if_neg q2] at this
            rw [if_pos q3]; omega
          · rw [if_neg q3]; omega
    · try dsimp only
      rw [if_neg (by omega), if_pos rfl]; exact hc
  have hW : gvW B G x (d + 1) = gvW B G x d + if x b = 0 then 0 else G b (x b - 1) := by rw [gvW, e3]
  by_cases e : x b = 0
  · have hgo : goN x (b + 1) = goN x b := by rw [goN, if_pos e]
    have p1 : gvP B S (-1) (goN x b) x d := ⟨fun t ht => h1.1 t (by omega), fun i hi => by
      have := h1.2 i hi
      rw [gvC] at this
      omega⟩
    have q1 := gv_le hS (G := G) d _ p1
    have q2 := gvR_up (B := B) (S := S) (G := G) (tw := -1) (d := d) (gone := goN x b)
    rw [hW, if_pos e, Int.add_zero] at h2
    have q3 : gvR B S G (-1) d (goN x b) = gvR B S G (-1) (d + 1) (goN x b) := by omega
    refine ⟨?_, ?_⟩
    · unfold fbV
      rw [e2, e1, if_pos q3, e]; rfl
    · unfold grI
      rw [e2, hgo]
      refine ⟨p1, by omega, fun y y1 y2 y3 y4 => ?_⟩
      have hyb : y b = 0 := by rw [y2 b (by omega), e]
      obtain ⟨z1, z2⟩ := gv_no (G := G) (show d < B by omega) y3
      rw [e3] at z1 z2
      have hcg : ∀ t, t < d + 1 → (fun b' => if b' = b then 0 else y b') (B - (t + 1)) = y (B - (t + 1)) := fun t ht => by
        try dsimp only
        by_cases q : B - (t + 1) = b
        · rw [if_pos q, q, hyb]
        · rw [if_neg q]
      exact h3 y y1 (fun t ht => y2 t (by omega)) (gvP_congr (d + 1) hcg z1) (by rw [← gvW_congr (x := fun b' => if b' = b then 0 else y b') (d + 1) hcg, z2, y4, q3])
  · obtain ⟨i, hi⟩ : ∃ i, x b = i + 1 := ⟨x b - 1, by omega⟩
    have hiS : i < S := by
      have := h1.1 d (by omega)
      rw [e3, hi] at this
      omega
    have hgo : goN x (b + 1) = goN x b ||| 2 ^ i := by rw [goN, if_neg e, hi, Nat.add_sub_cancel]
    have hA1 : ∀ g l, gvA (-1) g l = if g.testBit l then 0 else 1 := fun g l => by
      unfold gvA
      rw [if_neg (show ¬ ((-1 : Int) = (l : Int) ∧ g.testBit 4 = false) from fun q => by have := q.1; omega)]; rfl
    have hci := h1.2 i hiS
    rw [gvC, e3, hi, if_pos rfl, hA1] at hci
    have hgi : (goN x b).testBit i = false := by
      cases q : (goN x b).testBit i
      · rfl
      · rw [q, if_pos rfl] at hci; omega
    have hth : ∀ j, j < 4 → thS (-1) j = j := fun j hj => if_pos hj
    have hok : ∀ j, j < S → (goN x b).testBit j = false → thO S (-1) (goN x b) j = true := fun j hj q => by
      unfold thO
      rw [if_pos (by omega), decide_eq_true hj, q]; rfl
    have p1 : gvP B S (-1) (goN x b ||| 2 ^ i) x d := ⟨fun t ht => h1.1 t (by omega), fun l hl => by
      have q1 := h1.2 l hl
      rw [gvC, e3, hi, hA1] at q1
      rw [hA1, or_bit]
      by_cases q : l = i
      · rw [q] at q1 ⊢
        rw [hgi, if_pos rfl, if_neg (by decide)] at q1
        omega
      · rw [if_neg (by omega)] at q1
        rw [decide_eq_false (fun z => q z.symm), Bool.or_false]
        omega⟩
    have q1 := gv_le hS (G := G) d _ p1
    have q2 := gvR_th (B := B) (S := S) (G := G) (tw := -1) (d := d) (gone := goN x b) (j := i) (by omega) (hok i hiS hgi)
    rw [hth i (by omega), e3] at q2
    rw [hW, if_neg e, hi, Nat.add_sub_cancel] at h2
    have q3 : G b i + gvR B S G (-1) d (goN x b ||| 2 ^ i) = gvR B S G (-1) (d + 1) (goN x b) := by omega
    refine ⟨?_, ?_⟩
    · have hno : ¬ gvR B S G (-1) d (goN x b) = gvR B S G (-1) (d + 1) (goN x b) := fun q => by
        obtain ⟨y, y1, y2⟩ := gv_ex (B := B) (G := G) hS (show (-1 : Int) < 4 by omega) d (goN x b) (by omega)
        obtain ⟨z1, z2⟩ := gv_no (G := G) (show d < B by omega) y1
        rw [e3] at z1 z2
        exact hturn 0 y (by omega) z1 (by rw [z2, y2, q])
      unfold fbV
      rw [e2, e1, if_neg hno]
      have hfirst := zfst_first (p := fbP B S G b (goN x b)) (val := fun i => (i : Int)) (d := (-1 : Int)) S 0 i (by omega) (by omega) (by
        unfold fbP
        rw [e2, e1, hgi, decide_eq_true q3]; rfl) (fun j _ hj => by
        cases q : fbP B S G b (goN x b) j
        · rfl
        · exfalso
          unfold fbP at q
          rw [e2, e1] at q
          obtain ⟨a1, a2⟩ := (Bool.and_eq_true _ _).mp q
          have a3 : (goN x b).testBit j = false := by simpa using a1
          have a4 := of_decide_eq_true a2
          obtain ⟨y, y1, y2⟩ := gv_ex (B := B) (G := G) hS (show (-1 : Int) < 4 by omega) d (goN x b ||| 2 ^ j) (by omega)
          obtain ⟨z1, z2⟩ := gv_put (G := G) hS (show d < B by omega) (show j < 5 by omega) (show (-1 : Int) < 4 by omega) (hok j (by omega) a3) y1
          rw [e3, hth j (by omega)] at z1 z2
          exact hturn (j + 1) y (by omega) z1 (by rw [z2, y2]; omega))
      rw [hfirst, hi]
      push_cast
      omega
    · unfold grI
      rw [e2, hgo]
      refine ⟨p1, by omega, fun y y1 y2 y3 y4 => ?_⟩
      have hyb : y b = i + 1 := by rw [y2 b (by omega), hi]
      obtain ⟨z1, z2⟩ := gv_put (G := G) hS (show d < B by omega) (show i < 5 by omega) (show (-1 : Int) < 4 by omega) (hok i hiS hgi) y3
      rw [e3, hth i (by omega)] at z1 z2
      have hcg : ∀ t, t < d + 1 → (fun b' => if b' = b then i + 1 else y b') (B - (t + 1)) = y (B - (t + 1)) := fun t ht => by
        try dsimp only
        by_cases q : B - (t + 1) = b
        · rw [if_pos q, q, hyb]
        · rw [if_neg q]
      exact h3 y y1 (fun t ht => y2 t (by omega)) (gvP_congr (d + 1) hcg z1) (by rw [← gvW_congr (x := fun b' => if b' = b then i + 1 else y b') (d + 1) hcg, z2, y4]; omega)
theorem gr_st {c : Nat} (hc : c < 5 ^ B) (h1 : cdO B S (-1) 0 c) (h2 : cdV B G c = gvR B S G (-1) B 0) (h3 : ∀ c', c' < c → cdO B S (-1) 0 c' → cdV B G c' < gvR B S G (-1) B 0) : grI B S G (dec5 B c) 0 := by
  have henc : enc5 (dec5 B c) B = c := by rw [enc5_dec hc B (Nat.le_refl _), Nat.sub_self, Nat.pow_zero, Nat.div_one]
  unfold grI
  rw [Nat.sub_zero, goN]
  refine ⟨h1, h2, fun y y1 _ y3 y4 hlt => ?_⟩
  rw [henc] at hlt
  have hde := dec5_enc (B := B) (x := y) (fun b _ => y1 b)
  have hcg : ∀ e, e < B → y (B - (e + 1)) = dec5 B (enc5 y B) (B - (e + 1)) := fun e he => (hde _ (by omega)).symm
  have k1 : cdO B S (-1) 0 (enc5 y B) := gvP_congr B hcg y3
  have k2 := h3 _ hlt k1
  unfold cdV at k2
  rw [← gvW_congr (x := y) B hcg, y4] at k2
  omega
theorem c_sell12 (hm : mRel s B S G Q) (hr : rwE s B S G (-1) 0) {x : Nat → Nat} {what : Nat} (hw : what < B) (hx : ∀ e, x e < 5) : ∀ (m f b : Nat) (ch : Int), b + m = what + 1 → m < f → grI B S G x b → (m = 0 → ch = (x what : Int) - 1) → D_X4_sellerOf_L12 s (n32 (what : Int)) f (n32 (goN x b : Int)) (n32 ch) (n32 (b : Int)) = some (n32 ((x what : Int) - 1), s) := by
  have hB := hm.1.2.2
  intro m
  induction m with
  | zero =>
    intro f b ch hb hf _ hch
    obtain ⟨f, rfl⟩ : ∃ t, f = t + 1 := ⟨f - 1, by omega⟩
    rw [D_X4_sellerOf_L12_s]
    unfold D_X4_sellerOf_B12
    rw [zif_t (by rw [c32_lt (by omega) (by omega)]; omega), hch rfl]
  | succ m ih =>
    intro f b ch hb hf hg _
    obtain ⟨f, rfl⟩ : ∃ t, f = t + 1 := ⟨f - 1, by omega⟩
    obtain ⟨g1, g2⟩ := gr_step hm (show b < B by omega) hx hg
    have hxb := hx b
    have hlt := goN_lt hx b
    rw [D_X4_sellerOf_L12_s]
    unfold D_X4_sellerOf_B12 D_X4_sellerOf_J48
    rw [zif_f (by rw [c32_lt (by omega) (by omega)]; omega), hm.1.1, zif_f (by rw [c32_le (by omega) (by omega)]; omega), c_first hm hr (by omega) hlt, zbs, g1, nsuc]
    have hnext : m = 0 → (x b : Int) - 1 = (x what : Int) - 1 := fun q => by
      have : b = what := by omega
      rw [this]
    have h := ih f (b + 1) ((x b : Int) - 1) (by omega) (by omega) g2 hnext
    by_cases e : x b = 0
    · have h0 : n32 (goN x b : Int) ||| 0 = n32 (goN x b : Int) := by
        have : ∀ t : Nat, t < 16 → n32 (t : Int) ||| 0 = n32 (t : Int) := by decide
        exact this _ hlt
      rw [goN, if_pos e] at h
      rw [zif_t (by rw [e]; decide), h0]
      exact h
    · rw [goN, if_neg e] at h
      have hx1 : n32 ((x b : Int) - 1) = n32 ((x b - 1 : Nat) : Int) := by congr 1; omega
      rw [zif_f (fun q => e (by rw [l32_m1] at q; have := (n32_eq (by omega) (by omega) (by omega) (by omega)).mp q; omega))]
      rw [hx1] at h ⊢
      rw [shlL _ (by omega), n32_or]
      exact h
theorem r_most51 {t : zS} {B what c : Nat} (hB : B ≤ 4) (hw : what < B) (hc : c < 5 ^ B) : ∀ (m f k left : Nat), k = what + m → k < B → m < f → left = c / 5 ^ (B - 1 - k) → D_X9_most_L51 t (n32 (what : Int)) f (n32 (left : Int)) (n32 (k : Int)) = some (n32 ((dec5 B c what : Int) - 1), t) := by
  have h5 : 5 ^ B ≤ 625 := Nat.pow_le_pow_right (n := 5) (by omega) hB
  have hdv : ∀ l : Nat, l < 625 → n32 (l : Int) / 5 = n32 ((l / 5 : Nat) : Int) ∧ n32 (l : Int) - n32 (l : Int) / 5 * 5 - 1 = n32 ((l % 5 : Nat) - 1 : Int) := fun l hl => by
    obtain ⟨v1, v2⟩ := dv5 (l / 5) (by omega) (l % 5) (by omega)
    have : l / 5 * 5 + l % 5 = l := by omega
    rw [this] at v1 v2
    exact ⟨v1, v2⟩
  intro m
  induction m with
  | zero =>
    intro f k left hk hkB hf hl
    obtain ⟨f, rfl⟩ : ∃ t, f = t + 1 := ⟨f - 1, by omega⟩
    obtain rfl : k = what := by omega
    have hl2 : left < 625 := by
      rw [hl]
      exact Nat.lt_of_le_of_lt (Nat.div_le_self _ _) (by omega)
    rw [D_X9_most_L51_s]
    unfold D_X9_most_B51
    rw [zif_t (Int32.le_refl _), (hdv left hl2).2]
    unfold dec5
    rw [hl]
  | succ m ih =>
    intro f k left hk hkB hf hl
    obtain ⟨f, rfl⟩ : ∃ t, f = t + 1 := ⟨f - 1, by omega⟩
    have hl2 : left < 625 := by
      rw [hl]
      exact Nat.lt_of_le_of_lt (Nat.div_le_self _ _) (by omega)
    have hback : n32 (k : Int) + -1 = n32 ((k - 1 : Nat) : Int) := by rw [l32_1, n32_neg, n32_add]; congr 1; omega
    rw [D_X9_most_L51_s]
    unfold D_X9_most_B51
    rw [zif_f (by rw [c32_le (by omega) (by omega)]; omega), (hdv left hl2).1, hback]
    refine ih f (k - 1) (left / 5) (by omega) (by omega) (by omega) ?_
    rw [hl, Nat.div_div_eq_div_mul, ← Nat.pow_succ, show (B - 1 - k).succ = B - 1 - (k - 1) by omega]
theorem call_most (h : Rel s) (hm : mRel s B S G Q) (a : Int32) : cOk s (fun s => D_X8_most s a) (fun s => D_X9_most s a) := by
  obtain ⟨k, rfl, h1, h2⟩ := i32_of a
  have hB := hm.1.2.2
  by_cases e0 : n32 k = -1
  · obtain ⟨s1, e1, f1, -⟩ := c_most hm
    have hm1 := mRel_r hm f1
    obtain ⟨c, r1, -⟩ := r_most0 hm1
    refine ⟨n32 (gvR B S G (-1) B 0), s1, zwI s1 66 41 (n32 (c : Int)), ?_, ?_, Rel_0 h (fr_t (rFrm_fr f1 _) (fr_wI s1 66 41 (n32 (c : Int)) (Or.inl rfl)))⟩
    · try dsimp only
      unfold D_X8_most D_X8_most_J19
      rw [if_pos e0, if_pos e0, e1, zbs]
    · try dsimp only
      unfold D_X9_most D_X9_most_J24
      rw [if_pos e0, r1, zbs, if_pos e0]
  · by_cases e : 0 ≤ k ∧ k < (B : Int)
    · obtain ⟨what, rfl⟩ : ∃ t : Nat, k = (t : Int) := ⟨k.toNat, by omega⟩
      have hw : what < B := by omega
      obtain ⟨s1, e1, f1, g1⟩ := c_rests hm (tw := -1) (by omega) (by omega)
      rw [n32_m1] at e1
      have hm1 := mRel_r hm f1
      obtain ⟨c, r1, r2, r3, r4, r5⟩ := r_most0 hm1
      have c12 := c_sell12 hm1 g1 hw (dec5_lt B c) (what + 1) zFU 0 (-1) (by omega) (zFU_lt (by omega)) (gr_st r2 r3 r4 r5) (fun q => by omega)
      rw [n32_m1] at c12
      have c12' : D_X4_sellerOf_L12 s1 (n32 (what : Int)) zFU 0 (-1) 0 = _ := c12
      refine ⟨n32 ((dec5 B c what : Int) - 1), s1, zwI s1 66 41 (n32 (c : Int)), ?_, ?_, Rel_0 h (fr_t (rFrm_fr f1 _) (fr_wI s1 66 41 (n32 (c : Int)) (Or.inl rfl)))⟩
      · try dsimp only
        unfold D_X8_most D_X8_most_J19 D_X4_sellerOf
        rw [if_neg e0, buyer8 hm h1 h2, if_pos e, zbs, zi1, if_neg e0, e1, zbs, c12', zbs]
      · try dsimp only
        unfold D_X9_most D_X9_most_J24
        rw [if_neg e0, buyer9 hm1 h1 h2, if_pos e, zbs, zi1, r1, zbs, if_neg e0]
        dsimp only
        rw [zwI_at, if_pos ⟨rfl, rfl⟩, zwI_at, if_neg (by omega), hm1.1.2.1, l32_1, n32_sub, show (B : Int) - 1 = ((B - 1 : Nat) : Int) by omega]
        refine r_most51 hB hw r2 (B - 1 - what) zFU (B - 1) c (by omega) (by omega) (zFU_lt (by omega)) ?_
        rw [Nat.sub_self, Nat.pow_zero, Nat.div_one]
    · refine cOk_same h (r := -10) ?_ ?_
      · try dsimp only
        unfold D_X8_most
        rw [if_neg e0, buyer8 hm h1 h2, if_neg e, zbs, zi0]
      · try dsimp only
        unfold D_X9_most
        rw [if_neg e0, buyer9 hm h1 h2, if_neg e, zbs, zi0]
end MS
