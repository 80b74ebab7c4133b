/-! the calls market, gain and tell -/
section MK
variable {s : zS} {B S : Nat} {G : Nat → Nat → Int} {Q : Nat → Int}
/-- nothing told of sellers from lo on -/
def mzr (lo : Nat) (s : zS) : zS := (fun c k => if (55 ≤ c ∧ c ≤ 59) ∧ lo ≤ k ∧ k < 4 then 0 else s.1 c k, s.2)
theorem mzr_4 : mzr 4 s = s := by
  refine Prod.ext ?_ rfl
  funext c k
  show (if (55 ≤ c ∧ c ≤ 59) ∧ 4 ≤ k ∧ k < 4 then (0 : Int32) else s.1 c k) = _
  rw [if_neg (by omega)]
theorem mzr_at {lo c k : Nat} : (mzr lo s).1 c k = if (55 ≤ c ∧ c ≤ 59) ∧ lo ≤ k ∧ k < 4 then 0 else s.1 c k := rfl
theorem c_mk27 {j : Nat} {rec12 : Int32 → zS → Option zS} (hj : j < 4) : ∀ (d f b : Nat) (s : zS), b + d = 4 → d < f → D_X4_restart_L27 rec12 (n32 (j : Int)) f (n32 (b : Int)) s = rec12 (n32 ((j + 1 : Nat) : Int)) (fun c k => if (55 + b ≤ c ∧ c ≤ 58) ∧ k = j then 0 else s.1 c k, s.2) := by
  intro d
  induction d with
  | zero =>
    intro f b s hb hf
    obtain ⟨f, rfl⟩ : ∃ t, f = t + 1 := ⟨f - 1, by omega⟩
    obtain rfl : b = 4 := by omega
    rw [D_X4_restart_L27_s]
    unfold D_X4_restart_B27
    rw [zif_t (by decide), nsuc]
    congr 1
    refine Prod.ext ?_ rfl
    funext c k
    show _ = (if (55 + 4 ≤ c ∧ c ≤ 58) ∧ k = j then (0 : Int32) else s.1 c k)
    rw [if_neg (by omega)]
  | succ d ih =>
    intro f b s hb hf
    obtain ⟨f, rfl⟩ : ∃ t, f = t + 1 := ⟨f - 1, by omega⟩
    rw [D_X4_restart_L27_s]
    unfold D_X4_restart_B27
    rw [l32_4, zif_f (by rw [n32_le (by omega) (by omega) (by omega) (by omega)]; omega), zgd_t (czin (by omega) (by omega)), zT54 b (by omega), zgd_t (zoI55 b (by omega) j hj), n32_xn (by omega), nsuc]
    dsimp only
    rw [ih f (b + 1) _ (by omega) (by omega)]
    congr 1
    refine Prod.ext ?_ rfl
    funext c k
    show (if (55 + (b + 1) ≤ c ∧ c ≤ 58) ∧ k = j then (0 : Int32) else (zwI s (55 + b) j 0).1 c k) = if (55 + b ≤ c ∧ c ≤ 58) ∧ k = j then (0 : Int32) else s.1 c k
    rw [zwI_at]
    (repeat' split) <;> first | rfl | (exfalso; omega)
theorem c_mk12 : ∀ (d f j : Nat) (s : zS), j + d = 4 → d < f → D_X4_restart_L12 f (n32 (j : Int)) s = some (mzr j s) := by
  intro d
  induction d with
  | zero =>
    intro f j s hj hf
    obtain ⟨f, rfl⟩ : ∃ t, f = t + 1 := ⟨f - 1, by omega⟩
    obtain rfl : j = 4 := by omega
    rw [D_X4_restart_L12_s]
    unfold D_X4_restart_B12
    rw [zif_t (by decide), mzr_4]
  | succ d ih =>
    intro f j s hj hf
    obtain ⟨f, rfl⟩ : ∃ t, f = t + 1 := ⟨f - 1, by omega⟩
    rw [D_X4_restart_L12_s]
    unfold D_X4_restart_B12
    rw [l32_4, zif_f (by rw [n32_le (by omega) (by omega) (by omega) (by omega)]; omega), zgd_t (czin (by omega) (by omega)), n32_xn (by omega)]
    dsimp only
    have h27 : D_X4_restart_L27 (D_X4_restart_L12 f) (n32 (j : Int)) zFU 0 (zwI s 59 j 0) = _ := c_mk27 (rec12 := D_X4_restart_L12 f) (show j < 4 by omega) 4 zFU 0 (zwI s 59 j 0) (by omega) (zFU_lt (by omega))
    rw [h27, ih f (j + 1) _ (by omega) (by omega)]
    congr 1
    refine Prod.ext ?_ rfl
    funext c k
    show (if (55 ≤ c ∧ c ≤ 59) ∧ j + 1 ≤ k ∧ k < 4 then (0 : Int32) else if (55 + 0 ≤ c ∧ c ≤ 58) ∧ k = j then 0 else (zwI s 59 j 0).1 c k) = if (55 ≤ c ∧ c ≤ 59) ∧ j ≤ k ∧ k < 4 then (0 : Int32) else s.1 c k
    rw [zwI_at]
    (repeat' split) <;> first | rfl | (exfalso; omega)
theorem r_mk39 : ∀ (m f k : Nat) (s : zS), k + m = 16 → m < f → D_X9_market_L39 f (n32 (k : Int)) s = D_X9_market_L60 zFU 0 (zfill 75 k 16 s) := by
  intro m
  induction m with
  | zero =>
    intro f k s hk hf
    obtain ⟨f, rfl⟩ : ∃ j, f = j + 1 := ⟨f - 1, by omega⟩
    obtain rfl : k = 16 := by omega
    rw [D_X9_market_L39_s]
    unfold D_X9_market_B39
    rw [zif_t (by decide), zfill_0]
  | succ m ih =>
    intro f k s hk hf
    obtain ⟨f, rfl⟩ : ∃ j, f = j + 1 := ⟨f - 1, by omega⟩
    rw [D_X9_market_L39_s]
    unfold D_X9_market_B39
    rw [l32_16, zif_f (by rw [n32_le (by omega) (by omega) (by omega) (by omega)]; omega), zgd_t (czin (by omega) (by omega)), n32_xn (by omega), nsuc]
    dsimp only
    rw [ih f (k + 1) _ (by omega) (by omega), zfill_w (by omega)]
theorem r_mk60 : ∀ (m f k : Nat) (s : zS), k + m = 4 → m < f → D_X9_market_L60 f (n32 (k : Int)) s = some (1, zfill 76 k 4 s) := by
  intro m
  induction m with
  | zero =>
    intro f k s hk hf
    obtain ⟨f, rfl⟩ : ∃ j, f = j + 1 := ⟨f - 1, by omega⟩
    obtain rfl : k = 4 := by omega
    rw [D_X9_market_L60_s]
    unfold D_X9_market_B60
    rw [zif_t (by decide), zfill_0]
  | succ m ih =>
    intro f k s hk hf
    obtain ⟨f, rfl⟩ : ∃ j, f = j + 1 := ⟨f - 1, by omega⟩
    rw [D_X9_market_L60_s]
    unfold D_X9_market_B60
    rw [l32_4, zif_f (by rw [n32_le (by omega) (by omega) (by omega) (by omega)]; omega), zgd_t (czin (by omega) (by omega)), n32_xn (by omega), nsuc]
    dsimp only
    rw [ih f (k + 1) _ (by omega) (by omega), zfill_w (by omega)]
theorem call_market (h : Rel s) (a b : Int32) : cOk s (fun s => D_X8_market s a b) (fun s => D_X9_market s a b) := by
  obtain ⟨k, rfl, h1, h2⟩ := i32_of a
  obtain ⟨x, rfl, h3, h4⟩ := i32_of b
  have i8 : ∀ {k : Int}, -2147483648 ≤ k → k < 2147483648 → D_X8_within (n32 k) 0 4 = if 0 ≤ k ∧ k ≤ 4 then some 1 else some 0 := fun h1 h2 => in8 (lo := 0) (hi := 4) h1 h2 (by omega) (by omega) (by omega) (by omega)
  have i9 : ∀ {k : Int}, -2147483648 ≤ k → k < 2147483648 → D_X9_in (n32 k).toInt64 0 4 = if 0 ≤ k ∧ k ≤ 4 then some 1 else some 0 := fun h1 h2 => in9L (lo := 0) (hi := 4) h1 h2 (by omega) (by omega) (by omega) (by omega)
  by_cases e : 0 ≤ k ∧ k ≤ 4
  · by_cases e2 : 0 ≤ x ∧ x ≤ 4
    · obtain ⟨B', rfl⟩ : ∃ t : Nat, k = (t : Int) := ⟨k.toNat, by omega⟩
      obtain ⟨S', rfl⟩ : ∃ t : Nat, x = (t : Int) := ⟨x.toNat, by omega⟩
      let s0 : zS := zwI (zwI s 53 0 (n32 (B' : Int))) 53 1 (n32 (S' : Int))
      let s1 : zS := mzr 0 s0
      let s2 : zS := zwI (zwI s1 66 17 (n32 (B' : Int))) 66 18 (n32 (S' : Int))
      let s3 : zS := zfill 76 0 4 (zfill 75 0 16 s2)
      have c12 : D_X4_restart_L12 zFU 0 s0 = _ := c_mk12 4 zFU 0 s0 (by omega) (zFU_lt (by omega))
      have r39 : D_X9_market_L39 zFU 0 s2 = _ := r_mk39 16 zFU 0 s2 (by omega) (zFU_lt (by omega))
      have r60 : D_X9_market_L60 zFU 0 (zfill 75 0 16 s2) = _ := r_mk60 4 zFU 0 (zfill 75 0 16 s2) (by omega) (zFU_lt (by omega))
      have at0 : ∀ c k, s0.1 c k = if c = 53 ∧ k = 1 then n32 (S' : Int) else if c = 53 ∧ k = 0 then n32 (B' : Int) else s.1 c k := fun c k => by
        show (zwI (zwI s 53 0 (n32 (B' : Int))) 53 1 (n32 (S' : Int))).1 c k = _
        rw [zwI_at, zwI_at]
      have at3 : ∀ c k, s3.1 c k = if c = 76 ∧ k < 4 then 0 else if c = 75 ∧ k < 16 then 0 else if c = 66 ∧ k = 18 then n32 (S' : Int) else if c = 66 ∧ k = 17 then n32 (B' : Int) else if (55 ≤ c ∧ c ≤ 59) ∧ k < 4 then 0 else s0.1 c k := fun c k => by
        show (zfill 76 0 4 (zfill 75 0 16 (zwI (zwI (mzr 0 s0) 66 17 (n32 (B' : Int))) 66 18 (n32 (S' : Int))))).1 c k = _
        rw [zfill_at, zfill_at, zwI_at, zwI_at, mzr_at]
        simp only [Nat.zero_le, true_and]
      refine Rel_m (r := 1) (s1 := s1) (s' := s3) (B' := B') (S' := S') (G' := fun _ _ => 0) (Q' := fun _ => 0) h ?_ ?_ ⟨fun c k a b => ?_, fun _ _ _ _ => rfl⟩ ⟨⟨?_, ?_, by omega⟩, ⟨?_, ?_, by omega⟩, fun b i hb hi => ⟨?_, ?_, (show (0 : Int) ≤ 0 by decide), (show (0 : Int) ≤ 1000 by decide)⟩, fun i hi => ⟨?_, ?_, (show (0 : Int) ≤ 0 by decide), (show (0 : Int) ≤ 1000 by decide)⟩⟩
      · try dsimp only
        unfold D_X8_market D_X4_restart
        rw [i8 h1 h2, if_pos e, zbs, zi1, i8 h3 h4, if_pos e2, zbs, zi1, c12, zbs]
      · try dsimp only
        unfold D_X9_market
        rw [i9 h1 h2, if_pos e, zbs, zi1, i9 h3 h4, if_pos e2, zbs, zi1, r39, r60]
      · have n1 : c ≠ 76 := by rintro rfl; exact b rfl
        have n2 : c ≠ 75 := by rintro rfl; exact b rfl
        have n3 : c ≠ 53 := by rintro rfl; exact b rfl
        have n4 : ¬ (55 ≤ c ∧ c ≤ 59) := fun q => b (by unfold own; rw [if_neg (by omega), if_neg (by omega), if_neg (by omega), if_neg (by omega), if_neg (by omega), if_pos (by omega)])
        have n5 : ¬ (c = 66 ∧ k = 18) := by rintro ⟨rfl, rfl⟩; exact b rfl
        have n6 : ¬ (c = 66 ∧ k = 17) := by rintro ⟨rfl, rfl⟩; exact b rfl
        rw [at3, if_neg (fun q => n1 q.1), if_neg (fun q => n2 q.1), if_neg n5, if_neg n6, if_neg (fun q => n4 q.1), at0, if_neg (fun q => n3 q.1), if_neg (fun q => n3 q.1)]
      · rw [at3, if_neg (by omega), if_neg (by omega), if_neg (by omega), if_neg (by omega), if_neg (by omega), at0, if_neg (by omega), if_pos ⟨rfl, rfl⟩]
      · rw [at3, if_neg (by omega), if_neg (by omega), if_neg (by omega), if_pos ⟨rfl, rfl⟩]
      · rw [at3, if_neg (by omega), if_neg (by omega), if_neg (by omega), if_neg (by omega), if_neg (by omega), at0, if_pos ⟨rfl, rfl⟩]
      · rw [at3, if_neg (by omega), if_neg (by omega), if_pos ⟨rfl, rfl⟩]
      · rw [at3, if_neg (by omega), if_neg (by omega), if_neg (by omega), if_neg (by omega), if_pos (by omega)]; rfl
      · rw [at3, if_neg (by omega), if_pos (by omega)]; rfl
      · rw [at3, if_neg (by omega), if_neg (by omega), if_neg (by omega), if_neg (by omega), if_pos (by omega)]; rfl
      · rw [at3, if_pos (by omega)]; rfl
    · refine cOk_same h (r := -2) ?_ ?_
      · try dsimp only
        unfold D_X8_market
        rw [i8 h1 h2, if_pos e, zbs, zi1, i8 h3 h4, if_neg e2, zbs, zi0]
      · try dsimp only
        unfold D_X9_market
        rw [i9 h1 h2, if_pos e, zbs, zi1, i9 h3 h4, if_neg e2, zbs, zi0]
  · refine cOk_same h (r := -2) ?_ ?_
    · try dsimp only
      unfold D_X8_market
      rw [i8 h1 h2, if_neg e, zbs, zi0]
    · try dsimp only
      unfold D_X9_market
      rw [i9 h1 h2, if_neg e, zbs, zi0]
theorem buyer8 (hm : mRel s B S G Q) {k : Int} (h1 : -2147483648 ≤ k) (h2 : k < 2147483648) : D_X4_knowsBuyer s (n32 k) = if 0 ≤ k ∧ k < (B : Int) then some 1 else some 0 := by
  unfold D_X4_knowsBuyer
  rw [hm.1.1]
  exact idx8 (by have := hm.1.2.2; omega) h1 h2
theorem seller8 (hm : mRel s B S G Q) {k : Int} (h1 : -2147483648 ≤ k) (h2 : k < 2147483648) : D_X4_knowsSeller s (n32 k) = if 0 ≤ k ∧ k < (S : Int) then some 1 else some 0 := by
  unfold D_X4_knowsSeller
  rw [hm.2.1.1]
  exact idx8 (by have := hm.2.1.2.2; omega) h1 h2
theorem buyer9 (hm : mRel s B S G Q) {k : Int} (h1 : -2147483648 ≤ k) (h2 : k < 2147483648) : D_X9_in (n32 k).toInt64 0 ((s.1 66 17) - 1).toInt64 = if 0 ≤ k ∧ k < (B : Int) then some 1 else some 0 := by
  rw [hm.1.2.1]
  exact idx9 (by have := hm.1.2.2; omega) h1 h2
theorem seller9 (hm : mRel s B S G Q) {k : Int} (h1 : -2147483648 ≤ k) (h2 : k < 2147483648) : D_X9_in (n32 k).toInt64 0 ((s.1 66 18) - 1).toInt64 = if 0 ≤ k ∧ k < (S : Int) then some 1 else some 0 := by
  rw [hm.2.1.2.1]
  exact idx9 (by have := hm.2.1.2.2; omega) h1 h2
theorem call_gain (h : Rel s) (hm : mRel s B S G Q) (a b c : Int32) : cOk s (fun s => D_X8_gain s a b c) (fun s => D_X9_gain s a b c) := by
  obtain ⟨k, rfl, h1, h2⟩ := i32_of a
  obtain ⟨j, rfl, h3, h4⟩ := i32_of b
  obtain ⟨x, rfl, h5, h6⟩ := i32_of c
  have hB := hm.1.2.2
  have hS := hm.2.1.2.2
  have i8 : D_X8_within (n32 x) 0 1000 = if 0 ≤ x ∧ x ≤ 1000 then some 1 else some 0 := in8 (lo := 0) (hi := 1000) h5 h6 (by omega) (by omega) (by omega) (by omega)
  have i9 : D_X9_in (n32 x).toInt64 0 1000 = if 0 ≤ x ∧ x ≤ 1000 then some 1 else some 0 := in9L (lo := 0) (hi := 1000) h5 h6 (by omega) (by omega) (by omega) (by omega)
  by_cases e : 0 ≤ k ∧ k < (B : Int)
  · by_cases e2 : 0 ≤ j ∧ j < (S : Int)
    · by_cases e3 : 0 ≤ x ∧ x ≤ 1000
      · obtain ⟨b, rfl⟩ : ∃ t : Nat, k = (t : Int) := ⟨k.toNat, by omega⟩
        obtain ⟨i, rfl⟩ : ∃ t : Nat, j = (t : Int) := ⟨j.toNat, by omega⟩
        obtain ⟨g1, g2, g3⟩ := hm.2.2.1 b i (by omega) (by omega)
        have hix : (4 : Int32) * n32 (b : Int) + n32 (i : Int) = n32 ((4 * b + i : Nat) : Int) := by rw [l32_4, n32_mul, n32_add]; congr 1
        have at2 : ∀ c k, (zwI (zwI s (55 + b) i (n32 x)) 75 (4 * b + i) (n32 x)).1 c k = if c = 75 ∧ k = 4 * b + i then n32 x else if c = 55 + b ∧ k = i then n32 x else s.1 c k := fun c k => by rw [zwI_at, zwI_at]
        have ow : own (55 + b) i = 6 := by unfold own; rw [if_neg (by omega), if_neg (by omega), if_neg (by omega), if_neg (by omega), if_neg (by omega), if_pos (by omega)]
        refine Rel_m (r := n32 (G b i)) (s1 := zwI s (55 + b) i (n32 x)) (s' := zwI (zwI s (55 + b) i (n32 x)) 75 (4 * b + i) (n32 x)) (B' := B) (S' := S) (G' := fun t l => if t = b ∧ l = i then x else G t l) (Q' := Q) h ?_ ?_ (fr_t (fr_wI s _ _ _ (Or.inr ow)) (fr_wI _ 75 _ _ (Or.inr rfl))) ⟨⟨?_, ?_, hB⟩, ⟨?_, ?_, hS⟩, fun t l htt hl => ⟨?_, ?_, ?_⟩, fun l hl => ⟨?_, ?_, (hm.2.2.2 l hl).2.2⟩⟩
        · try dsimp only
          unfold D_X8_gain D_X4_replaceGain
          rw [buyer8 hm h1 h2, if_pos e, zbs, zi1, seller8 hm h3 h4, if_pos e2, zbs, zi1, i8, if_pos e3, zbs, zi1, zgd_t (czin (by omega) (by omega)), zT54 b (by omega), zgd_t (zoI55 b (by omega) i (by omega)), zgd_t (czin (by omega) (by omega)), zgd_t (zoI55 b (by omega) i (by omega)), n32_xn (by omega), g1, zbs]
        · have q17 : (zwI s (55 + b) i (n32 x)).1 66 17 = s.1 66 17 := by rw [zwI_at, if_neg (by omega)]
          have q18 : (zwI s (55 + b) i (n32 x)).1 66 18 = s.1 66 18 := by rw [zwI_at, if_neg (by omega)]
          try dsimp only
          unfold D_X9_gain
          rw [q17, buyer9 hm h1 h2, if_pos e, zbs, zi1, q18, seller9 hm h3 h4, if_pos e2, zbs, zi1, i9, if_pos e3, zbs, zi1, hix, zgd_t (czin (by omega) (by omega)), zgd_t (czin (by omega) (by omega)), n32_xn (by omega), show (zwI s (55 + b) i (n32 x)).1 75 (4 * b + i) = n32 (G b i) by rw [zwI_at, if_neg (by omega)]; exact g2]
        · rw [at2, if_neg (by omega), if_neg (by omega)]; exact hm.1.1
        · rw [at2, if_neg (by omega), if_neg (by omega)]; exact hm.1.2.1
        · rw [at2, if_neg (by omega), if_neg (by omega)]; exact hm.2.1.1
        · rw [at2, if_neg (by omega), if_neg (by omega)]; exact hm.2.1.2.1
        · rw [at2, if_neg (by omega)]
          try dsimp only
          by_cases e4 : t = b ∧ l = i
          · rw [if_pos (by omega), if_pos e4]
          · rw [if_neg (by omega), if_neg e4]; exact (hm.2.2.1 t l htt hl).1
        · rw [at2]
          try dsimp only
          by_cases e4 : t = b ∧ l = i
          · rw [if_pos (by omega), if_pos e4]
          · rw [if_neg (by omega), if_neg (by omega), if_neg e4]; exact (hm.2.2.1 t l htt hl).2.1
        · try dsimp only
          by_cases e4 : t = b ∧ l = i
          · rw [if_pos e4]; exact e3
          · rw [if_neg e4]; exact (hm.2.2.1 t l htt hl).2.2
        · rw [at2, if_neg (by omega), if_neg (by omega)]; exact (hm.2.2.2 l hl).1
        · rw [at2, if_neg (by omega), if_neg (by omega)]; exact (hm.2.2.2 l hl).2.1
      · refine cOk_same h (r := -2) ?_ ?_
        · try dsimp only
          unfold D_X8_gain
          rw [buyer8 hm h1 h2, if_pos e, zbs, zi1, seller8 hm h3 h4, if_pos e2, zbs, zi1, i8, if_neg e3, zbs, zi0]
        · try dsimp only
          unfold D_X9_gain
          rw [buyer9 hm h1 h2, if_pos e, zbs, zi1, seller9 hm h3 h4, if_pos e2, zbs, zi1, i9, if_neg e3, zbs, zi0]
    · refine cOk_same h (r := -2) ?_ ?_
      · try dsimp only
        unfold D_X8_gain
        rw [buyer8 hm h1 h2, if_pos e, zbs, zi1, seller8 hm h3 h4, if_neg e2, zbs, zi0]
      · try dsimp only
        unfold D_X9_gain
        rw [buyer9 hm h1 h2, if_pos e, zbs, zi1, seller9 hm h3 h4, if_neg e2, zbs, zi0]
  · refine cOk_same h (r := -2) ?_ ?_
    · try dsimp only
      unfold D_X8_gain
      rw [buyer8 hm h1 h2, if_neg e, zbs, zi0]
    · try dsimp only
      unfold D_X9_gain
      rw [buyer9 hm h1 h2, if_neg e, zbs, zi0]
theorem call_tell (h : Rel s) (hm : mRel s B S G Q) (a b : Int32) : cOk s (fun s => D_X8_tell s a b) (fun s => D_X9_tell s a b) := by
  obtain ⟨k, rfl, h1, h2⟩ := i32_of a
  obtain ⟨x, rfl, h5, h6⟩ := i32_of b
  have hB := hm.1.2.2
  have hS := hm.2.1.2.2
  have i8 : D_X8_within (n32 x) 0 1000 = if 0 ≤ x ∧ x ≤ 1000 then some 1 else some 0 := in8 (lo := 0) (hi := 1000) h5 h6 (by omega) (by omega) (by omega) (by omega)
  have i9 : D_X9_in (n32 x).toInt64 0 1000 = if 0 ≤ x ∧ x ≤ 1000 then some 1 else some 0 := in9L (lo := 0) (hi := 1000) h5 h6 (by omega) (by omega) (by omega) (by omega)
  by_cases e : 0 ≤ k ∧ k < (S : Int)
  · by_cases e3 : 0 ≤ x ∧ x ≤ 1000
    · obtain ⟨i, rfl⟩ : ∃ t : Nat, k = (t : Int) := ⟨k.toNat, by omega⟩
      obtain ⟨g1, g2, g3⟩ := hm.2.2.2 i (by omega)
      have at2 : ∀ c k, (zwI (zwI s 59 i (n32 x)) 76 i (n32 x)).1 c k = if c = 76 ∧ k = i then n32 x else if c = 59 ∧ k = i then n32 x else s.1 c k := fun c k => by rw [zwI_at, zwI_at]
      refine Rel_m (r := n32 (Q i)) (s1 := zwI s 59 i (n32 x)) (s' := zwI (zwI s 59 i (n32 x)) 76 i (n32 x)) (B' := B) (S' := S) (G' := G) (Q' := fun l => if l = i then x else Q l) h ?_ ?_ (fr_t (fr_wI s 59 _ _ (Or.inr rfl)) (fr_wI _ 76 _ _ (Or.inr rfl))) ⟨⟨?_, ?_, hB⟩, ⟨?_, ?_, hS⟩, fun t l htt hl => ⟨?_, ?_, (hm.2.2.1 t l htt hl).2.2⟩, fun l hl => ⟨?_, ?_, ?_⟩⟩
      · try dsimp only
        unfold D_X8_tell D_X4_replacePrice
        rw [seller8 hm h1 h2, if_pos e, zbs, zi1, i8, if_pos e3, zbs, zi1, zgd_t (czin (by omega) (by omega)), zgd_t (czin (by omega) (by omega)), n32_xn (by omega), g1, zbs]
      · have q18 : (zwI s 59 i (n32 x)).1 66 18 = s.1 66 18 := by rw [zwI_at, if_neg (by omega)]
        try dsimp only
        unfold D_X9_tell
        rw [q18, seller9 hm h1 h2, if_pos e, zbs, zi1, i9, if_pos e3, zbs, zi1, zgd_t (czin (by omega) (by omega)), zgd_t (czin (by omega) (by omega)), n32_xn (by omega), show (zwI s 59 i (n32 x)).1 76 i = n32 (Q i) by rw [zwI_at, if_neg (by omega)]; exact g2]
      · rw [at2, if_neg (by omega), if_neg (by omega)]; exact hm.1.1
      · rw [at2, if_neg (by omega), if_neg (by omega)]; exact hm.1.2.1
      · rw [at2, if_neg (by omega), if_neg (by omega)]; exact hm.2.1.1
      · rw [at2, if_neg (by omega), if_neg (by omega)]; exact hm.2.1.2.1
      · rw [at2, if_neg (by omega), if_neg (by omega)]; exact (hm.2.2.1 t l htt hl).1
      · rw [at2, if_neg (by omega), if_neg (by omega)]; exact (hm.2.2.1 t l htt hl).2.1
      · rw [at2, if_neg (by omega)]
        try dsimp only
        by_cases e4 : l = i
        · rw [if_pos (by omega), if_pos e4]
        · rw [if_neg (by omega), if_neg e4]; exact (hm.2.2.2 l hl).1
      · rw [at2]
        try dsimp only
        by_cases e4 : l = i
        · rw [if_pos (by omega), if_pos e4]
        · rw [if_neg (by omega), if_neg (by omega), if_neg e4]; exact (hm.2.2.2 l hl).2.1
      · try dsimp only
        by_cases e4 : l = i
        · rw [if_pos e4]; exact e3
        · rw [if_neg e4]; exact (hm.2.2.2 l hl).2.2
    · refine cOk_same h (r := -2) ?_ ?_
      · try dsimp only
        unfold D_X8_tell
        rw [seller8 hm h1 h2, if_pos e, zbs, zi1, i8, if_neg e3, zbs, zi0]
      · try dsimp only
        unfold D_X9_tell
        rw [seller9 hm h1 h2, if_pos e, zbs, zi1, i9, if_neg e3, zbs, zi0]
  · refine cOk_same h (r := -2) ?_ ?_
    · try dsimp only
      unfold D_X8_tell
      rw [seller8 hm h1 h2, if_neg e, zbs, zi0]
    · try dsimp only
      unfold D_X9_tell
      rw [seller9 hm h1 h2, if_neg e, zbs, zi0]
end MK
