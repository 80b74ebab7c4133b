/-! the calls dividend, fails and value -/
theorem cOk_frac {s s2 : zS} {q : Rat} {c8 c9 : zS → Option (Int32 × zS)} (h : Rel s) (h8 : c8 s = some (1, zwL (zwL s 1 0 (n64 q.num)) 1 1 (n64 (q.den : Int)))) (h9 : c9 (zwL (zwL s 1 0 (n64 q.num)) 1 1 (n64 (q.den : Int))) = some (1, zwL (zwL s2 66 3 (n64 q.num)) 66 4 (n64 (q.den : Int)))) (hf : fr (fun _ => False) (zwL (zwL s 1 0 (n64 q.num)) 1 1 (n64 (q.den : Int))) s2) : cOk s c8 c9 := by
  obtain ⟨⟨n, v, hw, hk⟩, ⟨g, hg⟩, ⟨m, W, q', hv⟩, ⟨m', C, E, hc'⟩, ⟨p, h', c, w, u, a', y, ht⟩, ⟨B, S, G, Q, hm⟩, -⟩ := h
  have ff : fr (fun i => i = 8) s (zwL (zwL s2 66 3 (n64 q.num)) 66 4 (n64 (q.den : Int))) := fr_t (fr_wL s 1 0 _ (Or.inr rfl)) (fr_t (fr_wL _ 1 1 _ (Or.inr rfl)) (fr_t (fr_m hf (fun i hi => hi.elim)) (fr_t (fr_wL _ 66 3 _ (Or.inr rfl)) (fr_wL _ 66 4 _ (Or.inr rfl)))))
  refine ⟨1, _, _, h8, h9, ⟨n, v, wRel_f hw ff (by decide), calmK_fr hk hw.1.2.2.1 ff (by decide)⟩, ⟨g, gRel_f hg ff (by decide)⟩, ⟨m, W, q', vRel_f hv ff (by decide)⟩, ⟨m', C, E, cRel_f hc' ff (by decide)⟩, ⟨p, h', c, w, u, a', y, tRel_f ht ff (by decide)⟩, ⟨B, S, G, Q, mRel_f hm ff (by decide)⟩, ?_, ?_⟩
  · have e := hf.2 1 0 (by decide) (fun q => q)
    rw [zwL_at, if_neg (by omega), zwL_at, if_neg (by omega), e, zwL_at, if_neg (by omega), zwL_at, if_pos ⟨rfl, rfl⟩, zwL_at, if_neg (by omega), zwL_at, if_pos ⟨rfl, rfl⟩]
  · have e := hf.2 1 1 (by decide) (fun q => q)
    rw [zwL_at, if_neg (by omega), zwL_at, if_neg (by omega), e, zwL_at, if_pos ⟨rfl, rfl⟩, zwL_at, if_pos ⟨rfl, rfl⟩]
def pcn (S : Nat) : Nat := hb S 0 + hb S 1 + hb S 2 + hb S 3
theorem j6_pcn (S : Nat) (h : S < 16) : D_J6_bitCount_0f7a4 (n32 (S : Int)) = some (n32 (pcn S : Int)) := j6_bits S h
theorem pcn_le (S : Nat) : pcn S ≤ 4 := by
  have h0 := hb_01 S 0
  have h1 := hb_01 S 1
  have h2 := hb_01 S 2
  have h3 := hb_01 S 3
  unfold pcn
  omega
theorem dv_and : ∀ S : Nat, S < 16 → ∀ k : Nat, k < 16 → (n32 (k : Int) &&& n32 (S : Int)) = n32 ((k &&& S : Nat) : Int) := by decide +kernel
theorem dv_or : ∀ S : Nat, S < 16 → ∀ k : Nat, k < 16 → (n32 (k : Int) ||| n32 (S : Int)) = n32 ((k ||| S : Nat) : Int) := by decide +kernel
theorem dv_no : ∀ S : Nat, S < 16 → ∀ k : Nat, k < 16 → ((n32 (k : Int) &&& (n32 (S : Int) ^^^ (-1 : Int32))) = 0 ↔ k &&& S = k) ∧ (k &&& S = k → D_X9_bits (n32 (S : Int) &&& (n32 (k : Int) ^^^ (-1 : Int32))) = some (n32 (pcn (S - k) : Int))) := by decide +kernel
theorem dv_le {S k : Nat} (h : k &&& S = k) : k ≤ S := by rw [← h]; exact Nat.and_le_right
theorem dv_par : ∀ b : Nat, b < 5 → ((n32 (b : Int) - n32 (b : Int) / 2 * 2 = 0) ↔ b % 2 = 0) := by decide +kernel
section DV
variable {s : zS} {n : Nat} {v : Nat → Int}
def dvF (v : Nat → Int) (S k : Nat) (t : Int) : Int := if k &&& S = k then (if pcn (S - k) % 2 = 0 then t + v k else t + -v k) else t
theorem call_dividend (hw : wRel s n v) (a : Int32) : cPu (D_X8_dividend s a) (D_X9_dividend s a) := by
  obtain ⟨j, rfl, h1, h2⟩ := i32_of a
  have hp := pow_le4 hw.1.2.2.1
  unfold D_X8_dividend D_X9_dividend D_X7_dividendOf
  rw [set7 hw h1 h2, set9 hw h1 h2]
  by_cases e : 1 ≤ j ∧ j < ((2 ^ n : Nat) : Int)
  · obtain ⟨S, rfl⟩ : ∃ t : Nat, j = (t : Int) := ⟨j.toNat, by omega⟩
    have hS : S < 16 := by omega
    have f8 := zfold (lo := 1) (hi := S + 1) (step := dvF v S) (fin := fun t : Int => some (n32 t)) (fun f k t => D_X7_dividendOf_L4 s (n32 (S : Int)) f (n32 t) (n32 (k : Int))) (fun f k t _ hk => by
      try dsimp only
      rw [D_X7_dividendOf_L4_s]
      unfold D_X7_dividendOf_B4 D_X7_dividendOf_J48 dvF
      rw [zif_f (by rw [c32_lt (by omega) (by omega)]; omega), dv_and S hS k (by omega), nsuc]
      by_cases e2 : k &&& S = k
      · have hle := dv_le e2
        have hpc := pcn_le (S - k)
        rw [zif_t (by rw [e2]), if_pos e2, n32_sub, show (S : Int) - (k : Int) = ((S - k : Nat) : Int) by omega, j6_pcn _ (by omega), zbs]
        by_cases e3 : pcn (S - k) % 2 = 0
        · rw [zif_t ((dv_par _ (by omega)).mpr e3), if_pos e3, zgd_t (czin (by omega) (by omega)), n32_xn (by omega), hw.1.2.2.2.1 k (by omega), n32_add]
        · rw [zif_f (fun q => e3 ((dv_par _ (by omega)).mp q)), if_neg e3, zgd_t (czin (by omega) (by omega)), n32_xn (by omega), hw.1.2.2.2.1 k (by omega), n32_neg, n32_add]
      · rw [zif_f (fun q => e2 (by
          have hlt : k &&& S < 16 := Nat.lt_of_le_of_lt Nat.and_le_left (by omega)
          have := (n32_eq (by omega) (by omega) (by omega) (by omega)).mp q
          omega)), if_neg e2]) (fun f t => by
      try dsimp only
      rw [D_X7_dividendOf_L4_s]
      unfold D_X7_dividendOf_B4
      rw [zif_t (by rw [c32_lt (by omega) (by omega)]; omega)]) S zFU 1 0 (by omega) (by omega) (zFU_lt (by omega))
    have f9 := zfold (lo := 1) (hi := S + 1) (step := dvF v S) (fin := fun t : Int => some (n32 t)) (fun f k t => D_X9_dividend_L15 s (n32 (S : Int)) f (n32 t) (n32 (k : Int))) (fun f k t _ hk => by
      try dsimp only
      rw [D_X9_dividend_L15_s]
      unfold D_X9_dividend_B15 D_X9_dividend_J58 dvF
      rw [zif_f (by rw [c32_lt (by omega) (by omega)]; omega), nsuc]
      by_cases e2 : k &&& S = k
      · have hpc := pcn_le (S - k)
        rw [zif_t ((dv_no S hS k (by omega)).1.mpr e2), if_pos e2, (dv_no S hS k (by omega)).2 e2, zbs]
        by_cases e3 : pcn (S - k) % 2 = 0
        · rw [zif_t ((dv_par _ (by omega)).mpr e3), if_pos e3, zgd_t (czin (by omega) (by omega)), n32_xn (by omega), hw.2.1.2.2.2.1 k (by omega), n32_add]
        · rw [zif_f (fun q => e3 ((dv_par _ (by omega)).mp q)), if_neg e3, zgd_t (czin (by omega) (by omega)), n32_xn (by omega), hw.2.1.2.2.2.1 k (by omega), n32_neg, n32_add]
      · rw [zif_f (fun q => e2 ((dv_no S hS k (by omega)).1.mp q)), if_neg e2]) (fun f t => by
      try dsimp only
      rw [D_X9_dividend_L15_s]
      unfold D_X9_dividend_B15
      rw [zif_t (by rw [c32_lt (by omega) (by omega)]; omega)]) S zFU 1 0 (by omega) (by omega) (zFU_lt (by omega))
    have f8' : D_X7_dividendOf_L4 s (n32 (S : Int)) zFU 0 1 = _ := f8
    have f9' : D_X9_dividend_L15 s (n32 (S : Int)) zFU 0 1 = _ := f9
    rw [if_pos e, zbs, zbs, zi1, zi1, f8', f9']
    exact ⟨_, rfl, rfl⟩
  · rw [if_neg e, zbs, zbs, zi0, zi0]
    exact ⟨_, rfl, rfl⟩
theorem zfst_map {β γ : Type} {p : Nat → Bool} {val : Nat → β} {d : β} (F : β → γ) : ∀ m k, F (zfst p val d m k) = zfst p (fun k => F (val k)) (F d) m k
  | 0, _ => rfl
  | m + 1, k => by
    rw [zfst, zfst, ← zfst_map F m (k + 1)]
    split <;> rfl
/-- two sets that fail -/
def faB (v : Nat → Int) (w : Bool) (a b : Nat) : Bool := (w || decide (a &&& b = 0)) && decide (v (a ||| b) + v (a &&& b) < v a + v b)
def faV (n : Nat) (v : Nat → Int) (w : Bool) : Nat → Nat → Int
  | 0, _ => -1
  | m + 1, a => zfst (faB v w a) (fun b => 16 * (a : Int) + (b : Int)) (faV n v w m (a + 1)) (2 ^ n - (a + 1)) (a + 1)
theorem c_apart (hw : wRel s n v) : ∀ (m f a : Nat), a + m = 2 ^ n → 1 ≤ a → m < f → D_X7_firstBetterApart_L2 s f (n32 (a : Int)) = some (n32 (faV n v false m a)) := by
  have hp := pow_le4 hw.1.2.2.1
  intro m
  induction m with
  | zero =>
    intro f a ha h1 hf
    obtain ⟨f, rfl⟩ : ∃ j, f = j + 1 := ⟨f - 1, by omega⟩
    rw [D_X7_firstBetterApart_L2_s]
    unfold D_X7_firstBetterApart_B2
    rw [all7 hw, zbs, zif_t (by rw [c32_lt (by omega) (by omega)]; omega)]; rfl
  | succ m ih =>
    intro f a ha h1 hf
    obtain ⟨f, rfl⟩ : ∃ j, f = j + 1 := ⟨f - 1, by omega⟩
    rw [D_X7_firstBetterApart_L2_s]
    unfold D_X7_firstBetterApart_B2
    rw [all7 hw, zbs, zif_f (by rw [c32_lt (by omega) (by omega)]; omega), nsuc, faV, zfst_map (fun z : Int => some (n32 z)), ← ih f (a + 1) (by omega) (by omega) (by omega)]
    refine zfirst (lo := a + 1) (hi := 2 ^ n) (fun f b => D_X7_firstBetterApart_L14 (D_X7_firstBetterApart_L2 s _) s (n32 (a : Int)) f (n32 (b : Int))) (fun f b l1 l2 => ?_) (fun f => ?_) _ zFU (a + 1) (by omega) (by omega) (zFU_lt (by omega))
    · have o16 : a ||| b < 16 := Nat.or_lt_two_pow (n := 4) (by omega) (by omega)
      have b1 := hw.1.2.2.2.2 a (by omega)
      have b2 := hw.1.2.2.2.2 b (by omega)
      have b3 := hw.1.2.2.2.2 (a ||| b) o16
      try dsimp only
      rw [D_X7_firstBetterApart_L14_s]
      unfold D_X7_firstBetterApart_B14 faB
      rw [all7 hw, zbs, zif_f (by rw [c32_lt (by omega) (by omega)]; omega), dv_and b (by omega) a (by omega), dv_or b (by omega) a (by omega), nsuc, Bool.false_or]
      have hlt : a &&& b < 16 := Nat.lt_of_le_of_lt Nat.and_le_left (by omega)
      by_cases e : a &&& b = 0
      · rw [zif_t (by rw [e]; rfl), zgd_t (czin (by omega) (by omega)), zgd_t (czin (by omega) (by omega)), zgd_t (czin (by omega) (by omega)), n32_xn (by omega), n32_xn (by omega), n32_xn (by omega), hw.1.2.2.2.1 a (by omega), hw.1.2.2.2.1 b (by omega), hw.1.2.2.2.1 _ o16, n32_add, l32_16, n32_mul, n32_add, decide_eq_true e, Bool.true_and, e, hw.2.2]
        by_cases e2 : v (a ||| b) + 0 < v a + v b
        · rw [zif_f (by rw [n32_le (by omega) (by omega) (by omega) (by omega)]; omega), if_pos (decide_eq_true e2)]
        · rw [zif_t (by rw [n32_le (by omega) (by omega) (by omega) (by omega)]; omega), if_neg (by rw [decide_eq_true_iff]; exact e2)]
      · rw [zif_f (fun q => e (by rw [l32_0] at q; have := (n32_eq (by omega) (by omega) (by omega) (by omega)).mp q; omega)), decide_eq_false e, Bool.false_and]; rfl
    · try dsimp only
      rw [D_X7_firstBetterApart_L14_s]
      unfold D_X7_firstBetterApart_B14
      rw [all7 hw, zbs, zif_t (by rw [c32_lt (by omega) (by omega)]; omega), nsuc]
theorem c_more2 (hw : wRel s n v) : ∀ (m f a : Nat), a + m = 2 ^ n → 1 ≤ a → m < f → D_X7_firstLessByMore_L2 s f (n32 (a : Int)) = some (n32 (faV n v true m a)) := by
  have hp := pow_le4 hw.1.2.2.1
  intro m
  induction m with
  | zero =>
    intro f a ha h1 hf
    obtain ⟨f, rfl⟩ : ∃ j, f = j + 1 := ⟨f - 1, by omega⟩
    rw [D_X7_firstLessByMore_L2_s]
    unfold D_X7_firstLessByMore_B2
    rw [all7 hw, zbs, zif_t (by rw [c32_lt (by omega) (by omega)]; omega)]; rfl
  | succ m ih =>
    intro f a ha h1 hf
    obtain ⟨f, rfl⟩ : ∃ j, f = j + 1 := ⟨f - 1, by omega⟩
    rw [D_X7_firstLessByMore_L2_s]
    unfold D_X7_firstLessByMore_B2
    rw [all7 hw, zbs, zif_f (by rw [c32_lt (by omega) (by omega)]; omega), nsuc, faV, zfst_map (fun z : Int => some (n32 z)), ← ih f (a + 1) (by omega) (by omega) (by omega)]
    refine zfirst (lo := a + 1) (hi := 2 ^ n) (fun f b => D_X7_firstLessByMore_L14 (D_X7_firstLessByMore_L2 s _) s (n32 (a : Int)) f (n32 (b : Int))) (fun f b l1 l2 => ?_) (fun f => ?_) _ zFU (a + 1) (by omega) (by omega) (zFU_lt (by omega))
    · have o16 : a ||| b < 16 := Nat.or_lt_two_pow (n := 4) (by omega) (by omega)
      have a16 : a &&& b < 16 := Nat.lt_of_le_of_lt Nat.and_le_left (by omega)
      have b1 := hw.1.2.2.2.2 a (by omega)
      have b2 := hw.1.2.2.2.2 b (by omega)
      have b3 := hw.1.2.2.2.2 (a ||| b) o16
      have b4 := hw.1.2.2.2.2 (a &&& b) a16
      try dsimp only
      rw [D_X7_firstLessByMore_L14_s]
      unfold D_X7_firstLessByMore_B14 faB
      rw [all7 hw, zbs, zif_f (by rw [c32_lt (by omega) (by omega)]; omega), dv_and b (by omega) a (by omega), dv_or b (by omega) a (by omega), nsuc, Bool.true_or, Bool.true_and, zgd_t (czin (by omega) (by omega)), zgd_t (czin (by omega) (by omega)), zgd_t (czin (by omega) (by omega)), zgd_t (czin (by omega) (by omega)), n32_xn (by omega), n32_xn (by omega), n32_xn (by omega), n32_xn (by omega), hw.1.2.2.2.1 a (by omega), hw.1.2.2.2.1 b (by omega), hw.1.2.2.2.1 _ o16, hw.1.2.2.2.1 _ a16, n32_add, n32_add, l32_16, n32_mul, n32_add]
      by_cases e2 : v (a ||| b) + v (a &&& b) < v a + v b
      · rw [zif_f (by rw [n32_le (by omega) (by omega) (by omega) (by omega)]; omega), if_pos (decide_eq_true e2)]
      · rw [zif_t (by rw [n32_le (by omega) (by omega) (by omega) (by omega)]; omega), if_neg (by rw [decide_eq_true_iff]; exact e2)]
    · try dsimp only
      rw [D_X7_firstLessByMore_L14_s]
      unfold D_X7_firstLessByMore_B14
      rw [all7 hw, zbs, zif_t (by rw [c32_lt (by omega) (by omega)]; omega), nsuc]
theorem r_fails (hw : wRel s n v) {w : Bool} : ∀ (m f a : Nat), a + m = 2 ^ n → 1 ≤ a → m < f → D_X9_fails_L15 s (zfl w) f (n32 (a : Int)) = some (n32 (faV n v w m a)) := by
  have hp := pow_le4 hw.1.2.2.1
  intro m
  induction m with
  | zero =>
    intro f a ha h1 hf
    obtain ⟨f, rfl⟩ : ∃ j, f = j + 1 := ⟨f - 1, by omega⟩
    rw [D_X9_fails_L15_s]
    unfold D_X9_fails_B15
    rw [all9 hw, zbs, zif_t (by rw [c32_lt (by omega) (by omega)]; omega)]; rfl
  | succ m ih =>
    intro f a ha h1 hf
    obtain ⟨f, rfl⟩ : ∃ j, f = j + 1 := ⟨f - 1, by omega⟩
    rw [D_X9_fails_L15_s]
    unfold D_X9_fails_B15
    rw [all9 hw, zbs, zif_f (by rw [c32_lt (by omega) (by omega)]; omega), nsuc, faV, zfst_map (fun z : Int => some (n32 z)), ← ih f (a + 1) (by omega) (by omega) (by omega)]
    refine zfirst (lo := a + 1) (hi := 2 ^ n) (fun f b => D_X9_fails_L27 (D_X9_fails_L15 s (zfl w) _) s (zfl w) (n32 (a : Int)) f (n32 (b : Int))) (fun f b l1 l2 => ?_) (fun f => ?_) _ zFU (a + 1) (by omega) (by omega) (zFU_lt (by omega))
    · have o16 : a ||| b < 16 := Nat.or_lt_two_pow (n := 4) (by omega) (by omega)
      have a16 : a &&& b < 16 := Nat.lt_of_le_of_lt Nat.and_le_left (by omega)
      have b1 := hw.1.2.2.2.2 a (by omega)
      have b2 := hw.1.2.2.2.2 b (by omega)
      have b3 := hw.1.2.2.2.2 (a ||| b) o16
      have b4 := hw.1.2.2.2.2 (a &&& b) a16
      have key : ∀ (r15 r27 : Int32 → Option Int32), D_X9_fails_J51 r15 r27 s (zfl w) (n32 (a : Int)) (n32 (b : Int)) 1 = if v (a ||| b) + v (a &&& b) < v a + v b then some (n32 (16 * (a : Int) + (b : Int))) else r27 (n32 ((b + 1 : Nat) : Int)) := fun r15 r27 => by
        unfold D_X9_fails_J51
        rw [zi1, dv_and b (by omega) a (by omega), dv_or b (by omega) a (by omega), nsuc, zgd_t (czin (by omega) (by omega)), zgd_t (czin (by omega) (by omega)), zgd_t (czin (by omega) (by omega)), zgd_t (czin (by omega) (by omega)), n32_xn (by omega), n32_xn (by omega), n32_xn (by omega), n32_xn (by omega), hw.2.1.2.2.2.1 a (by omega), hw.2.1.2.2.2.1 b (by omega), hw.2.1.2.2.2.1 _ o16, hw.2.1.2.2.2.1 _ a16, n32_add, n32_add, l32_16, n32_mul, n32_add]
        by_cases e2 : v (a ||| b) + v (a &&& b) < v a + v b
        · rw [zif_f (by rw [n32_le (by omega) (by omega) (by omega) (by omega)]; omega), if_pos e2]
        · rw [zif_t (by rw [n32_le (by omega) (by omega) (by omega) (by omega)]; omega), if_neg e2]
      have fin : ∀ (x y : Option Int32), (if v (a ||| b) + v (a &&& b) < v a + v b then x else y) = if decide (v (a ||| b) + v (a &&& b) < v a + v b) = true then x else y := fun x y => by
        by_cases e2 : v (a ||| b) + v (a &&& b) < v a + v b
        · rw [if_pos e2, if_pos (decide_eq_true e2)]
        · rw [if_neg e2, if_neg (by rw [decide_eq_true_iff]; exact e2)]
      try dsimp only
      rw [D_X9_fails_L27_s]
      unfold D_X9_fails_B27 D_X9_fails_J46 faB
      rw [all9 hw, zbs, zif_f (by rw [c32_lt (by omega) (by omega)]; omega), dv_and b (by omega) a (by omega), key]
      cases w
      · rw [zif_f (show ¬ zfl false = 1 by decide), Bool.false_or]
        by_cases e : a &&& b = 0
        · rw [zif_t (by rw [e]; rfl), decide_eq_true e, Bool.true_and, fin]
        · rw [zif_f (fun q => e (by rw [l32_0] at q; have := (n32_eq (by omega) (by omega) (by omega) (by omega)).mp q; omega)), decide_eq_false e, Bool.false_and]
          unfold D_X9_fails_J51
          rw [zi0, nsuc]; rfl
      · rw [zif_t (show zfl true = 1 from rfl), Bool.true_or, Bool.true_and, fin]
    · try dsimp only
      rw [D_X9_fails_L27_s]
      unfold D_X9_fails_B27
      rw [all9 hw, zbs, zif_t (by rw [c32_lt (by omega) (by omega)]; omega), nsuc]
theorem call_fails (hw : wRel s n v) (a : Int32) : cPu (D_X8_fails s a) (D_X9_fails s a) := by
  obtain ⟨k, rfl, h1, h2⟩ := i32_of a
  have hp := pow_le4 hw.1.2.2.1
  have hp1 : 1 ≤ 2 ^ n := Nat.one_le_two_pow
  have i9 : D_X9_in (n32 k).toInt64 0 1 = if 0 ≤ k ∧ k ≤ 1 then some 1 else some 0 := in9L (lo := 0) (hi := 1) h1 h2 (by omega) (by omega) (by omega) (by omega)
  unfold D_X8_fails D_X9_fails D_X7_firstBetterApart D_X7_firstLessByMore
  rw [share8 h1 h2, i9]
  have c0 : D_X7_firstBetterApart_L2 s zFU 1 = _ := c_apart hw (2 ^ n - 1) zFU 1 (by omega) (by omega) (zFU_lt (by omega))
  have c1 : D_X7_firstLessByMore_L2 s zFU 1 = _ := c_more2 hw (2 ^ n - 1) zFU 1 (by omega) (by omega) (zFU_lt (by omega))
  by_cases e0 : k = 0
  · subst e0
    have r0 : D_X9_fails_L15 s (n32 0) zFU 1 = _ := r_fails hw (w := false) (2 ^ n - 1) zFU 1 (by omega) (by omega) (zFU_lt (by omega))
    rw [if_pos (by omega), zbs, zbs, zi1, zi1, zif_t (show n32 0 = (0 : Int32) from rfl), c0, r0]
    exact ⟨_, rfl, rfl⟩
  · by_cases e1 : k = 1
    · subst e1
      have r0 : D_X9_fails_L15 s (n32 1) zFU 1 = _ := r_fails hw (w := true) (2 ^ n - 1) zFU 1 (by omega) (by omega) (zFU_lt (by omega))
      rw [if_pos (by omega), zbs, zbs, zi1, zi1, zif_f (show ¬ n32 1 = (0 : Int32) by decide), c1, r0]
      exact ⟨_, rfl, rfl⟩
    · rw [if_neg (by omega), zbs, zbs, zi0, zi0]
      exact ⟨_, rfl, rfl⟩
end DV
