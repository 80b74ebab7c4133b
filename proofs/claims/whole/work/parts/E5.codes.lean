/-! the market: the reference's codes -/
theorem dv5 : ∀ a : Nat, a < 125 → ∀ r : Nat, r < 5 → n32 ((a * 5 + r : Nat) : Int) / 5 = n32 (a : Int) ∧ n32 ((a * 5 + r : Nat) : Int) - n32 ((a * 5 + r : Nat) : Int) / 5 * 5 - 1 = n32 ((r : Int) - 1) := by decide +kernel
/-- a row as a number -/
def enc5 (x : Nat → Nat) : Nat → Nat
  | 0 => 0
  | k + 1 => enc5 x k * 5 + x k
/-- a number's row -/
def dec5 (B code b : Nat) : Nat := code / 5 ^ (B - 1 - b) % 5
theorem dec5_lt (B code b : Nat) : dec5 B code b < 5 := Nat.mod_lt _ (by omega)
theorem enc5_dec {B code : Nat} (hc : code < 5 ^ B) : ∀ k, k ≤ B → enc5 (dec5 B code) k = code / 5 ^ (B - k) := by
  intro k
  induction k with
  | zero => intro _; rw [enc5, Nat.sub_zero, Nat.div_eq_of_lt hc]
  | succ k ih =>
    intro hk
    rw [enc5, ih (by omega)]
    unfold dec5
    rw [show B - k = (B - (k + 1)) + 1 by omega, show B - 1 - k = B - (k + 1) by omega, Nat.pow_succ, ← Nat.div_div_eq_div_mul]
    have := Nat.div_add_mod (code / 5 ^ (B - (k + 1))) 5
    omega
theorem enc5_lt {x : Nat → Nat} : ∀ k, (∀ b, b < k → x b < 5) → enc5 x k < 5 ^ k := by
  intro k
  induction k with
  | zero => intro _; exact Nat.one_pos
  | succ k ih =>
    intro h
    have h1 := ih (fun b hb => h b (by omega))
    have h2 := h k (by omega)
    rw [enc5, Nat.pow_succ]
    omega
theorem enc5_inj {x y : Nat → Nat} : ∀ k, (∀ b, b < k → x b < 5 ∧ y b < 5) → enc5 x k = enc5 y k → ∀ b, b < k → x b = y b := by
  intro k
  induction k with
  | zero => intro _ _ b hb; omega
  | succ k ih =>
    intro h he b hb
    have h1 := h k (by omega)
    rw [enc5, enc5] at he
    by_cases e : b = k
    · rw [e]; omega
    · exact ih (fun b hb => h b (by omega)) (by omega) b (by omega)
theorem dec5_enc {B : Nat} {x : Nat → Nat} (hx : ∀ b, b < B → x b < 5) : ∀ b, b < B → dec5 B (enc5 x B) b = x b := by
  have hlt := enc5_lt B hx
  have h := enc5_dec hlt B (Nat.le_refl _)
  rw [Nat.sub_self, Nat.pow_zero, Nat.div_one] at h
  exact enc5_inj B (fun b hb => ⟨dec5_lt _ _ _, hx b hb⟩) h
theorem enc5_less {x y : Nat → Nat} {b : Nat} (hy : ∀ e, y e < 5) (hp : ∀ e, e < b → y e = x e) (hb : y b < x b) : ∀ k, b < k → enc5 y k < enc5 x k := by
  have heq : ∀ k, k ≤ b → enc5 y k = enc5 x k := by
    intro k
    induction k with
    | zero => intro _; rfl
    | succ k ih => intro hk; rw [enc5, enc5, ih (by omega), hp k (by omega)]
  intro k
  induction k with
  | zero => intro h; omega
  | succ k ih =>
    intro hk
    rw [enc5, enc5]
    by_cases e : k = b
    · have := heq b (Nat.le_refl _)
      rw [e]; omega
    · have := ih (by omega)
      have := hy k
      omega
section CD
variable {s : zS} {B S : Nat} {G : Nat → Nat → Int} {Q : Nat → Int} {tw sl mo : Int} {gone : Nat}
/-- how many of a seller's things the reference lets go -/
def cpN (sl mo : Int) (i : Nat) : Nat := if sl = (i : Int) ∧ mo = -1 then 0 else if sl = (i : Int) ∧ mo = 1 then 2 else 1
/-- a buyer more may go to seller i -/
def wkN (S : Nat) (sl mo : Int) (On Tw i : Nat) (w : Bool) : Bool := w && decide (i < S) && !decide (sl = (i : Int) ∧ mo = -1) && (!On.testBit i || (decide (sl = (i : Int) ∧ mo = 1) && !Tw.testBit i))
theorem r_j103 (hm : mRel s B S G Q) {rec32 : Int32 → Int32 → zS → Option (Int32 × zS)} {rec63 : Int32 → Int32 → Int32 → Int32 → Int32 → Int32 → Option (Int32 × zS)} {a3 a4 a5 a6 : Int32} {sum : Int} {On Tw k i : Nat} {w : Bool} (hsl : -1 ≤ sl ∧ sl < 4) (hmo : -1 ≤ mo ∧ mo ≤ 1) (hi : i < 4) (hk : k < B) (hOn : On < 16) (hTw : Tw < 16) : D_X9_mostOf_J103 rec32 rec63 s (n32 sl) (n32 mo) a3 a4 a5 a6 (n32 sum) (n32 (On : Int)) (n32 (Tw : Int)) (zfl w) (n32 (k : Int)) (n32 (i : Int)) (zfl (decide (sl = (i : Int) ∧ mo = 1))) = rec63 a6 (n32 (sum + if wkN S sl mo On Tw i w then G k i else 0)) (n32 ((On ||| 2 ^ i : Nat) : Int)) (n32 ((Tw ||| (if On.testBit i then 2 ^ i else 0) : Nat) : Int)) (zfl (wkN S sl mo On Tw i w)) (n32 ((k : Int) - 1)) := by
  have hB := hm.1.2.2
  have hS := hm.2.1.2.2
  have hback : n32 (k : Int) + -1 = n32 ((k : Int) - 1) := by rw [l32_1, n32_neg, n32_add]; rfl
  have h160 : ∀ w' : Bool, D_X9_mostOf_J160 rec32 rec63 s (n32 sl) (n32 mo) a3 a4 a5 a6 (n32 sum) (n32 (On : Int)) (n32 (Tw : Int)) (n32 (k : Int)) (n32 (i : Int)) (zfl w') = rec63 a6 (n32 (sum + if w' then G k i else 0)) (n32 ((On ||| 2 ^ i : Nat) : Int)) (n32 ((Tw ||| (if On.testBit i then 2 ^ i else 0) : Nat) : Int)) (zfl w') (n32 ((k : Int) - 1)) := fun w' => by
    have hix : (4 : Int32) * n32 (k : Int) + n32 (i : Int) = n32 ((4 * k + i : Nat) : Int) := by rw [l32_4, n32_mul, n32_add]; congr 1
    have h182 : ∀ t : Nat, D_X9_mostOf_J182 rec32 rec63 s (n32 sl) (n32 mo) a3 a4 a5 a6 (n32 sum) (n32 (On : Int)) (zfl w') (n32 (k : Int)) (n32 (i : Int)) (n32 (Tw : Int)) (n32 (t : Int)) = rec63 a6 (n32 (sum + if w' then G k i else 0)) (n32 ((On ||| 2 ^ i : Nat) : Int)) (n32 ((Tw ||| t : Nat) : Int)) (zfl w') (n32 ((k : Int) - 1)) := fun t => by
      unfold D_X9_mostOf_J182 D_X9_mostOf_J217
      rw [shlL i (by omega), n32_or, n32_or, hback]
      cases w'
      · rw [zb0, n32_0r, if_neg (by decide), Int.add_zero]
      · rw [zb1, hix, zgd_t (czin (by omega) (by omega)), n32_xn (by omega), (hm.2.2.1 k i (by omega) hi).2.1, n32_add, if_pos rfl]
    unfold D_X9_mostOf_J160
    rw [x9_hasL On (by omega) i (by omega), in_ite]
    by_cases e : On.testBit i = true
    · rw [if_pos e, zi1, shlL i (by omega), h182, if_pos e]
    · have h0 : D_X9_mostOf_J182 rec32 rec63 s (n32 sl) (n32 mo) a3 a4 a5 a6 (n32 sum) (n32 (On : Int)) (zfl w') (n32 (k : Int)) (n32 (i : Int)) (n32 (Tw : Int)) 0 = _ := h182 0
      rw [if_neg e, zi0, h0, if_neg e]
  have j159 : D_X9_mostOf_J159 rec32 rec63 s (n32 sl) (n32 mo) a3 a4 a5 a6 (n32 sum) (n32 (On : Int)) (n32 (Tw : Int)) (n32 (k : Int)) (n32 (i : Int)) = _ := h160 false
  have j155 : D_X9_mostOf_J155 rec32 rec63 s (n32 sl) (n32 mo) a3 a4 a5 a6 (n32 sum) (n32 (On : Int)) (n32 (Tw : Int)) (n32 (k : Int)) (n32 (i : Int)) = _ := h160 true
  have j130 : ∀ c : Bool, D_X9_mostOf_J130 rec32 rec63 s (n32 sl) (n32 mo) a3 a4 a5 a6 (n32 sum) (n32 (On : Int)) (n32 (Tw : Int)) (n32 (k : Int)) (n32 (i : Int)) (zfl c) = rec63 a6 (n32 (sum + if (!On.testBit i || (c && !Tw.testBit i)) then G k i else 0)) (n32 ((On ||| 2 ^ i : Nat) : Int)) (n32 ((Tw ||| (if On.testBit i then 2 ^ i else 0) : Nat) : Int)) (zfl (!On.testBit i || (c && !Tw.testBit i))) (n32 ((k : Int) - 1)) := fun c => by
    unfold D_X9_mostOf_J130
    rw [x9_hasL On (by omega) i (by omega), in_ite]
    cases e : On.testBit i
    · rw [if_neg (by decide), zi0, j155, e]; rfl
    · rw [if_pos rfl, zi1]
      cases c
      · rw [zb0, j159, e]; rfl
      · rw [zb1, x9_hasL Tw (by omega) i (by omega), in_ite]
        cases Tw.testBit i
        · rw [if_neg (by decide), zi0, j155, e]; rfl
        · rw [if_pos rfl, zi1, j159, e]; rfl
  unfold D_X9_mostOf_J103 wkN
  cases w
  · rw [zb0, j159]; rfl
  · rw [zb1, hm.2.1.2.1, Bool.true_and]
    by_cases e : i < S
    · rw [zif_f (by rw [c32_le (by omega) (by omega)]; omega), decide_eq_true e, Bool.true_and]
      by_cases e2 : sl = (i : Int)
      · rw [zif_t (by rw [e2])]
        by_cases e3 : mo = -1
        · rw [zif_t (by rw [e3]; decide), j159, decide_eq_true (show sl = (i : Int) ∧ mo = -1 from ⟨e2, e3⟩)]; rfl
        · rw [zif_f (fun q => e3 (by rw [l32_m1] at q; exact (n32_eq (by omega) (by omega) (by omega) (by omega)).mp q)), j130, decide_eq_false (show ¬ (sl = (i : Int) ∧ mo = -1) from fun q => e3 q.2)]; rfl
      · rw [zif_f (fun q => e2 (by have := (n32_eq (by omega) (by omega) (by omega) (by omega)).mp q; omega)), j130, decide_eq_false (show ¬ (sl = (i : Int) ∧ mo = -1) from fun q => e2 q.1)]; rfl
    · rw [zif_t (by rw [c32_le (by omega) (by omega)]; omega), j159, decide_eq_false e]; rfl
/-- what is known of a row's last d buyers -/
def cdI (B S : Nat) (G : Nat → Nat → Int) (tw : Int) (gone : Nat) (x : Nat → Nat) (d On Tw : Nat) (w : Bool) (sum : Int) : Prop := On < 16 ∧ Tw < 16 ∧ (∀ i, i < 4 → (On.testBit i = true ↔ 1 ≤ gvC B x i d) ∧ (Tw.testBit i = true ↔ 2 ≤ gvC B x i d)) ∧ (w = true ↔ gvP B S tw gone x d) ∧ (w = true → sum = gvW B G x d) ∧ 0 ≤ sum ∧ sum ≤ 1000 * (d : Int)
theorem cd_put (hm : mRel s B S G Q) (hcap : ∀ i, i < S → gvA tw gone i = cpN sl mo i) {x : Nat → Nat} {d On Tw i : Nat} {w : Bool} {sum : Int} (hd : d < B) (hx : x (B - (d + 1)) = i + 1) (hi : i < 4) (h : cdI B S G tw gone x d On Tw w sum) : cdI B S G tw gone x (d + 1) (On ||| 2 ^ i) (Tw ||| (if On.testBit i then 2 ^ i else 0)) (wkN S sl mo On Tw i w) (sum + if wkN S sl mo On Tw i w then G (B - (d + 1)) i else 0) := by
  obtain ⟨h1, h2, h3, h4, h5, h6, h7⟩ := h
  have hB := hm.1.2.2
  have hg := hm.2.2.1 (B - (d + 1)) i (by omega) hi
  have hC : ∀ l, gvC B x l (d + 1) = gvC B x l d + if l = i then 1 else 0 := fun l => by
    rw [gvC, hx]
    by_cases e : l = i
    · rw [if_pos (by omega), if_pos e]
    · rw [if_neg (by omega), if_neg e]
  have hw : wkN S sl mo On Tw i w = true ↔ gvP B S tw gone x (d + 1) := by
    have hP : gvP B S tw gone x (d + 1) ↔ gvP B S tw gone x d ∧ i < S ∧ gvC B x i d + 1 ≤ gvA tw gone i := by
      constructor
      · rintro ⟨p1, p2⟩
        have q1 := p1 d (by omega)
        rw [hx] at q1
        refine ⟨⟨fun e he => p1 e (by omega), fun l hl => ?_⟩, by omega, ?_⟩
        · have := p2 l hl
          rw [hC] at this
          omega
        · have := p2 i (by omega)
          rw [hC, if_pos rfl] at this
          exact this
      · rintro ⟨⟨p1, p2⟩, p3, p4⟩
        refine ⟨fun e he => ?_, fun l hl => ?_⟩
        · by_cases q : e = d
          · rw [q, hx]; omega
          · exact p1 e (by omega)
        · rw [hC]
          by_cases q : l = i
          · rw [if_pos q, q]; exact p4
          · rw [if_neg q]; exact p2 l hl
    rw [hP]
    unfold wkN
    obtain ⟨t1, t2⟩ := h3 i hi
    rw [Bool.and_eq_true, Bool.and_eq_true, Bool.and_eq_true, h4, decide_eq_true_iff]
    constructor
    · rintro ⟨⟨⟨p1, p2⟩, p3⟩, p4⟩
      refine ⟨p1, p2, ?_⟩
      rw [hcap i p2]
      unfold cpN
      have p3' : ¬ (sl = (i : Int) ∧ mo = -1) := by
        intro q
        rw [decide_eq_true q] at p3
        exact absurd p3 (by decide)
      rw [if_neg p3']
      rw [Bool.or_eq_true, Bool.and_eq_true, decide_eq_true_iff] at p4
      rcases p4 with p4 | ⟨p4, p5⟩
      · have : ¬ 1 ≤ gvC B x i d := fun q => by rw [t1.mpr q] at p4; exact absurd p4 (by decide)
        split <;> omega
      · have : ¬ 2 ≤ gvC B x i d := fun q => by rw [t2.mpr q] at p5; exact absurd p5 (by decide)
        rw [if_pos p4]; omega
    · rintro ⟨p1, p2, p3⟩
      rw [hcap i p2] at p3
      unfold cpN at p3
      have p4 : ¬ (sl = (i : Int) ∧ mo = -1) := fun q => by rw [if_pos q] at p3; omega
      rw [if_neg p4] at p3
      refine ⟨⟨⟨p1, p2⟩, by rw [decide_eq_false p4]; rfl⟩, ?_⟩
      rw [Bool.or_eq_true, Bool.and_eq_true, decide_eq_true_iff]
      by_cases q : sl = (i : Int) ∧ mo = 1
      · rw [if_pos q] at p3
        refine Or.inr ⟨q, ?_⟩
        cases e : Tw.testBit i
        · rfl
        · have := t2.mp e; omega
      · rw [if_neg q] at p3
        left
        cases e : On.testBit i
        · rfl
        · have := t1.mp e; omega
  refine ⟨or_16 h1 hi, ?_, fun l hl => ?_, hw, fun q => ?_, ?_, ?_⟩
  · split
    · exact or_16 h2 hi
    · rw [Nat.or_zero]; exact h2
  · obtain ⟨t1, t2⟩ := h3 l hl
    obtain ⟨u1, u2⟩ := h3 i hi
    rw [hC, or_bit]
    by_cases e : l = i
    · rw [e] at t1 t2 ⊢
      rw [if_pos rfl, decide_eq_true rfl, Bool.or_true]
      refine ⟨⟨fun _ => by omega, fun _ => rfl⟩, ?_⟩
      cases e2 : On.testBit i
      · have : ¬ 1 ≤ gvC B x i d := fun q => by rw [u1.mpr q] at e2; exact absurd e2 (by decide)
        rw [if_neg (by decide), Nat.or_zero, t2]
        omega
      · have := u1.mp e2
        rw [if_pos rfl, or_bit, decide_eq_true rfl, Bool.or_true]
        exact ⟨fun _ => by omega, fun _ => rfl⟩
    · have e' : ¬ i = l := fun q => e q.symm
      rw [if_neg e, decide_eq_false e', Bool.or_false]
      refine ⟨t1, ?_⟩
      split
      · rw [or_bit, decide_eq_false e', Bool.or_false]; exact t2
      · rw [Nat.or_zero]; exact t2
  · have hwt : w = true := by
      unfold wkN at q
      cases w
      · exact absurd q (by rw [Bool.false_and, Bool.false_and, Bool.false_and]; decide)
      · rfl
    rw [q, if_pos rfl, h5 hwt, gvW, hx, if_neg (by omega), Nat.add_sub_cancel]
  · split <;> omega
  · split <;> omega
theorem cd_no {x : Nat → Nat} {d On Tw : Nat} {w : Bool} {sum : Int} (hx : x (B - (d + 1)) = 0) (h : cdI B S G tw gone x d On Tw w sum) : cdI B S G tw gone x (d + 1) On Tw w sum := by
  obtain ⟨h1, h2, h3, h4, h5, h6, h7⟩ := h
  have hC : ∀ l, gvC B x l (d + 1) = gvC B x l d := fun l => by rw [gvC, hx, if_neg (by omega)]; rfl
  refine ⟨h1, h2, fun l hl => by rw [hC]; exact h3 l hl, ?_, fun q => ?_, h6, by omega⟩
  · rw [h4]
    constructor
    · rintro ⟨p1, p2⟩
      refine ⟨fun e he => ?_, fun l hl => by rw [hC]; exact p2 l hl⟩
      by_cases q : e = d
      · rw [q, hx]; omega
      · exact p1 e (by omega)
    · rintro ⟨p1, p2⟩
      exact ⟨fun e he => p1 e (by omega), fun l hl => by have := p2 l hl; rw [hC] at this; exact this⟩
  · rw [h5 q, gvW, hx, if_pos rfl, Int.add_zero]
theorem r_m63 (hm : mRel s B S G Q) (hcap : ∀ i, i < S → gvA tw gone i = cpN sl mo i) (hsl : -1 ≤ sl ∧ sl < 4) (hmo : -1 ≤ mo ∧ mo ≤ 1) {rec32 : Int32 → Int32 → zS → Option (Int32 × zS)} {a3 a4 a5 : Int32} {x : Nat → Nat} (hx : ∀ b, x b < 5) : ∀ (k f On Tw : Nat) (w : Bool) (sum : Int), k ≤ B → k < f → cdI B S G tw gone x (B - k) On Tw w sum →
    ∃ (w' : Bool) (sum' : Int), (w' = true ↔ gvP B S tw gone x B) ∧ (w' = true → sum' = gvW B G x B) ∧ D_X9_mostOf_L63 rec32 s (n32 sl) (n32 mo) a3 a4 a5 f (n32 (enc5 x k : Int)) (n32 sum) (n32 (On : Int)) (n32 (Tw : Int)) (zfl w) (n32 ((k : Int) - 1)) = if w' then (if n32 sum' ≤ a3 then rec32 a3 (a5 + 1) s else rec32 (n32 sum') (a5 + 1) (zwI s 66 41 a5)) else rec32 a3 (a5 + 1) s := by
  have hB := hm.1.2.2
  intro k
  induction k with
  | zero =>
    intro f On Tw w sum hk hf h
    obtain ⟨f, rfl⟩ : ∃ t, f = t + 1 := ⟨f - 1, by omega⟩
    rw [Nat.sub_zero] at h
    obtain ⟨h1, h2, h3, h4, h5, h6, h7⟩ := h
    refine ⟨w, sum, h4, h5, ?_⟩
    rw [D_X9_mostOf_L63_s]
    unfold D_X9_mostOf_B63
    rw [zif_t (by decide)]
    cases w
    · rw [zb0]; rfl
    · rw [zb1, if_pos rfl]
  | succ k ih =>
    intro f On Tw w sum hk hf h
    obtain ⟨f, rfl⟩ : ∃ t, f = t + 1 := ⟨f - 1, by omega⟩
    have hd : B - k = (B - (k + 1)) + 1 := by omega
    have hbk : B - ((B - (k + 1)) + 1) = k := by omega
    have hxk := hx k
    have hek := enc5_lt (x := x) k (fun b _ => hx b)
    have h5k : 5 ^ k ≤ 5 ^ 3 := Nat.pow_le_pow_right (by omega) (by omega)
    obtain ⟨v1, v2⟩ := dv5 (enc5 x k) (by omega) (x k) hxk
    have hkk : n32 (((k + 1 : Nat) : Int) - 1) = n32 (k : Int) := by congr 1; omega
    rw [D_X9_mostOf_L63_s]
    unfold D_X9_mostOf_B63
    rw [hkk, zif_f (by rw [l32_0, n32_lt (by omega) (by omega) (by omega) (by omega)]; omega), enc5, v2, v1]
    by_cases e : x k = 0
    · have hcd := cd_no (B := B) (S := S) (G := G) (tw := tw) (gone := gone) (by rw [hbk]; exact e) h
      rw [← hd] at hcd
      have hback : n32 (k : Int) + -1 = n32 ((k : Int) - 1) := by rw [l32_1, n32_neg, n32_add]; rfl
      rw [zif_t (by rw [l32_0, n32_lt (by omega) (by omega) (by omega) (by omega)]; omega), hback]
      exact ih f On Tw w sum (by omega) (by omega) hcd
    · obtain ⟨i, hi⟩ : ∃ i, x k = i + 1 := ⟨x k - 1, by omega⟩
      have hi4 : i < 4 := by omega
      have hcd := cd_put hm hcap (show B - (k + 1) < B by omega) (by rw [hbk]; exact hi) hi4 h
      rw [hbk, ← hd] at hcd
      have hsi : ((x k : Nat) : Int) - 1 = (i : Int) := by omega
      obtain ⟨w', sum', r1, r2, r3⟩ := ih f _ _ _ _ (by omega) (by omega) hcd
      refine ⟨w', sum', r1, r2, ?_⟩
      have h103 := r_j103 hm (rec32 := rec32) (rec63 := D_X9_mostOf_L63 rec32 s (n32 sl) (n32 mo) a3 a4 a5 f) (a3 := a3) (a4 := a4) (a5 := a5) (a6 := n32 (enc5 x k : Int)) (sum := sum) (On := On) (Tw := Tw) (w := w) hsl hmo hi4 (show k < B by omega) h.1 h.2.1
      rw [hsi, zif_f (by rw [l32_0, n32_lt (by omega) (by omega) (by omega) (by omega)]; omega)]
      unfold D_X9_mostOf_J102
      by_cases e2 : sl = (i : Int)
      · rw [zif_t (by rw [e2])]
        by_cases e3 : mo = 1
        · have h103' := h103
          rw [decide_eq_true (show sl = (i : Int) ∧ mo = 1 from ⟨e2, e3⟩)] at h103'
          rw [zif_t (by rw [e3]; rfl)]
          exact h103'.trans r3
        · have h103' := h103
          rw [decide_eq_false (show ¬ (sl = (i : Int) ∧ mo = 1) from fun q => e3 q.2)] at h103'
          rw [zif_f (fun q => e3 (by rw [l32_1] at q; exact (n32_eq (by omega) (by omega) (by omega) (by omega)).mp q))]
          exact h103'.trans r3
      · have h103' := h103
        rw [decide_eq_false (show ¬ (sl = (i : Int) ∧ mo = 1) from fun q => e2 q.1)] at h103'
        rw [zif_f (fun q => e2 (by have := (n32_eq (by omega) (by omega) (by omega) (by omega)).mp q; omega))]
        exact h103'.trans r3
end CD
