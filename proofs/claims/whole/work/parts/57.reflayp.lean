/-! the reference's least pay: all rows are weighed -/
theorem payVal_congr {n : Nat} {v : Nat → Int} {p q : Nat → Nat} {t : Rat} (hn : n ≤ 5) (h : ∀ k, k < n → p k = q k) (hp : payVal n v p t) : payVal n v q t := by
  obtain ⟨x, x1, x2, x3, x4, x5⟩ := hp
  have hm : lpMx n p = lpMx n q := by
    funext i c
    unfold lpMx
    by_cases e : i < n ∧ c < n
    · rw [if_pos e, if_pos e, h c e.2]
    · rw [if_neg e, if_neg e]
  refine ⟨x, x1, x2, by rw [← hm]; exact x3, by rw [← hm]; exact x4, ?_⟩
  rw [x5]
  have t : ∀ c, c < 5 → (v (p c) : Rat) * x c = (v (q c) : Rat) * x c := fun c hc => by
    by_cases e : c < n
    · rw [h c e]
    · rw [x2 c (by omega)]; grind
  exact sum5_congr t
/-- the best of the rows of H -/
def bstI (val : (Nat → Nat) → Rat → Prop) (inc : (Nat → Nat) → Prop) (H : (Nat → Nat) → Prop) : Option Rat → Prop
  | none => ∀ q, H q → ∀ t, ¬ val q t
  | some u => (∃ q, inc q ∧ val q u) ∧ ∀ q, H q → ∀ t, val q t → t ≤ u
theorem bstI_skip {val : (Nat → Nat) → Rat → Prop} {inc H H' : (Nat → Nat) → Prop} {o : Option Rat} (h : bstI val inc H o) (hH : ∀ q, H' q → H q ∨ ∀ t, ¬ val q t) : bstI val inc H' o := by
  cases o with
  | none => exact fun q hq t ht => (hH q hq).elim (fun a => h q a t ht) (fun a => a t ht)
  | some u => exact ⟨h.1, fun q hq t ht => (hH q hq).elim (fun a => h.2 q a t ht) (fun a => absurd ht (a t))⟩
theorem bstI_take {val : (Nat → Nat) → Rat → Prop} {inc H H' : (Nat → Nat) → Prop} {o : Option Rat} {p : Nat → Nat} {t0 : Rat} (h : bstI val inc H o) (hp : inc p) (hv : val p t0) (hH : ∀ q, H' q → H q ∨ ∀ t, val q t → t = t0) : bstI val inc H' (bstM o t0) := by
  cases o with
  | none =>
    refine ⟨⟨p, hp, hv⟩, fun q hq t ht => ?_⟩
    rcases hH q hq with a | a
    · exact absurd ht (h q a t)
    · rw [a t ht]; exact Rat.le_refl
  | some u =>
    by_cases e : u < t0
    · rw [bstM_lt e]
      refine ⟨⟨p, hp, hv⟩, fun q hq t ht => ?_⟩
      rcases hH q hq with a | a
      · exact Rat.le_trans (h.2 q a t ht) (Rat.le_of_lt e)
      · rw [a t ht]; exact Rat.le_refl
    · rw [bstM_ge e]
      refine ⟨h.1, fun q hq t ht => ?_⟩
      rcases hH q hq with a | a
      · exact h.2 q a t ht
      · rw [a t ht]; exact Rat.not_lt.mp e
theorem sum5_sub {m : Nat → Rat} {x y : Nat → Rat} : sum5 (fun c => m c * (x c - y c)) = sum5 (fun c => m c * x c) - sum5 (fun c => m c * y c) := by
  unfold sum5; grind
/-- one row weighed -/
theorem lp_row {n : Nat} {v : Nat → Int} {p : Nat → Nat} {o : Option Rat} {H : (Nat → Nat) → Prop} {inc : (Nat → Nat) → Prop} {rec42 : Int32 → zS → Option zS} {a1 : Int32} {s : zS} (hu : uOk s n v) (hp : ∀ k, k < n → p k < 16) (hinc : inc p) (hpk : pkE s n p) (hb : bstE s o) (hs : bstS 4915200000 65536 o) (hI : bstI (payVal n v) inc H o) :
    ∃ s' o', ((D_X9_noRows s).bind fun p47 => D_X9_layPay_L52 rec42 a1 zFU (0 : Int32) p47) = D_X9_layPay_J289 rec42 s' a1 ∧ uFrm s s' ∧ s'.1 = s.1 ∧ bstE s' o' ∧ bstS 4915200000 65536 o' ∧ ∀ H', (∀ q, H' q → H q ∨ ∀ k, k < n → q k = p k) → bstI (payVal n v) inc H' o' := by
  obtain ⟨u1, u2, u3, u4, u5⟩ := id hu
  obtain ⟨s1, e1, f1, g1⟩ := r_noRows s
  obtain ⟨s2, f2, g2, e2⟩ := lp52 (rec42 := rec42) (a1 := a1) u3 hp n zFU 0 s1 (by omega) (zFU_lt (by omega)) (by rw [f1.1]; exact u1) (pkE_m hpk f1) (mE_ext g1 (fun r hr c hc => by (try dsimp only); rw [if_neg (by omega)]))
  have e2' : D_X9_layPay_L52 rec42 a1 zFU (0 : Int32) s1 = (D_X9_solve s2 (n32 (n : Int))).bind fun p124 => D_X9_layPay_L137 rec42 p124.2 a1 zFU p124.1 (0 : Int64) (1 : Int64) (0 : Int32) := e2
  rw [e1, zbs, e2']
  have hM5 : ∀ k c, n ≤ k → k < 5 → c < 6 → lpMq n p k c = 0 := fun k c h1 h2 h3 => by
    unfold lpMq lpMx
    (repeat' split) <;> first | rfl | (exfalso; omega)
  have hrhs : ∀ i, i < 5 → lpMq n p i 5 = if i < n then 1 else 0 := fun i hi => by unfold lpMq; rw [if_neg (by omega)]
  have hfr : ∀ s', mFrm s s' → bstE s' o := fun s' f => by
    cases o with
    | none => exact ⟨by rw [f.2 66 33 (by omega) (by omega)]; exact hb.1, by rw [f.2 66 34 (by omega) (by omega)]; exact hb.2⟩
    | some t => exact ⟨by rw [f.2 66 33 (by omega) (by omega)]; exact hb.1, by rw [f.2 66 34 (by omega) (by omega)]; exact hb.2⟩
  have hq : ∀ q, (∀ k, k < n → q k = p k) → ∀ t, payVal n v q t → payVal n v p t := fun q hq t ht => payVal_congr (by omega) hq ht
  rcases r_solve (lp_sMt n p) ⟨by decide, by decide⟩ (show n ≤ 5 by omega) hM5 (s := s2) (fun r hr c hc => g2 r (by omega) c hc) with ⟨s3, e3, f3, y, ⟨c0, y1, y2⟩, y3, y4⟩ | ⟨s3, x, e3, f3, x1, x2, x3, x4⟩
  · rw [e3, zbs]
    have hz : D_X9_layPay_L137 rec42 s3 a1 zFU (0 : Int32) (0 : Int64) (1 : Int64) (0 : Int32) = D_X9_layPay_J289 rec42 s3 a1 := by
      have hzz : D_X9_layPay_J231 rec42 s3 a1 (0 : Int32) (0 : Int64) (1 : Int64) = D_X9_layPay_J289 rec42 s3 a1 := by
        unfold D_X9_layPay_J231
        rw [zif_t rfl]
      obtain ⟨g, hg⟩ : ∃ t, zFU = t + 1 := ⟨zFU - 1, by have := zFU_lt (k := 0) (by omega); omega⟩
      rw [hg, D_X9_layPay_L137_s]
      unfold D_X9_layPay_B137
      by_cases e : s3.1 66 0 ≤ 0
      · rw [zif_t e, hzz]
      · rw [zif_f e, zif_t rfl, hzz]
    have ff := mFrm_t f1 (mFrm_t f2 f3)
    refine ⟨s3, o, hz, uFrm_m ff, ff.1, hfr s3 ff, hs, fun H' hH => bstI_skip hI (fun q hq' => ?_)⟩
    rcases hH q hq' with a | a
    · exact Or.inl a
    · right
      intro t ht
      obtain ⟨x, z1, z2, z3, z4, z5⟩ := hq q a t ht
      exact y2 (z4 y (fun c h1 h2 => y3 c h1) y4 c0 (by omega))
  · rw [e3, zbs]
    have ff := mFrm_t f1 (mFrm_t f2 f3)
    have hu3 := uOk_f hu (uFrm_m ff)
    have hx5 : ∀ i, i < 5 → (if i < n then (1 : Rat) else 0) = sum5 (fun c => (lpMx n p i c : Rat) * x c) := fun i hi => by rw [← hrhs i hi]; exact x3 i hi
    have huniq : ∀ t, payVal n v p t → (∀ c, c < 5 → 0 ≤ x c) ∧ t = sum5 (fun c => (v (p c) : Rat) * x c) := fun t ht => by
      obtain ⟨z, z1, z2, z3, z4, z5⟩ := ht
      have hzx : ∀ c, c < 5 → z c - x c = 0 := x4 (fun c => z c - x c) (fun c h1 h2 => by rw [z2 c h1, x2 c h1]; grind) (fun i hi => by rw [sum5_sub, ← z3 i hi, ← hx5 i hi]; grind)
      have hzx' : ∀ c, c < 5 → z c = x c := fun c hc => by have := hzx c hc; grind
      refine ⟨fun c hc => by rw [← hzx' c hc]; exact z1 c, ?_⟩
      rw [z5]
      exact sum5_congr fun c hc => by rw [hzx' c hc]
    rcases lp137 (rec42 := rec42) (a1 := a1) hu3 hp (pkE_m hpk ff) (fun c hc => ⟨(x1 c hc).1, (x1 c hc).2.1, (x1 c hc).2.2⟩) n zFU 0 0 1 1 (by omega) (zFU_lt (by omega)) (by omega) (by
        have : n = 1 ∨ n = 2 ∨ n = 3 ∨ n = 4 := by omega
        rcases this with rfl | rfl | rfl | rfl <;> decide) (by omega) (by omega) (fun c hc => by omega) (by simp [zsum, Rat.div_def]) with ⟨e4, c0, k1, k2⟩ | ⟨a, b, e4, k1, k2, k3, k4⟩
    · have e4' : D_X9_layPay_L137 rec42 s3 a1 zFU (1 : Int32) (0 : Int64) (1 : Int64) (0 : Int32) = D_X9_layPay_J289 rec42 s3 a1 := e4
      refine ⟨s3, o, e4', uFrm_m ff, ff.1, hfr s3 ff, hs, fun H' hH => bstI_skip hI (fun q hq' => ?_)⟩
      rcases hH q hq' with a | a
      · exact Or.inl a
      · right
        intro t ht
        have := (huniq t (hq q a t ht)).1 c0 (by omega)
        grind
    · have e4' : D_X9_layPay_L137 rec42 s3 a1 zFU (1 : Int32) (0 : Int64) (1 : Int64) (0 : Int32) = D_X9_layPay_J231 rec42 s3 a1 (n32 1) (n64 a) (n64 b) := e4
      obtain ⟨s4, e5, f5, f6, b5, b6⟩ := lp231 (rec42 := rec42) (a1 := a1) k1 k2 (hfr s3 ff) hs
      rw [e4', e5]
      have hval : (a : Rat) / (b : Rat) = sum5 (fun c => (v (p c) : Rat) * x c) := by
        rw [k4]
        exact zsum_sum5 (by omega) (fun c h1 h2 => by rw [x2 c h1]; grind)
      have hpay : payVal n v p ((a : Rat) / (b : Rat)) := ⟨x, fun c => by
        by_cases e : c < n
        · exact k3 c e
        · rw [x2 c (by omega)]; exact Rat.le_refl, x2, hx5, x4, hval⟩
      refine ⟨s4, bstM o ((a : Rat) / (b : Rat)), rfl, uFrm_t (uFrm_m ff) f5, by rw [f6]; exact ff.1, b5, b6, fun H' hH => bstI_take hI hinc hpay (fun q hq' => ?_)⟩
      rcases hH q hq' with a' | a'
      · exact Or.inl a'
      · right
        intro t ht
        rw [(huniq t (hq q a' t ht)).2, hval]
theorem lp42 {n M t : Nat} {v : Nat → Int} (hn1 : 1 ≤ n) (hn : n ≤ 4) (hM : M < 16) (ht : t + n = M + 1) : ∀ f p s o, cInc n t 1 p → 16 ^ n < f + cCode n p → uOk s n v → pkE s n p → bstE s o → bstS 4915200000 65536 o → bstI (payVal n v) (cInc n t 1) (fun q => cInc n t 1 q ∧ cCode n q < cCode n p) o →
    ∃ s' o', D_X9_layPay_L42 (n32 (M : Int)) f 1 s = some s' ∧ uFrm s s' ∧ bstE s' o' ∧ bstS 4915200000 65536 o' ∧ bstI (payVal n v) (cInc n t 1) (cInc n t 1) o' := by
  intro f
  induction f with
  | zero =>
    intro p s o hp hf hu hpk hb hs hI
    have := cCode_bd n (cInc_bd (by omega) hp)
    omega
  | succ f ih =>
    intro p s o hp hf hu hpk hb hs hI
    have hcd := cCode_bd n (cInc_bd (by omega) hp)
    rw [D_X9_layPay_L42_s]
    unfold D_X9_layPay_B42
    rw [zif_f (by decide)]
    obtain ⟨s1, o1, e1, f1, g1, b1, b2, b3⟩ := lp_row (rec42 := D_X9_layPay_L42 (n32 (M : Int)) f) (a1 := n32 (M : Int)) hu (cInc_bd (by omega) hp) hp hpk hb hs hI
    rw [e1]
    unfold D_X9_layPay_J289
    have h66 : s1.1 66 0 = n32 (n : Int) := by rw [g1]; exact hu.1
    rw [h66, l32_1, n32_sub]
    have hpk1 : pkE s1 n p := fun k hk => by rw [g1]; exact hpk k hk
    have hbd := cInc_bd (show t + n ≤ 16 by omega) hp
    rcases lp289 (rec42 := D_X9_layPay_L42 (n32 (M : Int)) f) hn hM ht hp h66 hpk1 n zFU (Nat.le_refl _) (zFU_lt (by omega)) (fun k h1 h2 => by omega) with ⟨e2, hall⟩ | ⟨s2, a, e2, f2, g2, k2, ha, hlt, hge⟩
    · rw [e2]
      obtain ⟨f, rfl⟩ : ∃ u, f = u + 1 := ⟨f - 1, by omega⟩
      refine ⟨s1, o1, ?_, f1, b1, b2, b3 _ (fun q hq => ?_)⟩
      · rw [D_X9_layPay_L42_s]
        unfold D_X9_layPay_B42
        rw [zif_t rfl]
      · have hle := cLast hall q hq
        by_cases e : cCode n q < cCode n p
        · exact Or.inl ⟨hq, e⟩
        · exact Or.inr (cCode_inj n (fun k hk => ⟨cInc_bd (by omega) hq k hk, hbd k hk⟩) (by omega))
    · rw [e2]
      obtain ⟨n1, n2, n3⟩ := cNext_ok (show t + n ≤ 16 by omega) hp ha hlt hge
      obtain ⟨s3, o3, e3, f3, c1, c2, c3⟩ := ih (cNext p a) s2 o1 n1 (by omega) (uOk_f hu (uFrm_t f1 f2)) k2 (by
        cases o1 with
        | none => exact ⟨by rw [g2]; exact b1.1, by rw [g2]; exact b1.2⟩
        | some u => exact ⟨by rw [g2]; exact b1.1, by rw [g2]; exact b1.2⟩) b2 (b3 _ (fun q hq => by
          have hle := n3 q hq.1 hq.2
          by_cases e : cCode n q < cCode n p
          · exact Or.inl ⟨hq.1, e⟩
          · exact Or.inr (cCode_inj n (fun k hk => ⟨cInc_bd (by omega) hq.1 k hk, hbd k hk⟩) (by omega))))
      exact ⟨s3, o3, e3, uFrm_t f1 (uFrm_t f2 f3), c1, c2, c3⟩
theorem lp17 {n : Nat} {a1 : Int32} (hn : n ≤ 4) : ∀ m f k s, k + m = n → m < f → s.1 66 0 = n32 (n : Int) → pkE s k (fun j => j + 1) →
    ∃ s', D_X9_layPay_L17 a1 f (n32 (k : Int)) s = D_X9_layPay_L42 a1 zFU (1 : Int32) s' ∧ uFrm s s' ∧ s'.2 = s.2 ∧ pkE s' n (fun j => j + 1) := by
  intro m
  induction m with
  | zero =>
    intro f k s hk hf h66 h
    obtain ⟨f, rfl⟩ : ∃ t, f = t + 1 := ⟨f - 1, by omega⟩
    obtain rfl : k = n := by omega
    refine ⟨s, ?_, uFrm_r s, rfl, h⟩
    rw [D_X9_layPay_L17_s]
    unfold D_X9_layPay_B17
    rw [h66, zif_t (Int32.le_refl _)]
  | succ m ih =>
    intro f k s hk hf h66 h
    obtain ⟨f, rfl⟩ : ∃ t, f = t + 1 := ⟨f - 1, by omega⟩
    rw [D_X9_layPay_L17_s]
    unfold D_X9_layPay_B17
    rw [h66, zif_f (by rw [c32_le (by omega) (by omega)]; omega), zgd_t (czin (by omega) (by omega)), n32_xn (by omega), nsuc]
    obtain ⟨s2, e2, f2, g2, k2⟩ := ih f (k + 1) (zwI s 84 k (n32 ((k + 1 : Nat) : Int))) (by omega) (by omega) (by rw [zwI_at, if_neg (by omega)]; exact h66) (fun j hj => by
      rw [zwI_at]
      try dsimp only
      by_cases e : j = k
      · rw [if_pos ⟨rfl, e⟩, e]
      · rw [if_neg (fun q => e q.2)]; exact h j (by omega))
    exact ⟨s2, e2, uFrm_t (uFrm_84 _ _ _) f2, g2, k2⟩
/-- the reference's least pay: the greatest value of a row of sets -/
theorem r_layPay {s : zS} {n : Nat} {v : Nat → Int} (hu : uOk s n v) : ∃ s' o, D_X9_layPay s = some s' ∧ uFrm s s' ∧ bstE s' o ∧ bstS 4915200000 65536 o ∧ bstI (payVal n v) (cInc n (2 ^ n - n) 1) (cInc n (2 ^ n - n) 1) o := by
  obtain ⟨u1, u2, u3, u4, u5⟩ := id hu
  have hp := pow_le4 u3
  unfold D_X9_layPay
  have f0 := frm33 s 0 0
  have hu0 := uOk_f hu f0
  dsimp only
  rw [x9_all hu0.1 (by omega), zbs]
  obtain ⟨s1, e1, f1, g1, k1⟩ := lp17 (a1 := n32 ((2 ^ n - 1 : Nat) : Int)) u3 n zFU 0 (zwL (zwL s 66 33 (0 : Int64)) 66 34 (0 : Int64)) (by omega) (zFU_lt (by omega)) hu0.1 (fun k hk => by omega)
  have e1' : D_X9_layPay_L17 (n32 ((2 ^ n - 1 : Nat) : Int)) zFU (0 : Int32) (zwL (zwL s 66 33 (0 : Int64)) 66 34 (0 : Int64)) = D_X9_layPay_L42 (n32 ((2 ^ n - 1 : Nat) : Int)) zFU (1 : Int32) s1 := e1
  rw [e1']
  obtain ⟨s2, o, e2, f2, b1, b2, b3⟩ := lp42 (n := n) (M := 2 ^ n - 1) (t := 2 ^ n - n) (v := v) u2 u3 (by omega) (by omega) zFU (fun j => j + 1) s1 none ⟨fun k hk => by dsimp only; omega, fun k hk => by dsimp only; omega⟩ (by
    have h1 : (16 : Nat) ^ n ≤ 16 ^ 4 := Nat.pow_le_pow_right (by omega) u3
    have h2 : 65536 < zFU := zFU_lt (by omega)
    have h3 : (16 : Nat) ^ 4 = 65536 := rfl
    omega) (uOk_f hu0 f1) k1 ⟨by rw [g1, zwL_at, if_neg (by omega), zwL_at, if_pos ⟨rfl, rfl⟩], by rw [g1, zwL_at, if_pos ⟨rfl, rfl⟩]⟩ trivial (fun q hq => by
      exfalso
      obtain ⟨q1, q2⟩ := hq
      have := cCode_le (p := fun j => j + 1) (q := q) n (fun k hk => by
        induction k with
        | zero => exact (q1.2 0 hk).1
        | succ k ih =>
          have h1 := ih (by omega)
          have h2 := q1.1 k hk
          omega)
      omega)
  exact ⟨s2, o, e2, uFrm_t f0 (uFrm_t f1 f2), b1, b2, b3⟩
