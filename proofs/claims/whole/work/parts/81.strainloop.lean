/-! the reference's strain: the loop -/
/-- what the loop may write -/
def gFrm (s s' : zS) : Prop := (∀ c k, (c = 66 → k ≠ 32) → c ≠ 84 → c ≠ 85 → s'.1 c k = s.1 c k) ∧ ∀ c k, (c = 66 → k < 33 ∨ 36 < k) → c ≠ 77 → c ≠ 78 → s'.2 c k = s.2 c k
theorem gFrm_r (s : zS) : gFrm s s := ⟨fun _ _ _ _ _ => rfl, fun _ _ _ _ _ => rfl⟩
theorem gFrm_t {s s' s'' : zS} (h : gFrm s s') (h' : gFrm s' s'') : gFrm s s'' := ⟨fun c k a b d => (h'.1 c k a b d).trans (h.1 c k a b d), fun c k a b d => (h'.2 c k a b d).trans (h.2 c k a b d)⟩
theorem uFrm_g {s s' : zS} (h : gFrm s s') : uFrm s s' := ⟨fun c k h66 _ _ h84 h85 => h.1 c k (fun e => (h66 e).2.2) h84 h85, fun c k h66 h77 h78 _ _ _ => h.2 c k h66 h77 h78⟩
section LS
variable {n m K F : Nat} {g fr : Nat → Nat} {v : Nat → Int} {t : Nat → Rat} {T : Int}
theorem fxE_g {s s' : zS} (h : fxE s n m g) (f : gFrm s s') : fxE s' n m g := ⟨by rw [f.1 66 0 (fun _ => by omega) (by omega) (by omega)]; exact h.1, by rw [f.1 66 23 (fun _ => by omega) (by omega) (by omega)]; exact h.2.1, fun e he => by rw [f.1 79 e (fun e => by omega) (by omega) (by omega)]; exact h.2.2 e he⟩
theorem frE_g {s s' : zS} (h : frE s F fr) (f : gFrm s s') : frE s' F fr := ⟨by rw [f.1 66 28 (fun _ => by omega) (by omega) (by omega)]; exact h.1, fun e he => by rw [f.1 83 e (fun e => by omega) (by omega) (by omega)]; exact h.2 e he⟩
theorem tfE_g {s s' : zS} (h : tfE s m t T) (f : gFrm s s') : tfE s' m t T := fun e he => by
  obtain ⟨ta, tb, t1, t2, t3⟩ := h e he
  exact ⟨ta, tb, by rw [f.2 80 e (fun e => by omega) (by omega) (by omega)]; exact t1, by rw [f.2 81 e (fun e => by omega) (by omega) (by omega)]; exact t2, t3⟩
def balV (n m K : Nat) (fr g : Nat → Nat) (v : Nat → Int) (t : Nat → Rat) (q : Nat → Nat) (y : Rat) : Prop := ∃ x, balVal n m K (fun k => fr (q k)) g v t x y
theorem balV_congr {p q : Nat → Nat} {y : Rat} (h : ∀ k, k < K → p k = q k) (hb : balV n m K fr g v t p y) : balV n m K fr g v t q y := by
  obtain ⟨x, b1, b2, b3, b4, b5⟩ := hb
  have e : blMx n K m (fun k => fr (p k)) g = blMx n K m (fun k => fr (q k)) g := by
    funext i c
    unfold blMx
    by_cases q1 : c < K
    · simp only [if_pos q1, h c q1]
    · simp only [if_neg q1]
  refine ⟨x, b1, b2, by rw [← e]; exact b3, by rw [← e]; exact b4, ?_⟩
  rw [b5]
  congr 1
  exact zsum_congr K (fun c hc => by dsimp only; rw [h c hc])
/-- the best so far, and who weighs in it -/
def lsO (s : zS) (n m K F : Nat) (g fr : Nat → Nat) (v : Nat → Int) (t : Nat → Rat) (T : Int) : Option Rat → Prop
  | none => s.1 66 32 = n32 ((0 : Nat) : Int)
  | some u => (s.2 66 33 = n64 u.num ∧ s.2 66 34 = n64 (u.den : Int)) ∧ ((-(1500000 * T) ≤ u.num ∧ u.num ≤ 1500000 * T) ∧ (u.den : Int) ≤ 15 * T) ∧ (∃ D z' : Int, (D ≠ 0 ∧ -15 ≤ D ∧ D ≤ 15) ∧ ((D * T : Int) : Rat) * u = (z' : Rat)) ∧
    ∃ (B : Nat) (bp p0 : Nat → Nat) (x0 : Nat → Rat), 1 ≤ B ∧ B ≤ K ∧ s.1 66 32 = n32 (B : Int) ∧ (∀ i, i < B → s.1 85 i = n32 (bp i : Int)) ∧ (∀ k, k < K → p0 k < F) ∧ balVal n m K (fun k => fr (p0 k)) g v t x0 u ∧ ∀ i, i < B → ∃ c, c < K ∧ bp i = fr (p0 c) ∧ 0 < x0 c
theorem lsO_f {s s' : zS} {o : Option Rat} (h : lsO s n m K F g fr v t T o) (h32 : s'.1 66 32 = s.1 66 32) (h85 : ∀ k, s'.1 85 k = s.1 85 k) (h33 : s'.2 66 33 = s.2 66 33) (h34 : s'.2 66 34 = s.2 66 34) : lsO s' n m K F g fr v t T o := by
  cases o with
  | none => show s'.1 66 32 = _; rw [h32]; exact h
  | some u =>
    obtain ⟨a1, a2, a3, B, bp, p0, x0, b1, b2, b3, b4, b5⟩ := h
    exact ⟨⟨by rw [h33]; exact a1.1, by rw [h34]; exact a1.2⟩, a2, a3, B, bp, p0, x0, b1, b2, by rw [h32]; exact b3, fun i hi => by rw [h85]; exact b4 i hi, b5⟩
theorem balVal_pos {q : Nat → Nat} {x : Nat → Rat} {y : Rat} (hK : K + m = n + 1) (hn : n ≤ 4) (h : balVal n m K q g v t x y) : zsum K x = 1 := by
  obtain ⟨b1, b2, b3, b4, b5⟩ := h
  have h1 := b3 n (by omega)
  rw [if_pos rfl, ← zsum_sum5 (n := K) (by omega) (fun c h1 h2 => by
    unfold blMx
    rw [if_neg (by omega), if_pos rfl, if_neg (by omega)]; simp)] at h1
  rw [h1]
  refine zsum_congr K (fun c hc => ?_)
  unfold blMx
  rw [if_neg (by omega), if_pos rfl, if_pos hc]; simp
theorem ls_row {p : Nat → Nat} {s : zS} {o : Option Rat} {H : (Nat → Nat) → Prop} {rec55 : Int32 → zS → Option zS} (hK : K + m = n + 1) (hn : n ≤ 4) (hm : 1 ≤ m ∧ m ≤ 4) (hK1 : 1 ≤ K) (hF : F ≤ 14) (hKF : K ≤ F) (hfr : ∀ k, k < F → fr k < 16) (hg : ∀ e, e < m → g e < 16) (hT : 1 ≤ T ∧ T ≤ 3375) (hp : cInc K (F - K) 0 p) (hu : uOk s n v) (hx : fxE s n m g) (hfe : frE s F fr) (ht : tfE s m t T) (hpk : pkE s K p) (ho : lsO s n m K F g fr v t T o) (hI : bstI (balV n m K fr g v t) (cInc K (F - K) 0) H o) :
    ∃ s' o', ((D_X9_balances s (n32 (K : Int))).bind fun p61 => if p61.1 = 0 then D_X9_layStrain_J176 rec55 p61.2 (n32 (K : Int)) else if (p61.2.1 66 32) = 0 then D_X9_layStrain_J96 rec55 p61.2 (n32 (K : Int)) else if (lg_cmp ((p61.2.2 66 35) * (p61.2.2 66 34)) ((p61.2.2 66 33) * (p61.2.2 66 36))) ≤ 0 then D_X9_layStrain_J176 rec55 p61.2 (n32 (K : Int)) else D_X9_layStrain_J96 rec55 p61.2 (n32 (K : Int))) = D_X9_layStrain_J176 rec55 s' (n32 (K : Int)) ∧ gFrm s s' ∧ pkE s' K p ∧ lsO s' n m K F g fr v t T o' ∧ ∀ H', (∀ q, H' q → H q ∨ ∀ k, k < K → q k = p k) → bstI (balV n m K fr g v t) (cInc K (F - K) 0) H' o' := by
  have hpF : ∀ k, k < K → p k < F := fun k hk => by have := (hp.2 k hk).2; omega
  have hK4 : K ≤ 4 := by omega
  rcases bal_is (p := p) hK hn hm hF hpF hfr hg hu hfe hpk hT hx ht with ⟨s1, e1, f1, f1', hno⟩ | ⟨s1, x, y, e1, f1, ⟨f1a, f1b⟩, hbv, huq, htold, hyn, hyd, hxc, D, z', hD, hz'⟩
  · rw [e1, zbs]
    dsimp only
    rw [zif_t rfl]
    refine ⟨s1, o, rfl, ⟨fun c k _ _ _ => by rw [f1'.1], fun c k _ h77 h78 => f1'.2 c k h77 h78⟩, pkE_m hpk f1', lsO_f ho (by rw [f1'.1]) (fun k => by rw [f1'.1]) (f1'.2 _ _ (by omega) (by omega)) (f1'.2 _ _ (by omega) (by omega)), fun H' hH => bstI_skip hI (fun q hq => ?_)⟩
    rcases hH q hq with a | a
    · exact Or.inl a
    · right
      intro y hy
      obtain ⟨x, hx⟩ := balV_congr (q := p) a hy
      exact hno x y hx
  · rw [e1, zbs]
    dsimp only
    rw [zif_f (by decide)]
    have hfr1 : gFrm s s1 := ⟨fun c k _ _ _ => by rw [f1a], fun c k h66 h77 h78 => f1b c k (fun e => by have := h66 e; omega) h77 h78⟩
    have ho1 : lsO s1 n m K F g fr v t T o := lsO_f ho (by rw [f1a]) (fun k => by rw [f1a]) (f1b _ _ (fun _ => by omega) (by omega) (by omega)) (f1b _ _ (fun _ => by omega) (by omega) (by omega))
    have hpk1 : pkE s1 K p := fun k hk => by rw [f1a]; exact hpk k hk
    have hsum := balVal_pos hK hn hbv
    have htake : ∃ s', D_X9_layStrain_J96 rec55 s1 (n32 (K : Int)) = D_X9_layStrain_J176 rec55 s' (n32 (K : Int)) ∧ gFrm s1 s' ∧ pkE s' K p ∧ lsO s' n m K F g fr v t T (some y) := by
      unfold D_X9_layStrain_J96
      have h36 : (zwL s1 66 33 (s1.2 66 35)).2 66 36 = s1.2 66 36 := by rw [zwL_at, if_neg (fun q => by have := q.2; omega)]
      dsimp only
      rw [h36, htold.1, htold.2]
      obtain ⟨s2, B, bp, r1, r2, r3, r4, r5, r6, r7, r8⟩ := ls119 (x := x) (rec55 := rec55) hK4 hF hpF K zFU 0 (zwI (zwL (zwL s1 66 33 (n64 y.num)) 66 34 (n64 (y.den : Int))) 66 32 (0 : Int32)) 0 (fun _ => 0) (by omega) (zFU_lt (by omega)) (fun c hc => by
          obtain ⟨k1, k2⟩ := hxc c (by omega)
          refine ⟨⟨?_, ?_⟩, k2⟩
          · rw [zwI_l, zwL_at, if_neg (fun q => by have := q.1; omega), zwL_at, if_neg (fun q => by have := q.1; omega)]; exact k1.1
          · rw [zwI_l, zwL_at, if_neg (fun q => by have := q.1; omega), zwL_at, if_neg (fun q => by have := q.1; omega)]; exact k1.2) ⟨by rw [zwI_at, if_neg (fun q => by have := q.2; omega)]; show s1.1 66 28 = _; rw [f1a]; exact hfe.1, fun i hi => by rw [zwI_at, if_neg (fun q => by have := q.1; omega)]; show s1.1 83 i = _; rw [f1a]; exact hfe.2 i hi⟩ (fun i hi => by rw [zwI_at, if_neg (fun q => by have := q.1; omega)]; exact hpk1 i hi) (by rw [zwI_at, if_pos ⟨rfl, rfl⟩]; rfl) (by omega) (fun i hi => by omega) (fun i hi => by omega) (fun _ c hc => by omega)
      have hB : 1 ≤ B := Classical.byContradiction fun q => by
        have h0 := r8 (by omega)
        have h1 : zsum K x = 0 := by
          have hz : ∀ c, c < K → x c = 0 := fun c hc => Rat.le_antisymm (h0 c hc) (hbv.1 c hc)
          exact zsum_zero K hz
        rw [h1] at hsum
        exact absurd hsum (by decide)
      refine ⟨s2, r1, ⟨fun c k h66 h84 h85 => ?_, fun c k h66 _ _ => ?_⟩, fun i hi => ?_, ⟨⟨?_, ?_⟩, ⟨hyn, hyd⟩, ⟨D, z', hD, hz'⟩, B, bp, p, x, hB, r5, r4, r6, hpF, hbv, r7⟩⟩
      · rw [r2 c k h66 h85, zwI_at, if_neg (fun q => h66 q.1 q.2)]; rfl
      · rw [r3, zwI_l, zwL_at, if_neg (fun q => by have := h66 q.1; omega), zwL_at, if_neg (fun q => by have := h66 q.1; omega)]
      · rw [r2 84 i (fun e => by omega) (by omega), zwI_at, if_neg (fun q => by have := q.1; omega)]; exact hpk1 i hi
      · rw [r3, zwI_l, zwL_at, if_neg (fun q => by have := q.2; omega), zwL_at, if_pos ⟨rfl, rfl⟩]
      · rw [r3, zwI_l, zwL_at, if_pos ⟨rfl, rfl⟩]
    have hvp : balV n m K fr g v t p y := ⟨x, hbv⟩
    have huniq : ∀ q, (∀ k, k < K → q k = p k) → ∀ y', balV n m K fr g v t q y' → y' = y := fun q hq y' hy' => by
      obtain ⟨x', hx'⟩ := balV_congr (q := p) hq hy'
      exact (huq x' y' hx').1
    cases o with
    | none =>
      have h32 : s1.1 66 32 = n32 ((0 : Nat) : Int) := ho1
      rw [zif_t (by rw [h32]; decide)]
      obtain ⟨s2, e2, f2, g2, o2⟩ := htake
      refine ⟨s2, some y, e2, gFrm_t hfr1 f2, g2, o2, fun H' hH => bstI_take (o := none) hI hp hvp (fun q hq => ?_)⟩
      rcases hH q hq with a | a
      · exact Or.inl a
      · exact Or.inr (huniq q a)
    | some u =>
      obtain ⟨a1, a2, a3, B, bp, p0, x0, b1, b2, b3, b4, b5⟩ := id ho1
      have hud : (0 : Int) < u.den := by have := u.den_pos; omega
      have hyd0 : (0 : Int) < y.den := by have := y.den_pos; omega
      have m1 := abs_mul (a := y.num) (b := (u.den : Int)) (A := 1500000 * T) (B := 15 * T) hyn.1 hyn.2 (by omega) a2.2
      have m2 := abs_mul (a := u.num) (b := (y.den : Int)) (A := 1500000 * T) (B := 15 * T) a2.1.1 a2.1.2 (by omega) hyd
      have hTT : T * T ≤ 3375 * 3375 := Int.mul_le_mul hT.2 hT.2 (by omega) (by omega)
      have e15 : 1500000 * T * (15 * T) = 22500000 * (T * T) := by grind
      rw [e15] at m1 m2
      have hcmp := lp_cmp (t := u) (a := y.num) hyd0
      rw [rat_n1] at hcmp
      rw [zif_f (by rw [b3, l32_0, n32_eq (by omega) (by omega) (by omega) (by omega)]; omega), htold.1, htold.2, a1.1, a1.2, n64_mul, n64_mul]
      by_cases e : u < y
      · rw [zif_f (by rw [lgc_le (by omega) (by omega) (by omega) (by omega), hcmp]; exact fun q => q e)]
        obtain ⟨s2, e2, f2, g2, o2⟩ := htake
        refine ⟨s2, some y, e2, gFrm_t hfr1 f2, g2, o2, fun H' hH => ?_⟩
        have := bstI_take (H' := H') hI hp hvp (fun q hq => (hH q hq).elim Or.inl (fun a => Or.inr (huniq q a)))
        rw [bstM_lt e] at this
        exact this
      · rw [zif_t (by rw [lgc_le (by omega) (by omega) (by omega) (by omega), hcmp]; exact e)]
        refine ⟨s1, some u, rfl, hfr1, hpk1, ho1, fun H' hH => ?_⟩
        have := bstI_take (H' := H') hI hp hvp (fun q hq => (hH q hq).elim Or.inl (fun a => Or.inr (huniq q a)))
        rw [bstM_ge e] at this
        exact this
theorem ls55 (hK : K + m = n + 1) (hn : n ≤ 4) (hm : 1 ≤ m ∧ m ≤ 4) (hK1 : 1 ≤ K) (hF : F ≤ 14) (hKF : K ≤ F) (hfr : ∀ k, k < F → fr k < 16) (hg : ∀ e, e < m → g e < 16) (hT : 1 ≤ T ∧ T ≤ 3375) : ∀ f p s o, cInc K (F - K) 0 p → 16 ^ K < f + cCode K p → uOk s n v → fxE s n m g → frE s F fr → tfE s m t T → pkE s K p → lsO s n m K F g fr v t T o → bstI (balV n m K fr g v t) (cInc K (F - K) 0) (fun q => cInc K (F - K) 0 q ∧ cCode K q < cCode K p) o →
    ∃ s' o', D_X9_layStrain_L55 (n32 (K : Int)) f 1 s = some s' ∧ gFrm s s' ∧ lsO s' n m K F g fr v t T o' ∧ bstI (balV n m K fr g v t) (cInc K (F - K) 0) (cInc K (F - K) 0) o' := by
  have hb16 : ∀ p, cInc K (F - K) 0 p → ∀ k, k < K → p k < 16 := fun p hp => cInc_bd (by omega) hp
  intro f
  induction f with
  | zero =>
    intro p s o hp hf
    have := cCode_bd K (hb16 p hp)
    omega
  | succ f ih =>
    intro p s o hp hf hu hx hfe ht hpk ho hI
    have hcd := cCode_bd K (hb16 p hp)
    rw [D_X9_layStrain_L55_s]
    unfold D_X9_layStrain_B55
    rw [zif_f (by decide)]
    obtain ⟨s1, o1, e1, f1, hpk1, ho1, b3⟩ := ls_row (rec55 := D_X9_layStrain_L55 (n32 (K : Int)) f) hK hn hm hK1 hF hKF hfr hg hT hp hu hx hfe ht hpk ho hI
    rw [e1]
    unfold D_X9_layStrain_J176
    have hfe1 := frE_g hfe f1
    rw [l32_1, n32_sub]
    rcases ls180 (rec55 := D_X9_layStrain_L55 (n32 (K : Int)) f) (show K ≤ 4 by omega) hF hKF hp hfe1.1 hpk1 K zFU (Nat.le_refl _) (zFU_lt (by omega)) (fun k h1 h2 => by omega) with ⟨e2, hall⟩ | ⟨s2, a, e2, f2, g2, k2, ha, hlt, hge⟩
    · rw [e2]
      obtain ⟨f, rfl⟩ : ∃ u, f = u + 1 := ⟨f - 1, by omega⟩
      refine ⟨s1, o1, ?_, f1, ho1, b3 _ (fun q hq => ?_)⟩
      · rw [D_X9_layStrain_L55_s]
        unfold D_X9_layStrain_B55
        rw [zif_t rfl]
      · have hle := cLast hall q hq
        by_cases e : cCode K q < cCode K p
        · exact Or.inl ⟨hq, e⟩
        · exact Or.inr (cCode_inj K (fun k hk => ⟨hb16 q hq k hk, hb16 p hp k hk⟩) (by omega))
    · rw [e2]
      obtain ⟨n1, n2, n3⟩ := cNext_ok (show F - K + K ≤ 16 by omega) hp ha hlt hge
      have f12 : gFrm s1 s2 := ⟨fun c k _ h84 _ => f2 c k h84, fun c k _ _ _ => by rw [g2]⟩
      have f13 := gFrm_t f1 f12
      obtain ⟨s3, o3, e3, f3, c1, c2⟩ := ih (cNext p a) s2 o1 n1 (by omega) (uOk_f hu (uFrm_g f13)) (fxE_g hx f13) (frE_g hfe f13) (tfE_g ht f13) k2 (lsO_f ho1 (f2 66 32 (by omega)) (fun k => f2 85 k (by omega)) (by rw [g2]) (by rw [g2])) (b3 _ (fun q hq => by
        have hle := n3 q hq.1 hq.2
        by_cases e : cCode K q < cCode K p
        · exact Or.inl ⟨hq.1, e⟩
        · exact Or.inr (cCode_inj K (fun k hk => ⟨hb16 q hq.1 k hk, hb16 p hp k hk⟩) (by omega))))
      exact ⟨s3, o3, e3, gFrm_t f13 f3, c1, c2⟩
end LS
