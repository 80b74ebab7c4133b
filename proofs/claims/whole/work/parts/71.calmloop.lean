/-! the calm share: what all phases together show -/
def gDep (G : Nat → Prop) (S : Nat) : Prop := ∀ z : Nat → Rat, (∀ F, G F → xS z F = 0) → xS z S = 0
/-- of each list of fixed sets: all hang on them, or the greatest complaint of those that don't stands on a balance -/
def dcG (n : Nat) (v : Nat → Int) (x : Nat → Rat) (G : Nat → Prop) : Prop :=
  (∀ S, cNm n S → gDep G S) ∨ ∃ (c : Rat) (y : Nat → Rat), (∀ S, cNm n S → ¬ gDep G S → (v S : Rat) - xS x S ≤ c) ∧ (∀ S, 0 ≤ y S) ∧ (∃ S, 0 < y S) ∧ (∀ S, 0 < y S → cNm n S ∧ ¬ gDep G S ∧ (v S : Rat) - xS x S = c) ∧ ∀ z, (∀ F, G F → xS z F = 0) → zsum 16 (fun S => y S * xS z S) = 0
def lpO (n : Nat) (v : Nat → Int) (Fz : Nat → Prop) (tf : Nat → Rat) (E : Rat) (x : Nat → Rat) : Prop :=
  cB Fz tf x ∧ (∀ S, NF n Fz tf S → (v S : Rat) - xS x S ≤ E) ∧ ∀ G : Nat → Prop, (∀ F, Fz F → gDep G F) → dcG n v x G
theorem flat_dep {Fz G : Nat → Prop} {tf : Nat → Rat} {x : Nat → Rat} {S : Nat} (hx : cB Fz tf x) (hG : ∀ F, Fz F → gDep G F) (hf : flatB (cB Fz tf) S) : gDep G S := by
  intro z hz
  have h1 : cB Fz tf (fun i => x i + 1 * z i) := fun F hF => by rw [xS_add, hG F hF z hz, hx F hF]; grind
  have h2 := hf _ _ h1 hx
  rw [xS_add] at h2
  grind
theorem lpO_step {n : Nat} {v : Nat → Int} {Fz Fz' : Nat → Prop} {tf tf' : Nat → Rat} {E E' : Rat} {x y : Nat → Rat} (hp : phC n v Fz tf Fz' tf' E' y) (hE : E' ≤ E) (hs : ∀ x, cB Fz' tf' x → cB Fz tf x) (h : lpO n v Fz' tf' E' x) : lpO n v Fz tf E x ∧ (∀ S, NF n Fz tf S → (v S : Rat) - xS x S ≤ E') ∧ ∃ S, NF n Fz tf S ∧ (v S : Rat) - xS x S = E' := by
  obtain ⟨p1, ⟨S1, p2⟩, p3, p4, p5, p6, p7⟩ := hp
  obtain ⟨h1, h2, h3⟩ := h
  have hx := hs x h1
  have hle : ∀ S, NF n Fz tf S → (v S : Rat) - xS x S ≤ E' := fun S hS => by
    by_cases e : flatB (cB Fz' tf') S
    · exact p7 S hS e x h1
    · exact h2 S ⟨hS.1, e⟩
  refine ⟨⟨hx, fun S hS => Rat.le_trans (hle S hS) hE, fun G hG => ?_⟩, hle, S1, (p3 S1 p2).1, p5 x S1 h1 p2⟩
  by_cases hall : ∀ F, 0 < y F → gDep G F
  · exact h3 G (fun F hF => (p4 F hF).elim (fun a => hG F a) (fun a => hall F a))
  · right
    obtain ⟨F0, hF0, hF1⟩ : ∃ F, 0 < y F ∧ ¬ gDep G F := Classical.byContradiction fun q => hall (fun F hF => Classical.byContradiction fun q2 => q ⟨F, hF, q2⟩)
    have hnf : ∀ S, cNm n S → ¬ gDep G S → NF n Fz tf S := fun S hS hd => ⟨hS, fun hf => hd (flat_dep hx hG hf)⟩
    obtain ⟨y', hy1, hy2⟩ : ∃ y' : Nat → Rat, (∀ S, gDep G S → y' S = 0) ∧ ∀ S, ¬ gDep G S → y' S = y S := ⟨fun S => @ite Rat (gDep G S) (Classical.propDecidable _) 0 (y S), fun S hS => if_pos hS, fun S hS => if_neg hS⟩
    refine ⟨E', y', fun S hS hd => hle S (hnf S hS hd), fun S => ?_, ⟨F0, by rw [hy2 F0 hF1]; exact hF0⟩, fun S hS => ?_, fun z hz => ?_⟩
    · by_cases e : gDep G S
      · rw [hy1 S e]; exact Rat.le_refl
      · rw [hy2 S e]; exact p1 S
    · by_cases e : gDep G S
      · rw [hy1 S e] at hS; exact absurd hS (by decide)
      · rw [hy2 S e] at hS
        exact ⟨(p3 S hS).1.1, e, p5 x S h1 hS⟩
    · rw [← p6 z (fun F hF => hG F hF z hz)]
      refine zsum_congr 16 (fun S _ => ?_)
      by_cases e : gDep G S
      · rw [hy1 S e, e z hz]; grind
      · rw [hy2 S e]
/-- the last phase: everything is fixed -/
theorem lpO_end {s : zS} {n : Nat} {v : Nat → Int} {Fz : Nat → Prop} {tf : Nat → Rat} {E : Rat} {rs cs : Nat → Nat} {cell : Nat → Nat → Int} {Q V : Int} (hn : n ≤ 4) (hn2 : 2 ≤ n) (h : PS s n v Fz tf E 0 rs cs cell Q V) : ∃ x, lpO n v Fz tf E x ∧ ∀ r, r < n → (cell r 0 : Rat) * x r = (cell r 1 : Rat) := by
  have hp := pow_le4 hn
  have h4n : 4 ≤ 2 ^ n := by
    have := Nat.pow_le_pow_right (show 0 < 2 by omega) hn2
    omega
  obtain ⟨idr, idc, vr, kr, M, kM, j1, hI, hN, hF, hc, hvr, hvc, hval, hj, hP, hE, hFN, htN⟩ := h
  have hrow : ∀ w, cA Fz tf E w → ∀ r, r < n → (cell r 0 : Rat) * w.1 r = (cell r 1 : Rat) := fun w a r hr => by
    have h1 := hI.2.1.2.1 w a r (by omega)
    rw [(hval r hr).2] at h1
    unfold rV at h1
    rw [zsum] at h1
    dsimp only at h1
    grind
  obtain ⟨w, a, -⟩ := hI.2.1.2.2 (fun _ => 0)
  have hflat : ∀ S, S < 2 ^ n → flatB (cB Fz tf) S := fun S hS x x' hx hx' => xS_ext hS (fun i hi => by
    have h1 := hrow (x, E) ⟨hx, rfl⟩ i hi
    have h2 := hrow (x', E) ⟨hx', rfl⟩ i hi
    have hpos := rat_pos (hI.2.1.1 i (by omega))
    have hne : (cell i 0 : Rat) ≠ 0 := fun e => by rw [e] at hpos; exact absurd hpos (by decide)
    exact rat_cancel hne (h1.trans h2.symm))
  refine ⟨w.1, ⟨a.1, fun S hS => absurd (hflat S (by have := hS.1.2; omega)) hS.2, fun G hG => Or.inl (fun S hS => flat_dep a.1 hG (hflat S (by have := hS.2; omega)))⟩, hrow w a⟩
/-! the loop -/
def kFrm (s s' : zS) : Prop := (∀ c k, c ≠ 30 → c ≠ 31 → (c = 8 → k ≠ 3 ∧ k ≠ 4) → (c = 4 → k ≠ 4) → s'.1 c k = s.1 c k) ∧ ∀ c k, (c < 10 ∨ 38 ≤ c) → s'.2 c k = s.2 c k
theorem kFrm_r (s : zS) : kFrm s s := ⟨fun _ _ _ _ _ _ => rfl, fun _ _ _ => rfl⟩
theorem kFrm_t {s s' s'' : zS} (h : kFrm s s') (h' : kFrm s' s'') : kFrm s s'' := ⟨fun c k a b d e => (h'.1 c k a b d e).trans (h.1 c k a b d e), fun c k a => (h'.2 c k a).trans (h.2 c k a)⟩
theorem kFrm_b {s s' : zS} (h : bFrm s s') : kFrm s s' := ⟨fun c k a b d _ => h.1 c k a b d, fun c k a => h.2 c k (by omega)⟩
def lvP (s : zS) (E : Rat) : Prop := s.2 37 0 = n64 E.num ∧ s.2 37 1 = n64 (E.den : Int)
theorem lp26 {n : Nat} {v : Nat → Int} {b : Int} (hw5 : ∀ S, S < 16 → -1000 ≤ v S ∧ v S ≤ 1000) (hn2 : 2 ≤ n) (hn : n ≤ 4) (hb : -2000 ≤ b ∧ b ≤ 2000) : ∀ C : Nat, C ≤ 3 → ∀ (f t : Nat) (s : zS) (Fz : Nat → Prop) (tf : Nat → Rat) (E : Rat) (rs cs : Nat → Nat) (cell : Nat → Nat → Int) (Q V first : Int), C + t ≤ 3 → 4 < f + t → PS s n v Fz tf E C rs cs cell Q V → 1 ≤ Q → Q ≤ 60 ^ t → V = 5000 + 4000 * (t : Int) → (first = 0 ∨ (first = 1 ∧ E = (b : Rat) ∧ t = 0)) →
    ∃ (s' : zS) (Fz' : Nat → Prop) (tf' : Nat → Rat) (E' : Rat) (rs' cs' : Nat → Nat) (cell' : Nat → Nat → Int) (Q' V' : Int) (x : Nat → Rat), D_X3_findCalm_L26 (n32 b) f (n32 first) (n32 (t : Int)) s = D_X3_findCalm_J131 s' ∧ kFrm s s' ∧ PS s' n v Fz' tf' E' 0 rs' cs' cell' Q' V' ∧ (Q' ≤ 216000 ∧ 5000 ≤ V' ∧ V' ≤ 17000) ∧ lpO n v Fz tf E x ∧ (∀ r, r < n → (cell' r 0 : Rat) * x r = (cell' r 1 : Rat)) ∧
      (first = 0 → s'.2 37 = s.2 37) ∧ (first = 1 → 1 ≤ C → ∃ E1, lvP s' E1 ∧ (E1.num.natAbs ≤ 1000000000000 ∧ E1.den ≤ 10000000) ∧ (∀ S, NF n Fz tf S → (v S : Rat) - xS x S ≤ E1) ∧ ∃ S, NF n Fz tf S ∧ (v S : Rat) - xS x S = E1) := by
  intro C
  induction C using Nat.strongRecOn with
  | ind C ih =>
    intro hC3 f t s Fz tf E rs cs cell Q V first hCt hf hPS hQ hQ2 hV hfirst
    obtain ⟨f, rfl⟩ : ∃ u, f = u + 1 := ⟨f - 1, by omega⟩
    have h84 : s.1 8 4 = n32 (C : Int) := by
      obtain ⟨idr, idc, vr, kr, M, kM, j1, hI, -⟩ := hPS
      exact hI.1.2.2.2.1
    have hQ60 : Q ≤ 216000 := by
      have : t = 0 ∨ t = 1 ∨ t = 2 ∨ t = 3 := by omega
      rcases this with rfl | rfl | rfl | rfl <;> simp at hQ2 <;> omega
    rw [D_X3_findCalm_L26_s]
    unfold D_X3_findCalm_B26
    rw [zif_f (by rw [show (4 : Int32) = n32 ((4 : Nat) : Int) from rfl, c32_le (by omega) (by omega)]; omega), h84]
    by_cases hC0 : C = 0
    · subst hC0
      obtain ⟨x, hx, hxr⟩ := lpO_end hn hn2 hPS
      rw [zif_t (by decide)]
      exact ⟨s, Fz, tf, E, rs, cs, cell, Q, V, x, rfl, kFrm_r s, hPS, ⟨hQ60, by omega, by omega⟩, hx, hxr, fun _ => rfl, fun _ h1 => by omega⟩
    · rw [zif_f (fun q => hC0 ((n32_pos (by omega)).mp q))]
      have ht2 : t ≤ 2 := by omega
      have hQ3 : Q ≤ 3600 := by
        have : t = 0 ∨ t = 1 ∨ t = 2 := by omega
        rcases this with rfl | rfl | rfl <;> simp at hQ2 <;> omega
      have hfit : 2700 * (60 * Q * (60 * Q * (V + 4000))) < 4611686018427387904 := by
        have a1 : 60 * Q * (V + 4000) ≤ 216000 * 17000 := Int.mul_le_mul (by omega) (by omega) (by omega) (by omega)
        have a2 : 60 * Q * (60 * Q * (V + 4000)) ≤ 216000 * (216000 * 17000) := Int.mul_le_mul (by omega) a1 (Int.mul_nonneg (by omega) (by omega)) (by omega)
        omega
      obtain ⟨s1, s2, s3, s4, r0, Fz', tf', E', y, c0, c1, e1, e2, e3, e4, f4, eb, ec, hc0, hc1, hE', hfz, hsub, hinc, hph, hle⟩ := ph_turn hw5 hn2 hn (by omega) hC3 (by omega) hfit hPS
      have hc1b : -(90 * (4 * Q * (V + 2000))) ≥ -100000000000 ∧ 90 * (4 * Q * (V + 2000)) ≤ 100000000000 := by
        have a1 : 4 * Q * (V + 2000) ≤ 14400 * 15000 := Int.mul_le_mul (by omega) (by omega) (by omega) (by omega)
        omega
      rw [e1, zbs, e2, zbs]
      dsimp only
      rw [e3, zbs]
      dsimp only
      have e4' : D_X0_drive s3 (n32 (r0 : Int)) (1 : Int32) = some s4 := e4
      rw [e4', zbs]
      have hnext : ∀ s4' : zS, s4'.1 = s4.1 → (∀ c k, 10 ≤ c → c < 30 → s4'.2 c k = s4.2 c k) → (∀ c k, (c < 10 ∨ 38 ≤ c) → s4'.2 c k = s4.2 c k) →
          ∃ (s' : zS) (Fz1 : Nat → Prop) (tf1 : Nat → Rat) (E1 : Rat) (rs' cs' : Nat → Nat) (cell' : Nat → Nat → Int) (Q' V' : Int) (x : Nat → Rat), D_X3_findCalm_J116 (D_X3_findCalm_L26 (n32 b) f) s4' (n32 b) (n32 0) (n32 (t : Int)) (n32 (r0 : Int)) = D_X3_findCalm_J131 s' ∧ kFrm s s' ∧ PS s' n v Fz1 tf1 E1 0 rs' cs' cell' Q' V' ∧ (Q' ≤ 216000 ∧ 5000 ≤ V' ∧ V' ≤ 17000) ∧ lpO n v Fz' tf' E' x ∧ (∀ r, r < n → (cell' r 0 : Rat) * x r = (cell' r 1 : Rat)) ∧ s'.2 37 = s4'.2 37 := fun s4' a1 a2 a3 => by
        obtain ⟨s5, C', rs5, cs5, cell5, Q', g1, g2, g3, g4, g5, g6⟩ := hfz s4' a1 a2
        have hQ' : Q' ≤ 60 ^ (t + 1) := by
          have : (60 : Int) ^ (t + 1) = 60 ^ t * 60 := Int.pow_succ 60 t
          omega
        obtain ⟨s', Fz1, tf1, E1, rs', cs', cell', Q1, V1, x, k1, k2, k3, k4, k5, k6, k7, -⟩ := ih C' (by omega) (by omega) f (t + 1) s5 Fz' tf' E' rs5 cs5 cell5 Q' (V + 4000) 0 (by omega) (by omega) g3 g5 hQ' (by push_cast; omega) (Or.inl rfl)
        refine ⟨s', Fz1, tf1, E1, rs', cs', cell', Q1, V1, x, ?_, kFrm_t (kFrm_b f4) (kFrm_t ⟨fun c k _ _ _ _ => by rw [a1], a3⟩ (kFrm_t (kFrm_b g2) k2)), k3, k4, k5, k6, ?_⟩
        · unfold D_X3_findCalm_J116
          rw [g1, zbs, nsuc]
          exact k1
        · rw [k7 rfl]
          funext k
          exact g2.2 37 k (by omega)
      rcases hfirst with rfl | ⟨rfl, rfl, rfl⟩
      · rw [zif_t (by decide)]
        obtain ⟨s', Fz1, tf1, E1, rs', cs', cell', Q1, V1, x, k1, k2, k3, k4, k5, k6, k7⟩ := hnext s4 rfl (fun _ _ _ _ => rfl) (fun _ _ _ => rfl)
        obtain ⟨o1, o2, o3⟩ := lpO_step hph hle hsub k5
        refine ⟨s', Fz1, tf1, E1, rs', cs', cell', Q1, V1, x, k1, k2, k3, k4, o1, k6, fun _ => ?_, fun h => absurd h (by decide)⟩
        rw [k7]
        funext k
        exact f4.2 37 k (by omega)
      · rw [zif_f (by decide), eb, zbs, ec, zbs]
        have hput := f8_put (s := s4) (c := 37) (a := b * c0 - c1) (b := c0) (by decide) hc0.1 (by omega) (by
          have m := abs_mul (a := b) (b := c0) (A := 2000) (B := 216000) (by omega) (by omega) (by omega) (by omega)
          omega)
        have hE1 : ((b * c0 - c1 : Int) : Rat) / (c0 : Rat) = E' := by
          have hcr := rat_pos hc0.1
          have hne : (c0 : Rat) ≠ 0 := fun e => by rw [e] at hcr; exact absurd hcr (by decide)
          have h1 := Rat.div_mul_cancel (a := (c1 : Rat)) hne
          have h2 := Rat.div_mul_cancel (a := ((b * c0 - c1 : Int) : Rat)) hne
          refine rat_cancel hne ?_
          rw [hE', Rat.mul_comm, h2]
          push_cast
          grind
        have hEb : E'.num.natAbs ≤ 1000000000000 ∧ E'.den ≤ 10000000 := by
          have h1 := rat_bd2 (a := b * c0 - c1) hc0.1
          have m := abs_mul (a := b) (b := c0) (A := 2000) (B := 216000) (by omega) (by omega) (by omega) (by omega)
          rw [hE1] at h1
          omega
        rw [n32_64 (by omega) (by omega), n64_mul, n64_sub, hput, zbs, hE1]
        obtain ⟨s', Fz1, tf1, E1, rs', cs', cell', Q1, V1, x, k1, k2, k3, k4, k5, k6, k7⟩ := hnext (zwL (zwL s4 37 0 (n64 E'.num)) 37 1 (n64 (E'.den : Int))) rfl (fun c k h1 h2 => by rw [zwL_at, if_neg (fun q => by have := q.1; omega), zwL_at, if_neg (fun q => by have := q.1; omega)]) (fun c k h1 => by rw [zwL_at, if_neg (fun q => by have := q.1; omega), zwL_at, if_neg (fun q => by have := q.1; omega)])
        obtain ⟨o1, o2, o3⟩ := lpO_step hph hle hsub k5
        refine ⟨s', Fz1, tf1, E1, rs', cs', cell', Q1, V1, x, k1, k2, k3, k4, o1, k6, fun h => absurd h (by decide), fun _ _ => ⟨E', ⟨?_, ?_⟩, hEb, o2, o3⟩⟩
        · rw [k7, zwL_at, if_neg (fun q => by have := q.2; omega), zwL_at, if_pos ⟨rfl, rfl⟩]
        · rw [k7, zwL_at, if_pos ⟨rfl, rfl⟩]
