/-! a balance of few sets: independent, and as many as the equations -/
section BL
variable {n m : Nat} {g : Nat → Nat}
def bVec (n k : Nat) (q g : Nat → Nat) (r c : Nat) : Rat := if r < k then (if c < n then ((hb (q r) c : Int) : Rat) else 1) else if c < n then ((hb (g (r - k)) c : Int) : Rat) else 0
def gP (m : Nat) (g : Nat → Nat) (F : Nat) : Prop := ∃ e, e < m ∧ g e = F
theorem bVec_q {k r : Nat} {q : Nat → Nat} {z : Nat → Rat} (hn : n ≤ 4) (hr : r < k) (hq : q r < 2 ^ n) : zsum (n + 1) (fun c => bVec n k q g r c * z c) = xS z (q r) + z n := by
  rw [zsum, xS_zsum hn hq]
  unfold bVec
  rw [if_pos hr, if_neg (Nat.lt_irrefl n), Rat.one_mul]
  congr 1
  exact zsum_congr n (fun c hc => by rw [if_pos hr, if_pos hc])
theorem bVec_g {k e : Nat} {q : Nat → Nat} {z : Nat → Rat} (hn : n ≤ 4) (hg : g e < 2 ^ n) : zsum (n + 1) (fun c => bVec n k q g (k + e) c * z c) = xS z (g e) := by
  rw [zsum, xS_zsum hn hg]
  unfold bVec
  rw [if_neg (by omega), if_neg (Nat.lt_irrefl n), Rat.zero_mul, show k + e - k = e by omega, Rat.add_zero]
  exact zsum_congr n (fun c hc => by rw [if_neg (by omega), if_pos hc])
theorem linI_le {k d : Nat} {a : Nat → Nat → Rat} (h : linI k d a) : k ≤ d := by
  refine Classical.byContradiction fun hno => ?_
  obtain ⟨c, ⟨r, hr, hne⟩, -, hc⟩ := lin_U k d (fun j r => a r j) (by omega)
  exact hne (h c (fun j hj => by rw [← hc j hj]; exact zsum_congr k (fun r _ => Rat.mul_comm _ _)) r hr)
theorem zsum_split {k m : Nat} {f : Nat → Rat} : zsum (k + m) f = zsum k f + zsum m (fun e => f (k + e)) := by
  induction m with
  | zero => simp only [zsum]; show zsum k f = _; grind
  | succ m ih => show zsum (k + m) f + f (k + m) = _; rw [ih, zsum]; grind
/-- fewer and fewer, until they are independent -/
theorem carat {P : Nat → Prop} (hn : n ≤ 4) (hg : ∀ e, e < m → g e < 2 ^ n) (hgi : linI m n (fun r c => ((hb (g r) c : Int) : Rat))) (hP : ∀ S, P S → S < 2 ^ n) : ∀ (k : Nat) (q : Nat → Nat) (w : Nat → Rat), (∀ r, r < k → 0 ≤ w r) → (∀ r, r < k → 0 < w r → P (q r)) → 0 < zsum k w → (∀ z, (∀ F, gP m g F → xS z F = 0) → zsum k (fun r => w r * xS z (q r)) = 0) →
    ∃ (k' : Nat) (q' : Nat → Nat) (w' : Nat → Rat), linI (k' + m) (n + 1) (bVec n k' q' g) ∧ (∀ r, r < k' → 0 < w' r ∧ P (q' r)) ∧ 0 < zsum k' w' ∧ ∀ z, (∀ F, gP m g F → xS z F = 0) → zsum k' (fun r => w' r * xS z (q' r)) = 0 := by
  intro k
  induction k with
  | zero => intro q w _ _ h _; rw [zsum] at h; exact absurd h (by decide)
  | succ k ih =>
    intro q w h0 hw hs hz
    -- one of no weight goes
    have hdrop : ∀ (w2 : Nat → Rat) (r0 : Nat), r0 < k + 1 → w2 r0 = 0 → (∀ r, r < k + 1 → 0 ≤ w2 r) → (∀ r, r < k + 1 → 0 < w2 r → P (q r)) → 0 < zsum (k + 1) w2 → (∀ z, (∀ F, gP m g F → xS z F = 0) → zsum (k + 1) (fun r => w2 r * xS z (q r)) = 0) → ∃ (k' : Nat) (q' : Nat → Nat) (w' : Nat → Rat), linI (k' + m) (n + 1) (bVec n k' q' g) ∧ (∀ r, r < k' → 0 < w' r ∧ P (q' r)) ∧ 0 < zsum k' w' ∧ ∀ z, (∀ F, gP m g F → xS z F = 0) → zsum k' (fun r => w' r * xS z (q' r)) = 0 := fun w2 r0 hr0 hz0 a1 a2 a3 a4 => by
      have hsk : zswp r0 k k = r0 := by unfold zswp; (repeat' split) <;> omega
      have hlt : ∀ r, r < k → zswp r0 k r < k + 1 := fun r hr => (zswp_lt hr0 (by omega)).mpr (by omega)
      refine ih (fun r => q (zswp r0 k r)) (fun r => w2 (zswp r0 k r)) (fun r hr => a1 _ (hlt r hr)) (fun r hr => a2 _ (hlt r hr)) ?_ (fun z hzz => ?_)
      · rw [← zsum_swp hr0 (show k < k + 1 by omega), zsum, hsk, hz0] at a3
        grind
      · have := a4 z hzz
        rw [← zsum_swp hr0 (show k < k + 1 by omega), zsum, hsk, hz0] at this
        grind
    by_cases hpos : ∃ r, r < k + 1 ∧ w r = 0
    · obtain ⟨r0, hr0, hz0⟩ := hpos
      exact hdrop w r0 hr0 hz0 h0 hw hs hz
    · have hwp : ∀ r, r < k + 1 → 0 < w r := fun r hr => Rat.lt_of_le_of_ne (h0 r hr) (fun e => hpos ⟨r, hr, e.symm⟩)
      have hq : ∀ r, r < k + 1 → q r < 2 ^ n := fun r hr => hP _ (hw r hr (hwp r hr))
      by_cases hl : linI (k + 1 + m) (n + 1) (bVec n (k + 1) q g)
      · exact ⟨k + 1, q, w, hl, fun r hr => ⟨hwp r hr, hw r hr (hwp r hr)⟩, hs, hz⟩
      · obtain ⟨c, hc1, hc2⟩ : ∃ c : Nat → Rat, (∀ j, j < n + 1 → zsum (k + 1 + m) (fun r => c r * bVec n (k + 1) q g r j) = 0) ∧ ¬ ∀ r, r < k + 1 + m → c r = 0 := by
          refine Classical.byContradiction fun q1 => hl (fun c hc => ?_)
          exact Classical.byContradiction fun q2 => q1 ⟨c, hc, q2⟩
        have hdot : ∀ z : Nat → Rat, zsum (k + 1) (fun r => c r * (xS z (q r) + z n)) + zsum m (fun e => c (k + 1 + e) * xS z (g e)) = 0 := fun z => by
          have e1 : zsum (n + 1) (fun j => zsum (k + 1 + m) (fun r => c r * bVec n (k + 1) q g r j) * z j) = 0 := zsum_zero (n + 1) (fun j hj => by rw [hc1 j hj]; grind)
          have e2 : zsum (n + 1) (fun j => zsum (k + 1 + m) (fun r => c r * bVec n (k + 1) q g r j) * z j) = zsum (k + 1 + m) (fun r => c r * zsum (n + 1) (fun j => bVec n (k + 1) q g r j * z j)) := by
            rw [zsum_congr (n + 1) (fun j _ => (zsum_mulr (k + 1 + m)).symm), zsum_swap]
            refine zsum_congr _ (fun r _ => ?_)
            rw [← zsum_mul]
            exact zsum_congr _ (fun j _ => by grind)
          rw [e1, zsum_split] at e2
          have e3 : zsum (k + 1) (fun r => c r * (xS z (q r) + z n)) = zsum (k + 1) (fun r => c r * zsum (n + 1) (fun j => bVec n (k + 1) q g r j * z j)) := zsum_congr (k + 1) (fun r hr => by rw [bVec_q (g := g) hn hr (hq r hr)])
          have e4 : zsum m (fun e => c (k + 1 + e) * xS z (g e)) = zsum m (fun e => c (k + 1 + e) * zsum (n + 1) (fun j => bVec n (k + 1) q g (k + 1 + e) j * z j)) := zsum_congr m (fun e he => by rw [bVec_g (k := k + 1) (q := q) hn (hg e he)])
          rw [e3, e4]
          exact e2.symm
        have hsum0 : zsum (k + 1) c = 0 := by
          have h1 := hdot (fun j => if j = n then 1 else 0)
          have hx : ∀ S, S < 2 ^ n → xS (fun j => if j = n then (1 : Rat) else 0) S = 0 := fun S hS => by
            rw [xS_zsum hn hS]
            exact zsum_zero n (fun j hj => by rw [if_neg (by omega)]; grind)
          rw [zsum_congr (k + 1) (g := c) (fun r hr => by rw [hx _ (hq r hr), if_pos rfl]; grind), zsum_zero m (fun e he => by rw [hx _ (hg e he)]; grind)] at h1
          grind
        have hnull : ∀ z, (∀ F, gP m g F → xS z F = 0) → zsum (k + 1) (fun r => c r * xS z (q r)) = 0 := fun z hzz => by
          have h1 := hdot z
          rw [zsum_zero m (fun e he => by rw [hzz (g e) ⟨e, he, rfl⟩]; grind)] at h1
          have h2 : zsum (k + 1) (fun r => c r * (xS z (q r) + z n)) = zsum (k + 1) (fun r => c r * xS z (q r)) + zsum (k + 1) c * z n := by
            rw [← zsum_mulr, ← zsum_add]
            exact zsum_congr _ (fun r _ => by grind)
          rw [h2, hsum0] at h1
          grind
        have hsome : ∃ r, r < k + 1 ∧ 0 < c r := by
          refine Classical.byContradiction fun hno => hc2 ?_
          have hle : ∀ r, r < k + 1 → c r ≤ 0 := fun r hr => Rat.not_lt.mp (fun q => hno ⟨r, hr, q⟩)
          have hzr : ∀ r, r < k + 1 → c r = 0 := fun r hr => by
            have h1 : zsum (k + 1) (fun i => if i = r then 0 else -c i) = zsum (k + 1) (fun i => -c i) - -c r + 0 := zsum_one (f := fun i => -c i) (c := r) (x := 0) (k + 1) hr
            have h2 : 0 ≤ zsum (k + 1) (fun i => if i = r then 0 else -c i) := zsum_nonneg (k + 1) (fun i hi => by
              split
              · exact Rat.le_refl
              · have := hle i hi; grind)
            have h3 : zsum (k + 1) (fun i => -c i) = -zsum (k + 1) c := by
              have : zsum (k + 1) (fun i => -c i) = zsum (k + 1) (fun i => (-1) * c i) := zsum_congr _ (fun i _ => by grind)
              rw [this, zsum_mul]; grind
            have := hle r hr
            rw [h1, h3, hsum0] at h2
            grind
          have hg0 := hgi (fun e => c (k + 1 + e)) (fun j hj => by
            have h1 := hc1 j (by omega)
            rw [zsum_split, zsum_zero (k + 1) (fun r hr => by rw [hzr r hr]; grind), Rat.zero_add] at h1
            rw [← h1]
            refine zsum_congr m (fun e he => ?_)
            unfold bVec
            rw [if_neg (by omega), if_pos hj, show k + 1 + e - (k + 1) = e by omega])
          intro r hr
          by_cases e : r < k + 1
          · exact hzr r e
          · have := hg0 (r - (k + 1)) (by omega)
            try dsimp only at this
            rwa [show k + 1 + (r - (k + 1)) = r by omega] at this
        -- the first that comes to 0
        have hmin : ∀ d, d ≤ k + 1 → (∃ r, r < d ∧ 0 < c r) → ∃ r0, r0 < d ∧ 0 < c r0 ∧ ∀ r, r < d → 0 < c r → w r0 * c r ≤ w r * c r0 := by
          intro d
          induction d with
          | zero => intro _ h; obtain ⟨r, hr, -⟩ := h; omega
          | succ d ihd =>
            intro hd h
            by_cases he : ∃ r, r < d ∧ 0 < c r
            · obtain ⟨r0, a1, a2, a3⟩ := ihd (by omega) he
              by_cases e : 0 < c d ∧ w d * c r0 < w r0 * c d
              · refine ⟨d, by omega, e.1, fun r hr hcr => ?_⟩
                by_cases e2 : r = d
                · rw [e2]; exact Rat.le_refl
                · have h1 := a3 r (by omega) hcr
                  -- w d c r ≤ w r c d
                  have h2 : w d * c r0 * c r ≤ w r0 * c d * c r := Rat.mul_le_mul_of_nonneg_right (Rat.le_of_lt e.2) (Rat.le_of_lt hcr)
                  have h3 : w r0 * c r * c d ≤ w r * c r0 * c d := Rat.mul_le_mul_of_nonneg_right h1 (Rat.le_of_lt e.1)
                  refine Rat.le_of_mul_le_mul_right (c := c r0) ?_ a2
                  grind
              · refine ⟨r0, by omega, a2, fun r hr hcr => ?_⟩
                by_cases e2 : r = d
                · rw [e2] at hcr ⊢
                  exact Rat.not_lt.mp (fun q => e ⟨hcr, q⟩)
                · exact a3 r (by omega) hcr
            · obtain ⟨r, hr, hcr⟩ := h
              have : r = d := Classical.byContradiction fun q => he ⟨r, by omega, hcr⟩
              subst this
              refine ⟨r, by omega, hcr, fun i hi hci => ?_⟩
              have : i = r := Classical.byContradiction fun q => he ⟨i, by omega, hci⟩
              rw [this]; exact Rat.le_refl
        obtain ⟨r0, b1, b2, b3⟩ := hmin (k + 1) (Nat.le_refl _) hsome
        have hcne : c r0 ≠ 0 := fun e => by rw [e] at b2; exact absurd b2 (by decide)
        have hθ := Rat.div_mul_cancel (a := w r0) hcne
        have hθp : 0 ≤ w r0 / c r0 := by
          rw [Rat.div_def]
          exact Rat.mul_nonneg (h0 r0 b1) (Rat.le_of_lt (Rat.inv_pos.mpr b2))
        generalize w r0 / c r0 = θ at hθ hθp
        have hge : ∀ r, r < k + 1 → 0 ≤ w r - θ * c r := fun r hr => by
          by_cases e : 0 < c r
          · have h1 := b3 r hr e
            have h2 : (θ * c r) * c r0 ≤ w r * c r0 := by rw [← hθ] at h1; grind
            have := Rat.le_of_mul_le_mul_right h2 b2
            grind
          · have h1 : 0 ≤ θ * -c r := Rat.mul_nonneg hθp (by have := Rat.not_lt.mp e; grind)
            have := h0 r hr
            grind
        refine hdrop (fun r => w r - θ * c r) r0 b1 (by (try dsimp only); grind) hge (fun r hr _ => hw r hr (hwp r hr)) ?_ (fun z hzz => ?_)
        · rw [zsum_sub, zsum_mul, hsum0]; grind
        · have e1 : zsum (k + 1) (fun r => (w r - θ * c r) * xS z (q r)) = zsum (k + 1) (fun r => w r * xS z (q r)) - θ * zsum (k + 1) (fun r => c r * xS z (q r)) := by
            rw [← zsum_mul, ← zsum_sub]
            exact zsum_congr _ (fun r _ => by grind)
          rw [e1, hz z hzz, hnull z hzz]; grind
end BL
