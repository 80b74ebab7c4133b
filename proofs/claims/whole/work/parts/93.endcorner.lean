/-! the ends: a corner of the core is a row of sets -/
section EC
variable {n side : Nat} {v : Nat → Int} {x : Nat → Rat}
/-- the sets of a row of the reference: those picked, and all sides -/
def eQ (n : Nat) (q : Nat → Nat) (k : Nat) : Nat := if k < n - 1 then q k else 2 ^ n - 1
def eVal (n : Nat) (v : Nat → Int) (side : Nat) (q : Nat → Nat) (t : Rat) : Prop := (∀ z : Nat → Rat, (∀ k, k < n → xS z (eQ n q k) = 0) → ∀ i, i < n → z i = 0) ∧ ∃ x, (∀ k, k < n → xS x (eQ n q k) = (v (eQ n q k) : Rat)) ∧ coreP n v x ∧ x side = t
theorem linI_inj {k : Nat} {q : Nat → Nat} {a b : Nat} (h : linI k n (fun r c => ((hb (q r) c : Int) : Rat))) (ha : a < k) (hb' : b < k) (e : q a = q b) : a = b := by
  refine Classical.byContradiction fun hne => ?_
  have h1 := h (fun r => (if r = a then 1 else 0) - if r = b then 1 else 0) (fun j _ => by
    have e1 : zsum k (fun r => ((if r = a then 1 else 0) - if r = b then 1 else 0) * ((hb (q r) j : Int) : Rat)) = zsum k (fun r => (if r = a then ((hb (q a) j : Int) : Rat) else 0)) - zsum k (fun r => if r = b then ((hb (q b) j : Int) : Rat) else 0) := by
      rw [← zsum_sub]
      refine zsum_congr _ (fun r _ => ?_)
      by_cases k1 : r = a
      · rw [if_pos k1, if_neg (by omega), if_pos k1, if_neg (by omega), k1]; grind
      · rw [if_neg k1, if_neg k1]
        by_cases k2 : r = b
        · rw [if_pos k2, if_pos k2, k2]; grind
        · rw [if_neg k2, if_neg k2]; grind
    rw [e1, zsum_single (c := a) ha (fun i _ hi => if_neg hi), zsum_single (c := b) hb' (fun i _ hi => if_neg hi), if_pos rfl, if_pos rfl, e]
    grind) a ha
  rw [if_pos rfl, if_neg hne] at h1
  exact absurd h1 (by decide +kernel)
theorem vtx_ext (hn : n ≤ 4) (hv : vtxP n v x) : ∀ (d k : Nat) (q : Nat → Nat), k + d = n → (∀ r, r < k → lpNm n (q r) ∧ xS x (q r) = (v (q r) : Rat)) → linI k n (fun r c => ((hb (q r) c : Int) : Rat)) →
    ∃ q' : Nat → Nat, (∀ r, r < k → q' r = q r) ∧ (∀ r, r < n → lpNm n (q' r) ∧ xS x (q' r) = (v (q' r) : Rat)) ∧ linI n n (fun r c => ((hb (q' r) c : Int) : Rat)) := by
  intro d
  induction d with
  | zero =>
    intro k q hk hq hl
    obtain rfl : k = n := by omega
    exact ⟨q, fun _ _ => rfl, hq, hl⟩
  | succ d ih =>
    intro k q hk hq hl
    obtain ⟨z, ⟨j, hj, hne⟩, -, hz⟩ := lin_U n k (fun r c => ((hb (q r) c : Int) : Rat)) (by omega)
    have hzq : ∀ r, r < k → xS z (q r) = 0 := fun r hr => by
      rw [xS_zsum hn (hq r hr).1.2]
      exact hz r hr
    obtain ⟨S, hS1, hS2, hS3⟩ : ∃ S, lpNm n S ∧ xS x S = (v S : Rat) ∧ xS z S ≠ 0 := by
      refine Classical.byContradiction fun hno => hne ?_
      exact hv z (fun S h1 h2 => Classical.byContradiction fun h3 => hno ⟨S, h1, h2, h3⟩) j hj
    have hl2 := (free_dep (S := S) hn (fun e he => (hq e he).1.2) hS1.2 hl).mpr (fun hd => hS3 (hd z (fun F hF => by
      obtain ⟨e, he, rfl⟩ := hF
      exact hzq e he)))
    obtain ⟨q', h1, h2, h3⟩ := ih (k + 1) (gS k q S) (by omega) (fun r hr => by
      unfold gS
      by_cases e : r < k
      · rw [if_pos e]; exact hq r e
      · rw [if_neg e]; exact ⟨hS1, hS2⟩) hl2
    refine ⟨q', fun r hr => ?_, h2, h3⟩
    rw [h1 r (by omega)]
    unfold gS
    rw [if_pos hr]
theorem vtx_row (hn1 : 1 ≤ n) (hn : n ≤ 4) (hx : coreP n v x) (hv : vtxP n v x) : ∃ p, cInc (n - 1) (2 ^ n - n) 1 p ∧ eVal n v side p (x side) := by
  have hp := pow_le4 hn
  have hl1 : linI 1 n (fun r c => ((hb (gS 0 (fun _ => 0) (2 ^ n - 1) r) c : Int) : Rat)) := (free_dep (S := 2 ^ n - 1) (m := 0) (g := fun _ => 0) hn (fun e he => by omega) (by omega) (fun c _ r hr => by omega)).mpr (fun hd => by
    have h := hd (fun _ => 1) (fun F hF => by obtain ⟨e, he, -⟩ := hF; omega)
    rw [xS_all hn] at h
    have : n = 1 ∨ n = 2 ∨ n = 3 ∨ n = 4 := by omega
    rcases this with rfl | rfl | rfl | rfl <;> exact absurd h (by decide +kernel))
  have hgS : ∀ r, r < 1 → gS 0 (fun _ => 0) (2 ^ n - 1) r = 2 ^ n - 1 := fun r hr => by unfold gS; rw [if_neg (by omega)]
  obtain ⟨q, q1, q2, q3⟩ := vtx_ext hn hv (n - 1) 1 _ (by omega) (fun r hr => by rw [hgS r hr]; exact ⟨⟨by omega, by omega⟩, hx.2⟩) hl1
  have q0 : q 0 = 2 ^ n - 1 := by rw [q1 0 (by omega), hgS 0 (by omega)]
  -- all sides' set goes last
  have hrot : linI n n (fun r c => ((hb (eQ n (fun k => q (k + 1)) r) c : Int) : Rat)) := by
    have heq : ∀ r, r < n → eQ n (fun k => q (k + 1)) r = if r + 1 < n then q (r + 1) else q 0 := fun r hr => by
      unfold eQ
      by_cases e : r + 1 < n
      · rw [if_pos (by omega), if_pos e]
      · rw [if_neg (by omega), if_neg e, q0]
    intro c hc r hr
    have h := q3 (fun k => if k = 0 then c (n - 1) else c (k - 1)) (fun j hj => by
      rw [← hc j hj]
      obtain ⟨m, rfl⟩ : ∃ m, n = m + 1 := ⟨n - 1, by omega⟩
      have hm : m = 0 ∨ m = 1 ∨ m = 2 ∨ m = 3 := by omega
      rcases hm with rfl | rfl | rfl | rfl
      · simp only [zsum]; rw [heq 0 (by omega)]; simp
      · simp only [zsum]; rw [heq 0 (by omega), heq 1 (by omega)]; simp; grind
      · simp only [zsum]; rw [heq 0 (by omega), heq 1 (by omega), heq 2 (by omega)]; simp; grind
      · simp only [zsum]; rw [heq 0 (by omega), heq 1 (by omega), heq 2 (by omega), heq 3 (by omega)]; simp; grind)
    by_cases e : r + 1 < n
    · have h1 := h (r + 1) e
      rw [if_neg (by omega)] at h1
      exact h1
    · have h1 := h 0 (by omega)
      rw [if_pos rfl] at h1
      have : r = n - 1 := by omega
      rw [this]; exact h1
  obtain ⟨p, ⟨p1, p2⟩, p3⟩ := sort_ex (K := n - 1) (P := fun q => (∀ k, k < n - 1 → lpNm n (q k) ∧ xS x (q k) = (v (q k) : Rat)) ∧ linI n n (fun r c => ((hb (eQ n q r) c : Int) : Rat))) (fun q a b ha hb' ⟨h1, h2⟩ => ⟨fun k hk => h1 _ ((zswp_lt ha hb').mpr hk), by
    have h3 := linI_swp (x := a) (y := b) (show a < n by omega) (show b < n by omega) h2
    refine linI_ext (fun r hr j hj => ?_) h3
    have e : eQ n q (zswp a b r) = eQ n (fun k => q (zswp a b k)) r := by
      unfold eQ
      by_cases e : r < n - 1
      · rw [if_pos e, if_pos ((zswp_lt ha hb').mpr e)]
      · rw [if_neg e, if_neg (fun q => e ((zswp_lt ha hb').mp q))]
    rw [e]⟩) (n - 1) 0 (fun k => q (k + 1)) (by omega) ⟨fun k hk => q2 (k + 1) (by omega), hrot⟩ (fun a b ha hb' e => by
      have := linI_inj q3 (show a + 1 < n by omega) (show b + 1 < n by omega) e
      omega) (fun i j h => by omega)
  have hproper : ∀ k, k < n - 1 → p k < 2 ^ n - 1 := fun k hk => by
    have h1 := (p1 k hk).1.2
    refine Classical.byContradiction fun e => ?_
    have e2 : eQ n p k = eQ n p (n - 1) := by
      unfold eQ
      rw [if_pos hk, if_neg (by omega)]; omega
    have := linI_inj p2 (show k < n by omega) (show n - 1 < n by omega) e2
    omega
  refine ⟨p, ⟨fun k hk => p3 k (k + 1) (by omega) hk, fun k hk => ⟨(p1 k hk).1.1, ?_⟩⟩, fun z hz => linI_null p2 (fun i hi => by
    have hlt : eQ n p i < 2 ^ n := by
      unfold eQ
      split
      · exact (p1 i (by assumption)).1.2
      · omega
    rw [← xS_zsum hn hlt]; exact hz i hi), x, fun k hk => ?_, hx, rfl⟩
  · have hstep : ∀ m, k + m < n - 1 → p k + m ≤ p (k + m) := by
      intro m
      induction m with
      | zero => intro _; exact Nat.le_refl _
      | succ m ih =>
        intro h
        have h1 := ih (by omega)
        have h2 := p3 (k + m) (k + (m + 1)) (by omega) h
        omega
    have h1 := hstep (n - 1 - 1 - k) (by omega)
    rw [show k + (n - 1 - 1 - k) = n - 2 by omega] at h1
    have h2 := hproper (n - 2) (by omega)
    omega
  · unfold eQ
    by_cases e : k < n - 1
    · rw [if_pos e]; exact (p1 k e).2
    · rw [if_neg e]; exact hx.2
end EC
