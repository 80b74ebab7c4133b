/-! a balance of as many sets as the equations want -/
section BE
variable {n m : Nat} {g : Nat → Nat}
def frP (n m : Nat) (g : Nat → Nat) (S : Nat) : Prop := cNm n S ∧ ¬ gDep (gP m g) S
theorem gDep_compl {S : Nat} (hn : n ≤ 4) (hN : gP m g (2 ^ n - 1)) (hS : S < 2 ^ n) (h : gDep (gP m g) (2 ^ n - 1 - S)) : gDep (gP m g) S := fun z hz => by
  have h1 := h z hz
  rw [xS_compl hn hS, hz _ hN] at h1
  grind
theorem bal_ext {k : Nat} {q : Nat → Nat} (hn2 : 2 ≤ n) (hn : n ≤ 4) (hg : ∀ e, e < m → g e < 2 ^ n) (hN : gP m g (2 ^ n - 1)) (hex : ∃ S, frP n m g S) (hq : ∀ r, r < k → frP n m g (q r)) (hk : k + m < n + 1) (h : linI (k + m) (n + 1) (bVec n k q g)) :
    ∃ S, frP n m g S ∧ linI (k + 1 + m) (n + 1) (bVec n (k + 1) (fun r => if r < k then q r else S) g) := by
  have hlt : ∀ S, frP n m g S → S < 2 ^ n := fun S hS => by have := hS.1.2; omega
  have hp := pow_le4 hn
  have h4n : 4 ≤ 2 ^ n := by
    have := Nat.pow_le_pow_right (show 0 < 2 by omega) hn2
    omega
  obtain ⟨z, ⟨j0, hj0, hzne⟩, hzo, hz⟩ := lin_U (n + 1) (k + m) (bVec n k q g) hk
  have hzq : ∀ r, r < k → xS z (q r) + z n = 0 := fun r hr => by rw [← bVec_q (g := g) hn hr (hlt _ (hq r hr))]; exact hz r (by omega)
  have hzg : ∀ F, gP m g F → xS z F = 0 := fun F hF => by
    obtain ⟨e, he, rfl⟩ := hF
    rw [← bVec_g (k := k) (q := q) hn (hg e he)]; exact hz (k + e) (by omega)
  obtain ⟨S, hS, hSne⟩ : ∃ S, frP n m g S ∧ xS z S + z n ≠ 0 := by
    refine Classical.byContradiction fun hno => hzne ?_
    have hall : ∀ S, frP n m g S → xS z S + z n = 0 := fun S hS => Classical.byContradiction fun q1 => hno ⟨S, hS, q1⟩
    obtain ⟨S0, hS0⟩ := hex
    have h1 := hall S0 hS0
    have h2 := hall (2 ^ n - 1 - S0) ⟨compl_nm hS0.1, fun hd => hS0.2 (gDep_compl hn hN (hlt S0 hS0) hd)⟩
    rw [xS_compl hn (hlt S0 hS0), hzg _ hN] at h2
    have hη : z n = 0 := by grind
    have hS : ∀ S, cNm n S → xS z S = 0 := fun S hS => by
      by_cases e : gDep (gP m g) S
      · exact e z hzg
      · have := hall S ⟨hS, e⟩
        rw [hη] at this
        grind
    by_cases e : j0 = n
    · rw [e]; exact hη
    · have hj : j0 < n := by omega
      have h3 := hS (2 ^ j0) ⟨Nat.one_le_two_pow, by
        have h1 : 2 ^ j0 ≤ 2 ^ (n - 1) := Nat.pow_le_pow_right (by omega) (by omega)
        have h2 : 2 ^ n = 2 * 2 ^ (n - 1) := by rw [← Nat.pow_succ']; congr 1; omega
        omega⟩
      rw [xS_single hn hj] at h3
      exact h3
  refine ⟨S, hS, fun c hc => ?_⟩
  -- the new one's coefficient is 0
  have hdot : zsum (k + 1 + m) (fun r => c r * zsum (n + 1) (fun j => bVec n (k + 1) (fun r => if r < k then q r else S) g r j * z j)) = 0 := by
    have e1 : zsum (k + 1 + m) (fun r => c r * zsum (n + 1) (fun j => bVec n (k + 1) (fun r => if r < k then q r else S) g r j * z j)) = zsum (n + 1) (fun j => zsum (k + 1 + m) (fun r => c r * bVec n (k + 1) (fun r => if r < k then q r else S) g r j) * z j) := by
      rw [zsum_congr (n + 1) (fun j _ => (zsum_mulr (k + 1 + m)).symm), zsum_swap]
      refine zsum_congr _ (fun r _ => ?_)
      rw [← zsum_mul]
      exact zsum_congr _ (fun j _ => by grind)
    rw [e1]
    exact zsum_zero _ (fun j hj => by rw [hc j hj]; grind)
  have hq1 : ∀ r, r < k + 1 → (fun r => if r < k then q r else S) r < 2 ^ n := fun r hr => by
    dsimp only
    by_cases e : r < k
    · rw [if_pos e]; exact hlt _ (hq r e)
    · rw [if_neg e]; exact hlt S hS
  have hck : c k = 0 := by
    rw [zsum_split, zsum_zero m (fun e he => by rw [bVec_g hn (hg e he), hzg _ ⟨e, he, rfl⟩]; grind), zsum, bVec_q (q := fun r => if r < k then q r else S) (r := k) hn (by omega) (hq1 k (by omega)), zsum_zero k (fun r hr => by
      rw [bVec_q (q := fun r => if r < k then q r else S) (r := r) hn (by omega) (hq1 r (by omega))]
      try dsimp only
      rw [if_pos hr, hzq r hr]; grind)] at hdot
    try dsimp only at hdot
    rw [if_neg (Nat.lt_irrefl k)] at hdot
    have h0 : c k * (xS z S + z n) = 0 := by grind
    rcases Rat.mul_eq_zero.mp h0 with a | a
    · exact a
    · exact absurd a hSne
  have hrest := h (fun r => if r < k then c r else c (r + 1)) (fun j hj => by
    have h1 := hc j hj
    rw [zsum_split, zsum, hck] at h1
    rw [zsum_split, ← h1]
    have e1 : zsum k (fun r => (if r < k then c r else c (r + 1)) * bVec n k q g r j) = zsum k (fun r => c r * bVec n (k + 1) (fun r => if r < k then q r else S) g r j) := zsum_congr k (fun r hr => by
      unfold bVec
      rw [if_pos hr, if_pos hr, if_pos (show r < k + 1 by omega)]
      dsimp only
      rw [if_pos hr])
    have e2 : zsum m (fun e => (if k + e < k then c (k + e) else c (k + e + 1)) * bVec n k q g (k + e) j) = zsum m (fun e => c (k + 1 + e) * bVec n (k + 1) (fun r => if r < k then q r else S) g (k + 1 + e) j) := zsum_congr m (fun e he => by
      unfold bVec
      rw [if_neg (show ¬ k + e < k by omega), if_neg (show ¬ k + e < k by omega), if_neg (show ¬ k + 1 + e < k + 1 by omega), show k + e + 1 = k + 1 + e by omega, show k + e - k = e by omega, show k + 1 + e - (k + 1) = e by omega])
    rw [e1, e2]
    grind)
  intro r hr
  by_cases e : r < k
  · have := hrest r (by omega)
    try dsimp only at this
    rwa [if_pos e] at this
  · by_cases e2 : r = k
    · rw [e2]; exact hck
    · have := hrest (r - 1) (by omega)
      try dsimp only at this
      rwa [if_neg (by omega), show r - 1 + 1 = r by omega] at this
theorem bal_full (hn2 : 2 ≤ n) (hn : n ≤ 4) (hg : ∀ e, e < m → g e < 2 ^ n) (hN : gP m g (2 ^ n - 1)) (hex : ∃ S, frP n m g S) : ∀ (d k : Nat) (q : Nat → Nat), k + d + m = n + 1 → (∀ r, r < k → frP n m g (q r)) → linI (k + m) (n + 1) (bVec n k q g) →
    ∃ q' : Nat → Nat, (∀ r, r < k → q' r = q r) ∧ (∀ r, r < k + d → frP n m g (q' r)) ∧ linI (k + d + m) (n + 1) (bVec n (k + d) q' g) := by
  intro d
  induction d with
  | zero => intro k q hk hq h; exact ⟨q, fun _ _ => rfl, hq, h⟩
  | succ d ih =>
    intro k q hk hq h
    obtain ⟨S, hS, hl⟩ := bal_ext hn2 hn hg hN hex hq (by omega) h
    obtain ⟨q', a1, a2, a3⟩ := ih (k + 1) (fun r => if r < k then q r else S) (by omega) (fun r hr => by
      try dsimp only
      by_cases e : r < k
      · rw [if_pos e]; exact hq r e
      · rw [if_neg e]; exact hS) hl
    refine ⟨q', fun r hr => ?_, fun r hr => a2 r (by omega), ?_⟩
    · rw [a1 r (by omega)]
      try dsimp only
      rw [if_pos hr]
    · rw [show k + (d + 1) = k + 1 + d by omega]; exact a3
/-- the balance by the equations -/
theorem bal_ex {P : Nat → Prop} (hn2 : 2 ≤ n) (hn : n ≤ 4) (hm : m ≤ n) (hg : ∀ e, e < m → g e < 2 ^ n) (hgi : linI m n (fun r c => ((hb (g r) c : Int) : Rat))) (hN : gP m g (2 ^ n - 1)) (hPf : ∀ S, P S → frP n m g S) (y : Nat → Rat) (hy0 : ∀ S, 0 ≤ y S) (hy1 : ∃ S, 0 < y S) (hyP : ∀ S, 0 < y S → P S) (hyz : ∀ z, (∀ F, gP m g F → xS z F = 0) → zsum 16 (fun S => y S * xS z S) = 0) :
    ∃ (q : Nat → Nat) (X : Nat → Rat), (∀ r, r < n + 1 - m → frP n m g (q r)) ∧ linI (n + 1) (n + 1) (bVec n (n + 1 - m) q g) ∧ (∀ r, r < n + 1 - m → 0 ≤ X r ∧ (0 < X r → P (q r))) ∧ ∀ c, c < n + 1 → zsum (n + 1) (fun r => X r * bVec n (n + 1 - m) q g r c) = if c = n then 1 else 0 := by
  have hlt : ∀ S, frP n m g S → S < 2 ^ n := fun S hS => by have := hS.1.2; omega
  have hp := pow_le4 hn
  obtain ⟨S1, hS1⟩ := hy1
  obtain ⟨k, q0, w0, l0, w1, w2, w3⟩ := carat (P := P) hn hg hgi (fun S hS => hlt S (hPf S hS)) 16 (fun r => r) y (fun r _ => hy0 r) (fun r _ h => hyP r h) (by
    have h16 : S1 < 16 := by have := hlt S1 (hPf S1 (hyP S1 hS1)); omega
    have h1 : 0 ≤ zsum 16 (fun S => if S = S1 then 0 else y S) := zsum_nonneg 16 (fun S _ => by
      split
      · exact Rat.le_refl
      · exact hy0 S)
    rw [zsum_one 16 h16] at h1
    grind) hyz
  have hkn := linI_le l0
  obtain ⟨q, a1, a2, a3⟩ := bal_full hn2 hn hg hN ⟨S1, hPf S1 (hyP S1 hS1)⟩ (n + 1 - m - k) k q0 (by omega) (fun r hr => hPf _ (w1 r hr).2) l0
  rw [show k + (n + 1 - m - k) = n + 1 - m by omega] at a2 a3
  rw [show n + 1 - m + m = n + 1 by omega] at a3
  -- the equations have an answer
  obtain ⟨c, ⟨rc, hrc, hcne⟩, -, hc⟩ := lin_U (n + 2) (n + 1) (fun j r => if r < n + 1 then bVec n (n + 1 - m) q g r j else if j = n then 1 else 0) (by omega)
  have hc' : ∀ j, j < n + 1 → zsum (n + 1) (fun r => c r * bVec n (n + 1 - m) q g r j) + c (n + 1) * (if j = n then 1 else 0) = 0 := fun j hj => by
    have h1 := hc j hj
    rw [zsum] at h1
    try dsimp only at h1
    rw [if_neg (Nat.lt_irrefl (n + 1)), zsum_congr (n + 1) (g := fun r => c r * bVec n (n + 1 - m) q g r j) (fun r hr => by rw [if_pos hr]; exact Rat.mul_comm _ _)] at h1
    grind
  have hcl : c (n + 1) ≠ 0 := fun e => hcne (by
    have h1 := a3 c (fun j hj => by have := hc' j hj; rw [e] at this; grind)
    by_cases e2 : rc = n + 1
    · rw [e2]; exact e
    · exact h1 rc (by omega))
  have hX : ∀ j, j < n + 1 → zsum (n + 1) (fun r => (-c r / c (n + 1)) * bVec n (n + 1 - m) q g r j) = if j = n then 1 else 0 := fun j hj => by
    refine rat_cancel hcl ?_
    rw [← zsum_mul]
    have h1 : zsum (n + 1) (fun r => c (n + 1) * (-c r / c (n + 1) * bVec n (n + 1 - m) q g r j)) = zsum (n + 1) (fun r => (-1 : Rat) * (c r * bVec n (n + 1 - m) q g r j)) := zsum_congr (n + 1) (fun r _ => by
      have := Rat.div_mul_cancel (a := -c r) hcl
      grind)
    rw [h1, zsum_mul]
    have := hc' j hj
    grind
  refine ⟨q, fun r => -c r / c (n + 1), a2, a3, fun r hr => ?_, hX⟩
  show 0 ≤ -c r / c (n + 1) ∧ (0 < -c r / c (n + 1) → P (q r))
  have hsne : zsum k w0 ≠ 0 := fun e => by rw [e] at w2; exact absurd w2 (by decide)
  have key : (-c r / c (n + 1)) * zsum k w0 = if r < k then w0 r else 0 := by
    obtain ⟨z, hz⟩ := lin_V (n + 1) _ (fun i => if i = r then 1 else 0) a3
    have hzq : ∀ i, i < n + 1 - m → xS z (q i) + z n = if i = r then 1 else 0 := fun i hi => by rw [← bVec_q (g := g) hn hi (hlt _ (a2 i hi))]; exact hz i (by omega)
    have hzg : ∀ F, gP m g F → xS z F = 0 := fun F hF => by
      obtain ⟨e, he, rfl⟩ := hF
      rw [← bVec_g (k := n + 1 - m) (q := q) hn (hg e he), hz (n + 1 - m + e) (by omega), if_neg (by omega)]
    -- X r is z n
    have hXr : -c r / c (n + 1) = z n := by
      have e1 : zsum (n + 1) (fun j => zsum (n + 1) (fun i => (-c i / c (n + 1)) * bVec n (n + 1 - m) q g i j) * z j) = z n := by
        rw [zsum_congr (n + 1) (g := fun j => if j = n then z n else 0) (fun j hj => by
          rw [hX j hj]
          by_cases e : j = n
          · rw [if_pos e, if_pos e, e]; grind
          · rw [if_neg e, if_neg e]; grind), zsum_single (c := n) (by omega) (fun j _ hj => if_neg hj), if_pos rfl]
      have e2 : zsum (n + 1) (fun j => zsum (n + 1) (fun i => (-c i / c (n + 1)) * bVec n (n + 1 - m) q g i j) * z j) = -c r / c (n + 1) := by
        rw [zsum_congr (n + 1) (fun j _ => (zsum_mulr (n + 1)).symm), zsum_swap]
        have e3 : zsum (n + 1) (fun i => zsum (n + 1) (fun j => (-c i / c (n + 1)) * bVec n (n + 1 - m) q g i j * z j)) = zsum (n + 1) (fun i => (-c i / c (n + 1)) * if i = r then 1 else 0) := zsum_congr (n + 1) (fun i hi => by
          rw [← hz i hi, ← zsum_mul]
          exact zsum_congr _ (fun j _ => by grind))
        rw [e3, zsum_single (c := r) (by omega) (fun i _ hne => by rw [if_neg hne]; grind), if_pos rfl]
        grind
      rw [← e2, e1]
    have h1 := w3 z hzg
    have h2 : zsum k (fun i => w0 i * (xS z (q0 i) + z n)) = zsum k w0 * z n := by
      have : zsum k (fun i => w0 i * (xS z (q0 i) + z n)) = zsum k (fun i => w0 i * xS z (q0 i)) + zsum k w0 * z n := by
        rw [← zsum_mulr, ← zsum_add]
        exact zsum_congr _ (fun i _ => by grind)
      rw [this, h1]; grind
    rw [hXr, Rat.mul_comm, ← h2, zsum_congr k (g := fun i => if i = r then w0 r else 0) (fun i hi => by
      rw [← a1 i hi, hzq i (by omega)]
      by_cases e : i = r
      · rw [if_pos e, if_pos e, e]; grind
      · rw [if_neg e, if_neg e]; grind)]
    by_cases e : r < k
    · rw [if_pos e, zsum_single (c := r) e (fun i _ hne => if_neg hne), if_pos rfl]
    · rw [if_neg e, zsum_zero k (fun i hi => if_neg (by omega))]
  by_cases e : r < k
  · rw [if_pos e] at key
    refine ⟨?_, fun _ => by rw [a1 r e]; exact (w1 r e).2⟩
    have h1 : 0 < (-c r / c (n + 1)) * zsum k w0 := by rw [key]; exact (w1 r e).1
    exact Rat.le_of_lt ((Rat.mul_pos_iff_of_pos_right w2).mp h1)
  · rw [if_neg e] at key
    rcases Rat.mul_eq_zero.mp key with a | a
    · rw [a]; exact ⟨Rat.le_refl, fun h => absurd h (by decide)⟩
    · exact absurd a hsne
end BE
