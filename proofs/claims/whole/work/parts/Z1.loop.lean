/-! the law's loop -/
theorem lgc_self (x : Int64) : lg_cmp x x = 0 := by
  unfold lg_cmp
  rw [if_neg (fun z => Int64.lt_irrefl z)]
  split
  · rfl
  · next z => exact absurd rfl z
theorem z_if {c : Prop} [Decidable c] {x y : Option Unit} (h1 : c → x = some ()) (h2 : ¬ c → y = some ()) : (if c then x else y) = some () := by
  split
  · next z => exact h1 z
  · next z => exact h2 z
theorem Rel_zs0 : Rel zs0 := by
  refine ⟨⟨3, fun _ => 0, ⟨⟨rfl, by decide, by decide, fun _ _ => rfl, fun _ _ => (show (-1000 : Int) ≤ 0 ∧ (0 : Int) ≤ 1000 by decide)⟩, ⟨rfl, by decide, by decide, fun _ _ => rfl, fun _ _ => (show (-1000 : Int) ≤ 0 ∧ (0 : Int) ≤ 1000 by decide)⟩, rfl⟩, Or.inl rfl⟩, ⟨fun _ _ => 0, fun sh i hsh hi => ⟨?_, rfl, (show (-10000 : Int) ≤ 0 ∧ (0 : Int) ≤ 10000 by decide)⟩⟩, ⟨0, fun _ => 0, 1, ⟨rfl, rfl, by decide⟩, fun i hi => absurd hi (Nat.not_lt_zero _), ⟨rfl, rfl, by decide⟩, fun S hS => ?_, Or.inl rfl, rfl⟩, ⟨0, fun _ => 0, 0, ⟨rfl, rfl, by decide⟩, fun i hi => absurd hi (Nat.not_lt_zero _), rfl, rfl, by decide⟩, ⟨1, fun _ => 0, fun _ => 0, fun _ => 0, 0, fun _ => 0, fun _ => 0, ⟨rfl, rfl, by decide⟩, fun k h1 h2 => absurd h1 (by omega), rfl, fun k hk => ⟨?_, Nat.pow_pos (by decide)⟩, ⟨rfl, rfl, by decide⟩, fun i hi => absurd hi (Nat.not_lt_zero _), fun i hi => ⟨rfl, (show (0 : Int) ≤ 0 ∧ (0 : Int) ≤ 10000 by decide)⟩, fun _ _ => rfl⟩, ⟨0, 0, fun _ _ => 0, fun _ => 0, ⟨rfl, rfl, by decide⟩, ⟨rfl, rfl, by decide⟩, fun b i hb hi => ⟨?_, rfl, (show (0 : Int) ≤ 0 ∧ (0 : Int) ≤ 1000 by decide)⟩, fun i hi => ⟨rfl, rfl, (show (0 : Int) ≤ 0 ∧ (0 : Int) ≤ 1000 by decide)⟩⟩, rfl, rfl⟩
  · have : sh = 0 ∨ sh = 1 := by omega
    rcases this with rfl | rfl <;> rfl
  · have : S = 0 := by rw [Nat.pow_zero] at hS; omega
    rw [this]; rfl
  · rfl
  · have : b = 0 ∨ b = 1 ∨ b = 2 ∨ b = 3 := by omega
    rcases this with rfl | rfl | rfl | rfl <;> rfl
set_option maxRecDepth 100000 in
set_option maxHeartbeats 8000000 in
theorem z_body {xs : Nat → Int32} {len : Nat} {rec18 : Int32 → zS → Option Unit} {a3 : Int32} {s : zS} (h : Rel s) (hlt : ¬ ((Int32.ofNat len) - (4 : Int32)) < a3) (hz0 : zin a3 len = true) (hz1 : zin (a3 + (1 : Int32)) len = true) (hz2 : zin (a3 + (2 : Int32)) len = true) (hz3 : zin (a3 + (3 : Int32)) len = true) (hrec : ∀ s2, Rel s2 → rec18 (a3 + 4) s2 = some ()) : D_L_law_B18 xs len rec18 a3 s = some () := by
  obtain ⟨⟨n, v, hw, hk⟩, ⟨g, hg⟩, ⟨m, W, q, hv⟩, ⟨m', C, E, hc⟩, ⟨p, h', c, w, u, a', y, ht⟩, ⟨B, S, G, Q, hm⟩, hf⟩ := id h
  unfold D_L_law_B18
  rw [if_neg hlt, zgd_t hz0]
  refine z_if (fun _ => ?_) (fun _ => ?_)
  · -- 0 sides
    obtain ⟨r, s1, s2, e8, e9, h2⟩ := call_sides h (xs (a3 + (1 : Int32)).toNatClampNeg)
    try dsimp only at e8 e9
    rw [zgd_t hz1, e8, zbs]
    try dsimp only
    rw [zgd_t hz1, e9, zbs]
    exact (if_pos rfl).trans (hrec _ h2)
  refine z_if (fun _ => ?_) (fun _ => ?_)
  · -- 1 worth
    obtain ⟨r, s1, s2, e8, e9, h2⟩ := call_worth h (xs (a3 + (1 : Int32)).toNatClampNeg) (xs (a3 + (2 : Int32)).toNatClampNeg)
    try dsimp only at e8 e9
    rw [zgd_t hz1, zgd_t hz2, e8, zbs]
    try dsimp only
    rw [zgd_t hz1, zgd_t hz2, e9, zbs]
    exact (if_pos rfl).trans (hrec _ h2)
  refine z_if (fun _ => ?_) (fun _ => ?_)
  · -- 2 dividend
    obtain ⟨r, e8, e9⟩ := call_dividend hw (xs (a3 + (1 : Int32)).toNatClampNeg)
    rw [zgd_t hz1, e8, zbs]
    try dsimp only
    rw [zgd_t hz1, e9, zbs]
    exact (if_pos rfl).trans (hrec _ h)
  refine z_if (fun _ => ?_) (fun _ => ?_)
  · -- 3 margin
    obtain ⟨r, e8, e9⟩ := call_margin hw (xs (a3 + (1 : Int32)).toNatClampNeg) (xs (a3 + (2 : Int32)).toNatClampNeg)
    rw [zgd_t hz1, zgd_t hz2, e8, zbs]
    try dsimp only
    rw [zgd_t hz1, zgd_t hz2, e9, zbs]
    exact (if_pos rfl).trans (hrec _ h)
  refine z_if (fun _ => ?_) (fun _ => ?_)
  · -- 4 value
    obtain ⟨r, s1, s2, e8, e9, h2⟩ := call_value h hw (xs (a3 + (1 : Int32)).toNatClampNeg) (xs (a3 + (2 : Int32)).toNatClampNeg)
    try dsimp only at e8 e9
    rw [zgd_t hz1, zgd_t hz2, e8, zbs]
    try dsimp only
    rw [zgd_t hz1, zgd_t hz2, e9, zbs]
    exact (if_pos rfl).trans (hrec _ h2)
  refine z_if (fun _ => ?_) (fun _ => ?_)
  · -- 5 fails
    obtain ⟨r, e8, e9⟩ := call_fails hw (xs (a3 + (1 : Int32)).toNatClampNeg)
    rw [zgd_t hz1, e8, zbs]
    try dsimp only
    rw [zgd_t hz1, e9, zbs]
    exact (if_pos rfl).trans (hrec _ h)
  refine z_if (fun _ => ?_) (fun _ => ?_)
  · -- 6 parting
    obtain ⟨r, e8, e9⟩ := call_parting hw (xs (a3 + (1 : Int32)).toNatClampNeg)
    rw [zgd_t hz1, e8, zbs]
    try dsimp only
    rw [zgd_t hz1, e9, zbs]
    exact (if_pos rfl).trans (hrec _ h)
  refine z_if (fun _ => ?_) (fun _ => ?_)
  · -- 7 part
    obtain ⟨r, e8, e9⟩ := call_part hf (xs (a3 + (1 : Int32)).toNatClampNeg)
    rw [zgd_t hz1, e8, zbs]
    try dsimp only
    rw [zgd_t hz1, e9, zbs]
    exact (if_pos (lgc_self r)).trans (hrec _ h)
  refine z_if (fun _ => ?_) (fun _ => ?_)
  · -- 8 least
    obtain ⟨r, s1, s2, e8, e9, h2⟩ := Rel_sh h hw (call_least hw.1 hw.2.1 hk hf (xs (a3 + (1 : Int32)).toNatClampNeg))
    try dsimp only at e8 e9
    rw [zgd_t hz1, e8, zbs]
    try dsimp only
    rw [zgd_t hz1, e9, zbs]
    exact (if_pos rfl).trans (hrec _ h2)
  refine z_if (fun _ => ?_) (fun _ => ?_)
  · -- 9 core
    obtain ⟨r, s1, s2, e8, e9, h2⟩ := Rel_sh h hw (call_core hw.1 hw.2.1 hk hf )
    try dsimp only at e8 e9
    rw [e8, zbs]
    try dsimp only
    rw [e9, zbs]
    exact (if_pos rfl).trans (hrec _ h2)
  refine z_if (fun _ => ?_) (fun _ => ?_)
  · -- 10 end
    obtain ⟨r, s1, s2, e8, e9, h2⟩ := Rel_sh h hw (call_end hw.1 hw.2.1 hk hf (xs (a3 + (1 : Int32)).toNatClampNeg) (xs (a3 + (2 : Int32)).toNatClampNeg))
    try dsimp only at e8 e9
    rw [zgd_t hz1, zgd_t hz2, e8, zbs]
    try dsimp only
    rw [zgd_t hz1, zgd_t hz2, e9, zbs]
    exact (if_pos rfl).trans (hrec _ h2)
  refine z_if (fun _ => ?_) (fun _ => ?_)
  · -- 11 calm
    obtain ⟨r, s1, s2, e8, e9, h2⟩ := Rel_sh h hw (call_calm hw.1 hw.2.1 hk hf (xs (a3 + (1 : Int32)).toNatClampNeg))
    try dsimp only at e8 e9
    rw [zgd_t hz1, e8, zbs]
    try dsimp only
    rw [zgd_t hz1, e9, zbs]
    exact (if_pos rfl).trans (hrec _ h2)
  refine z_if (fun _ => ?_) (fun _ => ?_)
  · -- 12 give
    obtain ⟨r, s1, s2, e8, e9, h2⟩ := call_give h (xs (a3 + (1 : Int32)).toNatClampNeg) (xs (a3 + (2 : Int32)).toNatClampNeg) (xs (a3 + (3 : Int32)).toNatClampNeg)
    try dsimp only at e8 e9
    rw [zgd_t hz1, zgd_t hz2, zgd_t hz3, e8, zbs]
    try dsimp only
    rw [zgd_t hz1, zgd_t hz2, zgd_t hz3, e9, zbs]
    exact (if_pos rfl).trans (hrec _ h2)
  refine z_if (fun _ => ?_) (fun _ => ?_)
  · -- 13 complaint
    obtain ⟨r, e8, e9⟩ := call_complaint hw hg (xs (a3 + (1 : Int32)).toNatClampNeg) (xs (a3 + (2 : Int32)).toNatClampNeg)
    rw [zgd_t hz1, zgd_t hz2, e8, zbs]
    try dsimp only
    rw [zgd_t hz1, zgd_t hz2, e9, zbs]
    exact (if_pos rfl).trans (hrec _ h)
  refine z_if (fun _ => ?_) (fun _ => ?_)
  · -- 14 surplus
    obtain ⟨r, e8, e9⟩ := call_surplus hw hg (xs (a3 + (1 : Int32)).toNatClampNeg) (xs (a3 + (2 : Int32)).toNatClampNeg) (xs (a3 + (3 : Int32)).toNatClampNeg)
    rw [zgd_t hz1, zgd_t hz2, zgd_t hz3, e8, zbs]
    try dsimp only
    rw [zgd_t hz1, zgd_t hz2, zgd_t hz3, e9, zbs]
    exact (if_pos rfl).trans (hrec _ h)
  refine z_if (fun _ => ?_) (fun _ => ?_)
  · -- 15 even
    obtain ⟨r, e8, e9⟩ := call_even hw hg (xs (a3 + (1 : Int32)).toNatClampNeg)
    rw [zgd_t hz1, e8, zbs]
    try dsimp only
    rw [zgd_t hz1, e9, zbs]
    exact (if_pos rfl).trans (hrec _ h)
  refine z_if (fun _ => ?_) (fun _ => ?_)
  · -- 16 better
    obtain ⟨r, e8, e9⟩ := call_better hw hg (xs (a3 + (1 : Int32)).toNatClampNeg)
    rw [zgd_t hz1, e8, zbs]
    try dsimp only
    rw [zgd_t hz1, e9, zbs]
    exact (if_pos rfl).trans (hrec _ h)
  refine z_if (fun _ => ?_) (fun _ => ?_)
  · -- 17 voter
    obtain ⟨r, s1, s2, e8, e9, h2⟩ := call_voter h hv (xs (a3 + (1 : Int32)).toNatClampNeg)
    try dsimp only at e8 e9
    rw [zgd_t hz1, e8, zbs]
    try dsimp only
    rw [zgd_t hz1, e9, zbs]
    exact (if_pos rfl).trans (hrec _ h2)
  refine z_if (fun _ => ?_) (fun _ => ?_)
  · -- 18 weight
    obtain ⟨r, s1, s2, e8, e9, h2⟩ := call_weight h hv (xs (a3 + (1 : Int32)).toNatClampNeg) (xs (a3 + (2 : Int32)).toNatClampNeg)
    try dsimp only at e8 e9
    rw [zgd_t hz1, zgd_t hz2, e8, zbs]
    try dsimp only
    rw [zgd_t hz1, zgd_t hz2, e9, zbs]
    exact (if_pos rfl).trans (hrec _ h2)
  refine z_if (fun _ => ?_) (fun _ => ?_)
  · -- 19 quota
    obtain ⟨r, s1, s2, e8, e9, h2⟩ := call_quota h hv (xs (a3 + (1 : Int32)).toNatClampNeg)
    try dsimp only at e8 e9
    rw [zgd_t hz1, e8, zbs]
    try dsimp only
    rw [zgd_t hz1, e9, zbs]
    exact (if_pos rfl).trans (hrec _ h2)
  refine z_if (fun _ => ?_) (fun _ => ?_)
  · -- 20 wins
    obtain ⟨r, e8, e9⟩ := call_wins hv (xs (a3 + (1 : Int32)).toNatClampNeg)
    rw [zgd_t hz1, e8, zbs]
    try dsimp only
    rw [zgd_t hz1, e9, zbs]
    exact (if_pos rfl).trans (hrec _ h)
  refine z_if (fun _ => ?_) (fun _ => ?_)
  · -- 21 minimal
    obtain ⟨r, e8, e9⟩ := call_minimal hv (xs (a3 + (1 : Int32)).toNatClampNeg)
    rw [zgd_t hz1, e8, zbs]
    try dsimp only
    rw [zgd_t hz1, e9, zbs]
    exact (if_pos rfl).trans (hrec _ h)
  refine z_if (fun _ => ?_) (fun _ => ?_)
  · -- 22 power
    obtain ⟨r, e8, e9⟩ := call_power hv (xs (a3 + (1 : Int32)).toNatClampNeg) (xs (a3 + (2 : Int32)).toNatClampNeg)
    rw [zgd_t hz1, zgd_t hz2, e8, zbs]
    try dsimp only
    rw [zgd_t hz1, zgd_t hz2, e9, zbs]
    exact (if_pos rfl).trans (hrec _ h)
  refine z_if (fun _ => ?_) (fun _ => ?_)
  · -- 23 deegan
    obtain ⟨r, s1, s2, e8, e9, h2⟩ := call_deegan h hv (xs (a3 + (1 : Int32)).toNatClampNeg)
    try dsimp only at e8 e9
    rw [zgd_t hz1, e8, zbs]
    try dsimp only
    rw [zgd_t hz1, e9, zbs]
    exact (if_pos rfl).trans (hrec _ h2)
  refine z_if (fun _ => ?_) (fun _ => ?_)
  · -- 24 same
    obtain ⟨r, s1, s2, e8, e9, h2⟩ := call_same h hv (xs (a3 + (1 : Int32)).toNatClampNeg)
    try dsimp only at e8 e9
    rw [zgd_t hz1, e8, zbs]
    try dsimp only
    rw [zgd_t hz1, e9, zbs]
    exact (if_pos rfl).trans (hrec _ h2)
  refine z_if (fun _ => ?_) (fun _ => ?_)
  · -- 25 claim
    obtain ⟨r, s1, s2, e8, e9, h2⟩ := call_claim h hc (xs (a3 + (1 : Int32)).toNatClampNeg)
    try dsimp only at e8 e9
    rw [zgd_t hz1, e8, zbs]
    try dsimp only
    rw [zgd_t hz1, e9, zbs]
    exact (if_pos rfl).trans (hrec _ h2)
  refine z_if (fun _ => ?_) (fun _ => ?_)
  · -- 26 estate
    obtain ⟨r, s1, s2, e8, e9, h2⟩ := call_estate h hc (xs (a3 + (1 : Int32)).toNatClampNeg)
    try dsimp only at e8 e9
    rw [zgd_t hz1, e8, zbs]
    try dsimp only
    rw [zgd_t hz1, e9, zbs]
    exact (if_pos rfl).trans (hrec _ h2)
  refine z_if (fun _ => ?_) (fun _ => ?_)
  · -- 27 award
    obtain ⟨r, s1, s2, e8, e9, h2⟩ := call_award h hc (xs (a3 + (1 : Int32)).toNatClampNeg) (xs (a3 + (2 : Int32)).toNatClampNeg)
    try dsimp only at e8 e9
    rw [zgd_t hz1, zgd_t hz2, e8, zbs]
    try dsimp only
    rw [zgd_t hz1, zgd_t hz2, e9, zbs]
    exact (if_pos rfl).trans (hrec _ h2)
  refine z_if (fun _ => ?_) (fun _ => ?_)
  · -- 28 place
    obtain ⟨r, s1, s2, e8, e9, h2⟩ := call_place h ht (xs (a3 + (1 : Int32)).toNatClampNeg) (xs (a3 + (2 : Int32)).toNatClampNeg)
    try dsimp only at e8 e9
    rw [zgd_t hz1, zgd_t hz2, e8, zbs]
    try dsimp only
    rw [zgd_t hz1, zgd_t hz2, e9, zbs]
    exact (if_pos rfl).trans (hrec _ h2)
  refine z_if (fun _ => ?_) (fun _ => ?_)
  · -- 29 user
    obtain ⟨r, s1, s2, e8, e9, h2⟩ := call_user h ht (xs (a3 + (1 : Int32)).toNatClampNeg)
    try dsimp only at e8 e9
    rw [zgd_t hz1, e8, zbs]
    try dsimp only
    rw [zgd_t hz1, e9, zbs]
    exact (if_pos rfl).trans (hrec _ h2)
  refine z_if (fun _ => ?_) (fun _ => ?_)
  · -- 30 alone
    obtain ⟨r, e8, e9⟩ := call_alone ht (xs (a3 + (1 : Int32)).toNatClampNeg)
    rw [zgd_t hz1, e8, zbs]
    try dsimp only
    rw [zgd_t hz1, e9, zbs]
    exact (if_pos rfl).trans (hrec _ h)
  refine z_if (fun _ => ?_) (fun _ => ?_)
  · -- 31 paid
    obtain ⟨r, s1, s2, e8, e9, h2⟩ := call_paid h ht (xs (a3 + (1 : Int32)).toNatClampNeg)
    try dsimp only at e8 e9
    rw [zgd_t hz1, e8, zbs]
    try dsimp only
    rw [zgd_t hz1, e9, zbs]
    exact (if_pos rfl).trans (hrec _ h2)
  refine z_if (fun _ => ?_) (fun _ => ?_)
  · -- 32 pay
    obtain ⟨r, s1, s2, e8, e9, h2⟩ := call_pay h ht (xs (a3 + (1 : Int32)).toNatClampNeg) (xs (a3 + (2 : Int32)).toNatClampNeg)
    try dsimp only at e8 e9
    rw [zgd_t hz1, zgd_t hz2, e8, zbs]
    try dsimp only
    rw [zgd_t hz1, zgd_t hz2, e9, zbs]
    exact (if_pos rfl).trans (hrec _ h2)
  refine z_if (fun _ => ?_) (fun _ => ?_)
  · -- 33 held
    obtain ⟨r, e8, e9⟩ := call_held ht 
    rw [e8, zbs]
    try dsimp only
    rw [e9, zbs]
    exact (if_pos rfl).trans (hrec _ h)
  refine z_if (fun _ => ?_) (fun _ => ?_)
  · -- 34 market
    obtain ⟨r, s1, s2, e8, e9, h2⟩ := call_market h (xs (a3 + (1 : Int32)).toNatClampNeg) (xs (a3 + (2 : Int32)).toNatClampNeg)
    try dsimp only at e8 e9
    rw [zgd_t hz1, zgd_t hz2, e8, zbs]
    try dsimp only
    rw [zgd_t hz1, zgd_t hz2, e9, zbs]
    exact (if_pos rfl).trans (hrec _ h2)
  refine z_if (fun _ => ?_) (fun _ => ?_)
  · -- 35 gain
    obtain ⟨r, s1, s2, e8, e9, h2⟩ := call_gain h hm (xs (a3 + (1 : Int32)).toNatClampNeg) (xs (a3 + (2 : Int32)).toNatClampNeg) (xs (a3 + (3 : Int32)).toNatClampNeg)
    try dsimp only at e8 e9
    rw [zgd_t hz1, zgd_t hz2, zgd_t hz3, e8, zbs]
    try dsimp only
    rw [zgd_t hz1, zgd_t hz2, zgd_t hz3, e9, zbs]
    exact (if_pos rfl).trans (hrec _ h2)
  refine z_if (fun _ => ?_) (fun _ => ?_)
  · -- 36 most
    obtain ⟨r, s1, s2, e8, e9, h2⟩ := call_most h hm (xs (a3 + (1 : Int32)).toNatClampNeg)
    try dsimp only at e8 e9
    rw [zgd_t hz1, e8, zbs]
    try dsimp only
    rw [zgd_t hz1, e9, zbs]
    exact (if_pos rfl).trans (hrec _ h2)
  refine z_if (fun _ => ?_) (fun _ => ?_)
  · -- 37 price
    obtain ⟨r, s1, s2, e8, e9, h2⟩ := call_price h hm (xs (a3 + (1 : Int32)).toNatClampNeg) (xs (a3 + (2 : Int32)).toNatClampNeg)
    try dsimp only at e8 e9
    rw [zgd_t hz1, zgd_t hz2, e8, zbs]
    try dsimp only
    rw [zgd_t hz1, zgd_t hz2, e9, zbs]
    exact (if_pos rfl).trans (hrec _ h2)
  refine z_if (fun _ => ?_) (fun _ => ?_)
  · -- 38 tell
    obtain ⟨r, s1, s2, e8, e9, h2⟩ := call_tell h hm (xs (a3 + (1 : Int32)).toNatClampNeg) (xs (a3 + (2 : Int32)).toNatClampNeg)
    try dsimp only at e8 e9
    rw [zgd_t hz1, zgd_t hz2, e8, zbs]
    try dsimp only
    rw [zgd_t hz1, zgd_t hz2, e9, zbs]
    exact (if_pos rfl).trans (hrec _ h2)
  refine z_if (fun _ => ?_) (fun _ => ?_)
  · -- 39 clear
    obtain ⟨r, s1, s2, e8, e9, h2⟩ := call_clear h hm 
    try dsimp only at e8 e9
    rw [e8, zbs]
    try dsimp only
    rw [e9, zbs]
    exact (if_pos rfl).trans (hrec _ h2)
  refine z_if (fun _ => ?_) (fun _ => ?_)
  · -- 40 count
    obtain ⟨r, e8, e9⟩ := call_count h (xs (a3 + (1 : Int32)).toNatClampNeg)
    rw [zgd_t hz1, e8, zbs]
    try dsimp only
    rw [zgd_t hz1, e9, zbs]
    exact (if_pos rfl).trans (hrec _ h)
  refine z_if (fun _ => ?_) (fun _ => ?_)
  · -- 41 digest
    obtain ⟨r, s2, e8, e9, h2⟩ := call_digest h 
    rw [e8, zbs, e9, zbs]
    exact (if_pos (lgc_self r)).trans (hrec _ h2)
  exact hrec _ h
theorem z_loop {xs : Nat → Int32} {len : Nat} (hlen : len ≤ 2048) : ∀ (n a : Nat) (s : zS), a ≤ len → len < a + 4 * n → Rel s → D_L_law_L18 xs len n (n32 (a : Int)) s = some () := by
  intro n
  induction n with
  | zero => intro a s h1 h2; omega
  | succ n ih =>
    intro a s h1 h2 h
    have hl : (Int32.ofNat len) - (4 : Int32) = n32 ((len : Int) - 4) := by
      rw [show Int32.ofNat len = n32 (len : Int) from Int32.ofInt_eq_ofNat.symm, l32_4, n32_sub]
    rw [D_L_law_L18_s]
    by_cases e : len < a + 4
    · unfold D_L_law_B18
      rw [hl, if_pos (by rw [n32_lt (by omega) (by omega) (by omega) (by omega)]; omega)]
    · have k1 : n32 (a : Int) + 1 = n32 ((a + 1 : Nat) : Int) := nsuc a
      have k2 : n32 (a : Int) + 2 = n32 ((a + 2 : Nat) : Int) := by rw [l32_2, n32_add]; congr 1
      have k3 : n32 (a : Int) + 3 = n32 ((a + 3 : Nat) : Int) := by rw [l32_3, n32_add]; congr 1
      have k4 : n32 (a : Int) + 4 = n32 ((a + 4 : Nat) : Int) := by rw [l32_4, n32_add]; congr 1
      refine z_body h (by rw [hl, n32_lt (by omega) (by omega) (by omega) (by omega)]; omega) (czin (by omega) (by omega)) (by rw [k1]; exact czin (by omega) (by omega)) (by rw [k2]; exact czin (by omega) (by omega)) (by rw [k3]; exact czin (by omega) (by omega)) (fun s2 h2' => ?_)
      rw [k4]
      exact ih (a + 4) s2 (by omega) (by omega) h2'
theorem zpure : zPure 2048 := fun len xs hlen => ⟨513, z_loop hlen 513 0 zs0 (by omega) (by omega) Rel_zs0⟩
