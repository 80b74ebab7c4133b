/-! driving: Bland's rule on the board -/
section TO
variable {W : Type}
/-- one table: its rows and its objective by names, points for every choice of columns, at rest feasible, names apart -/
def tOk (A : W → Prop) (room : Nat → W → Rat) (zf : W → Rat) (R C : Nat) (sg : Int) (r0 : Nat) (σ : (Nat → Nat) × (Nat → Nat) × (Nat → Nat → Int)) : Prop :=
  (∀ r, r < R → 0 < σ.2.2 r 0) ∧
  (∀ w, A w → ∀ r, r < R → σ.1 r ≠ 0 → (σ.2.2 r 0 : Rat) * room (σ.1 r) w = rV C (σ.2.2 r) (fun j => room (σ.2.1 j)) w) ∧
  (∀ w, A w → (σ.2.2 r0 0 : Rat) * zf w = (sg : Rat) * rV C (σ.2.2 r0) (fun j => room (σ.2.1 j)) w) ∧
  (∀ t : Nat → Rat, ∃ w, A w ∧ ∀ j, j < C → room (σ.2.1 j) w = t j) ∧
  (∀ r, r < R → σ.1 r ≠ 0 → 0 ≤ σ.2.2 r 1) ∧
  ((∀ j j', j < C → j' < C → σ.2.1 j = σ.2.1 j' → j = j') ∧ (∀ r r', r < R → r' < R → σ.1 r ≠ 0 → σ.1 r = σ.1 r' → r = r') ∧ (∀ r j, r < R → j < C → σ.1 r ≠ σ.2.1 j) ∧ (∀ j, j < C → σ.2.1 j ≠ 0 ∧ σ.2.1 j < 16))
def tStep (R C : Nat) (sg : Int) (r0 : Nat) (σ σ' : (Nat → Nat) × (Nat → Nat) × (Nat → Nat → Int)) (q : Nat × Nat) : Prop :=
  q.1 < C ∧ isDrv C σ.2.1 (fun j => sg * σ.2.2 r0 (2 + j)) C (q.1 : Int) ∧ isStp σ.1 σ.2.2 q.1 R (q.2 : Int) ∧ σ'.1 = xSwap σ.1 q.2 (σ.2.1 q.1) ∧ σ'.2.1 = xSwap σ.2.1 q.1 (σ.1 q.2)
variable {A : W → Prop} {room : Nat → W → Rat} {zf : W → Rat} {R C r0 : Nat} {sg : Int}
theorem rat_pos {a : Int} (h : 0 < a) : (0 : Rat) < (a : Rat) := by exact_mod_cast h
theorem rat_nn {a : Int} (h : 0 ≤ a) : (0 : Rat) ≤ (a : Rat) := by exact_mod_cast h
theorem rV_div {C : Nat} {ρ : Nat → Int} {idc : Nat → W → Rat} {w : W} {v : Rat} (h0 : 0 < ρ 0) (h : (ρ 0 : Rat) * v = rV C ρ idc w) : v = (ρ 1 : Rat) / (ρ 0 : Rat) + zsum C (fun j => ((ρ (2 + j) : Rat) / (ρ 0 : Rat)) * idc j w) := by
  have hp := rat_pos h0
  have hne : (ρ 0 : Rat) ≠ 0 := by grind
  have e : zsum C (fun j => (ρ (2 + j) : Rat) * idc j w) = (ρ 0 : Rat) * zsum C (fun j => ((ρ (2 + j) : Rat) / (ρ 0 : Rat)) * idc j w) := by
    rw [← zsum_mul]
    refine zsum_congr C (fun j hj => ?_)
    have : (ρ 0 : Rat) * ((ρ (2 + j) : Rat) / (ρ 0 : Rat)) = (ρ (2 + j) : Rat) := by
      rw [Rat.mul_comm, Rat.div_mul_cancel hne]
    grind
  have e1 : (ρ 0 : Rat) * ((ρ 1 : Rat) / (ρ 0 : Rat)) = (ρ 1 : Rat) := by
    rw [Rat.mul_comm, Rat.div_mul_cancel hne]
  unfold rV at h
  rw [e] at h
  have : (ρ 0 : Rat) * (v - ((ρ 1 : Rat) / (ρ 0 : Rat) + zsum C (fun j => ((ρ (2 + j) : Rat) / (ρ 0 : Rat)) * idc j w))) = 0 := by grind
  rcases Rat.mul_eq_zero.mp this with h' | h'
  · exact absurd h' hne
  · grind
theorem fr_mul {a b : Int} (h : 0 < b) : (b : Rat) * ((a : Rat) / (b : Rat)) = (a : Rat) := by
  have := rat_pos h
  rw [Rat.mul_comm, Rat.div_mul_cancel (by grind)]
theorem fr_pos {a b : Int} (h : 0 < b) : (0 : Rat) < (a : Rat) / (b : Rat) ↔ 0 < a := by
  rw [Rat.lt_div_iff (rat_pos h), Rat.zero_mul, Rat.intCast_pos]
theorem fr_neg {a b : Int} (h : 0 < b) : (a : Rat) / (b : Rat) < 0 ↔ a < 0 := by
  rw [Rat.div_lt_iff (rat_pos h), Rat.zero_mul, Rat.intCast_neg_iff]
theorem fr_cross {l0 l1 le r0 r1 re : Int} (hl : 0 < l0) (hr : 0 < r0) : ((l1 * -re < r1 * -le) → (l1 : Rat) / (l0 : Rat) * (-((re : Rat) / (r0 : Rat))) < (r1 : Rat) / (r0 : Rat) * (-((le : Rat) / (l0 : Rat)))) ∧ ((l1 * -re = r1 * -le) → (l1 : Rat) / (l0 : Rat) * (-((re : Rat) / (r0 : Rat))) = (r1 : Rat) / (r0 : Rat) * (-((le : Rat) / (l0 : Rat)))) := by
  have a1 := fr_mul (a := l1) hl
  have a2 := fr_mul (a := le) hl
  have a3 := fr_mul (a := r1) hr
  have a4 := fr_mul (a := re) hr
  have pl := rat_pos hl
  have pr := rat_pos hr
  generalize (l1 : Rat) / (l0 : Rat) = x1 at *
  generalize (le : Rat) / (l0 : Rat) = x2 at *
  generalize (r1 : Rat) / (r0 : Rat) = x3 at *
  generalize (re : Rat) / (r0 : Rat) = x4 at *
  have hc : (0 : Rat) < (l0 : Rat) * (r0 : Rat) := Rat.mul_pos pl pr
  have e1 : (l0 : Rat) * (r0 : Rat) * (x1 * -x4) = ((l1 * -re : Int) : Rat) := by
    push_cast; rw [← a1, ← a4]; grind
  have e2 : (l0 : Rat) * (r0 : Rat) * (x3 * -x2) = ((r1 * -le : Int) : Rat) := by
    push_cast; rw [← a2, ← a3]; grind
  refine ⟨fun h => ?_, fun h => ?_⟩
  · refine Rat.lt_of_mul_lt_mul_left (c := (l0 : Rat) * (r0 : Rat)) ?_ (Rat.le_of_lt hc)
    rw [e1, e2]
    exact Rat.intCast_lt_intCast.mpr h
  · have : (l0 : Rat) * (r0 : Rat) * (x1 * -x4) = (l0 : Rat) * (r0 : Rat) * (x3 * -x2) := by rw [e1, e2, h]
    have h3 : (l0 : Rat) * (r0 : Rat) * (x1 * -x4 - x3 * -x2) = 0 := by grind
    rcases Rat.mul_eq_zero.mp h3 with h' | h'
    · grind
    · grind
theorem zsum_single {f : Nat → Rat} {C c : Nat} (hc : c < C) (h : ∀ j, j < C → j ≠ c → f j = 0) : zsum C f = f c := by
  have := zsum_upd (f := f) (g := fun _ => 0) (x := f c) C hc rfl (fun j hj hn => h j hj hn)
  rw [this, zsum_zero C (fun _ _ => rfl)]
  grind
set_option maxHeartbeats 4000000 in
theorem tRun {N : Nat} {f : Nat → (Nat → Nat) × (Nat → Nat) × (Nat → Nat → Int)} {q : Nat → Nat × Nat} (hr0 : r0 < R) (h1 : ∀ i, i ≤ N → tOk A room zf R C sg r0 (f i)) (h2 : ∀ i, i < N → tStep R C sg r0 (f i) (f (i + 1)) (q i)) : N < 65536 := by
  have hrow : ∀ i, i ≤ N → ∀ w, A w → ∀ r, r < R → (f i).1 r ≠ 0 → room ((f i).1 r) w = ((f i).2.2 r 1 : Rat) / ((f i).2.2 r 0 : Rat) + zsum C (fun j => (((f i).2.2 r (2 + j) : Rat) / ((f i).2.2 r 0 : Rat)) * room ((f i).2.1 j) w) := fun i hi w hA r hr hn => rV_div ((h1 i hi).1 r hr) ((h1 i hi).2.1 w hA r hr hn)
  have hobj : ∀ i, i ≤ N → ∀ w, A w → zf w = (sg : Rat) * (((f i).2.2 r0 1 : Rat) / ((f i).2.2 r0 0 : Rat)) + zsum C (fun j => ((sg : Rat) * (((f i).2.2 r0 (2 + j) : Rat) / ((f i).2.2 r0 0 : Rat))) * room ((f i).2.1 j) w) := fun i hi w hA => by
    have p0 := (h1 i hi).1 r0 hr0
    have hp := rat_pos p0
    have e1 := (h1 i hi).2.2.1 w hA
    have e2 : ((f i).2.2 r0 0 : Rat) * (rV C ((f i).2.2 r0) (fun j => room ((f i).2.1 j)) w / ((f i).2.2 r0 0 : Rat)) = rV C ((f i).2.2 r0) (fun j => room ((f i).2.1 j)) w := by
      rw [Rat.mul_comm, Rat.div_mul_cancel (by grind)]
    have e3 := rV_div p0 e2
    have e4 : ((f i).2.2 r0 0 : Rat) * (zf w - (sg : Rat) * (rV C ((f i).2.2 r0) (fun j => room ((f i).2.1 j)) w / ((f i).2.2 r0 0 : Rat))) = 0 := by grind
    have e5 : zf w = (sg : Rat) * (rV C ((f i).2.2 r0) (fun j => room ((f i).2.1 j)) w / ((f i).2.2 r0 0 : Rat)) := by
      rcases Rat.mul_eq_zero.mp e4 with h' | h'
      · grind
      · grind
    rw [e5, e3, zsum_congr C (g := fun j => (sg : Rat) * ((((f i).2.2 r0 (2 + j) : Rat) / ((f i).2.2 r0 0 : Rat)) * room ((f i).2.1 j) w)) (fun j hj => Rat.mul_assoc _ _ _), zsum_mul, Rat.mul_add]
  have hfree : ∀ i, i ≤ N → ∀ t : Nat → Rat, ∃ w, A w ∧ ∀ j, j < C → room ((f i).2.1 j) w = t j := fun i hi => (h1 i hi).2.2.2.1
  have haz : ∀ i, i ≤ N → ∀ j, (0 : Rat) < (sg : Rat) * (((f i).2.2 r0 (2 + j) : Rat) / ((f i).2.2 r0 0 : Rat)) ↔ 0 < sg * (f i).2.2 r0 (2 + j) := fun i hi j => by
    have p0 := (h1 i hi).1 r0 hr0
    rw [← fr_pos (a := sg * (f i).2.2 r0 (2 + j)) p0]
    have e : ((sg * (f i).2.2 r0 (2 + j) : Int) : Rat) / ((f i).2.2 r0 0 : Rat) = (sg : Rat) * (((f i).2.2 r0 (2 + j) : Rat) / ((f i).2.2 r0 0 : Rat)) := by
      rw [Rat.div_def, Rat.div_def]; push_cast; grind
    rw [e]
  refine bland (A := A) (room := room) (R := R) (C := C) (zf := zf) (k := fun i r => ((f i).2.2 r 1 : Rat) / ((f i).2.2 r 0 : Rat)) (a := fun i r j => ((f i).2.2 r (2 + j) : Rat) / ((f i).2.2 r 0 : Rat)) (kz := fun i => (sg : Rat) * (((f i).2.2 r0 1 : Rat) / ((f i).2.2 r0 0 : Rat))) (az := fun i j => (sg : Rat) * (((f i).2.2 r0 (2 + j) : Rat) / ((f i).2.2 r0 0 : Rat))) (rn := fun i => (f i).1) (cn := fun i => (f i).2.1) (e := fun i => (q i).1) (l := fun i => (q i).2) ⟨hrow, hobj, hfree, ?_, fun i hi => (h1 i hi).2.2.2.2.2, ?_, ?_, ?_, ?_⟩
  · intro i hi r hr hn
    have p0 := (h1 i hi).1 r hr
    have pc := (h1 i hi).2.2.2.2.1 r hr hn
    have e := fr_mul (a := (f i).2.2 r 1) p0
    have : ((f i).2.2 r 0 : Rat) * 0 ≤ ((f i).2.2 r 0 : Rat) * (((f i).2.2 r 1 : Rat) / ((f i).2.2 r 0 : Rat)) := by
      rw [e, Rat.mul_zero]; exact rat_nn pc
    exact Rat.le_of_mul_le_mul_left this (rat_pos p0)
  · intro i hi
    obtain ⟨-, -, -, a, b⟩ := h2 i hi
    refine ⟨fun r => ?_, fun j => ?_⟩
    · show (f (i + 1)).1 r = _
      rw [a]; rfl
    · show (f (i + 1)).2.1 j = _
      rw [b]; rfl
  · intro i hi
    obtain ⟨a, b, -⟩ := h2 i hi
    rcases b with ⟨b, -⟩ | ⟨c, b1, b2, b3, b4⟩
    · omega
    · obtain rfl : (q i).1 = c := by omega
      refine ⟨a, (haz i (by omega) _).mpr b3, fun j hj hp => ?_⟩
      exact b4 j hj ((haz i (by omega) j).mp hp)
  · intro i hi
    obtain ⟨a, -, b, -⟩ := h2 i hi
    rcases b with ⟨b, -⟩ | ⟨c, b1, b2, b3, b4⟩
    · omega
    · obtain rfl : (q i).2 = c := by omega
      have pl := (h1 i (by omega)).1 _ b2
      refine ⟨b2, by have := b3.1; show (f i).1 (q i).2 ≠ 0; omega, (fr_neg pl).mpr b3.2, fun r hr hn hneg => ?_⟩
      have pr := (h1 i (by omega)).1 r hr
      have hcand : isCnd (f i).1 (f i).2.2 (q i).1 r := ⟨Nat.pos_of_ne_zero hn, (fr_neg pr).mp hneg⟩
      have hb := b4 r hr hcand
      unfold stpA at hb
      have cr := fr_cross (l1 := (f i).2.2 (q i).2 1) (le := (f i).2.2 (q i).2 (2 + (q i).1)) (r1 := (f i).2.2 r 1) (re := (f i).2.2 r (2 + (q i).1)) pl pr
      by_cases hlt : (f i).2.2 (q i).2 1 * -(f i).2.2 r (2 + (q i).1) < (f i).2.2 r 1 * -(f i).2.2 (q i).2 (2 + (q i).1)
      · exact Or.inl (cr.1 hlt)
      · exact Or.inr ⟨cr.2 (by omega), by show (f i).1 (q i).2 ≤ (f i).1 r; omega⟩
  · intro i hi
    obtain ⟨a, b, c, d1, d2⟩ := h2 i hi
    have hl : (q i).2 < R ∧ (f i).1 (q i).2 ≠ 0 ∧ (f i).2.2 (q i).2 (2 + (q i).1) < 0 := by
      rcases c with ⟨c, -⟩ | ⟨c, b1, b2, b3, b4⟩
      · omega
      · obtain rfl : (q i).2 = c := by omega
        exact ⟨b2, by have := b3.1; omega, b3.2⟩
    obtain ⟨w, hA, hw⟩ := hfree (i + 1) (by omega) (fun _ => 0)
    have e1 := hobj (i + 1) (by omega) w hA
    rw [zsum_zero C (fun j hj => by rw [hw j hj]; grind)] at e1
    have hcol : ∀ j, j < C → j ≠ (q i).1 → room ((f i).2.1 j) w = 0 := fun j hj hne => by
      have := hw j hj
      rw [d2] at this
      unfold xSwap at this
      rwa [if_neg hne] at this
    have hrow0 : room ((f i).1 (q i).2) w = 0 := by
      have := hw (q i).1 a
      rw [d2] at this
      unfold xSwap at this
      rwa [if_pos rfl] at this
    have e2 := hobj i (by omega) w hA
    rw [zsum_single a (fun j hj hne => by rw [hcol j hj hne]; grind)] at e2
    have e3 := hrow i (by omega) w hA _ hl.1 hl.2.1
    rw [zsum_single a (fun j hj hne => by rw [hcol j hj hne]; grind), hrow0] at e3
    have pl := (h1 i (by omega)).1 _ hl.1
    have hn := (fr_neg pl).mpr hl.2.2
    dsimp only
    generalize ((f i).2.2 (q i).2 1 : Rat) / ((f i).2.2 (q i).2 0 : Rat) = kl at *
    generalize ((f i).2.2 (q i).2 (2 + (q i).1) : Rat) / ((f i).2.2 (q i).2 0 : Rat) = al at *
    generalize room ((f i).2.1 (q i).1) w = y at *
    have hy : y = kl / (-al) := by
      have : kl = y * (-al) := by grind
      rw [this, Rat.mul_div_cancel (by grind)]
    rw [← hy]
    grind
end TO
