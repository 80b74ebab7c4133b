/-! the other parts -/
/-- a row of whole numbers by which the same sets win -/
def smR (m : Nat) (W : Nat → Int) (q : Int) (r : Nat → Nat) (p : Nat) : Prop := 1 ≤ p ∧ ∀ S, S < 2 ^ m → ((p : Int) ≤ ldV (fun i => (r i : Int)) m S ↔ q ≤ ldV W m S)
def rSum (r : Nat → Nat) : Nat → Nat
  | 0 => 0
  | m + 1 => rSum r m + r m
/-- the first of them by sum, then by quota, then as a row -/
def smA (m : Nat) (W : Nat → Int) (q : Int) (r : Nat → Nat) (p : Nat) : Prop := rSum r m ≤ 12 ∧ smR m W q r p ∧ ∀ r' p', rSum r' m ≤ 12 → smR m W q r' p' → rSum r m < rSum r' m ∨ (rSum r m = rSum r' m ∧ (p < p' ∨ (p = p' ∧ cCode m r ≤ cCode m r')))
/-- what is kept of it -/
def smK (s : zS) (m : Nat) (W : Nat → Int) (q : Int) : Prop := (s.1 38 8 = n32 (-1) ∧ ∀ r p, rSum r m ≤ 12 → ¬ smR m W q r p) ∨ ∃ r p, smA m W q r p ∧ s.1 38 8 = n32 (p : Int) ∧ ∀ i, i < m → s.1 44 i = n32 (r i : Int)
def vRel (s : zS) (m : Nat) (W : Nat → Int) (q : Int) : Prop := (s.1 38 0 = n32 (m : Int) ∧ s.1 66 5 = n32 (m : Int) ∧ m ≤ 8) ∧ (∀ i, i < m → s.1 39 i = n32 (W i) ∧ s.1 69 i = n32 (W i) ∧ 0 ≤ W i ∧ W i ≤ 50) ∧ (s.1 38 1 = n32 q ∧ s.1 66 7 = n32 q ∧ 1 ≤ q ∧ q ≤ 400) ∧ (∀ S, S < 2 ^ m → s.1 40 S = n32 (ldV W m S)) ∧ ((s.1 38 9 = 0 ∨ (1 ≤ m ∧ m ≤ 5 ∧ smK s m W q)) ∧ s.1 43 0 = 0)
def cRel (s : zS) (m : Nat) (C : Nat → Int) (E : Int) : Prop := (s.1 45 0 = n32 (m : Int) ∧ s.1 66 8 = n32 (m : Int) ∧ m ≤ 6) ∧ (∀ i, i < m → s.1 46 i = n32 (C i) ∧ s.1 70 i = n32 (C i) ∧ 0 ≤ C i ∧ C i ≤ 1000) ∧ s.1 45 1 = n32 E ∧ s.1 66 10 = n32 E ∧ 0 ≤ E ∧ E ≤ 6000
/-- the ways up from a place -/
def tRel (s : zS) (p : Nat) (h : Nat → Nat) (c : Nat → Int) (w : Nat → Nat) (u : Nat) (at' : Nat → Nat) (y : Nat → Int) : Prop := (s.1 47 0 = n32 (p : Int) ∧ s.1 66 11 = n32 (p : Int) ∧ 1 ≤ p ∧ p ≤ 10) ∧ (∀ k, 1 ≤ k → k < p → s.1 48 k = n32 (h k : Int) ∧ s.1 71 k = n32 (h k : Int) ∧ h k < k ∧ s.1 49 k = n32 (c k) ∧ s.1 72 k = n32 (c k) ∧ 0 ≤ c k ∧ c k ≤ 1000 ∧ w k = w (h k) ||| 2 ^ k) ∧ w 0 = 0 ∧ (∀ k, k < p → s.1 50 k = n32 (w k : Int) ∧ w k < 2 ^ (k + 1)) ∧ (s.1 47 4 = n32 (u : Int) ∧ s.1 66 14 = n32 (u : Int) ∧ u ≤ 8) ∧ (∀ i, i < u → s.1 51 i = n32 (at' i : Int) ∧ s.1 73 i = n32 (at' i : Int) ∧ at' i < p ∧ s.1 74 i = n32 (y i)) ∧ (∀ i, i < 8 → s.1 52 i = n32 (y i) ∧ 0 ≤ y i ∧ y i ≤ 10000) ∧ ∀ i, u ≤ i → y i = 0
def mRel (s : zS) (B S : Nat) (G : Nat → Nat → Int) (Q : Nat → Int) : Prop := (s.1 53 0 = n32 (B : Int) ∧ s.1 66 17 = n32 (B : Int) ∧ B ≤ 4) ∧ (s.1 53 1 = n32 (S : Int) ∧ s.1 66 18 = n32 (S : Int) ∧ S ≤ 4) ∧ (∀ b i, b < 4 → i < 4 → s.1 (55 + b) i = n32 (G b i) ∧ s.1 75 (4 * b + i) = n32 (G b i) ∧ 0 ≤ G b i ∧ G b i ≤ 1000) ∧ ∀ i, i < 4 → s.1 59 i = n32 (Q i) ∧ s.1 76 i = n32 (Q i) ∧ 0 ≤ Q i ∧ Q i ≤ 1000
section FR
variable {P : Nat → Prop} {s s' : zS} (f : fr P s s')
theorem vRel_f {m : Nat} {W : Nat → Int} {q : Int} (h : vRel s m W q) (f : fr P s s') (hP : ¬ P 3) : vRel s' m W q := by
  have o : ∀ c k, (38 ≤ c ∧ c ≤ 44) ∨ c = 69 → s'.1 c k = s.1 c k := fun c k h => by
    have e : own c k = 3 := by
      unfold own
      rw [if_neg (by omega), if_neg (by omega), if_pos h]
    exact f.1 c k (by rw [e]; decide) (by rw [e]; exact hP)
  obtain ⟨⟨a1, a2, a3⟩, b, ⟨c1, c2, c3⟩, d, e, e0⟩ := h
  refine ⟨⟨(o _ _ (by omega)).trans a1, (f.1 66 5 (by decide) hP).trans a2, a3⟩, fun i hi => ?_, ⟨(o _ _ (by omega)).trans c1, (f.1 66 7 (by decide) hP).trans c2, c3⟩, fun S hS => (o _ _ (by omega)).trans (d S hS), ?_, (o _ _ (by omega)).trans e0⟩
  · obtain ⟨b1, b2, b3⟩ := b i hi
    exact ⟨(o _ _ (by omega)).trans b1, (o _ _ (by omega)).trans b2, b3⟩
  · rcases e with e | ⟨e1, e2, e⟩
    · exact Or.inl ((o _ _ (by omega)).trans e)
    · refine Or.inr ⟨e1, e2, ?_⟩
      rcases e with ⟨k1, k2⟩ | ⟨r, p, k1, k2, k3⟩
      · exact Or.inl ⟨(o _ _ (by omega)).trans k1, k2⟩
      · exact Or.inr ⟨r, p, k1, (o _ _ (by omega)).trans k2, fun i hi => (o _ _ (by omega)).trans (k3 i hi)⟩
theorem cRel_f {m : Nat} {C : Nat → Int} {E : Int} (h : cRel s m C E) (f : fr P s s') (hP : ¬ P 4) : cRel s' m C E := by
  obtain ⟨⟨a1, a2, a3⟩, b, c1, c2, c3⟩ := h
  refine ⟨⟨(f.1 45 0 (by decide) hP).trans a1, (f.1 66 8 (by decide) hP).trans a2, a3⟩, fun i hi => ?_, (f.1 45 1 (by decide) hP).trans c1, (f.1 66 10 (by decide) hP).trans c2, c3⟩
  obtain ⟨b1, b2, b3⟩ := b i hi
  exact ⟨(f.1 46 i (fun q => by cases q) hP).trans b1, (f.1 70 i (fun q => by cases q) hP).trans b2, b3⟩
theorem tRel_f {p u : Nat} {h at' w : Nat → Nat} {c y : Nat → Int} (hh : tRel s p h c w u at' y) (f : fr P s s') (hP : ¬ P 5) : tRel s' p h c w u at' y := by
  have o : ∀ c k, (47 ≤ c ∧ c ≤ 52) ∨ (71 ≤ c ∧ c ≤ 74) → s'.1 c k = s.1 c k := fun c k h => by
    have e : own c k = 5 := by
      unfold own
      rw [if_neg (by omega), if_neg (by omega), if_neg (by omega), if_neg (by omega), if_pos h]
    exact f.1 c k (by rw [e]; decide) (by rw [e]; exact hP)
  obtain ⟨⟨a1, a2, a3⟩, b, b0, c, ⟨d1, d2, d3⟩, e, g, k⟩ := hh
  refine ⟨⟨(o _ _ (by omega)).trans a1, (f.1 66 11 (by decide) hP).trans a2, a3⟩, fun k h1 h2 => ?_, b0, fun k hk => ⟨(o _ _ (by omega)).trans (c k hk).1, (c k hk).2⟩, ⟨(o _ _ (by omega)).trans d1, (f.1 66 14 (by decide) hP).trans d2, d3⟩, fun i hi => ?_, fun i hi => ⟨(o _ _ (by omega)).trans (g i hi).1, (g i hi).2⟩, k⟩
  · obtain ⟨b1, b2, b3, b4, b5, b6⟩ := b k h1 h2
    exact ⟨(o _ _ (by omega)).trans b1, (o _ _ (by omega)).trans b2, b3, (o _ _ (by omega)).trans b4, (o _ _ (by omega)).trans b5, b6⟩
  · obtain ⟨e1, e2, e3, e4⟩ := e i hi
    exact ⟨(o _ _ (by omega)).trans e1, (o _ _ (by omega)).trans e2, e3, (o _ _ (by omega)).trans e4⟩
theorem mRel_f {B S : Nat} {G : Nat → Nat → Int} {Q : Nat → Int} (h : mRel s B S G Q) (f : fr P s s') (hP : ¬ P 6) : mRel s' B S G Q := by
  have o : ∀ c k, c = 53 ∨ (55 ≤ c ∧ c ≤ 59) ∨ c = 75 ∨ c = 76 → s'.1 c k = s.1 c k := fun c k h => by
    have e : own c k = 6 := by
      unfold own
      rw [if_neg (by omega), if_neg (by omega), if_neg (by omega), if_neg (by omega), if_neg (by omega), if_pos h]
    exact f.1 c k (by rw [e]; decide) (by rw [e]; exact hP)
  obtain ⟨⟨a1, a2, a3⟩, ⟨b1, b2, b3⟩, c, d⟩ := h
  refine ⟨⟨(o _ _ (by omega)).trans a1, (f.1 66 17 (by decide) hP).trans a2, a3⟩, ⟨(o _ _ (by omega)).trans b1, (f.1 66 18 (by decide) hP).trans b2, b3⟩, fun b i hb hi => ?_, fun i hi => ?_⟩
  · obtain ⟨c1, c2, c3⟩ := c b i hb hi
    exact ⟨(o _ _ (by omega)).trans c1, (o _ _ (by omega)).trans c2, c3⟩
  · obtain ⟨d1, d2, d3⟩ := d i hi
    exact ⟨(o _ _ (by omega)).trans d1, (o _ _ (by omega)).trans d2, d3⟩
end FR
/-- all that both keep alike -/
def Rel (s : zS) : Prop := (∃ n v, wRel s n v ∧ calmK s n v) ∧ (∃ g, gRel s g) ∧ (∃ m W q, vRel s m W q) ∧ (∃ m C E, cRel s m C E) ∧ (∃ p h c w u at' y, tRel s p h c w u at' y) ∧ (∃ B S G Q, mRel s B S G Q) ∧ frEq s
/-- a call of both -/
def cOk (s : zS) (c8 c9 : zS → Option (Int32 × zS)) : Prop := ∃ (r : Int32) (s1 s2 : zS), c8 s = some (r, s1) ∧ c9 s1 = some (r, s2) ∧ Rel s2
theorem cOk_same {s : zS} {r : Int32} {c8 c9 : zS → Option (Int32 × zS)} (h : Rel s) (h8 : c8 s = some (r, s)) (h9 : c9 s = some (r, s)) : cOk s c8 c9 := ⟨r, s, s, h8, h9, h⟩
/-- a call that writes nothing -/
def cPu {α : Type} (c8 c9 : Option α) : Prop := ∃ r, c8 = some r ∧ c9 = some r
theorem Rel_sh {s : zS} {n : Nat} {v : Nat → Int} {c8 c9 : zS → Option (Int32 × zS)} (h : Rel s) (hw : wRel s n v) (hc : shC s n v c8 c9) : cOk s c8 c9 := by
  obtain ⟨-, ⟨g, hg⟩, ⟨m, W, q, hv⟩, ⟨m', C, E, hc'⟩, ⟨p, h', c, w, u, a', y, ht⟩, ⟨B, S, G, Q, hm⟩, -⟩ := h
  obtain ⟨r, s1, s2, e1, e2, f1, f2, k, f⟩ := hc
  have ff := fr_t (cFrm_fr f1) (fr_m (vFrm_fr f2) (fun i hi => Or.inr hi))
  refine ⟨r, s1, s2, e1, e2, ⟨n, v, wRel_f hw ff (by decide), k⟩, ⟨g, gRel_f hg ff (by decide)⟩, ⟨m, W, q, vRel_f hv ff (by decide)⟩, ⟨m', C, E, cRel_f hc' ff (by decide)⟩, ⟨p, h', c, w, u, a', y, tRel_f ht ff (by decide)⟩, ⟨B, S, G, Q, mRel_f hm ff (by decide)⟩, f⟩
