/-! who holds which cells; what each part of the two keeps alike -/
def own (c k : Nat) : Nat :=
  if c = 2 ∨ c = 3 ∨ c = 67 then 1 else if c = 6 ∨ c = 7 ∨ c = 68 then 2 else if (38 ≤ c ∧ c ≤ 44) ∨ c = 69 then 3 else if c = 45 ∨ c = 46 ∨ c = 70 then 4 else if (47 ≤ c ∧ c ≤ 52) ∨ (71 ≤ c ∧ c ≤ 74) then 5 else if c = 53 ∨ (55 ≤ c ∧ c ≤ 59) ∨ c = 75 ∨ c = 76 then 6 else if c = 4 then (if k = 4 then 7 else 0) else if c = 66 then (if k = 0 then 1 else if k = 5 ∨ k = 7 then 3 else if k = 8 ∨ k = 10 then 4 else if k = 11 ∨ k = 14 then 5 else if k = 17 ∨ k = 18 then 6 else 0) else 0
def ownL (c k : Nat) : Nat := if 33 ≤ c ∧ c ≤ 37 then 7 else if c = 1 then 8 else if c = 66 then (if k = 3 ∨ k = 4 then 8 else 0) else 0
/-- no cell of another part than P's is written -/
def fr (P : Nat → Prop) (s s' : zS) : Prop := (∀ c k, own c k ≠ 0 → ¬ P (own c k) → s'.1 c k = s.1 c k) ∧ ∀ c k, ownL c k ≠ 0 → ¬ P (ownL c k) → s'.2 c k = s.2 c k
theorem fr_r (P : Nat → Prop) (s : zS) : fr P s s := ⟨fun _ _ _ _ => rfl, fun _ _ _ _ => rfl⟩
theorem fr_t {P : Nat → Prop} {s s' s'' : zS} (h : fr P s s') (h' : fr P s' s'') : fr P s s'' := ⟨fun c k a b => (h'.1 c k a b).trans (h.1 c k a b), fun c k a b => (h'.2 c k a b).trans (h.2 c k a b)⟩
theorem fr_m {P Q : Nat → Prop} {s s' : zS} (h : fr P s s') (hPQ : ∀ i, P i → Q i) : fr Q s s' := ⟨fun c k a b => h.1 c k a (fun q => b (hPQ _ q)), fun c k a b => h.2 c k a (fun q => b (hPQ _ q))⟩
theorem fr_wI {P : Nat → Prop} (s : zS) (c k : Nat) (x : Int32) (h : own c k = 0 ∨ P (own c k)) : fr P s (zwI s c k x) := ⟨fun c' k' a b => by
  rw [zwI_at, if_neg (fun q => by
    obtain ⟨rfl, rfl⟩ := q
    exact h.elim a b)], fun _ _ _ _ => rfl⟩
theorem fr_wL {P : Nat → Prop} (s : zS) (c k : Nat) (x : Int64) (h : ownL c k = 0 ∨ P (ownL c k)) : fr P s (zwL s c k x) := ⟨fun _ _ _ _ => rfl, fun c' k' a b => by
  rw [zwL_at, if_neg (fun q => by
    obtain ⟨rfl, rfl⟩ := q
    exact h.elim a b)]⟩
theorem cFrm_fr {s s' : zS} (h : cFrm s s') : fr (fun i => i = 7 ∨ i = 8) s s' := by
  refine ⟨fun c k a b => h.1 c k ?_ ?_ ?_ ?_, fun c k a b => h.2 c k ?_ ?_⟩
  · rintro rfl; exact a rfl
  · rintro rfl; exact a rfl
  · rintro rfl; exact absurd rfl a
  · intro e e2; subst e; subst e2; exact b (Or.inl rfl)
  · unfold ownL at a b
    by_cases e : 33 ≤ c ∧ c ≤ 37
    · rw [if_pos e] at b; exact absurd (Or.inl rfl) b
    · rw [if_neg e] at a
      by_cases e1 : c = 1
      · omega
      · rw [if_neg e1] at a
        by_cases e2 : c = 66
        · omega
        · rw [if_neg e2] at a; exact absurd rfl a
  · rintro rfl; exact b (Or.inr rfl)
theorem vFrm_fr {s s' : zS} (h : vFrm s s') : fr (fun i => i = 8) s s' := by
  refine ⟨fun c k a b => h.1 c k ?_ ?_ ?_ ?_ ?_, fun c k a b => h.2 c k ?_ ?_ ?_ ?_ ?_ ?_⟩
  · rintro rfl
    refine ⟨?_, ?_, ?_⟩ <;> (rintro rfl; exact a rfl)
  · rintro rfl; exact a rfl
  · rintro rfl; exact a rfl
  · rintro rfl; exact a rfl
  · rintro rfl; exact a rfl
  · rintro rfl
    have h3 : k ≠ 3 := by rintro rfl; exact b rfl
    have h4 : k ≠ 4 := by rintro rfl; exact b rfl
    unfold ownL at a
    rw [if_neg (by omega), if_neg (by omega), if_pos rfl, if_neg (by omega)] at a
    exact absurd rfl a
  · rintro rfl; exact a rfl
  · rintro rfl; exact a rfl
  · rintro rfl; exact a rfl
  · rintro rfl; exact a rfl
  · rintro rfl; exact a rfl
def wRel (s : zS) (n : Nat) (v : Nat → Int) : Prop := wOk s n v ∧ uOk s n v ∧ v 0 = 0
def gRel (s : zS) (g : Nat → Nat → Int) : Prop := ∀ sh i, sh < 2 → i < 4 → s.1 (6 + sh) i = n32 (g sh i) ∧ s.1 68 (4 * sh + i) = n32 (g sh i) ∧ -10000 ≤ g sh i ∧ g sh i ≤ 10000
/-- what the voters of a set weigh together -/
def ldV (W : Nat → Int) : Nat → Nat → Int
  | 0, _ => 0
  | m + 1, S => ldV W m S + if S.testBit m then W m else 0
theorem wRel_f {P : Nat → Prop} {s s' : zS} {n : Nat} {v : Nat → Int} (h : wRel s n v) (f : fr P s s') (hP : ¬ P 1) : wRel s' n v := by
  obtain ⟨⟨a1, a2, a3, a4, a5⟩, ⟨b1, -, -, b4, -⟩, c⟩ := h
  exact ⟨⟨(f.1 2 0 (by decide) hP).trans a1, a2, a3, fun S hS => (f.1 3 S (fun q => by cases q) hP).trans (a4 S hS), a5⟩, ⟨(f.1 66 0 (by decide) hP).trans b1, a2, a3, fun S hS => (f.1 67 S (fun q => by cases q) hP).trans (b4 S hS), a5⟩, c⟩
theorem calmK_fr {P : Nat → Prop} {s s' : zS} {n : Nat} {v : Nat → Int} (h : calmK s n v) (hn : n ≤ 4) (f : fr P s s') (hP : ¬ P 7) : calmK s' n v := by
  have o : ∀ c k, 33 ≤ c → c < 38 → s'.2 c k = s.2 c k := fun c k h1 h2 => by
    have e : ownL c k = 7 := by unfold ownL; rw [if_pos (by omega)]
    exact f.2 c k (by rw [e]; decide) (by rw [e]; exact hP)
  rcases h with h | ⟨x, h1, h2, h3⟩
  · exact Or.inl ((f.1 4 4 (by decide) hP).trans h)
  · refine Or.inr ⟨x, calmE_f h1 hn (fun c k a b => o c k a (by omega)), h2, fun q => ?_⟩
    obtain ⟨E, hE, hs⟩ := h3 q
    exact ⟨E, ⟨(o 37 0 (by omega) (by omega)).trans hE.1, (o 37 1 (by omega) (by omega)).trans hE.2⟩, hs⟩
theorem gRel_f {P : Nat → Prop} {s s' : zS} {g : Nat → Nat → Int} (h : gRel s g) (f : fr P s s') (hP : ¬ P 2) : gRel s' g := fun sh i hs hi => by
  obtain ⟨a, b, c⟩ := h sh i hs hi
  have e : own (6 + sh) i = 2 := by
    have : sh = 0 ∨ sh = 1 := by omega
    rcases this with rfl | rfl <;> rfl
  exact ⟨(f.1 _ _ (by rw [e]; decide) (by rw [e]; exact hP)).trans a, (f.1 68 _ (fun q => by cases q) hP).trans b, c⟩
theorem frEq_fr {P : Nat → Prop} {s s' : zS} (h : frEq s) (f : fr P s s') (hP : ¬ P 8) : frEq s' := by
  refine ⟨?_, ?_⟩
  · rw [f.2 1 0 (by decide) hP, f.2 66 3 (by decide) hP]; exact h.1
  · rw [f.2 1 1 (by decide) hP, f.2 66 4 (by decide) hP]; exact h.2
