/-! what the printed walks are made of -/
def zmask : List Bool → List (Option Value) → List (Option Value)
  | b :: bs, o :: os => (bif b then o else none) :: zmask bs os
  | _, _ => []
theorem zmask_at : ∀ (bs : List Bool) (ls : List (Option Value)) (j : Nat) (v : Value), (zmask bs ls)[j]? = some (some v) → ls[j]? = some (some v)
  | [], ls, j, v, h => by simp [zmask] at h
  | b :: bs, [], j, v, h => by simp [zmask] at h
  | b :: bs, o :: os, 0, v, h => by
    cases b
    · simp [zmask] at h
    · exact h
  | b :: bs, o :: os, j + 1, v, h => zmask_at bs os j v h
def zgd {α : Type} (c : Prop) [Decidable c] (x : Option α) : Option α := if c then x else none
theorem zguard {α : Type} {c : Prop} [Decidable c] {x : Option α} {r : α} (h : zgd c x = some r) : c ∧ x = some r := by
  unfold zgd at h
  by_cases hc : c
  · rw [if_pos hc] at h; exact ⟨hc, h⟩
  · rw [if_neg hc] at h; cases h
theorem zguardn {α : Type} {c : Prop} [Decidable c] {x : Option α} {r : α} (h : (if c then none else x) = some r) : ¬ c ∧ x = some r := by
  by_cases hc : c
  · rw [if_pos hc] at h; cases h
  · rw [if_neg hc] at h; exact ⟨hc, h⟩
theorem zbind {α β : Type} {x : Option α} {f : α → Option β} {r : β} (h : x.bind f = some r) : ∃ p, x = some p ∧ f p = some r := by
  cases x with
  | none => cases h
  | some p => exact ⟨p, rfl, h⟩
theorem zpos {α : Type} {c : Prop} [Decidable c] {x y : Option α} {r : α} (hc : c) (h : (if c then x else y) = some r) : x = some r := by
  rw [if_pos hc] at h; exact h
theorem zneg {α : Type} {c : Prop} [Decidable c] {x y : Option α} {r : α} (hc : ¬ c) (h : (if c then x else y) = some r) : y = some r := by
  rw [if_neg hc] at h; exact h
theorem zinc {n : Int} {m x : Int32} (h : Int32.ofInt n = m) : x + Int32.ofInt n = x + m := by rw [h]
theorem zoI_of {a n : Nat} {l : List Nat} {i : Int32} (hs : zshp a = (1, n, l)) (g : zin i n = true) : zoI a i = true := by
  unfold zoI; rw [hs]; exact g
theorem zoL_of {a n : Nat} {l : List Nat} {i : Int32} (hs : zshp a = (2, n, l)) (g : zin i n = true) : zoL a i = true := by
  unfold zoL; rw [hs]; exact g
theorem zoR_of {a t m n : Nat} {l : List Nat} {i : Int32} (hs : zshp a = (t, m, l) ∧ l.length = n ∧ 3 ≤ t ∧ t ≤ 5) (g : zin i n = true) : zoR a i = true := by
  obtain ⟨h1, h2, h3, h4⟩ := hs
  unfold zoR; rw [h1]
  simp only [h2, g, h3, h4, and_self, decide_true, Bool.and_self]
/-- a loop's fuel: more than any loop here turns -/
def zFU : Nat := 2097152
def zfx {α β : Type} (F : (α → Option β) → α → Option β) (n : Nat) : α → Option β := Nat.rec (fun _ => none) (fun _ ih => F ih) n
theorem zsw0 (x : Int32) : x.toInt < 0 ∨ (-1 : Int) < x.toInt := by omega
theorem zsw_s {x : Int32} {k : Nat} (h : x.toInt < 0 ∨ ((k : Int) - 1) < x.toInt) (g : ¬ x = Int32.ofNat k) (hk : k < 2 ^ 31 := by decide) : x.toInt < 0 ∨ (k : Int) < x.toInt := by
  rcases h with h | h
  · exact Or.inl h
  · refine Or.inr ?_
    have h1 : x.toInt ≠ (k : Int) := fun e => g (by
      apply Int32.toInt_inj.mp
      rw [e, Int32.toInt_ofNat_of_lt hk])
    omega
/-! System.arraycopy of ints -/
def zcok (src : Nat) (sp : Int32) (dst : Nat) (dp n : Int32) : Bool := ((zshp src).1 == 1) && ((zshp dst).1 == 1) && decide (0 ≤ sp.toInt) && decide (0 ≤ dp.toInt) && decide (0 ≤ n.toInt) && decide (sp.toInt + n.toInt ≤ (zshp src).2.1) && decide (dp.toInt + n.toInt ≤ (zshp dst).2.1)
def zcopy (σ : zS) (src : Nat) (sp : Int32) (dst : Nat) (dp n : Int32) : zS := (fun a => if a = dst then va_cpy (σ.1 src) (σ.1 dst) sp.toNatClampNeg dp.toNatClampNeg n.toNatClampNeg else σ.1 a, σ.2)
section ZH
variable {l : Launch} {D : va_G} {ad : Nat → Nat} {cA : Nat → ClassId} {M : zM} {Z : zZ} {pc : Nat} {ls : List (Option Value)} {st : List Value} {σ : zS}
theorem zk_mask (bs : List Bool) (k : zOk l D ad cA M Z pc (zmask bs ls) st σ) : zOk l D ad cA M Z pc ls st σ := zk_ls (zmask bs ls) (zmask_at bs ls) k
theorem zk_eq (ls' : List (Option Value)) (h : ls = ls') (k : zOk l D ad cA M Z pc ls' st σ) : zOk l D ad cA M Z pc ls st σ := by rw [h]; exact k
theorem zk_copy {index src dst : Nat} {sp dp n : Int32} (hM : M.own = "WonTogether$Votes") (hw : ∀ w ∈ [Cond.methodLink M.own index arraycopyName, Cond.native arraycopyName, Cond.static arraycopyName, Cond.initialized "java/lang/System"], w ∈ zU) (ho : zcok src sp dst dp n = true) (hfr : 1 ≤ M.room.frames) (hlo : (st.map fun v => v.category).sum + (nativeFrameWords "java/lang/System" "arraycopy" 5 + 11) ≤ M.room.locals) (hd : decode M.code pc = .ok (.invokestatic index, 3)) (kk : zOk l D ad cA M Z (pc + 3) ls st (zcopy σ src sp dst dp n)) : zOk l D ad cA M Z pc ls (.int n :: .int dp :: .ref dst :: .int sp :: .ref src :: st) σ := by
  intro p e s m args below meth c H locs lsA C hP hS h
  obtain ⟨hx, hb, hml, hr, hown, hts, hlk, hV, hj, hex⟩ := id C
  simp only [zcok, Bool.and_eq_true, beq_iff_eq, decide_eq_true_eq] at ho
  obtain ⟨⟨⟨⟨⟨⟨o1, o2⟩, o3⟩, o4⟩, o5⟩, o6⟩, o7⟩ := ho
  obtain ⟨n0, l0, hz0⟩ : ∃ n0 l0, zshp src = (1, n0, l0) := ⟨_, _, Prod.ext o1 rfl⟩
  obtain ⟨n1, l1, hz1⟩ : ∃ n1 l1, zshp dst = (1, n1, l1) := ⟨_, _, Prod.ext o2 rfl⟩
  replace o6 : sp.toInt + n.toInt ≤ (n0 : Int) := by rw [hz0] at o6; exact o6
  replace o7 : dp.toInt + n.toInt ≤ (n1 : Int) := by rw [hz1] at o7; exact o7
  have t1 : ∀ z : Int32, 0 ≤ z.toInt → ¬ z < 0 ∧ (z.toNatClampNeg : Int) = z.toInt := by
    intro z hz
    refine ⟨fun q => ?_, ?_⟩
    · have := Int32.lt_iff_toInt_lt.mp q
      rw [Int32.toInt_zero] at this
      omega
    · show ((z.toInt.toNat : Nat) : Int) = z.toInt
      omega
  obtain ⟨a1, b1⟩ := t1 sp o3
  obtain ⟨a2, b2⟩ := t1 dp o4
  obtain ⟨a3, b3⟩ := t1 n o5
  refine va_copyi hx hb (hml.trans h.1.symm) hown (hts _ (hw _ (by simp))) (hts _ (hw _ (by simp))) (hts _ (hw _ (by simp))) (hts _ (hw _ (by simp))) hV.1 hP (zD hj) hS src dst 0 0 (by rw [zW_get (zshp_lt (by omega)), zE_i hz0]) (by rw [zW_get (zshp_lt (by omega)), zE_i hz1]) rfl rfl rfl a1 a2 a3 (by omega) (by omega) (fun i _ => rfl) hfr ?_ hd (fun H1 locs1 hP1 _ hS1 => ?_)
  · have : ((st.map (zr ad)).map fun v => v.category) = (st.map fun v => v.category) := by
      rw [List.map_map]
      apply List.map_congr_left
      intro v _
      exact zr_cat ad v
    rw [this]
    exact hlo
  · have e1 : (zW ad cA σ).set dst (ad dst, .inl (cA 0, n1, .inl (va_cpy (σ.1 src) (σ.1 dst) sp.toNatClampNeg dp.toNatClampNeg n.toNatClampNeg))) = zW ad cA (zcopy σ src sp dst dp n) := by
      refine zW_set ?_ (fun j hj => zE_same (if_neg hj).symm rfl)
      rw [zE_i hz1]
      simp [zcopy]
    have hP2 : va_P D vwCl (zW ad cA (zcopy σ src sp dst dp n)) H1 := by rw [← e1]; exact hP1
    exact kk p e s m args below meth c H1 locs1 lsA C hP2 hS1 h
end ZH
