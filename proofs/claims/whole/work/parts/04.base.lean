/-! the state of all cells as two functions; a method's walk in words of cells by numbers -/
abbrev zS : Type := (Nat → Nat → Int32) × (Nat → Nat → Int64)
def zwI (σ : zS) (c k : Nat) (x : Int32) : zS := (fun a => if a = c then upd (σ.1 a) k x else σ.1 a, σ.2)
def zwL (σ : zS) (c k : Nat) (x : Int64) : zS := (σ.1, fun a => if a = c then vp_updL (σ.2 a) k x else σ.2 a)
/-- a cell's shape: (0, class, kinds of fields: 0 int, 1 long, 2 boolean, n + 3 the cell n); (1, length, _) ints; (2, length, _) longs; (3.., _, cells) references -/
def zshpL : List (Nat × Nat × List Nat) := [(0, 8, [4, 5, 7, 41, 48, 50, 56]), (0, 2, [1, 1]), (0, 7, [0, 6]), (1, 16, []), (0, 3, [8, 11, 35, 40, 2]), (4, 2, [6, 7]), (1, 4, []), (1, 4, []), (0, 0, [12, 33, 34, 0, 0]), (5, 20, [10, 11, 12, 13, 14, 15, 16, 17, 18, 19, 20, 21, 22, 23, 24, 25, 26, 27, 28, 29]), (2, 6, []), (2, 6, []), (2, 6, []), (2, 6, []), (2, 6, []), (2, 6, []), (2, 6, []), (2, 6, []), (2, 6, []), (2, 6, []), (2, 6, []), (2, 6, []), (2, 6, []), (2, 6, []), (2, 6, []), (2, 6, []), (2, 6, []), (2, 6, []), (2, 6, []), (2, 6, []), (1, 20, []), (1, 4, []), (3, 4, [33, 34, 35, 36]), (0, 2, [1, 1]), (0, 2, [1, 1]), (0, 2, [1, 1]), (0, 2, [1, 1]), (0, 2, [1, 1]), (0, 5, [0, 0, 42, 43, 44, 45, 46, 47, 0, 2]), (1, 8, []), (1, 256, []), (1, 5, []), (1, 5, []), (1, 32, []), (1, 5, []), (0, 1, [0, 0, 49]), (1, 6, []), (0, 6, [0, 51, 52, 53, 0, 54, 55]), (1, 10, []), (1, 10, []), (1, 10, []), (1, 8, []), (1, 8, []), (0, 4, [0, 0, 57, 62, 63]), (4, 4, [55, 56, 57, 58]), (1, 4, []), (1, 4, []), (1, 4, []), (1, 4, []), (1, 4, []), (4, 5, [61, 62, 63, 64, 65]), (1, 32, []), (1, 32, []), (1, 32, []), (1, 32, []), (1, 32, []), (0, 9, [0, 70, 71, 1, 1, 0, 72, 0, 0, 73, 0, 0, 74, 75, 0, 76, 77, 0, 0, 78, 79, 80, 81, 0, 82, 83, 84, 85, 0, 86, 87, 88, 0, 1, 1, 1, 1, 89, 1, 1, 90, 0, 1]), (1, 16, []), (1, 8, []), (1, 8, []), (1, 6, []), (1, 10, []), (1, 10, []), (1, 8, []), (1, 8, []), (1, 16, []), (1, 4, []), (2, 30, []), (2, 30, []), (1, 5, []), (2, 5, []), (2, 5, []), (2, 20, []), (1, 14, []), (1, 5, []), (1, 5, []), (1, 5, []), (1, 6, [])]
def zshp (i : Nat) : Nat × Nat × List Nat := (zshpL[i]?).getD (9, 0, [])
def zN : Nat := 88
/-- the cell of the class's one static array, and the script's -/
def zFA : Nat := 200
def zSC : Nat := 201
def zfv (σ : zS) (i kd k : Nat) : Value := match kd with
  | 0 => .int (σ.1 i k)
  | 1 => .long (σ.2 i k)
  | 2 => .int (σ.1 i k)
  | n + 3 => .ref n
def zr (ad : Nat → Nat) (v : Value) : Value := match v with
  | .ref a => .ref (ad a)
  | v => v
def zE (ad : Nat → Nat) (cA : Nat → ClassId) (σ : zS) (i : Nat) : va_E := match zshp i with
  | (0, c, ks) => .inr (c, ks.mapIdx (fun k kd => zr ad (zfv σ i kd k)))
  | (1, n, _) => .inl (cA 0, n, .inl (σ.1 i))
  | (2, n, _) => .inl (cA 1, n, .inr (.inl (σ.2 i)))
  | (t + 3, _, l) => .inl (cA (t + 2), l.length, .inr (.inr (.inr (.inr (fun j => (l[j]?).map ad)))))
def zW (ad : Nat → Nat) (cA : Nat → ClassId) (σ : zS) : va_W := (List.range zN).map (fun i => (ad i, zE ad cA σ i))
def zty : List FieldType := [.int, .long, .object "WonTogether$Fraction", .array .int, .array .long]
def ztys (cA : Nat → ClassId) : List (ClassId × FieldType) := [(cA 0, .int), (cA 1, .long), (cA 2, .object "WonTogether$Fraction"), (cA 3, .array .int), (cA 4, .array .long)]
def zA (ad : Nat → Nat) : Nat → Prop := fun q => ∃ i, i < zN ∧ q = ad i
theorem zW_get {ad : Nat → Nat} {cA : Nat → ClassId} {σ : zS} {i : Nat} (h : i < zN) : (zW ad cA σ)[i]? = some (ad i, zE ad cA σ i) := by
  simp [zW, h]
theorem zW_of {ad : Nat → Nat} {cA : Nat → ClassId} {σ : zS} {i : Nat} {q : Nat × va_E} (h : (zW ad cA σ)[i]? = some q) : i < zN ∧ q = (ad i, zE ad cA σ i) := by
  have hl := (List.getElem?_eq_some_iff.mp h).1
  have hi : i < zN := by simpa [zW] using hl
  rw [zW_get hi] at h
  exact ⟨hi, (Option.some.inj h).symm⟩
def zInj (ad : Nat → Nat) : Prop := ∀ i j, i < zN → j < zN → ad i = ad j → i = j
theorem zD {ad : Nat → Nat} {cA : Nat → ClassId} {σ : zS} (h : zInj ad) : va_D (zA ad) (zW ad cA σ) := by
  refine ⟨fun i j p q hi hj hpq => ?_, fun k q hk => ?_⟩
  · obtain ⟨h1, rfl⟩ := zW_of hi
    obtain ⟨h2, rfl⟩ := zW_of hj
    exact h i j h1 h2 hpq
  · obtain ⟨h1, rfl⟩ := zW_of hk
    exact ⟨k, h1, rfl⟩
theorem zW_set {ad : Nat → Nat} {cA : Nat → ClassId} {σ σ' : zS} {i : Nat} {e : va_E} (he : e = zE ad cA σ' i) (ho : ∀ j, j ≠ i → zE ad cA σ j = zE ad cA σ' j) : (zW ad cA σ).set i (ad i, e) = zW ad cA σ' := by
  subst he
  apply List.ext_getElem?
  intro j
  by_cases hj : j < zN
  · by_cases hji : j = i
    · subst hji
      rw [List.getElem?_set_self (by simpa [zW] using hj), zW_get hj]
    · rw [List.getElem?_set_ne (Ne.symm hji), zW_get hj, zW_get hj, ho j hji]
  · have hl : (zW ad cA σ').length ≤ j := by simpa [zW] using hj
    have hl2 : ((zW ad cA σ).set i (ad i, zE ad cA σ' i)).length ≤ j := by simpa [zW] using hj
    rw [List.getElem?_eq_none hl, List.getElem?_eq_none hl2]
theorem zE_same {ad : Nat → Nat} {cA : Nat → ClassId} {σ σ' : zS} {j : Nat} (h1 : σ.1 j = σ'.1 j) (h2 : σ.2 j = σ'.2 j) : zE ad cA σ j = zE ad cA σ' j := by
  have h3 : ∀ kd k, zfv σ j kd k = zfv σ' j kd k := by
    intro kd k
    unfold zfv
    split <;> simp [h1, h2]
  unfold zE
  split <;> simp [h1, h2, h3]
theorem zwI_1 {σ : zS} {c k : Nat} {x : Int32} : (zwI σ c k x).1 c = upd (σ.1 c) k x := if_pos rfl
theorem zwI_o {σ : zS} {c k j : Nat} {x : Int32} (h : j ≠ c) : (zwI σ c k x).1 j = σ.1 j := if_neg h
theorem zwL_1 {σ : zS} {c k : Nat} {x : Int64} : (zwL σ c k x).2 c = vp_updL (σ.2 c) k x := if_pos rfl
theorem zwL_o {σ : zS} {c k j : Nat} {x : Int64} (h : j ≠ c) : (zwL σ c k x).2 j = σ.2 j := if_neg h
theorem zE_i {ad : Nat → Nat} {cA : Nat → ClassId} {σ : zS} {i n : Nat} {l : List Nat} (h : zshp i = (1, n, l)) : zE ad cA σ i = .inl (cA 0, n, .inl (σ.1 i)) := by
  unfold zE; rw [h]
theorem zE_l {ad : Nat → Nat} {cA : Nat → ClassId} {σ : zS} {i n : Nat} {l : List Nat} (h : zshp i = (2, n, l)) : zE ad cA σ i = .inl (cA 1, n, .inr (.inl (σ.2 i))) := by
  unfold zE; rw [h]
theorem zE_r {ad : Nat → Nat} {cA : Nat → ClassId} {σ : zS} {i t n : Nat} {l : List Nat} (h : zshp i = (t + 3, n, l)) : zE ad cA σ i = .inl (cA (t + 2), l.length, .inr (.inr (.inr (.inr (fun j => (l[j]?).map ad))))) := by
  unfold zE; rw [h]
theorem zE_o {ad : Nat → Nat} {cA : Nat → ClassId} {σ : zS} {i c : Nat} {ks : List Nat} (h : zshp i = (0, c, ks)) : zE ad cA σ i = .inr (c, ks.mapIdx (fun k kd => zr ad (zfv σ i kd k))) := by
  unfold zE; rw [h]
theorem zW_wI {ad : Nat → Nat} {cA : Nat → ClassId} {σ : zS} {i n k : Nat} {x : Int32} {l : List Nat} (h : zshp i = (1, n, l)) : (zW ad cA σ).set i (ad i, .inl (cA 0, n, .inl (upd (σ.1 i) k x))) = zW ad cA (zwI σ i k x) := by
  refine zW_set ?_ (fun j hj => zE_same (zwI_o hj).symm rfl)
  rw [zE_i h, zwI_1]
theorem zW_wL {ad : Nat → Nat} {cA : Nat → ClassId} {σ : zS} {i n k : Nat} {x : Int64} {l : List Nat} (h : zshp i = (2, n, l)) : (zW ad cA σ).set i (ad i, .inl (cA 1, n, .inr (.inl (vp_updL (σ.2 i) k x)))) = zW ad cA (zwL σ i k x) := by
  refine zW_set ?_ (fun j hj => zE_same rfl (zwL_o hj).symm)
  rw [zE_l h, zwL_1]
theorem zfld_set {f g : Nat → Nat → Value} {ks : List Nat} {k kd : Nat} {v : Value} (hk : ks[k]? = some kd) (hv : g k kd = v) (ho : ∀ j d, j ≠ k → f j d = g j d) : (ks.mapIdx f).set k v = ks.mapIdx g := by
  apply List.ext_getElem?
  intro j
  have hlt := (List.getElem?_eq_some_iff.mp hk).1
  by_cases hj : j = k
  · subst hj
    rw [List.getElem?_set_self (by simpa using hlt), List.getElem?_mapIdx, hk]
    simp [hv]
  · rw [List.getElem?_set_ne (Ne.symm hj), List.getElem?_mapIdx, List.getElem?_mapIdx]
    cases ks[j]? with
    | none => rfl
    | some d => simp [ho j d hj]
theorem zW_fI {ad : Nat → Nat} {cA : Nat → ClassId} {σ : zS} {i c k kd : Nat} {x : Int32} {ks : List Nat} (h : zshp i = (0, c, ks)) (hk : ks[k]? = some kd) (hkd : kd = 0 ∨ kd = 2) :
    (zW ad cA σ).set i (ad i, .inr (c, (ks.mapIdx (fun k kd => zr ad (zfv σ i kd k))).set k (.int x))) = zW ad cA (zwI σ i k x) := by
  refine zW_set ?_ (fun j hj => zE_same (zwI_o hj).symm rfl)
  rw [zE_o h, zfld_set (g := fun j d => zr ad (zfv (zwI σ i k x) i d j)) hk]
  · rcases hkd with rfl | rfl <;> simp [zfv, zr, zwI_1, upd]
  · intro j d hj
    unfold zfv
    split <;> simp [zwI_1, upd, hj, zwI]
theorem zW_fL {ad : Nat → Nat} {cA : Nat → ClassId} {σ : zS} {i c k : Nat} {x : Int64} {ks : List Nat} (h : zshp i = (0, c, ks)) (hk : ks[k]? = some 1) :
    (zW ad cA σ).set i (ad i, .inr (c, (ks.mapIdx (fun k kd => zr ad (zfv σ i kd k))).set k (.long x))) = zW ad cA (zwL σ i k x) := by
  refine zW_set ?_ (fun j hj => zE_same rfl (zwL_o hj).symm)
  rw [zE_o h, zfld_set (g := fun j d => zr ad (zfv (zwL σ i k x) i d j)) hk]
  · simp [zfv, zr, zwL_1, vp_updL]
  · intro j d hj
    unfold zfv
    split <;> simp [zwL_1, vp_updL, hj, zwL]
/-! locals: a list by places -/
def zls (ad : Nat → Nat) : Nat → List (Option Value) → List (Nat × Value)
  | _, [] => []
  | i, none :: r => zls ad (i + 1) r
  | i, some v :: r => (i, zr ad v) :: zls ad (i + 1) r
theorem zls_mem {ad : Nat → Nat} : ∀ (ls : List (Option Value)) (b : Nat) (q : Nat × Value), q ∈ zls ad b ls ↔ ∃ j v, ls[j]? = some (some v) ∧ q = (b + j, zr ad v)
  | [], b, q => by simp [zls]
  | none :: r, b, q => by
    rw [zls, zls_mem r (b + 1) q]
    constructor
    · rintro ⟨j, v, h, rfl⟩
      exact ⟨j + 1, v, h, by rw [Nat.add_assoc, Nat.add_comm 1 j]⟩
    · rintro ⟨j, v, h, rfl⟩
      cases j with
      | zero => simp at h
      | succ j => exact ⟨j, v, h, by rw [Nat.add_assoc, Nat.add_comm 1 j]⟩
  | some w :: r, b, q => by
    rw [zls, List.mem_cons, zls_mem r (b + 1) q]
    constructor
    · rintro (rfl | ⟨j, v, h, rfl⟩)
      · exact ⟨0, w, rfl, rfl⟩
      · exact ⟨j + 1, v, h, by rw [Nat.add_assoc, Nat.add_comm 1 j]⟩
    · rintro ⟨j, v, h, rfl⟩
      cases j with
      | zero => simp at h; exact Or.inl (by rw [h]; rfl)
      | succ j => exact Or.inr ⟨j, v, h, by rw [Nat.add_assoc, Nat.add_comm 1 j]⟩
theorem zls_get {ad : Nat → Nat} {lsA : Array Slot} {nL : Nat} {ls : List (Option Value)} {i : Nat} {v : Value} (h : lv_has lsA nL (zls ad 0 ls)) (hi : ls[i]? = some (some v)) : lsA[i]? = some (.val (zr ad v)) :=
  h.2.2 (i, zr ad v) ((zls_mem ls 0 _).mpr ⟨i, v, hi, by rw [Nat.zero_add]⟩)
theorem zhas_mono {lsA : Array Slot} {nL : Nat} {l l' : List (Nat × Value)} (h : lv_has lsA nL l) (hl : ∀ q ∈ l', q ∈ l) : lv_has lsA nL l' := ⟨h.1, h.2.1, fun q hq => h.2.2 q (hl q hq)⟩
def zclr (ls : List (Option Value)) (i : Nat) : List (Option Value) := match i with
  | 0 => ls
  | j + 1 => match ls[j]? with
    | some (some (.long _)) => ls.set j none
    | some (some (.double _)) => ls.set j none
    | _ => ls
def zst1 (ls : List (Option Value)) (i : Nat) (v : Value) : List (Option Value) := (zclr ls i).set i (some v)
def zst2 (ls : List (Option Value)) (i : Nat) (v : Value) : List (Option Value) := ((zclr ls i).set i (some v)).set (i + 1) none
theorem zr_cat (ad : Nat → Nat) (v : Value) : (zr ad v).category = v.category := by cases v <;> rfl
theorem zset_none {ls : List (Option Value)} {k j : Nat} {v : Value} (h : (ls.set k none)[j]? = some (some v)) : ls[j]? = some (some v) ∧ j ≠ k := by
  by_cases hjk : j = k
  · subst hjk
    have hlt : j < ls.length := by
      have := (List.getElem?_eq_some_iff.mp h).1
      simpa using this
    rw [List.getElem?_set_self hlt] at h
    cases h
  · rw [List.getElem?_set_ne (Ne.symm hjk)] at h
    exact ⟨h, hjk⟩
theorem zclr_at {ls : List (Option Value)} {i j : Nat} {v : Value} (h : (zclr ls i)[j]? = some (some v)) : ls[j]? = some (some v) ∧ ¬ (j + 1 = i ∧ v.category = 2) := by
  unfold zclr at h
  cases i with
  | zero => exact ⟨h, fun q => by omega⟩
  | succ k =>
    dsimp only at h
    split at h
    · obtain ⟨h1, h2⟩ := zset_none h
      exact ⟨h1, fun q => h2 (by omega)⟩
    · obtain ⟨h1, h2⟩ := zset_none h
      exact ⟨h1, fun q => h2 (by omega)⟩
    · rename_i hx hy
      refine ⟨h, fun q => ?_⟩
      obtain ⟨q1, q2⟩ := q
      have e : j = k := by omega
      subst e
      cases v <;> simp [Value.category] at q2
      · exact hx _ h
      · exact hy _ h
theorem zst1_sub {ad : Nat → Nat} {ls : List (Option Value)} {i : Nat} {v : Value} : ∀ q ∈ zls ad 0 (zst1 ls i v), q ∈ (i, zr ad v) :: (zls ad 0 ls).filter (fun q => !(q.1 == i) && !(q.1 + 1 == i && q.2.category == 2)) := by
  intro q hq
  obtain ⟨j, w, hj, rfl⟩ := (zls_mem _ 0 q).mp hq
  rw [Nat.zero_add]
  unfold zst1 at hj
  by_cases hji : j = i
  · subst hji
    have hlt : j < (zclr ls j).length := by simpa using (List.getElem?_eq_some_iff.mp hj).1
    rw [List.getElem?_set_self hlt] at hj
    cases hj
    exact List.mem_cons_self
  · rw [List.getElem?_set_ne (Ne.symm hji)] at hj
    obtain ⟨h1, h2⟩ := zclr_at hj
    refine List.mem_cons_of_mem _ (List.mem_filter.mpr ⟨(zls_mem ls 0 _).mpr ⟨j, w, h1, by rw [Nat.zero_add]⟩, ?_⟩)
    have h3 : ¬ (j + 1 = i ∧ (zr ad w).category = 2) := by rw [zr_cat]; exact h2
    simp only [Bool.and_eq_true, Bool.not_eq_true', beq_eq_false_iff_ne, ne_eq, hji, not_false_eq_true, true_and]
    by_cases a : j + 1 = i
    · have : ¬ (zr ad w).category = 2 := fun z => h3 ⟨a, z⟩
      simp [a, this]
    · simp [a]
theorem zst2_sub {ad : Nat → Nat} {ls : List (Option Value)} {i : Nat} {v : Value} : ∀ q ∈ zls ad 0 (zst2 ls i v), q ∈ (i, zr ad v) :: (zls ad 0 ls).filter (fun q => !(q.1 == i) && (!(q.1 == i + 1) && !(q.1 + 1 == i && q.2.category == 2))) := by
  intro q hq
  obtain ⟨j, w, hj, rfl⟩ := (zls_mem _ 0 q).mp hq
  rw [Nat.zero_add]
  unfold zst2 at hj
  obtain ⟨hj, hj1⟩ := zset_none hj
  by_cases hji : j = i
  · subst hji
    have hlt : j < (zclr ls j).length := by simpa using (List.getElem?_eq_some_iff.mp hj).1
    rw [List.getElem?_set_self hlt] at hj
    cases hj
    exact List.mem_cons_self
  · rw [List.getElem?_set_ne (Ne.symm hji)] at hj
    obtain ⟨h1, h2⟩ := zclr_at hj
    refine List.mem_cons_of_mem _ (List.mem_filter.mpr ⟨(zls_mem ls 0 _).mpr ⟨j, w, h1, by rw [Nat.zero_add]⟩, ?_⟩)
    have h3 : ¬ (j + 1 = i ∧ (zr ad w).category = 2) := by rw [zr_cat]; exact h2
    simp only [Bool.and_eq_true, Bool.not_eq_true', beq_eq_false_iff_ne, ne_eq, hji, hj1, not_false_eq_true, true_and]
    by_cases a : j + 1 = i
    · have : ¬ (zr ad w).category = 2 := fun z => h3 ⟨a, z⟩
      simp [a, this]
    · simp [a]
/-- the entry's locals -/
def zent : List Value → List (Option Value)
  | [] => []
  | .long x :: r => some (.long x) :: none :: zent r
  | .double x :: r => some (.double x) :: none :: zent r
  | v :: r => some v :: zent r
theorem zent_sub {ad : Nat → Nat} : ∀ (vs : List Value) (b : Nat) (q : Nat × Value), q ∈ zls ad b (zent vs) → q ∈ lv_args b (vs.map (zr ad))
  | [], b, q, h => by simp [zent, zls] at h
  | v :: r, b, q, h => by
    have key1 : v.category = 1 → zent (v :: r) = some v :: zent r := by
      intro hc
      cases v <;> first | rfl | (simp [Value.category] at hc)
    have key2 : v.category = 2 → zent (v :: r) = some v :: none :: zent r := by
      intro hc
      cases v <;> first | rfl | (simp [Value.category] at hc)
    rcases lv_cat v with hc | hc
    · rw [key1 hc] at h
      simp only [zls, List.mem_cons] at h
      rw [List.map_cons, lv_args, zr_cat, if_neg (by omega), List.mem_cons]
      rcases h with h | h
      · exact Or.inl h
      · exact Or.inr (zent_sub r (b + 1) q h)
    · rw [key2 hc] at h
      simp only [zls, List.mem_cons] at h
      rw [List.map_cons, lv_args, zr_cat, if_pos hc, List.mem_cons]
      rcases h with h | h
      · exact Or.inl h
      · exact Or.inr (zent_sub r (b + 2) q h)
theorem zls_none {ad : Nat → Nat} : ∀ (ls : List (Option Value)) (n b : Nat), zls ad b (ls ++ List.replicate n none) = zls ad b ls
  | [], 0, b => rfl
  | [], n + 1, b => by
    rw [List.nil_append, List.replicate_succ, zls]
    exact (zls_none [] n (b + 1)).trans rfl
  | none :: r, n, b => zls_none r n (b + 1)
  | some v :: r, n, b => congrArg (List.cons (b, zr ad v)) (zls_none r n (b + 1))
