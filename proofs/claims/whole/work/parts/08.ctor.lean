/-! arrays of arrays: what the tables say of their class -/
def va_AOA (ty : FieldType) (U : State) : Prop := (Cond.arrayOver (.array ty)).before #[] U = true
theorem va_AOA.use {ty : FieldType} {A : Array Value} {U : State} (h : va_AOA ty U) : (Cond.arrayOver (.array ty)).before A U = true := h
theorem zidx_bare (vm : Vm) (F : Class → Bool) (hF : ∀ k k' : Class, k'.kind = k.kind → F k' = F k) : vm.bare.classes.findIdx? F = vm.classes.findIdx? F := by
  simp only [Vm.bare, Array.findIdx?_map]
  refine congrArg (fun G => vm.classes.findIdx? G) (funext fun k => ?_)
  exact hF k _ rfl
theorem zidx_alike {u U : Vm} (h : u.Alike U) (F : Class → Bool) (hF : ∀ k k' : Class, k'.kind = k.kind → F k' = F k) : U.classes.findIdx? F = u.classes.findIdx? F := by
  rw [← zidx_bare U F hF, ← zidx_bare u F hF]
  first | rw [h.bare_eq] | rw [← h.bare_eq]
theorem va_AOA.moved {ty : FieldType} {u U : State} (hvm : u.vm.Alike U.vm) (h : va_AOA ty u) : va_AOA ty U := by
  have h0 : (Cond.arrayOver (.array ty)).holds #[] u none u [] = true := h
  simp only [Cond.holds, Cond.value, beq_iff_eq] at h0
  cases hc : u.vm.findClass (FieldType.array ty).toString with
  | none => simp [hc] at h0
  | some comp =>
    simp only [hc, Option.bind_some, Option.bind_eq_some_iff, Option.map_eq_some_iff] at h0
    obtain ⟨c, hi, k, hk, hb⟩ := h0
    obtain ⟨k', hk', he⟩ := hvm.2.2 _ _ hk
    have hi2 := (zidx_alike hvm _ (fun k k' hk => by rw [hk])).trans hi
    have f1 : U.vm.findClass (FieldType.array ty).toString = some comp := by rw [hvm.findClass]; exact hc
    have hkd : k'.kind = k.kind := by rw [he]
    unfold va_AOA Cond.before Cond.holds
    simp only [Cond.value]
    rw [f1, Option.bind_some]
    refine (congrArg (fun o : Option Nat => (o.bind (fun c => (U.vm.classes[c]?).map fun (k : Class) => match k.kind with | .array _ ty' => decide (ty' = FieldType.array ty) && decide (U.vm.findClass ("[" ++ (FieldType.array ty).toString) = some c) | _ => false) == some true)) hi2).trans ?_
    rw [← hkd] at hb
    cases hkk : k'.kind with
    | array component ty2 =>
      rw [hkk] at hb
      simp at hb
      simp [hk', hkk, hb.1, hvm.findClass, hb.2]
    | _ => rw [hkk] at hb; simp at hb
/-! ===== BEGIN new T[n][m]: the outer array a place, the inner ones among the pooled ===== -/
/-- f, but v at every address of l -/
def vr_up {α : Type} (f : Nat → α) (l : List Nat) (v : α) : Nat → α := fun a => if a ∈ l then v else f a
theorem vr_up_in {α : Type} {f : Nat → α} {l : List Nat} {v : α} {a : Nat} (h : a ∈ l) : vr_up f l v a = v := if_pos h
theorem vr_up_ne {α : Type} {f : Nat → α} {l : List Nat} {v : α} {a : Nat} (h : a ∉ l) : vr_up f l v a = f a := if_neg h
theorem vr_rows {L l : List Nat} {f : Nat → va_E} {e : va_E} (h : ∀ a, a ∈ l → a ∉ L) : va_pl L f ++ l.map (fun a => (a, e)) = va_pl (L ++ l) (vr_up f l e) := by
  unfold va_pl
  rw [List.map_append]
  congr 1
  · apply List.map_congr_left
    intro a ha
    rw [vr_up_ne (fun q => h a q ha)]
  · apply List.map_congr_left
    intro a ha
    rw [vr_up_in ha]
theorem vr_lay {X rows : va_W} {x : Nat × va_E} {pl : va_W} {D : va_G} {cl : List vw_C} {H : Heap} (hP : va_P D cl (((X ++ pl) ++ [x]) ++ rows) H) : va_P D cl ((X ++ [x]) ++ (pl ++ rows)) H := by
  rw [List.append_assoc (X ++ pl)] at hP
  have h := va_P.swap hP
  rw [← List.append_assoc X] at h
  have h2 := va_P.swap h
  rw [List.append_assoc (X ++ [x])] at h2
  exact h2
theorem vr_layD {X rows : va_W} {x : Nat × va_E} {pl : va_W} {A : Nat → Prop} (hD : va_D A (((X ++ pl) ++ [x]) ++ rows)) : va_D A ((X ++ [x]) ++ (pl ++ rows)) := by
  rw [List.append_assoc (X ++ pl)] at hD
  have h := va_D.swap hD
  rw [← List.append_assoc X] at h
  have h2 := va_D.swap h
  rw [List.append_assoc (X ++ [x])] at h2
  exact h2
theorem vr_outer (c : ClassId) (N h0 : Nat) : ∀ i : Nat, Jvm.Free.Multi.outerC c N h0 i = arrV c N (fun j => va_rf (if j < i then some (h0 + 1 + j) else none))
  | 0 => by
    show ({ cls := c, slots := Array.replicate N .null, vm := .none } : Cell) = _
    rw [arrV_new]
    refine congrArg (arrV c N) (funext fun j => ?_)
    simp [va_rf]
  | i + 1 => by
    show (Jvm.Free.Multi.outerC c N h0 i).setSlot i (.ref (h0 + 1 + i)) = _
    rw [vr_outer c N h0 i, arrV_store]
    refine congrArg (arrV c N) (funext fun j => ?_)
    by_cases e : j = i
    · subst e
      simp [updV, va_rf]
    · by_cases h : j < i
      · simp [updV, e, h, Nat.lt_succ_of_lt h]
      · simp [updV, e, h, show ¬ j < i + 1 by omega]
section VGM
variable {p : Program} {l : Launch} {e : Env} {R : Room} {s : State} {m : MethodId} {args : Array Value} {below : List Frame} {meth : Method} {c : Code} {H : Heap} {locs : List Loc} {cells slots : Nat} {Q : State → Prop}
variable {cc : ByteArray} {pc : Nat} {ls : Array Slot} {rest : List Value} {D : va_G} {cl : List vw_C} {A : Nat → Prop} {a : Nat} {tys : List (ClassId × FieldType)} {ws : va_W} {H0 : Heap}
theorem va_mna {X : va_W} {L : List Nat} {f : Nat → va_E} {cc : ByteArray} (hexec : p.tables.exec = Jvm.exec) (hb : c.code = cc) {own : String} {index : Nat} {ty : FieldType} {cy : ClassId} (hown : s.vm.findClass own = some m.cls) (hclink : (Cond.classLink own index ("[" ++ (FieldType.array ty).toString)).before args s = true) (hover : va_AOA ty s) (harr : (Cond.arrayClass ty).before args s = true) (hcy : s.vm.findClass (FieldType.array ty).toString = some cy)
    (hK : va_K D cl tys s) (hP : va_P D cl (X ++ va_pl L f) H) (hD : va_D A (X ++ va_pl L f)) (hS : va_S A H0 H locs) (hA : ∀ q, H0.size ≤ q → A q) {n k : Int32} {N' K' : Nat} {z : vp_A} (hn : ¬ n < 0) (hk : ¬ k < 0) (hN : n.toNatClampNeg = N') (hM : k.toNatClampNeg = K')
    (hb1 : N' * 4 ≤ 536870912) (hb2 : K' * componentBytes ty ≤ 536870912) (hb3 : K' ≤ 536870912) (hdf : fits ty (defaultValue ty) = true) (hdd : (defaultValue ty).isDefault = true) (hcells : cells + (1 + N') ≤ R.cells) (hslots : slots + (N' + N' * K') ≤ R.slots) (hz : ∀ c : ClassId, Jvm.Free.Multi.innerC c K' (defaultValue ty) = vp_cell c z) (hdg : decode cc pc = .ok (.multianewarray index 2, 4))
    (kk : ∀ (q : Nat) (r : Nat → Nat) (cA : ClassId) (H1 : Heap), (∀ i j : Nat, i < N' → j < N' → r i = r j → i = j) → (∀ i : Nat, i < N' → r i ∉ L) → va_K D cl (tys ++ [(cA, .array ty)]) s →
      va_P D cl ((X ++ [(q, .inl (cA, N', .inr (.inr (.inr (.inr (fun i => if i < N' then some (r i) else none))))))]) ++ va_pl (L ++ (List.range N').map r) (vr_up f ((List.range N').map r) (.inl (cy, z)))) H1 → va_D A ((X ++ [(q, .inl (cA, N', .inr (.inr (.inr (.inr (fun i => if i < N' then some (r i) else none))))))]) ++ va_pl (L ++ (List.range N').map r) (vr_up f ((List.range N').map r) (.inl (cy, z)))) → va_S A H0 H1 locs →
      W p l e R s m args below meth c H1 locs (cells + 1 + N') (slots + N' + N' * K') Q (F0 m (pc + 4) ls (.ref q :: rest))) : W p l e R s m args below meth c H locs cells slots Q (F0 m pc ls (.int k :: .int n :: rest)) := by
  subst hN
  subst hM
  intro T hT Xs
  obtain ⟨vm₁, cA, comp, -, fA, fC, hO, -, X', step⟩ := Xs.multianewarray2F hexec hown hclink (va_AOA.use hover) harr (g := F0 m pc ls (.int k :: .int n :: rest)) rfl (by rw [hb]; exact hdg) rfl hn hk hb1 hb2 hb3 hdf hdd hcells hslots
  have ec : some cy = some comp := hcy.symm.trans fC
  cases ec
  generalize hF : Jvm.Free.Multi.fill (T.setVm vm₁) cA cy n.toNatClampNeg k.toNatClampNeg (defaultValue ty) n.toNatClampNeg = F at X' step
  have hTh : (T.setVm vm₁).heap = H := hT
  obtain ⟨f1, f2, -, -⟩ := Jvm.Free.Multi.fill_facts (T.setVm vm₁) cA cy n.toNatClampNeg k.toNatClampNeg (defaultValue ty) n.toNatClampNeg
  rw [hF, hTh] at f1 f2
  have hold : ∀ x : Nat, x < H.size → F.heap[x]? = H[x]? := fun x hx => by
    have := Jvm.Free.Multi.fill_old (T.setVm vm₁) cA cy n.toNatClampNeg k.toNatClampNeg (defaultValue ty) (a := x) (by rw [hTh]; exact hx) n.toNatClampNeg
    rw [hF, hTh] at this
    exact this
  have hrow : ∀ j : Nat, j < n.toNatClampNeg → F.heap[H.size + 1 + j]? = some (vp_cell cy z) := fun j hj => by
    have := Jvm.Free.Multi.fill_inner (T.setVm vm₁) cA cy n.toNatClampNeg k.toNatClampNeg (defaultValue ty) n.toNatClampNeg j hj
    rw [hF, hTh, hz] at this
    exact this
  have hout : Jvm.Free.Multi.outerC cA n.toNatClampNeg H.size n.toNatClampNeg = vp_cell cA (n.toNatClampNeg, .inr (.inr (.inr (.inr (fun i => if i < n.toNatClampNeg then some (H.size + 1 + i) else none))))) := by
    rw [vp_cell_q]
    exact vr_outer cA n.toNatClampNeg H.size n.toNatClampNeg
  rw [hout] at f2
  have hlt : ∀ a, a ∈ L → a < H.size := fun a ha => by
    obtain ⟨k9, hk9⟩ := va_pl_get (X := X) (f := f) ha
    exact (hP k9 _ hk9).lt
  have hnl : ∀ i : Nat, i < n.toNatClampNeg → H.size + 1 + i ∉ L := fun i _ h => by
    have := hlt _ h
    omega
  have hnm : ∀ a, a ∈ (List.range n.toNatClampNeg).map (fun i => H.size + 1 + i) → a ∉ L := fun a ha h => by
    obtain ⟨i, -, rfl⟩ := List.mem_map.mp ha
    have := hlt _ h
    omega
  have hP0 : va_P D cl (X ++ va_pl L f) F.heap := hP.kept (fun k9 x hx => hold x.1 ((hP k9 x hx).lt))
  have hP1 : va_P D cl ((X ++ va_pl L f) ++ [(H.size, .inl (cA, n.toNatClampNeg, .inr (.inr (.inr (.inr (fun i => if i < n.toNatClampNeg then some (H.size + 1 + i) else none))))))]) F.heap := hP0.app (fun k9 x hx => by
    have h0 : k9 < 1 := (List.getElem?_eq_some_iff.mp hx).1
    rw [show k9 = 0 by omega] at hx
    cases hx
    exact f2)
  have hP2 : va_P D cl (((X ++ va_pl L f) ++ [(H.size, .inl (cA, n.toNatClampNeg, .inr (.inr (.inr (.inr (fun i => if i < n.toNatClampNeg then some (H.size + 1 + i) else none))))))]) ++ ((List.range n.toNatClampNeg).map (fun i => H.size + 1 + i)).map (fun a => (a, .inl (cy, z)))) F.heap := hP1.app (fun k9 x hx => by
    obtain ⟨a, ha, rfl⟩ := List.mem_map.mp (List.mem_of_getElem? hx)
    obtain ⟨i, hi, rfl⟩ := List.mem_map.mp ha
    exact hrow i (List.mem_range.mp hi))
  have hD2 : va_D A (((X ++ va_pl L f) ++ [(H.size, .inl (cA, n.toNatClampNeg, .inr (.inr (.inr (.inr (fun i => if i < n.toNatClampNeg then some (H.size + 1 + i) else none))))))]) ++ ((List.range n.toNatClampNeg).map (fun i => H.size + 1 + i)).map (fun a => (a, .inl (cy, z)))) := by
    have hD1 := hD.push (e := .inl (cA, n.toNatClampNeg, .inr (.inr (.inr (.inr (fun i => if i < n.toNatClampNeg then some (H.size + 1 + i) else none)))))) hP rfl (hA _ hS.1)
    generalize hW1 : (X ++ va_pl L f) ++ [(H.size, .inl (cA, n.toNatClampNeg, .inr (.inr (.inr (.inr (fun i => if i < n.toNatClampNeg then some (H.size + 1 + i) else none))))))] = W1 at hD1 hP1 ⊢
    have hle : ∀ (k9 : Nat) (x : Nat × va_E), W1[k9]? = some x → x.1 ≤ H.size := fun k9 x hx => by
      rw [← hW1] at hx
      by_cases hl : k9 < (X ++ va_pl L f).length
      · rw [List.getElem?_append_left hl] at hx
        exact Nat.le_of_lt ((hP k9 x hx).lt)
      · rw [List.getElem?_append_right (by omega)] at hx
        have h0 : k9 - (X ++ va_pl L f).length < 1 := (List.getElem?_eq_some_iff.mp hx).1
        rw [show k9 - (X ++ va_pl L f).length = 0 by omega] at hx
        cases hx
        exact Nat.le_refl _
    have hr : ∀ (k9 : Nat) (x : Nat × va_E), (((List.range n.toNatClampNeg).map (fun i => H.size + 1 + i)).map (fun a => ((a, .inl (cy, z)) : Nat × va_E)))[k9]? = some x → x.1 = H.size + 1 + k9 := fun k9 x hx => by
      rw [List.getElem?_map, List.getElem?_map] at hx
      by_cases h9 : k9 < n.toNatClampNeg
      · rw [List.getElem?_range h9] at hx
        cases hx
        rfl
      · have hn0 : (List.range n.toNatClampNeg)[k9]? = none := List.getElem?_eq_none (by rw [List.length_range]; omega)
        rw [hn0] at hx
        cases hx
    refine ⟨fun i j x y hi hj hxy => ?_, fun k9 x hx => ?_⟩
    · by_cases h1 : i < W1.length <;> by_cases h2 : j < W1.length
      · rw [List.getElem?_append_left h1] at hi
        rw [List.getElem?_append_left h2] at hj
        exact hD1.1 i j x y hi hj hxy
      · rw [List.getElem?_append_left h1] at hi
        rw [List.getElem?_append_right (by omega)] at hj
        have := hle _ _ hi
        have := hr _ _ hj
        omega
      · rw [List.getElem?_append_right (by omega)] at hi
        rw [List.getElem?_append_left h2] at hj
        have := hle _ _ hj
        have := hr _ _ hi
        omega
      · rw [List.getElem?_append_right (by omega)] at hi hj
        have := hr _ _ hi
        have := hr _ _ hj
        omega
    · by_cases h1 : k9 < W1.length
      · rw [List.getElem?_append_left h1] at hx
        exact hD1.2 k9 x hx
      · rw [List.getElem?_append_right (by omega)] at hx
        have := hr _ _ hx
        exact hA _ (by have := hS.1; omega)
  have hAr : ArrOfT s cA (.array ty) := fun N9 z9 => by
    obtain ⟨-, k9, hk9, cm9, hkk9⟩ := (hO 0 0 0).1
    exact ⟨(fun q hq => by cases hq), k9, hk9, cm9, hkk9⟩
  have hK2 : va_K D cl (tys ++ [(cA, .array ty)]) s := ⟨hK.1, fun k9 x hx => by
    by_cases hl : k9 < tys.length
    · rw [List.getElem?_append_left hl] at hx
      exact hK.2 k9 x hx
    · rw [List.getElem?_append_right (by omega)] at hx
      have h0 : k9 - tys.length < 1 := (List.getElem?_eq_some_iff.mp hx).1
      rw [show k9 - tys.length = 0 by omega] at hx
      cases hx
      exact ⟨hAr, fA⟩⟩
  obtain ⟨t, a1, b1⟩ := kk H.size (fun i => H.size + 1 + i) cA F.heap (fun i j _ _ h => by have h9 : H.size + 1 + i = H.size + 1 + j := h; omega) hnl hK2 (by rw [← vr_rows hnm]; exact vr_lay hP2) (by rw [← vr_rows hnm]; exact vr_layD hD2) ⟨by rw [f1]; have := hS.1; omega, fun x h1 h2 => (hold x (Nat.lt_of_lt_of_le h1 hS.1)).trans (hS.2.1 x h1 h2), hS.2.2⟩ F rfl X'
  refine ⟨t, step t ?_, b1⟩
  have e : T.heap.size = H.size := by rw [hT]
  rw [e]
  exact a1
end VGM
/-! constructors: the world as a list of cells -/
def zQV (D : va_G) (cA : Nat → ClassId) (U : State) : Prop := va_K D vwCl (ztys cA) U ∧ (∀ w ∈ zNest, va_Nw w U) ∧ va_AO "WonTogether$Fraction" U ∧ va_AOA .int U ∧ va_AOA .long U
theorem zQV.moved {D : va_G} {cA : Nat → ClassId} {u U : State} (hvm : u.vm.Alike U.vm) (hn : ∀ w ∈ zNest, va_Nw w u → va_Nw w U) (h : zQV D cA u) : zQV D cA U :=
  ⟨va_K.moved hvm h.1, fun w hw => hn w hw (h.2.1 w hw), va_AO.moved hvm h.2.2.1, va_AOA.moved hvm h.2.2.2.1, va_AOA.moved hvm h.2.2.2.2⟩
/-- code, locals, answer's type, own class, room, what else holds at the entry -/
abbrev zN2 : Type := ByteArray × Nat × Option FieldType × String × Room × (Array Value → State → Method → Prop)
def zCq (D : va_G) (cA : Nat → ClassId) (M : zN2) (A : Nat → Prop) (p : Program) (s : State) (m : MethodId) (args : Array Value) (meth : Method) (c : Code) : Prop :=
  p.tables.exec = Jvm.exec ∧ c.code = M.1 ∧ c.maxLocals = M.2.1 ∧ meth.sig.returnType = M.2.2.1 ∧ s.vm.findClass M.2.2.2.1 = some m.cls ∧ (∀ w ∈ zU, w.before args s = true) ∧ meth.locks = false ∧ zQV D cA s ∧ (∀ q : Nat, s.heap.size ≤ q → A q) ∧ M.2.2.2.2.2 args s meth
def zOq (l : Launch) (D : va_G) (cA : Nat → ClassId) (M : zN2) (A : Nat → Prop) (Z : zZ) (pc : Nat) (ls : List (Option Value)) (st : List Value) (ws : va_W) (cells slots : Nat) : Prop :=
  ∀ (p : Program) (e : Env) (s : State) (m : MethodId) (args : Array Value) (below : List Frame) (meth : Method) (c : Code) (H : Heap) (locs : List Loc) (lsA : Array Slot), zCq D cA M A p s m args meth c → va_P D vwCl ws H → va_D A ws → va_S A s.heap H locs → lv_has lsA M.2.1 (zls id 0 ls) →
    W p l e M.2.2.2.2.1 s m args below meth c H locs cells slots (Z below args s) (F0 m pc lsA st)
theorem zr_id (v : Value) : zr id v = v := by cases v <;> rfl
section ZQ
variable {l : Launch} {D : va_G} {cA : Nat → ClassId} {M : zN2} {A : Nat → Prop} {Z : zZ} {pc : Nat} {ls : List (Option Value)} {st : List Value} {ws : va_W} {cells slots : Nat}
theorem zq_ws (ws' : va_W) (h : ws = ws') (k : zOq l D cA M A Z pc ls st ws' cells slots) : zOq l D cA M A Z pc ls st ws cells slots := by rw [h]; exact k
theorem zq_cs (c' s' : Nat) (h : cells = c' ∧ slots = s') (k : zOq l D cA M A Z pc ls st ws c' s') : zOq l D cA M A Z pc ls st ws cells slots := by rw [h.1, h.2]; exact k
theorem zq_get {lsA : Array Slot} {nL i : Nat} {v : Value} (h : lv_has lsA nL (zls id 0 ls)) (hi : ls[i]? = some (some v)) : lsA[i]? = some (.val v) := by
  have := zls_get h hi
  rwa [zr_id] at this
theorem zq_aload_n {k : Fin 4} {i x : Nat} (hd : decode M.1 pc = .ok (.aload_n k, 1)) (hi : (k : Nat) = i) (hl : ls[i]? = some (some (.ref x))) (kk : zOq l D cA M A Z (pc + 1) ls (.ref x :: st) ws cells slots) : zOq l D cA M A Z pc ls st ws cells slots := by
  intro p e s m args below meth c H locs lsA C hP hD hS h
  exact lv_aload_n C.1 C.2.1 hd hi (zq_get h hl) (kk p e s m args below meth c H locs lsA C hP hD hS h)
theorem zq_astore_n {k : Fin 4} {i x : Nat} {ls' : List (Option Value)} (hd : decode M.1 pc = .ok (.astore_n k, 1)) (hi : (k : Nat) = i) (hn : i < M.2.1) (he : zst1 ls i (.ref x) = ls') (kk : zOq l D cA M A Z (pc + 1) ls' st ws cells slots) : zOq l D cA M A Z pc ls (.ref x :: st) ws cells slots := by
  intro p e s m args below meth c H locs lsA C hP hD hS h
  exact lv_astore_n C.1 C.2.1 hd hi h hn rfl (fun ls2 h2 => kk p e s m args below meth c H locs ls2 C hP hD hS (by rw [← he]; exact zhas_mono h2 zst1_sub))
theorem zq_istore_n {k : Fin 4} {i : Nat} {x : Int32} {ls' : List (Option Value)} (hd : decode M.1 pc = .ok (.istore_n k, 1)) (hi : (k : Nat) = i) (hn : i < M.2.1) (he : zst1 ls i (.int x) = ls') (kk : zOq l D cA M A Z (pc + 1) ls' st ws cells slots) : zOq l D cA M A Z pc ls (.int x :: st) ws cells slots := by
  intro p e s m args below meth c H locs lsA C hP hD hS h
  exact lv_istore_n C.1 C.2.1 hd hi h hn rfl (fun ls2 h2 => kk p e s m args below meth c H locs ls2 C hP hD hS (by rw [← he]; exact zhas_mono h2 zst1_sub))
theorem zq_iconst {n : Int} {v : Int32} (hd : decode M.1 pc = .ok (.iconst n, 1)) (hv : Int32.ofInt n = v) (kk : zOq l D cA M A Z (pc + 1) ls (.int v :: st) ws cells slots) : zOq l D cA M A Z pc ls st ws cells slots := by
  intro p e s m args below meth c H locs lsA C hP hD hS h
  exact lv_iconst C.1 C.2.1 hd hv (kk p e s m args below meth c H locs lsA C hP hD hS h)
theorem zq_bipush {n : Int} {v : Int32} (hd : decode M.1 pc = .ok (.bipush n, 2)) (hv : (Int8.ofInt n).toInt32 = v) (kk : zOq l D cA M A Z (pc + 2) ls (.int v :: st) ws cells slots) : zOq l D cA M A Z pc ls st ws cells slots := by
  intro p e s m args below meth c H locs lsA C hP hD hS h
  exact lv_bipush C.1 C.2.1 hd hv (kk p e s m args below meth c H locs lsA C hP hD hS h)
theorem zq_sipush {n : Int} {v : Int32} (hd : decode M.1 pc = .ok (.sipush n, 3)) (hv : (Int16.ofInt n).toInt32 = v) (kk : zOq l D cA M A Z (pc + 3) ls (.int v :: st) ws cells slots) : zOq l D cA M A Z pc ls st ws cells slots := by
  intro p e s m args below meth c H locs lsA C hP hD hS h
  exact lv_sipush C.1 C.2.1 hd hv (kk p e s m args below meth c H locs lsA C hP hD hS h)
theorem zq_lconst {n : Fin 2} {v : Int64} (hd : decode M.1 pc = .ok (.lconst n, 1)) (hv : Int64.ofNat (n : Nat) = v) (kk : zOq l D cA M A Z (pc + 1) ls (.long v :: st) ws cells slots) : zOq l D cA M A Z pc ls st ws cells slots := by
  intro p e s m args below meth c H locs lsA C hP hD hS h
  exact lv_lconst C.1 C.2.1 hd hv (kk p e s m args below meth c H locs lsA C hP hD hS h)
theorem zq_dup {v : Value} (hd : decode M.1 pc = .ok (.dup, 1)) (hv : v.category = 1) (kk : zOq l D cA M A Z (pc + 1) ls (v :: v :: st) ws cells slots) : zOq l D cA M A Z pc ls (v :: st) ws cells slots := by
  intro p e s m args below meth c H locs lsA C hP hD hS h
  exact lv_dup C.1 C.2.1 hd hv (kk p e s m args below meth c H locs lsA C hP hD hS h)
theorem zq_obj {index x : Nat} (hw : ∀ w ∈ [Cond.methodLink M.2.2.2.1 index objectInit, Cond.instanceMethod objectInit, Cond.code objectInit ⟨#[0xb1]⟩ 1 none], w ∈ zU) (hfr : 1 ≤ M.2.2.2.2.1.frames) (hlo : (st.map fun v => v.category).sum + 12 ≤ M.2.2.2.2.1.locals) (hd : decode M.1 pc = .ok (.invokespecial index, 3)) (kk : zOq l D cA M A Z (pc + 3) ls st ws cells slots) : zOq l D cA M A Z pc ls (.ref x :: st) ws cells slots := by
  intro p e s m args below meth c H locs lsA C hP hD hS h
  have hts := C.2.2.2.2.2.1
  refine W.objInit C.1 C.2.1 C.2.2.2.2.1 (hts _ (hw _ (by simp))) (hts _ (hw _ (by simp))) (hts _ (hw _ (by simp))) rfl (h.1.trans C.2.2.1.symm) rfl hd hfr ?_ (kk p e s m args below meth c H locs lsA C hP hD hS h)
  show 2 * 0 + _ + 12 ≤ _
  omega
theorem zq_put {C : String} {T : u_T} {N ci index k q0 a : Nat} {ty0 : Nat → FieldType} {ty : FieldType} {v : Value} {fs : List Value} (ws' : va_W) (hin : ∀ w ∈ u_ws C T N, w ∈ zU) (hty : ∀ k, k < N → parseFieldDescriptor (T k).2.2.1 = some (ty0 k)) (hnm : ∀ a, a < N → ∀ b, b < N → a ≠ b → (T a).2.1 ≠ (T b).2.1) (hc : vwCl[ci]? = some (C, T, N)) (hk : k < N) (hlink : Cond.fieldLink M.2.2.2.1 index (T k).1 (T k).2.1 (T k).2.2.1 ∈ zU) (hfin : (T k).2.2.2 = false) (hdt : parseFieldDescriptor (T k).2.2.1 = some ty) (hn : narrow ty v = v) (hft : fits ty v = true) (he : ws[q0]? = some (a, .inr (ci, fs))) (hl : k < fs.length) (hws : ws.set q0 (a, .inr (ci, fs.set k v)) = ws') (hd : decode M.1 pc = .ok (.putfield index, 3)) (kk : zOq l D cA M A Z (pc + 3) ls st ws' cells slots) : zOq l D cA M A Z pc ls (v :: .ref a :: st) ws cells slots := by
  intro p e s m args below meth c H locs lsA Cx hP hD hS h
  subst hws
  have hts := Cx.2.2.2.2.2.1
  exact va_put Cx.1 Cx.2.1 hts hin ty0 hty hnm Cx.2.2.2.2.1 Cx.2.2.2.2.2.2.2.1.1 hP hD hS q0 he hc k hk (hts _ hlink) (fun x q => q) hfin hdt hn hft hl hd (fun H1 locs1 hP1 hD1 hS1 => kk p e s m args below meth c H1 locs1 lsA Cx hP1 hD1 hS1 h)
theorem zq_putF {C : String} {T : u_T} {N ci index k q0 a : Nat} {ty0 : Nat → FieldType} {ty : FieldType} {v : Value} {fs : List Value} (ws' : va_W) (hini : ∀ args s meth, M.2.2.2.2.2 args s meth → meth.name = "<init>") (hin : ∀ w ∈ u_ws C T N, w ∈ zU) (hty : ∀ k, k < N → parseFieldDescriptor (T k).2.2.1 = some (ty0 k)) (hnm : ∀ a, a < N → ∀ b, b < N → a ≠ b → (T a).2.1 ≠ (T b).2.1) (hc : vwCl[ci]? = some (C, T, N)) (hk : k < N) (hlink : Cond.fieldLink M.2.2.2.1 index (T k).1 (T k).2.1 (T k).2.2.1 ∈ zU) (hfin : (T k).2.2.2 = true) (hdec : (T k).1 = M.2.2.2.1) (hdt : parseFieldDescriptor (T k).2.2.1 = some ty) (hn : narrow ty v = v) (hft : fits ty v = true) (he : ws[q0]? = some (a, .inr (ci, fs))) (hl : k < fs.length) (hws : ws.set q0 (a, .inr (ci, fs.set k v)) = ws') (hd : decode M.1 pc = .ok (.putfield index, 3)) (kk : zOq l D cA M A Z (pc + 3) ls st ws' cells slots) : zOq l D cA M A Z pc ls (v :: .ref a :: st) ws cells slots := by
  intro p e s m args below meth c H locs lsA Cx hP hD hS h
  subst hws
  have hts := Cx.2.2.2.2.2.1
  exact va_putF Cx.1 Cx.2.1 hts hin ty0 hty hnm Cx.2.2.2.2.1 Cx.2.2.2.2.2.2.2.1.1 hP hD hS q0 he hc k hk (hts _ hlink) (fun x q => q) hfin (hini _ _ _ Cx.2.2.2.2.2.2.2.2.2) hdec hdt hn hft hl hd (fun H1 locs1 hP1 hD1 hS1 => kk p e s m args below meth c H1 locs1 lsA Cx hP1 hD1 hS1 h)
/-- one class of arrays, one number -/
theorem zq_one {s : State} {cB : ClassId} {ty : FieldType} {t : Nat} {tys : List (ClassId × FieldType)} (hK : va_K D vwCl (tys ++ [(cB, ty)]) s) (hK0 : va_K D vwCl (ztys cA) s) (ht : (ztys cA)[t]? = some (cA t, ty)) : cB = cA t := by
  have h1 := (hK.2 tys.length (cB, ty) (by simp)).2
  have h2 := (hK0.2 t (cA t, ty) ht).2
  cases ty with
  | object C =>
    obtain ⟨_, _, _, _, _, e1⟩ := h1
    obtain ⟨_, _, _, _, _, e2⟩ := h2
    exact Option.some.inj (e1.symm.trans e2)
  | _ =>
    have e1 : s.vm.findClass _ = some cB := h1
    have e2 : s.vm.findClass _ = some (cA t) := h2
    exact Option.some.inj (e1.symm.trans e2)
theorem zq_newa {atype : ArrayType} {ty : FieldType} {n : Int32} {N' t : Nat} {a0 : vp_A} (hw : Cond.arrayClass (newarray.typeOf atype) ∈ zU) (hty : newarray.typeOf atype = ty) (ht : ∀ cA : Nat → ClassId, (ztys cA)[t]? = some (cA t, ty)) (ha : ∀ cA : ClassId, vp_cell cA a0 = arrV cA N' (fun _ => defaultValue ty)) (hn : ¬ n < 0) (hN : n.toNatClampNeg = N') (hb : N' * componentBytes ty ≤ 536870912) (hcl : cells + 1 ≤ M.2.2.2.2.1.cells) (hsl : slots + N' ≤ M.2.2.2.2.1.slots) (hd : decode M.1 pc = .ok (.newarray atype, 2))
    (kk : ∀ q : Nat, zOq l D cA M A Z (pc + 2) ls (.ref q :: st) (ws ++ [(q, .inl (cA t, a0))]) (cells + 1) (slots + N')) : zOq l D cA M A Z pc ls (.int n :: st) ws cells slots := by
  intro p e s m args below meth c H locs lsA Cx hP hD hS h
  have hts := Cx.2.2.2.2.2.1
  have hK := Cx.2.2.2.2.2.2.2.1.1
  refine va_newa Cx.1 Cx.2.1 (hts _ hw) hty hK hP hD hS Cx.2.2.2.2.2.2.2.2.1 ha hn hN hb hcl hsl hd (fun q cB H1 hK1 hP1 hD1 hS1 => ?_)
  have e1 : cB = cA t := zq_one hK1 hK (ht cA)
  subst e1
  exact kk q p e s m args below meth c H1 locs lsA Cx hP1 hD1 hS1 h
theorem zq_newq {index : Nat} {n : Int32} {N' : Nat} (hlink : Cond.classLink M.2.2.2.1 index "WonTogether$Fraction" ∈ zU) (hn : ¬ n < 0) (hN : n.toNatClampNeg = N') (hb : N' * 4 ≤ 536870912) (hcl : cells + 1 ≤ M.2.2.2.2.1.cells) (hsl : slots + N' ≤ M.2.2.2.2.1.slots) (hd : decode M.1 pc = .ok (.anewarray index, 3))
    (kk : ∀ q : Nat, zOq l D cA M A Z (pc + 3) ls (.ref q :: st) (ws ++ [(q, .inl (cA 2, N', .inr (.inr (.inr (.inr (fun _ => none))))))]) (cells + 1) (slots + N')) : zOq l D cA M A Z pc ls (.int n :: st) ws cells slots := by
  intro p e s m args below meth c H locs lsA Cx hP hD hS h
  have hts := Cx.2.2.2.2.2.1
  have hK := Cx.2.2.2.2.2.2.2.1.1
  refine va_newq Cx.1 Cx.2.1 Cx.2.2.2.2.1 (hts _ hlink) Cx.2.2.2.2.2.2.2.1.2.2.1 hK hP hD hS Cx.2.2.2.2.2.2.2.2.1 hn hN hb hcl hsl hd (fun q cB H1 hK1 hP1 hD1 hS1 => ?_)
  have e1 : cB = cA 2 := zq_one (t := 2) hK1 hK rfl
  subst e1
  exact kk q p e s m args below meth c H1 locs lsA Cx hP1 hD1 hS1 h
theorem zq_astq {q0 qk ci a v n : Nat} {vs : List Value} {r : vw_C} {f : Nat → Option Nat} {i : Int32} (ws' : va_W) (ha : ws[q0]? = some (a, .inl (cA 2, n, .inr (.inr (.inr (.inr f)))))) (hr : r.1 = "WonTogether$Fraction") (hv : ws[qk]? = some (v, .inr (ci, vs))) (hc : vwCl[ci]? = some r) (hi : zin i n = true) (hws : ws.set q0 (a, .inl (cA 2, n, .inr (.inr (.inr (.inr (va_up f i.toNatClampNeg (some v))))))) = ws') (hd : decode M.1 pc = .ok (.aastore, 1)) (kk : zOq l D cA M A Z (pc + 1) ls st ws' cells slots) : zOq l D cA M A Z pc ls (.ref v :: .int i :: .ref a :: st) ws cells slots := by
  intro p e s m args below meth c H locs lsA Cx hP hD hS h
  subst hws
  exact va_astq Cx.1 Cx.2.1 Cx.2.2.2.2.2.2.2.1.1 hP hD hS q0 2 qk ci ha (by rw [hr]; rfl) hv hc (zin_vp hi) hd (fun H1 locs1 hP1 hD1 hS1 => kk p e s m args below meth c H1 locs1 lsA Cx hP1 hD1 hS1 h)
theorem zq_mna {index t u N' K' : Nat} {n k : Int32} {ty : FieldType} {z : vp_A} (hlink : Cond.classLink M.2.2.2.1 index ("[" ++ (FieldType.array ty).toString) ∈ zU) (hover : ∀ s, zQV D cA s → va_AOA ty s) (hw : Cond.arrayClass ty ∈ zU) (ht : ∀ cA : Nat → ClassId, (ztys cA)[t]? = some (cA t, .array ty)) (hu : ∀ cA : Nat → ClassId, (ztys cA)[u]? = some (cA u, ty)) (hny : ∀ C, ty ≠ .object C) (hn : ¬ n < 0) (hk : ¬ k < 0) (hN : n.toNatClampNeg = N') (hM : k.toNatClampNeg = K') (hb1 : N' * 4 ≤ 536870912) (hb2 : K' * componentBytes ty ≤ 536870912) (hb3 : K' ≤ 536870912) (hdf : fits ty (defaultValue ty) = true) (hdd : (defaultValue ty).isDefault = true) (hcl : cells + (1 + N') ≤ M.2.2.2.2.1.cells) (hsl : slots + (N' + N' * K') ≤ M.2.2.2.2.1.slots) (hz : ∀ c : ClassId, Jvm.Free.Multi.innerC c K' (defaultValue ty) = vp_cell c z) (hd : decode M.1 pc = .ok (.multianewarray index 2, 4))
    (kk : ∀ (q : Nat) (r : Nat → Nat), zOq l D cA M A Z (pc + 4) ls (.ref q :: st) (ws ++ (q, .inl (cA t, N', .inr (.inr (.inr (.inr (fun i => if i < N' then some (r i) else none)))))) :: (List.range N').map (fun i => (r i, .inl (cA u, z)))) (cells + 1 + N') (slots + N' + N' * K')) : zOq l D cA M A Z pc ls (.int k :: .int n :: st) ws cells slots := by
  intro p e s m args below meth c H locs lsA Cx hP hD hS h
  have hts := Cx.2.2.2.2.2.1
  have hQ := Cx.2.2.2.2.2.2.2.1
  have hcy : s.vm.findClass (FieldType.array ty).toString = some (cA u) := by
    have h2 := (hQ.1.2 u (cA u, ty) (hu cA)).2
    cases ty with
    | object C => exact absurd rfl (hny C)
    | _ => exact h2
  refine va_mna (X := ws) (L := []) (f := fun _ => .inl (cA u, z)) Cx.1 Cx.2.1 Cx.2.2.2.2.1 (hts _ hlink) (hover s hQ) (hts _ hw) hcy hQ.1 (by rw [va_pl, List.map_nil, List.append_nil]; exact hP) (by rw [va_pl, List.map_nil, List.append_nil]; exact hD) hS Cx.2.2.2.2.2.2.2.2.1 hn hk hN hM hb1 hb2 hb3 hdf hdd hcl hsl hz hd (fun q r cB H1 hinj hnl hK1 hP1 hD1 hS1 => ?_)
  have e1 : cB = cA t := zq_one hK1 hQ.1 (ht cA)
  subst e1
  have e2 : (ws ++ [(q, (.inl (cA t, N', .inr (.inr (.inr (.inr (fun i => if i < N' then some (r i) else none))))) : va_E))]) ++ va_pl ([] ++ (List.range N').map r) (vr_up (fun _ => .inl (cA u, z)) ((List.range N').map r) (.inl (cA u, z))) = ws ++ (q, .inl (cA t, N', .inr (.inr (.inr (.inr (fun i => if i < N' then some (r i) else none)))))) :: (List.range N').map (fun i => (r i, .inl (cA u, z))) := by
    rw [List.append_assoc]
    refine congrArg _ (congrArg _ ?_)
    rw [List.nil_append, va_pl, List.map_map]
    apply List.map_congr_left
    intro i hi
    show (r i, vr_up _ _ _ (r i)) = _
    rw [vr_up_in (List.mem_map.mpr ⟨i, hi, rfl⟩)]
  rw [e2] at hP1 hD1
  exact kk q r p e s m args below meth c H1 locs lsA Cx hP1 hD1 hS1 h
theorem zq_new {C : String} {T : u_T} {N ci index : Nat} {ty : Nat → FieldType} {fs : List Value} (hin : ∀ w ∈ u_ws C T N, w ∈ zU) (hty : ∀ k, k < N → parseFieldDescriptor (T k).2.2.1 = some (ty k)) (hw : ∀ w ∈ [Cond.classLink M.2.2.2.1 index C, Cond.instantiable C N, Cond.initialized C], w ∈ zU) (hc : vwCl[ci]? = some (C, T, N)) (hfs : ∀ j, j < N → defaultValue (ty j) = vp_V fs j) (hcl : cells + 1 ≤ M.2.2.2.2.1.cells) (hsl : slots + N ≤ M.2.2.2.2.1.slots) (hd : decode M.1 pc = .ok (.new index, 3))
    (kk : ∀ q : Nat, zOq l D cA M A Z (pc + 3) ls (.ref q :: st) (ws ++ [(q, .inr (ci, fs))]) (cells + 1) (slots + N)) : zOq l D cA M A Z pc ls st ws cells slots := by
  intro p e s m args below meth c H locs lsA Cx hP hD hS h
  have hts := Cx.2.2.2.2.2.1
  exact va_new Cx.1 Cx.2.1 hts hin ty hty Cx.2.2.2.2.1 (hts _ (hw _ (by simp))) (hts _ (hw _ (by simp))) (hts _ (hw _ (by simp))) Cx.2.2.2.2.2.2.2.1.1 hP hD hS Cx.2.2.2.2.2.2.2.2.1 hc hfs hcl hsl hd (fun q H1 hP1 hD1 hS1 => kk q p e s m args below meth c H1 locs lsA Cx hP1 hD1 hS1 h)
/-! a constructor's contract -/
def zqPc (D : va_G) (cA : Nat → ClassId) (h0 : Nat) (e0 : va_E) (sz : Nat) : Array Value → State → Prop := fun a U => a = #[.ref h0] ∧ U.heap.size = sz ∧ va_P D vwCl [(h0, e0)] U.heap ∧ zQV D cA U
def zqQc (D : va_G) (A : Nat → Prop) (post : va_W → Prop) : Array Value → State → Outcome → State → Prop := fun _ st oc t => (oc = .returned none ∧ ∃ w, post w ∧ va_P D vwCl w t.heap ∧ va_D A w) ∧ va_F A st t
abbrev zqR (j : zJ) (mc ms : Nat) : Room := { frames := j.2.2.2.2.1, cells := mc, slots := ms, locals := j.2.2.2.2.2 }
def zqMet (l : Launch) (D : va_G) (cA : Nat → ClassId) (j : zJ) (mc ms : Nat) (e0 : va_E) (post : Nat → va_W → Prop) : Prop :=
  ∀ h0 sz : Nat, Met l j.1 (zJw j) (zqR j mc ms) (zqPc D cA h0 e0 sz) (zqQc D (va_A [(h0, e0)] sz) (post h0)) mc ms (va_A [(h0, e0)] sz)
def zqZ (D : va_G) (A : Nat → Prop) (post : va_W → Prop) (mc ms : Nat) : zZ := fun below args s => MQ below (zqQc D A post) args s mc ms A
abbrev zqM (j : zJ) (mc ms : Nat) : zN2 := (j.2.1, j.2.2.1, j.2.2.2.1, j.1.cls, zqR j mc ms, fun _ _ meth => meth.name = "<init>")
theorem zqMet_of (j : zJ) (mc ms : Nat) {e0 : va_E} {post : Nat → va_W → Prop} (hy : plainName j.1.cls = true) (hnm : j.1.name = "<init>") (hlen : 1 ≤ j.2.2.1) (k : ∀ (h0 : Nat) (A : Nat → Prop), zOq l D cA (zqM j mc ms) A (zqZ D A (post h0) mc ms) 0 [some (.ref h0)] [] [(h0, e0)] 0 0) : zqMet l D cA j mc ms e0 post := by
  intro h0 sz
  refine Met.ofW (cc := j.2.1) (maxL := j.2.2.1) (ret := j.2.2.2.1) hy rfl ?_
  intro p e s m args below meth c s₁ B hml hv
  obtain ⟨rfl, hsz, hP, hV⟩ := hv
  subst hsz
  have hts := atoms_spec (ws := zJw j) B.pre
  have hl := lv_entry ([.ref h0]) (n := j.2.2.1) hlen
  rw [show (#[Value.ref h0] : Array Value) = [Value.ref h0].toArray from rfl, lg_entry_eq]
  refine k h0 _ p e s m _ below meth c s.heap [] _ ⟨B.exec, B.bytes, hml, B.returns, findClass_of_methodNamed B.named, fun w hw => hts w (List.mem_cons_of_mem _ hw), B.notSynchronized, hV, fun q hq => Or.inr hq, ?_⟩ hP ?_ va_S.rf (zhas_mono hl fun q hq => ?_)
  · exact (name_of_methodNamed B.named B.method).1.trans hnm
  · refine ⟨fun i j p q hi hj _ => ?_, fun k q hk => Or.inl ⟨k, q.2, hk⟩⟩
    have h1 := (List.getElem?_eq_some_iff.mp hi).1
    have h2 := (List.getElem?_eq_some_iff.mp hj).1
    simp at h1 h2
    omega
  · simpa [zls, zr, lv_args] using hq
theorem zq_ret {post : va_W → Prop} (hr : M.2.2.1 = none) (hp : post ws) (hd : decode M.1 pc = .ok (.return_, 1)) : zOq l D cA M A (zqZ D A post cells slots) pc ls [] ws cells slots := by
  intro p e s m args below meth c H locs lsA C hP hD hS h
  have hlk : meth.locks = false := C.2.2.2.2.2.2.1
  exact W.vret C.1 C.2.1 (C.2.2.2.1.trans hr) (fun t ht hW => ⟨⟨rfl, ws, hp, by rw [ht]; exact hP, hD⟩, hS.F ht⟩) hS.2.2 hd
/-- behind a constructor's call: its object stood last -/
theorem zq_after {p : Program} {e : Env} {s : State} {m : MethodId} {args : Array Value} {below : List Frame} {meth : Method} {c : Code} {H : Heap} {locs : List Loc} {lsA : Array Slot} {stA : List Value} {wr : va_W} {h0 mc ms : Nat} {e0 : va_E} {post : va_W → Prop} {ar : Array Value}
    (hr : va_Run p l e M.2.2.2.2.1 s m args below meth c H locs cells slots mc ms (F0 m pc lsA stA) st (zqQc D (va_A [(h0, e0)] H.size) post ar) (va_A [(h0, e0)] H.size)) (C : zCq D cA M A p s m args meth c) (hP : va_P D vwCl (wr ++ [(h0, e0)]) H) (hD : va_D A (wr ++ [(h0, e0)])) (hS : va_S A s.heap H locs) (h : lv_has lsA M.2.1 (zls id 0 ls))
    (kk : ∀ w, post w → zOq l D cA M A Z (pc + 3) ls st (wr ++ w) (cells + mc) (slots + ms)) : W p l e M.2.2.2.2.1 s m args below meth c H locs cells slots (Z below args s) (F0 m pc lsA stA) := by
  intro T hT X
  obtain ⟨v1, st₀, t, T', L, h0', X', hL, e1, e2, ⟨⟨hv, w, hpw, hP1, hD1⟩, hz, hk⟩, stp⟩ := hr T hT X
  have hv1 : v1 = none := by injection hv
  subst hv1
  rw [h0'] at hz hk
  have hA := C.2.2.2.2.2.2.2.2.1
  have hC1 : [wr.length].map (fun i => (wr ++ [(h0, e0)])[i]?) = [(h0, e0)].map some := by simp
  have hR1 : (List.range wr.length).map (fun i => (wr ++ [(h0, e0)])[i]?) = wr.map some := by
    apply List.ext_getElem?
    intro i
    by_cases hi : i < wr.length
    · simp [hi, List.getElem?_append_left hi]
    · rw [List.getElem?_eq_none (by simpa using hi), List.getElem?_eq_none (by simpa using hi)]
  have hF := va_free (wc := [(h0, e0)]) hD hS hA [wr.length] hC1
  have hnd : ∀ n : Nat, va_nd (List.range n) = true := by
    intro n
    have key : ∀ (k b : Nat), va_nd (List.range' b k) = true := by
      intro k
      induction k with
      | zero => intro b; rfl
      | succ k ih =>
        intro b
        rw [List.range'_succ, va_nd, ih (b + 1)]
        simp
    rw [List.range_eq_range']
    exact key n 0
  obtain ⟨hP2, hD2⟩ := va_join (wr := wr) (w1 := w) hP hD [wr.length] (List.range wr.length) hC1 hR1 (hnd _) (fun i hi => by simp at hi; simp; omega) hk hF (by rw [e1] at *; exact hP1) hD1
  have hS2 : va_S A s.heap T'.heap (locs ++ L) := ⟨Nat.le_trans hS.1 (by rw [e1]; exact hz), fun q h1 h2 => by rw [e1, hk q (Nat.lt_of_lt_of_le h1 hS.1) (fun z => h2 (hF q z))]; exact hS.2.1 q h1 h2, fun q hq => by
    rcases List.mem_append.mp hq with h | h
    · exact hS.2.2 q h
    · exact hF _ (hL q h)⟩
  obtain ⟨t2, a1, b1⟩ := kk w hpw p e s m args below meth c T'.heap (locs ++ L) lsA C (by rw [e1]; exact hP2) hD2 hS2 h T' rfl X'
  exact ⟨t2, stp t2 a1, b1⟩
theorem zqPc_blind {h0 sz : Nat} {e0 : va_E} : FrameBlind (zqPc D cA h0 e0 sz) := fun a U g mk q =>
  ⟨q.1, q.2.1, q.2.2.1, zQV.moved (u := U) (U := U.calling g mk a) (Vm.Alike.refl U.vm) zNest_call q.2.2.2⟩
theorem zqPc_now {p : Program} {s : State} {m : MethodId} {args : Array Value} {meth : Method} {c : Code} {H : Heap} {wr : va_W} {h0 : Nat} {e0 : va_E} (C : zCq D cA M A p s m args meth c) (hP : va_P D vwCl (wr ++ [(h0, e0)]) H) : ∀ U : State, U.heap = H → s.WarmedH U.vm → zqPc D cA h0 e0 H.size #[.ref h0] U := by
  intro U hU hW
  refine ⟨rfl, by rw [hU], ?_, zQV.moved hW.alike (zNest_warm hW) C.2.2.2.2.2.2.2.1⟩
  rw [hU]
  intro k q hk
  have hk0 : k < 1 := (List.getElem?_eq_some_iff.mp hk).1
  have : k = 0 := by omega
  subst this
  cases hk
  exact hP wr.length _ (by simp)
theorem zq_callN (j : zJ) {host : String} {index mc ms h0 : Nat} {e0 : va_E} {post : Nat → va_W → Prop} {wr : va_W} (hM : zqMet l D cA j mc ms e0 post) (hl : Cond.methodLinkNest M.2.2.2.1 index j.1 host ∈ zNest) (hw : ∀ w ∈ [Cond.instanceMethod j.1, .initialized j.1.cls, .code j.1 j.2.1 j.2.2.1 none], w ∈ zU) (hret : j.2.2.2.1 = none) (hnm : j.1.name = "<init>") (hn : j.1.cls ≠ "java/lang/invoke/MethodHandle" ∧ j.1.cls ≠ "java/lang/invoke/VarHandle" ∧ (parseMethodDescriptor j.1.desc).map (fun d => d.parameters.length) = some 0) (hR : j.2.2.2.2.1 + 1 ≤ M.2.2.2.2.1.frames ∧ 8 + (j.2.2.1 + 11) + j.2.2.2.2.2 ≤ M.2.2.2.2.1.locals) (hc : cells + mc ≤ M.2.2.2.2.1.cells ∧ slots + ms ≤ M.2.2.2.2.1.slots) (hcat : (st.map fun v => v.category).sum ≤ 8) (hd : decode M.1 pc = .ok (.invokespecial index, 3)) (kk : ∀ w, post h0 w → zOq l D cA M A Z (pc + 3) ls st (wr ++ w) (cells + mc) (slots + ms)) : zOq l D cA M A Z pc ls (.ref h0 :: st) (wr ++ [(h0, e0)]) cells slots := by
  intro p e s m args below meth c H locs lsA C hP hD hS h
  obtain ⟨hx, hb, hml, hr, hown, hts, hlk, hV, hA, hex⟩ := id C
  have hjw : zJw j = Cond.code j.1 j.2.1 j.2.2.1 none :: zU := by rw [zJw, hret]
  refine zq_after (ls := ls) (ar := #[Value.ref h0]) (va_runIN (As := []) (b := h0) (rest := st) (ws := zJw j) (rm := zqR j mc ms) ⟨hx, hb, hml, hown, hts⟩ (hM h0 H.size) ⟨va_cnB 0 hts (zgU (fun w hw1 => ?_)) hjw rfl rfl (hV.2.1 _ hl) (hts _ (hw _ (by simp))) hn hR, hnm, hts _ (hw _ (by simp))⟩ ⟨zqPc_blind, zqPc_now C hP⟩ rfl rfl h.1 rfl ?_ hd hc) C hP hD hS h kk
  · rw [hjw] at hw1
    rcases List.mem_cons.mp hw1 with h1 | h1
    · exact hw w (by rw [h1]; simp)
    · exact h1
  · show 2 * 0 + _ ≤ 8
    omega
theorem zq_callI (j : zJ) {index mc ms h0 : Nat} {e0 : va_E} {post : Nat → va_W → Prop} {wr : va_W} (hM : zqMet l D cA j mc ms e0 post) (hw : ∀ w ∈ [Cond.methodLink M.2.2.2.1 index j.1, .instanceMethod j.1, .initialized j.1.cls, .code j.1 j.2.1 j.2.2.1 none], w ∈ zU) (hret : j.2.2.2.1 = none) (hnm : j.1.name = "<init>") (hn : j.1.cls ≠ "java/lang/invoke/MethodHandle" ∧ j.1.cls ≠ "java/lang/invoke/VarHandle" ∧ (parseMethodDescriptor j.1.desc).map (fun d => d.parameters.length) = some 0) (hR : j.2.2.2.2.1 + 1 ≤ M.2.2.2.2.1.frames ∧ 8 + (j.2.2.1 + 11) + j.2.2.2.2.2 ≤ M.2.2.2.2.1.locals) (hc : cells + mc ≤ M.2.2.2.2.1.cells ∧ slots + ms ≤ M.2.2.2.2.1.slots) (hcat : (st.map fun v => v.category).sum ≤ 8) (hd : decode M.1 pc = .ok (.invokespecial index, 3)) (kk : ∀ w, post h0 w → zOq l D cA M A Z (pc + 3) ls st (wr ++ w) (cells + mc) (slots + ms)) : zOq l D cA M A Z pc ls (.ref h0 :: st) (wr ++ [(h0, e0)]) cells slots := by
  intro p e s m args below meth c H locs lsA C hP hD hS h
  obtain ⟨hx, hb, hml, hr, hown, hts, hlk, hV, hA, hex⟩ := id C
  have hjw : zJw j = Cond.code j.1 j.2.1 j.2.2.1 none :: zU := by rw [zJw, hret]
  refine zq_after (ls := ls) (ar := #[Value.ref h0]) (va_runI (As := []) (b := h0) (rest := st) (ws := zJw j) (rm := zqR j mc ms) ⟨hx, hb, hml, hown, hts⟩ (hM h0 H.size) (cwI 0 hts (zgU (fun w hw1 => ?_)) hjw rfl rfl (hts _ (hw _ (by simp))) (hts _ (hw _ (by simp))) (hts _ (hw _ (by simp))) hnm hn hR) ⟨zqPc_blind, zqPc_now C hP⟩ rfl rfl h.1 rfl ?_ hd hc) C hP hD hS h kk
  · rw [hjw] at hw1
    rcases List.mem_cons.mp hw1 with h1 | h1
    · exact hw w (by rw [h1]; simp)
    · exact h1
  · show 2 * 0 + _ ≤ 8
    omega
end ZQ
