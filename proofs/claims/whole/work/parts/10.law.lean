-- ===== the skeleton's words and end of the law =====
/-! the law: its frame, its script, its end -/
def zLM (ad : Nat → Nat) (b len : Nat) (xs : Nat → Int32) : zM := (code, 4, ret, RL, room_1, 88, 1069, fun args s => args = #[.ref b] ∧ va_X b len xs s s.heap ∧ b < s.heap.size ∧ (∀ q, zA ad q → s.heap.size ≤ q) ∧ ad zSC = b)
/-! THE CLAIM OUT OF ONE WALK OF THE LAW'S BODY. Your part is whole_start (and what it stands on); all else here is the same for every law, but numbers. -/
def R_law : String := "WonTogetherLaw"
def lw_P (b : Addr) (xs : List Int32) (args : Array Value) (s : State) : Prop := args = #[.ref b] ∧ s.IntsAt b xs ∧ xs.length ≤ 2048 ∧ (Jvm.Cond.and given_1 narrow_1).before args s = true
def lw_Q (_ : Array Value) (s : State) (o : Outcome) (t : State) : Prop := o = .returned (some (.int 1)) ∧ Framed s o t [] 600000 7302250
def lw_Z (below : List Frame) (a : Array Value) (s : State) : State → Prop := fun t => ∃ o, t.status = .running ∧ Ended t below o ∧ lw_Q a s o t
/-- the law's own end, with 1 on the stack, nothing written that was there before, its room as the claim has it -/
theorem lw_ret {p : Program} {l : Launch} {e : Env} {s : State} {m : MethodId} {below : List Frame} {meth : Method} {c : Code} {b : Nat} (hx : p.tables.exec = Jvm.exec) (hb : c.code = code) (hr : meth.sig.returnType = ret) (hlocks : meth.locks = false) {pc : Nat} {H : Heap} {ls : Array Slot} (hdg : decode code pc = .ok (.ireturn, 1)) : W p l e room_1 s m #[Value.ref b] below meth c H [] 600000 7302250 (lw_Z below #[Value.ref b] s) (F0 m pc ls [.int 1]) := by
  intro T hT X
  obtain ⟨fs, hret, hrun, hended, hW, hframe⟩ := X.leave (v := some (.int 1)) (hlocks := hlocks) (fun h => by rw [hr] at h; cases h)
  have hmeth' : T.vm.method? m = some meth := X.method'
  refine ⟨T.setFrames fs, ?_, .returned (some (.int 1)), hrun, hended, rfl, ⟨_, rfl⟩, hW, hframe⟩
  jvm_step X.here [X.here.top, hx, hb, hdg, hmeth', hr, ret, narrow_b1]
  (try refine ⟨rfl, ?_⟩); (try refine ⟨rfl, ?_⟩)
  first | (intro acts; rw [hret _ acts rfl rfl rfl]) | rw [hret _ _ rfl rfl rfl]
  exact Steps.refl _
/-- what holds at the law's entry: the machine, the code, the tables' words (any of lw_tbl by 'hts w (by decide +kernel)'), the script of L ints xs at the cell b, what the Statement gives of the start (any of its parts by flat_of_before) -/
def lw_At (p : Program) (s : State) (m : MethodId) (meth : Method) (c : Code) (b L : Nat) (xs : Nat → Int32) : Prop :=
  p.tables.exec = Jvm.exec ∧ c.code = code ∧ meth.sig.returnType = ret ∧ c.maxLocals = 4 ∧ s.vm.findClass R_law = some m.cls ∧ (∀ w ∈ lw_tbl, w.before #[Value.ref b] s = true) ∧ va_X b L xs s s.heap ∧ b < s.heap.size ∧ meth.locks = false ∧ (Jvm.Cond.and given_1 narrow_1).before #[Value.ref b] s = true

def zLZ : zZ := fun below args s => lw_Z below args s
section ZL
variable {l : Launch} {D : va_G} {ad : Nat → Nat} {cA : Nat → ClassId} {b len : Nat} {xs : Nat → Int32} {Z : zZ} {pc : Nat} {ls : List (Option Value)} {st : List Value} {σ : zS}
theorem zk_sld {i : Int32} (ho : zin i len = true) (hd : decode cL_law pc = .ok (.iaload, 1)) (kk : zOk l D ad cA (zLM ad b len xs) Z (pc + 1) ls (.int (xs i.toNatClampNeg) :: st) σ) : zOk l D ad cA (zLM ad b len xs) Z pc ls (.int i :: .ref 201 :: st) σ := by
  intro p e s m args below meth c H locs lsA C hP hS h
  obtain ⟨-, hX, hbl, hA, hsc⟩ := C.2.2.2.2.2.2.2.2.2
  have key := va_sld (rest := st.map (zr ad)) (ls := lsA) C.1 C.2.1 hX hbl (fun q => Nat.lt_irrefl _ (Nat.lt_of_lt_of_le hbl (hA b q))) hS (zin_vp ho) hd (kk p e s m args below meth c H locs lsA C hP hS h)
  have e1 : zr ad (.ref 201) = .ref b := congrArg Value.ref hsc
  show W p l e _ s m args below meth c H locs _ _ _ (F0 m pc lsA (.int i :: zr ad (.ref 201) :: st.map (zr ad)))
  rw [e1]
  exact key
theorem zk_slen (hd : decode cL_law pc = .ok (.arraylength, 1)) (kk : zOk l D ad cA (zLM ad b len xs) Z (pc + 1) ls (.int (Int32.ofNat len) :: st) σ) : zOk l D ad cA (zLM ad b len xs) Z pc ls (.ref 201 :: st) σ := by
  intro p e s m args below meth c H locs lsA C hP hS h
  obtain ⟨-, hX, hbl, hA, hsc⟩ := C.2.2.2.2.2.2.2.2.2
  have key := va_slen (rest := st.map (zr ad)) (ls := lsA) C.1 C.2.1 hX hbl (fun q => Nat.lt_irrefl _ (Nat.lt_of_lt_of_le hbl (hA b q))) hS hd (kk p e s m args below meth c H locs lsA C hP hS h)
  have e1 : zr ad (.ref 201) = .ref b := congrArg Value.ref hsc
  show W p l e _ s m args below meth c H locs _ _ _ (F0 m pc lsA (zr ad (.ref 201) :: st.map (zr ad)))
  rw [e1]
  exact key
theorem zk_lawret (hd : decode cL_law pc = .ok (.ireturn, 1)) : zOk l D ad cA (zLM ad b len xs) zLZ pc ls [.int 1] σ := by
  intro p e s m args below meth c H locs lsA C hP hS h
  obtain ⟨rfl, hX, hbl, hA, hsc⟩ := C.2.2.2.2.2.2.2.2.2
  refine va_forget (fun q hq => hA _ (hS.2.2 q hq)) ?_
  refine W.widen (k := 600000) (n := 7302250) (Nat.le_of_ble_eq_true rfl) (Nat.le_of_ble_eq_true rfl) ?_
  exact lw_ret C.1 C.2.1 C.2.2.2.1 C.2.2.2.2.2.2.1 hd
end ZL
set_option maxRecDepth 100000 in
def D_L_law_B18 (xs : Nat → Int32) (len : Nat)  (rec18 : Int32 → zS → Option Unit) (a3 : Int32) (s : zS) : Option Unit :=
    if ((Int32.ofNat len) - (4 : Int32)) < a3 then (
      some ()
    ) else (
      zgd (zin a3 len = true) <|
      if ((xs a3.toNatClampNeg) &&& (63 : Int32)) = 0 then (
        zgd (zin (a3 + (1 : Int32)) len = true) <|
        (D_X8_sides s (xs (a3 + (1 : Int32)).toNatClampNeg)).bind fun p222 =>
        zgd (zin (a3 + (1 : Int32)) len = true) <|
        (D_X9_sides p222.2 (xs (a3 + (1 : Int32)).toNatClampNeg)).bind fun p231 =>
        if p222.1 = p231.1 then (
          rec18 (a3 + 4) p231.2
        ) else (
          none
        )
      ) else (
      if ((xs a3.toNatClampNeg) &&& (63 : Int32)) = 1 then (
        zgd (zin (a3 + (1 : Int32)) len = true) <|
        zgd (zin (a3 + (2 : Int32)) len = true) <|
        (D_X8_worth s (xs (a3 + (1 : Int32)).toNatClampNeg) (xs (a3 + (2 : Int32)).toNatClampNeg)).bind fun p250 =>
        zgd (zin (a3 + (1 : Int32)) len = true) <|
        zgd (zin (a3 + (2 : Int32)) len = true) <|
        (D_X9_worth p250.2 (xs (a3 + (1 : Int32)).toNatClampNeg) (xs (a3 + (2 : Int32)).toNatClampNeg)).bind fun p264 =>
        if p250.1 = p264.1 then (
          rec18 (a3 + 4) p264.2
        ) else (
          none
        )
      ) else (
      if ((xs a3.toNatClampNeg) &&& (63 : Int32)) = 2 then (
        zgd (zin (a3 + (1 : Int32)) len = true) <|
        (D_X8_dividend s (xs (a3 + (1 : Int32)).toNatClampNeg)).bind fun p278 =>
        zgd (zin (a3 + (1 : Int32)) len = true) <|
        (D_X9_dividend s (xs (a3 + (1 : Int32)).toNatClampNeg)).bind fun p287 =>
        if p278 = p287 then (
          rec18 (a3 + 4) s
        ) else (
          none
        )
      ) else (
      if ((xs a3.toNatClampNeg) &&& (63 : Int32)) = 3 then (
        zgd (zin (a3 + (1 : Int32)) len = true) <|
        zgd (zin (a3 + (2 : Int32)) len = true) <|
        (D_X8_margin s (xs (a3 + (1 : Int32)).toNatClampNeg) (xs (a3 + (2 : Int32)).toNatClampNeg)).bind fun p306 =>
        zgd (zin (a3 + (1 : Int32)) len = true) <|
        zgd (zin (a3 + (2 : Int32)) len = true) <|
        (D_X9_margin s (xs (a3 + (1 : Int32)).toNatClampNeg) (xs (a3 + (2 : Int32)).toNatClampNeg)).bind fun p320 =>
        if p306 = p320 then (
          rec18 (a3 + 4) s
        ) else (
          none
        )
      ) else (
      if ((xs a3.toNatClampNeg) &&& (63 : Int32)) = 4 then (
        zgd (zin (a3 + (1 : Int32)) len = true) <|
        zgd (zin (a3 + (2 : Int32)) len = true) <|
        (D_X8_value s (xs (a3 + (1 : Int32)).toNatClampNeg) (xs (a3 + (2 : Int32)).toNatClampNeg)).bind fun p339 =>
        zgd (zin (a3 + (1 : Int32)) len = true) <|
        zgd (zin (a3 + (2 : Int32)) len = true) <|
        (D_X9_value p339.2 (xs (a3 + (1 : Int32)).toNatClampNeg) (xs (a3 + (2 : Int32)).toNatClampNeg)).bind fun p353 =>
        if p339.1 = p353.1 then (
          rec18 (a3 + 4) p353.2
        ) else (
          none
        )
      ) else (
      if ((xs a3.toNatClampNeg) &&& (63 : Int32)) = 5 then (
        zgd (zin (a3 + (1 : Int32)) len = true) <|
        (D_X8_fails s (xs (a3 + (1 : Int32)).toNatClampNeg)).bind fun p367 =>
        zgd (zin (a3 + (1 : Int32)) len = true) <|
        (D_X9_fails s (xs (a3 + (1 : Int32)).toNatClampNeg)).bind fun p376 =>
        if p367 = p376 then (
          rec18 (a3 + 4) s
        ) else (
          none
        )
      ) else (
      if ((xs a3.toNatClampNeg) &&& (63 : Int32)) = 6 then (
        zgd (zin (a3 + (1 : Int32)) len = true) <|
        (D_X8_parting s (xs (a3 + (1 : Int32)).toNatClampNeg)).bind fun p390 =>
        zgd (zin (a3 + (1 : Int32)) len = true) <|
        (D_X9_parting s (xs (a3 + (1 : Int32)).toNatClampNeg)).bind fun p399 =>
        if p390 = p399 then (
          rec18 (a3 + 4) s
        ) else (
          none
        )
      ) else (
      if ((xs a3.toNatClampNeg) &&& (63 : Int32)) = 7 then (
        zgd (zin (a3 + (1 : Int32)) len = true) <|
        (D_X8_part s (xs (a3 + (1 : Int32)).toNatClampNeg)).bind fun p413 =>
        zgd (zin (a3 + (1 : Int32)) len = true) <|
        (D_X9_part s (xs (a3 + (1 : Int32)).toNatClampNeg)).bind fun p422 =>
        if (lg_cmp p413 p422) = 0 then (
          rec18 (a3 + 4) s
        ) else (
          none
        )
      ) else (
      if ((xs a3.toNatClampNeg) &&& (63 : Int32)) = 8 then (
        zgd (zin (a3 + (1 : Int32)) len = true) <|
        (D_X8_least s (xs (a3 + (1 : Int32)).toNatClampNeg)).bind fun p437 =>
        zgd (zin (a3 + (1 : Int32)) len = true) <|
        (D_X9_least p437.2 (xs (a3 + (1 : Int32)).toNatClampNeg)).bind fun p446 =>
        if p437.1 = p446.1 then (
          rec18 (a3 + 4) p446.2
        ) else (
          none
        )
      ) else (
      if ((xs a3.toNatClampNeg) &&& (63 : Int32)) = 9 then (
        (D_X8_core s).bind fun p455 =>
        (D_X9_core p455.2).bind fun p459 =>
        if p455.1 = p459.1 then (
          rec18 (a3 + 4) p459.2
        ) else (
          none
        )
      ) else (
      if ((xs a3.toNatClampNeg) &&& (63 : Int32)) = 10 then (
        zgd (zin (a3 + (1 : Int32)) len = true) <|
        zgd (zin (a3 + (2 : Int32)) len = true) <|
        (D_X8_end s (xs (a3 + (1 : Int32)).toNatClampNeg) (xs (a3 + (2 : Int32)).toNatClampNeg)).bind fun p478 =>
        zgd (zin (a3 + (1 : Int32)) len = true) <|
        zgd (zin (a3 + (2 : Int32)) len = true) <|
        (D_X9_end p478.2 (xs (a3 + (1 : Int32)).toNatClampNeg) (xs (a3 + (2 : Int32)).toNatClampNeg)).bind fun p492 =>
        if p478.1 = p492.1 then (
          rec18 (a3 + 4) p492.2
        ) else (
          none
        )
      ) else (
      if ((xs a3.toNatClampNeg) &&& (63 : Int32)) = 11 then (
        zgd (zin (a3 + (1 : Int32)) len = true) <|
        (D_X8_calm s (xs (a3 + (1 : Int32)).toNatClampNeg)).bind fun p506 =>
        zgd (zin (a3 + (1 : Int32)) len = true) <|
        (D_X9_calm p506.2 (xs (a3 + (1 : Int32)).toNatClampNeg)).bind fun p515 =>
        if p506.1 = p515.1 then (
          rec18 (a3 + 4) p515.2
        ) else (
          none
        )
      ) else (
      if ((xs a3.toNatClampNeg) &&& (63 : Int32)) = 12 then (
        zgd (zin (a3 + (1 : Int32)) len = true) <|
        zgd (zin (a3 + (2 : Int32)) len = true) <|
        zgd (zin (a3 + (3 : Int32)) len = true) <|
        (D_X8_give s (xs (a3 + (1 : Int32)).toNatClampNeg) (xs (a3 + (2 : Int32)).toNatClampNeg) (xs (a3 + (3 : Int32)).toNatClampNeg)).bind fun p539 =>
        zgd (zin (a3 + (1 : Int32)) len = true) <|
        zgd (zin (a3 + (2 : Int32)) len = true) <|
        zgd (zin (a3 + (3 : Int32)) len = true) <|
        (D_X9_give p539.2 (xs (a3 + (1 : Int32)).toNatClampNeg) (xs (a3 + (2 : Int32)).toNatClampNeg) (xs (a3 + (3 : Int32)).toNatClampNeg)).bind fun p558 =>
        if p539.1 = p558.1 then (
          rec18 (a3 + 4) p558.2
        ) else (
          none
        )
      ) else (
      if ((xs a3.toNatClampNeg) &&& (63 : Int32)) = 13 then (
        zgd (zin (a3 + (1 : Int32)) len = true) <|
        zgd (zin (a3 + (2 : Int32)) len = true) <|
        (D_X8_complaint s (xs (a3 + (1 : Int32)).toNatClampNeg) (xs (a3 + (2 : Int32)).toNatClampNeg)).bind fun p577 =>
        zgd (zin (a3 + (1 : Int32)) len = true) <|
        zgd (zin (a3 + (2 : Int32)) len = true) <|
        (D_X9_complaint s (xs (a3 + (1 : Int32)).toNatClampNeg) (xs (a3 + (2 : Int32)).toNatClampNeg)).bind fun p591 =>
        if p577 = p591 then (
          rec18 (a3 + 4) s
        ) else (
          none
        )
      ) else (
      if ((xs a3.toNatClampNeg) &&& (63 : Int32)) = 14 then (
        zgd (zin (a3 + (1 : Int32)) len = true) <|
        zgd (zin (a3 + (2 : Int32)) len = true) <|
        zgd (zin (a3 + (3 : Int32)) len = true) <|
        (D_X8_surplus s (xs (a3 + (1 : Int32)).toNatClampNeg) (xs (a3 + (2 : Int32)).toNatClampNeg) (xs (a3 + (3 : Int32)).toNatClampNeg)).bind fun p615 =>
        zgd (zin (a3 + (1 : Int32)) len = true) <|
        zgd (zin (a3 + (2 : Int32)) len = true) <|
        zgd (zin (a3 + (3 : Int32)) len = true) <|
        (D_X9_surplus s (xs (a3 + (1 : Int32)).toNatClampNeg) (xs (a3 + (2 : Int32)).toNatClampNeg) (xs (a3 + (3 : Int32)).toNatClampNeg)).bind fun p634 =>
        if p615 = p634 then (
          rec18 (a3 + 4) s
        ) else (
          none
        )
      ) else (
      if ((xs a3.toNatClampNeg) &&& (63 : Int32)) = 15 then (
        zgd (zin (a3 + (1 : Int32)) len = true) <|
        (D_X8_even s (xs (a3 + (1 : Int32)).toNatClampNeg)).bind fun p648 =>
        zgd (zin (a3 + (1 : Int32)) len = true) <|
        (D_X9_even s (xs (a3 + (1 : Int32)).toNatClampNeg)).bind fun p657 =>
        if p648 = p657 then (
          rec18 (a3 + 4) s
        ) else (
          none
        )
      ) else (
      if ((xs a3.toNatClampNeg) &&& (63 : Int32)) = 16 then (
        zgd (zin (a3 + (1 : Int32)) len = true) <|
        (D_X8_better s (xs (a3 + (1 : Int32)).toNatClampNeg)).bind fun p671 =>
        zgd (zin (a3 + (1 : Int32)) len = true) <|
        (D_X9_better s (xs (a3 + (1 : Int32)).toNatClampNeg)).bind fun p680 =>
        if p671 = p680 then (
          rec18 (a3 + 4) s
        ) else (
          none
        )
      ) else (
      if ((xs a3.toNatClampNeg) &&& (63 : Int32)) = 17 then (
        zgd (zin (a3 + (1 : Int32)) len = true) <|
        (D_X8_voter s (xs (a3 + (1 : Int32)).toNatClampNeg)).bind fun p694 =>
        zgd (zin (a3 + (1 : Int32)) len = true) <|
        (D_X9_voter p694.2 (xs (a3 + (1 : Int32)).toNatClampNeg)).bind fun p703 =>
        if p694.1 = p703.1 then (
          rec18 (a3 + 4) p703.2
        ) else (
          none
        )
      ) else (
      if ((xs a3.toNatClampNeg) &&& (63 : Int32)) = 18 then (
        zgd (zin (a3 + (1 : Int32)) len = true) <|
        zgd (zin (a3 + (2 : Int32)) len = true) <|
        (D_X8_weight s (xs (a3 + (1 : Int32)).toNatClampNeg) (xs (a3 + (2 : Int32)).toNatClampNeg)).bind fun p722 =>
        zgd (zin (a3 + (1 : Int32)) len = true) <|
        zgd (zin (a3 + (2 : Int32)) len = true) <|
        (D_X9_weight p722.2 (xs (a3 + (1 : Int32)).toNatClampNeg) (xs (a3 + (2 : Int32)).toNatClampNeg)).bind fun p736 =>
        if p722.1 = p736.1 then (
          rec18 (a3 + 4) p736.2
        ) else (
          none
        )
      ) else (
      if ((xs a3.toNatClampNeg) &&& (63 : Int32)) = 19 then (
        zgd (zin (a3 + (1 : Int32)) len = true) <|
        (D_X8_quota s (xs (a3 + (1 : Int32)).toNatClampNeg)).bind fun p750 =>
        zgd (zin (a3 + (1 : Int32)) len = true) <|
        (D_X9_quota p750.2 (xs (a3 + (1 : Int32)).toNatClampNeg)).bind fun p759 =>
        if p750.1 = p759.1 then (
          rec18 (a3 + 4) p759.2
        ) else (
          none
        )
      ) else (
      if ((xs a3.toNatClampNeg) &&& (63 : Int32)) = 20 then (
        zgd (zin (a3 + (1 : Int32)) len = true) <|
        (D_X8_wins s (xs (a3 + (1 : Int32)).toNatClampNeg)).bind fun p773 =>
        zgd (zin (a3 + (1 : Int32)) len = true) <|
        (D_X9_wins s (xs (a3 + (1 : Int32)).toNatClampNeg)).bind fun p782 =>
        if p773 = p782 then (
          rec18 (a3 + 4) s
        ) else (
          none
        )
      ) else (
      if ((xs a3.toNatClampNeg) &&& (63 : Int32)) = 21 then (
        zgd (zin (a3 + (1 : Int32)) len = true) <|
        (D_X8_minimal s (xs (a3 + (1 : Int32)).toNatClampNeg)).bind fun p796 =>
        zgd (zin (a3 + (1 : Int32)) len = true) <|
        (D_X9_minimal s (xs (a3 + (1 : Int32)).toNatClampNeg)).bind fun p805 =>
        if p796 = p805 then (
          rec18 (a3 + 4) s
        ) else (
          none
        )
      ) else (
      if ((xs a3.toNatClampNeg) &&& (63 : Int32)) = 22 then (
        zgd (zin (a3 + (1 : Int32)) len = true) <|
        zgd (zin (a3 + (2 : Int32)) len = true) <|
        (D_X8_power s (xs (a3 + (1 : Int32)).toNatClampNeg) (xs (a3 + (2 : Int32)).toNatClampNeg)).bind fun p824 =>
        zgd (zin (a3 + (1 : Int32)) len = true) <|
        zgd (zin (a3 + (2 : Int32)) len = true) <|
        (D_X9_power s (xs (a3 + (1 : Int32)).toNatClampNeg) (xs (a3 + (2 : Int32)).toNatClampNeg)).bind fun p838 =>
        if p824 = p838 then (
          rec18 (a3 + 4) s
        ) else (
          none
        )
      ) else (
      if ((xs a3.toNatClampNeg) &&& (63 : Int32)) = 23 then (
        zgd (zin (a3 + (1 : Int32)) len = true) <|
        (D_X8_deegan s (xs (a3 + (1 : Int32)).toNatClampNeg)).bind fun p852 =>
        zgd (zin (a3 + (1 : Int32)) len = true) <|
        (D_X9_deegan p852.2 (xs (a3 + (1 : Int32)).toNatClampNeg)).bind fun p861 =>
        if p852.1 = p861.1 then (
          rec18 (a3 + 4) p861.2
        ) else (
          none
        )
      ) else (
      if ((xs a3.toNatClampNeg) &&& (63 : Int32)) = 24 then (
        zgd (zin (a3 + (1 : Int32)) len = true) <|
        (D_X8_same s (xs (a3 + (1 : Int32)).toNatClampNeg)).bind fun p875 =>
        zgd (zin (a3 + (1 : Int32)) len = true) <|
        (D_X9_same p875.2 (xs (a3 + (1 : Int32)).toNatClampNeg)).bind fun p884 =>
        if p875.1 = p884.1 then (
          rec18 (a3 + 4) p884.2
        ) else (
          none
        )
      ) else (
      if ((xs a3.toNatClampNeg) &&& (63 : Int32)) = 25 then (
        zgd (zin (a3 + (1 : Int32)) len = true) <|
        (D_X8_claim s (xs (a3 + (1 : Int32)).toNatClampNeg)).bind fun p898 =>
        zgd (zin (a3 + (1 : Int32)) len = true) <|
        (D_X9_claim p898.2 (xs (a3 + (1 : Int32)).toNatClampNeg)).bind fun p907 =>
        if p898.1 = p907.1 then (
          rec18 (a3 + 4) p907.2
        ) else (
          none
        )
      ) else (
      if ((xs a3.toNatClampNeg) &&& (63 : Int32)) = 26 then (
        zgd (zin (a3 + (1 : Int32)) len = true) <|
        (D_X8_estate s (xs (a3 + (1 : Int32)).toNatClampNeg)).bind fun p921 =>
        zgd (zin (a3 + (1 : Int32)) len = true) <|
        (D_X9_estate p921.2 (xs (a3 + (1 : Int32)).toNatClampNeg)).bind fun p930 =>
        if p921.1 = p930.1 then (
          rec18 (a3 + 4) p930.2
        ) else (
          none
        )
      ) else (
      if ((xs a3.toNatClampNeg) &&& (63 : Int32)) = 27 then (
        zgd (zin (a3 + (1 : Int32)) len = true) <|
        zgd (zin (a3 + (2 : Int32)) len = true) <|
        (D_X8_award s (xs (a3 + (1 : Int32)).toNatClampNeg) (xs (a3 + (2 : Int32)).toNatClampNeg)).bind fun p949 =>
        zgd (zin (a3 + (1 : Int32)) len = true) <|
        zgd (zin (a3 + (2 : Int32)) len = true) <|
        (D_X9_award p949.2 (xs (a3 + (1 : Int32)).toNatClampNeg) (xs (a3 + (2 : Int32)).toNatClampNeg)).bind fun p963 =>
        if p949.1 = p963.1 then (
          rec18 (a3 + 4) p963.2
        ) else (
          none
        )
      ) else (
      if ((xs a3.toNatClampNeg) &&& (63 : Int32)) = 28 then (
        zgd (zin (a3 + (1 : Int32)) len = true) <|
        zgd (zin (a3 + (2 : Int32)) len = true) <|
        (D_X8_place s (xs (a3 + (1 : Int32)).toNatClampNeg) (xs (a3 + (2 : Int32)).toNatClampNeg)).bind fun p982 =>
        zgd (zin (a3 + (1 : Int32)) len = true) <|
        zgd (zin (a3 + (2 : Int32)) len = true) <|
        (D_X9_place p982.2 (xs (a3 + (1 : Int32)).toNatClampNeg) (xs (a3 + (2 : Int32)).toNatClampNeg)).bind fun p996 =>
        if p982.1 = p996.1 then (
          rec18 (a3 + 4) p996.2
        ) else (
          none
        )
      ) else (
      if ((xs a3.toNatClampNeg) &&& (63 : Int32)) = 29 then (
        zgd (zin (a3 + (1 : Int32)) len = true) <|
        (D_X8_user s (xs (a3 + (1 : Int32)).toNatClampNeg)).bind fun p1010 =>
        zgd (zin (a3 + (1 : Int32)) len = true) <|
        (D_X9_user p1010.2 (xs (a3 + (1 : Int32)).toNatClampNeg)).bind fun p1019 =>
        if p1010.1 = p1019.1 then (
          rec18 (a3 + 4) p1019.2
        ) else (
          none
        )
      ) else (
      if ((xs a3.toNatClampNeg) &&& (63 : Int32)) = 30 then (
        zgd (zin (a3 + (1 : Int32)) len = true) <|
        (D_X8_alone s (xs (a3 + (1 : Int32)).toNatClampNeg)).bind fun p1033 =>
        zgd (zin (a3 + (1 : Int32)) len = true) <|
        (D_X9_alone s (xs (a3 + (1 : Int32)).toNatClampNeg)).bind fun p1042 =>
        if p1033 = p1042 then (
          rec18 (a3 + 4) s
        ) else (
          none
        )
      ) else (
      if ((xs a3.toNatClampNeg) &&& (63 : Int32)) = 31 then (
        zgd (zin (a3 + (1 : Int32)) len = true) <|
        (D_X8_paid s (xs (a3 + (1 : Int32)).toNatClampNeg)).bind fun p1056 =>
        zgd (zin (a3 + (1 : Int32)) len = true) <|
        (D_X9_paid p1056.2 (xs (a3 + (1 : Int32)).toNatClampNeg)).bind fun p1065 =>
        if p1056.1 = p1065.1 then (
          rec18 (a3 + 4) p1065.2
        ) else (
          none
        )
      ) else (
      if ((xs a3.toNatClampNeg) &&& (63 : Int32)) = 32 then (
        zgd (zin (a3 + (1 : Int32)) len = true) <|
        zgd (zin (a3 + (2 : Int32)) len = true) <|
        (D_X8_pay s (xs (a3 + (1 : Int32)).toNatClampNeg) (xs (a3 + (2 : Int32)).toNatClampNeg)).bind fun p1084 =>
        zgd (zin (a3 + (1 : Int32)) len = true) <|
        zgd (zin (a3 + (2 : Int32)) len = true) <|
        (D_X9_pay p1084.2 (xs (a3 + (1 : Int32)).toNatClampNeg) (xs (a3 + (2 : Int32)).toNatClampNeg)).bind fun p1098 =>
        if p1084.1 = p1098.1 then (
          rec18 (a3 + 4) p1098.2
        ) else (
          none
        )
      ) else (
      if ((xs a3.toNatClampNeg) &&& (63 : Int32)) = 33 then (
        (D_X8_held s).bind fun p1107 =>
        (D_X9_held s).bind fun p1111 =>
        if p1107 = p1111 then (
          rec18 (a3 + 4) s
        ) else (
          none
        )
      ) else (
      if ((xs a3.toNatClampNeg) &&& (63 : Int32)) = 34 then (
        zgd (zin (a3 + (1 : Int32)) len = true) <|
        zgd (zin (a3 + (2 : Int32)) len = true) <|
        (D_X8_market s (xs (a3 + (1 : Int32)).toNatClampNeg) (xs (a3 + (2 : Int32)).toNatClampNeg)).bind fun p1130 =>
        zgd (zin (a3 + (1 : Int32)) len = true) <|
        zgd (zin (a3 + (2 : Int32)) len = true) <|
        (D_X9_market p1130.2 (xs (a3 + (1 : Int32)).toNatClampNeg) (xs (a3 + (2 : Int32)).toNatClampNeg)).bind fun p1144 =>
        if p1130.1 = p1144.1 then (
          rec18 (a3 + 4) p1144.2
        ) else (
          none
        )
      ) else (
      if ((xs a3.toNatClampNeg) &&& (63 : Int32)) = 35 then (
        zgd (zin (a3 + (1 : Int32)) len = true) <|
        zgd (zin (a3 + (2 : Int32)) len = true) <|
        zgd (zin (a3 + (3 : Int32)) len = true) <|
        (D_X8_gain s (xs (a3 + (1 : Int32)).toNatClampNeg) (xs (a3 + (2 : Int32)).toNatClampNeg) (xs (a3 + (3 : Int32)).toNatClampNeg)).bind fun p1168 =>
        zgd (zin (a3 + (1 : Int32)) len = true) <|
        zgd (zin (a3 + (2 : Int32)) len = true) <|
        zgd (zin (a3 + (3 : Int32)) len = true) <|
        (D_X9_gain p1168.2 (xs (a3 + (1 : Int32)).toNatClampNeg) (xs (a3 + (2 : Int32)).toNatClampNeg) (xs (a3 + (3 : Int32)).toNatClampNeg)).bind fun p1187 =>
        if p1168.1 = p1187.1 then (
          rec18 (a3 + 4) p1187.2
        ) else (
          none
        )
      ) else (
      if ((xs a3.toNatClampNeg) &&& (63 : Int32)) = 36 then (
        zgd (zin (a3 + (1 : Int32)) len = true) <|
        (D_X8_most s (xs (a3 + (1 : Int32)).toNatClampNeg)).bind fun p1201 =>
        zgd (zin (a3 + (1 : Int32)) len = true) <|
        (D_X9_most p1201.2 (xs (a3 + (1 : Int32)).toNatClampNeg)).bind fun p1210 =>
        if p1201.1 = p1210.1 then (
          rec18 (a3 + 4) p1210.2
        ) else (
          none
        )
      ) else (
      if ((xs a3.toNatClampNeg) &&& (63 : Int32)) = 37 then (
        zgd (zin (a3 + (1 : Int32)) len = true) <|
        zgd (zin (a3 + (2 : Int32)) len = true) <|
        (D_X8_price s (xs (a3 + (1 : Int32)).toNatClampNeg) (xs (a3 + (2 : Int32)).toNatClampNeg)).bind fun p1229 =>
        zgd (zin (a3 + (1 : Int32)) len = true) <|
        zgd (zin (a3 + (2 : Int32)) len = true) <|
        (D_X9_price p1229.2 (xs (a3 + (1 : Int32)).toNatClampNeg) (xs (a3 + (2 : Int32)).toNatClampNeg)).bind fun p1243 =>
        if p1229.1 = p1243.1 then (
          rec18 (a3 + 4) p1243.2
        ) else (
          none
        )
      ) else (
      if ((xs a3.toNatClampNeg) &&& (63 : Int32)) = 38 then (
        zgd (zin (a3 + (1 : Int32)) len = true) <|
        zgd (zin (a3 + (2 : Int32)) len = true) <|
        (D_X8_tell s (xs (a3 + (1 : Int32)).toNatClampNeg) (xs (a3 + (2 : Int32)).toNatClampNeg)).bind fun p1262 =>
        zgd (zin (a3 + (1 : Int32)) len = true) <|
        zgd (zin (a3 + (2 : Int32)) len = true) <|
        (D_X9_tell p1262.2 (xs (a3 + (1 : Int32)).toNatClampNeg) (xs (a3 + (2 : Int32)).toNatClampNeg)).bind fun p1276 =>
        if p1262.1 = p1276.1 then (
          rec18 (a3 + 4) p1276.2
        ) else (
          none
        )
      ) else (
      if ((xs a3.toNatClampNeg) &&& (63 : Int32)) = 39 then (
        (D_X8_clear s).bind fun p1285 =>
        (D_X9_clear p1285.2).bind fun p1289 =>
        if p1285.1 = p1289.1 then (
          rec18 (a3 + 4) p1289.2
        ) else (
          none
        )
      ) else (
      if ((xs a3.toNatClampNeg) &&& (63 : Int32)) = 40 then (
        zgd (zin (a3 + (1 : Int32)) len = true) <|
        (D_X8_count s (xs (a3 + (1 : Int32)).toNatClampNeg)).bind fun p1303 =>
        zgd (zin (a3 + (1 : Int32)) len = true) <|
        (D_X9_count s (xs (a3 + (1 : Int32)).toNatClampNeg)).bind fun p1312 =>
        if p1303 = p1312 then (
          rec18 (a3 + 4) s
        ) else (
          none
        )
      ) else (
      if ((xs a3.toNatClampNeg) &&& (63 : Int32)) = 41 then (
        (D_X8_digest s).bind fun p1321 =>
        (D_X9_digest s).bind fun p1325 =>
        if (lg_cmp p1321 p1325.1) = 0 then (
          rec18 (a3 + 4) p1325.2
        ) else (
          none
        )
      ) else (
      rec18 (a3 + 4) s
      ))))))))))))))))))))))))))))))))))))))))))
    )
set_option maxRecDepth 100000 in
def D_L_law_L18 (xs : Nat → Int32) (len : Nat) (n : Nat) (a3 : Int32) (s : zS) : Option Unit := zfx (fun (rec : Int32 × zS → Option Unit) q => D_L_law_B18 xs len (fun v0 v1 => rec (v0, v1)) q.1 q.2) n (a3, s)
set_option maxRecDepth 100000 in
set_option maxHeartbeats 8000000 in
theorem D_L_law_L18_s (xs : Nat → Int32) (len : Nat) (n : Nat) (a3 : Int32) (s : zS) : D_L_law_L18 xs len (n + 1) a3 s = D_L_law_B18 xs len (D_L_law_L18 xs len n) a3 s := rfl
set_option maxRecDepth 100000 in
set_option maxHeartbeats 8000000 in
theorem ok_L_law_L18 {l : Launch} {D : va_G} {ad : Nat → Nat} {cA : Nat → ClassId} (hj : zInj ad) {b len : Nat} {xs : Nat → Int32} (r : Unit)  : ∀ (n : Nat) (a3 : Int32) (s : zS), D_L_law_L18 xs len n a3 s = some r → zOk l D ad cA (zLM ad b len xs) zLZ 18 [some (.ref 201), some (.ref 0), some (.ref 66), some (.int a3)] [] s := by
  intro n
  induction n with
  | zero =>
    intro a3 s h
    have h0 : (none : Option Unit) = some r := h
    cases h0
  | succ n hr18 =>
    intro a3 s h
    have h : D_L_law_B18 xs len (D_L_law_L18 xs len n) a3 s = some r := h
    unfold D_L_law_B18 at h
    refine zk_iload_n dL_law_18 rfl rfl ?_
    refine zk_aload_n dL_law_19 rfl rfl ?_
    refine zk_slen dL_law_20 ?_
    refine zk_iconst (v := 4) dL_law_21 (by decide) ?_
    refine zk_isub dL_law_22 ?_
    refine zk_icmp_gt (tgt := 1340) dL_law_23 rfl (fun g23 => ?_) (fun g23 => ?_)
    · replace h := zpos g23 h
      refine zk_iconst (v := 1) dL_law_1340 (by decide) ?_
      exact zk_lawret dL_law_1341
    · replace h := zneg g23 h
      refine zk_aload_n dL_law_26 rfl rfl ?_
      refine zk_iload_n dL_law_27 rfl rfl ?_
      obtain ⟨g28, h⟩ := zguard h
      refine zk_sld g28 dL_law_28 ?_
      refine zk_bipush (v := 63) dL_law_29 (by decide) ?_
      refine zk_iand dL_law_31 ?_
      by_cases g32_0 : ((xs a3.toNatClampNeg) &&& (63 : Int32)) = 0
      · replace h := zpos g32_0 h
        refine zk_tableIn (tgt := 216) (off := 184) dL_law_32 (by rw [g32_0]; decide) (by rw [g32_0]; decide) (by rw [g32_0]; rfl) rfl ?_
        refine zk_aload_n dL_law_216 rfl rfl ?_
        refine zk_aload_n dL_law_217 rfl rfl ?_
        refine zk_iload_n dL_law_218 rfl rfl ?_
        refine zk_iconst (v := 1) dL_law_219 (by decide) ?_
        refine zk_iadd dL_law_220 ?_
        obtain ⟨g221, h⟩ := zguard h
        refine zk_sld g221 dL_law_221 ?_
        obtain ⟨p222, h222, h⟩ := zbind h
        refine zc_L_13 [] (As := [.int _]) (ok_X8_sides hj _ _ h222) rfl ⟨Nat.le_of_ble_eq_true rfl, Nat.le_of_ble_eq_true rfl⟩ ⟨Nat.le_of_ble_eq_true rfl, Nat.le_of_ble_eq_true rfl⟩ rfl rfl (Nat.le_of_ble_eq_true rfl) dL_law_222 ?_
        refine zk_aload_n dL_law_225 rfl rfl ?_
        refine zk_aload_n dL_law_226 rfl rfl ?_
        refine zk_iload_n dL_law_227 rfl rfl ?_
        refine zk_iconst (v := 1) dL_law_228 (by decide) ?_
        refine zk_iadd dL_law_229 ?_
        obtain ⟨g230, h⟩ := zguard h
        refine zk_sld g230 dL_law_230 ?_
        obtain ⟨p231, h231, h⟩ := zbind h
        refine zc_L_17 [.int _] (As := [.int _]) (ok_X9_sides hj _ _ h231) rfl ⟨Nat.le_of_ble_eq_true rfl, Nat.le_of_ble_eq_true rfl⟩ ⟨Nat.le_of_ble_eq_true rfl, Nat.le_of_ble_eq_true rfl⟩ rfl rfl (Nat.le_of_ble_eq_true rfl) dL_law_231 ?_
        refine zk_icmp_eq (tgt := 1334) dL_law_234 rfl (fun g234 => ?_) (fun g234 => ?_)
        · replace h := zpos g234 h
          refine zk_iinc dL_law_1334 rfl (zinc (m := 4) (by decide)) (Nat.le_of_ble_eq_true rfl) (zk_eq [_, _, _, _] rfl ?_)
          refine zk_goto (tgt := 18) dL_law_1337 rfl ?_
          exact hr18 _ _ h
        · replace h := zneg g234 h
          refine zk_iconst (v := 0) dL_law_237 (by decide) ?_
          have h0 : (none : Option Unit) = some r := h
          cases h0
      replace h := zneg g32_0 h
      by_cases g32_1 : ((xs a3.toNatClampNeg) &&& (63 : Int32)) = 1
      · replace h := zpos g32_1 h
        refine zk_tableIn (tgt := 239) (off := 207) dL_law_32 (by rw [g32_1]; decide) (by rw [g32_1]; decide) (by rw [g32_1]; rfl) rfl ?_
        refine zk_aload_n dL_law_239 rfl rfl ?_
        refine zk_aload_n dL_law_240 rfl rfl ?_
        refine zk_iload_n dL_law_241 rfl rfl ?_
        refine zk_iconst (v := 1) dL_law_242 (by decide) ?_
        refine zk_iadd dL_law_243 ?_
        obtain ⟨g244, h⟩ := zguard h
        refine zk_sld g244 dL_law_244 ?_
        refine zk_aload_n dL_law_245 rfl rfl ?_
        refine zk_iload_n dL_law_246 rfl rfl ?_
        refine zk_iconst (v := 2) dL_law_247 (by decide) ?_
        refine zk_iadd dL_law_248 ?_
        obtain ⟨g249, h⟩ := zguard h
        refine zk_sld g249 dL_law_249 ?_
        obtain ⟨p250, h250, h⟩ := zbind h
        refine zc_L_18 [] (As := [.int _, .int _]) (ok_X8_worth hj _ _ _ h250) rfl ⟨Nat.le_of_ble_eq_true rfl, Nat.le_of_ble_eq_true rfl⟩ ⟨Nat.le_of_ble_eq_true rfl, Nat.le_of_ble_eq_true rfl⟩ rfl rfl (Nat.le_of_ble_eq_true rfl) dL_law_250 ?_
        refine zk_aload_n dL_law_253 rfl rfl ?_
        refine zk_aload_n dL_law_254 rfl rfl ?_
        refine zk_iload_n dL_law_255 rfl rfl ?_
        refine zk_iconst (v := 1) dL_law_256 (by decide) ?_
        refine zk_iadd dL_law_257 ?_
        obtain ⟨g258, h⟩ := zguard h
        refine zk_sld g258 dL_law_258 ?_
        refine zk_aload_n dL_law_259 rfl rfl ?_
        refine zk_iload_n dL_law_260 rfl rfl ?_
        refine zk_iconst (v := 2) dL_law_261 (by decide) ?_
        refine zk_iadd dL_law_262 ?_
        obtain ⟨g263, h⟩ := zguard h
        refine zk_sld g263 dL_law_263 ?_
        obtain ⟨p264, h264, h⟩ := zbind h
        refine zc_L_22 [.int _] (As := [.int _, .int _]) (ok_X9_worth hj _ _ _ h264) rfl ⟨Nat.le_of_ble_eq_true rfl, Nat.le_of_ble_eq_true rfl⟩ ⟨Nat.le_of_ble_eq_true rfl, Nat.le_of_ble_eq_true rfl⟩ rfl rfl (Nat.le_of_ble_eq_true rfl) dL_law_264 ?_
        refine zk_icmp_eq (tgt := 1334) dL_law_267 rfl (fun g267 => ?_) (fun g267 => ?_)
        · replace h := zpos g267 h
          refine zk_iinc dL_law_1334 rfl (zinc (m := 4) (by decide)) (Nat.le_of_ble_eq_true rfl) (zk_eq [_, _, _, _] rfl ?_)
          refine zk_goto (tgt := 18) dL_law_1337 rfl ?_
          exact hr18 _ _ h
        · replace h := zneg g267 h
          refine zk_iconst (v := 0) dL_law_270 (by decide) ?_
          have h0 : (none : Option Unit) = some r := h
          cases h0
      replace h := zneg g32_1 h
      by_cases g32_2 : ((xs a3.toNatClampNeg) &&& (63 : Int32)) = 2
      · replace h := zpos g32_2 h
        refine zk_tableIn (tgt := 272) (off := 240) dL_law_32 (by rw [g32_2]; decide) (by rw [g32_2]; decide) (by rw [g32_2]; rfl) rfl ?_
        refine zk_aload_n dL_law_272 rfl rfl ?_
        refine zk_aload_n dL_law_273 rfl rfl ?_
        refine zk_iload_n dL_law_274 rfl rfl ?_
        refine zk_iconst (v := 1) dL_law_275 (by decide) ?_
        refine zk_iadd dL_law_276 ?_
        obtain ⟨g277, h⟩ := zguard h
        refine zk_sld g277 dL_law_277 ?_
        obtain ⟨p278, h278, h⟩ := zbind h
        refine zc_L_23 [] (As := [.int _]) (ok_X8_dividend hj _ _ h278) rfl ⟨Nat.le_of_ble_eq_true rfl, Nat.le_of_ble_eq_true rfl⟩ ⟨Nat.le_of_ble_eq_true rfl, Nat.le_of_ble_eq_true rfl⟩ rfl rfl (Nat.le_of_ble_eq_true rfl) dL_law_278 ?_
        refine zk_aload_n dL_law_281 rfl rfl ?_
        refine zk_aload_n dL_law_282 rfl rfl ?_
        refine zk_iload_n dL_law_283 rfl rfl ?_
        refine zk_iconst (v := 1) dL_law_284 (by decide) ?_
        refine zk_iadd dL_law_285 ?_
        obtain ⟨g286, h⟩ := zguard h
        refine zk_sld g286 dL_law_286 ?_
        obtain ⟨p287, h287, h⟩ := zbind h
        refine zc_L_26 [.int _] (As := [.int _]) (ok_X9_dividend hj _ _ h287) rfl ⟨Nat.le_of_ble_eq_true rfl, Nat.le_of_ble_eq_true rfl⟩ ⟨Nat.le_of_ble_eq_true rfl, Nat.le_of_ble_eq_true rfl⟩ rfl rfl (Nat.le_of_ble_eq_true rfl) dL_law_287 ?_
        refine zk_icmp_eq (tgt := 1334) dL_law_290 rfl (fun g290 => ?_) (fun g290 => ?_)
        · replace h := zpos g290 h
          refine zk_iinc dL_law_1334 rfl (zinc (m := 4) (by decide)) (Nat.le_of_ble_eq_true rfl) (zk_eq [_, _, _, _] rfl ?_)
          refine zk_goto (tgt := 18) dL_law_1337 rfl ?_
          exact hr18 _ _ h
        · replace h := zneg g290 h
          refine zk_iconst (v := 0) dL_law_293 (by decide) ?_
          have h0 : (none : Option Unit) = some r := h
          cases h0
      replace h := zneg g32_2 h
      by_cases g32_3 : ((xs a3.toNatClampNeg) &&& (63 : Int32)) = 3
      · replace h := zpos g32_3 h
        refine zk_tableIn (tgt := 295) (off := 263) dL_law_32 (by rw [g32_3]; decide) (by rw [g32_3]; decide) (by rw [g32_3]; rfl) rfl ?_
        refine zk_aload_n dL_law_295 rfl rfl ?_
        refine zk_aload_n dL_law_296 rfl rfl ?_
        refine zk_iload_n dL_law_297 rfl rfl ?_
        refine zk_iconst (v := 1) dL_law_298 (by decide) ?_
        refine zk_iadd dL_law_299 ?_
        obtain ⟨g300, h⟩ := zguard h
        refine zk_sld g300 dL_law_300 ?_
        refine zk_aload_n dL_law_301 rfl rfl ?_
        refine zk_iload_n dL_law_302 rfl rfl ?_
        refine zk_iconst (v := 2) dL_law_303 (by decide) ?_
        refine zk_iadd dL_law_304 ?_
        obtain ⟨g305, h⟩ := zguard h
        refine zk_sld g305 dL_law_305 ?_
        obtain ⟨p306, h306, h⟩ := zbind h
        refine zc_L_27 [] (As := [.int _, .int _]) (ok_X8_margin hj _ _ _ h306) rfl ⟨Nat.le_of_ble_eq_true rfl, Nat.le_of_ble_eq_true rfl⟩ ⟨Nat.le_of_ble_eq_true rfl, Nat.le_of_ble_eq_true rfl⟩ rfl rfl (Nat.le_of_ble_eq_true rfl) dL_law_306 ?_
        refine zk_aload_n dL_law_309 rfl rfl ?_
        refine zk_aload_n dL_law_310 rfl rfl ?_
        refine zk_iload_n dL_law_311 rfl rfl ?_
        refine zk_iconst (v := 1) dL_law_312 (by decide) ?_
        refine zk_iadd dL_law_313 ?_
        obtain ⟨g314, h⟩ := zguard h
        refine zk_sld g314 dL_law_314 ?_
        refine zk_aload_n dL_law_315 rfl rfl ?_
        refine zk_iload_n dL_law_316 rfl rfl ?_
        refine zk_iconst (v := 2) dL_law_317 (by decide) ?_
        refine zk_iadd dL_law_318 ?_
        obtain ⟨g319, h⟩ := zguard h
        refine zk_sld g319 dL_law_319 ?_
        obtain ⟨p320, h320, h⟩ := zbind h
        refine zc_L_30 [.int _] (As := [.int _, .int _]) (ok_X9_margin hj _ _ _ h320) rfl ⟨Nat.le_of_ble_eq_true rfl, Nat.le_of_ble_eq_true rfl⟩ ⟨Nat.le_of_ble_eq_true rfl, Nat.le_of_ble_eq_true rfl⟩ rfl rfl (Nat.le_of_ble_eq_true rfl) dL_law_320 ?_
        refine zk_icmp_eq (tgt := 1334) dL_law_323 rfl (fun g323 => ?_) (fun g323 => ?_)
        · replace h := zpos g323 h
          refine zk_iinc dL_law_1334 rfl (zinc (m := 4) (by decide)) (Nat.le_of_ble_eq_true rfl) (zk_eq [_, _, _, _] rfl ?_)
          refine zk_goto (tgt := 18) dL_law_1337 rfl ?_
          exact hr18 _ _ h
        · replace h := zneg g323 h
          refine zk_iconst (v := 0) dL_law_326 (by decide) ?_
          have h0 : (none : Option Unit) = some r := h
          cases h0
      replace h := zneg g32_3 h
      by_cases g32_4 : ((xs a3.toNatClampNeg) &&& (63 : Int32)) = 4
      · replace h := zpos g32_4 h
        refine zk_tableIn (tgt := 328) (off := 296) dL_law_32 (by rw [g32_4]; decide) (by rw [g32_4]; decide) (by rw [g32_4]; rfl) rfl ?_
        refine zk_aload_n dL_law_328 rfl rfl ?_
        refine zk_aload_n dL_law_329 rfl rfl ?_
        refine zk_iload_n dL_law_330 rfl rfl ?_
        refine zk_iconst (v := 1) dL_law_331 (by decide) ?_
        refine zk_iadd dL_law_332 ?_
        obtain ⟨g333, h⟩ := zguard h
        refine zk_sld g333 dL_law_333 ?_
        refine zk_aload_n dL_law_334 rfl rfl ?_
        refine zk_iload_n dL_law_335 rfl rfl ?_
        refine zk_iconst (v := 2) dL_law_336 (by decide) ?_
        refine zk_iadd dL_law_337 ?_
        obtain ⟨g338, h⟩ := zguard h
        refine zk_sld g338 dL_law_338 ?_
        obtain ⟨p339, h339, h⟩ := zbind h
        refine zc_L_31 [] (As := [.int _, .int _]) (ok_X8_value hj _ _ _ h339) rfl ⟨Nat.le_of_ble_eq_true rfl, Nat.le_of_ble_eq_true rfl⟩ ⟨Nat.le_of_ble_eq_true rfl, Nat.le_of_ble_eq_true rfl⟩ rfl rfl (Nat.le_of_ble_eq_true rfl) dL_law_339 ?_
        refine zk_aload_n dL_law_342 rfl rfl ?_
        refine zk_aload_n dL_law_343 rfl rfl ?_
        refine zk_iload_n dL_law_344 rfl rfl ?_
        refine zk_iconst (v := 1) dL_law_345 (by decide) ?_
        refine zk_iadd dL_law_346 ?_
        obtain ⟨g347, h⟩ := zguard h
        refine zk_sld g347 dL_law_347 ?_
        refine zk_aload_n dL_law_348 rfl rfl ?_
        refine zk_iload_n dL_law_349 rfl rfl ?_
        refine zk_iconst (v := 2) dL_law_350 (by decide) ?_
        refine zk_iadd dL_law_351 ?_
        obtain ⟨g352, h⟩ := zguard h
        refine zk_sld g352 dL_law_352 ?_
        obtain ⟨p353, h353, h⟩ := zbind h
        refine zc_L_34 [.int _] (As := [.int _, .int _]) (ok_X9_value hj _ _ _ h353) rfl ⟨Nat.le_of_ble_eq_true rfl, Nat.le_of_ble_eq_true rfl⟩ ⟨Nat.le_of_ble_eq_true rfl, Nat.le_of_ble_eq_true rfl⟩ rfl rfl (Nat.le_of_ble_eq_true rfl) dL_law_353 ?_
        refine zk_icmp_eq (tgt := 1334) dL_law_356 rfl (fun g356 => ?_) (fun g356 => ?_)
        · replace h := zpos g356 h
          refine zk_iinc dL_law_1334 rfl (zinc (m := 4) (by decide)) (Nat.le_of_ble_eq_true rfl) (zk_eq [_, _, _, _] rfl ?_)
          refine zk_goto (tgt := 18) dL_law_1337 rfl ?_
          exact hr18 _ _ h
        · replace h := zneg g356 h
          refine zk_iconst (v := 0) dL_law_359 (by decide) ?_
          have h0 : (none : Option Unit) = some r := h
          cases h0
      replace h := zneg g32_4 h
      by_cases g32_5 : ((xs a3.toNatClampNeg) &&& (63 : Int32)) = 5
      · replace h := zpos g32_5 h
        refine zk_tableIn (tgt := 361) (off := 329) dL_law_32 (by rw [g32_5]; decide) (by rw [g32_5]; decide) (by rw [g32_5]; rfl) rfl ?_
        refine zk_aload_n dL_law_361 rfl rfl ?_
        refine zk_aload_n dL_law_362 rfl rfl ?_
        refine zk_iload_n dL_law_363 rfl rfl ?_
        refine zk_iconst (v := 1) dL_law_364 (by decide) ?_
        refine zk_iadd dL_law_365 ?_
        obtain ⟨g366, h⟩ := zguard h
        refine zk_sld g366 dL_law_366 ?_
        obtain ⟨p367, h367, h⟩ := zbind h
        refine zc_L_35 [] (As := [.int _]) (ok_X8_fails hj _ _ h367) rfl ⟨Nat.le_of_ble_eq_true rfl, Nat.le_of_ble_eq_true rfl⟩ ⟨Nat.le_of_ble_eq_true rfl, Nat.le_of_ble_eq_true rfl⟩ rfl rfl (Nat.le_of_ble_eq_true rfl) dL_law_367 ?_
        refine zk_aload_n dL_law_370 rfl rfl ?_
        refine zk_aload_n dL_law_371 rfl rfl ?_
        refine zk_iload_n dL_law_372 rfl rfl ?_
        refine zk_iconst (v := 1) dL_law_373 (by decide) ?_
        refine zk_iadd dL_law_374 ?_
        obtain ⟨g375, h⟩ := zguard h
        refine zk_sld g375 dL_law_375 ?_
        obtain ⟨p376, h376, h⟩ := zbind h
        refine zc_L_38 [.int _] (As := [.int _]) (ok_X9_fails hj _ _ h376) rfl ⟨Nat.le_of_ble_eq_true rfl, Nat.le_of_ble_eq_true rfl⟩ ⟨Nat.le_of_ble_eq_true rfl, Nat.le_of_ble_eq_true rfl⟩ rfl rfl (Nat.le_of_ble_eq_true rfl) dL_law_376 ?_
        refine zk_icmp_eq (tgt := 1334) dL_law_379 rfl (fun g379 => ?_) (fun g379 => ?_)
        · replace h := zpos g379 h
          refine zk_iinc dL_law_1334 rfl (zinc (m := 4) (by decide)) (Nat.le_of_ble_eq_true rfl) (zk_eq [_, _, _, _] rfl ?_)
          refine zk_goto (tgt := 18) dL_law_1337 rfl ?_
          exact hr18 _ _ h
        · replace h := zneg g379 h
          refine zk_iconst (v := 0) dL_law_382 (by decide) ?_
          have h0 : (none : Option Unit) = some r := h
          cases h0
      replace h := zneg g32_5 h
      by_cases g32_6 : ((xs a3.toNatClampNeg) &&& (63 : Int32)) = 6
      · replace h := zpos g32_6 h
        refine zk_tableIn (tgt := 384) (off := 352) dL_law_32 (by rw [g32_6]; decide) (by rw [g32_6]; decide) (by rw [g32_6]; rfl) rfl ?_
        refine zk_aload_n dL_law_384 rfl rfl ?_
        refine zk_aload_n dL_law_385 rfl rfl ?_
        refine zk_iload_n dL_law_386 rfl rfl ?_
        refine zk_iconst (v := 1) dL_law_387 (by decide) ?_
        refine zk_iadd dL_law_388 ?_
        obtain ⟨g389, h⟩ := zguard h
        refine zk_sld g389 dL_law_389 ?_
        obtain ⟨p390, h390, h⟩ := zbind h
        refine zc_L_39 [] (As := [.int _]) (ok_X8_parting hj _ _ h390) rfl ⟨Nat.le_of_ble_eq_true rfl, Nat.le_of_ble_eq_true rfl⟩ ⟨Nat.le_of_ble_eq_true rfl, Nat.le_of_ble_eq_true rfl⟩ rfl rfl (Nat.le_of_ble_eq_true rfl) dL_law_390 ?_
        refine zk_aload_n dL_law_393 rfl rfl ?_
        refine zk_aload_n dL_law_394 rfl rfl ?_
        refine zk_iload_n dL_law_395 rfl rfl ?_
        refine zk_iconst (v := 1) dL_law_396 (by decide) ?_
        refine zk_iadd dL_law_397 ?_
        obtain ⟨g398, h⟩ := zguard h
        refine zk_sld g398 dL_law_398 ?_
        obtain ⟨p399, h399, h⟩ := zbind h
        refine zc_L_42 [.int _] (As := [.int _]) (ok_X9_parting hj _ _ h399) rfl ⟨Nat.le_of_ble_eq_true rfl, Nat.le_of_ble_eq_true rfl⟩ ⟨Nat.le_of_ble_eq_true rfl, Nat.le_of_ble_eq_true rfl⟩ rfl rfl (Nat.le_of_ble_eq_true rfl) dL_law_399 ?_
        refine zk_icmp_eq (tgt := 1334) dL_law_402 rfl (fun g402 => ?_) (fun g402 => ?_)
        · replace h := zpos g402 h
          refine zk_iinc dL_law_1334 rfl (zinc (m := 4) (by decide)) (Nat.le_of_ble_eq_true rfl) (zk_eq [_, _, _, _] rfl ?_)
          refine zk_goto (tgt := 18) dL_law_1337 rfl ?_
          exact hr18 _ _ h
        · replace h := zneg g402 h
          refine zk_iconst (v := 0) dL_law_405 (by decide) ?_
          have h0 : (none : Option Unit) = some r := h
          cases h0
      replace h := zneg g32_6 h
      by_cases g32_7 : ((xs a3.toNatClampNeg) &&& (63 : Int32)) = 7
      · replace h := zpos g32_7 h
        refine zk_tableIn (tgt := 407) (off := 375) dL_law_32 (by rw [g32_7]; decide) (by rw [g32_7]; decide) (by rw [g32_7]; rfl) rfl ?_
        refine zk_aload_n dL_law_407 rfl rfl ?_
        refine zk_aload_n dL_law_408 rfl rfl ?_
        refine zk_iload_n dL_law_409 rfl rfl ?_
        refine zk_iconst (v := 1) dL_law_410 (by decide) ?_
        refine zk_iadd dL_law_411 ?_
        obtain ⟨g412, h⟩ := zguard h
        refine zk_sld g412 dL_law_412 ?_
        obtain ⟨p413, h413, h⟩ := zbind h
        refine zc_L_43 [] (As := [.int _]) (ok_X8_part hj _ _ h413) rfl ⟨Nat.le_of_ble_eq_true rfl, Nat.le_of_ble_eq_true rfl⟩ ⟨Nat.le_of_ble_eq_true rfl, Nat.le_of_ble_eq_true rfl⟩ rfl rfl (Nat.le_of_ble_eq_true rfl) dL_law_413 ?_
        refine zk_aload_n dL_law_416 rfl rfl ?_
        refine zk_aload_n dL_law_417 rfl rfl ?_
        refine zk_iload_n dL_law_418 rfl rfl ?_
        refine zk_iconst (v := 1) dL_law_419 (by decide) ?_
        refine zk_iadd dL_law_420 ?_
        obtain ⟨g421, h⟩ := zguard h
        refine zk_sld g421 dL_law_421 ?_
        obtain ⟨p422, h422, h⟩ := zbind h
        refine zc_L_47 [.long _] (As := [.int _]) (ok_X9_part hj _ _ h422) rfl ⟨Nat.le_of_ble_eq_true rfl, Nat.le_of_ble_eq_true rfl⟩ ⟨Nat.le_of_ble_eq_true rfl, Nat.le_of_ble_eq_true rfl⟩ rfl rfl (Nat.le_of_ble_eq_true rfl) dL_law_422 ?_
        refine zk_lcmp dL_law_425 ?_
        refine zk_if_eq (tgt := 1334) dL_law_426 rfl (fun g426 => ?_) (fun g426 => ?_)
        · replace h := zpos g426 h
          refine zk_iinc dL_law_1334 rfl (zinc (m := 4) (by decide)) (Nat.le_of_ble_eq_true rfl) (zk_eq [_, _, _, _] rfl ?_)
          refine zk_goto (tgt := 18) dL_law_1337 rfl ?_
          exact hr18 _ _ h
        · replace h := zneg g426 h
          refine zk_iconst (v := 0) dL_law_429 (by decide) ?_
          have h0 : (none : Option Unit) = some r := h
          cases h0
      replace h := zneg g32_7 h
      by_cases g32_8 : ((xs a3.toNatClampNeg) &&& (63 : Int32)) = 8
      · replace h := zpos g32_8 h
        refine zk_tableIn (tgt := 431) (off := 399) dL_law_32 (by rw [g32_8]; decide) (by rw [g32_8]; decide) (by rw [g32_8]; rfl) rfl ?_
        refine zk_aload_n dL_law_431 rfl rfl ?_
        refine zk_aload_n dL_law_432 rfl rfl ?_
        refine zk_iload_n dL_law_433 rfl rfl ?_
        refine zk_iconst (v := 1) dL_law_434 (by decide) ?_
        refine zk_iadd dL_law_435 ?_
        obtain ⟨g436, h⟩ := zguard h
        refine zk_sld g436 dL_law_436 ?_
        obtain ⟨p437, h437, h⟩ := zbind h
        refine zc_L_48 [] (As := [.int _]) (ok_X8_least hj _ _ h437) rfl ⟨Nat.le_of_ble_eq_true rfl, Nat.le_of_ble_eq_true rfl⟩ ⟨Nat.le_of_ble_eq_true rfl, Nat.le_of_ble_eq_true rfl⟩ rfl rfl (Nat.le_of_ble_eq_true rfl) dL_law_437 ?_
        refine zk_aload_n dL_law_440 rfl rfl ?_
        refine zk_aload_n dL_law_441 rfl rfl ?_
        refine zk_iload_n dL_law_442 rfl rfl ?_
        refine zk_iconst (v := 1) dL_law_443 (by decide) ?_
        refine zk_iadd dL_law_444 ?_
        obtain ⟨g445, h⟩ := zguard h
        refine zk_sld g445 dL_law_445 ?_
        obtain ⟨p446, h446, h⟩ := zbind h
        refine zc_L_51 [.int _] (As := [.int _]) (ok_X9_least hj _ _ h446) rfl ⟨Nat.le_of_ble_eq_true rfl, Nat.le_of_ble_eq_true rfl⟩ ⟨Nat.le_of_ble_eq_true rfl, Nat.le_of_ble_eq_true rfl⟩ rfl rfl (Nat.le_of_ble_eq_true rfl) dL_law_446 ?_
        refine zk_icmp_eq (tgt := 1334) dL_law_449 rfl (fun g449 => ?_) (fun g449 => ?_)
        · replace h := zpos g449 h
          refine zk_iinc dL_law_1334 rfl (zinc (m := 4) (by decide)) (Nat.le_of_ble_eq_true rfl) (zk_eq [_, _, _, _] rfl ?_)
          refine zk_goto (tgt := 18) dL_law_1337 rfl ?_
          exact hr18 _ _ h
        · replace h := zneg g449 h
          refine zk_iconst (v := 0) dL_law_452 (by decide) ?_
          have h0 : (none : Option Unit) = some r := h
          cases h0
      replace h := zneg g32_8 h
      by_cases g32_9 : ((xs a3.toNatClampNeg) &&& (63 : Int32)) = 9
      · replace h := zpos g32_9 h
        refine zk_tableIn (tgt := 454) (off := 422) dL_law_32 (by rw [g32_9]; decide) (by rw [g32_9]; decide) (by rw [g32_9]; rfl) rfl ?_
        refine zk_aload_n dL_law_454 rfl rfl ?_
        obtain ⟨p455, h455, h⟩ := zbind h
        refine zc_L_52 [] (As := []) (ok_X8_core hj _ h455) rfl ⟨Nat.le_of_ble_eq_true rfl, Nat.le_of_ble_eq_true rfl⟩ ⟨Nat.le_of_ble_eq_true rfl, Nat.le_of_ble_eq_true rfl⟩ rfl rfl (Nat.le_of_ble_eq_true rfl) dL_law_455 ?_
        refine zk_aload_n dL_law_458 rfl rfl ?_
        obtain ⟨p459, h459, h⟩ := zbind h
        refine zc_L_56 [.int _] (As := []) (ok_X9_core hj _ h459) rfl ⟨Nat.le_of_ble_eq_true rfl, Nat.le_of_ble_eq_true rfl⟩ ⟨Nat.le_of_ble_eq_true rfl, Nat.le_of_ble_eq_true rfl⟩ rfl rfl (Nat.le_of_ble_eq_true rfl) dL_law_459 ?_
        refine zk_icmp_eq (tgt := 1334) dL_law_462 rfl (fun g462 => ?_) (fun g462 => ?_)
        · replace h := zpos g462 h
          refine zk_iinc dL_law_1334 rfl (zinc (m := 4) (by decide)) (Nat.le_of_ble_eq_true rfl) (zk_eq [_, _, _, _] rfl ?_)
          refine zk_goto (tgt := 18) dL_law_1337 rfl ?_
          exact hr18 _ _ h
        · replace h := zneg g462 h
          refine zk_iconst (v := 0) dL_law_465 (by decide) ?_
          have h0 : (none : Option Unit) = some r := h
          cases h0
      replace h := zneg g32_9 h
      by_cases g32_10 : ((xs a3.toNatClampNeg) &&& (63 : Int32)) = 10
      · replace h := zpos g32_10 h
        refine zk_tableIn (tgt := 467) (off := 435) dL_law_32 (by rw [g32_10]; decide) (by rw [g32_10]; decide) (by rw [g32_10]; rfl) rfl ?_
        refine zk_aload_n dL_law_467 rfl rfl ?_
        refine zk_aload_n dL_law_468 rfl rfl ?_
        refine zk_iload_n dL_law_469 rfl rfl ?_
        refine zk_iconst (v := 1) dL_law_470 (by decide) ?_
        refine zk_iadd dL_law_471 ?_
        obtain ⟨g472, h⟩ := zguard h
        refine zk_sld g472 dL_law_472 ?_
        refine zk_aload_n dL_law_473 rfl rfl ?_
        refine zk_iload_n dL_law_474 rfl rfl ?_
        refine zk_iconst (v := 2) dL_law_475 (by decide) ?_
        refine zk_iadd dL_law_476 ?_
        obtain ⟨g477, h⟩ := zguard h
        refine zk_sld g477 dL_law_477 ?_
        obtain ⟨p478, h478, h⟩ := zbind h
        refine zc_L_57 [] (As := [.int _, .int _]) (ok_X8_end hj _ _ _ h478) rfl ⟨Nat.le_of_ble_eq_true rfl, Nat.le_of_ble_eq_true rfl⟩ ⟨Nat.le_of_ble_eq_true rfl, Nat.le_of_ble_eq_true rfl⟩ rfl rfl (Nat.le_of_ble_eq_true rfl) dL_law_478 ?_
        refine zk_aload_n dL_law_481 rfl rfl ?_
        refine zk_aload_n dL_law_482 rfl rfl ?_
        refine zk_iload_n dL_law_483 rfl rfl ?_
        refine zk_iconst (v := 1) dL_law_484 (by decide) ?_
        refine zk_iadd dL_law_485 ?_
        obtain ⟨g486, h⟩ := zguard h
        refine zk_sld g486 dL_law_486 ?_
        refine zk_aload_n dL_law_487 rfl rfl ?_
        refine zk_iload_n dL_law_488 rfl rfl ?_
        refine zk_iconst (v := 2) dL_law_489 (by decide) ?_
        refine zk_iadd dL_law_490 ?_
        obtain ⟨g491, h⟩ := zguard h
        refine zk_sld g491 dL_law_491 ?_
        obtain ⟨p492, h492, h⟩ := zbind h
        refine zc_L_60 [.int _] (As := [.int _, .int _]) (ok_X9_end hj _ _ _ h492) rfl ⟨Nat.le_of_ble_eq_true rfl, Nat.le_of_ble_eq_true rfl⟩ ⟨Nat.le_of_ble_eq_true rfl, Nat.le_of_ble_eq_true rfl⟩ rfl rfl (Nat.le_of_ble_eq_true rfl) dL_law_492 ?_
        refine zk_icmp_eq (tgt := 1334) dL_law_495 rfl (fun g495 => ?_) (fun g495 => ?_)
        · replace h := zpos g495 h
          refine zk_iinc dL_law_1334 rfl (zinc (m := 4) (by decide)) (Nat.le_of_ble_eq_true rfl) (zk_eq [_, _, _, _] rfl ?_)
          refine zk_goto (tgt := 18) dL_law_1337 rfl ?_
          exact hr18 _ _ h
        · replace h := zneg g495 h
          refine zk_iconst (v := 0) dL_law_498 (by decide) ?_
          have h0 : (none : Option Unit) = some r := h
          cases h0
      replace h := zneg g32_10 h
      by_cases g32_11 : ((xs a3.toNatClampNeg) &&& (63 : Int32)) = 11
      · replace h := zpos g32_11 h
        refine zk_tableIn (tgt := 500) (off := 468) dL_law_32 (by rw [g32_11]; decide) (by rw [g32_11]; decide) (by rw [g32_11]; rfl) rfl ?_
        refine zk_aload_n dL_law_500 rfl rfl ?_
        refine zk_aload_n dL_law_501 rfl rfl ?_
        refine zk_iload_n dL_law_502 rfl rfl ?_
        refine zk_iconst (v := 1) dL_law_503 (by decide) ?_
        refine zk_iadd dL_law_504 ?_
        obtain ⟨g505, h⟩ := zguard h
        refine zk_sld g505 dL_law_505 ?_
        obtain ⟨p506, h506, h⟩ := zbind h
        refine zc_L_61 [] (As := [.int _]) (ok_X8_calm hj _ _ h506) rfl ⟨Nat.le_of_ble_eq_true rfl, Nat.le_of_ble_eq_true rfl⟩ ⟨Nat.le_of_ble_eq_true rfl, Nat.le_of_ble_eq_true rfl⟩ rfl rfl (Nat.le_of_ble_eq_true rfl) dL_law_506 ?_
        refine zk_aload_n dL_law_509 rfl rfl ?_
        refine zk_aload_n dL_law_510 rfl rfl ?_
        refine zk_iload_n dL_law_511 rfl rfl ?_
        refine zk_iconst (v := 1) dL_law_512 (by decide) ?_
        refine zk_iadd dL_law_513 ?_
        obtain ⟨g514, h⟩ := zguard h
        refine zk_sld g514 dL_law_514 ?_
        obtain ⟨p515, h515, h⟩ := zbind h
        refine zc_L_64 [.int _] (As := [.int _]) (ok_X9_calm hj _ _ h515) rfl ⟨Nat.le_of_ble_eq_true rfl, Nat.le_of_ble_eq_true rfl⟩ ⟨Nat.le_of_ble_eq_true rfl, Nat.le_of_ble_eq_true rfl⟩ rfl rfl (Nat.le_of_ble_eq_true rfl) dL_law_515 ?_
        refine zk_icmp_eq (tgt := 1334) dL_law_518 rfl (fun g518 => ?_) (fun g518 => ?_)
        · replace h := zpos g518 h
          refine zk_iinc dL_law_1334 rfl (zinc (m := 4) (by decide)) (Nat.le_of_ble_eq_true rfl) (zk_eq [_, _, _, _] rfl ?_)
          refine zk_goto (tgt := 18) dL_law_1337 rfl ?_
          exact hr18 _ _ h
        · replace h := zneg g518 h
          refine zk_iconst (v := 0) dL_law_521 (by decide) ?_
          have h0 : (none : Option Unit) = some r := h
          cases h0
      replace h := zneg g32_11 h
      by_cases g32_12 : ((xs a3.toNatClampNeg) &&& (63 : Int32)) = 12
      · replace h := zpos g32_12 h
        refine zk_tableIn (tgt := 523) (off := 491) dL_law_32 (by rw [g32_12]; decide) (by rw [g32_12]; decide) (by rw [g32_12]; rfl) rfl ?_
        refine zk_aload_n dL_law_523 rfl rfl ?_
        refine zk_aload_n dL_law_524 rfl rfl ?_
        refine zk_iload_n dL_law_525 rfl rfl ?_
        refine zk_iconst (v := 1) dL_law_526 (by decide) ?_
        refine zk_iadd dL_law_527 ?_
        obtain ⟨g528, h⟩ := zguard h
        refine zk_sld g528 dL_law_528 ?_
        refine zk_aload_n dL_law_529 rfl rfl ?_
        refine zk_iload_n dL_law_530 rfl rfl ?_
        refine zk_iconst (v := 2) dL_law_531 (by decide) ?_
        refine zk_iadd dL_law_532 ?_
        obtain ⟨g533, h⟩ := zguard h
        refine zk_sld g533 dL_law_533 ?_
        refine zk_aload_n dL_law_534 rfl rfl ?_
        refine zk_iload_n dL_law_535 rfl rfl ?_
        refine zk_iconst (v := 3) dL_law_536 (by decide) ?_
        refine zk_iadd dL_law_537 ?_
        obtain ⟨g538, h⟩ := zguard h
        refine zk_sld g538 dL_law_538 ?_
        obtain ⟨p539, h539, h⟩ := zbind h
        refine zc_L_65 [] (As := [.int _, .int _, .int _]) (ok_X8_give hj _ _ _ _ h539) rfl ⟨Nat.le_of_ble_eq_true rfl, Nat.le_of_ble_eq_true rfl⟩ ⟨Nat.le_of_ble_eq_true rfl, Nat.le_of_ble_eq_true rfl⟩ rfl rfl (Nat.le_of_ble_eq_true rfl) dL_law_539 ?_
        refine zk_aload_n dL_law_542 rfl rfl ?_
        refine zk_aload_n dL_law_543 rfl rfl ?_
        refine zk_iload_n dL_law_544 rfl rfl ?_
        refine zk_iconst (v := 1) dL_law_545 (by decide) ?_
        refine zk_iadd dL_law_546 ?_
        obtain ⟨g547, h⟩ := zguard h
        refine zk_sld g547 dL_law_547 ?_
        refine zk_aload_n dL_law_548 rfl rfl ?_
        refine zk_iload_n dL_law_549 rfl rfl ?_
        refine zk_iconst (v := 2) dL_law_550 (by decide) ?_
        refine zk_iadd dL_law_551 ?_
        obtain ⟨g552, h⟩ := zguard h
        refine zk_sld g552 dL_law_552 ?_
        refine zk_aload_n dL_law_553 rfl rfl ?_
        refine zk_iload_n dL_law_554 rfl rfl ?_
        refine zk_iconst (v := 3) dL_law_555 (by decide) ?_
        refine zk_iadd dL_law_556 ?_
        obtain ⟨g557, h⟩ := zguard h
        refine zk_sld g557 dL_law_557 ?_
        obtain ⟨p558, h558, h⟩ := zbind h
        refine zc_L_69 [.int _] (As := [.int _, .int _, .int _]) (ok_X9_give hj _ _ _ _ h558) rfl ⟨Nat.le_of_ble_eq_true rfl, Nat.le_of_ble_eq_true rfl⟩ ⟨Nat.le_of_ble_eq_true rfl, Nat.le_of_ble_eq_true rfl⟩ rfl rfl (Nat.le_of_ble_eq_true rfl) dL_law_558 ?_
        refine zk_icmp_eq (tgt := 1334) dL_law_561 rfl (fun g561 => ?_) (fun g561 => ?_)
        · replace h := zpos g561 h
          refine zk_iinc dL_law_1334 rfl (zinc (m := 4) (by decide)) (Nat.le_of_ble_eq_true rfl) (zk_eq [_, _, _, _] rfl ?_)
          refine zk_goto (tgt := 18) dL_law_1337 rfl ?_
          exact hr18 _ _ h
        · replace h := zneg g561 h
          refine zk_iconst (v := 0) dL_law_564 (by decide) ?_
          have h0 : (none : Option Unit) = some r := h
          cases h0
      replace h := zneg g32_12 h
      by_cases g32_13 : ((xs a3.toNatClampNeg) &&& (63 : Int32)) = 13
      · replace h := zpos g32_13 h
        refine zk_tableIn (tgt := 566) (off := 534) dL_law_32 (by rw [g32_13]; decide) (by rw [g32_13]; decide) (by rw [g32_13]; rfl) rfl ?_
        refine zk_aload_n dL_law_566 rfl rfl ?_
        refine zk_aload_n dL_law_567 rfl rfl ?_
        refine zk_iload_n dL_law_568 rfl rfl ?_
        refine zk_iconst (v := 1) dL_law_569 (by decide) ?_
        refine zk_iadd dL_law_570 ?_
        obtain ⟨g571, h⟩ := zguard h
        refine zk_sld g571 dL_law_571 ?_
        refine zk_aload_n dL_law_572 rfl rfl ?_
        refine zk_iload_n dL_law_573 rfl rfl ?_
        refine zk_iconst (v := 2) dL_law_574 (by decide) ?_
        refine zk_iadd dL_law_575 ?_
        obtain ⟨g576, h⟩ := zguard h
        refine zk_sld g576 dL_law_576 ?_
        obtain ⟨p577, h577, h⟩ := zbind h
        refine zc_L_70 [] (As := [.int _, .int _]) (ok_X8_complaint hj _ _ _ h577) rfl ⟨Nat.le_of_ble_eq_true rfl, Nat.le_of_ble_eq_true rfl⟩ ⟨Nat.le_of_ble_eq_true rfl, Nat.le_of_ble_eq_true rfl⟩ rfl rfl (Nat.le_of_ble_eq_true rfl) dL_law_577 ?_
        refine zk_aload_n dL_law_580 rfl rfl ?_
        refine zk_aload_n dL_law_581 rfl rfl ?_
        refine zk_iload_n dL_law_582 rfl rfl ?_
        refine zk_iconst (v := 1) dL_law_583 (by decide) ?_
        refine zk_iadd dL_law_584 ?_
        obtain ⟨g585, h⟩ := zguard h
        refine zk_sld g585 dL_law_585 ?_
        refine zk_aload_n dL_law_586 rfl rfl ?_
        refine zk_iload_n dL_law_587 rfl rfl ?_
        refine zk_iconst (v := 2) dL_law_588 (by decide) ?_
        refine zk_iadd dL_law_589 ?_
        obtain ⟨g590, h⟩ := zguard h
        refine zk_sld g590 dL_law_590 ?_
        obtain ⟨p591, h591, h⟩ := zbind h
        refine zc_L_73 [.int _] (As := [.int _, .int _]) (ok_X9_complaint hj _ _ _ h591) rfl ⟨Nat.le_of_ble_eq_true rfl, Nat.le_of_ble_eq_true rfl⟩ ⟨Nat.le_of_ble_eq_true rfl, Nat.le_of_ble_eq_true rfl⟩ rfl rfl (Nat.le_of_ble_eq_true rfl) dL_law_591 ?_
        refine zk_icmp_eq (tgt := 1334) dL_law_594 rfl (fun g594 => ?_) (fun g594 => ?_)
        · replace h := zpos g594 h
          refine zk_iinc dL_law_1334 rfl (zinc (m := 4) (by decide)) (Nat.le_of_ble_eq_true rfl) (zk_eq [_, _, _, _] rfl ?_)
          refine zk_goto (tgt := 18) dL_law_1337 rfl ?_
          exact hr18 _ _ h
        · replace h := zneg g594 h
          refine zk_iconst (v := 0) dL_law_597 (by decide) ?_
          have h0 : (none : Option Unit) = some r := h
          cases h0
      replace h := zneg g32_13 h
      by_cases g32_14 : ((xs a3.toNatClampNeg) &&& (63 : Int32)) = 14
      · replace h := zpos g32_14 h
        refine zk_tableIn (tgt := 599) (off := 567) dL_law_32 (by rw [g32_14]; decide) (by rw [g32_14]; decide) (by rw [g32_14]; rfl) rfl ?_
        refine zk_aload_n dL_law_599 rfl rfl ?_
        refine zk_aload_n dL_law_600 rfl rfl ?_
        refine zk_iload_n dL_law_601 rfl rfl ?_
        refine zk_iconst (v := 1) dL_law_602 (by decide) ?_
        refine zk_iadd dL_law_603 ?_
        obtain ⟨g604, h⟩ := zguard h
        refine zk_sld g604 dL_law_604 ?_
        refine zk_aload_n dL_law_605 rfl rfl ?_
        refine zk_iload_n dL_law_606 rfl rfl ?_
        refine zk_iconst (v := 2) dL_law_607 (by decide) ?_
        refine zk_iadd dL_law_608 ?_
        obtain ⟨g609, h⟩ := zguard h
        refine zk_sld g609 dL_law_609 ?_
        refine zk_aload_n dL_law_610 rfl rfl ?_
        refine zk_iload_n dL_law_611 rfl rfl ?_
        refine zk_iconst (v := 3) dL_law_612 (by decide) ?_
        refine zk_iadd dL_law_613 ?_
        obtain ⟨g614, h⟩ := zguard h
        refine zk_sld g614 dL_law_614 ?_
        obtain ⟨p615, h615, h⟩ := zbind h
        refine zc_L_74 [] (As := [.int _, .int _, .int _]) (ok_X8_surplus hj _ _ _ _ h615) rfl ⟨Nat.le_of_ble_eq_true rfl, Nat.le_of_ble_eq_true rfl⟩ ⟨Nat.le_of_ble_eq_true rfl, Nat.le_of_ble_eq_true rfl⟩ rfl rfl (Nat.le_of_ble_eq_true rfl) dL_law_615 ?_
        refine zk_aload_n dL_law_618 rfl rfl ?_
        refine zk_aload_n dL_law_619 rfl rfl ?_
        refine zk_iload_n dL_law_620 rfl rfl ?_
        refine zk_iconst (v := 1) dL_law_621 (by decide) ?_
        refine zk_iadd dL_law_622 ?_
        obtain ⟨g623, h⟩ := zguard h
        refine zk_sld g623 dL_law_623 ?_
        refine zk_aload_n dL_law_624 rfl rfl ?_
        refine zk_iload_n dL_law_625 rfl rfl ?_
        refine zk_iconst (v := 2) dL_law_626 (by decide) ?_
        refine zk_iadd dL_law_627 ?_
        obtain ⟨g628, h⟩ := zguard h
        refine zk_sld g628 dL_law_628 ?_
        refine zk_aload_n dL_law_629 rfl rfl ?_
        refine zk_iload_n dL_law_630 rfl rfl ?_
        refine zk_iconst (v := 3) dL_law_631 (by decide) ?_
        refine zk_iadd dL_law_632 ?_
        obtain ⟨g633, h⟩ := zguard h
        refine zk_sld g633 dL_law_633 ?_
        obtain ⟨p634, h634, h⟩ := zbind h
        refine zc_L_77 [.int _] (As := [.int _, .int _, .int _]) (ok_X9_surplus hj _ _ _ _ h634) rfl ⟨Nat.le_of_ble_eq_true rfl, Nat.le_of_ble_eq_true rfl⟩ ⟨Nat.le_of_ble_eq_true rfl, Nat.le_of_ble_eq_true rfl⟩ rfl rfl (Nat.le_of_ble_eq_true rfl) dL_law_634 ?_
        refine zk_icmp_eq (tgt := 1334) dL_law_637 rfl (fun g637 => ?_) (fun g637 => ?_)
        · replace h := zpos g637 h
          refine zk_iinc dL_law_1334 rfl (zinc (m := 4) (by decide)) (Nat.le_of_ble_eq_true rfl) (zk_eq [_, _, _, _] rfl ?_)
          refine zk_goto (tgt := 18) dL_law_1337 rfl ?_
          exact hr18 _ _ h
        · replace h := zneg g637 h
          refine zk_iconst (v := 0) dL_law_640 (by decide) ?_
          have h0 : (none : Option Unit) = some r := h
          cases h0
      replace h := zneg g32_14 h
      by_cases g32_15 : ((xs a3.toNatClampNeg) &&& (63 : Int32)) = 15
      · replace h := zpos g32_15 h
        refine zk_tableIn (tgt := 642) (off := 610) dL_law_32 (by rw [g32_15]; decide) (by rw [g32_15]; decide) (by rw [g32_15]; rfl) rfl ?_
        refine zk_aload_n dL_law_642 rfl rfl ?_
        refine zk_aload_n dL_law_643 rfl rfl ?_
        refine zk_iload_n dL_law_644 rfl rfl ?_
        refine zk_iconst (v := 1) dL_law_645 (by decide) ?_
        refine zk_iadd dL_law_646 ?_
        obtain ⟨g647, h⟩ := zguard h
        refine zk_sld g647 dL_law_647 ?_
        obtain ⟨p648, h648, h⟩ := zbind h
        refine zc_L_78 [] (As := [.int _]) (ok_X8_even hj _ _ h648) rfl ⟨Nat.le_of_ble_eq_true rfl, Nat.le_of_ble_eq_true rfl⟩ ⟨Nat.le_of_ble_eq_true rfl, Nat.le_of_ble_eq_true rfl⟩ rfl rfl (Nat.le_of_ble_eq_true rfl) dL_law_648 ?_
        refine zk_aload_n dL_law_651 rfl rfl ?_
        refine zk_aload_n dL_law_652 rfl rfl ?_
        refine zk_iload_n dL_law_653 rfl rfl ?_
        refine zk_iconst (v := 1) dL_law_654 (by decide) ?_
        refine zk_iadd dL_law_655 ?_
        obtain ⟨g656, h⟩ := zguard h
        refine zk_sld g656 dL_law_656 ?_
        obtain ⟨p657, h657, h⟩ := zbind h
        refine zc_L_81 [.int _] (As := [.int _]) (ok_X9_even hj _ _ h657) rfl ⟨Nat.le_of_ble_eq_true rfl, Nat.le_of_ble_eq_true rfl⟩ ⟨Nat.le_of_ble_eq_true rfl, Nat.le_of_ble_eq_true rfl⟩ rfl rfl (Nat.le_of_ble_eq_true rfl) dL_law_657 ?_
        refine zk_icmp_eq (tgt := 1334) dL_law_660 rfl (fun g660 => ?_) (fun g660 => ?_)
        · replace h := zpos g660 h
          refine zk_iinc dL_law_1334 rfl (zinc (m := 4) (by decide)) (Nat.le_of_ble_eq_true rfl) (zk_eq [_, _, _, _] rfl ?_)
          refine zk_goto (tgt := 18) dL_law_1337 rfl ?_
          exact hr18 _ _ h
        · replace h := zneg g660 h
          refine zk_iconst (v := 0) dL_law_663 (by decide) ?_
          have h0 : (none : Option Unit) = some r := h
          cases h0
      replace h := zneg g32_15 h
      by_cases g32_16 : ((xs a3.toNatClampNeg) &&& (63 : Int32)) = 16
      · replace h := zpos g32_16 h
        refine zk_tableIn (tgt := 665) (off := 633) dL_law_32 (by rw [g32_16]; decide) (by rw [g32_16]; decide) (by rw [g32_16]; rfl) rfl ?_
        refine zk_aload_n dL_law_665 rfl rfl ?_
        refine zk_aload_n dL_law_666 rfl rfl ?_
        refine zk_iload_n dL_law_667 rfl rfl ?_
        refine zk_iconst (v := 1) dL_law_668 (by decide) ?_
        refine zk_iadd dL_law_669 ?_
        obtain ⟨g670, h⟩ := zguard h
        refine zk_sld g670 dL_law_670 ?_
        obtain ⟨p671, h671, h⟩ := zbind h
        refine zc_L_82 [] (As := [.int _]) (ok_X8_better hj _ _ h671) rfl ⟨Nat.le_of_ble_eq_true rfl, Nat.le_of_ble_eq_true rfl⟩ ⟨Nat.le_of_ble_eq_true rfl, Nat.le_of_ble_eq_true rfl⟩ rfl rfl (Nat.le_of_ble_eq_true rfl) dL_law_671 ?_
        refine zk_aload_n dL_law_674 rfl rfl ?_
        refine zk_aload_n dL_law_675 rfl rfl ?_
        refine zk_iload_n dL_law_676 rfl rfl ?_
        refine zk_iconst (v := 1) dL_law_677 (by decide) ?_
        refine zk_iadd dL_law_678 ?_
        obtain ⟨g679, h⟩ := zguard h
        refine zk_sld g679 dL_law_679 ?_
        obtain ⟨p680, h680, h⟩ := zbind h
        refine zc_L_85 [.int _] (As := [.int _]) (ok_X9_better hj _ _ h680) rfl ⟨Nat.le_of_ble_eq_true rfl, Nat.le_of_ble_eq_true rfl⟩ ⟨Nat.le_of_ble_eq_true rfl, Nat.le_of_ble_eq_true rfl⟩ rfl rfl (Nat.le_of_ble_eq_true rfl) dL_law_680 ?_
        refine zk_icmp_eq (tgt := 1334) dL_law_683 rfl (fun g683 => ?_) (fun g683 => ?_)
        · replace h := zpos g683 h
          refine zk_iinc dL_law_1334 rfl (zinc (m := 4) (by decide)) (Nat.le_of_ble_eq_true rfl) (zk_eq [_, _, _, _] rfl ?_)
          refine zk_goto (tgt := 18) dL_law_1337 rfl ?_
          exact hr18 _ _ h
        · replace h := zneg g683 h
          refine zk_iconst (v := 0) dL_law_686 (by decide) ?_
          have h0 : (none : Option Unit) = some r := h
          cases h0
      replace h := zneg g32_16 h
      by_cases g32_17 : ((xs a3.toNatClampNeg) &&& (63 : Int32)) = 17
      · replace h := zpos g32_17 h
        refine zk_tableIn (tgt := 688) (off := 656) dL_law_32 (by rw [g32_17]; decide) (by rw [g32_17]; decide) (by rw [g32_17]; rfl) rfl ?_
        refine zk_aload_n dL_law_688 rfl rfl ?_
        refine zk_aload_n dL_law_689 rfl rfl ?_
        refine zk_iload_n dL_law_690 rfl rfl ?_
        refine zk_iconst (v := 1) dL_law_691 (by decide) ?_
        refine zk_iadd dL_law_692 ?_
        obtain ⟨g693, h⟩ := zguard h
        refine zk_sld g693 dL_law_693 ?_
        obtain ⟨p694, h694, h⟩ := zbind h
        refine zc_L_86 [] (As := [.int _]) (ok_X8_voter hj _ _ h694) rfl ⟨Nat.le_of_ble_eq_true rfl, Nat.le_of_ble_eq_true rfl⟩ ⟨Nat.le_of_ble_eq_true rfl, Nat.le_of_ble_eq_true rfl⟩ rfl rfl (Nat.le_of_ble_eq_true rfl) dL_law_694 ?_
        refine zk_aload_n dL_law_697 rfl rfl ?_
        refine zk_aload_n dL_law_698 rfl rfl ?_
        refine zk_iload_n dL_law_699 rfl rfl ?_
        refine zk_iconst (v := 1) dL_law_700 (by decide) ?_
        refine zk_iadd dL_law_701 ?_
        obtain ⟨g702, h⟩ := zguard h
        refine zk_sld g702 dL_law_702 ?_
        obtain ⟨p703, h703, h⟩ := zbind h
        refine zc_L_89 [.int _] (As := [.int _]) (ok_X9_voter hj _ _ h703) rfl ⟨Nat.le_of_ble_eq_true rfl, Nat.le_of_ble_eq_true rfl⟩ ⟨Nat.le_of_ble_eq_true rfl, Nat.le_of_ble_eq_true rfl⟩ rfl rfl (Nat.le_of_ble_eq_true rfl) dL_law_703 ?_
        refine zk_icmp_eq (tgt := 1334) dL_law_706 rfl (fun g706 => ?_) (fun g706 => ?_)
        · replace h := zpos g706 h
          refine zk_iinc dL_law_1334 rfl (zinc (m := 4) (by decide)) (Nat.le_of_ble_eq_true rfl) (zk_eq [_, _, _, _] rfl ?_)
          refine zk_goto (tgt := 18) dL_law_1337 rfl ?_
          exact hr18 _ _ h
        · replace h := zneg g706 h
          refine zk_iconst (v := 0) dL_law_709 (by decide) ?_
          have h0 : (none : Option Unit) = some r := h
          cases h0
      replace h := zneg g32_17 h
      by_cases g32_18 : ((xs a3.toNatClampNeg) &&& (63 : Int32)) = 18
      · replace h := zpos g32_18 h
        refine zk_tableIn (tgt := 711) (off := 679) dL_law_32 (by rw [g32_18]; decide) (by rw [g32_18]; decide) (by rw [g32_18]; rfl) rfl ?_
        refine zk_aload_n dL_law_711 rfl rfl ?_
        refine zk_aload_n dL_law_712 rfl rfl ?_
        refine zk_iload_n dL_law_713 rfl rfl ?_
        refine zk_iconst (v := 1) dL_law_714 (by decide) ?_
        refine zk_iadd dL_law_715 ?_
        obtain ⟨g716, h⟩ := zguard h
        refine zk_sld g716 dL_law_716 ?_
        refine zk_aload_n dL_law_717 rfl rfl ?_
        refine zk_iload_n dL_law_718 rfl rfl ?_
        refine zk_iconst (v := 2) dL_law_719 (by decide) ?_
        refine zk_iadd dL_law_720 ?_
        obtain ⟨g721, h⟩ := zguard h
        refine zk_sld g721 dL_law_721 ?_
        obtain ⟨p722, h722, h⟩ := zbind h
        refine zc_L_90 [] (As := [.int _, .int _]) (ok_X8_weight hj _ _ _ h722) rfl ⟨Nat.le_of_ble_eq_true rfl, Nat.le_of_ble_eq_true rfl⟩ ⟨Nat.le_of_ble_eq_true rfl, Nat.le_of_ble_eq_true rfl⟩ rfl rfl (Nat.le_of_ble_eq_true rfl) dL_law_722 ?_
        refine zk_aload_n dL_law_725 rfl rfl ?_
        refine zk_aload_n dL_law_726 rfl rfl ?_
        refine zk_iload_n dL_law_727 rfl rfl ?_
        refine zk_iconst (v := 1) dL_law_728 (by decide) ?_
        refine zk_iadd dL_law_729 ?_
        obtain ⟨g730, h⟩ := zguard h
        refine zk_sld g730 dL_law_730 ?_
        refine zk_aload_n dL_law_731 rfl rfl ?_
        refine zk_iload_n dL_law_732 rfl rfl ?_
        refine zk_iconst (v := 2) dL_law_733 (by decide) ?_
        refine zk_iadd dL_law_734 ?_
        obtain ⟨g735, h⟩ := zguard h
        refine zk_sld g735 dL_law_735 ?_
        obtain ⟨p736, h736, h⟩ := zbind h
        refine zc_L_93 [.int _] (As := [.int _, .int _]) (ok_X9_weight hj _ _ _ h736) rfl ⟨Nat.le_of_ble_eq_true rfl, Nat.le_of_ble_eq_true rfl⟩ ⟨Nat.le_of_ble_eq_true rfl, Nat.le_of_ble_eq_true rfl⟩ rfl rfl (Nat.le_of_ble_eq_true rfl) dL_law_736 ?_
        refine zk_icmp_eq (tgt := 1334) dL_law_739 rfl (fun g739 => ?_) (fun g739 => ?_)
        · replace h := zpos g739 h
          refine zk_iinc dL_law_1334 rfl (zinc (m := 4) (by decide)) (Nat.le_of_ble_eq_true rfl) (zk_eq [_, _, _, _] rfl ?_)
          refine zk_goto (tgt := 18) dL_law_1337 rfl ?_
          exact hr18 _ _ h
        · replace h := zneg g739 h
          refine zk_iconst (v := 0) dL_law_742 (by decide) ?_
          have h0 : (none : Option Unit) = some r := h
          cases h0
      replace h := zneg g32_18 h
      by_cases g32_19 : ((xs a3.toNatClampNeg) &&& (63 : Int32)) = 19
      · replace h := zpos g32_19 h
        refine zk_tableIn (tgt := 744) (off := 712) dL_law_32 (by rw [g32_19]; decide) (by rw [g32_19]; decide) (by rw [g32_19]; rfl) rfl ?_
        refine zk_aload_n dL_law_744 rfl rfl ?_
        refine zk_aload_n dL_law_745 rfl rfl ?_
        refine zk_iload_n dL_law_746 rfl rfl ?_
        refine zk_iconst (v := 1) dL_law_747 (by decide) ?_
        refine zk_iadd dL_law_748 ?_
        obtain ⟨g749, h⟩ := zguard h
        refine zk_sld g749 dL_law_749 ?_
        obtain ⟨p750, h750, h⟩ := zbind h
        refine zc_L_94 [] (As := [.int _]) (ok_X8_quota hj _ _ h750) rfl ⟨Nat.le_of_ble_eq_true rfl, Nat.le_of_ble_eq_true rfl⟩ ⟨Nat.le_of_ble_eq_true rfl, Nat.le_of_ble_eq_true rfl⟩ rfl rfl (Nat.le_of_ble_eq_true rfl) dL_law_750 ?_
        refine zk_aload_n dL_law_753 rfl rfl ?_
        refine zk_aload_n dL_law_754 rfl rfl ?_
        refine zk_iload_n dL_law_755 rfl rfl ?_
        refine zk_iconst (v := 1) dL_law_756 (by decide) ?_
        refine zk_iadd dL_law_757 ?_
        obtain ⟨g758, h⟩ := zguard h
        refine zk_sld g758 dL_law_758 ?_
        obtain ⟨p759, h759, h⟩ := zbind h
        refine zc_L_97 [.int _] (As := [.int _]) (ok_X9_quota hj _ _ h759) rfl ⟨Nat.le_of_ble_eq_true rfl, Nat.le_of_ble_eq_true rfl⟩ ⟨Nat.le_of_ble_eq_true rfl, Nat.le_of_ble_eq_true rfl⟩ rfl rfl (Nat.le_of_ble_eq_true rfl) dL_law_759 ?_
        refine zk_icmp_eq (tgt := 1334) dL_law_762 rfl (fun g762 => ?_) (fun g762 => ?_)
        · replace h := zpos g762 h
          refine zk_iinc dL_law_1334 rfl (zinc (m := 4) (by decide)) (Nat.le_of_ble_eq_true rfl) (zk_eq [_, _, _, _] rfl ?_)
          refine zk_goto (tgt := 18) dL_law_1337 rfl ?_
          exact hr18 _ _ h
        · replace h := zneg g762 h
          refine zk_iconst (v := 0) dL_law_765 (by decide) ?_
          have h0 : (none : Option Unit) = some r := h
          cases h0
      replace h := zneg g32_19 h
      by_cases g32_20 : ((xs a3.toNatClampNeg) &&& (63 : Int32)) = 20
      · replace h := zpos g32_20 h
        refine zk_tableIn (tgt := 767) (off := 735) dL_law_32 (by rw [g32_20]; decide) (by rw [g32_20]; decide) (by rw [g32_20]; rfl) rfl ?_
        refine zk_aload_n dL_law_767 rfl rfl ?_
        refine zk_aload_n dL_law_768 rfl rfl ?_
        refine zk_iload_n dL_law_769 rfl rfl ?_
        refine zk_iconst (v := 1) dL_law_770 (by decide) ?_
        refine zk_iadd dL_law_771 ?_
        obtain ⟨g772, h⟩ := zguard h
        refine zk_sld g772 dL_law_772 ?_
        obtain ⟨p773, h773, h⟩ := zbind h
        refine zc_L_98 [] (As := [.int _]) (ok_X8_wins hj _ _ h773) rfl ⟨Nat.le_of_ble_eq_true rfl, Nat.le_of_ble_eq_true rfl⟩ ⟨Nat.le_of_ble_eq_true rfl, Nat.le_of_ble_eq_true rfl⟩ rfl rfl (Nat.le_of_ble_eq_true rfl) dL_law_773 ?_
        refine zk_aload_n dL_law_776 rfl rfl ?_
        refine zk_aload_n dL_law_777 rfl rfl ?_
        refine zk_iload_n dL_law_778 rfl rfl ?_
        refine zk_iconst (v := 1) dL_law_779 (by decide) ?_
        refine zk_iadd dL_law_780 ?_
        obtain ⟨g781, h⟩ := zguard h
        refine zk_sld g781 dL_law_781 ?_
        obtain ⟨p782, h782, h⟩ := zbind h
        refine zc_L_101 [.int _] (As := [.int _]) (ok_X9_wins hj _ _ h782) rfl ⟨Nat.le_of_ble_eq_true rfl, Nat.le_of_ble_eq_true rfl⟩ ⟨Nat.le_of_ble_eq_true rfl, Nat.le_of_ble_eq_true rfl⟩ rfl rfl (Nat.le_of_ble_eq_true rfl) dL_law_782 ?_
        refine zk_icmp_eq (tgt := 1334) dL_law_785 rfl (fun g785 => ?_) (fun g785 => ?_)
        · replace h := zpos g785 h
          refine zk_iinc dL_law_1334 rfl (zinc (m := 4) (by decide)) (Nat.le_of_ble_eq_true rfl) (zk_eq [_, _, _, _] rfl ?_)
          refine zk_goto (tgt := 18) dL_law_1337 rfl ?_
          exact hr18 _ _ h
        · replace h := zneg g785 h
          refine zk_iconst (v := 0) dL_law_788 (by decide) ?_
          have h0 : (none : Option Unit) = some r := h
          cases h0
      replace h := zneg g32_20 h
      by_cases g32_21 : ((xs a3.toNatClampNeg) &&& (63 : Int32)) = 21
      · replace h := zpos g32_21 h
        refine zk_tableIn (tgt := 790) (off := 758) dL_law_32 (by rw [g32_21]; decide) (by rw [g32_21]; decide) (by rw [g32_21]; rfl) rfl ?_
        refine zk_aload_n dL_law_790 rfl rfl ?_
        refine zk_aload_n dL_law_791 rfl rfl ?_
        refine zk_iload_n dL_law_792 rfl rfl ?_
        refine zk_iconst (v := 1) dL_law_793 (by decide) ?_
        refine zk_iadd dL_law_794 ?_
        obtain ⟨g795, h⟩ := zguard h
        refine zk_sld g795 dL_law_795 ?_
        obtain ⟨p796, h796, h⟩ := zbind h
        refine zc_L_102 [] (As := [.int _]) (ok_X8_minimal hj _ _ h796) rfl ⟨Nat.le_of_ble_eq_true rfl, Nat.le_of_ble_eq_true rfl⟩ ⟨Nat.le_of_ble_eq_true rfl, Nat.le_of_ble_eq_true rfl⟩ rfl rfl (Nat.le_of_ble_eq_true rfl) dL_law_796 ?_
        refine zk_aload_n dL_law_799 rfl rfl ?_
        refine zk_aload_n dL_law_800 rfl rfl ?_
        refine zk_iload_n dL_law_801 rfl rfl ?_
        refine zk_iconst (v := 1) dL_law_802 (by decide) ?_
        refine zk_iadd dL_law_803 ?_
        obtain ⟨g804, h⟩ := zguard h
        refine zk_sld g804 dL_law_804 ?_
        obtain ⟨p805, h805, h⟩ := zbind h
        refine zc_L_105 [.int _] (As := [.int _]) (ok_X9_minimal hj _ _ h805) rfl ⟨Nat.le_of_ble_eq_true rfl, Nat.le_of_ble_eq_true rfl⟩ ⟨Nat.le_of_ble_eq_true rfl, Nat.le_of_ble_eq_true rfl⟩ rfl rfl (Nat.le_of_ble_eq_true rfl) dL_law_805 ?_
        refine zk_icmp_eq (tgt := 1334) dL_law_808 rfl (fun g808 => ?_) (fun g808 => ?_)
        · replace h := zpos g808 h
          refine zk_iinc dL_law_1334 rfl (zinc (m := 4) (by decide)) (Nat.le_of_ble_eq_true rfl) (zk_eq [_, _, _, _] rfl ?_)
          refine zk_goto (tgt := 18) dL_law_1337 rfl ?_
          exact hr18 _ _ h
        · replace h := zneg g808 h
          refine zk_iconst (v := 0) dL_law_811 (by decide) ?_
          have h0 : (none : Option Unit) = some r := h
          cases h0
      replace h := zneg g32_21 h
      by_cases g32_22 : ((xs a3.toNatClampNeg) &&& (63 : Int32)) = 22
      · replace h := zpos g32_22 h
        refine zk_tableIn (tgt := 813) (off := 781) dL_law_32 (by rw [g32_22]; decide) (by rw [g32_22]; decide) (by rw [g32_22]; rfl) rfl ?_
        refine zk_aload_n dL_law_813 rfl rfl ?_
        refine zk_aload_n dL_law_814 rfl rfl ?_
        refine zk_iload_n dL_law_815 rfl rfl ?_
        refine zk_iconst (v := 1) dL_law_816 (by decide) ?_
        refine zk_iadd dL_law_817 ?_
        obtain ⟨g818, h⟩ := zguard h
        refine zk_sld g818 dL_law_818 ?_
        refine zk_aload_n dL_law_819 rfl rfl ?_
        refine zk_iload_n dL_law_820 rfl rfl ?_
        refine zk_iconst (v := 2) dL_law_821 (by decide) ?_
        refine zk_iadd dL_law_822 ?_
        obtain ⟨g823, h⟩ := zguard h
        refine zk_sld g823 dL_law_823 ?_
        obtain ⟨p824, h824, h⟩ := zbind h
        refine zc_L_106 [] (As := [.int _, .int _]) (ok_X8_power hj _ _ _ h824) rfl ⟨Nat.le_of_ble_eq_true rfl, Nat.le_of_ble_eq_true rfl⟩ ⟨Nat.le_of_ble_eq_true rfl, Nat.le_of_ble_eq_true rfl⟩ rfl rfl (Nat.le_of_ble_eq_true rfl) dL_law_824 ?_
        refine zk_aload_n dL_law_827 rfl rfl ?_
        refine zk_aload_n dL_law_828 rfl rfl ?_
        refine zk_iload_n dL_law_829 rfl rfl ?_
        refine zk_iconst (v := 1) dL_law_830 (by decide) ?_
        refine zk_iadd dL_law_831 ?_
        obtain ⟨g832, h⟩ := zguard h
        refine zk_sld g832 dL_law_832 ?_
        refine zk_aload_n dL_law_833 rfl rfl ?_
        refine zk_iload_n dL_law_834 rfl rfl ?_
        refine zk_iconst (v := 2) dL_law_835 (by decide) ?_
        refine zk_iadd dL_law_836 ?_
        obtain ⟨g837, h⟩ := zguard h
        refine zk_sld g837 dL_law_837 ?_
        obtain ⟨p838, h838, h⟩ := zbind h
        refine zc_L_109 [.int _] (As := [.int _, .int _]) (ok_X9_power hj _ _ _ h838) rfl ⟨Nat.le_of_ble_eq_true rfl, Nat.le_of_ble_eq_true rfl⟩ ⟨Nat.le_of_ble_eq_true rfl, Nat.le_of_ble_eq_true rfl⟩ rfl rfl (Nat.le_of_ble_eq_true rfl) dL_law_838 ?_
        refine zk_icmp_eq (tgt := 1334) dL_law_841 rfl (fun g841 => ?_) (fun g841 => ?_)
        · replace h := zpos g841 h
          refine zk_iinc dL_law_1334 rfl (zinc (m := 4) (by decide)) (Nat.le_of_ble_eq_true rfl) (zk_eq [_, _, _, _] rfl ?_)
          refine zk_goto (tgt := 18) dL_law_1337 rfl ?_
          exact hr18 _ _ h
        · replace h := zneg g841 h
          refine zk_iconst (v := 0) dL_law_844 (by decide) ?_
          have h0 : (none : Option Unit) = some r := h
          cases h0
      replace h := zneg g32_22 h
      by_cases g32_23 : ((xs a3.toNatClampNeg) &&& (63 : Int32)) = 23
      · replace h := zpos g32_23 h
        refine zk_tableIn (tgt := 846) (off := 814) dL_law_32 (by rw [g32_23]; decide) (by rw [g32_23]; decide) (by rw [g32_23]; rfl) rfl ?_
        refine zk_aload_n dL_law_846 rfl rfl ?_
        refine zk_aload_n dL_law_847 rfl rfl ?_
        refine zk_iload_n dL_law_848 rfl rfl ?_
        refine zk_iconst (v := 1) dL_law_849 (by decide) ?_
        refine zk_iadd dL_law_850 ?_
        obtain ⟨g851, h⟩ := zguard h
        refine zk_sld g851 dL_law_851 ?_
        obtain ⟨p852, h852, h⟩ := zbind h
        refine zc_L_110 [] (As := [.int _]) (ok_X8_deegan hj _ _ h852) rfl ⟨Nat.le_of_ble_eq_true rfl, Nat.le_of_ble_eq_true rfl⟩ ⟨Nat.le_of_ble_eq_true rfl, Nat.le_of_ble_eq_true rfl⟩ rfl rfl (Nat.le_of_ble_eq_true rfl) dL_law_852 ?_
        refine zk_aload_n dL_law_855 rfl rfl ?_
        refine zk_aload_n dL_law_856 rfl rfl ?_
        refine zk_iload_n dL_law_857 rfl rfl ?_
        refine zk_iconst (v := 1) dL_law_858 (by decide) ?_
        refine zk_iadd dL_law_859 ?_
        obtain ⟨g860, h⟩ := zguard h
        refine zk_sld g860 dL_law_860 ?_
        obtain ⟨p861, h861, h⟩ := zbind h
        refine zc_L_113 [.int _] (As := [.int _]) (ok_X9_deegan hj _ _ h861) rfl ⟨Nat.le_of_ble_eq_true rfl, Nat.le_of_ble_eq_true rfl⟩ ⟨Nat.le_of_ble_eq_true rfl, Nat.le_of_ble_eq_true rfl⟩ rfl rfl (Nat.le_of_ble_eq_true rfl) dL_law_861 ?_
        refine zk_icmp_eq (tgt := 1334) dL_law_864 rfl (fun g864 => ?_) (fun g864 => ?_)
        · replace h := zpos g864 h
          refine zk_iinc dL_law_1334 rfl (zinc (m := 4) (by decide)) (Nat.le_of_ble_eq_true rfl) (zk_eq [_, _, _, _] rfl ?_)
          refine zk_goto (tgt := 18) dL_law_1337 rfl ?_
          exact hr18 _ _ h
        · replace h := zneg g864 h
          refine zk_iconst (v := 0) dL_law_867 (by decide) ?_
          have h0 : (none : Option Unit) = some r := h
          cases h0
      replace h := zneg g32_23 h
      by_cases g32_24 : ((xs a3.toNatClampNeg) &&& (63 : Int32)) = 24
      · replace h := zpos g32_24 h
        refine zk_tableIn (tgt := 869) (off := 837) dL_law_32 (by rw [g32_24]; decide) (by rw [g32_24]; decide) (by rw [g32_24]; rfl) rfl ?_
        refine zk_aload_n dL_law_869 rfl rfl ?_
        refine zk_aload_n dL_law_870 rfl rfl ?_
        refine zk_iload_n dL_law_871 rfl rfl ?_
        refine zk_iconst (v := 1) dL_law_872 (by decide) ?_
        refine zk_iadd dL_law_873 ?_
        obtain ⟨g874, h⟩ := zguard h
        refine zk_sld g874 dL_law_874 ?_
        obtain ⟨p875, h875, h⟩ := zbind h
        refine zc_L_114 [] (As := [.int _]) (ok_X8_same hj _ _ h875) rfl ⟨Nat.le_of_ble_eq_true rfl, Nat.le_of_ble_eq_true rfl⟩ ⟨Nat.le_of_ble_eq_true rfl, Nat.le_of_ble_eq_true rfl⟩ rfl rfl (Nat.le_of_ble_eq_true rfl) dL_law_875 ?_
        refine zk_aload_n dL_law_878 rfl rfl ?_
        refine zk_aload_n dL_law_879 rfl rfl ?_
        refine zk_iload_n dL_law_880 rfl rfl ?_
        refine zk_iconst (v := 1) dL_law_881 (by decide) ?_
        refine zk_iadd dL_law_882 ?_
        obtain ⟨g883, h⟩ := zguard h
        refine zk_sld g883 dL_law_883 ?_
        obtain ⟨p884, h884, h⟩ := zbind h
        refine zc_L_117 [.int _] (As := [.int _]) (ok_X9_same hj _ _ h884) rfl ⟨Nat.le_of_ble_eq_true rfl, Nat.le_of_ble_eq_true rfl⟩ ⟨Nat.le_of_ble_eq_true rfl, Nat.le_of_ble_eq_true rfl⟩ rfl rfl (Nat.le_of_ble_eq_true rfl) dL_law_884 ?_
        refine zk_icmp_eq (tgt := 1334) dL_law_887 rfl (fun g887 => ?_) (fun g887 => ?_)
        · replace h := zpos g887 h
          refine zk_iinc dL_law_1334 rfl (zinc (m := 4) (by decide)) (Nat.le_of_ble_eq_true rfl) (zk_eq [_, _, _, _] rfl ?_)
          refine zk_goto (tgt := 18) dL_law_1337 rfl ?_
          exact hr18 _ _ h
        · replace h := zneg g887 h
          refine zk_iconst (v := 0) dL_law_890 (by decide) ?_
          have h0 : (none : Option Unit) = some r := h
          cases h0
      replace h := zneg g32_24 h
      by_cases g32_25 : ((xs a3.toNatClampNeg) &&& (63 : Int32)) = 25
      · replace h := zpos g32_25 h
        refine zk_tableIn (tgt := 892) (off := 860) dL_law_32 (by rw [g32_25]; decide) (by rw [g32_25]; decide) (by rw [g32_25]; rfl) rfl ?_
        refine zk_aload_n dL_law_892 rfl rfl ?_
        refine zk_aload_n dL_law_893 rfl rfl ?_
        refine zk_iload_n dL_law_894 rfl rfl ?_
        refine zk_iconst (v := 1) dL_law_895 (by decide) ?_
        refine zk_iadd dL_law_896 ?_
        obtain ⟨g897, h⟩ := zguard h
        refine zk_sld g897 dL_law_897 ?_
        obtain ⟨p898, h898, h⟩ := zbind h
        refine zc_L_118 [] (As := [.int _]) (ok_X8_claim hj _ _ h898) rfl ⟨Nat.le_of_ble_eq_true rfl, Nat.le_of_ble_eq_true rfl⟩ ⟨Nat.le_of_ble_eq_true rfl, Nat.le_of_ble_eq_true rfl⟩ rfl rfl (Nat.le_of_ble_eq_true rfl) dL_law_898 ?_
        refine zk_aload_n dL_law_901 rfl rfl ?_
        refine zk_aload_n dL_law_902 rfl rfl ?_
        refine zk_iload_n dL_law_903 rfl rfl ?_
        refine zk_iconst (v := 1) dL_law_904 (by decide) ?_
        refine zk_iadd dL_law_905 ?_
        obtain ⟨g906, h⟩ := zguard h
        refine zk_sld g906 dL_law_906 ?_
        obtain ⟨p907, h907, h⟩ := zbind h
        refine zc_L_121 [.int _] (As := [.int _]) (ok_X9_claim hj _ _ h907) rfl ⟨Nat.le_of_ble_eq_true rfl, Nat.le_of_ble_eq_true rfl⟩ ⟨Nat.le_of_ble_eq_true rfl, Nat.le_of_ble_eq_true rfl⟩ rfl rfl (Nat.le_of_ble_eq_true rfl) dL_law_907 ?_
        refine zk_icmp_eq (tgt := 1334) dL_law_910 rfl (fun g910 => ?_) (fun g910 => ?_)
        · replace h := zpos g910 h
          refine zk_iinc dL_law_1334 rfl (zinc (m := 4) (by decide)) (Nat.le_of_ble_eq_true rfl) (zk_eq [_, _, _, _] rfl ?_)
          refine zk_goto (tgt := 18) dL_law_1337 rfl ?_
          exact hr18 _ _ h
        · replace h := zneg g910 h
          refine zk_iconst (v := 0) dL_law_913 (by decide) ?_
          have h0 : (none : Option Unit) = some r := h
          cases h0
      replace h := zneg g32_25 h
      by_cases g32_26 : ((xs a3.toNatClampNeg) &&& (63 : Int32)) = 26
      · replace h := zpos g32_26 h
        refine zk_tableIn (tgt := 915) (off := 883) dL_law_32 (by rw [g32_26]; decide) (by rw [g32_26]; decide) (by rw [g32_26]; rfl) rfl ?_
        refine zk_aload_n dL_law_915 rfl rfl ?_
        refine zk_aload_n dL_law_916 rfl rfl ?_
        refine zk_iload_n dL_law_917 rfl rfl ?_
        refine zk_iconst (v := 1) dL_law_918 (by decide) ?_
        refine zk_iadd dL_law_919 ?_
        obtain ⟨g920, h⟩ := zguard h
        refine zk_sld g920 dL_law_920 ?_
        obtain ⟨p921, h921, h⟩ := zbind h
        refine zc_L_122 [] (As := [.int _]) (ok_X8_estate hj _ _ h921) rfl ⟨Nat.le_of_ble_eq_true rfl, Nat.le_of_ble_eq_true rfl⟩ ⟨Nat.le_of_ble_eq_true rfl, Nat.le_of_ble_eq_true rfl⟩ rfl rfl (Nat.le_of_ble_eq_true rfl) dL_law_921 ?_
        refine zk_aload_n dL_law_924 rfl rfl ?_
        refine zk_aload_n dL_law_925 rfl rfl ?_
        refine zk_iload_n dL_law_926 rfl rfl ?_
        refine zk_iconst (v := 1) dL_law_927 (by decide) ?_
        refine zk_iadd dL_law_928 ?_
        obtain ⟨g929, h⟩ := zguard h
        refine zk_sld g929 dL_law_929 ?_
        obtain ⟨p930, h930, h⟩ := zbind h
        refine zc_L_125 [.int _] (As := [.int _]) (ok_X9_estate hj _ _ h930) rfl ⟨Nat.le_of_ble_eq_true rfl, Nat.le_of_ble_eq_true rfl⟩ ⟨Nat.le_of_ble_eq_true rfl, Nat.le_of_ble_eq_true rfl⟩ rfl rfl (Nat.le_of_ble_eq_true rfl) dL_law_930 ?_
        refine zk_icmp_eq (tgt := 1334) dL_law_933 rfl (fun g933 => ?_) (fun g933 => ?_)
        · replace h := zpos g933 h
          refine zk_iinc dL_law_1334 rfl (zinc (m := 4) (by decide)) (Nat.le_of_ble_eq_true rfl) (zk_eq [_, _, _, _] rfl ?_)
          refine zk_goto (tgt := 18) dL_law_1337 rfl ?_
          exact hr18 _ _ h
        · replace h := zneg g933 h
          refine zk_iconst (v := 0) dL_law_936 (by decide) ?_
          have h0 : (none : Option Unit) = some r := h
          cases h0
      replace h := zneg g32_26 h
      by_cases g32_27 : ((xs a3.toNatClampNeg) &&& (63 : Int32)) = 27
      · replace h := zpos g32_27 h
        refine zk_tableIn (tgt := 938) (off := 906) dL_law_32 (by rw [g32_27]; decide) (by rw [g32_27]; decide) (by rw [g32_27]; rfl) rfl ?_
        refine zk_aload_n dL_law_938 rfl rfl ?_
        refine zk_aload_n dL_law_939 rfl rfl ?_
        refine zk_iload_n dL_law_940 rfl rfl ?_
        refine zk_iconst (v := 1) dL_law_941 (by decide) ?_
        refine zk_iadd dL_law_942 ?_
        obtain ⟨g943, h⟩ := zguard h
        refine zk_sld g943 dL_law_943 ?_
        refine zk_aload_n dL_law_944 rfl rfl ?_
        refine zk_iload_n dL_law_945 rfl rfl ?_
        refine zk_iconst (v := 2) dL_law_946 (by decide) ?_
        refine zk_iadd dL_law_947 ?_
        obtain ⟨g948, h⟩ := zguard h
        refine zk_sld g948 dL_law_948 ?_
        obtain ⟨p949, h949, h⟩ := zbind h
        refine zc_L_126 [] (As := [.int _, .int _]) (ok_X8_award hj _ _ _ h949) rfl ⟨Nat.le_of_ble_eq_true rfl, Nat.le_of_ble_eq_true rfl⟩ ⟨Nat.le_of_ble_eq_true rfl, Nat.le_of_ble_eq_true rfl⟩ rfl rfl (Nat.le_of_ble_eq_true rfl) dL_law_949 ?_
        refine zk_aload_n dL_law_952 rfl rfl ?_
        refine zk_aload_n dL_law_953 rfl rfl ?_
        refine zk_iload_n dL_law_954 rfl rfl ?_
        refine zk_iconst (v := 1) dL_law_955 (by decide) ?_
        refine zk_iadd dL_law_956 ?_
        obtain ⟨g957, h⟩ := zguard h
        refine zk_sld g957 dL_law_957 ?_
        refine zk_aload_n dL_law_958 rfl rfl ?_
        refine zk_iload_n dL_law_959 rfl rfl ?_
        refine zk_iconst (v := 2) dL_law_960 (by decide) ?_
        refine zk_iadd dL_law_961 ?_
        obtain ⟨g962, h⟩ := zguard h
        refine zk_sld g962 dL_law_962 ?_
        obtain ⟨p963, h963, h⟩ := zbind h
        refine zc_L_129 [.int _] (As := [.int _, .int _]) (ok_X9_award hj _ _ _ h963) rfl ⟨Nat.le_of_ble_eq_true rfl, Nat.le_of_ble_eq_true rfl⟩ ⟨Nat.le_of_ble_eq_true rfl, Nat.le_of_ble_eq_true rfl⟩ rfl rfl (Nat.le_of_ble_eq_true rfl) dL_law_963 ?_
        refine zk_icmp_eq (tgt := 1334) dL_law_966 rfl (fun g966 => ?_) (fun g966 => ?_)
        · replace h := zpos g966 h
          refine zk_iinc dL_law_1334 rfl (zinc (m := 4) (by decide)) (Nat.le_of_ble_eq_true rfl) (zk_eq [_, _, _, _] rfl ?_)
          refine zk_goto (tgt := 18) dL_law_1337 rfl ?_
          exact hr18 _ _ h
        · replace h := zneg g966 h
          refine zk_iconst (v := 0) dL_law_969 (by decide) ?_
          have h0 : (none : Option Unit) = some r := h
          cases h0
      replace h := zneg g32_27 h
      by_cases g32_28 : ((xs a3.toNatClampNeg) &&& (63 : Int32)) = 28
      · replace h := zpos g32_28 h
        refine zk_tableIn (tgt := 971) (off := 939) dL_law_32 (by rw [g32_28]; decide) (by rw [g32_28]; decide) (by rw [g32_28]; rfl) rfl ?_
        refine zk_aload_n dL_law_971 rfl rfl ?_
        refine zk_aload_n dL_law_972 rfl rfl ?_
        refine zk_iload_n dL_law_973 rfl rfl ?_
        refine zk_iconst (v := 1) dL_law_974 (by decide) ?_
        refine zk_iadd dL_law_975 ?_
        obtain ⟨g976, h⟩ := zguard h
        refine zk_sld g976 dL_law_976 ?_
        refine zk_aload_n dL_law_977 rfl rfl ?_
        refine zk_iload_n dL_law_978 rfl rfl ?_
        refine zk_iconst (v := 2) dL_law_979 (by decide) ?_
        refine zk_iadd dL_law_980 ?_
        obtain ⟨g981, h⟩ := zguard h
        refine zk_sld g981 dL_law_981 ?_
        obtain ⟨p982, h982, h⟩ := zbind h
        refine zc_L_130 [] (As := [.int _, .int _]) (ok_X8_place hj _ _ _ h982) rfl ⟨Nat.le_of_ble_eq_true rfl, Nat.le_of_ble_eq_true rfl⟩ ⟨Nat.le_of_ble_eq_true rfl, Nat.le_of_ble_eq_true rfl⟩ rfl rfl (Nat.le_of_ble_eq_true rfl) dL_law_982 ?_
        refine zk_aload_n dL_law_985 rfl rfl ?_
        refine zk_aload_n dL_law_986 rfl rfl ?_
        refine zk_iload_n dL_law_987 rfl rfl ?_
        refine zk_iconst (v := 1) dL_law_988 (by decide) ?_
        refine zk_iadd dL_law_989 ?_
        obtain ⟨g990, h⟩ := zguard h
        refine zk_sld g990 dL_law_990 ?_
        refine zk_aload_n dL_law_991 rfl rfl ?_
        refine zk_iload_n dL_law_992 rfl rfl ?_
        refine zk_iconst (v := 2) dL_law_993 (by decide) ?_
        refine zk_iadd dL_law_994 ?_
        obtain ⟨g995, h⟩ := zguard h
        refine zk_sld g995 dL_law_995 ?_
        obtain ⟨p996, h996, h⟩ := zbind h
        refine zc_L_133 [.int _] (As := [.int _, .int _]) (ok_X9_place hj _ _ _ h996) rfl ⟨Nat.le_of_ble_eq_true rfl, Nat.le_of_ble_eq_true rfl⟩ ⟨Nat.le_of_ble_eq_true rfl, Nat.le_of_ble_eq_true rfl⟩ rfl rfl (Nat.le_of_ble_eq_true rfl) dL_law_996 ?_
        refine zk_icmp_eq (tgt := 1334) dL_law_999 rfl (fun g999 => ?_) (fun g999 => ?_)
        · replace h := zpos g999 h
          refine zk_iinc dL_law_1334 rfl (zinc (m := 4) (by decide)) (Nat.le_of_ble_eq_true rfl) (zk_eq [_, _, _, _] rfl ?_)
          refine zk_goto (tgt := 18) dL_law_1337 rfl ?_
          exact hr18 _ _ h
        · replace h := zneg g999 h
          refine zk_iconst (v := 0) dL_law_1002 (by decide) ?_
          have h0 : (none : Option Unit) = some r := h
          cases h0
      replace h := zneg g32_28 h
      by_cases g32_29 : ((xs a3.toNatClampNeg) &&& (63 : Int32)) = 29
      · replace h := zpos g32_29 h
        refine zk_tableIn (tgt := 1004) (off := 972) dL_law_32 (by rw [g32_29]; decide) (by rw [g32_29]; decide) (by rw [g32_29]; rfl) rfl ?_
        refine zk_aload_n dL_law_1004 rfl rfl ?_
        refine zk_aload_n dL_law_1005 rfl rfl ?_
        refine zk_iload_n dL_law_1006 rfl rfl ?_
        refine zk_iconst (v := 1) dL_law_1007 (by decide) ?_
        refine zk_iadd dL_law_1008 ?_
        obtain ⟨g1009, h⟩ := zguard h
        refine zk_sld g1009 dL_law_1009 ?_
        obtain ⟨p1010, h1010, h⟩ := zbind h
        refine zc_L_134 [] (As := [.int _]) (ok_X8_user hj _ _ h1010) rfl ⟨Nat.le_of_ble_eq_true rfl, Nat.le_of_ble_eq_true rfl⟩ ⟨Nat.le_of_ble_eq_true rfl, Nat.le_of_ble_eq_true rfl⟩ rfl rfl (Nat.le_of_ble_eq_true rfl) dL_law_1010 ?_
        refine zk_aload_n dL_law_1013 rfl rfl ?_
        refine zk_aload_n dL_law_1014 rfl rfl ?_
        refine zk_iload_n dL_law_1015 rfl rfl ?_
        refine zk_iconst (v := 1) dL_law_1016 (by decide) ?_
        refine zk_iadd dL_law_1017 ?_
        obtain ⟨g1018, h⟩ := zguard h
        refine zk_sld g1018 dL_law_1018 ?_
        obtain ⟨p1019, h1019, h⟩ := zbind h
        refine zc_L_137 [.int _] (As := [.int _]) (ok_X9_user hj _ _ h1019) rfl ⟨Nat.le_of_ble_eq_true rfl, Nat.le_of_ble_eq_true rfl⟩ ⟨Nat.le_of_ble_eq_true rfl, Nat.le_of_ble_eq_true rfl⟩ rfl rfl (Nat.le_of_ble_eq_true rfl) dL_law_1019 ?_
        refine zk_icmp_eq (tgt := 1334) dL_law_1022 rfl (fun g1022 => ?_) (fun g1022 => ?_)
        · replace h := zpos g1022 h
          refine zk_iinc dL_law_1334 rfl (zinc (m := 4) (by decide)) (Nat.le_of_ble_eq_true rfl) (zk_eq [_, _, _, _] rfl ?_)
          refine zk_goto (tgt := 18) dL_law_1337 rfl ?_
          exact hr18 _ _ h
        · replace h := zneg g1022 h
          refine zk_iconst (v := 0) dL_law_1025 (by decide) ?_
          have h0 : (none : Option Unit) = some r := h
          cases h0
      replace h := zneg g32_29 h
      by_cases g32_30 : ((xs a3.toNatClampNeg) &&& (63 : Int32)) = 30
      · replace h := zpos g32_30 h
        refine zk_tableIn (tgt := 1027) (off := 995) dL_law_32 (by rw [g32_30]; decide) (by rw [g32_30]; decide) (by rw [g32_30]; rfl) rfl ?_
        refine zk_aload_n dL_law_1027 rfl rfl ?_
        refine zk_aload_n dL_law_1028 rfl rfl ?_
        refine zk_iload_n dL_law_1029 rfl rfl ?_
        refine zk_iconst (v := 1) dL_law_1030 (by decide) ?_
        refine zk_iadd dL_law_1031 ?_
        obtain ⟨g1032, h⟩ := zguard h
        refine zk_sld g1032 dL_law_1032 ?_
        obtain ⟨p1033, h1033, h⟩ := zbind h
        refine zc_L_138 [] (As := [.int _]) (ok_X8_alone hj _ _ h1033) rfl ⟨Nat.le_of_ble_eq_true rfl, Nat.le_of_ble_eq_true rfl⟩ ⟨Nat.le_of_ble_eq_true rfl, Nat.le_of_ble_eq_true rfl⟩ rfl rfl (Nat.le_of_ble_eq_true rfl) dL_law_1033 ?_
        refine zk_aload_n dL_law_1036 rfl rfl ?_
        refine zk_aload_n dL_law_1037 rfl rfl ?_
        refine zk_iload_n dL_law_1038 rfl rfl ?_
        refine zk_iconst (v := 1) dL_law_1039 (by decide) ?_
        refine zk_iadd dL_law_1040 ?_
        obtain ⟨g1041, h⟩ := zguard h
        refine zk_sld g1041 dL_law_1041 ?_
        obtain ⟨p1042, h1042, h⟩ := zbind h
        refine zc_L_141 [.int _] (As := [.int _]) (ok_X9_alone hj _ _ h1042) rfl ⟨Nat.le_of_ble_eq_true rfl, Nat.le_of_ble_eq_true rfl⟩ ⟨Nat.le_of_ble_eq_true rfl, Nat.le_of_ble_eq_true rfl⟩ rfl rfl (Nat.le_of_ble_eq_true rfl) dL_law_1042 ?_
        refine zk_icmp_eq (tgt := 1334) dL_law_1045 rfl (fun g1045 => ?_) (fun g1045 => ?_)
        · replace h := zpos g1045 h
          refine zk_iinc dL_law_1334 rfl (zinc (m := 4) (by decide)) (Nat.le_of_ble_eq_true rfl) (zk_eq [_, _, _, _] rfl ?_)
          refine zk_goto (tgt := 18) dL_law_1337 rfl ?_
          exact hr18 _ _ h
        · replace h := zneg g1045 h
          refine zk_iconst (v := 0) dL_law_1048 (by decide) ?_
          have h0 : (none : Option Unit) = some r := h
          cases h0
      replace h := zneg g32_30 h
      by_cases g32_31 : ((xs a3.toNatClampNeg) &&& (63 : Int32)) = 31
      · replace h := zpos g32_31 h
        refine zk_tableIn (tgt := 1050) (off := 1018) dL_law_32 (by rw [g32_31]; decide) (by rw [g32_31]; decide) (by rw [g32_31]; rfl) rfl ?_
        refine zk_aload_n dL_law_1050 rfl rfl ?_
        refine zk_aload_n dL_law_1051 rfl rfl ?_
        refine zk_iload_n dL_law_1052 rfl rfl ?_
        refine zk_iconst (v := 1) dL_law_1053 (by decide) ?_
        refine zk_iadd dL_law_1054 ?_
        obtain ⟨g1055, h⟩ := zguard h
        refine zk_sld g1055 dL_law_1055 ?_
        obtain ⟨p1056, h1056, h⟩ := zbind h
        refine zc_L_142 [] (As := [.int _]) (ok_X8_paid hj _ _ h1056) rfl ⟨Nat.le_of_ble_eq_true rfl, Nat.le_of_ble_eq_true rfl⟩ ⟨Nat.le_of_ble_eq_true rfl, Nat.le_of_ble_eq_true rfl⟩ rfl rfl (Nat.le_of_ble_eq_true rfl) dL_law_1056 ?_
        refine zk_aload_n dL_law_1059 rfl rfl ?_
        refine zk_aload_n dL_law_1060 rfl rfl ?_
        refine zk_iload_n dL_law_1061 rfl rfl ?_
        refine zk_iconst (v := 1) dL_law_1062 (by decide) ?_
        refine zk_iadd dL_law_1063 ?_
        obtain ⟨g1064, h⟩ := zguard h
        refine zk_sld g1064 dL_law_1064 ?_
        obtain ⟨p1065, h1065, h⟩ := zbind h
        refine zc_L_145 [.int _] (As := [.int _]) (ok_X9_paid hj _ _ h1065) rfl ⟨Nat.le_of_ble_eq_true rfl, Nat.le_of_ble_eq_true rfl⟩ ⟨Nat.le_of_ble_eq_true rfl, Nat.le_of_ble_eq_true rfl⟩ rfl rfl (Nat.le_of_ble_eq_true rfl) dL_law_1065 ?_
        refine zk_icmp_eq (tgt := 1334) dL_law_1068 rfl (fun g1068 => ?_) (fun g1068 => ?_)
        · replace h := zpos g1068 h
          refine zk_iinc dL_law_1334 rfl (zinc (m := 4) (by decide)) (Nat.le_of_ble_eq_true rfl) (zk_eq [_, _, _, _] rfl ?_)
          refine zk_goto (tgt := 18) dL_law_1337 rfl ?_
          exact hr18 _ _ h
        · replace h := zneg g1068 h
          refine zk_iconst (v := 0) dL_law_1071 (by decide) ?_
          have h0 : (none : Option Unit) = some r := h
          cases h0
      replace h := zneg g32_31 h
      by_cases g32_32 : ((xs a3.toNatClampNeg) &&& (63 : Int32)) = 32
      · replace h := zpos g32_32 h
        refine zk_tableIn (tgt := 1073) (off := 1041) dL_law_32 (by rw [g32_32]; decide) (by rw [g32_32]; decide) (by rw [g32_32]; rfl) rfl ?_
        refine zk_aload_n dL_law_1073 rfl rfl ?_
        refine zk_aload_n dL_law_1074 rfl rfl ?_
        refine zk_iload_n dL_law_1075 rfl rfl ?_
        refine zk_iconst (v := 1) dL_law_1076 (by decide) ?_
        refine zk_iadd dL_law_1077 ?_
        obtain ⟨g1078, h⟩ := zguard h
        refine zk_sld g1078 dL_law_1078 ?_
        refine zk_aload_n dL_law_1079 rfl rfl ?_
        refine zk_iload_n dL_law_1080 rfl rfl ?_
        refine zk_iconst (v := 2) dL_law_1081 (by decide) ?_
        refine zk_iadd dL_law_1082 ?_
        obtain ⟨g1083, h⟩ := zguard h
        refine zk_sld g1083 dL_law_1083 ?_
        obtain ⟨p1084, h1084, h⟩ := zbind h
        refine zc_L_146 [] (As := [.int _, .int _]) (ok_X8_pay hj _ _ _ h1084) rfl ⟨Nat.le_of_ble_eq_true rfl, Nat.le_of_ble_eq_true rfl⟩ ⟨Nat.le_of_ble_eq_true rfl, Nat.le_of_ble_eq_true rfl⟩ rfl rfl (Nat.le_of_ble_eq_true rfl) dL_law_1084 ?_
        refine zk_aload_n dL_law_1087 rfl rfl ?_
        refine zk_aload_n dL_law_1088 rfl rfl ?_
        refine zk_iload_n dL_law_1089 rfl rfl ?_
        refine zk_iconst (v := 1) dL_law_1090 (by decide) ?_
        refine zk_iadd dL_law_1091 ?_
        obtain ⟨g1092, h⟩ := zguard h
        refine zk_sld g1092 dL_law_1092 ?_
        refine zk_aload_n dL_law_1093 rfl rfl ?_
        refine zk_iload_n dL_law_1094 rfl rfl ?_
        refine zk_iconst (v := 2) dL_law_1095 (by decide) ?_
        refine zk_iadd dL_law_1096 ?_
        obtain ⟨g1097, h⟩ := zguard h
        refine zk_sld g1097 dL_law_1097 ?_
        obtain ⟨p1098, h1098, h⟩ := zbind h
        refine zc_L_149 [.int _] (As := [.int _, .int _]) (ok_X9_pay hj _ _ _ h1098) rfl ⟨Nat.le_of_ble_eq_true rfl, Nat.le_of_ble_eq_true rfl⟩ ⟨Nat.le_of_ble_eq_true rfl, Nat.le_of_ble_eq_true rfl⟩ rfl rfl (Nat.le_of_ble_eq_true rfl) dL_law_1098 ?_
        refine zk_icmp_eq (tgt := 1334) dL_law_1101 rfl (fun g1101 => ?_) (fun g1101 => ?_)
        · replace h := zpos g1101 h
          refine zk_iinc dL_law_1334 rfl (zinc (m := 4) (by decide)) (Nat.le_of_ble_eq_true rfl) (zk_eq [_, _, _, _] rfl ?_)
          refine zk_goto (tgt := 18) dL_law_1337 rfl ?_
          exact hr18 _ _ h
        · replace h := zneg g1101 h
          refine zk_iconst (v := 0) dL_law_1104 (by decide) ?_
          have h0 : (none : Option Unit) = some r := h
          cases h0
      replace h := zneg g32_32 h
      by_cases g32_33 : ((xs a3.toNatClampNeg) &&& (63 : Int32)) = 33
      · replace h := zpos g32_33 h
        refine zk_tableIn (tgt := 1106) (off := 1074) dL_law_32 (by rw [g32_33]; decide) (by rw [g32_33]; decide) (by rw [g32_33]; rfl) rfl ?_
        refine zk_aload_n dL_law_1106 rfl rfl ?_
        obtain ⟨p1107, h1107, h⟩ := zbind h
        refine zc_L_150 [] (As := []) (ok_X8_held hj _ h1107) rfl ⟨Nat.le_of_ble_eq_true rfl, Nat.le_of_ble_eq_true rfl⟩ ⟨Nat.le_of_ble_eq_true rfl, Nat.le_of_ble_eq_true rfl⟩ rfl rfl (Nat.le_of_ble_eq_true rfl) dL_law_1107 ?_
        refine zk_aload_n dL_law_1110 rfl rfl ?_
        obtain ⟨p1111, h1111, h⟩ := zbind h
        refine zc_L_153 [.int _] (As := []) (ok_X9_held hj _ h1111) rfl ⟨Nat.le_of_ble_eq_true rfl, Nat.le_of_ble_eq_true rfl⟩ ⟨Nat.le_of_ble_eq_true rfl, Nat.le_of_ble_eq_true rfl⟩ rfl rfl (Nat.le_of_ble_eq_true rfl) dL_law_1111 ?_
        refine zk_icmp_eq (tgt := 1334) dL_law_1114 rfl (fun g1114 => ?_) (fun g1114 => ?_)
        · replace h := zpos g1114 h
          refine zk_iinc dL_law_1334 rfl (zinc (m := 4) (by decide)) (Nat.le_of_ble_eq_true rfl) (zk_eq [_, _, _, _] rfl ?_)
          refine zk_goto (tgt := 18) dL_law_1337 rfl ?_
          exact hr18 _ _ h
        · replace h := zneg g1114 h
          refine zk_iconst (v := 0) dL_law_1117 (by decide) ?_
          have h0 : (none : Option Unit) = some r := h
          cases h0
      replace h := zneg g32_33 h
      by_cases g32_34 : ((xs a3.toNatClampNeg) &&& (63 : Int32)) = 34
      · replace h := zpos g32_34 h
        refine zk_tableIn (tgt := 1119) (off := 1087) dL_law_32 (by rw [g32_34]; decide) (by rw [g32_34]; decide) (by rw [g32_34]; rfl) rfl ?_
        refine zk_aload_n dL_law_1119 rfl rfl ?_
        refine zk_aload_n dL_law_1120 rfl rfl ?_
        refine zk_iload_n dL_law_1121 rfl rfl ?_
        refine zk_iconst (v := 1) dL_law_1122 (by decide) ?_
        refine zk_iadd dL_law_1123 ?_
        obtain ⟨g1124, h⟩ := zguard h
        refine zk_sld g1124 dL_law_1124 ?_
        refine zk_aload_n dL_law_1125 rfl rfl ?_
        refine zk_iload_n dL_law_1126 rfl rfl ?_
        refine zk_iconst (v := 2) dL_law_1127 (by decide) ?_
        refine zk_iadd dL_law_1128 ?_
        obtain ⟨g1129, h⟩ := zguard h
        refine zk_sld g1129 dL_law_1129 ?_
        obtain ⟨p1130, h1130, h⟩ := zbind h
        refine zc_L_154 [] (As := [.int _, .int _]) (ok_X8_market hj _ _ _ h1130) rfl ⟨Nat.le_of_ble_eq_true rfl, Nat.le_of_ble_eq_true rfl⟩ ⟨Nat.le_of_ble_eq_true rfl, Nat.le_of_ble_eq_true rfl⟩ rfl rfl (Nat.le_of_ble_eq_true rfl) dL_law_1130 ?_
        refine zk_aload_n dL_law_1133 rfl rfl ?_
        refine zk_aload_n dL_law_1134 rfl rfl ?_
        refine zk_iload_n dL_law_1135 rfl rfl ?_
        refine zk_iconst (v := 1) dL_law_1136 (by decide) ?_
        refine zk_iadd dL_law_1137 ?_
        obtain ⟨g1138, h⟩ := zguard h
        refine zk_sld g1138 dL_law_1138 ?_
        refine zk_aload_n dL_law_1139 rfl rfl ?_
        refine zk_iload_n dL_law_1140 rfl rfl ?_
        refine zk_iconst (v := 2) dL_law_1141 (by decide) ?_
        refine zk_iadd dL_law_1142 ?_
        obtain ⟨g1143, h⟩ := zguard h
        refine zk_sld g1143 dL_law_1143 ?_
        obtain ⟨p1144, h1144, h⟩ := zbind h
        refine zc_L_157 [.int _] (As := [.int _, .int _]) (ok_X9_market hj _ _ _ h1144) rfl ⟨Nat.le_of_ble_eq_true rfl, Nat.le_of_ble_eq_true rfl⟩ ⟨Nat.le_of_ble_eq_true rfl, Nat.le_of_ble_eq_true rfl⟩ rfl rfl (Nat.le_of_ble_eq_true rfl) dL_law_1144 ?_
        refine zk_icmp_eq (tgt := 1334) dL_law_1147 rfl (fun g1147 => ?_) (fun g1147 => ?_)
        · replace h := zpos g1147 h
          refine zk_iinc dL_law_1334 rfl (zinc (m := 4) (by decide)) (Nat.le_of_ble_eq_true rfl) (zk_eq [_, _, _, _] rfl ?_)
          refine zk_goto (tgt := 18) dL_law_1337 rfl ?_
          exact hr18 _ _ h
        · replace h := zneg g1147 h
          refine zk_iconst (v := 0) dL_law_1150 (by decide) ?_
          have h0 : (none : Option Unit) = some r := h
          cases h0
      replace h := zneg g32_34 h
      by_cases g32_35 : ((xs a3.toNatClampNeg) &&& (63 : Int32)) = 35
      · replace h := zpos g32_35 h
        refine zk_tableIn (tgt := 1152) (off := 1120) dL_law_32 (by rw [g32_35]; decide) (by rw [g32_35]; decide) (by rw [g32_35]; rfl) rfl ?_
        refine zk_aload_n dL_law_1152 rfl rfl ?_
        refine zk_aload_n dL_law_1153 rfl rfl ?_
        refine zk_iload_n dL_law_1154 rfl rfl ?_
        refine zk_iconst (v := 1) dL_law_1155 (by decide) ?_
        refine zk_iadd dL_law_1156 ?_
        obtain ⟨g1157, h⟩ := zguard h
        refine zk_sld g1157 dL_law_1157 ?_
        refine zk_aload_n dL_law_1158 rfl rfl ?_
        refine zk_iload_n dL_law_1159 rfl rfl ?_
        refine zk_iconst (v := 2) dL_law_1160 (by decide) ?_
        refine zk_iadd dL_law_1161 ?_
        obtain ⟨g1162, h⟩ := zguard h
        refine zk_sld g1162 dL_law_1162 ?_
        refine zk_aload_n dL_law_1163 rfl rfl ?_
        refine zk_iload_n dL_law_1164 rfl rfl ?_
        refine zk_iconst (v := 3) dL_law_1165 (by decide) ?_
        refine zk_iadd dL_law_1166 ?_
        obtain ⟨g1167, h⟩ := zguard h
        refine zk_sld g1167 dL_law_1167 ?_
        obtain ⟨p1168, h1168, h⟩ := zbind h
        refine zc_L_158 [] (As := [.int _, .int _, .int _]) (ok_X8_gain hj _ _ _ _ h1168) rfl ⟨Nat.le_of_ble_eq_true rfl, Nat.le_of_ble_eq_true rfl⟩ ⟨Nat.le_of_ble_eq_true rfl, Nat.le_of_ble_eq_true rfl⟩ rfl rfl (Nat.le_of_ble_eq_true rfl) dL_law_1168 ?_
        refine zk_aload_n dL_law_1171 rfl rfl ?_
        refine zk_aload_n dL_law_1172 rfl rfl ?_
        refine zk_iload_n dL_law_1173 rfl rfl ?_
        refine zk_iconst (v := 1) dL_law_1174 (by decide) ?_
        refine zk_iadd dL_law_1175 ?_
        obtain ⟨g1176, h⟩ := zguard h
        refine zk_sld g1176 dL_law_1176 ?_
        refine zk_aload_n dL_law_1177 rfl rfl ?_
        refine zk_iload_n dL_law_1178 rfl rfl ?_
        refine zk_iconst (v := 2) dL_law_1179 (by decide) ?_
        refine zk_iadd dL_law_1180 ?_
        obtain ⟨g1181, h⟩ := zguard h
        refine zk_sld g1181 dL_law_1181 ?_
        refine zk_aload_n dL_law_1182 rfl rfl ?_
        refine zk_iload_n dL_law_1183 rfl rfl ?_
        refine zk_iconst (v := 3) dL_law_1184 (by decide) ?_
        refine zk_iadd dL_law_1185 ?_
        obtain ⟨g1186, h⟩ := zguard h
        refine zk_sld g1186 dL_law_1186 ?_
        obtain ⟨p1187, h1187, h⟩ := zbind h
        refine zc_L_161 [.int _] (As := [.int _, .int _, .int _]) (ok_X9_gain hj _ _ _ _ h1187) rfl ⟨Nat.le_of_ble_eq_true rfl, Nat.le_of_ble_eq_true rfl⟩ ⟨Nat.le_of_ble_eq_true rfl, Nat.le_of_ble_eq_true rfl⟩ rfl rfl (Nat.le_of_ble_eq_true rfl) dL_law_1187 ?_
        refine zk_icmp_eq (tgt := 1334) dL_law_1190 rfl (fun g1190 => ?_) (fun g1190 => ?_)
        · replace h := zpos g1190 h
          refine zk_iinc dL_law_1334 rfl (zinc (m := 4) (by decide)) (Nat.le_of_ble_eq_true rfl) (zk_eq [_, _, _, _] rfl ?_)
          refine zk_goto (tgt := 18) dL_law_1337 rfl ?_
          exact hr18 _ _ h
        · replace h := zneg g1190 h
          refine zk_iconst (v := 0) dL_law_1193 (by decide) ?_
          have h0 : (none : Option Unit) = some r := h
          cases h0
      replace h := zneg g32_35 h
      by_cases g32_36 : ((xs a3.toNatClampNeg) &&& (63 : Int32)) = 36
      · replace h := zpos g32_36 h
        refine zk_tableIn (tgt := 1195) (off := 1163) dL_law_32 (by rw [g32_36]; decide) (by rw [g32_36]; decide) (by rw [g32_36]; rfl) rfl ?_
        refine zk_aload_n dL_law_1195 rfl rfl ?_
        refine zk_aload_n dL_law_1196 rfl rfl ?_
        refine zk_iload_n dL_law_1197 rfl rfl ?_
        refine zk_iconst (v := 1) dL_law_1198 (by decide) ?_
        refine zk_iadd dL_law_1199 ?_
        obtain ⟨g1200, h⟩ := zguard h
        refine zk_sld g1200 dL_law_1200 ?_
        obtain ⟨p1201, h1201, h⟩ := zbind h
        refine zc_L_162 [] (As := [.int _]) (ok_X8_most hj _ _ h1201) rfl ⟨Nat.le_of_ble_eq_true rfl, Nat.le_of_ble_eq_true rfl⟩ ⟨Nat.le_of_ble_eq_true rfl, Nat.le_of_ble_eq_true rfl⟩ rfl rfl (Nat.le_of_ble_eq_true rfl) dL_law_1201 ?_
        refine zk_aload_n dL_law_1204 rfl rfl ?_
        refine zk_aload_n dL_law_1205 rfl rfl ?_
        refine zk_iload_n dL_law_1206 rfl rfl ?_
        refine zk_iconst (v := 1) dL_law_1207 (by decide) ?_
        refine zk_iadd dL_law_1208 ?_
        obtain ⟨g1209, h⟩ := zguard h
        refine zk_sld g1209 dL_law_1209 ?_
        obtain ⟨p1210, h1210, h⟩ := zbind h
        refine zc_L_165 [.int _] (As := [.int _]) (ok_X9_most hj _ _ h1210) rfl ⟨Nat.le_of_ble_eq_true rfl, Nat.le_of_ble_eq_true rfl⟩ ⟨Nat.le_of_ble_eq_true rfl, Nat.le_of_ble_eq_true rfl⟩ rfl rfl (Nat.le_of_ble_eq_true rfl) dL_law_1210 ?_
        refine zk_icmp_eq (tgt := 1334) dL_law_1213 rfl (fun g1213 => ?_) (fun g1213 => ?_)
        · replace h := zpos g1213 h
          refine zk_iinc dL_law_1334 rfl (zinc (m := 4) (by decide)) (Nat.le_of_ble_eq_true rfl) (zk_eq [_, _, _, _] rfl ?_)
          refine zk_goto (tgt := 18) dL_law_1337 rfl ?_
          exact hr18 _ _ h
        · replace h := zneg g1213 h
          refine zk_iconst (v := 0) dL_law_1216 (by decide) ?_
          have h0 : (none : Option Unit) = some r := h
          cases h0
      replace h := zneg g32_36 h
      by_cases g32_37 : ((xs a3.toNatClampNeg) &&& (63 : Int32)) = 37
      · replace h := zpos g32_37 h
        refine zk_tableIn (tgt := 1218) (off := 1186) dL_law_32 (by rw [g32_37]; decide) (by rw [g32_37]; decide) (by rw [g32_37]; rfl) rfl ?_
        refine zk_aload_n dL_law_1218 rfl rfl ?_
        refine zk_aload_n dL_law_1219 rfl rfl ?_
        refine zk_iload_n dL_law_1220 rfl rfl ?_
        refine zk_iconst (v := 1) dL_law_1221 (by decide) ?_
        refine zk_iadd dL_law_1222 ?_
        obtain ⟨g1223, h⟩ := zguard h
        refine zk_sld g1223 dL_law_1223 ?_
        refine zk_aload_n dL_law_1224 rfl rfl ?_
        refine zk_iload_n dL_law_1225 rfl rfl ?_
        refine zk_iconst (v := 2) dL_law_1226 (by decide) ?_
        refine zk_iadd dL_law_1227 ?_
        obtain ⟨g1228, h⟩ := zguard h
        refine zk_sld g1228 dL_law_1228 ?_
        obtain ⟨p1229, h1229, h⟩ := zbind h
        refine zc_L_166 [] (As := [.int _, .int _]) (ok_X8_price hj _ _ _ h1229) rfl ⟨Nat.le_of_ble_eq_true rfl, Nat.le_of_ble_eq_true rfl⟩ ⟨Nat.le_of_ble_eq_true rfl, Nat.le_of_ble_eq_true rfl⟩ rfl rfl (Nat.le_of_ble_eq_true rfl) dL_law_1229 ?_
        refine zk_aload_n dL_law_1232 rfl rfl ?_
        refine zk_aload_n dL_law_1233 rfl rfl ?_
        refine zk_iload_n dL_law_1234 rfl rfl ?_
        refine zk_iconst (v := 1) dL_law_1235 (by decide) ?_
        refine zk_iadd dL_law_1236 ?_
        obtain ⟨g1237, h⟩ := zguard h
        refine zk_sld g1237 dL_law_1237 ?_
        refine zk_aload_n dL_law_1238 rfl rfl ?_
        refine zk_iload_n dL_law_1239 rfl rfl ?_
        refine zk_iconst (v := 2) dL_law_1240 (by decide) ?_
        refine zk_iadd dL_law_1241 ?_
        obtain ⟨g1242, h⟩ := zguard h
        refine zk_sld g1242 dL_law_1242 ?_
        obtain ⟨p1243, h1243, h⟩ := zbind h
        refine zc_L_169 [.int _] (As := [.int _, .int _]) (ok_X9_price hj _ _ _ h1243) rfl ⟨Nat.le_of_ble_eq_true rfl, Nat.le_of_ble_eq_true rfl⟩ ⟨Nat.le_of_ble_eq_true rfl, Nat.le_of_ble_eq_true rfl⟩ rfl rfl (Nat.le_of_ble_eq_true rfl) dL_law_1243 ?_
        refine zk_icmp_eq (tgt := 1334) dL_law_1246 rfl (fun g1246 => ?_) (fun g1246 => ?_)
        · replace h := zpos g1246 h
          refine zk_iinc dL_law_1334 rfl (zinc (m := 4) (by decide)) (Nat.le_of_ble_eq_true rfl) (zk_eq [_, _, _, _] rfl ?_)
          refine zk_goto (tgt := 18) dL_law_1337 rfl ?_
          exact hr18 _ _ h
        · replace h := zneg g1246 h
          refine zk_iconst (v := 0) dL_law_1249 (by decide) ?_
          have h0 : (none : Option Unit) = some r := h
          cases h0
      replace h := zneg g32_37 h
      by_cases g32_38 : ((xs a3.toNatClampNeg) &&& (63 : Int32)) = 38
      · replace h := zpos g32_38 h
        refine zk_tableIn (tgt := 1251) (off := 1219) dL_law_32 (by rw [g32_38]; decide) (by rw [g32_38]; decide) (by rw [g32_38]; rfl) rfl ?_
        refine zk_aload_n dL_law_1251 rfl rfl ?_
        refine zk_aload_n dL_law_1252 rfl rfl ?_
        refine zk_iload_n dL_law_1253 rfl rfl ?_
        refine zk_iconst (v := 1) dL_law_1254 (by decide) ?_
        refine zk_iadd dL_law_1255 ?_
        obtain ⟨g1256, h⟩ := zguard h
        refine zk_sld g1256 dL_law_1256 ?_
        refine zk_aload_n dL_law_1257 rfl rfl ?_
        refine zk_iload_n dL_law_1258 rfl rfl ?_
        refine zk_iconst (v := 2) dL_law_1259 (by decide) ?_
        refine zk_iadd dL_law_1260 ?_
        obtain ⟨g1261, h⟩ := zguard h
        refine zk_sld g1261 dL_law_1261 ?_
        obtain ⟨p1262, h1262, h⟩ := zbind h
        refine zc_L_170 [] (As := [.int _, .int _]) (ok_X8_tell hj _ _ _ h1262) rfl ⟨Nat.le_of_ble_eq_true rfl, Nat.le_of_ble_eq_true rfl⟩ ⟨Nat.le_of_ble_eq_true rfl, Nat.le_of_ble_eq_true rfl⟩ rfl rfl (Nat.le_of_ble_eq_true rfl) dL_law_1262 ?_
        refine zk_aload_n dL_law_1265 rfl rfl ?_
        refine zk_aload_n dL_law_1266 rfl rfl ?_
        refine zk_iload_n dL_law_1267 rfl rfl ?_
        refine zk_iconst (v := 1) dL_law_1268 (by decide) ?_
        refine zk_iadd dL_law_1269 ?_
        obtain ⟨g1270, h⟩ := zguard h
        refine zk_sld g1270 dL_law_1270 ?_
        refine zk_aload_n dL_law_1271 rfl rfl ?_
        refine zk_iload_n dL_law_1272 rfl rfl ?_
        refine zk_iconst (v := 2) dL_law_1273 (by decide) ?_
        refine zk_iadd dL_law_1274 ?_
        obtain ⟨g1275, h⟩ := zguard h
        refine zk_sld g1275 dL_law_1275 ?_
        obtain ⟨p1276, h1276, h⟩ := zbind h
        refine zc_L_173 [.int _] (As := [.int _, .int _]) (ok_X9_tell hj _ _ _ h1276) rfl ⟨Nat.le_of_ble_eq_true rfl, Nat.le_of_ble_eq_true rfl⟩ ⟨Nat.le_of_ble_eq_true rfl, Nat.le_of_ble_eq_true rfl⟩ rfl rfl (Nat.le_of_ble_eq_true rfl) dL_law_1276 ?_
        refine zk_icmp_eq (tgt := 1334) dL_law_1279 rfl (fun g1279 => ?_) (fun g1279 => ?_)
        · replace h := zpos g1279 h
          refine zk_iinc dL_law_1334 rfl (zinc (m := 4) (by decide)) (Nat.le_of_ble_eq_true rfl) (zk_eq [_, _, _, _] rfl ?_)
          refine zk_goto (tgt := 18) dL_law_1337 rfl ?_
          exact hr18 _ _ h
        · replace h := zneg g1279 h
          refine zk_iconst (v := 0) dL_law_1282 (by decide) ?_
          have h0 : (none : Option Unit) = some r := h
          cases h0
      replace h := zneg g32_38 h
      by_cases g32_39 : ((xs a3.toNatClampNeg) &&& (63 : Int32)) = 39
      · replace h := zpos g32_39 h
        refine zk_tableIn (tgt := 1284) (off := 1252) dL_law_32 (by rw [g32_39]; decide) (by rw [g32_39]; decide) (by rw [g32_39]; rfl) rfl ?_
        refine zk_aload_n dL_law_1284 rfl rfl ?_
        obtain ⟨p1285, h1285, h⟩ := zbind h
        refine zc_L_174 [] (As := []) (ok_X8_clear hj _ h1285) rfl ⟨Nat.le_of_ble_eq_true rfl, Nat.le_of_ble_eq_true rfl⟩ ⟨Nat.le_of_ble_eq_true rfl, Nat.le_of_ble_eq_true rfl⟩ rfl rfl (Nat.le_of_ble_eq_true rfl) dL_law_1285 ?_
        refine zk_aload_n dL_law_1288 rfl rfl ?_
        obtain ⟨p1289, h1289, h⟩ := zbind h
        refine zc_L_177 [.int _] (As := []) (ok_X9_clear hj _ h1289) rfl ⟨Nat.le_of_ble_eq_true rfl, Nat.le_of_ble_eq_true rfl⟩ ⟨Nat.le_of_ble_eq_true rfl, Nat.le_of_ble_eq_true rfl⟩ rfl rfl (Nat.le_of_ble_eq_true rfl) dL_law_1289 ?_
        refine zk_icmp_eq (tgt := 1334) dL_law_1292 rfl (fun g1292 => ?_) (fun g1292 => ?_)
        · replace h := zpos g1292 h
          refine zk_iinc dL_law_1334 rfl (zinc (m := 4) (by decide)) (Nat.le_of_ble_eq_true rfl) (zk_eq [_, _, _, _] rfl ?_)
          refine zk_goto (tgt := 18) dL_law_1337 rfl ?_
          exact hr18 _ _ h
        · replace h := zneg g1292 h
          refine zk_iconst (v := 0) dL_law_1295 (by decide) ?_
          have h0 : (none : Option Unit) = some r := h
          cases h0
      replace h := zneg g32_39 h
      by_cases g32_40 : ((xs a3.toNatClampNeg) &&& (63 : Int32)) = 40
      · replace h := zpos g32_40 h
        refine zk_tableIn (tgt := 1297) (off := 1265) dL_law_32 (by rw [g32_40]; decide) (by rw [g32_40]; decide) (by rw [g32_40]; rfl) rfl ?_
        refine zk_aload_n dL_law_1297 rfl rfl ?_
        refine zk_aload_n dL_law_1298 rfl rfl ?_
        refine zk_iload_n dL_law_1299 rfl rfl ?_
        refine zk_iconst (v := 1) dL_law_1300 (by decide) ?_
        refine zk_iadd dL_law_1301 ?_
        obtain ⟨g1302, h⟩ := zguard h
        refine zk_sld g1302 dL_law_1302 ?_
        obtain ⟨p1303, h1303, h⟩ := zbind h
        refine zc_L_178 [] (As := [.int _]) (ok_X8_count hj _ _ h1303) rfl ⟨Nat.le_of_ble_eq_true rfl, Nat.le_of_ble_eq_true rfl⟩ ⟨Nat.le_of_ble_eq_true rfl, Nat.le_of_ble_eq_true rfl⟩ rfl rfl (Nat.le_of_ble_eq_true rfl) dL_law_1303 ?_
        refine zk_aload_n dL_law_1306 rfl rfl ?_
        refine zk_aload_n dL_law_1307 rfl rfl ?_
        refine zk_iload_n dL_law_1308 rfl rfl ?_
        refine zk_iconst (v := 1) dL_law_1309 (by decide) ?_
        refine zk_iadd dL_law_1310 ?_
        obtain ⟨g1311, h⟩ := zguard h
        refine zk_sld g1311 dL_law_1311 ?_
        obtain ⟨p1312, h1312, h⟩ := zbind h
        refine zc_L_181 [.int _] (As := [.int _]) (ok_X9_count hj _ _ h1312) rfl ⟨Nat.le_of_ble_eq_true rfl, Nat.le_of_ble_eq_true rfl⟩ ⟨Nat.le_of_ble_eq_true rfl, Nat.le_of_ble_eq_true rfl⟩ rfl rfl (Nat.le_of_ble_eq_true rfl) dL_law_1312 ?_
        refine zk_icmp_eq (tgt := 1334) dL_law_1315 rfl (fun g1315 => ?_) (fun g1315 => ?_)
        · replace h := zpos g1315 h
          refine zk_iinc dL_law_1334 rfl (zinc (m := 4) (by decide)) (Nat.le_of_ble_eq_true rfl) (zk_eq [_, _, _, _] rfl ?_)
          refine zk_goto (tgt := 18) dL_law_1337 rfl ?_
          exact hr18 _ _ h
        · replace h := zneg g1315 h
          refine zk_iconst (v := 0) dL_law_1318 (by decide) ?_
          have h0 : (none : Option Unit) = some r := h
          cases h0
      replace h := zneg g32_40 h
      by_cases g32_41 : ((xs a3.toNatClampNeg) &&& (63 : Int32)) = 41
      · replace h := zpos g32_41 h
        refine zk_tableIn (tgt := 1320) (off := 1288) dL_law_32 (by rw [g32_41]; decide) (by rw [g32_41]; decide) (by rw [g32_41]; rfl) rfl ?_
        refine zk_aload_n dL_law_1320 rfl rfl ?_
        obtain ⟨p1321, h1321, h⟩ := zbind h
        refine zc_L_182 [] (As := []) (ok_X8_digest hj _ h1321) rfl ⟨Nat.le_of_ble_eq_true rfl, Nat.le_of_ble_eq_true rfl⟩ ⟨Nat.le_of_ble_eq_true rfl, Nat.le_of_ble_eq_true rfl⟩ rfl rfl (Nat.le_of_ble_eq_true rfl) dL_law_1321 ?_
        refine zk_aload_n dL_law_1324 rfl rfl ?_
        obtain ⟨p1325, h1325, h⟩ := zbind h
        refine zc_L_186 [.long _] (As := []) (ok_X9_digest hj _ h1325) rfl ⟨Nat.le_of_ble_eq_true rfl, Nat.le_of_ble_eq_true rfl⟩ ⟨Nat.le_of_ble_eq_true rfl, Nat.le_of_ble_eq_true rfl⟩ rfl rfl (Nat.le_of_ble_eq_true rfl) dL_law_1325 ?_
        refine zk_lcmp dL_law_1328 ?_
        refine zk_if_eq (tgt := 1334) dL_law_1329 rfl (fun g1329 => ?_) (fun g1329 => ?_)
        · replace h := zpos g1329 h
          refine zk_iinc dL_law_1334 rfl (zinc (m := 4) (by decide)) (Nat.le_of_ble_eq_true rfl) (zk_eq [_, _, _, _] rfl ?_)
          refine zk_goto (tgt := 18) dL_law_1337 rfl ?_
          exact hr18 _ _ h
        · replace h := zneg g1329 h
          refine zk_iconst (v := 0) dL_law_1332 (by decide) ?_
          have h0 : (none : Option Unit) = some r := h
          cases h0
      replace h := zneg g32_41 h
      refine zk_tableOut (tgt := 1334) dL_law_32 (zsw_s (k := 41) (zsw_s (k := 40) (zsw_s (k := 39) (zsw_s (k := 38) (zsw_s (k := 37) (zsw_s (k := 36) (zsw_s (k := 35) (zsw_s (k := 34) (zsw_s (k := 33) (zsw_s (k := 32) (zsw_s (k := 31) (zsw_s (k := 30) (zsw_s (k := 29) (zsw_s (k := 28) (zsw_s (k := 27) (zsw_s (k := 26) (zsw_s (k := 25) (zsw_s (k := 24) (zsw_s (k := 23) (zsw_s (k := 22) (zsw_s (k := 21) (zsw_s (k := 20) (zsw_s (k := 19) (zsw_s (k := 18) (zsw_s (k := 17) (zsw_s (k := 16) (zsw_s (k := 15) (zsw_s (k := 14) (zsw_s (k := 13) (zsw_s (k := 12) (zsw_s (k := 11) (zsw_s (k := 10) (zsw_s (k := 9) (zsw_s (k := 8) (zsw_s (k := 7) (zsw_s (k := 6) (zsw_s (k := 5) (zsw_s (k := 4) (zsw_s (k := 3) (zsw_s (k := 2) (zsw_s (k := 1) (zsw_s (k := 0) (zsw0 _) g32_0) g32_1) g32_2) g32_3) g32_4) g32_5) g32_6) g32_7) g32_8) g32_9) g32_10) g32_11) g32_12) g32_13) g32_14) g32_15) g32_16) g32_17) g32_18) g32_19) g32_20) g32_21) g32_22) g32_23) g32_24) g32_25) g32_26) g32_27) g32_28) g32_29) g32_30) g32_31) g32_32) g32_33) g32_34) g32_35) g32_36) g32_37) g32_38) g32_39) g32_40) g32_41) rfl ?_
      refine zk_iinc dL_law_1334 rfl (zinc (m := 4) (by decide)) (Nat.le_of_ble_eq_true rfl) (zk_eq [_, _, _, _] rfl ?_)
      refine zk_goto (tgt := 18) dL_law_1337 rfl ?_
      exact hr18 _ _ h
