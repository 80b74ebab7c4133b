def D_X5_addUp_B18 (rec2 : Int32 → zS → Option zS) (a0 : Nat) (a1 : Int32) (a2 : Nat) (a3 : Int32) (rec18 : Int32 → zS → Option zS) (a4 : Int32) (s : zS) : Option zS :=
    if ((2 : Int32) <<< (a3 &&& 31)) ≤ a4 then (
      rec2 (a3 + 1) s
    ) else (
      zgd (1 ≤ (zshp a2).1 ∧ (zshp a2).1 ≤ 5) <|
      if (Int32.ofNat (zlen a2)) ≤ a4 then (
        rec2 (a3 + 1) s
      ) else (
        zgd (zoI a2 (a4 - ((1 : Int32) <<< (a3 &&& 31))) = true) <|
        zgd (zoI a0 a3 = true) <|
        zgd (zoI a2 a4 = true) <|
        let s48 : zS := zwI s a2 a4.toNatClampNeg ((s.1 a2 (a4 - ((1 : Int32) <<< (a3 &&& 31))).toNatClampNeg) + (s.1 a0 a3.toNatClampNeg))
        rec18 (a4 + 1) s48
      )
    )
def D_X5_addUp_L18 (rec2 : Int32 → zS → Option zS) (a0 : Nat) (a1 : Int32) (a2 : Nat) (a3 : Int32) (n : Nat) (a4 : Int32) (s : zS) : Option zS := zfx (fun (rec : Int32 × zS → Option zS) q => D_X5_addUp_B18 rec2 a0 a1 a2 a3 (fun v0 v1 => rec (v0, v1)) q.1 q.2) n (a4, s)
set_option maxRecDepth 100000 in
theorem D_X5_addUp_L18_s (rec2 : Int32 → zS → Option zS) (a0 : Nat) (a1 : Int32) (a2 : Nat) (a3 : Int32) (n : Nat) (a4 : Int32) (s : zS) : D_X5_addUp_L18 rec2 a0 a1 a2 a3 (n + 1) a4 s = D_X5_addUp_B18 rec2 a0 a1 a2 a3 (D_X5_addUp_L18 rec2 a0 a1 a2 a3 n) a4 s := rfl
set_option maxRecDepth 100000 in
theorem ok_X5_addUp_L18 {l : Launch} {D : va_G} {ad : Nat → Nat} {cA : Nat → ClassId} (hj : zInj ad) (r : zS) (a0 : Nat) (a1 : Int32) (a2 : Nat) (a3 : Int32) (rec2 : Int32 → zS → Option zS) (hr2 : ∀ (b3 : Int32) (s : zS), rec2 b3 s = some r → zOk l D ad cA (zJm jX5_addUp) (zEnd D ad cA none r) 2 [some (.ref a0), some (.int a1), some (.ref a2), some (.int b3), none] [] s) : ∀ (n : Nat) (a4 : Int32) (s : zS), D_X5_addUp_L18 rec2 a0 a1 a2 a3 n a4 s = some r → zOk l D ad cA (zJm jX5_addUp) (zEnd D ad cA none r) 18 [some (.ref a0), some (.int a1), some (.ref a2), some (.int a3), some (.int a4)] [] s := by
  intro n
  induction n with
  | zero =>
    intro a4 s h
    have h0 : (none : Option zS) = some r := h
    cases h0
  | succ n hr18 =>
    intro a4 s h
    have h : D_X5_addUp_B18 rec2 a0 a1 a2 a3 (D_X5_addUp_L18 rec2 a0 a1 a2 a3 n) a4 s = some r := h
    unfold D_X5_addUp_B18 at h
    refine zk_iload dX5_addUp_18 rfl ?_
    refine zk_iconst (v := 2) dX5_addUp_20 (by decide) ?_
    refine zk_iload_n dX5_addUp_21 rfl rfl ?_
    refine zk_ishl dX5_addUp_22 ?_
    refine zk_icmp_ge (tgt := 55) dX5_addUp_23 rfl (fun g23 => ?_) (fun g23 => ?_)
    · replace h := zpos g23 h
      refine zk_iinc dX5_addUp_55 rfl (zinc (m := 1) (by decide)) (by decide) (zk_eq [_, _, _, _, _] rfl ?_)
      refine zk_goto (tgt := 2) dX5_addUp_58 rfl ?_
      refine zk_mask [true, true, true, true, false] ?_
      exact hr2 _ _ h
    · replace h := zneg g23 h
      refine zk_iload dX5_addUp_26 rfl ?_
      refine zk_aload_n dX5_addUp_28 rfl rfl ?_
      obtain ⟨g29, h⟩ := zguard h
      refine zk_alen g29 rfl dX5_addUp_29 ?_
      refine zk_icmp_ge (tgt := 55) dX5_addUp_30 rfl (fun g30 => ?_) (fun g30 => ?_)
      · replace h := zpos g30 h
        refine zk_iinc dX5_addUp_55 rfl (zinc (m := 1) (by decide)) (by decide) (zk_eq [_, _, _, _, _] rfl ?_)
        refine zk_goto (tgt := 2) dX5_addUp_58 rfl ?_
        refine zk_mask [true, true, true, true, false] ?_
        exact hr2 _ _ h
      · replace h := zneg g30 h
        refine zk_aload_n dX5_addUp_33 rfl rfl ?_
        refine zk_iload dX5_addUp_34 rfl ?_
        refine zk_aload_n dX5_addUp_36 rfl rfl ?_
        refine zk_iload dX5_addUp_37 rfl ?_
        refine zk_iconst (v := 1) dX5_addUp_39 (by decide) ?_
        refine zk_iload_n dX5_addUp_40 rfl rfl ?_
        refine zk_ishl dX5_addUp_41 ?_
        refine zk_isub dX5_addUp_42 ?_
        obtain ⟨g43, h⟩ := zguard h
        refine zk_iald g43 dX5_addUp_43 ?_
        refine zk_aload_n dX5_addUp_44 rfl rfl ?_
        refine zk_iload_n dX5_addUp_45 rfl rfl ?_
        obtain ⟨g46, h⟩ := zguard h
        refine zk_iald g46 dX5_addUp_46 ?_
        refine zk_iadd dX5_addUp_47 ?_
        obtain ⟨g48, h⟩ := zguard h
        refine zk_iast g48 dX5_addUp_48 ?_
        refine zk_iinc dX5_addUp_49 rfl (zinc (m := 1) (by decide)) (by decide) (zk_eq [_, _, _, _, _] rfl ?_)
        refine zk_goto (tgt := 18) dX5_addUp_52 rfl ?_
        exact hr18 _ _ h
def D_X5_addUp_B2 (a0 : Nat) (a1 : Int32) (a2 : Nat) (rec2 : Int32 → zS → Option zS) (a3 : Int32) (s : zS) : Option zS :=
    if a1 ≤ a3 then (
      some s
    ) else (
      zgd (1 ≤ (zshp a0).1 ∧ (zshp a0).1 ≤ 5) <|
      if (Int32.ofNat (zlen a0)) ≤ a3 then (
        some s
      ) else (
        D_X5_addUp_L18 rec2 a0 a1 a2 a3 zFU ((1 : Int32) <<< (a3 &&& 31)) s
      )
    )
def D_X5_addUp_L2 (a0 : Nat) (a1 : Int32) (a2 : Nat) (n : Nat) (a3 : Int32) (s : zS) : Option zS := zfx (fun (rec : Int32 × zS → Option zS) q => D_X5_addUp_B2 a0 a1 a2 (fun v0 v1 => rec (v0, v1)) q.1 q.2) n (a3, s)
set_option maxRecDepth 100000 in
theorem D_X5_addUp_L2_s (a0 : Nat) (a1 : Int32) (a2 : Nat) (n : Nat) (a3 : Int32) (s : zS) : D_X5_addUp_L2 a0 a1 a2 (n + 1) a3 s = D_X5_addUp_B2 a0 a1 a2 (D_X5_addUp_L2 a0 a1 a2 n) a3 s := rfl
set_option maxRecDepth 100000 in
theorem ok_X5_addUp_L2 {l : Launch} {D : va_G} {ad : Nat → Nat} {cA : Nat → ClassId} (hj : zInj ad) (r : zS) (a0 : Nat) (a1 : Int32) (a2 : Nat) : ∀ (n : Nat) (a3 : Int32) (s : zS), D_X5_addUp_L2 a0 a1 a2 n a3 s = some r → zOk l D ad cA (zJm jX5_addUp) (zEnd D ad cA none r) 2 [some (.ref a0), some (.int a1), some (.ref a2), some (.int a3), none] [] s := by
  intro n
  induction n with
  | zero =>
    intro a3 s h
    have h0 : (none : Option zS) = some r := h
    cases h0
  | succ n hr2 =>
    intro a3 s h
    have h : D_X5_addUp_B2 a0 a1 a2 (D_X5_addUp_L2 a0 a1 a2 n) a3 s = some r := h
    unfold D_X5_addUp_B2 at h
    refine zk_iload_n dX5_addUp_2 rfl rfl ?_
    refine zk_iload_n dX5_addUp_3 rfl rfl ?_
    refine zk_icmp_ge (tgt := 61) dX5_addUp_4 rfl (fun g4 => ?_) (fun g4 => ?_)
    · replace h := zpos g4 h
      have e9 := Option.some.inj h
      subst e9
      exact zk_vret rfl ⟨rfl, rfl⟩ dX5_addUp_61
    · replace h := zneg g4 h
      refine zk_iload_n dX5_addUp_7 rfl rfl ?_
      refine zk_aload_n dX5_addUp_8 rfl rfl ?_
      obtain ⟨g9, h⟩ := zguard h
      refine zk_alen g9 rfl dX5_addUp_9 ?_
      refine zk_icmp_ge (tgt := 61) dX5_addUp_10 rfl (fun g10 => ?_) (fun g10 => ?_)
      · replace h := zpos g10 h
        have e9 := Option.some.inj h
        subst e9
        exact zk_vret rfl ⟨rfl, rfl⟩ dX5_addUp_61
      · replace h := zneg g10 h
        refine zk_iconst (v := 1) dX5_addUp_13 (by decide) ?_
        refine zk_iload_n dX5_addUp_14 rfl rfl ?_
        refine zk_ishl dX5_addUp_15 ?_
        refine zk_istore (i := 4) dX5_addUp_16 (by decide) (zk_eq [_, _, _, _, _] rfl ?_)
        exact ok_X5_addUp_L18 hj r _ _ _ _ _ hr2 _ _ _ h
def D_X5_addUp (s : zS) (a0 : Nat) (a1 : Int32) (a2 : Nat) : Option zS :=
  D_X5_addUp_L2 a0 a1 a2 zFU (0 : Int32) s
set_option maxRecDepth 100000 in
theorem ok_X5_addUp {l : Launch} {D : va_G} {ad : Nat → Nat} {cA : Nat → ClassId} (hj : zInj ad) (s : zS) (a0 : Nat) (a1 : Int32) (a2 : Nat) {r : zS} (h : D_X5_addUp s a0 a1 a2 = some r) : zMet l D ad cA jX5_addUp [.ref a0, .int a1, .ref a2] s none r := by
  refine zMet_of jX5_addUp [some (.ref a0), some (.int a1), some (.ref a2), none, none] (by decide +kernel) (Nat.le_of_ble_eq_true rfl) rfl hj ?_
  unfold D_X5_addUp at h
  refine zk_iconst (v := 0) dX5_addUp_0 (by decide) ?_
  refine zk_istore_n (i := 3) dX5_addUp_1 rfl (by decide) (zk_eq [_, _, _, _, _] rfl ?_)
  exact ok_X5_addUp_L2 hj r _ _ _ _ _ _ h
def D_X5_replaceWeight (s : zS) (a1 : Int32) (a2 : Int32) : Option (Int32 × zS) :=
  zgd (zin a1 8 = true) <|
  zgd (zin a1 8 = true) <|
  let s13 : zS := zwI s 39 a1.toNatClampNeg a2
  (D_X5_addUp s13 39 (s13.1 38 0) 40).bind fun p26 =>
  let s31 : zS := zwI p26 38 9 (0 : Int32)
  some ((s.1 39 a1.toNatClampNeg), s31)
set_option maxRecDepth 100000 in
theorem ok_X5_replaceWeight {l : Launch} {D : va_G} {ad : Nat → Nat} {cA : Nat → ClassId} (hj : zInj ad) (s : zS) (a1 : Int32) (a2 : Int32) {r : (Int32 × zS)} (h : D_X5_replaceWeight s a1 a2 = some r) : zMet l D ad cA jX5_replaceWeight [.ref 38, .int a1, .int a2] s (some (.int r.1)) r.2 := by
  refine zMet_of jX5_replaceWeight [some (.ref 38), some (.int a1), some (.int a2), none] (by decide +kernel) (Nat.le_of_ble_eq_true rfl) rfl hj ?_
  unfold D_X5_replaceWeight at h
  refine zk_aload_n dX5_replaceWeight_0 rfl rfl ?_
  refine zf_X5_18 rfl dX5_replaceWeight_1 ?_
  refine zk_iload_n dX5_replaceWeight_4 rfl rfl ?_
  obtain ⟨g5, h⟩ := zguard h
  refine zk_iald (zoI_of rfl g5) dX5_replaceWeight_5 ?_
  refine zk_istore_n (i := 3) dX5_replaceWeight_6 rfl (by decide) (zk_eq [_, _, _, _] rfl ?_)
  refine zk_aload_n dX5_replaceWeight_7 rfl rfl ?_
  refine zf_X5_18 rfl dX5_replaceWeight_8 ?_
  refine zk_iload_n dX5_replaceWeight_11 rfl rfl ?_
  refine zk_iload_n dX5_replaceWeight_12 rfl rfl ?_
  obtain ⟨g13, h⟩ := zguard h
  refine zk_iast (zoI_of rfl g13) dX5_replaceWeight_13 ?_
  refine zk_aload_n dX5_replaceWeight_14 rfl rfl ?_
  refine zf_X5_18 rfl dX5_replaceWeight_15 ?_
  refine zk_aload_n dX5_replaceWeight_18 rfl rfl ?_
  refine zf_X5_9 rfl dX5_replaceWeight_19 ?_
  refine zk_aload_n dX5_replaceWeight_22 rfl rfl ?_
  refine zf_X5_22 rfl dX5_replaceWeight_23 ?_
  obtain ⟨p26, h26, h⟩ := zbind h
  refine zc_X5_52 [] (As := [.ref _, .int _, .ref _]) (ok_X5_addUp hj _ _ _ _ h26) rfl ⟨Nat.le_of_ble_eq_true rfl, Nat.le_of_ble_eq_true rfl⟩ ⟨Nat.le_refl _, Nat.le_refl _⟩ rfl rfl (Nat.le_of_ble_eq_true rfl) dX5_replaceWeight_26 ?_
  refine zk_aload_n dX5_replaceWeight_29 rfl rfl ?_
  refine zk_iconst (v := 0) dX5_replaceWeight_30 (by decide) ?_
  refine zp_X5_40 rfl (Or.inl rfl) dX5_replaceWeight_31 ?_
  refine zk_iload_n dX5_replaceWeight_34 rfl rfl ?_
  have e9 := Option.some.inj h
  subst e9
  exact zk_iret rfl ⟨rfl, rfl⟩ dX5_replaceWeight_35
def D_X5_addVoter (s : zS) (a1 : Int32) : Option (Int32 × zS) :=
  let s7 : zS := zwI s 38 0 ((s.1 38 0) + (1 : Int32))
  (D_X5_replaceWeight s7 ((s7.1 38 0) - (1 : Int32)) a1).bind fun p18 =>
  some (((p18.2.1 38 0) - (1 : Int32)), p18.2)
set_option maxRecDepth 100000 in
theorem ok_X5_addVoter {l : Launch} {D : va_G} {ad : Nat → Nat} {cA : Nat → ClassId} (hj : zInj ad) (s : zS) (a1 : Int32) {r : (Int32 × zS)} (h : D_X5_addVoter s a1 = some r) : zMet l D ad cA jX5_addVoter [.ref 38, .int a1] s (some (.int r.1)) r.2 := by
  refine zMet_of jX5_addVoter [some (.ref 38), some (.int a1)] (by decide +kernel) (Nat.le_of_ble_eq_true rfl) rfl hj ?_
  unfold D_X5_addVoter at h
  refine zk_aload_n dX5_addVoter_0 rfl rfl ?_
  refine zk_dup dX5_addVoter_1 rfl ?_
  refine zf_X5_9 rfl dX5_addVoter_2 ?_
  refine zk_iconst (v := 1) dX5_addVoter_5 (by decide) ?_
  refine zk_iadd dX5_addVoter_6 ?_
  refine zp_X5_9 rfl dX5_addVoter_7 ?_
  refine zk_aload_n dX5_addVoter_10 rfl rfl ?_
  refine zk_aload_n dX5_addVoter_11 rfl rfl ?_
  refine zf_X5_9 rfl dX5_addVoter_12 ?_
  refine zk_iconst (v := 1) dX5_addVoter_15 (by decide) ?_
  refine zk_isub dX5_addVoter_16 ?_
  refine zk_iload_n dX5_addVoter_17 rfl rfl ?_
  obtain ⟨p18, h18, h⟩ := zbind h
  refine zc_X5_48 [] (As := [.int _, .int _]) (ok_X5_replaceWeight hj _ _ _ h18) rfl ⟨Nat.le_of_ble_eq_true rfl, Nat.le_of_ble_eq_true rfl⟩ ⟨Nat.le_refl _, Nat.le_refl _⟩ rfl rfl (Nat.le_of_ble_eq_true rfl) dX5_addVoter_18 ?_
  refine zk_pop dX5_addVoter_21 rfl ?_
  refine zk_aload_n dX5_addVoter_22 rfl rfl ?_
  refine zf_X5_9 rfl dX5_addVoter_23 ?_
  refine zk_iconst (v := 1) dX5_addVoter_26 (by decide) ?_
  refine zk_isub dX5_addVoter_27 ?_
  have e9 := Option.some.inj h
  subst e9
  exact zk_iret rfl ⟨rfl, rfl⟩ dX5_addVoter_28
def D_X5_allVoters (s : zS) : Option Int32 :=
  some (((1 : Int32) <<< ((s.1 38 0) &&& 31)) - (1 : Int32))
set_option maxRecDepth 100000 in
theorem ok_X5_allVoters {l : Launch} {D : va_G} {ad : Nat → Nat} {cA : Nat → ClassId} (hj : zInj ad) (s : zS)  {r : Int32} (h : D_X5_allVoters s = some r) : zMet l D ad cA jX5_allVoters [.ref 38] s (some (.int r)) s := by
  refine zMet_of jX5_allVoters [some (.ref 38)] (by decide +kernel) (Nat.le_of_ble_eq_true rfl) rfl hj ?_
  unfold D_X5_allVoters at h
  refine zk_iconst (v := 1) dX5_allVoters_0 (by decide) ?_
  refine zk_aload_n dX5_allVoters_1 rfl rfl ?_
  refine zf_X5_9 rfl dX5_allVoters_2 ?_
  refine zk_ishl dX5_allVoters_5 ?_
  refine zk_iconst (v := 1) dX5_allVoters_6 (by decide) ?_
  refine zk_isub dX5_allVoters_7 ?_
  have e9 := Option.some.inj h
  subst e9
  exact zk_iret rfl ⟨rfl, rfl⟩ dX5_allVoters_8
def D_X5_isWinning (s : zS) (a1 : Int32) : Option Int32 :=
  zgd (zin a1 256 = true) <|
  if (s.1 40 a1.toNatClampNeg) < (s.1 38 1) then (
    some (0 : Int32)
  ) else (
    some (1 : Int32)
  )
set_option maxRecDepth 100000 in
theorem ok_X5_isWinning {l : Launch} {D : va_G} {ad : Nat → Nat} {cA : Nat → ClassId} (hj : zInj ad) (s : zS) (a1 : Int32) {r : Int32} (h : D_X5_isWinning s a1 = some r) : zMet l D ad cA jX5_isWinning [.ref 38, .int a1] s (some (.int r)) s := by
  refine zMet_of jX5_isWinning [some (.ref 38), some (.int a1)] (by decide +kernel) (Nat.le_of_ble_eq_true rfl) rfl hj ?_
  unfold D_X5_isWinning at h
  refine zk_aload_n dX5_isWinning_0 rfl rfl ?_
  refine zf_X5_22 rfl dX5_isWinning_1 ?_
  refine zk_iload_n dX5_isWinning_4 rfl rfl ?_
  obtain ⟨g5, h⟩ := zguard h
  refine zk_iald (zoI_of rfl g5) dX5_isWinning_5 ?_
  refine zk_aload_n dX5_isWinning_6 rfl rfl ?_
  refine zf_X5_15 rfl dX5_isWinning_7 ?_
  refine zk_icmp_lt (tgt := 17) dX5_isWinning_10 rfl (fun g10 => ?_) (fun g10 => ?_)
  · replace h := zpos g10 h
    refine zk_iconst (v := 0) dX5_isWinning_17 (by decide) ?_
    have e9 := Option.some.inj h
    subst e9
    exact zk_zret rfl (Or.inl rfl) ⟨rfl, rfl⟩ dX5_isWinning_18
  · replace h := zneg g10 h
    refine zk_iconst (v := 1) dX5_isWinning_13 (by decide) ?_
    refine zk_goto (tgt := 18) dX5_isWinning_14 rfl ?_
    have e9 := Option.some.inj h
    subst e9
    exact zk_zret rfl (Or.inr rfl) ⟨rfl, rfl⟩ dX5_isWinning_18
def D_X5_isTurned_J32 (s : zS) : Option Int32 :=
  some (0 : Int32)
set_option maxRecDepth 100000 in
theorem ok_X5_isTurned_J32 {l : Launch} {D : va_G} {ad : Nat → Nat} {cA : Nat → ClassId} (hj : zInj ad) (r : Int32) (s : zS) (h : D_X5_isTurned_J32 s = some r) : zOk l D ad cA (zJm jX5_isTurned) (zEnd D ad cA (some (.int r)) s) 32 [none, none, none] [] s := by
  unfold D_X5_isTurned_J32 at h
  refine zk_iconst (v := 0) dX5_isTurned_32 (by decide) ?_
  have e9 := Option.some.inj h
  subst e9
  exact zk_zret rfl (Or.inl rfl) ⟨rfl, rfl⟩ dX5_isTurned_33
def D_X5_isTurned (s : zS) (a1 : Int32) (a2 : Int32) : Option Int32 :=
  (D_X8_has a1 a2).bind fun p2 =>
  if p2 = 0 then (
    (D_X5_isWinning s a1).bind fun p10 =>
    if p10 = 0 then (
      (D_X5_isWinning s (a1 ||| ((1 : Int32) <<< (a2 &&& 31)))).bind fun p22 =>
      if p22 = 0 then (
        D_X5_isTurned_J32 s
      ) else (
        some (1 : Int32)
      )
    ) else (
      D_X5_isTurned_J32 s
    )
  ) else (
    D_X5_isTurned_J32 s
  )
set_option maxRecDepth 100000 in
theorem ok_X5_isTurned {l : Launch} {D : va_G} {ad : Nat → Nat} {cA : Nat → ClassId} (hj : zInj ad) (s : zS) (a1 : Int32) (a2 : Int32) {r : Int32} (h : D_X5_isTurned s a1 a2 = some r) : zMet l D ad cA jX5_isTurned [.ref 38, .int a1, .int a2] s (some (.int r)) s := by
  refine zMet_of jX5_isTurned [some (.ref 38), some (.int a1), some (.int a2)] (by decide +kernel) (Nat.le_of_ble_eq_true rfl) rfl hj ?_
  unfold D_X5_isTurned at h
  refine zk_iload_n dX5_isTurned_0 rfl rfl ?_
  refine zk_iload_n dX5_isTurned_1 rfl rfl ?_
  obtain ⟨p2, h2, h⟩ := zbind h
  refine zc_X5_56 [] (As := [.int _, .int _]) (ok_X8_has hj _ _ _ h2) rfl ⟨Nat.le_of_ble_eq_true rfl, Nat.le_of_ble_eq_true rfl⟩ ⟨Nat.le_refl _, Nat.le_refl _⟩ rfl rfl (Nat.le_of_ble_eq_true rfl) dX5_isTurned_2 ?_
  refine zk_if_ne (tgt := 32) dX5_isTurned_5 rfl (fun g5 => ?_) (fun g5 => ?_)
  · replace h := zneg g5 h
    refine zk_mask [false, false, false] ?_
    exact ok_X5_isTurned_J32 hj r _ h
  · replace h := zpos g5 h
    refine zk_aload_n dX5_isTurned_8 rfl rfl ?_
    refine zk_iload_n dX5_isTurned_9 rfl rfl ?_
    obtain ⟨p10, h10, h⟩ := zbind h
    refine zc_X5_60 [] (As := [.int _]) (ok_X5_isWinning hj _ _ h10) rfl ⟨Nat.le_of_ble_eq_true rfl, Nat.le_of_ble_eq_true rfl⟩ ⟨Nat.le_refl _, Nat.le_refl _⟩ rfl rfl (Nat.le_of_ble_eq_true rfl) dX5_isTurned_10 ?_
    refine zk_if_ne (tgt := 32) dX5_isTurned_13 rfl (fun g13 => ?_) (fun g13 => ?_)
    · replace h := zneg g13 h
      refine zk_mask [false, false, false] ?_
      exact ok_X5_isTurned_J32 hj r _ h
    · replace h := zpos g13 h
      refine zk_aload_n dX5_isTurned_16 rfl rfl ?_
      refine zk_iload_n dX5_isTurned_17 rfl rfl ?_
      refine zk_iconst (v := 1) dX5_isTurned_18 (by decide) ?_
      refine zk_iload_n dX5_isTurned_19 rfl rfl ?_
      refine zk_ishl dX5_isTurned_20 ?_
      refine zk_ior dX5_isTurned_21 ?_
      obtain ⟨p22, h22, h⟩ := zbind h
      refine zc_X5_60 [] (As := [.int _]) (ok_X5_isWinning hj _ _ h22) rfl ⟨Nat.le_of_ble_eq_true rfl, Nat.le_of_ble_eq_true rfl⟩ ⟨Nat.le_refl _, Nat.le_refl _⟩ rfl rfl (Nat.le_of_ble_eq_true rfl) dX5_isTurned_22 ?_
      refine zk_if_eq (tgt := 32) dX5_isTurned_25 rfl (fun g25 => ?_) (fun g25 => ?_)
      · replace h := zpos g25 h
        refine zk_mask [false, false, false] ?_
        exact ok_X5_isTurned_J32 hj r _ h
      · replace h := zneg g25 h
        refine zk_iconst (v := 1) dX5_isTurned_28 (by decide) ?_
        refine zk_goto (tgt := 33) dX5_isTurned_29 rfl ?_
        have e9 := Option.some.inj h
        subst e9
        exact zk_zret rfl (Or.inr rfl) ⟨rfl, rfl⟩ dX5_isTurned_33
def D_X5_turnsOf_B4 (s : zS) (a1 : Int32) (rec4 : Int32 → Int32 → Option Int32) (a2 : Int32) (a3 : Int32) : Option Int32 :=
    (D_X5_allVoters s).bind fun p6 =>
    if p6 < a3 then (
      some a2
    ) else (
      (D_X5_isTurned s a3 a1).bind fun p15 =>
      if p15 = 0 then (
        rec4 a2 (a3 + 1)
      ) else (
        rec4 (a2 + 1) (a3 + 1)
      )
    )
def D_X5_turnsOf_L4 (s : zS) (a1 : Int32) (n : Nat) (a2 : Int32) (a3 : Int32) : Option Int32 := zfx (fun (rec : Int32 × Int32 → Option Int32) q => D_X5_turnsOf_B4 s a1 (fun v0 v1 => rec (v0, v1)) q.1 q.2) n (a2, a3)
set_option maxRecDepth 100000 in
theorem D_X5_turnsOf_L4_s (s : zS) (a1 : Int32) (n : Nat) (a2 : Int32) (a3 : Int32) : D_X5_turnsOf_L4 s a1 (n + 1) a2 a3 = D_X5_turnsOf_B4 s a1 (D_X5_turnsOf_L4 s a1 n) a2 a3 := rfl
set_option maxRecDepth 100000 in
theorem ok_X5_turnsOf_L4 {l : Launch} {D : va_G} {ad : Nat → Nat} {cA : Nat → ClassId} (hj : zInj ad) (r : Int32) (s : zS) (a1 : Int32) : ∀ (n : Nat) (a2 : Int32) (a3 : Int32), D_X5_turnsOf_L4 s a1 n a2 a3 = some r → zOk l D ad cA (zJm jX5_turnsOf) (zEnd D ad cA (some (.int r)) s) 4 [some (.ref 38), some (.int a1), some (.int a2), some (.int a3)] [] s := by
  intro n
  induction n with
  | zero =>
    intro a2 a3 h
    have h0 : (none : Option Int32) = some r := h
    cases h0
  | succ n hr4 =>
    intro a2 a3 h
    have h : D_X5_turnsOf_B4 s a1 (D_X5_turnsOf_L4 s a1 n) a2 a3 = some r := h
    unfold D_X5_turnsOf_B4 at h
    refine zk_iload_n dX5_turnsOf_4 rfl rfl ?_
    refine zk_aload_n dX5_turnsOf_5 rfl rfl ?_
    obtain ⟨p6, h6, h⟩ := zbind h
    refine zc_X5_64 [.int _] (As := []) (ok_X5_allVoters hj _ h6) rfl ⟨Nat.le_of_ble_eq_true rfl, Nat.le_of_ble_eq_true rfl⟩ ⟨Nat.le_refl _, Nat.le_refl _⟩ rfl rfl (Nat.le_of_ble_eq_true rfl) dX5_turnsOf_6 ?_
    refine zk_icmp_gt (tgt := 30) dX5_turnsOf_9 rfl (fun g9 => ?_) (fun g9 => ?_)
    · replace h := zpos g9 h
      refine zk_iload_n dX5_turnsOf_30 rfl rfl ?_
      have e9 := Option.some.inj h
      subst e9
      exact zk_iret rfl ⟨rfl, rfl⟩ dX5_turnsOf_31
    · replace h := zneg g9 h
      refine zk_aload_n dX5_turnsOf_12 rfl rfl ?_
      refine zk_iload_n dX5_turnsOf_13 rfl rfl ?_
      refine zk_iload_n dX5_turnsOf_14 rfl rfl ?_
      obtain ⟨p15, h15, h⟩ := zbind h
      refine zc_X5_71 [] (As := [.int _, .int _]) (ok_X5_isTurned hj _ _ _ h15) rfl ⟨Nat.le_of_ble_eq_true rfl, Nat.le_of_ble_eq_true rfl⟩ ⟨Nat.le_refl _, Nat.le_refl _⟩ rfl rfl (Nat.le_of_ble_eq_true rfl) dX5_turnsOf_15 ?_
      refine zk_if_eq (tgt := 24) dX5_turnsOf_18 rfl (fun g18 => ?_) (fun g18 => ?_)
      · replace h := zpos g18 h
        refine zk_iinc dX5_turnsOf_24 rfl (zinc (m := 1) (by decide)) (by decide) (zk_eq [_, _, _, _] rfl ?_)
        refine zk_goto (tgt := 4) dX5_turnsOf_27 rfl ?_
        exact hr4 _ _ h
      · replace h := zneg g18 h
        refine zk_iinc dX5_turnsOf_21 rfl (zinc (m := 1) (by decide)) (by decide) (zk_eq [_, _, _, _] rfl ?_)
        refine zk_iinc dX5_turnsOf_24 rfl (zinc (m := 1) (by decide)) (by decide) (zk_eq [_, _, _, _] rfl ?_)
        refine zk_goto (tgt := 4) dX5_turnsOf_27 rfl ?_
        exact hr4 _ _ h
def D_X5_turnsOf (s : zS) (a1 : Int32) : Option Int32 :=
  D_X5_turnsOf_L4 s a1 zFU (0 : Int32) (0 : Int32)
set_option maxRecDepth 100000 in
theorem ok_X5_turnsOf {l : Launch} {D : va_G} {ad : Nat → Nat} {cA : Nat → ClassId} (hj : zInj ad) (s : zS) (a1 : Int32) {r : Int32} (h : D_X5_turnsOf s a1 = some r) : zMet l D ad cA jX5_turnsOf [.ref 38, .int a1] s (some (.int r)) s := by
  refine zMet_of jX5_turnsOf [some (.ref 38), some (.int a1), none, none] (by decide +kernel) (Nat.le_of_ble_eq_true rfl) rfl hj ?_
  unfold D_X5_turnsOf at h
  refine zk_iconst (v := 0) dX5_turnsOf_0 (by decide) ?_
  refine zk_istore_n (i := 2) dX5_turnsOf_1 rfl (by decide) (zk_eq [_, _, _, _] rfl ?_)
  refine zk_iconst (v := 0) dX5_turnsOf_2 (by decide) ?_
  refine zk_istore_n (i := 3) dX5_turnsOf_3 rfl (by decide) (zk_eq [_, _, _, _] rfl ?_)
  exact ok_X5_turnsOf_L4 hj r _ _ _ _ _ h
def D_X5_isRanked_J118 (rec2 : Int32 → Option Int32) (rec14 : Int32 → Option Int32) (s : zS) (a1 : Int32) (a2 : Int32) (k0 : Int32) : Option Int32 :=
  if k0 = 0 then (
    some (0 : Int32)
  ) else (
    rec14 (a2 + 1)
  )
set_option maxRecDepth 100000 in
theorem ok_X5_isRanked_J118 {l : Launch} {D : va_G} {ad : Nat → Nat} {cA : Nat → ClassId} (hj : zInj ad) (r : Int32) (s : zS) (a1 : Int32) (a2 : Int32) (k0 : Int32) (rec2 : Int32 → Option Int32) (hr2 : ∀ (b1 : Int32), rec2 b1 = some r → zOk l D ad cA (zJm jX5_isRanked) (zEnd D ad cA (some (.int r)) s) 2 [some (.ref 38), some (.int b1), none, none] [] s) (rec14 : Int32 → Option Int32) (hr14 : ∀ (b2 : Int32), rec14 b2 = some r → zOk l D ad cA (zJm jX5_isRanked) (zEnd D ad cA (some (.int r)) s) 14 [some (.ref 38), some (.int a1), some (.int b2), none] [] s) (h : D_X5_isRanked_J118 rec2 rec14 s a1 a2 k0 = some r) : zOk l D ad cA (zJm jX5_isRanked) (zEnd D ad cA (some (.int r)) s) 118 [some (.ref 38), some (.int a1), some (.int a2), none] [.int k0] s := by
  unfold D_X5_isRanked_J118 at h
  refine zk_istore_n (i := 3) dX5_isRanked_118 rfl (by decide) (zk_eq [_, _, _, _] rfl ?_)
  refine zk_iload_n dX5_isRanked_119 rfl rfl ?_
  refine zk_if_ne (tgt := 125) dX5_isRanked_120 rfl (fun g120 => ?_) (fun g120 => ?_)
  · replace h := zneg g120 h
    refine zk_iinc dX5_isRanked_125 rfl (zinc (m := 1) (by decide)) (by decide) (zk_eq [_, _, _, _] rfl ?_)
    refine zk_goto (tgt := 14) dX5_isRanked_128 rfl ?_
    refine zk_mask [true, true, true, false] ?_
    exact hr14 _ h
  · replace h := zpos g120 h
    refine zk_iconst (v := 0) dX5_isRanked_123 (by decide) ?_
    have e9 := Option.some.inj h
    subst e9
    exact zk_zret rfl (Or.inl rfl) ⟨rfl, rfl⟩ dX5_isRanked_124
def D_X5_isRanked_B14 (rec2 : Int32 → Option Int32) (s : zS) (a1 : Int32) (rec14 : Int32 → Option Int32) (a2 : Int32) : Option Int32 :=
    if (s.1 38 0) ≤ a2 then (
      rec2 (a1 + 1)
    ) else (
      zgd (zin a1 5 = true) <|
      zgd (zin a2 5 = true) <|
      if (s.1 41 a1.toNatClampNeg) ≤ (s.1 41 a2.toNatClampNeg) then (
        zgd (zin a1 5 = true) <|
        zgd (zin a2 5 = true) <|
        if (s.1 41 a2.toNatClampNeg) ≤ (s.1 41 a1.toNatClampNeg) then (
          zgd (zin a1 5 = true) <|
          zgd (zin a2 5 = true) <|
          if (s.1 42 a2.toNatClampNeg) < (s.1 42 a1.toNatClampNeg) then (
            D_X5_isRanked_J118 rec2 rec14 s a1 a2 (0 : Int32)
          ) else (
            D_X5_isRanked_J118 rec2 rec14 s a1 a2 (1 : Int32)
          )
        ) else (
          zgd (zin a1 5 = true) <|
          zgd (zin a2 5 = true) <|
          if (s.1 42 a2.toNatClampNeg) ≤ (s.1 42 a1.toNatClampNeg) then (
            D_X5_isRanked_J118 rec2 rec14 s a1 a2 (0 : Int32)
          ) else (
            D_X5_isRanked_J118 rec2 rec14 s a1 a2 (1 : Int32)
          )
        )
      ) else (
        zgd (zin a1 5 = true) <|
        zgd (zin a2 5 = true) <|
        if (s.1 42 a1.toNatClampNeg) ≤ (s.1 42 a2.toNatClampNeg) then (
          D_X5_isRanked_J118 rec2 rec14 s a1 a2 (0 : Int32)
        ) else (
          D_X5_isRanked_J118 rec2 rec14 s a1 a2 (1 : Int32)
        )
      )
    )
def D_X5_isRanked_L14 (rec2 : Int32 → Option Int32) (s : zS) (a1 : Int32) (n : Nat) (a2 : Int32) : Option Int32 := zfx (fun (rec : Int32 → Option Int32) q => D_X5_isRanked_B14 rec2 s a1 (fun v0 => rec (v0)) q) n (a2)
set_option maxRecDepth 100000 in
theorem D_X5_isRanked_L14_s (rec2 : Int32 → Option Int32) (s : zS) (a1 : Int32) (n : Nat) (a2 : Int32) : D_X5_isRanked_L14 rec2 s a1 (n + 1) a2 = D_X5_isRanked_B14 rec2 s a1 (D_X5_isRanked_L14 rec2 s a1 n) a2 := rfl
set_option maxRecDepth 100000 in
theorem ok_X5_isRanked_L14 {l : Launch} {D : va_G} {ad : Nat → Nat} {cA : Nat → ClassId} (hj : zInj ad) (r : Int32) (s : zS) (a1 : Int32) (rec2 : Int32 → Option Int32) (hr2 : ∀ (b1 : Int32), rec2 b1 = some r → zOk l D ad cA (zJm jX5_isRanked) (zEnd D ad cA (some (.int r)) s) 2 [some (.ref 38), some (.int b1), none, none] [] s) : ∀ (n : Nat) (a2 : Int32), D_X5_isRanked_L14 rec2 s a1 n a2 = some r → zOk l D ad cA (zJm jX5_isRanked) (zEnd D ad cA (some (.int r)) s) 14 [some (.ref 38), some (.int a1), some (.int a2), none] [] s := by
  intro n
  induction n with
  | zero =>
    intro a2 h
    have h0 : (none : Option Int32) = some r := h
    cases h0
  | succ n hr14 =>
    intro a2 h
    have h : D_X5_isRanked_B14 rec2 s a1 (D_X5_isRanked_L14 rec2 s a1 n) a2 = some r := h
    unfold D_X5_isRanked_B14 at h
    refine zk_iload_n dX5_isRanked_14 rfl rfl ?_
    refine zk_aload_n dX5_isRanked_15 rfl rfl ?_
    refine zf_X5_9 rfl dX5_isRanked_16 ?_
    refine zk_icmp_ge (tgt := 131) dX5_isRanked_19 rfl (fun g19 => ?_) (fun g19 => ?_)
    · replace h := zpos g19 h
      refine zk_iinc dX5_isRanked_131 rfl (zinc (m := 1) (by decide)) (by decide) (zk_eq [_, _, _, _] rfl ?_)
      refine zk_goto (tgt := 2) dX5_isRanked_134 rfl ?_
      refine zk_mask [true, true, false, false] ?_
      exact hr2 _ h
    · replace h := zneg g19 h
      refine zk_aload_n dX5_isRanked_22 rfl rfl ?_
      refine zf_X5_25 rfl dX5_isRanked_23 ?_
      refine zk_iload_n dX5_isRanked_26 rfl rfl ?_
      obtain ⟨g27, h⟩ := zguard h
      refine zk_iald (zoI_of rfl g27) dX5_isRanked_27 ?_
      refine zk_aload_n dX5_isRanked_28 rfl rfl ?_
      refine zf_X5_25 rfl dX5_isRanked_29 ?_
      refine zk_iload_n dX5_isRanked_32 rfl rfl ?_
      obtain ⟨g33, h⟩ := zguard h
      refine zk_iald (zoI_of rfl g33) dX5_isRanked_33 ?_
      refine zk_icmp_le (tgt := 60) dX5_isRanked_34 rfl (fun g34 => ?_) (fun g34 => ?_)
      · replace h := zpos g34 h
        refine zk_aload_n dX5_isRanked_60 rfl rfl ?_
        refine zf_X5_25 rfl dX5_isRanked_61 ?_
        refine zk_iload_n dX5_isRanked_64 rfl rfl ?_
        obtain ⟨g65, h⟩ := zguard h
        refine zk_iald (zoI_of rfl g65) dX5_isRanked_65 ?_
        refine zk_aload_n dX5_isRanked_66 rfl rfl ?_
        refine zf_X5_25 rfl dX5_isRanked_67 ?_
        refine zk_iload_n dX5_isRanked_70 rfl rfl ?_
        obtain ⟨g71, h⟩ := zguard h
        refine zk_iald (zoI_of rfl g71) dX5_isRanked_71 ?_
        refine zk_icmp_ge (tgt := 98) dX5_isRanked_72 rfl (fun g72 => ?_) (fun g72 => ?_)
        · replace h := zpos g72 h
          refine zk_aload_n dX5_isRanked_98 rfl rfl ?_
          refine zf_X5_28 rfl dX5_isRanked_99 ?_
          refine zk_iload_n dX5_isRanked_102 rfl rfl ?_
          obtain ⟨g103, h⟩ := zguard h
          refine zk_iald (zoI_of rfl g103) dX5_isRanked_103 ?_
          refine zk_aload_n dX5_isRanked_104 rfl rfl ?_
          refine zf_X5_28 rfl dX5_isRanked_105 ?_
          refine zk_iload_n dX5_isRanked_108 rfl rfl ?_
          obtain ⟨g109, h⟩ := zguard h
          refine zk_iald (zoI_of rfl g109) dX5_isRanked_109 ?_
          refine zk_icmp_gt (tgt := 117) dX5_isRanked_110 rfl (fun g110 => ?_) (fun g110 => ?_)
          · replace h := zpos g110 h
            refine zk_iconst (v := 0) dX5_isRanked_117 (by decide) ?_
            exact ok_X5_isRanked_J118 hj r _ _ _ _ _ hr2 _ hr14 h
          · replace h := zneg g110 h
            refine zk_iconst (v := 1) dX5_isRanked_113 (by decide) ?_
            refine zk_goto (tgt := 118) dX5_isRanked_114 rfl ?_
            exact ok_X5_isRanked_J118 hj r _ _ _ _ _ hr2 _ hr14 h
        · replace h := zneg g72 h
          refine zk_aload_n dX5_isRanked_75 rfl rfl ?_
          refine zf_X5_28 rfl dX5_isRanked_76 ?_
          refine zk_iload_n dX5_isRanked_79 rfl rfl ?_
          obtain ⟨g80, h⟩ := zguard h
          refine zk_iald (zoI_of rfl g80) dX5_isRanked_80 ?_
          refine zk_aload_n dX5_isRanked_81 rfl rfl ?_
          refine zf_X5_28 rfl dX5_isRanked_82 ?_
          refine zk_iload_n dX5_isRanked_85 rfl rfl ?_
          obtain ⟨g86, h⟩ := zguard h
          refine zk_iald (zoI_of rfl g86) dX5_isRanked_86 ?_
          refine zk_icmp_ge (tgt := 94) dX5_isRanked_87 rfl (fun g87 => ?_) (fun g87 => ?_)
          · replace h := zpos g87 h
            refine zk_iconst (v := 0) dX5_isRanked_94 (by decide) ?_
            refine zk_goto (tgt := 118) dX5_isRanked_95 rfl ?_
            exact ok_X5_isRanked_J118 hj r _ _ _ _ _ hr2 _ hr14 h
          · replace h := zneg g87 h
            refine zk_iconst (v := 1) dX5_isRanked_90 (by decide) ?_
            refine zk_goto (tgt := 118) dX5_isRanked_91 rfl ?_
            exact ok_X5_isRanked_J118 hj r _ _ _ _ _ hr2 _ hr14 h
      · replace h := zneg g34 h
        refine zk_aload_n dX5_isRanked_37 rfl rfl ?_
        refine zf_X5_28 rfl dX5_isRanked_38 ?_
        refine zk_iload_n dX5_isRanked_41 rfl rfl ?_
        obtain ⟨g42, h⟩ := zguard h
        refine zk_iald (zoI_of rfl g42) dX5_isRanked_42 ?_
        refine zk_aload_n dX5_isRanked_43 rfl rfl ?_
        refine zf_X5_28 rfl dX5_isRanked_44 ?_
        refine zk_iload_n dX5_isRanked_47 rfl rfl ?_
        obtain ⟨g48, h⟩ := zguard h
        refine zk_iald (zoI_of rfl g48) dX5_isRanked_48 ?_
        refine zk_icmp_le (tgt := 56) dX5_isRanked_49 rfl (fun g49 => ?_) (fun g49 => ?_)
        · replace h := zpos g49 h
          refine zk_iconst (v := 0) dX5_isRanked_56 (by decide) ?_
          refine zk_goto (tgt := 118) dX5_isRanked_57 rfl ?_
          exact ok_X5_isRanked_J118 hj r _ _ _ _ _ hr2 _ hr14 h
        · replace h := zneg g49 h
          refine zk_iconst (v := 1) dX5_isRanked_52 (by decide) ?_
          refine zk_goto (tgt := 118) dX5_isRanked_53 rfl ?_
          exact ok_X5_isRanked_J118 hj r _ _ _ _ _ hr2 _ hr14 h
def D_X5_isRanked_B2 (s : zS) (rec2 : Int32 → Option Int32) (a1 : Int32) : Option Int32 :=
    if (s.1 38 0) ≤ a1 then (
      some (1 : Int32)
    ) else (
      D_X5_isRanked_L14 rec2 s a1 zFU (a1 + (1 : Int32))
    )
def D_X5_isRanked_L2 (s : zS) (n : Nat) (a1 : Int32) : Option Int32 := zfx (fun (rec : Int32 → Option Int32) q => D_X5_isRanked_B2 s (fun v0 => rec (v0)) q) n (a1)
set_option maxRecDepth 100000 in
theorem D_X5_isRanked_L2_s (s : zS) (n : Nat) (a1 : Int32) : D_X5_isRanked_L2 s (n + 1) a1 = D_X5_isRanked_B2 s (D_X5_isRanked_L2 s n) a1 := rfl
set_option maxRecDepth 100000 in
theorem ok_X5_isRanked_L2 {l : Launch} {D : va_G} {ad : Nat → Nat} {cA : Nat → ClassId} (hj : zInj ad) (r : Int32) (s : zS) : ∀ (n : Nat) (a1 : Int32), D_X5_isRanked_L2 s n a1 = some r → zOk l D ad cA (zJm jX5_isRanked) (zEnd D ad cA (some (.int r)) s) 2 [some (.ref 38), some (.int a1), none, none] [] s := by
  intro n
  induction n with
  | zero =>
    intro a1 h
    have h0 : (none : Option Int32) = some r := h
    cases h0
  | succ n hr2 =>
    intro a1 h
    have h : D_X5_isRanked_B2 s (D_X5_isRanked_L2 s n) a1 = some r := h
    unfold D_X5_isRanked_B2 at h
    refine zk_iload_n dX5_isRanked_2 rfl rfl ?_
    refine zk_aload_n dX5_isRanked_3 rfl rfl ?_
    refine zf_X5_9 rfl dX5_isRanked_4 ?_
    refine zk_icmp_ge (tgt := 137) dX5_isRanked_7 rfl (fun g7 => ?_) (fun g7 => ?_)
    · replace h := zpos g7 h
      refine zk_iconst (v := 1) dX5_isRanked_137 (by decide) ?_
      have e9 := Option.some.inj h
      subst e9
      exact zk_zret rfl (Or.inr rfl) ⟨rfl, rfl⟩ dX5_isRanked_138
    · replace h := zneg g7 h
      refine zk_iload_n dX5_isRanked_10 rfl rfl ?_
      refine zk_iconst (v := 1) dX5_isRanked_11 (by decide) ?_
      refine zk_iadd dX5_isRanked_12 ?_
      refine zk_istore_n (i := 2) dX5_isRanked_13 rfl (by decide) (zk_eq [_, _, _, _] rfl ?_)
      exact ok_X5_isRanked_L14 hj r _ _ _ hr2 _ _ h
def D_X5_isRanked (s : zS) : Option Int32 :=
  D_X5_isRanked_L2 s zFU (0 : Int32)
set_option maxRecDepth 100000 in
theorem ok_X5_isRanked {l : Launch} {D : va_G} {ad : Nat → Nat} {cA : Nat → ClassId} (hj : zInj ad) (s : zS)  {r : Int32} (h : D_X5_isRanked s = some r) : zMet l D ad cA jX5_isRanked [.ref 38] s (some (.int r)) s := by
  refine zMet_of jX5_isRanked [some (.ref 38), none, none, none] (by decide +kernel) (Nat.le_of_ble_eq_true rfl) rfl hj ?_
  unfold D_X5_isRanked at h
  refine zk_iconst (v := 0) dX5_isRanked_0 (by decide) ?_
  refine zk_istore_n (i := 1) dX5_isRanked_1 rfl (by decide) (zk_eq [_, _, _, _] rfl ?_)
  exact ok_X5_isRanked_L2 hj r _ _ _ h
def D_X5_quotaOfRow_J78 (s : zS) (a1 : Int32) (a2 : Int32) : Option (Int32 × zS) :=
  if a2 ≤ a1 then (
    some ((-1 : Int32), s)
  ) else (
    some ((a1 + (1 : Int32)), s)
  )
set_option maxRecDepth 100000 in
theorem ok_X5_quotaOfRow_J78 {l : Launch} {D : va_G} {ad : Nat → Nat} {cA : Nat → ClassId} (hj : zInj ad) (r : (Int32 × zS)) (s : zS) (a1 : Int32) (a2 : Int32) (h : D_X5_quotaOfRow_J78 s a1 a2 = some r) : zOk l D ad cA (zJm jX5_quotaOfRow) (zEnd D ad cA (some (.int r.1)) r.2) 78 [none, some (.int a1), some (.int a2), none] [] s := by
  unfold D_X5_quotaOfRow_J78 at h
  refine zk_iload_n dX5_quotaOfRow_78 rfl rfl ?_
  refine zk_iload_n dX5_quotaOfRow_79 rfl rfl ?_
  refine zk_icmp_ge (tgt := 89) dX5_quotaOfRow_80 rfl (fun g80 => ?_) (fun g80 => ?_)
  · replace h := zpos g80 h
    refine zk_iconst (v := -1) dX5_quotaOfRow_89 (by decide) ?_
    have e9 := Option.some.inj h
    subst e9
    exact zk_iret rfl ⟨rfl, rfl⟩ dX5_quotaOfRow_90
  · replace h := zneg g80 h
    refine zk_iload_n dX5_quotaOfRow_83 rfl rfl ?_
    refine zk_iconst (v := 1) dX5_quotaOfRow_84 (by decide) ?_
    refine zk_iadd dX5_quotaOfRow_85 ?_
    refine zk_goto (tgt := 90) dX5_quotaOfRow_86 rfl ?_
    have e9 := Option.some.inj h
    subst e9
    exact zk_iret rfl ⟨rfl, rfl⟩ dX5_quotaOfRow_90
def D_X5_quotaOfRow_B22 (s : zS) (rec22 : Int32 → Int32 → Int32 → Option (Int32 × zS)) (a1 : Int32) (a2 : Int32) (a3 : Int32) : Option (Int32 × zS) :=
    (D_X5_allVoters s).bind fun p24 =>
    if p24 < a3 then (
      D_X5_quotaOfRow_J78 s a1 a2
    ) else (
      if (32 : Int32) ≤ a3 then (
        D_X5_quotaOfRow_J78 s a1 a2
      ) else (
        (D_X5_isWinning s a3).bind fun p41 =>
        if p41 = 0 then (
          zgd (zin a3 32 = true) <|
          rec22 (zmax a1 (s.1 43 a3.toNatClampNeg)) a2 (a3 + 1)
        ) else (
          zgd (zin a3 32 = true) <|
          rec22 a1 (zmin a2 (s.1 43 a3.toNatClampNeg)) (a3 + 1)
        )
      )
    )
def D_X5_quotaOfRow_L22 (s : zS) (n : Nat) (a1 : Int32) (a2 : Int32) (a3 : Int32) : Option (Int32 × zS) := zfx (fun (rec : Int32 × Int32 × Int32 → Option (Int32 × zS)) q => D_X5_quotaOfRow_B22 s (fun v0 v1 v2 => rec (v0, v1, v2)) q.1 q.2.1 q.2.2) n (a1, a2, a3)
set_option maxRecDepth 100000 in
theorem D_X5_quotaOfRow_L22_s (s : zS) (n : Nat) (a1 : Int32) (a2 : Int32) (a3 : Int32) : D_X5_quotaOfRow_L22 s (n + 1) a1 a2 a3 = D_X5_quotaOfRow_B22 s (D_X5_quotaOfRow_L22 s n) a1 a2 a3 := rfl
set_option maxRecDepth 100000 in
theorem ok_X5_quotaOfRow_L22 {l : Launch} {D : va_G} {ad : Nat → Nat} {cA : Nat → ClassId} (hj : zInj ad) (r : (Int32 × zS)) (s : zS) : ∀ (n : Nat) (a1 : Int32) (a2 : Int32) (a3 : Int32), D_X5_quotaOfRow_L22 s n a1 a2 a3 = some r → zOk l D ad cA (zJm jX5_quotaOfRow) (zEnd D ad cA (some (.int r.1)) r.2) 22 [some (.ref 38), some (.int a1), some (.int a2), some (.int a3)] [] s := by
  intro n
  induction n with
  | zero =>
    intro a1 a2 a3 h
    have h0 : (none : Option (Int32 × zS)) = some r := h
    cases h0
  | succ n hr22 =>
    intro a1 a2 a3 h
    have h : D_X5_quotaOfRow_B22 s (D_X5_quotaOfRow_L22 s n) a1 a2 a3 = some r := h
    unfold D_X5_quotaOfRow_B22 at h
    refine zk_iload_n dX5_quotaOfRow_22 rfl rfl ?_
    refine zk_aload_n dX5_quotaOfRow_23 rfl rfl ?_
    obtain ⟨p24, h24, h⟩ := zbind h
    refine zc_X5_64 [.int _] (As := []) (ok_X5_allVoters hj _ h24) rfl ⟨Nat.le_of_ble_eq_true rfl, Nat.le_of_ble_eq_true rfl⟩ ⟨Nat.le_refl _, Nat.le_refl _⟩ rfl rfl (Nat.le_of_ble_eq_true rfl) dX5_quotaOfRow_24 ?_
    refine zk_icmp_gt (tgt := 78) dX5_quotaOfRow_27 rfl (fun g27 => ?_) (fun g27 => ?_)
    · replace h := zpos g27 h
      refine zk_mask [false, true, true, false] ?_
      exact ok_X5_quotaOfRow_J78 hj r _ _ _ h
    · replace h := zneg g27 h
      refine zk_iload_n dX5_quotaOfRow_30 rfl rfl ?_
      refine zk_aload_n dX5_quotaOfRow_31 rfl rfl ?_
      refine zf_X5_31 rfl dX5_quotaOfRow_32 ?_
      refine zk_alen (v := 32) (by decide) rfl dX5_quotaOfRow_35 ?_
      refine zk_icmp_ge (tgt := 78) dX5_quotaOfRow_36 rfl (fun g36 => ?_) (fun g36 => ?_)
      · replace h := zpos g36 h
        refine zk_mask [false, true, true, false] ?_
        exact ok_X5_quotaOfRow_J78 hj r _ _ _ h
      · replace h := zneg g36 h
        refine zk_aload_n dX5_quotaOfRow_39 rfl rfl ?_
        refine zk_iload_n dX5_quotaOfRow_40 rfl rfl ?_
        obtain ⟨p41, h41, h⟩ := zbind h
        refine zc_X5_60 [] (As := [.int _]) (ok_X5_isWinning hj _ _ h41) rfl ⟨Nat.le_of_ble_eq_true rfl, Nat.le_of_ble_eq_true rfl⟩ ⟨Nat.le_refl _, Nat.le_refl _⟩ rfl rfl (Nat.le_of_ble_eq_true rfl) dX5_quotaOfRow_41 ?_
        refine zk_if_eq (tgt := 61) dX5_quotaOfRow_44 rfl (fun g44 => ?_) (fun g44 => ?_)
        · replace h := zpos g44 h
          refine zk_iload_n dX5_quotaOfRow_61 rfl rfl ?_
          refine zk_aload_n dX5_quotaOfRow_62 rfl rfl ?_
          refine zf_X5_31 rfl dX5_quotaOfRow_63 ?_
          refine zk_iload_n dX5_quotaOfRow_66 rfl rfl ?_
          obtain ⟨g67, h⟩ := zguard h
          refine zk_iald (zoI_of rfl g67) dX5_quotaOfRow_67 ?_
          refine zk_mmax zmw_X5_86 (Nat.le_of_ble_eq_true rfl) (Nat.le_of_ble_eq_true rfl) ⟨Nat.le_refl _, Nat.le_refl _⟩ dX5_quotaOfRow_68 ?_
          refine zk_istore_n (i := 1) dX5_quotaOfRow_71 rfl (by decide) (zk_eq [_, _, _, _] rfl ?_)
          refine zk_iinc dX5_quotaOfRow_72 rfl (zinc (m := 1) (by decide)) (by decide) (zk_eq [_, _, _, _] rfl ?_)
          refine zk_goto (tgt := 22) dX5_quotaOfRow_75 rfl ?_
          exact hr22 _ _ _ h
        · replace h := zneg g44 h
          refine zk_iload_n dX5_quotaOfRow_47 rfl rfl ?_
          refine zk_aload_n dX5_quotaOfRow_48 rfl rfl ?_
          refine zf_X5_31 rfl dX5_quotaOfRow_49 ?_
          refine zk_iload_n dX5_quotaOfRow_52 rfl rfl ?_
          obtain ⟨g53, h⟩ := zguard h
          refine zk_iald (zoI_of rfl g53) dX5_quotaOfRow_53 ?_
          refine zk_mmin zmw_X5_118 (Nat.le_of_ble_eq_true rfl) (Nat.le_of_ble_eq_true rfl) ⟨Nat.le_refl _, Nat.le_refl _⟩ dX5_quotaOfRow_54 ?_
          refine zk_istore_n (i := 2) dX5_quotaOfRow_57 rfl (by decide) (zk_eq [_, _, _, _] rfl ?_)
          refine zk_goto (tgt := 72) dX5_quotaOfRow_58 rfl ?_
          refine zk_iinc dX5_quotaOfRow_72 rfl (zinc (m := 1) (by decide)) (by decide) (zk_eq [_, _, _, _] rfl ?_)
          refine zk_goto (tgt := 22) dX5_quotaOfRow_75 rfl ?_
          exact hr22 _ _ _ h
def D_X5_quotaOfRow (s : zS) : Option (Int32 × zS) :=
  (D_X5_addUp s 42 (s.1 38 0) 43).bind fun p12 =>
  D_X5_quotaOfRow_L22 p12 zFU (0 : Int32) (13 : Int32) (1 : Int32)
set_option maxRecDepth 100000 in
theorem ok_X5_quotaOfRow {l : Launch} {D : va_G} {ad : Nat → Nat} {cA : Nat → ClassId} (hj : zInj ad) (s : zS)  {r : (Int32 × zS)} (h : D_X5_quotaOfRow s = some r) : zMet l D ad cA jX5_quotaOfRow [.ref 38] s (some (.int r.1)) r.2 := by
  refine zMet_of jX5_quotaOfRow [some (.ref 38), none, none, none] (by decide +kernel) (Nat.le_of_ble_eq_true rfl) rfl hj ?_
  unfold D_X5_quotaOfRow at h
  refine zk_aload_n dX5_quotaOfRow_0 rfl rfl ?_
  refine zf_X5_28 rfl dX5_quotaOfRow_1 ?_
  refine zk_aload_n dX5_quotaOfRow_4 rfl rfl ?_
  refine zf_X5_9 rfl dX5_quotaOfRow_5 ?_
  refine zk_aload_n dX5_quotaOfRow_8 rfl rfl ?_
  refine zf_X5_31 rfl dX5_quotaOfRow_9 ?_
  obtain ⟨p12, h12, h⟩ := zbind h
  refine zc_X5_52 [] (As := [.ref _, .int _, .ref _]) (ok_X5_addUp hj _ _ _ _ h12) rfl ⟨Nat.le_of_ble_eq_true rfl, Nat.le_of_ble_eq_true rfl⟩ ⟨Nat.le_refl _, Nat.le_refl _⟩ rfl rfl (Nat.le_of_ble_eq_true rfl) dX5_quotaOfRow_12 ?_
  refine zk_iconst (v := 0) dX5_quotaOfRow_15 (by decide) ?_
  refine zk_istore_n (i := 1) dX5_quotaOfRow_16 rfl (by decide) (zk_eq [_, _, _, _] rfl ?_)
  refine zk_bipush (v := 13) dX5_quotaOfRow_17 (by decide) ?_
  refine zk_istore_n (i := 2) dX5_quotaOfRow_19 rfl (by decide) (zk_eq [_, _, _, _] rfl ?_)
  refine zk_iconst (v := 1) dX5_quotaOfRow_20 (by decide) ?_
  refine zk_istore_n (i := 3) dX5_quotaOfRow_21 rfl (by decide) (zk_eq [_, _, _, _] rfl ?_)
  exact ok_X5_quotaOfRow_L22 hj r _ _ _ _ _ h
def D_X5_nextRow_J26 (s : zS) (a1 : Int32) : Option (Int32 × zS) :=
  if a1 = 0 then (
    some ((0 : Int32), s)
  ) else (
    zgd (zin a1 5 = true) <|
    zgd (zin a1 5 = true) <|
    let s47 : zS := zwI s 42 a1.toNatClampNeg (0 : Int32)
    zgd (zin (a1 - (1 : Int32)) 5 = true) <|
    zgd (zin (a1 - (1 : Int32)) 5 = true) <|
    let s59 : zS := zwI s47 42 (a1 - (1 : Int32)).toNatClampNeg ((s47.1 42 (a1 - (1 : Int32)).toNatClampNeg) + (1 : Int32))
    zgd (zin ((s59.1 38 0) - (1 : Int32)) 5 = true) <|
    let s71 : zS := zwI s59 42 ((s59.1 38 0) - (1 : Int32)).toNatClampNeg ((s.1 42 a1.toNatClampNeg) - (1 : Int32))
    some ((1 : Int32), s71)
  )
set_option maxRecDepth 100000 in
theorem ok_X5_nextRow_J26 {l : Launch} {D : va_G} {ad : Nat → Nat} {cA : Nat → ClassId} (hj : zInj ad) (r : (Int32 × zS)) (s : zS) (a1 : Int32) (h : D_X5_nextRow_J26 s a1 = some r) : zOk l D ad cA (zJm jX5_nextRow) (zEnd D ad cA (some (.int r.1)) r.2) 26 [some (.ref 38), some (.int a1), none] [] s := by
  unfold D_X5_nextRow_J26 at h
  refine zk_iload_n dX5_nextRow_26 rfl rfl ?_
  refine zk_if_ne (tgt := 32) dX5_nextRow_27 rfl (fun g27 => ?_) (fun g27 => ?_)
  · replace h := zneg g27 h
    refine zk_aload_n dX5_nextRow_32 rfl rfl ?_
    refine zf_X5_28 rfl dX5_nextRow_33 ?_
    refine zk_iload_n dX5_nextRow_36 rfl rfl ?_
    obtain ⟨g37, h⟩ := zguard h
    refine zk_iald (zoI_of rfl g37) dX5_nextRow_37 ?_
    refine zk_iconst (v := 1) dX5_nextRow_38 (by decide) ?_
    refine zk_isub dX5_nextRow_39 ?_
    refine zk_istore_n (i := 2) dX5_nextRow_40 rfl (by decide) (zk_eq [_, _, _] rfl ?_)
    refine zk_aload_n dX5_nextRow_41 rfl rfl ?_
    refine zf_X5_28 rfl dX5_nextRow_42 ?_
    refine zk_iload_n dX5_nextRow_45 rfl rfl ?_
    refine zk_iconst (v := 0) dX5_nextRow_46 (by decide) ?_
    obtain ⟨g47, h⟩ := zguard h
    refine zk_iast (zoI_of rfl g47) dX5_nextRow_47 ?_
    refine zk_aload_n dX5_nextRow_48 rfl rfl ?_
    refine zf_X5_28 rfl dX5_nextRow_49 ?_
    refine zk_iload_n dX5_nextRow_52 rfl rfl ?_
    refine zk_iconst (v := 1) dX5_nextRow_53 (by decide) ?_
    refine zk_isub dX5_nextRow_54 ?_
    refine zk_dup2 dX5_nextRow_55 rfl rfl ?_
    obtain ⟨g56, h⟩ := zguard h
    refine zk_iald (zoI_of rfl g56) dX5_nextRow_56 ?_
    refine zk_iconst (v := 1) dX5_nextRow_57 (by decide) ?_
    refine zk_iadd dX5_nextRow_58 ?_
    obtain ⟨g59, h⟩ := zguard h
    refine zk_iast (zoI_of rfl g59) dX5_nextRow_59 ?_
    refine zk_aload_n dX5_nextRow_60 rfl rfl ?_
    refine zf_X5_28 rfl dX5_nextRow_61 ?_
    refine zk_aload_n dX5_nextRow_64 rfl rfl ?_
    refine zf_X5_9 rfl dX5_nextRow_65 ?_
    refine zk_iconst (v := 1) dX5_nextRow_68 (by decide) ?_
    refine zk_isub dX5_nextRow_69 ?_
    refine zk_iload_n dX5_nextRow_70 rfl rfl ?_
    obtain ⟨g71, h⟩ := zguard h
    refine zk_iast (zoI_of rfl g71) dX5_nextRow_71 ?_
    refine zk_iconst (v := 1) dX5_nextRow_72 (by decide) ?_
    have e9 := Option.some.inj h
    subst e9
    exact zk_zret rfl (Or.inr rfl) ⟨rfl, rfl⟩ dX5_nextRow_73
  · replace h := zpos g27 h
    refine zk_iconst (v := 0) dX5_nextRow_30 (by decide) ?_
    have e9 := Option.some.inj h
    subst e9
    exact zk_zret rfl (Or.inl rfl) ⟨rfl, rfl⟩ dX5_nextRow_31
def D_X5_nextRow_B7 (s : zS) (rec7 : Int32 → Option (Int32 × zS)) (a1 : Int32) : Option (Int32 × zS) :=
    if a1 ≤ 0 then (
      D_X5_nextRow_J26 s a1
    ) else (
      zgd (zin a1 5 = true) <|
      if (s.1 42 a1.toNatClampNeg) = 0 then (
        rec7 (a1 + -1)
      ) else (
        D_X5_nextRow_J26 s a1
      )
    )
def D_X5_nextRow_L7 (s : zS) (n : Nat) (a1 : Int32) : Option (Int32 × zS) := zfx (fun (rec : Int32 → Option (Int32 × zS)) q => D_X5_nextRow_B7 s (fun v0 => rec (v0)) q) n (a1)
set_option maxRecDepth 100000 in
theorem D_X5_nextRow_L7_s (s : zS) (n : Nat) (a1 : Int32) : D_X5_nextRow_L7 s (n + 1) a1 = D_X5_nextRow_B7 s (D_X5_nextRow_L7 s n) a1 := rfl
set_option maxRecDepth 100000 in
theorem ok_X5_nextRow_L7 {l : Launch} {D : va_G} {ad : Nat → Nat} {cA : Nat → ClassId} (hj : zInj ad) (r : (Int32 × zS)) (s : zS) : ∀ (n : Nat) (a1 : Int32), D_X5_nextRow_L7 s n a1 = some r → zOk l D ad cA (zJm jX5_nextRow) (zEnd D ad cA (some (.int r.1)) r.2) 7 [some (.ref 38), some (.int a1), none] [] s := by
  intro n
  induction n with
  | zero =>
    intro a1 h
    have h0 : (none : Option (Int32 × zS)) = some r := h
    cases h0
  | succ n hr7 =>
    intro a1 h
    have h : D_X5_nextRow_B7 s (D_X5_nextRow_L7 s n) a1 = some r := h
    unfold D_X5_nextRow_B7 at h
    refine zk_iload_n dX5_nextRow_7 rfl rfl ?_
    refine zk_if_le (tgt := 26) dX5_nextRow_8 rfl (fun g8 => ?_) (fun g8 => ?_)
    · replace h := zpos g8 h
      exact ok_X5_nextRow_J26 hj r _ _ h
    · replace h := zneg g8 h
      refine zk_aload_n dX5_nextRow_11 rfl rfl ?_
      refine zf_X5_28 rfl dX5_nextRow_12 ?_
      refine zk_iload_n dX5_nextRow_15 rfl rfl ?_
      obtain ⟨g16, h⟩ := zguard h
      refine zk_iald (zoI_of rfl g16) dX5_nextRow_16 ?_
      refine zk_if_ne (tgt := 26) dX5_nextRow_17 rfl (fun g17 => ?_) (fun g17 => ?_)
      · replace h := zneg g17 h
        exact ok_X5_nextRow_J26 hj r _ _ h
      · replace h := zpos g17 h
        refine zk_iinc dX5_nextRow_20 rfl (zinc (m := -1) (by decide)) (by decide) (zk_eq [_, _, _] rfl ?_)
        refine zk_goto (tgt := 7) dX5_nextRow_23 rfl ?_
        exact hr7 _ h
def D_X5_nextRow (s : zS) : Option (Int32 × zS) :=
  D_X5_nextRow_L7 s zFU ((s.1 38 0) - (1 : Int32))
set_option maxRecDepth 100000 in
theorem ok_X5_nextRow {l : Launch} {D : va_G} {ad : Nat → Nat} {cA : Nat → ClassId} (hj : zInj ad) (s : zS)  {r : (Int32 × zS)} (h : D_X5_nextRow s = some r) : zMet l D ad cA jX5_nextRow [.ref 38] s (some (.int r.1)) r.2 := by
  refine zMet_of jX5_nextRow [some (.ref 38), none, none] (by decide +kernel) (Nat.le_of_ble_eq_true rfl) rfl hj ?_
  unfold D_X5_nextRow at h
  refine zk_aload_n dX5_nextRow_0 rfl rfl ?_
  refine zf_X5_9 rfl dX5_nextRow_1 ?_
  refine zk_iconst (v := 1) dX5_nextRow_4 (by decide) ?_
  refine zk_isub dX5_nextRow_5 ?_
  refine zk_istore_n (i := 1) dX5_nextRow_6 rfl (by decide) (zk_eq [_, _, _] rfl ?_)
  exact ok_X5_nextRow_L7 hj r _ _ _ h
def D_X5_findSameOfSum_J112 (rec39 : Int32 → Int32 → zS → Option zS) (s : zS) (a3 : Int32) : Option zS :=
  (D_X5_nextRow s).bind fun p113 =>
  rec39 p113.1 (a3 + 1) p113.2
set_option maxRecDepth 100000 in
theorem ok_X5_findSameOfSum_J112 {l : Launch} {D : va_G} {ad : Nat → Nat} {cA : Nat → ClassId} (hj : zInj ad) (r : zS) (s : zS) (a3 : Int32) (rec39 : Int32 → Int32 → zS → Option zS) (hr39 : ∀ (b2 : Int32) (b3 : Int32) (s : zS), rec39 b2 b3 s = some r → zOk l D ad cA (zJm jX5_findSameOfSum) (zEnd D ad cA none r) 39 [some (.ref 38), none, some (.int b2), some (.int b3), none] [] s) (h : D_X5_findSameOfSum_J112 rec39 s a3 = some r) : zOk l D ad cA (zJm jX5_findSameOfSum) (zEnd D ad cA none r) 112 [some (.ref 38), none, none, some (.int a3), none] [] s := by
  unfold D_X5_findSameOfSum_J112 at h
  refine zk_aload_n dX5_findSameOfSum_112 rfl rfl ?_
  obtain ⟨p113, h113, h⟩ := zbind h
  refine zc_X5_115 [] (As := []) (ok_X5_nextRow hj _ h113) rfl ⟨Nat.le_of_ble_eq_true rfl, Nat.le_of_ble_eq_true rfl⟩ ⟨Nat.le_refl _, Nat.le_refl _⟩ rfl rfl (Nat.le_of_ble_eq_true rfl) dX5_findSameOfSum_113 ?_
  refine zk_istore_n (i := 2) dX5_findSameOfSum_116 rfl (by decide) (zk_eq [_, _, _, _, _] rfl ?_)
  refine zk_iinc dX5_findSameOfSum_117 rfl (zinc (m := 1) (by decide)) (by decide) (zk_eq [_, _, _, _, _] rfl ?_)
  refine zk_goto (tgt := 39) dX5_findSameOfSum_120 rfl ?_
  exact hr39 _ _ _ h
def D_X5_findSameOfSum_J89 (rec39 : Int32 → Int32 → zS → Option zS) (s : zS) (a3 : Int32) (a4 : Int32) : Option zS :=
  let s92 : zS := zwI s 38 8 a4
  zgd (zcok 42 (0 : Int32) 44 (0 : Int32) (s92.1 38 0) = true) <|
  let s109 : zS := zcopy s92 42 (0 : Int32) 44 (0 : Int32) (s92.1 38 0)
  D_X5_findSameOfSum_J112 rec39 s109 a3
set_option maxRecDepth 100000 in
theorem ok_X5_findSameOfSum_J89 {l : Launch} {D : va_G} {ad : Nat → Nat} {cA : Nat → ClassId} (hj : zInj ad) (r : zS) (s : zS) (a3 : Int32) (a4 : Int32) (rec39 : Int32 → Int32 → zS → Option zS) (hr39 : ∀ (b2 : Int32) (b3 : Int32) (s : zS), rec39 b2 b3 s = some r → zOk l D ad cA (zJm jX5_findSameOfSum) (zEnd D ad cA none r) 39 [some (.ref 38), none, some (.int b2), some (.int b3), none] [] s) (h : D_X5_findSameOfSum_J89 rec39 s a3 a4 = some r) : zOk l D ad cA (zJm jX5_findSameOfSum) (zEnd D ad cA none r) 89 [some (.ref 38), none, none, some (.int a3), some (.int a4)] [] s := by
  unfold D_X5_findSameOfSum_J89 at h
  refine zk_aload_n dX5_findSameOfSum_89 rfl rfl ?_
  refine zk_iload dX5_findSameOfSum_90 rfl ?_
  refine zp_X5_37 rfl dX5_findSameOfSum_92 ?_
  refine zk_aload_n dX5_findSameOfSum_95 rfl rfl ?_
  refine zf_X5_28 rfl dX5_findSameOfSum_96 ?_
  refine zk_iconst (v := 0) dX5_findSameOfSum_99 (by decide) ?_
  refine zk_aload_n dX5_findSameOfSum_100 rfl rfl ?_
  refine zf_X5_34 rfl dX5_findSameOfSum_101 ?_
  refine zk_iconst (v := 0) dX5_findSameOfSum_104 (by decide) ?_
  refine zk_aload_n dX5_findSameOfSum_105 rfl rfl ?_
  refine zf_X5_9 rfl dX5_findSameOfSum_106 ?_
  obtain ⟨g109, h⟩ := zguard h
  refine zk_copy rfl (List.forall_mem_cons.mpr ⟨zmU 891 (by decide +kernel) rfl, (List.forall_mem_cons.mpr ⟨zmU 893 (by decide +kernel) rfl, (List.forall_mem_cons.mpr ⟨zmU 892 (by decide +kernel) rfl, (List.forall_mem_cons.mpr ⟨zmU 173 (by decide +kernel) rfl, fun _ h => absurd h List.not_mem_nil⟩)⟩)⟩)⟩) g109 (Nat.le_of_ble_eq_true rfl) (by decide +kernel) dX5_findSameOfSum_109 ?_
  refine zk_mask [true, false, false, true, false] ?_
  exact ok_X5_findSameOfSum_J112 hj r _ _ _ hr39 h
def D_X5_findSameOfSum_J64 (rec39 : Int32 → Int32 → zS → Option zS) (s : zS) (a3 : Int32) (k0 : Int32) : Option zS :=
  if k0 = (-1 : Int32) then (
    D_X5_findSameOfSum_J112 rec39 s a3
  ) else (
    if (s.1 38 8) = (-1 : Int32) then (
      D_X5_findSameOfSum_J89 rec39 s a3 k0
    ) else (
      if (s.1 38 8) ≤ k0 then (
        D_X5_findSameOfSum_J112 rec39 s a3
      ) else (
        D_X5_findSameOfSum_J89 rec39 s a3 k0
      )
    )
  )
set_option maxRecDepth 100000 in
theorem ok_X5_findSameOfSum_J64 {l : Launch} {D : va_G} {ad : Nat → Nat} {cA : Nat → ClassId} (hj : zInj ad) (r : zS) (s : zS) (a3 : Int32) (k0 : Int32) (rec39 : Int32 → Int32 → zS → Option zS) (hr39 : ∀ (b2 : Int32) (b3 : Int32) (s : zS), rec39 b2 b3 s = some r → zOk l D ad cA (zJm jX5_findSameOfSum) (zEnd D ad cA none r) 39 [some (.ref 38), none, some (.int b2), some (.int b3), none] [] s) (h : D_X5_findSameOfSum_J64 rec39 s a3 k0 = some r) : zOk l D ad cA (zJm jX5_findSameOfSum) (zEnd D ad cA none r) 64 [some (.ref 38), none, none, some (.int a3), none] [.int k0] s := by
  unfold D_X5_findSameOfSum_J64 at h
  refine zk_istore (i := 4) dX5_findSameOfSum_64 (by decide) (zk_eq [_, _, _, _, _] rfl ?_)
  refine zk_iload dX5_findSameOfSum_66 rfl ?_
  refine zk_iconst (v := -1) dX5_findSameOfSum_68 (by decide) ?_
  refine zk_icmp_eq (tgt := 112) dX5_findSameOfSum_69 rfl (fun g69 => ?_) (fun g69 => ?_)
  · replace h := zpos g69 h
    refine zk_mask [true, false, false, true, false] ?_
    exact ok_X5_findSameOfSum_J112 hj r _ _ _ hr39 h
  · replace h := zneg g69 h
    refine zk_aload_n dX5_findSameOfSum_72 rfl rfl ?_
    refine zf_X5_37 rfl dX5_findSameOfSum_73 ?_
    refine zk_iconst (v := -1) dX5_findSameOfSum_76 (by decide) ?_
    refine zk_icmp_eq (tgt := 89) dX5_findSameOfSum_77 rfl (fun g77 => ?_) (fun g77 => ?_)
    · replace h := zpos g77 h
      exact ok_X5_findSameOfSum_J89 hj r _ _ _ _ hr39 h
    · replace h := zneg g77 h
      refine zk_iload dX5_findSameOfSum_80 rfl ?_
      refine zk_aload_n dX5_findSameOfSum_82 rfl rfl ?_
      refine zf_X5_37 rfl dX5_findSameOfSum_83 ?_
      refine zk_icmp_ge (tgt := 112) dX5_findSameOfSum_86 rfl (fun g86 => ?_) (fun g86 => ?_)
      · replace h := zpos g86 h
        refine zk_mask [true, false, false, true, false] ?_
        exact ok_X5_findSameOfSum_J112 hj r _ _ _ hr39 h
      · replace h := zneg g86 h
        exact ok_X5_findSameOfSum_J89 hj r _ _ _ _ hr39 h
def D_X5_findSameOfSum_B39  (rec39 : Int32 → Int32 → zS → Option zS) (a2 : Int32) (a3 : Int32) (s : zS) : Option zS :=
    if (1000000 : Int32) ≤ a3 then (
      some s
    ) else (
      if a2 = 0 then (
        some s
      ) else (
        (D_X5_isRanked s).bind fun p50 =>
        if p50 = 0 then (
          D_X5_findSameOfSum_J64 rec39 s a3 (-1 : Int32)
        ) else (
          (D_X5_quotaOfRow s).bind fun p57 =>
          D_X5_findSameOfSum_J64 rec39 p57.2 a3 p57.1
        )
      )
    )
def D_X5_findSameOfSum_L39 (n : Nat) (a2 : Int32) (a3 : Int32) (s : zS) : Option zS := zfx (fun (rec : Int32 × Int32 × zS → Option zS) q => D_X5_findSameOfSum_B39 (fun v0 v1 v2 => rec (v0, v1, v2)) q.1 q.2.1 q.2.2) n (a2, a3, s)
set_option maxRecDepth 100000 in
theorem D_X5_findSameOfSum_L39_s (n : Nat) (a2 : Int32) (a3 : Int32) (s : zS) : D_X5_findSameOfSum_L39 (n + 1) a2 a3 s = D_X5_findSameOfSum_B39 (D_X5_findSameOfSum_L39 n) a2 a3 s := rfl
set_option maxRecDepth 100000 in
theorem ok_X5_findSameOfSum_L39 {l : Launch} {D : va_G} {ad : Nat → Nat} {cA : Nat → ClassId} (hj : zInj ad) (r : zS)  : ∀ (n : Nat) (a2 : Int32) (a3 : Int32) (s : zS), D_X5_findSameOfSum_L39 n a2 a3 s = some r → zOk l D ad cA (zJm jX5_findSameOfSum) (zEnd D ad cA none r) 39 [some (.ref 38), none, some (.int a2), some (.int a3), none] [] s := by
  intro n
  induction n with
  | zero =>
    intro a2 a3 s h
    have h0 : (none : Option zS) = some r := h
    cases h0
  | succ n hr39 =>
    intro a2 a3 s h
    have h : D_X5_findSameOfSum_B39 (D_X5_findSameOfSum_L39 n) a2 a3 s = some r := h
    unfold D_X5_findSameOfSum_B39 at h
    refine zk_iload_n dX5_findSameOfSum_39 rfl rfl ?_
    refine zk_ldc dX5_findSameOfSum_40 zw_X5_101 ?_
    refine zk_icmp_ge (tgt := 123) dX5_findSameOfSum_42 rfl (fun g42 => ?_) (fun g42 => ?_)
    · replace h := zpos g42 h
      have e9 := Option.some.inj h
      subst e9
      exact zk_vret rfl ⟨rfl, rfl⟩ dX5_findSameOfSum_123
    · replace h := zneg g42 h
      refine zk_iload_n dX5_findSameOfSum_45 rfl rfl ?_
      refine zk_if_eq (tgt := 123) dX5_findSameOfSum_46 rfl (fun g46 => ?_) (fun g46 => ?_)
      · replace h := zpos g46 h
        have e9 := Option.some.inj h
        subst e9
        exact zk_vret rfl ⟨rfl, rfl⟩ dX5_findSameOfSum_123
      · replace h := zneg g46 h
        refine zk_aload_n dX5_findSameOfSum_49 rfl rfl ?_
        obtain ⟨p50, h50, h⟩ := zbind h
        refine zc_X5_102 [] (As := []) (ok_X5_isRanked hj _ h50) rfl ⟨Nat.le_of_ble_eq_true rfl, Nat.le_of_ble_eq_true rfl⟩ ⟨Nat.le_refl _, Nat.le_refl _⟩ rfl rfl (Nat.le_of_ble_eq_true rfl) dX5_findSameOfSum_50 ?_
        refine zk_if_eq (tgt := 63) dX5_findSameOfSum_53 rfl (fun g53 => ?_) (fun g53 => ?_)
        · replace h := zpos g53 h
          refine zk_iconst (v := -1) dX5_findSameOfSum_63 (by decide) ?_
          refine zk_mask [true, false, false, true, false] ?_
          exact ok_X5_findSameOfSum_J64 hj r _ _ _ _ hr39 h
        · replace h := zneg g53 h
          refine zk_aload_n dX5_findSameOfSum_56 rfl rfl ?_
          obtain ⟨p57, h57, h⟩ := zbind h
          refine zc_X5_106 [] (As := []) (ok_X5_quotaOfRow hj _ h57) rfl ⟨Nat.le_of_ble_eq_true rfl, Nat.le_of_ble_eq_true rfl⟩ ⟨Nat.le_refl _, Nat.le_refl _⟩ rfl rfl (Nat.le_of_ble_eq_true rfl) dX5_findSameOfSum_57 ?_
          refine zk_goto (tgt := 64) dX5_findSameOfSum_60 rfl ?_
          refine zk_mask [true, false, false, true, false] ?_
          exact ok_X5_findSameOfSum_J64 hj r _ _ _ _ hr39 h
def D_X5_findSameOfSum_B2 (a1 : Int32) (rec2 : Int32 → zS → Option zS) (a2 : Int32) (s : zS) : Option zS :=
    if (s.1 38 0) ≤ a2 then (
      zgd (zin ((s.1 38 0) - (1 : Int32)) 5 = true) <|
      let s34 : zS := zwI s 42 ((s.1 38 0) - (1 : Int32)).toNatClampNeg a1
      D_X5_findSameOfSum_L39 zFU (1 : Int32) (0 : Int32) s34
    ) else (
      zgd (zin a2 5 = true) <|
      let s16 : zS := zwI s 42 a2.toNatClampNeg (0 : Int32)
      rec2 (a2 + 1) s16
    )
def D_X5_findSameOfSum_L2 (a1 : Int32) (n : Nat) (a2 : Int32) (s : zS) : Option zS := zfx (fun (rec : Int32 × zS → Option zS) q => D_X5_findSameOfSum_B2 a1 (fun v0 v1 => rec (v0, v1)) q.1 q.2) n (a2, s)
set_option maxRecDepth 100000 in
theorem D_X5_findSameOfSum_L2_s (a1 : Int32) (n : Nat) (a2 : Int32) (s : zS) : D_X5_findSameOfSum_L2 a1 (n + 1) a2 s = D_X5_findSameOfSum_B2 a1 (D_X5_findSameOfSum_L2 a1 n) a2 s := rfl
set_option maxRecDepth 100000 in
theorem ok_X5_findSameOfSum_L2 {l : Launch} {D : va_G} {ad : Nat → Nat} {cA : Nat → ClassId} (hj : zInj ad) (r : zS) (a1 : Int32) : ∀ (n : Nat) (a2 : Int32) (s : zS), D_X5_findSameOfSum_L2 a1 n a2 s = some r → zOk l D ad cA (zJm jX5_findSameOfSum) (zEnd D ad cA none r) 2 [some (.ref 38), some (.int a1), some (.int a2), none, none] [] s := by
  intro n
  induction n with
  | zero =>
    intro a2 s h
    have h0 : (none : Option zS) = some r := h
    cases h0
  | succ n hr2 =>
    intro a2 s h
    have h : D_X5_findSameOfSum_B2 a1 (D_X5_findSameOfSum_L2 a1 n) a2 s = some r := h
    unfold D_X5_findSameOfSum_B2 at h
    refine zk_iload_n dX5_findSameOfSum_2 rfl rfl ?_
    refine zk_aload_n dX5_findSameOfSum_3 rfl rfl ?_
    refine zf_X5_9 rfl dX5_findSameOfSum_4 ?_
    refine zk_icmp_ge (tgt := 23) dX5_findSameOfSum_7 rfl (fun g7 => ?_) (fun g7 => ?_)
    · replace h := zpos g7 h
      refine zk_aload_n dX5_findSameOfSum_23 rfl rfl ?_
      refine zf_X5_28 rfl dX5_findSameOfSum_24 ?_
      refine zk_aload_n dX5_findSameOfSum_27 rfl rfl ?_
      refine zf_X5_9 rfl dX5_findSameOfSum_28 ?_
      refine zk_iconst (v := 1) dX5_findSameOfSum_31 (by decide) ?_
      refine zk_isub dX5_findSameOfSum_32 ?_
      refine zk_iload_n dX5_findSameOfSum_33 rfl rfl ?_
      obtain ⟨g34, h⟩ := zguard h
      refine zk_iast (zoI_of rfl g34) dX5_findSameOfSum_34 ?_
      refine zk_iconst (v := 1) dX5_findSameOfSum_35 (by decide) ?_
      refine zk_istore_n (i := 2) dX5_findSameOfSum_36 rfl (by decide) (zk_eq [_, _, _, _, _] rfl ?_)
      refine zk_iconst (v := 0) dX5_findSameOfSum_37 (by decide) ?_
      refine zk_istore_n (i := 3) dX5_findSameOfSum_38 rfl (by decide) (zk_eq [_, _, _, _, _] rfl ?_)
      refine zk_mask [true, false, true, true, false] ?_
      exact ok_X5_findSameOfSum_L39 hj r  _ _ _ _ h
    · replace h := zneg g7 h
      refine zk_aload_n dX5_findSameOfSum_10 rfl rfl ?_
      refine zf_X5_28 rfl dX5_findSameOfSum_11 ?_
      refine zk_iload_n dX5_findSameOfSum_14 rfl rfl ?_
      refine zk_iconst (v := 0) dX5_findSameOfSum_15 (by decide) ?_
      obtain ⟨g16, h⟩ := zguard h
      refine zk_iast (zoI_of rfl g16) dX5_findSameOfSum_16 ?_
      refine zk_iinc dX5_findSameOfSum_17 rfl (zinc (m := 1) (by decide)) (by decide) (zk_eq [_, _, _, _, _] rfl ?_)
      refine zk_goto (tgt := 2) dX5_findSameOfSum_20 rfl ?_
      exact hr2 _ _ h
def D_X5_findSameOfSum (s : zS) (a1 : Int32) : Option zS :=
  D_X5_findSameOfSum_L2 a1 zFU (0 : Int32) s
set_option maxRecDepth 100000 in
theorem ok_X5_findSameOfSum {l : Launch} {D : va_G} {ad : Nat → Nat} {cA : Nat → ClassId} (hj : zInj ad) (s : zS) (a1 : Int32) {r : zS} (h : D_X5_findSameOfSum s a1 = some r) : zMet l D ad cA jX5_findSameOfSum [.ref 38, .int a1] s none r := by
  refine zMet_of jX5_findSameOfSum [some (.ref 38), some (.int a1), none, none, none] (by decide +kernel) (Nat.le_of_ble_eq_true rfl) rfl hj ?_
  unfold D_X5_findSameOfSum at h
  refine zk_iconst (v := 0) dX5_findSameOfSum_0 (by decide) ?_
  refine zk_istore_n (i := 2) dX5_findSameOfSum_1 rfl (by decide) (zk_eq [_, _, _, _, _] rfl ?_)
  exact ok_X5_findSameOfSum_L2 hj r _ _ _ _ h
def D_X5_findSame_J67 (s : zS) : Option zS :=
  let s69 : zS := zwI s 38 9 (1 : Int32)
  some s69
set_option maxRecDepth 100000 in
theorem ok_X5_findSame_J67 {l : Launch} {D : va_G} {ad : Nat → Nat} {cA : Nat → ClassId} (hj : zInj ad) (r : zS) (s : zS) (h : D_X5_findSame_J67 s = some r) : zOk l D ad cA (zJm jX5_findSame) (zEnd D ad cA none r) 67 [some (.ref 38), none] [] s := by
  unfold D_X5_findSame_J67 at h
  refine zk_aload_n dX5_findSame_67 rfl rfl ?_
  refine zk_iconst (v := 1) dX5_findSame_68 (by decide) ?_
  refine zp_X5_40 rfl (Or.inr rfl) dX5_findSame_69 ?_
  have e9 := Option.some.inj h
  subst e9
  exact zk_vret rfl ⟨rfl, rfl⟩ dX5_findSame_72
def D_X5_findSame_B42  (rec42 : Int32 → zS → Option zS) (a1 : Int32) (s : zS) : Option zS :=
    if (12 : Int32) < a1 then (
      D_X5_findSame_J67 s
    ) else (
      if (s.1 38 8) = (-1 : Int32) then (
        (D_X5_findSameOfSum s a1).bind fun p58 =>
        rec42 (a1 + 1) p58
      ) else (
        D_X5_findSame_J67 s
      )
    )
def D_X5_findSame_L42 (n : Nat) (a1 : Int32) (s : zS) : Option zS := zfx (fun (rec : Int32 × zS → Option zS) q => D_X5_findSame_B42 (fun v0 v1 => rec (v0, v1)) q.1 q.2) n (a1, s)
set_option maxRecDepth 100000 in
theorem D_X5_findSame_L42_s (n : Nat) (a1 : Int32) (s : zS) : D_X5_findSame_L42 (n + 1) a1 s = D_X5_findSame_B42 (D_X5_findSame_L42 n) a1 s := rfl
set_option maxRecDepth 100000 in
theorem ok_X5_findSame_L42 {l : Launch} {D : va_G} {ad : Nat → Nat} {cA : Nat → ClassId} (hj : zInj ad) (r : zS)  : ∀ (n : Nat) (a1 : Int32) (s : zS), D_X5_findSame_L42 n a1 s = some r → zOk l D ad cA (zJm jX5_findSame) (zEnd D ad cA none r) 42 [some (.ref 38), some (.int a1)] [] s := by
  intro n
  induction n with
  | zero =>
    intro a1 s h
    have h0 : (none : Option zS) = some r := h
    cases h0
  | succ n hr42 =>
    intro a1 s h
    have h : D_X5_findSame_B42 (D_X5_findSame_L42 n) a1 s = some r := h
    unfold D_X5_findSame_B42 at h
    refine zk_iload_n dX5_findSame_42 rfl rfl ?_
    refine zk_bipush (v := 12) dX5_findSame_43 (by decide) ?_
    refine zk_icmp_gt (tgt := 67) dX5_findSame_45 rfl (fun g45 => ?_) (fun g45 => ?_)
    · replace h := zpos g45 h
      refine zk_mask [true, false] ?_
      exact ok_X5_findSame_J67 hj r _ h
    · replace h := zneg g45 h
      refine zk_aload_n dX5_findSame_48 rfl rfl ?_
      refine zf_X5_37 rfl dX5_findSame_49 ?_
      refine zk_iconst (v := -1) dX5_findSame_52 (by decide) ?_
      refine zk_icmp_ne (tgt := 67) dX5_findSame_53 rfl (fun g53 => ?_) (fun g53 => ?_)
      · replace h := zneg g53 h
        refine zk_mask [true, false] ?_
        exact ok_X5_findSame_J67 hj r _ h
      · replace h := zpos g53 h
        refine zk_aload_n dX5_findSame_56 rfl rfl ?_
        refine zk_iload_n dX5_findSame_57 rfl rfl ?_
        obtain ⟨p58, h58, h⟩ := zbind h
        refine zc_X5_97 [] (As := [.int _]) (ok_X5_findSameOfSum hj _ _ h58) rfl ⟨Nat.le_of_ble_eq_true rfl, Nat.le_of_ble_eq_true rfl⟩ ⟨Nat.le_refl _, Nat.le_refl _⟩ rfl rfl (Nat.le_of_ble_eq_true rfl) dX5_findSame_58 ?_
        refine zk_iinc dX5_findSame_61 rfl (zinc (m := 1) (by decide)) (by decide) (zk_eq [_, _] rfl ?_)
        refine zk_goto (tgt := 42) dX5_findSame_64 rfl ?_
        exact hr42 _ _ h
def D_X5_findSame_B15  (rec15 : Int32 → zS → Option zS) (a1 : Int32) (s : zS) : Option zS :=
    if (s.1 38 0) ≤ a1 then (
      D_X5_findSame_L42 zFU (0 : Int32) s
    ) else (
      (D_X5_turnsOf s a1).bind fun p30 =>
      zgd (zin a1 5 = true) <|
      let s33 : zS := zwI s 41 a1.toNatClampNeg p30
      rec15 (a1 + 1) s33
    )
def D_X5_findSame_L15 (n : Nat) (a1 : Int32) (s : zS) : Option zS := zfx (fun (rec : Int32 × zS → Option zS) q => D_X5_findSame_B15 (fun v0 v1 => rec (v0, v1)) q.1 q.2) n (a1, s)
set_option maxRecDepth 100000 in
theorem D_X5_findSame_L15_s (n : Nat) (a1 : Int32) (s : zS) : D_X5_findSame_L15 (n + 1) a1 s = D_X5_findSame_B15 (D_X5_findSame_L15 n) a1 s := rfl
set_option maxRecDepth 100000 in
theorem ok_X5_findSame_L15 {l : Launch} {D : va_G} {ad : Nat → Nat} {cA : Nat → ClassId} (hj : zInj ad) (r : zS)  : ∀ (n : Nat) (a1 : Int32) (s : zS), D_X5_findSame_L15 n a1 s = some r → zOk l D ad cA (zJm jX5_findSame) (zEnd D ad cA none r) 15 [some (.ref 38), some (.int a1)] [] s := by
  intro n
  induction n with
  | zero =>
    intro a1 s h
    have h0 : (none : Option zS) = some r := h
    cases h0
  | succ n hr15 =>
    intro a1 s h
    have h : D_X5_findSame_B15 (D_X5_findSame_L15 n) a1 s = some r := h
    unfold D_X5_findSame_B15 at h
    refine zk_iload_n dX5_findSame_15 rfl rfl ?_
    refine zk_aload_n dX5_findSame_16 rfl rfl ?_
    refine zf_X5_9 rfl dX5_findSame_17 ?_
    refine zk_icmp_ge (tgt := 40) dX5_findSame_20 rfl (fun g20 => ?_) (fun g20 => ?_)
    · replace h := zpos g20 h
      refine zk_iconst (v := 0) dX5_findSame_40 (by decide) ?_
      refine zk_istore_n (i := 1) dX5_findSame_41 rfl (by decide) (zk_eq [_, _] rfl ?_)
      exact ok_X5_findSame_L42 hj r  _ _ _ h
    · replace h := zneg g20 h
      refine zk_aload_n dX5_findSame_23 rfl rfl ?_
      refine zf_X5_25 rfl dX5_findSame_24 ?_
      refine zk_iload_n dX5_findSame_27 rfl rfl ?_
      refine zk_aload_n dX5_findSame_28 rfl rfl ?_
      refine zk_iload_n dX5_findSame_29 rfl rfl ?_
      obtain ⟨p30, h30, h⟩ := zbind h
      refine zc_X5_94 [.int _, .ref _] (As := [.int _]) (ok_X5_turnsOf hj _ _ h30) rfl ⟨Nat.le_of_ble_eq_true rfl, Nat.le_of_ble_eq_true rfl⟩ ⟨Nat.le_refl _, Nat.le_refl _⟩ rfl rfl (Nat.le_of_ble_eq_true rfl) dX5_findSame_30 ?_
      obtain ⟨g33, h⟩ := zguard h
      refine zk_iast (zoI_of rfl g33) dX5_findSame_33 ?_
      refine zk_iinc dX5_findSame_34 rfl (zinc (m := 1) (by decide)) (by decide) (zk_eq [_, _] rfl ?_)
      refine zk_goto (tgt := 15) dX5_findSame_37 rfl ?_
      exact hr15 _ _ h
def D_X5_findSame (s : zS) : Option zS :=
  if (s.1 38 9) = 0 then (
    let s10 : zS := zwI s 38 8 (-1 : Int32)
    D_X5_findSame_L15 zFU (0 : Int32) s10
  ) else (
    some s
  )
set_option maxRecDepth 100000 in
theorem ok_X5_findSame {l : Launch} {D : va_G} {ad : Nat → Nat} {cA : Nat → ClassId} (hj : zInj ad) (s : zS)  {r : zS} (h : D_X5_findSame s = some r) : zMet l D ad cA jX5_findSame [.ref 38] s none r := by
  refine zMet_of jX5_findSame [some (.ref 38), none] (by decide +kernel) (Nat.le_of_ble_eq_true rfl) rfl hj ?_
  unfold D_X5_findSame at h
  refine zk_aload_n dX5_findSame_0 rfl rfl ?_
  refine zf_X5_40 rfl dX5_findSame_1 ?_
  refine zk_if_eq (tgt := 8) dX5_findSame_4 rfl (fun g4 => ?_) (fun g4 => ?_)
  · replace h := zpos g4 h
    refine zk_aload_n dX5_findSame_8 rfl rfl ?_
    refine zk_iconst (v := -1) dX5_findSame_9 (by decide) ?_
    refine zp_X5_37 rfl dX5_findSame_10 ?_
    refine zk_iconst (v := 0) dX5_findSame_13 (by decide) ?_
    refine zk_istore_n (i := 1) dX5_findSame_14 rfl (by decide) (zk_eq [_, _] rfl ?_)
    exact ok_X5_findSame_L15 hj r  _ _ _ h
  · replace h := zneg g4 h
    have e9 := Option.some.inj h
    subst e9
    exact zk_vret rfl ⟨rfl, rfl⟩ dX5_findSame_7
def D_X5_isBlocking_J30 (s : zS) : Option Int32 :=
  some (0 : Int32)
set_option maxRecDepth 100000 in
theorem ok_X5_isBlocking_J30 {l : Launch} {D : va_G} {ad : Nat → Nat} {cA : Nat → ClassId} (hj : zInj ad) (r : Int32) (s : zS) (h : D_X5_isBlocking_J30 s = some r) : zOk l D ad cA (zJm jX5_isBlocking) (zEnd D ad cA (some (.int r)) s) 30 [none, none] [] s := by
  unfold D_X5_isBlocking_J30 at h
  refine zk_iconst (v := 0) dX5_isBlocking_30 (by decide) ?_
  have e9 := Option.some.inj h
  subst e9
  exact zk_zret rfl (Or.inl rfl) ⟨rfl, rfl⟩ dX5_isBlocking_31
def D_X5_isBlocking (s : zS) (a1 : Int32) : Option Int32 :=
  (D_X5_allVoters s).bind fun p2 =>
  (D_X5_isWinning s p2).bind fun p5 =>
  if p5 = 0 then (
    D_X5_isBlocking_J30 s
  ) else (
    (D_X5_allVoters s).bind fun p13 =>
    (D_X5_isWinning s (p13 - ((1 : Int32) <<< (a1 &&& 31)))).bind fun p20 =>
    if p20 = 0 then (
      some (1 : Int32)
    ) else (
      D_X5_isBlocking_J30 s
    )
  )
set_option maxRecDepth 100000 in
theorem ok_X5_isBlocking {l : Launch} {D : va_G} {ad : Nat → Nat} {cA : Nat → ClassId} (hj : zInj ad) (s : zS) (a1 : Int32) {r : Int32} (h : D_X5_isBlocking s a1 = some r) : zMet l D ad cA jX5_isBlocking [.ref 38, .int a1] s (some (.int r)) s := by
  refine zMet_of jX5_isBlocking [some (.ref 38), some (.int a1)] (by decide +kernel) (Nat.le_of_ble_eq_true rfl) rfl hj ?_
  unfold D_X5_isBlocking at h
  refine zk_aload_n dX5_isBlocking_0 rfl rfl ?_
  refine zk_aload_n dX5_isBlocking_1 rfl rfl ?_
  obtain ⟨p2, h2, h⟩ := zbind h
  refine zc_X5_64 [.ref _] (As := []) (ok_X5_allVoters hj _ h2) rfl ⟨Nat.le_of_ble_eq_true rfl, Nat.le_of_ble_eq_true rfl⟩ ⟨Nat.le_refl _, Nat.le_refl _⟩ rfl rfl (Nat.le_of_ble_eq_true rfl) dX5_isBlocking_2 ?_
  obtain ⟨p5, h5, h⟩ := zbind h
  refine zc_X5_60 [] (As := [.int _]) (ok_X5_isWinning hj _ _ h5) rfl ⟨Nat.le_of_ble_eq_true rfl, Nat.le_of_ble_eq_true rfl⟩ ⟨Nat.le_refl _, Nat.le_refl _⟩ rfl rfl (Nat.le_of_ble_eq_true rfl) dX5_isBlocking_5 ?_
  refine zk_if_eq (tgt := 30) dX5_isBlocking_8 rfl (fun g8 => ?_) (fun g8 => ?_)
  · replace h := zpos g8 h
    refine zk_mask [false, false] ?_
    exact ok_X5_isBlocking_J30 hj r _ h
  · replace h := zneg g8 h
    refine zk_aload_n dX5_isBlocking_11 rfl rfl ?_
    refine zk_aload_n dX5_isBlocking_12 rfl rfl ?_
    obtain ⟨p13, h13, h⟩ := zbind h
    refine zc_X5_64 [.ref _] (As := []) (ok_X5_allVoters hj _ h13) rfl ⟨Nat.le_of_ble_eq_true rfl, Nat.le_of_ble_eq_true rfl⟩ ⟨Nat.le_refl _, Nat.le_refl _⟩ rfl rfl (Nat.le_of_ble_eq_true rfl) dX5_isBlocking_13 ?_
    refine zk_iconst (v := 1) dX5_isBlocking_16 (by decide) ?_
    refine zk_iload_n dX5_isBlocking_17 rfl rfl ?_
    refine zk_ishl dX5_isBlocking_18 ?_
    refine zk_isub dX5_isBlocking_19 ?_
    obtain ⟨p20, h20, h⟩ := zbind h
    refine zc_X5_60 [] (As := [.int _]) (ok_X5_isWinning hj _ _ h20) rfl ⟨Nat.le_of_ble_eq_true rfl, Nat.le_of_ble_eq_true rfl⟩ ⟨Nat.le_refl _, Nat.le_refl _⟩ rfl rfl (Nat.le_of_ble_eq_true rfl) dX5_isBlocking_20 ?_
    refine zk_if_ne (tgt := 30) dX5_isBlocking_23 rfl (fun g23 => ?_) (fun g23 => ?_)
    · replace h := zneg g23 h
      refine zk_mask [false, false] ?_
      exact ok_X5_isBlocking_J30 hj r _ h
    · replace h := zpos g23 h
      refine zk_iconst (v := 1) dX5_isBlocking_26 (by decide) ?_
      refine zk_goto (tgt := 31) dX5_isBlocking_27 rfl ?_
      have e9 := Option.some.inj h
      subst e9
      exact zk_zret rfl (Or.inr rfl) ⟨rfl, rfl⟩ dX5_isBlocking_31
def D_X5_isLeastSet_B12 (s : zS) (a1 : Int32) (rec12 : Int32 → Option Int32) (a2 : Int32) : Option Int32 :=
    if (s.1 38 0) ≤ a2 then (
      some (1 : Int32)
    ) else (
      (D_X8_has a1 a2).bind fun p22 =>
      if p22 = 0 then (
        rec12 (a2 + 1)
      ) else (
        (D_X5_isWinning s (a1 - ((1 : Int32) <<< (a2 &&& 31)))).bind fun p34 =>
        if p34 = 0 then (
          rec12 (a2 + 1)
        ) else (
          some (0 : Int32)
        )
      )
    )
def D_X5_isLeastSet_L12 (s : zS) (a1 : Int32) (n : Nat) (a2 : Int32) : Option Int32 := zfx (fun (rec : Int32 → Option Int32) q => D_X5_isLeastSet_B12 s a1 (fun v0 => rec (v0)) q) n (a2)
set_option maxRecDepth 100000 in
theorem D_X5_isLeastSet_L12_s (s : zS) (a1 : Int32) (n : Nat) (a2 : Int32) : D_X5_isLeastSet_L12 s a1 (n + 1) a2 = D_X5_isLeastSet_B12 s a1 (D_X5_isLeastSet_L12 s a1 n) a2 := rfl
set_option maxRecDepth 100000 in
theorem ok_X5_isLeastSet_L12 {l : Launch} {D : va_G} {ad : Nat → Nat} {cA : Nat → ClassId} (hj : zInj ad) (r : Int32) (s : zS) (a1 : Int32) : ∀ (n : Nat) (a2 : Int32), D_X5_isLeastSet_L12 s a1 n a2 = some r → zOk l D ad cA (zJm jX5_isLeastSet) (zEnd D ad cA (some (.int r)) s) 12 [some (.ref 38), some (.int a1), some (.int a2)] [] s := by
  intro n
  induction n with
  | zero =>
    intro a2 h
    have h0 : (none : Option Int32) = some r := h
    cases h0
  | succ n hr12 =>
    intro a2 h
    have h : D_X5_isLeastSet_B12 s a1 (D_X5_isLeastSet_L12 s a1 n) a2 = some r := h
    unfold D_X5_isLeastSet_B12 at h
    refine zk_iload_n dX5_isLeastSet_12 rfl rfl ?_
    refine zk_aload_n dX5_isLeastSet_13 rfl rfl ?_
    refine zf_X5_9 rfl dX5_isLeastSet_14 ?_
    refine zk_icmp_ge (tgt := 48) dX5_isLeastSet_17 rfl (fun g17 => ?_) (fun g17 => ?_)
    · replace h := zpos g17 h
      refine zk_iconst (v := 1) dX5_isLeastSet_48 (by decide) ?_
      have e9 := Option.some.inj h
      subst e9
      exact zk_zret rfl (Or.inr rfl) ⟨rfl, rfl⟩ dX5_isLeastSet_49
    · replace h := zneg g17 h
      refine zk_iload_n dX5_isLeastSet_20 rfl rfl ?_
      refine zk_iload_n dX5_isLeastSet_21 rfl rfl ?_
      obtain ⟨p22, h22, h⟩ := zbind h
      refine zc_X5_56 [] (As := [.int _, .int _]) (ok_X8_has hj _ _ _ h22) rfl ⟨Nat.le_of_ble_eq_true rfl, Nat.le_of_ble_eq_true rfl⟩ ⟨Nat.le_refl _, Nat.le_refl _⟩ rfl rfl (Nat.le_of_ble_eq_true rfl) dX5_isLeastSet_22 ?_
      refine zk_if_eq (tgt := 42) dX5_isLeastSet_25 rfl (fun g25 => ?_) (fun g25 => ?_)
      · replace h := zpos g25 h
        refine zk_iinc dX5_isLeastSet_42 rfl (zinc (m := 1) (by decide)) (by decide) (zk_eq [_, _, _] rfl ?_)
        refine zk_goto (tgt := 12) dX5_isLeastSet_45 rfl ?_
        exact hr12 _ h
      · replace h := zneg g25 h
        refine zk_aload_n dX5_isLeastSet_28 rfl rfl ?_
        refine zk_iload_n dX5_isLeastSet_29 rfl rfl ?_
        refine zk_iconst (v := 1) dX5_isLeastSet_30 (by decide) ?_
        refine zk_iload_n dX5_isLeastSet_31 rfl rfl ?_
        refine zk_ishl dX5_isLeastSet_32 ?_
        refine zk_isub dX5_isLeastSet_33 ?_
        obtain ⟨p34, h34, h⟩ := zbind h
        refine zc_X5_60 [] (As := [.int _]) (ok_X5_isWinning hj _ _ h34) rfl ⟨Nat.le_of_ble_eq_true rfl, Nat.le_of_ble_eq_true rfl⟩ ⟨Nat.le_refl _, Nat.le_refl _⟩ rfl rfl (Nat.le_of_ble_eq_true rfl) dX5_isLeastSet_34 ?_
        refine zk_if_eq (tgt := 42) dX5_isLeastSet_37 rfl (fun g37 => ?_) (fun g37 => ?_)
        · replace h := zpos g37 h
          refine zk_iinc dX5_isLeastSet_42 rfl (zinc (m := 1) (by decide)) (by decide) (zk_eq [_, _, _] rfl ?_)
          refine zk_goto (tgt := 12) dX5_isLeastSet_45 rfl ?_
          exact hr12 _ h
        · replace h := zneg g37 h
          refine zk_iconst (v := 0) dX5_isLeastSet_40 (by decide) ?_
          have e9 := Option.some.inj h
          subst e9
          exact zk_zret rfl (Or.inl rfl) ⟨rfl, rfl⟩ dX5_isLeastSet_41
def D_X5_isLeastSet (s : zS) (a1 : Int32) : Option Int32 :=
  (D_X5_isWinning s a1).bind fun p2 =>
  if p2 = 0 then (
    some (0 : Int32)
  ) else (
    D_X5_isLeastSet_L12 s a1 zFU (0 : Int32)
  )
set_option maxRecDepth 100000 in
theorem ok_X5_isLeastSet {l : Launch} {D : va_G} {ad : Nat → Nat} {cA : Nat → ClassId} (hj : zInj ad) (s : zS) (a1 : Int32) {r : Int32} (h : D_X5_isLeastSet s a1 = some r) : zMet l D ad cA jX5_isLeastSet [.ref 38, .int a1] s (some (.int r)) s := by
  refine zMet_of jX5_isLeastSet [some (.ref 38), some (.int a1), none] (by decide +kernel) (Nat.le_of_ble_eq_true rfl) rfl hj ?_
  unfold D_X5_isLeastSet at h
  refine zk_aload_n dX5_isLeastSet_0 rfl rfl ?_
  refine zk_iload_n dX5_isLeastSet_1 rfl rfl ?_
  obtain ⟨p2, h2, h⟩ := zbind h
  refine zc_X5_60 [] (As := [.int _]) (ok_X5_isWinning hj _ _ h2) rfl ⟨Nat.le_of_ble_eq_true rfl, Nat.le_of_ble_eq_true rfl⟩ ⟨Nat.le_refl _, Nat.le_refl _⟩ rfl rfl (Nat.le_of_ble_eq_true rfl) dX5_isLeastSet_2 ?_
  refine zk_if_ne (tgt := 10) dX5_isLeastSet_5 rfl (fun g5 => ?_) (fun g5 => ?_)
  · replace h := zneg g5 h
    refine zk_iconst (v := 0) dX5_isLeastSet_10 (by decide) ?_
    refine zk_istore_n (i := 2) dX5_isLeastSet_11 rfl (by decide) (zk_eq [_, _, _] rfl ?_)
    exact ok_X5_isLeastSet_L12 hj r _ _ _ _ h
  · replace h := zpos g5 h
    refine zk_iconst (v := 0) dX5_isLeastSet_8 (by decide) ?_
    have e9 := Option.some.inj h
    subst e9
    exact zk_zret rfl (Or.inl rfl) ⟨rfl, rfl⟩ dX5_isLeastSet_9
def D_X5_partsOfLeastSets_B4 (s : zS) (a1 : Int32) (rec4 : Int32 → Int32 → Option Int32) (a2 : Int32) (a3 : Int32) : Option Int32 :=
    (D_X5_allVoters s).bind fun p6 =>
    if p6 < a3 then (
      some a2
    ) else (
      (D_X8_has a3 a1).bind fun p14 =>
      if p14 = 0 then (
        rec4 a2 (a3 + 1)
      ) else (
        (D_X5_isLeastSet s a3).bind fun p22 =>
        if p22 = 0 then (
          rec4 a2 (a3 + 1)
        ) else (
          (D_J6_bitCount_0f7a4 a3).bind fun p34 =>
          if (zmax (1 : Int32) p34) = 0 then none else
          rec4 (a2 + ((840 : Int32) / (zmax (1 : Int32) p34))) (a3 + 1)
        )
      )
    )
def D_X5_partsOfLeastSets_L4 (s : zS) (a1 : Int32) (n : Nat) (a2 : Int32) (a3 : Int32) : Option Int32 := zfx (fun (rec : Int32 × Int32 → Option Int32) q => D_X5_partsOfLeastSets_B4 s a1 (fun v0 v1 => rec (v0, v1)) q.1 q.2) n (a2, a3)
set_option maxRecDepth 100000 in
theorem D_X5_partsOfLeastSets_L4_s (s : zS) (a1 : Int32) (n : Nat) (a2 : Int32) (a3 : Int32) : D_X5_partsOfLeastSets_L4 s a1 (n + 1) a2 a3 = D_X5_partsOfLeastSets_B4 s a1 (D_X5_partsOfLeastSets_L4 s a1 n) a2 a3 := rfl
set_option maxRecDepth 100000 in
theorem ok_X5_partsOfLeastSets_L4 {l : Launch} {D : va_G} {ad : Nat → Nat} {cA : Nat → ClassId} (hj : zInj ad) (r : Int32) (s : zS) (a1 : Int32) : ∀ (n : Nat) (a2 : Int32) (a3 : Int32), D_X5_partsOfLeastSets_L4 s a1 n a2 a3 = some r → zOk l D ad cA (zJm jX5_partsOfLeastSets) (zEnd D ad cA (some (.int r)) s) 4 [some (.ref 38), some (.int a1), some (.int a2), some (.int a3)] [] s := by
  intro n
  induction n with
  | zero =>
    intro a2 a3 h
    have h0 : (none : Option Int32) = some r := h
    cases h0
  | succ n hr4 =>
    intro a2 a3 h
    have h : D_X5_partsOfLeastSets_B4 s a1 (D_X5_partsOfLeastSets_L4 s a1 n) a2 a3 = some r := h
    unfold D_X5_partsOfLeastSets_B4 at h
    refine zk_iload_n dX5_partsOfLeastSets_4 rfl rfl ?_
    refine zk_aload_n dX5_partsOfLeastSets_5 rfl rfl ?_
    obtain ⟨p6, h6, h⟩ := zbind h
    refine zc_X5_64 [.int _] (As := []) (ok_X5_allVoters hj _ h6) rfl ⟨Nat.le_of_ble_eq_true rfl, Nat.le_of_ble_eq_true rfl⟩ ⟨Nat.le_refl _, Nat.le_refl _⟩ rfl rfl (Nat.le_of_ble_eq_true rfl) dX5_partsOfLeastSets_6 ?_
    refine zk_icmp_gt (tgt := 49) dX5_partsOfLeastSets_9 rfl (fun g9 => ?_) (fun g9 => ?_)
    · replace h := zpos g9 h
      refine zk_iload_n dX5_partsOfLeastSets_49 rfl rfl ?_
      have e9 := Option.some.inj h
      subst e9
      exact zk_iret rfl ⟨rfl, rfl⟩ dX5_partsOfLeastSets_50
    · replace h := zneg g9 h
      refine zk_iload_n dX5_partsOfLeastSets_12 rfl rfl ?_
      refine zk_iload_n dX5_partsOfLeastSets_13 rfl rfl ?_
      obtain ⟨p14, h14, h⟩ := zbind h
      refine zc_X5_56 [] (As := [.int _, .int _]) (ok_X8_has hj _ _ _ h14) rfl ⟨Nat.le_of_ble_eq_true rfl, Nat.le_of_ble_eq_true rfl⟩ ⟨Nat.le_refl _, Nat.le_refl _⟩ rfl rfl (Nat.le_of_ble_eq_true rfl) dX5_partsOfLeastSets_14 ?_
      refine zk_if_eq (tgt := 43) dX5_partsOfLeastSets_17 rfl (fun g17 => ?_) (fun g17 => ?_)
      · replace h := zpos g17 h
        refine zk_iinc dX5_partsOfLeastSets_43 rfl (zinc (m := 1) (by decide)) (by decide) (zk_eq [_, _, _, _] rfl ?_)
        refine zk_goto (tgt := 4) dX5_partsOfLeastSets_46 rfl ?_
        exact hr4 _ _ h
      · replace h := zneg g17 h
        refine zk_aload_n dX5_partsOfLeastSets_20 rfl rfl ?_
        refine zk_iload_n dX5_partsOfLeastSets_21 rfl rfl ?_
        obtain ⟨p22, h22, h⟩ := zbind h
        refine zc_X5_68 [] (As := [.int _]) (ok_X5_isLeastSet hj _ _ h22) rfl ⟨Nat.le_of_ble_eq_true rfl, Nat.le_of_ble_eq_true rfl⟩ ⟨Nat.le_refl _, Nat.le_refl _⟩ rfl rfl (Nat.le_of_ble_eq_true rfl) dX5_partsOfLeastSets_22 ?_
        refine zk_if_eq (tgt := 43) dX5_partsOfLeastSets_25 rfl (fun g25 => ?_) (fun g25 => ?_)
        · replace h := zpos g25 h
          refine zk_iinc dX5_partsOfLeastSets_43 rfl (zinc (m := 1) (by decide)) (by decide) (zk_eq [_, _, _, _] rfl ?_)
          refine zk_goto (tgt := 4) dX5_partsOfLeastSets_46 rfl ?_
          exact hr4 _ _ h
        · replace h := zneg g25 h
          refine zk_iload_n dX5_partsOfLeastSets_28 rfl rfl ?_
          refine zk_sipush (v := 840) dX5_partsOfLeastSets_29 (by decide) ?_
          refine zk_iconst (v := 1) dX5_partsOfLeastSets_32 (by decide) ?_
          refine zk_iload_n dX5_partsOfLeastSets_33 rfl rfl ?_
          obtain ⟨p34, h34, h⟩ := zbind h
          refine zc_X5_74 [.int _, .int _, .int _] (As := [.int _]) (ok_J6_bitCount_0f7a4 hj _ _ h34) rfl ⟨Nat.le_of_ble_eq_true rfl, Nat.le_of_ble_eq_true rfl⟩ ⟨Nat.le_refl _, Nat.le_refl _⟩ rfl rfl (Nat.le_of_ble_eq_true rfl) dX5_partsOfLeastSets_34 ?_
          refine zk_mmax zmw_X5_86 (Nat.le_of_ble_eq_true rfl) (Nat.le_of_ble_eq_true rfl) ⟨Nat.le_refl _, Nat.le_refl _⟩ dX5_partsOfLeastSets_37 ?_
          obtain ⟨g40, h⟩ := zguardn h
          refine zk_idiv dX5_partsOfLeastSets_40 g40 ?_
          refine zk_iadd dX5_partsOfLeastSets_41 ?_
          refine zk_istore_n (i := 2) dX5_partsOfLeastSets_42 rfl (by decide) (zk_eq [_, _, _, _] rfl ?_)
          refine zk_iinc dX5_partsOfLeastSets_43 rfl (zinc (m := 1) (by decide)) (by decide) (zk_eq [_, _, _, _] rfl ?_)
          refine zk_goto (tgt := 4) dX5_partsOfLeastSets_46 rfl ?_
          exact hr4 _ _ h
def D_X5_partsOfLeastSets (s : zS) (a1 : Int32) : Option Int32 :=
  D_X5_partsOfLeastSets_L4 s a1 zFU (0 : Int32) (1 : Int32)
set_option maxRecDepth 100000 in
theorem ok_X5_partsOfLeastSets {l : Launch} {D : va_G} {ad : Nat → Nat} {cA : Nat → ClassId} (hj : zInj ad) (s : zS) (a1 : Int32) {r : Int32} (h : D_X5_partsOfLeastSets s a1 = some r) : zMet l D ad cA jX5_partsOfLeastSets [.ref 38, .int a1] s (some (.int r)) s := by
  refine zMet_of jX5_partsOfLeastSets [some (.ref 38), some (.int a1), none, none] (by decide +kernel) (Nat.le_of_ble_eq_true rfl) rfl hj ?_
  unfold D_X5_partsOfLeastSets at h
  refine zk_iconst (v := 0) dX5_partsOfLeastSets_0 (by decide) ?_
  refine zk_istore_n (i := 2) dX5_partsOfLeastSets_1 rfl (by decide) (zk_eq [_, _, _, _] rfl ?_)
  refine zk_iconst (v := 1) dX5_partsOfLeastSets_2 (by decide) ?_
  refine zk_istore_n (i := 3) dX5_partsOfLeastSets_3 rfl (by decide) (zk_eq [_, _, _, _] rfl ?_)
  exact ok_X5_partsOfLeastSets_L4 hj r _ _ _ _ _ h
def D_X5_isIdle (s : zS) (a1 : Int32) : Option Int32 :=
  (D_X5_partsOfLeastSets s a1).bind fun p2 =>
  if p2 = 0 then (
    some (1 : Int32)
  ) else (
    some (0 : Int32)
  )
set_option maxRecDepth 100000 in
theorem ok_X5_isIdle {l : Launch} {D : va_G} {ad : Nat → Nat} {cA : Nat → ClassId} (hj : zInj ad) (s : zS) (a1 : Int32) {r : Int32} (h : D_X5_isIdle s a1 = some r) : zMet l D ad cA jX5_isIdle [.ref 38, .int a1] s (some (.int r)) s := by
  refine zMet_of jX5_isIdle [some (.ref 38), some (.int a1)] (by decide +kernel) (Nat.le_of_ble_eq_true rfl) rfl hj ?_
  unfold D_X5_isIdle at h
  refine zk_aload_n dX5_isIdle_0 rfl rfl ?_
  refine zk_iload_n dX5_isIdle_1 rfl rfl ?_
  obtain ⟨p2, h2, h⟩ := zbind h
  refine zc_X5_83 [] (As := [.int _]) (ok_X5_partsOfLeastSets hj _ _ h2) rfl ⟨Nat.le_of_ble_eq_true rfl, Nat.le_of_ble_eq_true rfl⟩ ⟨Nat.le_refl _, Nat.le_refl _⟩ rfl rfl (Nat.le_of_ble_eq_true rfl) dX5_isIdle_2 ?_
  refine zk_if_ne (tgt := 12) dX5_isIdle_5 rfl (fun g5 => ?_) (fun g5 => ?_)
  · replace h := zneg g5 h
    refine zk_iconst (v := 0) dX5_isIdle_12 (by decide) ?_
    have e9 := Option.some.inj h
    subst e9
    exact zk_zret rfl (Or.inl rfl) ⟨rfl, rfl⟩ dX5_isIdle_13
  · replace h := zpos g5 h
    refine zk_iconst (v := 1) dX5_isIdle_8 (by decide) ?_
    refine zk_goto (tgt := 13) dX5_isIdle_9 rfl ?_
    have e9 := Option.some.inj h
    subst e9
    exact zk_zret rfl (Or.inr rfl) ⟨rfl, rfl⟩ dX5_isIdle_13
def D_X5_knowsVoter (s : zS) (a1 : Int32) : Option Int32 :=
  (D_X8_within a1 (0 : Int32) ((s.1 38 0) - (1 : Int32))).bind fun p8 =>
  zgd (p8 = 0 ∨ p8 = 1) <|
  some p8
set_option maxRecDepth 100000 in
theorem ok_X5_knowsVoter {l : Launch} {D : va_G} {ad : Nat → Nat} {cA : Nat → ClassId} (hj : zInj ad) (s : zS) (a1 : Int32) {r : Int32} (h : D_X5_knowsVoter s a1 = some r) : zMet l D ad cA jX5_knowsVoter [.ref 38, .int a1] s (some (.int r)) s := by
  refine zMet_of jX5_knowsVoter [some (.ref 38), some (.int a1)] (by decide +kernel) (Nat.le_of_ble_eq_true rfl) rfl hj ?_
  unfold D_X5_knowsVoter at h
  refine zk_iload_n dX5_knowsVoter_0 rfl rfl ?_
  refine zk_iconst (v := 0) dX5_knowsVoter_1 (by decide) ?_
  refine zk_aload_n dX5_knowsVoter_2 rfl rfl ?_
  refine zf_X5_9 rfl dX5_knowsVoter_3 ?_
  refine zk_iconst (v := 1) dX5_knowsVoter_6 (by decide) ?_
  refine zk_isub dX5_knowsVoter_7 ?_
  obtain ⟨p8, h8, h⟩ := zbind h
  refine zc_X5_44 [] (As := [.int _, .int _, .int _]) (ok_X8_within hj _ _ _ _ h8) rfl ⟨Nat.le_of_ble_eq_true rfl, Nat.le_of_ble_eq_true rfl⟩ ⟨Nat.le_refl _, Nat.le_refl _⟩ rfl rfl (Nat.le_of_ble_eq_true rfl) dX5_knowsVoter_8 ?_
  obtain ⟨hx11, h⟩ := zguard h
  have e9 := Option.some.inj h
  subst e9
  exact zk_zret rfl hx11 ⟨rfl, rfl⟩ dX5_knowsVoter_11
def D_X5_leastSetAt_B4 (s : zS) (a1 : Int32) (rec4 : Int32 → Int32 → Option Int32) (a2 : Int32) (a3 : Int32) : Option Int32 :=
    (D_X5_allVoters s).bind fun p6 =>
    if p6 < a3 then (
      some (-1 : Int32)
    ) else (
      (D_X5_isLeastSet s a3).bind fun p14 =>
      if p14 = 0 then (
        rec4 a2 (a3 + 1)
      ) else (
        if a2 = a1 then (
          some a3
        ) else (
          rec4 (a2 + 1) (a3 + 1)
        )
      )
    )
def D_X5_leastSetAt_L4 (s : zS) (a1 : Int32) (n : Nat) (a2 : Int32) (a3 : Int32) : Option Int32 := zfx (fun (rec : Int32 × Int32 → Option Int32) q => D_X5_leastSetAt_B4 s a1 (fun v0 v1 => rec (v0, v1)) q.1 q.2) n (a2, a3)
set_option maxRecDepth 100000 in
theorem D_X5_leastSetAt_L4_s (s : zS) (a1 : Int32) (n : Nat) (a2 : Int32) (a3 : Int32) : D_X5_leastSetAt_L4 s a1 (n + 1) a2 a3 = D_X5_leastSetAt_B4 s a1 (D_X5_leastSetAt_L4 s a1 n) a2 a3 := rfl
set_option maxRecDepth 100000 in
theorem ok_X5_leastSetAt_L4 {l : Launch} {D : va_G} {ad : Nat → Nat} {cA : Nat → ClassId} (hj : zInj ad) (r : Int32) (s : zS) (a1 : Int32) : ∀ (n : Nat) (a2 : Int32) (a3 : Int32), D_X5_leastSetAt_L4 s a1 n a2 a3 = some r → zOk l D ad cA (zJm jX5_leastSetAt) (zEnd D ad cA (some (.int r)) s) 4 [some (.ref 38), some (.int a1), some (.int a2), some (.int a3)] [] s := by
  intro n
  induction n with
  | zero =>
    intro a2 a3 h
    have h0 : (none : Option Int32) = some r := h
    cases h0
  | succ n hr4 =>
    intro a2 a3 h
    have h : D_X5_leastSetAt_B4 s a1 (D_X5_leastSetAt_L4 s a1 n) a2 a3 = some r := h
    unfold D_X5_leastSetAt_B4 at h
    refine zk_iload_n dX5_leastSetAt_4 rfl rfl ?_
    refine zk_aload_n dX5_leastSetAt_5 rfl rfl ?_
    obtain ⟨p6, h6, h⟩ := zbind h
    refine zc_X5_64 [.int _] (As := []) (ok_X5_allVoters hj _ h6) rfl ⟨Nat.le_of_ble_eq_true rfl, Nat.le_of_ble_eq_true rfl⟩ ⟨Nat.le_refl _, Nat.le_refl _⟩ rfl rfl (Nat.le_of_ble_eq_true rfl) dX5_leastSetAt_6 ?_
    refine zk_icmp_gt (tgt := 36) dX5_leastSetAt_9 rfl (fun g9 => ?_) (fun g9 => ?_)
    · replace h := zpos g9 h
      refine zk_iconst (v := -1) dX5_leastSetAt_36 (by decide) ?_
      have e9 := Option.some.inj h
      subst e9
      exact zk_iret rfl ⟨rfl, rfl⟩ dX5_leastSetAt_37
    · replace h := zneg g9 h
      refine zk_aload_n dX5_leastSetAt_12 rfl rfl ?_
      refine zk_iload_n dX5_leastSetAt_13 rfl rfl ?_
      obtain ⟨p14, h14, h⟩ := zbind h
      refine zc_X5_68 [] (As := [.int _]) (ok_X5_isLeastSet hj _ _ h14) rfl ⟨Nat.le_of_ble_eq_true rfl, Nat.le_of_ble_eq_true rfl⟩ ⟨Nat.le_refl _, Nat.le_refl _⟩ rfl rfl (Nat.le_of_ble_eq_true rfl) dX5_leastSetAt_14 ?_
      refine zk_if_eq (tgt := 30) dX5_leastSetAt_17 rfl (fun g17 => ?_) (fun g17 => ?_)
      · replace h := zpos g17 h
        refine zk_iinc dX5_leastSetAt_30 rfl (zinc (m := 1) (by decide)) (by decide) (zk_eq [_, _, _, _] rfl ?_)
        refine zk_goto (tgt := 4) dX5_leastSetAt_33 rfl ?_
        exact hr4 _ _ h
      · replace h := zneg g17 h
        refine zk_iload_n dX5_leastSetAt_20 rfl rfl ?_
        refine zk_iload_n dX5_leastSetAt_21 rfl rfl ?_
        refine zk_icmp_ne (tgt := 27) dX5_leastSetAt_22 rfl (fun g22 => ?_) (fun g22 => ?_)
        · replace h := zneg g22 h
          refine zk_iinc dX5_leastSetAt_27 rfl (zinc (m := 1) (by decide)) (by decide) (zk_eq [_, _, _, _] rfl ?_)
          refine zk_iinc dX5_leastSetAt_30 rfl (zinc (m := 1) (by decide)) (by decide) (zk_eq [_, _, _, _] rfl ?_)
          refine zk_goto (tgt := 4) dX5_leastSetAt_33 rfl ?_
          exact hr4 _ _ h
        · replace h := zpos g22 h
          refine zk_iload_n dX5_leastSetAt_25 rfl rfl ?_
          have e9 := Option.some.inj h
          subst e9
          exact zk_iret rfl ⟨rfl, rfl⟩ dX5_leastSetAt_26
def D_X5_leastSetAt (s : zS) (a1 : Int32) : Option Int32 :=
  D_X5_leastSetAt_L4 s a1 zFU (0 : Int32) (1 : Int32)
set_option maxRecDepth 100000 in
theorem ok_X5_leastSetAt {l : Launch} {D : va_G} {ad : Nat → Nat} {cA : Nat → ClassId} (hj : zInj ad) (s : zS) (a1 : Int32) {r : Int32} (h : D_X5_leastSetAt s a1 = some r) : zMet l D ad cA jX5_leastSetAt [.ref 38, .int a1] s (some (.int r)) s := by
  refine zMet_of jX5_leastSetAt [some (.ref 38), some (.int a1), none, none] (by decide +kernel) (Nat.le_of_ble_eq_true rfl) rfl hj ?_
  unfold D_X5_leastSetAt at h
  refine zk_iconst (v := 0) dX5_leastSetAt_0 (by decide) ?_
  refine zk_istore_n (i := 2) dX5_leastSetAt_1 rfl (by decide) (zk_eq [_, _, _, _] rfl ?_)
  refine zk_iconst (v := 1) dX5_leastSetAt_2 (by decide) ?_
  refine zk_istore_n (i := 3) dX5_leastSetAt_3 rfl (by decide) (zk_eq [_, _, _, _] rfl ?_)
  exact ok_X5_leastSetAt_L4 hj r _ _ _ _ _ h
