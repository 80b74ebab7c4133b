def D_X0_removeColumn_B28 (rec4 : Int32 → zS → Option zS) (a2 : Int32) (rec28 : Int32 → zS → Option zS) (a3 : Int32) (s : zS) : Option zS :=
    if (s.1 8 3) ≤ a3 then (
      rec4 (a2 + 1) s
    ) else (
      zgd (zin a3 20 = true) <|
      zgd (zin a3 20 = true) <|
      zgd (zoL (zT 9 a3) ((2 : Int32) + a2) = true) <|
      zgd (zoL (zT 9 a3) (((2 : Int32) + a2) - (1 : Int32)) = true) <|
      let s57 : zS := zwL s (zT 9 a3) (((2 : Int32) + a2) - (1 : Int32)).toNatClampNeg (s.2 (zT 9 a3) ((2 : Int32) + a2).toNatClampNeg)
      rec28 (a3 + 1) s57
    )
def D_X0_removeColumn_L28 (rec4 : Int32 → zS → Option zS) (a2 : Int32) (n : Nat) (a3 : Int32) (s : zS) : Option zS := zfx (fun (rec : Int32 × zS → Option zS) q => D_X0_removeColumn_B28 rec4 a2 (fun v0 v1 => rec (v0, v1)) q.1 q.2) n (a3, s)
set_option maxRecDepth 100000 in
theorem D_X0_removeColumn_L28_s (rec4 : Int32 → zS → Option zS) (a2 : Int32) (n : Nat) (a3 : Int32) (s : zS) : D_X0_removeColumn_L28 rec4 a2 (n + 1) a3 s = D_X0_removeColumn_B28 rec4 a2 (D_X0_removeColumn_L28 rec4 a2 n) a3 s := rfl
set_option maxRecDepth 100000 in
theorem ok_X0_removeColumn_L28 {l : Launch} {D : va_G} {ad : Nat → Nat} {cA : Nat → ClassId} (hj : zInj ad) (r : zS) (a2 : Int32) (rec4 : Int32 → zS → Option zS) (hr4 : ∀ (b2 : Int32) (s : zS), rec4 b2 s = some r → zOk l D ad cA (zJm jX0_removeColumn) (zEnd D ad cA none r) 4 [some (.ref 8), none, some (.int b2), none] [] s) : ∀ (n : Nat) (a3 : Int32) (s : zS), D_X0_removeColumn_L28 rec4 a2 n a3 s = some r → zOk l D ad cA (zJm jX0_removeColumn) (zEnd D ad cA none r) 28 [some (.ref 8), none, some (.int a2), some (.int a3)] [] s := by
  intro n
  induction n with
  | zero =>
    intro a3 s h
    have h0 : (none : Option zS) = some r := h
    cases h0
  | succ n hr28 =>
    intro a3 s h
    have h : D_X0_removeColumn_B28 rec4 a2 (D_X0_removeColumn_L28 rec4 a2 n) a3 s = some r := h
    unfold D_X0_removeColumn_B28 at h
    refine zk_iload_n dX0_removeColumn_28 rfl rfl ?_
    refine zk_aload_n dX0_removeColumn_29 rfl rfl ?_
    refine zf_X0_23 rfl dX0_removeColumn_30 ?_
    refine zk_icmp_ge (tgt := 64) dX0_removeColumn_33 rfl (fun g33 => ?_) (fun g33 => ?_)
    · replace h := zpos g33 h
      refine zk_iinc dX0_removeColumn_64 rfl (zinc (m := 1) (by decide)) (by decide) (zk_eq [_, _, _, _] rfl ?_)
      refine zk_goto (tgt := 4) dX0_removeColumn_67 rfl ?_
      refine zk_mask [true, false, true, false] ?_
      exact hr4 _ _ h
    · replace h := zneg g33 h
      refine zk_aload_n dX0_removeColumn_36 rfl rfl ?_
      refine zf_X0_13 rfl dX0_removeColumn_37 ?_
      refine zk_iload_n dX0_removeColumn_40 rfl rfl ?_
      obtain ⟨g41, h⟩ := zguard h
      refine zk_aald (zoR_of ⟨rfl, rfl, by decide, by decide⟩ g41) dX0_removeColumn_41 ?_
      refine zk_iconst (v := 2) dX0_removeColumn_42 (by decide) ?_
      refine zk_iload_n dX0_removeColumn_43 rfl rfl ?_
      refine zk_iadd dX0_removeColumn_44 ?_
      refine zk_iconst (v := 1) dX0_removeColumn_45 (by decide) ?_
      refine zk_isub dX0_removeColumn_46 ?_
      refine zk_aload_n dX0_removeColumn_47 rfl rfl ?_
      refine zf_X0_13 rfl dX0_removeColumn_48 ?_
      refine zk_iload_n dX0_removeColumn_51 rfl rfl ?_
      obtain ⟨g52, h⟩ := zguard h
      refine zk_aald (zoR_of ⟨rfl, rfl, by decide, by decide⟩ g52) dX0_removeColumn_52 ?_
      refine zk_iconst (v := 2) dX0_removeColumn_53 (by decide) ?_
      refine zk_iload_n dX0_removeColumn_54 rfl rfl ?_
      refine zk_iadd dX0_removeColumn_55 ?_
      obtain ⟨g56, h⟩ := zguard h
      refine zk_lald g56 dX0_removeColumn_56 ?_
      obtain ⟨g57, h⟩ := zguard h
      refine zk_last g57 dX0_removeColumn_57 ?_
      refine zk_iinc dX0_removeColumn_58 rfl (zinc (m := 1) (by decide)) (by decide) (zk_eq [_, _, _, _] rfl ?_)
      refine zk_goto (tgt := 28) dX0_removeColumn_61 rfl ?_
      exact hr28 _ _ h
def D_X0_removeColumn_B4  (rec4 : Int32 → zS → Option zS) (a2 : Int32) (s : zS) : Option zS :=
    if (s.1 8 4) ≤ a2 then (
      let s77 : zS := zwI s 8 4 ((s.1 8 4) - (1 : Int32))
      some s77
    ) else (
      zgd (zin a2 4 = true) <|
      zgd (zin (a2 - (1 : Int32)) 4 = true) <|
      let s25 : zS := zwI s 31 (a2 - (1 : Int32)).toNatClampNeg (s.1 31 a2.toNatClampNeg)
      D_X0_removeColumn_L28 rec4 a2 zFU (0 : Int32) s25
    )
def D_X0_removeColumn_L4 (n : Nat) (a2 : Int32) (s : zS) : Option zS := zfx (fun (rec : Int32 × zS → Option zS) q => D_X0_removeColumn_B4 (fun v0 v1 => rec (v0, v1)) q.1 q.2) n (a2, s)
set_option maxRecDepth 100000 in
theorem D_X0_removeColumn_L4_s (n : Nat) (a2 : Int32) (s : zS) : D_X0_removeColumn_L4 (n + 1) a2 s = D_X0_removeColumn_B4 (D_X0_removeColumn_L4 n) a2 s := rfl
set_option maxRecDepth 100000 in
theorem ok_X0_removeColumn_L4 {l : Launch} {D : va_G} {ad : Nat → Nat} {cA : Nat → ClassId} (hj : zInj ad) (r : zS)  : ∀ (n : Nat) (a2 : Int32) (s : zS), D_X0_removeColumn_L4 n a2 s = some r → zOk l D ad cA (zJm jX0_removeColumn) (zEnd D ad cA none r) 4 [some (.ref 8), none, some (.int a2), none] [] s := by
  intro n
  induction n with
  | zero =>
    intro a2 s h
    have h0 : (none : Option zS) = some r := h
    cases h0
  | succ n hr4 =>
    intro a2 s h
    have h : D_X0_removeColumn_B4 (D_X0_removeColumn_L4 n) a2 s = some r := h
    unfold D_X0_removeColumn_B4 at h
    refine zk_iload_n dX0_removeColumn_4 rfl rfl ?_
    refine zk_aload_n dX0_removeColumn_5 rfl rfl ?_
    refine zf_X0_27 rfl dX0_removeColumn_6 ?_
    refine zk_icmp_ge (tgt := 70) dX0_removeColumn_9 rfl (fun g9 => ?_) (fun g9 => ?_)
    · replace h := zpos g9 h
      refine zk_aload_n dX0_removeColumn_70 rfl rfl ?_
      refine zk_dup dX0_removeColumn_71 rfl ?_
      refine zf_X0_27 rfl dX0_removeColumn_72 ?_
      refine zk_iconst (v := 1) dX0_removeColumn_75 (by decide) ?_
      refine zk_isub dX0_removeColumn_76 ?_
      refine zp_X0_27 rfl dX0_removeColumn_77 ?_
      have e9 := Option.some.inj h
      subst e9
      exact zk_vret rfl ⟨rfl, rfl⟩ dX0_removeColumn_80
    · replace h := zneg g9 h
      refine zk_aload_n dX0_removeColumn_12 rfl rfl ?_
      refine zf_X0_20 rfl dX0_removeColumn_13 ?_
      refine zk_iload_n dX0_removeColumn_16 rfl rfl ?_
      refine zk_iconst (v := 1) dX0_removeColumn_17 (by decide) ?_
      refine zk_isub dX0_removeColumn_18 ?_
      refine zk_aload_n dX0_removeColumn_19 rfl rfl ?_
      refine zf_X0_20 rfl dX0_removeColumn_20 ?_
      refine zk_iload_n dX0_removeColumn_23 rfl rfl ?_
      obtain ⟨g24, h⟩ := zguard h
      refine zk_iald (zoI_of rfl g24) dX0_removeColumn_24 ?_
      obtain ⟨g25, h⟩ := zguard h
      refine zk_iast (zoI_of rfl g25) dX0_removeColumn_25 ?_
      refine zk_iconst (v := 0) dX0_removeColumn_26 (by decide) ?_
      refine zk_istore_n (i := 3) dX0_removeColumn_27 rfl (by decide) (zk_eq [_, _, _, _] rfl ?_)
      exact ok_X0_removeColumn_L28 hj r _ _ hr4 _ _ _ h
def D_X0_removeColumn (s : zS) (a1 : Int32) : Option zS :=
  D_X0_removeColumn_L4 zFU (a1 + (1 : Int32)) s
set_option maxRecDepth 100000 in
theorem ok_X0_removeColumn {l : Launch} {D : va_G} {ad : Nat → Nat} {cA : Nat → ClassId} (hj : zInj ad) (s : zS) (a1 : Int32) {r : zS} (h : D_X0_removeColumn s a1 = some r) : zMet l D ad cA jX0_removeColumn [.ref 8, .int a1] s none r := by
  refine zMet_of jX0_removeColumn [some (.ref 8), some (.int a1), none, none] (by decide +kernel) (Nat.le_of_ble_eq_true rfl) rfl hj ?_
  unfold D_X0_removeColumn at h
  refine zk_iload_n dX0_removeColumn_0 rfl rfl ?_
  refine zk_iconst (v := 1) dX0_removeColumn_1 (by decide) ?_
  refine zk_iadd dX0_removeColumn_2 ?_
  refine zk_istore_n (i := 2) dX0_removeColumn_3 rfl (by decide) (zk_eq [_, _, _, _] rfl ?_)
  refine zk_mask [true, false, true, false] ?_
  exact ok_X0_removeColumn_L4 hj r  _ _ _ h
def D_X0_freeze_B7 (a1 : Int32) (rec7 : Int32 → zS → Option zS) (a2 : Int32) (s : zS) : Option zS :=
    if a2 < 0 then (
      some s
    ) else (
      (D_X0_factorOf s a1 a2).bind fun p14 =>
      if (lg_cmp p14 (0 : Int64)) = 0 then (
        rec7 (a2 + -1) s
      ) else (
        (D_X0_removeColumn s a2).bind fun p24 =>
        rec7 (a2 + -1) p24
      )
    )
def D_X0_freeze_L7 (a1 : Int32) (n : Nat) (a2 : Int32) (s : zS) : Option zS := zfx (fun (rec : Int32 × zS → Option zS) q => D_X0_freeze_B7 a1 (fun v0 v1 => rec (v0, v1)) q.1 q.2) n (a2, s)
set_option maxRecDepth 100000 in
theorem D_X0_freeze_L7_s (a1 : Int32) (n : Nat) (a2 : Int32) (s : zS) : D_X0_freeze_L7 a1 (n + 1) a2 s = D_X0_freeze_B7 a1 (D_X0_freeze_L7 a1 n) a2 s := rfl
set_option maxRecDepth 100000 in
theorem ok_X0_freeze_L7 {l : Launch} {D : va_G} {ad : Nat → Nat} {cA : Nat → ClassId} (hj : zInj ad) (r : zS) (a1 : Int32) : ∀ (n : Nat) (a2 : Int32) (s : zS), D_X0_freeze_L7 a1 n a2 s = some r → zOk l D ad cA (zJm jX0_freeze) (zEnd D ad cA none r) 7 [some (.ref 8), some (.int a1), some (.int a2)] [] s := by
  intro n
  induction n with
  | zero =>
    intro a2 s h
    have h0 : (none : Option zS) = some r := h
    cases h0
  | succ n hr7 =>
    intro a2 s h
    have h : D_X0_freeze_B7 a1 (D_X0_freeze_L7 a1 n) a2 s = some r := h
    unfold D_X0_freeze_B7 at h
    refine zk_iload_n dX0_freeze_7 rfl rfl ?_
    refine zk_if_lt (tgt := 33) dX0_freeze_8 rfl (fun g8 => ?_) (fun g8 => ?_)
    · replace h := zpos g8 h
      have e9 := Option.some.inj h
      subst e9
      exact zk_vret rfl ⟨rfl, rfl⟩ dX0_freeze_33
    · replace h := zneg g8 h
      refine zk_aload_n dX0_freeze_11 rfl rfl ?_
      refine zk_iload_n dX0_freeze_12 rfl rfl ?_
      refine zk_iload_n dX0_freeze_13 rfl rfl ?_
      obtain ⟨p14, h14, h⟩ := zbind h
      refine zc_X0_51 [] (As := [.int _, .int _]) (ok_X0_factorOf hj _ _ _ h14) rfl ⟨Nat.le_of_ble_eq_true rfl, Nat.le_of_ble_eq_true rfl⟩ ⟨Nat.le_refl _, Nat.le_refl _⟩ rfl rfl (Nat.le_of_ble_eq_true rfl) dX0_freeze_14 ?_
      refine zk_lconst (v := 0) dX0_freeze_17 (by decide) ?_
      refine zk_lcmp dX0_freeze_18 ?_
      refine zk_if_eq (tgt := 27) dX0_freeze_19 rfl (fun g19 => ?_) (fun g19 => ?_)
      · replace h := zpos g19 h
        refine zk_iinc dX0_freeze_27 rfl (zinc (m := -1) (by decide)) (by decide) (zk_eq [_, _, _] rfl ?_)
        refine zk_goto (tgt := 7) dX0_freeze_30 rfl ?_
        exact hr7 _ _ h
      · replace h := zneg g19 h
        refine zk_aload_n dX0_freeze_22 rfl rfl ?_
        refine zk_iload_n dX0_freeze_23 rfl rfl ?_
        obtain ⟨p24, h24, h⟩ := zbind h
        refine zc_X0_79 [] (As := [.int _]) (ok_X0_removeColumn hj _ _ h24) rfl ⟨Nat.le_of_ble_eq_true rfl, Nat.le_of_ble_eq_true rfl⟩ ⟨Nat.le_refl _, Nat.le_refl _⟩ rfl rfl (Nat.le_of_ble_eq_true rfl) dX0_freeze_24 ?_
        refine zk_iinc dX0_freeze_27 rfl (zinc (m := -1) (by decide)) (by decide) (zk_eq [_, _, _] rfl ?_)
        refine zk_goto (tgt := 7) dX0_freeze_30 rfl ?_
        exact hr7 _ _ h
def D_X0_freeze (s : zS) (a1 : Int32) : Option zS :=
  D_X0_freeze_L7 a1 zFU ((s.1 8 4) - (1 : Int32)) s
set_option maxRecDepth 100000 in
theorem ok_X0_freeze {l : Launch} {D : va_G} {ad : Nat → Nat} {cA : Nat → ClassId} (hj : zInj ad) (s : zS) (a1 : Int32) {r : zS} (h : D_X0_freeze s a1 = some r) : zMet l D ad cA jX0_freeze [.ref 8, .int a1] s none r := by
  refine zMet_of jX0_freeze [some (.ref 8), some (.int a1), none] (by decide +kernel) (Nat.le_of_ble_eq_true rfl) rfl hj ?_
  unfold D_X0_freeze at h
  refine zk_aload_n dX0_freeze_0 rfl rfl ?_
  refine zf_X0_27 rfl dX0_freeze_1 ?_
  refine zk_iconst (v := 1) dX0_freeze_4 (by decide) ?_
  refine zk_isub dX0_freeze_5 ?_
  refine zk_istore_n (i := 2) dX0_freeze_6 rfl (by decide) (zk_eq [_, _, _] rfl ?_)
  exact ok_X0_freeze_L7 hj r _ _ _ _ h
def D_X0_putFactor (s : zS) (a1 : Int32) (a2 : Int32) (a3 : Int64) : Option zS :=
  if a1 < 0 then (
    some s
  ) else (
    if (s.1 8 3) ≤ a1 then (
      some s
    ) else (
      if a2 < 0 then (
        some s
      ) else (
        if (s.1 8 4) ≤ a2 then (
          some s
        ) else (
          zgd (zin a1 20 = true) <|
          zgd (zoL (zT 9 a1) ((2 : Int32) + a2) = true) <|
          let s34 : zS := zwL s (zT 9 a1) ((2 : Int32) + a2).toNatClampNeg a3
          some s34
        )
      )
    )
  )
set_option maxRecDepth 100000 in
theorem ok_X0_putFactor {l : Launch} {D : va_G} {ad : Nat → Nat} {cA : Nat → ClassId} (hj : zInj ad) (s : zS) (a1 : Int32) (a2 : Int32) (a3 : Int64) {r : zS} (h : D_X0_putFactor s a1 a2 a3 = some r) : zMet l D ad cA jX0_putFactor [.ref 8, .int a1, .int a2, .long a3] s none r := by
  refine zMet_of jX0_putFactor [some (.ref 8), some (.int a1), some (.int a2), some (.long a3), none] (by decide +kernel) (Nat.le_of_ble_eq_true rfl) rfl hj ?_
  unfold D_X0_putFactor at h
  refine zk_iload_n dX0_putFactor_0 rfl rfl ?_
  refine zk_if_lt (tgt := 35) dX0_putFactor_1 rfl (fun g1 => ?_) (fun g1 => ?_)
  · replace h := zpos g1 h
    have e9 := Option.some.inj h
    subst e9
    exact zk_vret rfl ⟨rfl, rfl⟩ dX0_putFactor_35
  · replace h := zneg g1 h
    refine zk_iload_n dX0_putFactor_4 rfl rfl ?_
    refine zk_aload_n dX0_putFactor_5 rfl rfl ?_
    refine zf_X0_23 rfl dX0_putFactor_6 ?_
    refine zk_icmp_ge (tgt := 35) dX0_putFactor_9 rfl (fun g9 => ?_) (fun g9 => ?_)
    · replace h := zpos g9 h
      have e9 := Option.some.inj h
      subst e9
      exact zk_vret rfl ⟨rfl, rfl⟩ dX0_putFactor_35
    · replace h := zneg g9 h
      refine zk_iload_n dX0_putFactor_12 rfl rfl ?_
      refine zk_if_lt (tgt := 35) dX0_putFactor_13 rfl (fun g13 => ?_) (fun g13 => ?_)
      · replace h := zpos g13 h
        have e9 := Option.some.inj h
        subst e9
        exact zk_vret rfl ⟨rfl, rfl⟩ dX0_putFactor_35
      · replace h := zneg g13 h
        refine zk_iload_n dX0_putFactor_16 rfl rfl ?_
        refine zk_aload_n dX0_putFactor_17 rfl rfl ?_
        refine zf_X0_27 rfl dX0_putFactor_18 ?_
        refine zk_icmp_ge (tgt := 35) dX0_putFactor_21 rfl (fun g21 => ?_) (fun g21 => ?_)
        · replace h := zpos g21 h
          have e9 := Option.some.inj h
          subst e9
          exact zk_vret rfl ⟨rfl, rfl⟩ dX0_putFactor_35
        · replace h := zneg g21 h
          refine zk_aload_n dX0_putFactor_24 rfl rfl ?_
          refine zf_X0_13 rfl dX0_putFactor_25 ?_
          refine zk_iload_n dX0_putFactor_28 rfl rfl ?_
          obtain ⟨g29, h⟩ := zguard h
          refine zk_aald (zoR_of ⟨rfl, rfl, by decide, by decide⟩ g29) dX0_putFactor_29 ?_
          refine zk_iconst (v := 2) dX0_putFactor_30 (by decide) ?_
          refine zk_iload_n dX0_putFactor_31 rfl rfl ?_
          refine zk_iadd dX0_putFactor_32 ?_
          refine zk_lload_n dX0_putFactor_33 rfl rfl ?_
          obtain ⟨g34, h⟩ := zguard h
          refine zk_last g34 dX0_putFactor_34 ?_
          have e9 := Option.some.inj h
          subst e9
          exact zk_vret rfl ⟨rfl, rfl⟩ dX0_putFactor_35
def D_X0_releaseFlatRows_J41 (rec2 : Int32 → zS → Option zS) (rec14 : Int32 → Int32 → Option zS) (s : zS) (a1 : Int32) (a3 : Int32) : Option zS :=
  rec14 (0 : Int32) (a3 + 1)
set_option maxRecDepth 100000 in
theorem ok_X0_releaseFlatRows_J41 {l : Launch} {D : va_G} {ad : Nat → Nat} {cA : Nat → ClassId} (hj : zInj ad) (r : zS) (s : zS) (a1 : Int32) (a3 : Int32) (rec2 : Int32 → zS → Option zS) (hr2 : ∀ (b1 : Int32) (s : zS), rec2 b1 s = some r → zOk l D ad cA (zJm jX0_releaseFlatRows) (zEnd D ad cA none r) 2 [some (.ref 8), some (.int b1), none, none] [] s) (rec14 : Int32 → Int32 → Option zS) (hr14 : ∀ (b2 : Int32) (b3 : Int32), rec14 b2 b3 = some r → zOk l D ad cA (zJm jX0_releaseFlatRows) (zEnd D ad cA none r) 14 [some (.ref 8), some (.int a1), some (.int b2), some (.int b3)] [] s) (h : D_X0_releaseFlatRows_J41 rec2 rec14 s a1 a3 = some r) : zOk l D ad cA (zJm jX0_releaseFlatRows) (zEnd D ad cA none r) 41 [some (.ref 8), some (.int a1), none, some (.int a3)] [] s := by
  unfold D_X0_releaseFlatRows_J41 at h
  refine zk_iconst (v := 0) dX0_releaseFlatRows_41 (by decide) ?_
  refine zk_istore_n (i := 2) dX0_releaseFlatRows_42 rfl (by decide) (zk_eq [_, _, _, _] rfl ?_)
  refine zk_iinc dX0_releaseFlatRows_43 rfl (zinc (m := 1) (by decide)) (by decide) (zk_eq [_, _, _, _] rfl ?_)
  refine zk_goto (tgt := 14) dX0_releaseFlatRows_46 rfl ?_
  exact hr14 _ _ h
def D_X0_releaseFlatRows_B14 (rec2 : Int32 → zS → Option zS) (s : zS) (a1 : Int32) (rec14 : Int32 → Int32 → Option zS) (a2 : Int32) (a3 : Int32) : Option zS :=
    if (s.1 8 4) ≤ a3 then (
      if a2 = 0 then (
        rec2 (a1 + 1) s
      ) else (
        zgd (zin a1 20 = true) <|
        let s59 : zS := zwI s 30 a1.toNatClampNeg (0 : Int32)
        rec2 (a1 + 1) s59
      )
    ) else (
      if a2 = 0 then (
        D_X0_releaseFlatRows_J41 rec2 rec14 s a1 a3
      ) else (
        (D_X0_factorOf s a1 a3).bind fun p29 =>
        if (lg_cmp p29 (0 : Int64)) = 0 then (
          rec14 (1 : Int32) (a3 + 1)
        ) else (
          D_X0_releaseFlatRows_J41 rec2 rec14 s a1 a3
        )
      )
    )
def D_X0_releaseFlatRows_L14 (rec2 : Int32 → zS → Option zS) (s : zS) (a1 : Int32) (n : Nat) (a2 : Int32) (a3 : Int32) : Option zS := zfx (fun (rec : Int32 × Int32 → Option zS) q => D_X0_releaseFlatRows_B14 rec2 s a1 (fun v0 v1 => rec (v0, v1)) q.1 q.2) n (a2, a3)
set_option maxRecDepth 100000 in
theorem D_X0_releaseFlatRows_L14_s (rec2 : Int32 → zS → Option zS) (s : zS) (a1 : Int32) (n : Nat) (a2 : Int32) (a3 : Int32) : D_X0_releaseFlatRows_L14 rec2 s a1 (n + 1) a2 a3 = D_X0_releaseFlatRows_B14 rec2 s a1 (D_X0_releaseFlatRows_L14 rec2 s a1 n) a2 a3 := rfl
set_option maxRecDepth 100000 in
theorem ok_X0_releaseFlatRows_L14 {l : Launch} {D : va_G} {ad : Nat → Nat} {cA : Nat → ClassId} (hj : zInj ad) (r : zS) (s : zS) (a1 : Int32) (rec2 : Int32 → zS → Option zS) (hr2 : ∀ (b1 : Int32) (s : zS), rec2 b1 s = some r → zOk l D ad cA (zJm jX0_releaseFlatRows) (zEnd D ad cA none r) 2 [some (.ref 8), some (.int b1), none, none] [] s) : ∀ (n : Nat) (a2 : Int32) (a3 : Int32), D_X0_releaseFlatRows_L14 rec2 s a1 n a2 a3 = some r → zOk l D ad cA (zJm jX0_releaseFlatRows) (zEnd D ad cA none r) 14 [some (.ref 8), some (.int a1), some (.int a2), some (.int a3)] [] s := by
  intro n
  induction n with
  | zero =>
    intro a2 a3 h
    have h0 : (none : Option zS) = some r := h
    cases h0
  | succ n hr14 =>
    intro a2 a3 h
    have h : D_X0_releaseFlatRows_B14 rec2 s a1 (D_X0_releaseFlatRows_L14 rec2 s a1 n) a2 a3 = some r := h
    unfold D_X0_releaseFlatRows_B14 at h
    refine zk_iload_n dX0_releaseFlatRows_14 rfl rfl ?_
    refine zk_aload_n dX0_releaseFlatRows_15 rfl rfl ?_
    refine zf_X0_27 rfl dX0_releaseFlatRows_16 ?_
    refine zk_icmp_ge (tgt := 49) dX0_releaseFlatRows_19 rfl (fun g19 => ?_) (fun g19 => ?_)
    · replace h := zpos g19 h
      refine zk_iload_n dX0_releaseFlatRows_49 rfl rfl ?_
      refine zk_if_eq (tgt := 60) dX0_releaseFlatRows_50 rfl (fun g50 => ?_) (fun g50 => ?_)
      · replace h := zpos g50 h
        refine zk_iinc dX0_releaseFlatRows_60 rfl (zinc (m := 1) (by decide)) (by decide) (zk_eq [_, _, _, _] rfl ?_)
        refine zk_goto (tgt := 2) dX0_releaseFlatRows_63 rfl ?_
        refine zk_mask [true, true, false, false] ?_
        exact hr2 _ _ h
      · replace h := zneg g50 h
        refine zk_aload_n dX0_releaseFlatRows_53 rfl rfl ?_
        refine zf_X0_16 rfl dX0_releaseFlatRows_54 ?_
        refine zk_iload_n dX0_releaseFlatRows_57 rfl rfl ?_
        refine zk_iconst (v := 0) dX0_releaseFlatRows_58 (by decide) ?_
        obtain ⟨g59, h⟩ := zguard h
        refine zk_iast (zoI_of rfl g59) dX0_releaseFlatRows_59 ?_
        refine zk_iinc dX0_releaseFlatRows_60 rfl (zinc (m := 1) (by decide)) (by decide) (zk_eq [_, _, _, _] rfl ?_)
        refine zk_goto (tgt := 2) dX0_releaseFlatRows_63 rfl ?_
        refine zk_mask [true, true, false, false] ?_
        exact hr2 _ _ h
    · replace h := zneg g19 h
      refine zk_iload_n dX0_releaseFlatRows_22 rfl rfl ?_
      refine zk_if_eq (tgt := 41) dX0_releaseFlatRows_23 rfl (fun g23 => ?_) (fun g23 => ?_)
      · replace h := zpos g23 h
        refine zk_mask [true, true, false, true] ?_
        exact ok_X0_releaseFlatRows_J41 hj r _ _ _ _ hr2 _ hr14 h
      · replace h := zneg g23 h
        refine zk_aload_n dX0_releaseFlatRows_26 rfl rfl ?_
        refine zk_iload_n dX0_releaseFlatRows_27 rfl rfl ?_
        refine zk_iload_n dX0_releaseFlatRows_28 rfl rfl ?_
        obtain ⟨p29, h29, h⟩ := zbind h
        refine zc_X0_51 [] (As := [.int _, .int _]) (ok_X0_factorOf hj _ _ _ h29) rfl ⟨Nat.le_of_ble_eq_true rfl, Nat.le_of_ble_eq_true rfl⟩ ⟨Nat.le_refl _, Nat.le_refl _⟩ rfl rfl (Nat.le_of_ble_eq_true rfl) dX0_releaseFlatRows_29 ?_
        refine zk_lconst (v := 0) dX0_releaseFlatRows_32 (by decide) ?_
        refine zk_lcmp dX0_releaseFlatRows_33 ?_
        refine zk_if_ne (tgt := 41) dX0_releaseFlatRows_34 rfl (fun g34 => ?_) (fun g34 => ?_)
        · replace h := zneg g34 h
          refine zk_mask [true, true, false, true] ?_
          exact ok_X0_releaseFlatRows_J41 hj r _ _ _ _ hr2 _ hr14 h
        · replace h := zpos g34 h
          refine zk_iconst (v := 1) dX0_releaseFlatRows_37 (by decide) ?_
          refine zk_goto (tgt := 42) dX0_releaseFlatRows_38 rfl ?_
          refine zk_istore_n (i := 2) dX0_releaseFlatRows_42 rfl (by decide) (zk_eq [_, _, _, _] rfl ?_)
          refine zk_iinc dX0_releaseFlatRows_43 rfl (zinc (m := 1) (by decide)) (by decide) (zk_eq [_, _, _, _] rfl ?_)
          refine zk_goto (tgt := 14) dX0_releaseFlatRows_46 rfl ?_
          exact hr14 _ _ h
def D_X0_releaseFlatRows_B2  (rec2 : Int32 → zS → Option zS) (a1 : Int32) (s : zS) : Option zS :=
    if (s.1 8 3) ≤ a1 then (
      some s
    ) else (
      D_X0_releaseFlatRows_L14 rec2 s a1 zFU (1 : Int32) (0 : Int32)
    )
def D_X0_releaseFlatRows_L2 (n : Nat) (a1 : Int32) (s : zS) : Option zS := zfx (fun (rec : Int32 × zS → Option zS) q => D_X0_releaseFlatRows_B2 (fun v0 v1 => rec (v0, v1)) q.1 q.2) n (a1, s)
set_option maxRecDepth 100000 in
theorem D_X0_releaseFlatRows_L2_s (n : Nat) (a1 : Int32) (s : zS) : D_X0_releaseFlatRows_L2 (n + 1) a1 s = D_X0_releaseFlatRows_B2 (D_X0_releaseFlatRows_L2 n) a1 s := rfl
set_option maxRecDepth 100000 in
theorem ok_X0_releaseFlatRows_L2 {l : Launch} {D : va_G} {ad : Nat → Nat} {cA : Nat → ClassId} (hj : zInj ad) (r : zS)  : ∀ (n : Nat) (a1 : Int32) (s : zS), D_X0_releaseFlatRows_L2 n a1 s = some r → zOk l D ad cA (zJm jX0_releaseFlatRows) (zEnd D ad cA none r) 2 [some (.ref 8), some (.int a1), none, none] [] s := by
  intro n
  induction n with
  | zero =>
    intro a1 s h
    have h0 : (none : Option zS) = some r := h
    cases h0
  | succ n hr2 =>
    intro a1 s h
    have h : D_X0_releaseFlatRows_B2 (D_X0_releaseFlatRows_L2 n) a1 s = some r := h
    unfold D_X0_releaseFlatRows_B2 at h
    refine zk_iload_n dX0_releaseFlatRows_2 rfl rfl ?_
    refine zk_aload_n dX0_releaseFlatRows_3 rfl rfl ?_
    refine zf_X0_23 rfl dX0_releaseFlatRows_4 ?_
    refine zk_icmp_ge (tgt := 66) dX0_releaseFlatRows_7 rfl (fun g7 => ?_) (fun g7 => ?_)
    · replace h := zpos g7 h
      have e9 := Option.some.inj h
      subst e9
      exact zk_vret rfl ⟨rfl, rfl⟩ dX0_releaseFlatRows_66
    · replace h := zneg g7 h
      refine zk_iconst (v := 1) dX0_releaseFlatRows_10 (by decide) ?_
      refine zk_istore_n (i := 2) dX0_releaseFlatRows_11 rfl (by decide) (zk_eq [_, _, _, _] rfl ?_)
      refine zk_iconst (v := 0) dX0_releaseFlatRows_12 (by decide) ?_
      refine zk_istore_n (i := 3) dX0_releaseFlatRows_13 rfl (by decide) (zk_eq [_, _, _, _] rfl ?_)
      exact ok_X0_releaseFlatRows_L14 hj r _ _ _ hr2 _ _ _ h
def D_X0_releaseFlatRows (s : zS) : Option zS :=
  D_X0_releaseFlatRows_L2 zFU (0 : Int32) s
set_option maxRecDepth 100000 in
theorem ok_X0_releaseFlatRows {l : Launch} {D : va_G} {ad : Nat → Nat} {cA : Nat → ClassId} (hj : zInj ad) (s : zS)  {r : zS} (h : D_X0_releaseFlatRows s = some r) : zMet l D ad cA jX0_releaseFlatRows [.ref 8] s none r := by
  refine zMet_of jX0_releaseFlatRows [some (.ref 8), none, none, none] (by decide +kernel) (Nat.le_of_ble_eq_true rfl) rfl hj ?_
  unfold D_X0_releaseFlatRows at h
  refine zk_iconst (v := 0) dX0_releaseFlatRows_0 (by decide) ?_
  refine zk_istore_n (i := 1) dX0_releaseFlatRows_1 rfl (by decide) (zk_eq [_, _, _, _] rfl ?_)
  exact ok_X0_releaseFlatRows_L2 hj r  _ _ _ h
def D_X0_restart_B16  (rec16 : Int32 → zS → Option zS) (a2 : Int32) (s : zS) : Option zS :=
    if (4 : Int32) ≤ a2 then (
      some s
    ) else (
      zgd (zin a2 4 = true) <|
      let s27 : zS := zwI s 31 a2.toNatClampNeg (0 : Int32)
      rec16 (a2 + 1) s27
    )
def D_X0_restart_L16 (n : Nat) (a2 : Int32) (s : zS) : Option zS := zfx (fun (rec : Int32 × zS → Option zS) q => D_X0_restart_B16 (fun v0 v1 => rec (v0, v1)) q.1 q.2) n (a2, s)
set_option maxRecDepth 100000 in
theorem D_X0_restart_L16_s (n : Nat) (a2 : Int32) (s : zS) : D_X0_restart_L16 (n + 1) a2 s = D_X0_restart_B16 (D_X0_restart_L16 n) a2 s := rfl
set_option maxRecDepth 100000 in
theorem ok_X0_restart_L16 {l : Launch} {D : va_G} {ad : Nat → Nat} {cA : Nat → ClassId} (hj : zInj ad) (r : zS)  : ∀ (n : Nat) (a2 : Int32) (s : zS), D_X0_restart_L16 n a2 s = some r → zOk l D ad cA (zJm jX0_restart) (zEnd D ad cA none r) 16 [some (.ref 8), none, some (.int a2)] [] s := by
  intro n
  induction n with
  | zero =>
    intro a2 s h
    have h0 : (none : Option zS) = some r := h
    cases h0
  | succ n hr16 =>
    intro a2 s h
    have h : D_X0_restart_B16 (D_X0_restart_L16 n) a2 s = some r := h
    unfold D_X0_restart_B16 at h
    refine zk_iload_n dX0_restart_16 rfl rfl ?_
    refine zk_iconst (v := 4) dX0_restart_17 (by decide) ?_
    refine zk_icmp_ge (tgt := 34) dX0_restart_18 rfl (fun g18 => ?_) (fun g18 => ?_)
    · replace h := zpos g18 h
      have e9 := Option.some.inj h
      subst e9
      exact zk_vret rfl ⟨rfl, rfl⟩ dX0_restart_34
    · replace h := zneg g18 h
      refine zk_aload_n dX0_restart_21 rfl rfl ?_
      refine zf_X0_20 rfl dX0_restart_22 ?_
      refine zk_iload_n dX0_restart_25 rfl rfl ?_
      refine zk_iconst (v := 0) dX0_restart_26 (by decide) ?_
      obtain ⟨g27, h⟩ := zguard h
      refine zk_iast (zoI_of rfl g27) dX0_restart_27 ?_
      refine zk_iinc dX0_restart_28 rfl (zinc (m := 1) (by decide)) (by decide) (zk_eq [_, _, _] rfl ?_)
      refine zk_goto (tgt := 16) dX0_restart_31 rfl ?_
      exact hr16 _ _ h
def D_X0_restart (s : zS) (a1 : Int32) : Option zS :=
  let s2 : zS := zwI s 8 3 (0 : Int32)
  let s11 : zS := zwI s2 8 4 (zmin a1 (4 : Int32))
  D_X0_restart_L16 zFU (0 : Int32) s11
set_option maxRecDepth 100000 in
theorem ok_X0_restart {l : Launch} {D : va_G} {ad : Nat → Nat} {cA : Nat → ClassId} (hj : zInj ad) (s : zS) (a1 : Int32) {r : zS} (h : D_X0_restart s a1 = some r) : zMet l D ad cA jX0_restart [.ref 8, .int a1] s none r := by
  refine zMet_of jX0_restart [some (.ref 8), some (.int a1), none] (by decide +kernel) (Nat.le_of_ble_eq_true rfl) rfl hj ?_
  unfold D_X0_restart at h
  refine zk_aload_n dX0_restart_0 rfl rfl ?_
  refine zk_iconst (v := 0) dX0_restart_1 (by decide) ?_
  refine zp_X0_23 rfl dX0_restart_2 ?_
  refine zk_aload_n dX0_restart_5 rfl rfl ?_
  refine zk_iload_n dX0_restart_6 rfl rfl ?_
  refine zk_iconst (v := 4) dX0_restart_7 (by decide) ?_
  refine zk_mmin zmw_X0_30 (Nat.le_of_ble_eq_true rfl) (Nat.le_of_ble_eq_true rfl) ⟨Nat.le_refl _, Nat.le_refl _⟩ dX0_restart_8 ?_
  refine zp_X0_27 rfl dX0_restart_11 ?_
  refine zk_iconst (v := 0) dX0_restart_14 (by decide) ?_
  refine zk_istore_n (i := 2) dX0_restart_15 rfl (by decide) (zk_eq [_, _, _] rfl ?_)
  refine zk_mask [true, false, true] ?_
  exact ok_X0_restart_L16 hj r  _ _ _ h
def D_X1_addClaim (s : zS) (a1 : Int32) : Option (Int32 × zS) :=
  zgd (zin (s.1 45 0) 6 = true) <|
  let s9 : zS := zwI s 46 (s.1 45 0).toNatClampNeg a1
  let s17 : zS := zwI s9 45 0 ((s9.1 45 0) + (1 : Int32))
  some (((s17.1 45 0) - (1 : Int32)), s17)
set_option maxRecDepth 100000 in
theorem ok_X1_addClaim {l : Launch} {D : va_G} {ad : Nat → Nat} {cA : Nat → ClassId} (hj : zInj ad) (s : zS) (a1 : Int32) {r : (Int32 × zS)} (h : D_X1_addClaim s a1 = some r) : zMet l D ad cA jX1_addClaim [.ref 45, .int a1] s (some (.int r.1)) r.2 := by
  refine zMet_of jX1_addClaim [some (.ref 45), some (.int a1)] (by decide +kernel) (Nat.le_of_ble_eq_true rfl) rfl hj ?_
  unfold D_X1_addClaim at h
  refine zk_aload_n dX1_addClaim_0 rfl rfl ?_
  refine zf_X1_18 rfl dX1_addClaim_1 ?_
  refine zk_aload_n dX1_addClaim_4 rfl rfl ?_
  refine zf_X1_9 rfl dX1_addClaim_5 ?_
  refine zk_iload_n dX1_addClaim_8 rfl rfl ?_
  obtain ⟨g9, h⟩ := zguard h
  refine zk_iast (zoI_of rfl g9) dX1_addClaim_9 ?_
  refine zk_aload_n dX1_addClaim_10 rfl rfl ?_
  refine zk_dup dX1_addClaim_11 rfl ?_
  refine zf_X1_9 rfl dX1_addClaim_12 ?_
  refine zk_iconst (v := 1) dX1_addClaim_15 (by decide) ?_
  refine zk_iadd dX1_addClaim_16 ?_
  refine zp_X1_9 rfl dX1_addClaim_17 ?_
  refine zk_aload_n dX1_addClaim_20 rfl rfl ?_
  refine zf_X1_9 rfl dX1_addClaim_21 ?_
  refine zk_iconst (v := 1) dX1_addClaim_24 (by decide) ?_
  refine zk_isub dX1_addClaim_25 ?_
  have e9 := Option.some.inj h
  subst e9
  exact zk_iret rfl ⟨rfl, rfl⟩ dX1_addClaim_26
def D_X8_has (a0 : Int32) (a1 : Int32) : Option Int32 :=
  if ((a0 >>> (a1 &&& 31)) &&& (1 : Int32)) = (1 : Int32) then (
    some (1 : Int32)
  ) else (
    some (0 : Int32)
  )
set_option maxRecDepth 100000 in
theorem ok_X8_has {l : Launch} {D : va_G} {ad : Nat → Nat} {cA : Nat → ClassId} (hj : zInj ad) (s : zS) (a0 : Int32) (a1 : Int32) {r : Int32} (h : D_X8_has a0 a1 = some r) : zMet l D ad cA jX8_has [.int a0, .int a1] s (some (.int r)) s := by
  refine zMet_of jX8_has [some (.int a0), some (.int a1)] (by decide +kernel) (Nat.le_of_ble_eq_true rfl) rfl hj ?_
  unfold D_X8_has at h
  refine zk_iload_n dX8_has_0 rfl rfl ?_
  refine zk_iload_n dX8_has_1 rfl rfl ?_
  refine zk_ishr dX8_has_2 ?_
  refine zk_iconst (v := 1) dX8_has_3 (by decide) ?_
  refine zk_iand dX8_has_4 ?_
  refine zk_iconst (v := 1) dX8_has_5 (by decide) ?_
  refine zk_icmp_ne (tgt := 13) dX8_has_6 rfl (fun g6 => ?_) (fun g6 => ?_)
  · replace h := zneg g6 h
    refine zk_iconst (v := 0) dX8_has_13 (by decide) ?_
    have e9 := Option.some.inj h
    subst e9
    exact zk_zret rfl (Or.inl rfl) ⟨rfl, rfl⟩ dX8_has_14
  · replace h := zpos g6 h
    refine zk_iconst (v := 1) dX8_has_9 (by decide) ?_
    refine zk_goto (tgt := 14) dX8_has_10 rfl ?_
    have e9 := Option.some.inj h
    subst e9
    exact zk_zret rfl (Or.inr rfl) ⟨rfl, rfl⟩ dX8_has_14
def D_X1_claimedBy_B4 (s : zS) (a1 : Int32) (rec4 : Int32 → Int32 → Option Int32) (a2 : Int32) (a3 : Int32) : Option Int32 :=
    if (s.1 45 0) ≤ a3 then (
      some a2
    ) else (
      (D_X8_has a1 a3).bind fun p14 =>
      if p14 = 0 then (
        rec4 a2 (a3 + 1)
      ) else (
        zgd (zin a3 6 = true) <|
        rec4 (a2 + (s.1 46 a3.toNatClampNeg)) (a3 + 1)
      )
    )
def D_X1_claimedBy_L4 (s : zS) (a1 : Int32) (n : Nat) (a2 : Int32) (a3 : Int32) : Option Int32 := zfx (fun (rec : Int32 × Int32 → Option Int32) q => D_X1_claimedBy_B4 s a1 (fun v0 v1 => rec (v0, v1)) q.1 q.2) n (a2, a3)
set_option maxRecDepth 100000 in
theorem D_X1_claimedBy_L4_s (s : zS) (a1 : Int32) (n : Nat) (a2 : Int32) (a3 : Int32) : D_X1_claimedBy_L4 s a1 (n + 1) a2 a3 = D_X1_claimedBy_B4 s a1 (D_X1_claimedBy_L4 s a1 n) a2 a3 := rfl
set_option maxRecDepth 100000 in
theorem ok_X1_claimedBy_L4 {l : Launch} {D : va_G} {ad : Nat → Nat} {cA : Nat → ClassId} (hj : zInj ad) (r : Int32) (s : zS) (a1 : Int32) : ∀ (n : Nat) (a2 : Int32) (a3 : Int32), D_X1_claimedBy_L4 s a1 n a2 a3 = some r → zOk l D ad cA (zJm jX1_claimedBy) (zEnd D ad cA (some (.int r)) s) 4 [some (.ref 45), some (.int a1), some (.int a2), some (.int a3)] [] s := by
  intro n
  induction n with
  | zero =>
    intro a2 a3 h
    have h0 : (none : Option Int32) = some r := h
    cases h0
  | succ n hr4 =>
    intro a2 a3 h
    have h : D_X1_claimedBy_B4 s a1 (D_X1_claimedBy_L4 s a1 n) a2 a3 = some r := h
    unfold D_X1_claimedBy_B4 at h
    refine zk_iload_n dX1_claimedBy_4 rfl rfl ?_
    refine zk_aload_n dX1_claimedBy_5 rfl rfl ?_
    refine zf_X1_9 rfl dX1_claimedBy_6 ?_
    refine zk_icmp_ge (tgt := 35) dX1_claimedBy_9 rfl (fun g9 => ?_) (fun g9 => ?_)
    · replace h := zpos g9 h
      refine zk_iload_n dX1_claimedBy_35 rfl rfl ?_
      have e9 := Option.some.inj h
      subst e9
      exact zk_iret rfl ⟨rfl, rfl⟩ dX1_claimedBy_36
    · replace h := zneg g9 h
      refine zk_iload_n dX1_claimedBy_12 rfl rfl ?_
      refine zk_iload_n dX1_claimedBy_13 rfl rfl ?_
      obtain ⟨p14, h14, h⟩ := zbind h
      refine zc_X1_73 [] (As := [.int _, .int _]) (ok_X8_has hj _ _ _ h14) rfl ⟨Nat.le_of_ble_eq_true rfl, Nat.le_of_ble_eq_true rfl⟩ ⟨Nat.le_refl _, Nat.le_refl _⟩ rfl rfl (Nat.le_of_ble_eq_true rfl) dX1_claimedBy_14 ?_
      refine zk_if_eq (tgt := 29) dX1_claimedBy_17 rfl (fun g17 => ?_) (fun g17 => ?_)
      · replace h := zpos g17 h
        refine zk_iinc dX1_claimedBy_29 rfl (zinc (m := 1) (by decide)) (by decide) (zk_eq [_, _, _, _] rfl ?_)
        refine zk_goto (tgt := 4) dX1_claimedBy_32 rfl ?_
        exact hr4 _ _ h
      · replace h := zneg g17 h
        refine zk_iload_n dX1_claimedBy_20 rfl rfl ?_
        refine zk_aload_n dX1_claimedBy_21 rfl rfl ?_
        refine zf_X1_18 rfl dX1_claimedBy_22 ?_
        refine zk_iload_n dX1_claimedBy_25 rfl rfl ?_
        obtain ⟨g26, h⟩ := zguard h
        refine zk_iald (zoI_of rfl g26) dX1_claimedBy_26 ?_
        refine zk_iadd dX1_claimedBy_27 ?_
        refine zk_istore_n (i := 2) dX1_claimedBy_28 rfl (by decide) (zk_eq [_, _, _, _] rfl ?_)
        refine zk_iinc dX1_claimedBy_29 rfl (zinc (m := 1) (by decide)) (by decide) (zk_eq [_, _, _, _] rfl ?_)
        refine zk_goto (tgt := 4) dX1_claimedBy_32 rfl ?_
        exact hr4 _ _ h
def D_X1_claimedBy (s : zS) (a1 : Int32) : Option Int32 :=
  D_X1_claimedBy_L4 s a1 zFU (0 : Int32) (0 : Int32)
set_option maxRecDepth 100000 in
theorem ok_X1_claimedBy {l : Launch} {D : va_G} {ad : Nat → Nat} {cA : Nat → ClassId} (hj : zInj ad) (s : zS) (a1 : Int32) {r : Int32} (h : D_X1_claimedBy s a1 = some r) : zMet l D ad cA jX1_claimedBy [.ref 45, .int a1] s (some (.int r)) s := by
  refine zMet_of jX1_claimedBy [some (.ref 45), some (.int a1), none, none] (by decide +kernel) (Nat.le_of_ble_eq_true rfl) rfl hj ?_
  unfold D_X1_claimedBy at h
  refine zk_iconst (v := 0) dX1_claimedBy_0 (by decide) ?_
  refine zk_istore_n (i := 2) dX1_claimedBy_1 rfl (by decide) (zk_eq [_, _, _, _] rfl ?_)
  refine zk_iconst (v := 0) dX1_claimedBy_2 (by decide) ?_
  refine zk_istore_n (i := 3) dX1_claimedBy_3 rfl (by decide) (zk_eq [_, _, _, _] rfl ?_)
  exact ok_X1_claimedBy_L4 hj r _ _ _ _ _ h
def D_X1_isMet_B5 (s : zS) (a1 : Int32) (a2 : Int32) (rec5 : Int32 → Int32 → Option Int32) (a3 : Int32) (a4 : Int32) : Option Int32 :=
    if (s.1 45 0) ≤ a4 then (
      if a2 < a3 then (
        some (0 : Int32)
      ) else (
        some (1 : Int32)
      )
    ) else (
      zgd (zin a4 6 = true) <|
      zgd (zin a1 6 = true) <|
      rec5 (a3 + (zmin (s.1 46 a4.toNatClampNeg) (s.1 46 a1.toNatClampNeg))) (a4 + 1)
    )
def D_X1_isMet_L5 (s : zS) (a1 : Int32) (a2 : Int32) (n : Nat) (a3 : Int32) (a4 : Int32) : Option Int32 := zfx (fun (rec : Int32 × Int32 → Option Int32) q => D_X1_isMet_B5 s a1 a2 (fun v0 v1 => rec (v0, v1)) q.1 q.2) n (a3, a4)
set_option maxRecDepth 100000 in
theorem D_X1_isMet_L5_s (s : zS) (a1 : Int32) (a2 : Int32) (n : Nat) (a3 : Int32) (a4 : Int32) : D_X1_isMet_L5 s a1 a2 (n + 1) a3 a4 = D_X1_isMet_B5 s a1 a2 (D_X1_isMet_L5 s a1 a2 n) a3 a4 := rfl
set_option maxRecDepth 100000 in
theorem ok_X1_isMet_L5 {l : Launch} {D : va_G} {ad : Nat → Nat} {cA : Nat → ClassId} (hj : zInj ad) (r : Int32) (s : zS) (a1 : Int32) (a2 : Int32) : ∀ (n : Nat) (a3 : Int32) (a4 : Int32), D_X1_isMet_L5 s a1 a2 n a3 a4 = some r → zOk l D ad cA (zJm jX1_isMet) (zEnd D ad cA (some (.int r)) s) 5 [some (.ref 45), some (.int a1), some (.int a2), some (.int a3), some (.int a4)] [] s := by
  intro n
  induction n with
  | zero =>
    intro a3 a4 h
    have h0 : (none : Option Int32) = some r := h
    cases h0
  | succ n hr5 =>
    intro a3 a4 h
    have h : D_X1_isMet_B5 s a1 a2 (D_X1_isMet_L5 s a1 a2 n) a3 a4 = some r := h
    unfold D_X1_isMet_B5 at h
    refine zk_iload dX1_isMet_5 rfl ?_
    refine zk_aload_n dX1_isMet_7 rfl rfl ?_
    refine zf_X1_9 rfl dX1_isMet_8 ?_
    refine zk_icmp_ge (tgt := 39) dX1_isMet_11 rfl (fun g11 => ?_) (fun g11 => ?_)
    · replace h := zpos g11 h
      refine zk_iload_n dX1_isMet_39 rfl rfl ?_
      refine zk_iload_n dX1_isMet_40 rfl rfl ?_
      refine zk_icmp_gt (tgt := 48) dX1_isMet_41 rfl (fun g41 => ?_) (fun g41 => ?_)
      · replace h := zpos g41 h
        refine zk_iconst (v := 0) dX1_isMet_48 (by decide) ?_
        have e9 := Option.some.inj h
        subst e9
        exact zk_zret rfl (Or.inl rfl) ⟨rfl, rfl⟩ dX1_isMet_49
      · replace h := zneg g41 h
        refine zk_iconst (v := 1) dX1_isMet_44 (by decide) ?_
        refine zk_goto (tgt := 49) dX1_isMet_45 rfl ?_
        have e9 := Option.some.inj h
        subst e9
        exact zk_zret rfl (Or.inr rfl) ⟨rfl, rfl⟩ dX1_isMet_49
    · replace h := zneg g11 h
      refine zk_iload_n dX1_isMet_14 rfl rfl ?_
      refine zk_aload_n dX1_isMet_15 rfl rfl ?_
      refine zf_X1_18 rfl dX1_isMet_16 ?_
      refine zk_iload dX1_isMet_19 rfl ?_
      obtain ⟨g21, h⟩ := zguard h
      refine zk_iald (zoI_of rfl g21) dX1_isMet_21 ?_
      refine zk_aload_n dX1_isMet_22 rfl rfl ?_
      refine zf_X1_18 rfl dX1_isMet_23 ?_
      refine zk_iload_n dX1_isMet_26 rfl rfl ?_
      obtain ⟨g27, h⟩ := zguard h
      refine zk_iald (zoI_of rfl g27) dX1_isMet_27 ?_
      refine zk_mmin zmw_X1_66 (Nat.le_of_ble_eq_true rfl) (Nat.le_of_ble_eq_true rfl) ⟨Nat.le_refl _, Nat.le_refl _⟩ dX1_isMet_28 ?_
      refine zk_iadd dX1_isMet_31 ?_
      refine zk_istore_n (i := 3) dX1_isMet_32 rfl (by decide) (zk_eq [_, _, _, _, _] rfl ?_)
      refine zk_iinc dX1_isMet_33 rfl (zinc (m := 1) (by decide)) (by decide) (zk_eq [_, _, _, _, _] rfl ?_)
      refine zk_goto (tgt := 5) dX1_isMet_36 rfl ?_
      exact hr5 _ _ h
def D_X1_isMet (s : zS) (a1 : Int32) (a2 : Int32) : Option Int32 :=
  D_X1_isMet_L5 s a1 a2 zFU (0 : Int32) (0 : Int32)
set_option maxRecDepth 100000 in
theorem ok_X1_isMet {l : Launch} {D : va_G} {ad : Nat → Nat} {cA : Nat → ClassId} (hj : zInj ad) (s : zS) (a1 : Int32) (a2 : Int32) {r : Int32} (h : D_X1_isMet s a1 a2 = some r) : zMet l D ad cA jX1_isMet [.ref 45, .int a1, .int a2] s (some (.int r)) s := by
  refine zMet_of jX1_isMet [some (.ref 45), some (.int a1), some (.int a2), none, none] (by decide +kernel) (Nat.le_of_ble_eq_true rfl) rfl hj ?_
  unfold D_X1_isMet at h
  refine zk_iconst (v := 0) dX1_isMet_0 (by decide) ?_
  refine zk_istore_n (i := 3) dX1_isMet_1 rfl (by decide) (zk_eq [_, _, _, _, _] rfl ?_)
  refine zk_iconst (v := 0) dX1_isMet_2 (by decide) ?_
  refine zk_istore (i := 4) dX1_isMet_3 (by decide) (zk_eq [_, _, _, _, _] rfl ?_)
  exact ok_X1_isMet_L5 hj r _ _ _ _ _ _ h
def D_X1_evenTimesOpen_B24 (s : zS) (a2 : Int32) (rec24 : Int32 → Int32 → Option Int32) (a4 : Int32) (a5 : Int32) : Option Int32 :=
    if (s.1 45 0) ≤ a5 then (
      some a4
    ) else (
      (D_X1_isMet s a5 a2).bind fun p37 =>
      if p37 = 0 then (
        rec24 a4 (a5 + 1)
      ) else (
        zgd (zin a5 6 = true) <|
        rec24 (a4 - (s.1 46 a5.toNatClampNeg)) (a5 + 1)
      )
    )
def D_X1_evenTimesOpen_L24 (s : zS) (a2 : Int32) (n : Nat) (a4 : Int32) (a5 : Int32) : Option Int32 := zfx (fun (rec : Int32 × Int32 → Option Int32) q => D_X1_evenTimesOpen_B24 s a2 (fun v0 v1 => rec (v0, v1)) q.1 q.2) n (a4, a5)
set_option maxRecDepth 100000 in
theorem D_X1_evenTimesOpen_L24_s (s : zS) (a2 : Int32) (n : Nat) (a4 : Int32) (a5 : Int32) : D_X1_evenTimesOpen_L24 s a2 (n + 1) a4 a5 = D_X1_evenTimesOpen_B24 s a2 (D_X1_evenTimesOpen_L24 s a2 n) a4 a5 := rfl
set_option maxRecDepth 100000 in
theorem ok_X1_evenTimesOpen_L24 {l : Launch} {D : va_G} {ad : Nat → Nat} {cA : Nat → ClassId} (hj : zInj ad) (r : Int32) (s : zS) (a2 : Int32) : ∀ (n : Nat) (a4 : Int32) (a5 : Int32), D_X1_evenTimesOpen_L24 s a2 n a4 a5 = some r → zOk l D ad cA (zJm jX1_evenTimesOpen) (zEnd D ad cA (some (.int r)) s) 24 [some (.ref 45), none, some (.int a2), none, some (.int a4), some (.int a5)] [] s := by
  intro n
  induction n with
  | zero =>
    intro a4 a5 h
    have h0 : (none : Option Int32) = some r := h
    cases h0
  | succ n hr24 =>
    intro a4 a5 h
    have h : D_X1_evenTimesOpen_B24 s a2 (D_X1_evenTimesOpen_L24 s a2 n) a4 a5 = some r := h
    unfold D_X1_evenTimesOpen_B24 at h
    refine zk_iload dX1_evenTimesOpen_24 rfl ?_
    refine zk_aload_n dX1_evenTimesOpen_26 rfl rfl ?_
    refine zf_X1_9 rfl dX1_evenTimesOpen_27 ?_
    refine zk_icmp_ge (tgt := 61) dX1_evenTimesOpen_30 rfl (fun g30 => ?_) (fun g30 => ?_)
    · replace h := zpos g30 h
      refine zk_iload dX1_evenTimesOpen_61 rfl ?_
      have e9 := Option.some.inj h
      subst e9
      exact zk_iret rfl ⟨rfl, rfl⟩ dX1_evenTimesOpen_63
    · replace h := zneg g30 h
      refine zk_aload_n dX1_evenTimesOpen_33 rfl rfl ?_
      refine zk_iload dX1_evenTimesOpen_34 rfl ?_
      refine zk_iload_n dX1_evenTimesOpen_36 rfl rfl ?_
      obtain ⟨p37, h37, h⟩ := zbind h
      refine zc_X1_69 [] (As := [.int _, .int _]) (ok_X1_isMet hj _ _ _ h37) rfl ⟨Nat.le_of_ble_eq_true rfl, Nat.le_of_ble_eq_true rfl⟩ ⟨Nat.le_refl _, Nat.le_refl _⟩ rfl rfl (Nat.le_of_ble_eq_true rfl) dX1_evenTimesOpen_37 ?_
      refine zk_if_eq (tgt := 55) dX1_evenTimesOpen_40 rfl (fun g40 => ?_) (fun g40 => ?_)
      · replace h := zpos g40 h
        refine zk_iinc dX1_evenTimesOpen_55 rfl (zinc (m := 1) (by decide)) (by decide) (zk_eq [_, _, _, _, _, _] rfl ?_)
        refine zk_goto (tgt := 24) dX1_evenTimesOpen_58 rfl ?_
        exact hr24 _ _ h
      · replace h := zneg g40 h
        refine zk_iload dX1_evenTimesOpen_43 rfl ?_
        refine zk_aload_n dX1_evenTimesOpen_45 rfl rfl ?_
        refine zf_X1_18 rfl dX1_evenTimesOpen_46 ?_
        refine zk_iload dX1_evenTimesOpen_49 rfl ?_
        obtain ⟨g51, h⟩ := zguard h
        refine zk_iald (zoI_of rfl g51) dX1_evenTimesOpen_51 ?_
        refine zk_isub dX1_evenTimesOpen_52 ?_
        refine zk_istore (i := 4) dX1_evenTimesOpen_53 (by decide) (zk_eq [_, _, _, _, _, _] rfl ?_)
        refine zk_iinc dX1_evenTimesOpen_55 rfl (zinc (m := 1) (by decide)) (by decide) (zk_eq [_, _, _, _, _, _] rfl ?_)
        refine zk_goto (tgt := 24) dX1_evenTimesOpen_58 rfl ?_
        exact hr24 _ _ h
def D_X1_evenTimesOpen (s : zS) (a1 : Int32) (a2 : Int32) (a3 : Int32) : Option Int32 :=
  (D_X1_isMet s a1 a2).bind fun p3 =>
  if p3 = 0 then (
    D_X1_evenTimesOpen_L24 s a2 zFU a2 (0 : Int32)
  ) else (
    zgd (zin a1 6 = true) <|
    some ((s.1 46 a1.toNatClampNeg) * a3)
  )
set_option maxRecDepth 100000 in
theorem ok_X1_evenTimesOpen {l : Launch} {D : va_G} {ad : Nat → Nat} {cA : Nat → ClassId} (hj : zInj ad) (s : zS) (a1 : Int32) (a2 : Int32) (a3 : Int32) {r : Int32} (h : D_X1_evenTimesOpen s a1 a2 a3 = some r) : zMet l D ad cA jX1_evenTimesOpen [.ref 45, .int a1, .int a2, .int a3] s (some (.int r)) s := by
  refine zMet_of jX1_evenTimesOpen [some (.ref 45), some (.int a1), some (.int a2), some (.int a3), none, none] (by decide +kernel) (Nat.le_of_ble_eq_true rfl) rfl hj ?_
  unfold D_X1_evenTimesOpen at h
  refine zk_aload_n dX1_evenTimesOpen_0 rfl rfl ?_
  refine zk_iload_n dX1_evenTimesOpen_1 rfl rfl ?_
  refine zk_iload_n dX1_evenTimesOpen_2 rfl rfl ?_
  obtain ⟨p3, h3, h⟩ := zbind h
  refine zc_X1_69 [] (As := [.int _, .int _]) (ok_X1_isMet hj _ _ _ h3) rfl ⟨Nat.le_of_ble_eq_true rfl, Nat.le_of_ble_eq_true rfl⟩ ⟨Nat.le_refl _, Nat.le_refl _⟩ rfl rfl (Nat.le_of_ble_eq_true rfl) dX1_evenTimesOpen_3 ?_
  refine zk_if_eq (tgt := 18) dX1_evenTimesOpen_6 rfl (fun g6 => ?_) (fun g6 => ?_)
  · replace h := zpos g6 h
    refine zk_iload_n dX1_evenTimesOpen_18 rfl rfl ?_
    refine zk_istore (i := 4) dX1_evenTimesOpen_19 (by decide) (zk_eq [_, _, _, _, _, _] rfl ?_)
    refine zk_iconst (v := 0) dX1_evenTimesOpen_21 (by decide) ?_
    refine zk_istore (i := 5) dX1_evenTimesOpen_22 (by decide) (zk_eq [_, _, _, _, _, _] rfl ?_)
    refine zk_mask [true, false, true, false, true, true] ?_
    exact ok_X1_evenTimesOpen_L24 hj r _ _ _ _ _ h
  · replace h := zneg g6 h
    refine zk_aload_n dX1_evenTimesOpen_9 rfl rfl ?_
    refine zf_X1_18 rfl dX1_evenTimesOpen_10 ?_
    refine zk_iload_n dX1_evenTimesOpen_13 rfl rfl ?_
    obtain ⟨g14, h⟩ := zguard h
    refine zk_iald (zoI_of rfl g14) dX1_evenTimesOpen_14 ?_
    refine zk_iload_n dX1_evenTimesOpen_15 rfl rfl ?_
    refine zk_imul dX1_evenTimesOpen_16 ?_
    have e9 := Option.some.inj h
    subst e9
    exact zk_iret rfl ⟨rfl, rfl⟩ dX1_evenTimesOpen_17
def D_X8_mix (a0 : Int64) (a2 : Int64) : Option Int64 :=
  some (((31 : Int64) * a0) + a2)
set_option maxRecDepth 100000 in
theorem ok_X8_mix {l : Launch} {D : va_G} {ad : Nat → Nat} {cA : Nat → ClassId} (hj : zInj ad) (s : zS) (a0 : Int64) (a2 : Int64) {r : Int64} (h : D_X8_mix a0 a2 = some r) : zMet l D ad cA jX8_mix [.long a0, .long a2] s (some (.long r)) s := by
  refine zMet_of jX8_mix [some (.long a0), none, some (.long a2), none] (by decide +kernel) (Nat.le_of_ble_eq_true rfl) rfl hj ?_
  unfold D_X8_mix at h
  refine zk_ldc2 dX8_mix_0 zw_X8_334 ?_
  refine zk_lload_n dX8_mix_3 rfl rfl ?_
  refine zk_lmul dX8_mix_4 ?_
  refine zk_lload_n dX8_mix_5 rfl rfl ?_
  refine zk_ladd dX8_mix_6 ?_
  have e9 := Option.some.inj h
  subst e9
  exact zk_lret rfl ⟨rfl, rfl⟩ dX8_mix_7
def D_X1_mixInto_B5 (s : zS) (rec5 : Int64 → Int32 → Option Int64) (a3 : Int64) (a5 : Int32) : Option Int64 :=
    if (s.1 45 0) ≤ a5 then (
      (D_X8_mix a3 ((s.1 45 1).toInt64)).bind fun p39 =>
      some p39
    ) else (
      zgd (zin a5 6 = true) <|
      (D_X8_mix a3 ((s.1 46 a5.toNatClampNeg).toInt64)).bind fun p23 =>
      rec5 p23 (a5 + 1)
    )
def D_X1_mixInto_L5 (s : zS) (n : Nat) (a3 : Int64) (a5 : Int32) : Option Int64 := zfx (fun (rec : Int64 × Int32 → Option Int64) q => D_X1_mixInto_B5 s (fun v0 v1 => rec (v0, v1)) q.1 q.2) n (a3, a5)
set_option maxRecDepth 100000 in
theorem D_X1_mixInto_L5_s (s : zS) (n : Nat) (a3 : Int64) (a5 : Int32) : D_X1_mixInto_L5 s (n + 1) a3 a5 = D_X1_mixInto_B5 s (D_X1_mixInto_L5 s n) a3 a5 := rfl
set_option maxRecDepth 100000 in
theorem ok_X1_mixInto_L5 {l : Launch} {D : va_G} {ad : Nat → Nat} {cA : Nat → ClassId} (hj : zInj ad) (r : Int64) (s : zS) : ∀ (n : Nat) (a3 : Int64) (a5 : Int32), D_X1_mixInto_L5 s n a3 a5 = some r → zOk l D ad cA (zJm jX1_mixInto) (zEnd D ad cA (some (.long r)) s) 5 [some (.ref 45), none, none, some (.long a3), none, some (.int a5)] [] s := by
  intro n
  induction n with
  | zero =>
    intro a3 a5 h
    have h0 : (none : Option Int64) = some r := h
    cases h0
  | succ n hr5 =>
    intro a3 a5 h
    have h : D_X1_mixInto_B5 s (D_X1_mixInto_L5 s n) a3 a5 = some r := h
    unfold D_X1_mixInto_B5 at h
    refine zk_iload dX1_mixInto_5 rfl ?_
    refine zk_aload_n dX1_mixInto_7 rfl rfl ?_
    refine zf_X1_9 rfl dX1_mixInto_8 ?_
    refine zk_icmp_ge (tgt := 33) dX1_mixInto_11 rfl (fun g11 => ?_) (fun g11 => ?_)
    · replace h := zpos g11 h
      refine zk_lload_n dX1_mixInto_33 rfl rfl ?_
      refine zk_aload_n dX1_mixInto_34 rfl rfl ?_
      refine zf_X1_15 rfl dX1_mixInto_35 ?_
      refine zk_i2l dX1_mixInto_38 ?_
      obtain ⟨p39, h39, h⟩ := zbind h
      refine zc_X1_87 [] (As := [.long _, .long _]) (ok_X8_mix hj _ _ _ h39) rfl ⟨Nat.le_of_ble_eq_true rfl, Nat.le_of_ble_eq_true rfl⟩ ⟨Nat.le_refl _, Nat.le_refl _⟩ rfl rfl (Nat.le_of_ble_eq_true rfl) dX1_mixInto_39 ?_
      have e9 := Option.some.inj h
      subst e9
      exact zk_lret rfl ⟨rfl, rfl⟩ dX1_mixInto_42
    · replace h := zneg g11 h
      refine zk_lload_n dX1_mixInto_14 rfl rfl ?_
      refine zk_aload_n dX1_mixInto_15 rfl rfl ?_
      refine zf_X1_18 rfl dX1_mixInto_16 ?_
      refine zk_iload dX1_mixInto_19 rfl ?_
      obtain ⟨g21, h⟩ := zguard h
      refine zk_iald (zoI_of rfl g21) dX1_mixInto_21 ?_
      refine zk_i2l dX1_mixInto_22 ?_
      obtain ⟨p23, h23, h⟩ := zbind h
      refine zc_X1_87 [] (As := [.long _, .long _]) (ok_X8_mix hj _ _ _ h23) rfl ⟨Nat.le_of_ble_eq_true rfl, Nat.le_of_ble_eq_true rfl⟩ ⟨Nat.le_refl _, Nat.le_refl _⟩ rfl rfl (Nat.le_of_ble_eq_true rfl) dX1_mixInto_23 ?_
      refine zk_lstore_n (i := 3) dX1_mixInto_26 rfl (by decide) (zk_eq [_, _, _, _, _, _] rfl ?_)
      refine zk_iinc dX1_mixInto_27 rfl (zinc (m := 1) (by decide)) (by decide) (zk_eq [_, _, _, _, _, _] rfl ?_)
      refine zk_goto (tgt := 5) dX1_mixInto_30 rfl ?_
      exact hr5 _ _ h
def D_X1_mixInto (s : zS) (a1 : Int64) : Option Int64 :=
  D_X1_mixInto_L5 s zFU a1 (0 : Int32)
set_option maxRecDepth 100000 in
theorem ok_X1_mixInto {l : Launch} {D : va_G} {ad : Nat → Nat} {cA : Nat → ClassId} (hj : zInj ad) (s : zS) (a1 : Int64) {r : Int64} (h : D_X1_mixInto s a1 = some r) : zMet l D ad cA jX1_mixInto [.ref 45, .long a1] s (some (.long r)) s := by
  refine zMet_of jX1_mixInto [some (.ref 45), some (.long a1), none, none, none, none] (by decide +kernel) (Nat.le_of_ble_eq_true rfl) rfl hj ?_
  unfold D_X1_mixInto at h
  refine zk_lload_n dX1_mixInto_0 rfl rfl ?_
  refine zk_lstore_n (i := 3) dX1_mixInto_1 rfl (by decide) (zk_eq [_, _, _, _, _, _] rfl ?_)
  refine zk_iconst (v := 0) dX1_mixInto_2 (by decide) ?_
  refine zk_istore (i := 5) dX1_mixInto_3 (by decide) (zk_eq [_, _, _, _, _, _] rfl ?_)
  refine zk_mask [true, false, false, true, false, true] ?_
  exact ok_X1_mixInto_L5 hj r _ _ _ _ h
def D_X1_openBy_B4 (s : zS) (a1 : Int32) (rec4 : Int32 → Int32 → Option Int32) (a2 : Int32) (a3 : Int32) : Option Int32 :=
    if (s.1 45 0) ≤ a3 then (
      some (zmax (1 : Int32) a2)
    ) else (
      (D_X1_isMet s a3 a1).bind fun p15 =>
      if p15 = 0 then (
        rec4 (a2 + 1) (a3 + 1)
      ) else (
        rec4 a2 (a3 + 1)
      )
    )
def D_X1_openBy_L4 (s : zS) (a1 : Int32) (n : Nat) (a2 : Int32) (a3 : Int32) : Option Int32 := zfx (fun (rec : Int32 × Int32 → Option Int32) q => D_X1_openBy_B4 s a1 (fun v0 v1 => rec (v0, v1)) q.1 q.2) n (a2, a3)
set_option maxRecDepth 100000 in
theorem D_X1_openBy_L4_s (s : zS) (a1 : Int32) (n : Nat) (a2 : Int32) (a3 : Int32) : D_X1_openBy_L4 s a1 (n + 1) a2 a3 = D_X1_openBy_B4 s a1 (D_X1_openBy_L4 s a1 n) a2 a3 := rfl
set_option maxRecDepth 100000 in
theorem ok_X1_openBy_L4 {l : Launch} {D : va_G} {ad : Nat → Nat} {cA : Nat → ClassId} (hj : zInj ad) (r : Int32) (s : zS) (a1 : Int32) : ∀ (n : Nat) (a2 : Int32) (a3 : Int32), D_X1_openBy_L4 s a1 n a2 a3 = some r → zOk l D ad cA (zJm jX1_openBy) (zEnd D ad cA (some (.int r)) s) 4 [some (.ref 45), some (.int a1), some (.int a2), some (.int a3)] [] s := by
  intro n
  induction n with
  | zero =>
    intro a2 a3 h
    have h0 : (none : Option Int32) = some r := h
    cases h0
  | succ n hr4 =>
    intro a2 a3 h
    have h : D_X1_openBy_B4 s a1 (D_X1_openBy_L4 s a1 n) a2 a3 = some r := h
    unfold D_X1_openBy_B4 at h
    refine zk_iload_n dX1_openBy_4 rfl rfl ?_
    refine zk_aload_n dX1_openBy_5 rfl rfl ?_
    refine zf_X1_9 rfl dX1_openBy_6 ?_
    refine zk_icmp_ge (tgt := 30) dX1_openBy_9 rfl (fun g9 => ?_) (fun g9 => ?_)
    · replace h := zpos g9 h
      refine zk_iconst (v := 1) dX1_openBy_30 (by decide) ?_
      refine zk_iload_n dX1_openBy_31 rfl rfl ?_
      refine zk_mmax zmw_X1_26 (Nat.le_of_ble_eq_true rfl) (Nat.le_of_ble_eq_true rfl) ⟨Nat.le_refl _, Nat.le_refl _⟩ dX1_openBy_32 ?_
      have e9 := Option.some.inj h
      subst e9
      exact zk_iret rfl ⟨rfl, rfl⟩ dX1_openBy_35
    · replace h := zneg g9 h
      refine zk_aload_n dX1_openBy_12 rfl rfl ?_
      refine zk_iload_n dX1_openBy_13 rfl rfl ?_
      refine zk_iload_n dX1_openBy_14 rfl rfl ?_
      obtain ⟨p15, h15, h⟩ := zbind h
      refine zc_X1_69 [] (As := [.int _, .int _]) (ok_X1_isMet hj _ _ _ h15) rfl ⟨Nat.le_of_ble_eq_true rfl, Nat.le_of_ble_eq_true rfl⟩ ⟨Nat.le_refl _, Nat.le_refl _⟩ rfl rfl (Nat.le_of_ble_eq_true rfl) dX1_openBy_15 ?_
      refine zk_if_ne (tgt := 24) dX1_openBy_18 rfl (fun g18 => ?_) (fun g18 => ?_)
      · replace h := zneg g18 h
        refine zk_iinc dX1_openBy_24 rfl (zinc (m := 1) (by decide)) (by decide) (zk_eq [_, _, _, _] rfl ?_)
        refine zk_goto (tgt := 4) dX1_openBy_27 rfl ?_
        exact hr4 _ _ h
      · replace h := zpos g18 h
        refine zk_iinc dX1_openBy_21 rfl (zinc (m := 1) (by decide)) (by decide) (zk_eq [_, _, _, _] rfl ?_)
        refine zk_iinc dX1_openBy_24 rfl (zinc (m := 1) (by decide)) (by decide) (zk_eq [_, _, _, _] rfl ?_)
        refine zk_goto (tgt := 4) dX1_openBy_27 rfl ?_
        exact hr4 _ _ h
def D_X1_openBy (s : zS) (a1 : Int32) : Option Int32 :=
  D_X1_openBy_L4 s a1 zFU (0 : Int32) (0 : Int32)
set_option maxRecDepth 100000 in
theorem ok_X1_openBy {l : Launch} {D : va_G} {ad : Nat → Nat} {cA : Nat → ClassId} (hj : zInj ad) (s : zS) (a1 : Int32) {r : Int32} (h : D_X1_openBy s a1 = some r) : zMet l D ad cA jX1_openBy [.ref 45, .int a1] s (some (.int r)) s := by
  refine zMet_of jX1_openBy [some (.ref 45), some (.int a1), none, none] (by decide +kernel) (Nat.le_of_ble_eq_true rfl) rfl hj ?_
  unfold D_X1_openBy at h
  refine zk_iconst (v := 0) dX1_openBy_0 (by decide) ?_
  refine zk_istore_n (i := 2) dX1_openBy_1 rfl (by decide) (zk_eq [_, _, _, _] rfl ?_)
  refine zk_iconst (v := 0) dX1_openBy_2 (by decide) ?_
  refine zk_istore_n (i := 3) dX1_openBy_3 rfl (by decide) (zk_eq [_, _, _, _] rfl ?_)
  exact ok_X1_openBy_L4 hj r _ _ _ _ _ h
def D_X1_replaceEstate (s : zS) (a1 : Int32) : Option (Int32 × zS) :=
  let s7 : zS := zwI s 45 1 a1
  some ((s.1 45 1), s7)
set_option maxRecDepth 100000 in
theorem ok_X1_replaceEstate {l : Launch} {D : va_G} {ad : Nat → Nat} {cA : Nat → ClassId} (hj : zInj ad) (s : zS) (a1 : Int32) {r : (Int32 × zS)} (h : D_X1_replaceEstate s a1 = some r) : zMet l D ad cA jX1_replaceEstate [.ref 45, .int a1] s (some (.int r.1)) r.2 := by
  refine zMet_of jX1_replaceEstate [some (.ref 45), some (.int a1), none] (by decide +kernel) (Nat.le_of_ble_eq_true rfl) rfl hj ?_
  unfold D_X1_replaceEstate at h
  refine zk_aload_n dX1_replaceEstate_0 rfl rfl ?_
  refine zf_X1_15 rfl dX1_replaceEstate_1 ?_
  refine zk_istore_n (i := 2) dX1_replaceEstate_4 rfl (by decide) (zk_eq [_, _, _] rfl ?_)
  refine zk_aload_n dX1_replaceEstate_5 rfl rfl ?_
  refine zk_iload_n dX1_replaceEstate_6 rfl rfl ?_
  refine zp_X1_15 rfl dX1_replaceEstate_7 ?_
  refine zk_iload_n dX1_replaceEstate_10 rfl rfl ?_
  have e9 := Option.some.inj h
  subst e9
  exact zk_iret rfl ⟨rfl, rfl⟩ dX1_replaceEstate_11
def D_X8_within_J14  : Option Int32 :=
  some (0 : Int32)
set_option maxRecDepth 100000 in
theorem ok_X8_within_J14 {l : Launch} {D : va_G} {ad : Nat → Nat} {cA : Nat → ClassId} (hj : zInj ad) (r : Int32) (s : zS) (h : D_X8_within_J14  = some r) : zOk l D ad cA (zJm jX8_within) (zEnd D ad cA (some (.int r)) s) 14 [none, none, none] [] s := by
  unfold D_X8_within_J14 at h
  refine zk_iconst (v := 0) dX8_within_14 (by decide) ?_
  have e9 := Option.some.inj h
  subst e9
  exact zk_zret rfl (Or.inl rfl) ⟨rfl, rfl⟩ dX8_within_15
def D_X8_within (a0 : Int32) (a1 : Int32) (a2 : Int32) : Option Int32 :=
  if a0 < a1 then (
    D_X8_within_J14
  ) else (
    if a2 < a0 then (
      D_X8_within_J14
    ) else (
      some (1 : Int32)
    )
  )
set_option maxRecDepth 100000 in
theorem ok_X8_within {l : Launch} {D : va_G} {ad : Nat → Nat} {cA : Nat → ClassId} (hj : zInj ad) (s : zS) (a0 : Int32) (a1 : Int32) (a2 : Int32) {r : Int32} (h : D_X8_within a0 a1 a2 = some r) : zMet l D ad cA jX8_within [.int a0, .int a1, .int a2] s (some (.int r)) s := by
  refine zMet_of jX8_within [some (.int a0), some (.int a1), some (.int a2)] (by decide +kernel) (Nat.le_of_ble_eq_true rfl) rfl hj ?_
  unfold D_X8_within at h
  refine zk_iload_n dX8_within_0 rfl rfl ?_
  refine zk_iload_n dX8_within_1 rfl rfl ?_
  refine zk_icmp_lt (tgt := 14) dX8_within_2 rfl (fun g2 => ?_) (fun g2 => ?_)
  · replace h := zpos g2 h
    refine zk_mask [false, false, false] ?_
    exact ok_X8_within_J14 hj r _ h
  · replace h := zneg g2 h
    refine zk_iload_n dX8_within_5 rfl rfl ?_
    refine zk_iload_n dX8_within_6 rfl rfl ?_
    refine zk_icmp_gt (tgt := 14) dX8_within_7 rfl (fun g7 => ?_) (fun g7 => ?_)
    · replace h := zpos g7 h
      refine zk_mask [false, false, false] ?_
      exact ok_X8_within_J14 hj r _ h
    · replace h := zneg g7 h
      refine zk_iconst (v := 1) dX8_within_10 (by decide) ?_
      refine zk_goto (tgt := 15) dX8_within_11 rfl ?_
      have e9 := Option.some.inj h
      subst e9
      exact zk_zret rfl (Or.inr rfl) ⟨rfl, rfl⟩ dX8_within_15
def D_X8_ordersOf (a0 : Int32) : Option Int32 :=
  (D_X8_within a0 (0 : Int32) ((8 : Int32) - (1 : Int32))).bind fun p8 =>
  if p8 = 0 then (
    some (0 : Int32)
  ) else (
    zgd (zin a0 8 = true) <|
    some (zFactI a0.toNatClampNeg)
  )
set_option maxRecDepth 100000 in
theorem ok_X8_ordersOf {l : Launch} {D : va_G} {ad : Nat → Nat} {cA : Nat → ClassId} (hj : zInj ad) (s : zS) (a0 : Int32) {r : Int32} (h : D_X8_ordersOf a0 = some r) : zMet l D ad cA jX8_ordersOf [.int a0] s (some (.int r)) s := by
  refine zMet_of jX8_ordersOf [some (.int a0)] (by decide +kernel) (Nat.le_of_ble_eq_true rfl) rfl hj ?_
  unfold D_X8_ordersOf at h
  refine zk_iload_n dX8_ordersOf_0 rfl rfl ?_
  refine zk_iconst (v := 0) dX8_ordersOf_1 (by decide) ?_
  refine zk_gets zw_X8_337 dX8_ordersOf_2 ?_
  refine zk_alenF dX8_ordersOf_5 ?_
  refine zk_iconst (v := 1) dX8_ordersOf_6 (by decide) ?_
  refine zk_isub dX8_ordersOf_7 ?_
  obtain ⟨p8, h8, h⟩ := zbind h
  refine zc_X8_58 [] (As := [.int _, .int _, .int _]) (ok_X8_within hj _ _ _ _ h8) rfl ⟨Nat.le_of_ble_eq_true rfl, Nat.le_of_ble_eq_true rfl⟩ ⟨Nat.le_refl _, Nat.le_refl _⟩ rfl rfl (Nat.le_of_ble_eq_true rfl) dX8_ordersOf_8 ?_
  refine zk_if_eq (tgt := 22) dX8_ordersOf_11 rfl (fun g11 => ?_) (fun g11 => ?_)
  · replace h := zpos g11 h
    refine zk_iconst (v := 0) dX8_ordersOf_22 (by decide) ?_
    have e9 := Option.some.inj h
    subst e9
    exact zk_iret rfl ⟨rfl, rfl⟩ dX8_ordersOf_23
  · replace h := zneg g11 h
    refine zk_gets zw_X8_337 dX8_ordersOf_14 ?_
    refine zk_iload_n dX8_ordersOf_17 rfl rfl ?_
    obtain ⟨g18, h⟩ := zguard h
    refine zk_ialdF g18 dX8_ordersOf_18 ?_
    refine zk_goto (tgt := 23) dX8_ordersOf_19 rfl ?_
    have e9 := Option.some.inj h
    subst e9
    exact zk_iret rfl ⟨rfl, rfl⟩ dX8_ordersOf_23
def D_X8_ordersBehind (a0 : Int32) (a1 : Int32) : Option Int32 :=
  (D_X8_ordersOf a0).bind fun p1 =>
  (D_X8_ordersOf ((a1 - (1 : Int32)) - a0)).bind fun p9 =>
  some (p1 * p9)
set_option maxRecDepth 100000 in
theorem ok_X8_ordersBehind {l : Launch} {D : va_G} {ad : Nat → Nat} {cA : Nat → ClassId} (hj : zInj ad) (s : zS) (a0 : Int32) (a1 : Int32) {r : Int32} (h : D_X8_ordersBehind a0 a1 = some r) : zMet l D ad cA jX8_ordersBehind [.int a0, .int a1] s (some (.int r)) s := by
  refine zMet_of jX8_ordersBehind [some (.int a0), some (.int a1)] (by decide +kernel) (Nat.le_of_ble_eq_true rfl) rfl hj ?_
  unfold D_X8_ordersBehind at h
  refine zk_iload_n dX8_ordersBehind_0 rfl rfl ?_
  obtain ⟨p1, h1, h⟩ := zbind h
  refine zc_X8_100 [] (As := [.int _]) (ok_X8_ordersOf hj _ _ h1) rfl ⟨Nat.le_of_ble_eq_true rfl, Nat.le_of_ble_eq_true rfl⟩ ⟨Nat.le_refl _, Nat.le_refl _⟩ rfl rfl (Nat.le_of_ble_eq_true rfl) dX8_ordersBehind_1 ?_
  refine zk_iload_n dX8_ordersBehind_4 rfl rfl ?_
  refine zk_iconst (v := 1) dX8_ordersBehind_5 (by decide) ?_
  refine zk_isub dX8_ordersBehind_6 ?_
  refine zk_iload_n dX8_ordersBehind_7 rfl rfl ?_
  refine zk_isub dX8_ordersBehind_8 ?_
  obtain ⟨p9, h9, h⟩ := zbind h
  refine zc_X8_100 [.int _] (As := [.int _]) (ok_X8_ordersOf hj _ _ h9) rfl ⟨Nat.le_of_ble_eq_true rfl, Nat.le_of_ble_eq_true rfl⟩ ⟨Nat.le_refl _, Nat.le_refl _⟩ rfl rfl (Nat.le_of_ble_eq_true rfl) dX8_ordersBehind_9 ?_
  refine zk_imul dX8_ordersBehind_12 ?_
  have e9 := Option.some.inj h
  subst e9
  exact zk_iret rfl ⟨rfl, rfl⟩ dX8_ordersBehind_13
def D_X1_takenInOrders_B4 (s : zS) (a1 : Int32) (rec4 : Int32 → Int32 → Option Int32) (a2 : Int32) (a3 : Int32) : Option Int32 :=
    if ((1 : Int32) <<< ((s.1 45 0) &&& 31)) ≤ a3 then (
      some a2
    ) else (
      (D_X8_has a3 a1).bind fun p16 =>
      if p16 = 0 then (
        (D_X1_claimedBy s a3).bind fun p29 =>
        (D_J6_bitCount_0f7a4 a3).bind fun p40 =>
        (D_X8_ordersBehind p40 (s.1 45 0)).bind fun p47 =>
        zgd (zin a1 6 = true) <|
        rec4 (a2 + (p47 * (zmin (s.1 46 a1.toNatClampNeg) (zmax (0 : Int32) ((s.1 45 1) - p29))))) (a3 + 1)
      ) else (
        rec4 a2 (a3 + 1)
      )
    )
def D_X1_takenInOrders_L4 (s : zS) (a1 : Int32) (n : Nat) (a2 : Int32) (a3 : Int32) : Option Int32 := zfx (fun (rec : Int32 × Int32 → Option Int32) q => D_X1_takenInOrders_B4 s a1 (fun v0 v1 => rec (v0, v1)) q.1 q.2) n (a2, a3)
set_option maxRecDepth 100000 in
theorem D_X1_takenInOrders_L4_s (s : zS) (a1 : Int32) (n : Nat) (a2 : Int32) (a3 : Int32) : D_X1_takenInOrders_L4 s a1 (n + 1) a2 a3 = D_X1_takenInOrders_B4 s a1 (D_X1_takenInOrders_L4 s a1 n) a2 a3 := rfl
set_option maxRecDepth 100000 in
theorem ok_X1_takenInOrders_L4 {l : Launch} {D : va_G} {ad : Nat → Nat} {cA : Nat → ClassId} (hj : zInj ad) (r : Int32) (s : zS) (a1 : Int32) : ∀ (n : Nat) (a2 : Int32) (a3 : Int32), D_X1_takenInOrders_L4 s a1 n a2 a3 = some r → zOk l D ad cA (zJm jX1_takenInOrders) (zEnd D ad cA (some (.int r)) s) 4 [some (.ref 45), some (.int a1), some (.int a2), some (.int a3), none] [] s := by
  intro n
  induction n with
  | zero =>
    intro a2 a3 h
    have h0 : (none : Option Int32) = some r := h
    cases h0
  | succ n hr4 =>
    intro a2 a3 h
    have h : D_X1_takenInOrders_B4 s a1 (D_X1_takenInOrders_L4 s a1 n) a2 a3 = some r := h
    unfold D_X1_takenInOrders_B4 at h
    refine zk_iload_n dX1_takenInOrders_4 rfl rfl ?_
    refine zk_iconst (v := 1) dX1_takenInOrders_5 (by decide) ?_
    refine zk_aload_n dX1_takenInOrders_6 rfl rfl ?_
    refine zf_X1_9 rfl dX1_takenInOrders_7 ?_
    refine zk_ishl dX1_takenInOrders_10 ?_
    refine zk_icmp_ge (tgt := 70) dX1_takenInOrders_11 rfl (fun g11 => ?_) (fun g11 => ?_)
    · replace h := zpos g11 h
      refine zk_iload_n dX1_takenInOrders_70 rfl rfl ?_
      have e9 := Option.some.inj h
      subst e9
      exact zk_iret rfl ⟨rfl, rfl⟩ dX1_takenInOrders_71
    · replace h := zneg g11 h
      refine zk_iload_n dX1_takenInOrders_14 rfl rfl ?_
      refine zk_iload_n dX1_takenInOrders_15 rfl rfl ?_
      obtain ⟨p16, h16, h⟩ := zbind h
      refine zc_X1_73 [] (As := [.int _, .int _]) (ok_X8_has hj _ _ _ h16) rfl ⟨Nat.le_of_ble_eq_true rfl, Nat.le_of_ble_eq_true rfl⟩ ⟨Nat.le_refl _, Nat.le_refl _⟩ rfl rfl (Nat.le_of_ble_eq_true rfl) dX1_takenInOrders_16 ?_
      refine zk_if_ne (tgt := 64) dX1_takenInOrders_19 rfl (fun g19 => ?_) (fun g19 => ?_)
      · replace h := zneg g19 h
        refine zk_iinc dX1_takenInOrders_64 rfl (zinc (m := 1) (by decide)) (by decide) (zk_eq [_, _, _, _, _] rfl ?_)
        refine zk_goto (tgt := 4) dX1_takenInOrders_67 rfl ?_
        exact hr4 _ _ h
      · replace h := zpos g19 h
        refine zk_iconst (v := 0) dX1_takenInOrders_22 (by decide) ?_
        refine zk_aload_n dX1_takenInOrders_23 rfl rfl ?_
        refine zf_X1_15 rfl dX1_takenInOrders_24 ?_
        refine zk_aload_n dX1_takenInOrders_27 rfl rfl ?_
        refine zk_iload_n dX1_takenInOrders_28 rfl rfl ?_
        obtain ⟨p29, h29, h⟩ := zbind h
        refine zc_X1_76 [.int _, .int _] (As := [.int _]) (ok_X1_claimedBy hj _ _ h29) rfl ⟨Nat.le_of_ble_eq_true rfl, Nat.le_of_ble_eq_true rfl⟩ ⟨Nat.le_refl _, Nat.le_refl _⟩ rfl rfl (Nat.le_of_ble_eq_true rfl) dX1_takenInOrders_29 ?_
        refine zk_isub dX1_takenInOrders_32 ?_
        refine zk_mmax zmw_X1_26 (Nat.le_of_ble_eq_true rfl) (Nat.le_of_ble_eq_true rfl) ⟨Nat.le_refl _, Nat.le_refl _⟩ dX1_takenInOrders_33 ?_
        refine zk_istore (i := 4) dX1_takenInOrders_36 (by decide) (zk_eq [_, _, _, _, _] rfl ?_)
        refine zk_iload_n dX1_takenInOrders_38 rfl rfl ?_
        refine zk_iload_n dX1_takenInOrders_39 rfl rfl ?_
        obtain ⟨p40, h40, h⟩ := zbind h
        refine zc_X1_79 [.int _] (As := [.int _]) (ok_J6_bitCount_0f7a4 hj _ _ h40) rfl ⟨Nat.le_of_ble_eq_true rfl, Nat.le_of_ble_eq_true rfl⟩ ⟨Nat.le_refl _, Nat.le_refl _⟩ rfl rfl (Nat.le_of_ble_eq_true rfl) dX1_takenInOrders_40 ?_
        refine zk_aload_n dX1_takenInOrders_43 rfl rfl ?_
        refine zf_X1_9 rfl dX1_takenInOrders_44 ?_
        obtain ⟨p47, h47, h⟩ := zbind h
        refine zc_X1_84 [.int _] (As := [.int _, .int _]) (ok_X8_ordersBehind hj _ _ _ h47) rfl ⟨Nat.le_of_ble_eq_true rfl, Nat.le_of_ble_eq_true rfl⟩ ⟨Nat.le_refl _, Nat.le_refl _⟩ rfl rfl (Nat.le_of_ble_eq_true rfl) dX1_takenInOrders_47 ?_
        refine zk_aload_n dX1_takenInOrders_50 rfl rfl ?_
        refine zf_X1_18 rfl dX1_takenInOrders_51 ?_
        refine zk_iload_n dX1_takenInOrders_54 rfl rfl ?_
        obtain ⟨g55, h⟩ := zguard h
        refine zk_iald (zoI_of rfl g55) dX1_takenInOrders_55 ?_
        refine zk_iload dX1_takenInOrders_56 rfl ?_
        refine zk_mmin zmw_X1_66 (Nat.le_of_ble_eq_true rfl) (Nat.le_of_ble_eq_true rfl) ⟨Nat.le_refl _, Nat.le_refl _⟩ dX1_takenInOrders_58 ?_
        refine zk_imul dX1_takenInOrders_61 ?_
        refine zk_iadd dX1_takenInOrders_62 ?_
        refine zk_istore_n (i := 2) dX1_takenInOrders_63 rfl (by decide) (zk_eq [_, _, _, _, _] rfl ?_)
        refine zk_iinc dX1_takenInOrders_64 rfl (zinc (m := 1) (by decide)) (by decide) (zk_eq [_, _, _, _, _] rfl ?_)
        refine zk_goto (tgt := 4) dX1_takenInOrders_67 rfl ?_
        refine zk_mask [true, true, true, true, false] ?_
        exact hr4 _ _ h
def D_X1_takenInOrders (s : zS) (a1 : Int32) : Option Int32 :=
  D_X1_takenInOrders_L4 s a1 zFU (0 : Int32) (0 : Int32)
set_option maxRecDepth 100000 in
theorem ok_X1_takenInOrders {l : Launch} {D : va_G} {ad : Nat → Nat} {cA : Nat → ClassId} (hj : zInj ad) (s : zS) (a1 : Int32) {r : Int32} (h : D_X1_takenInOrders s a1 = some r) : zMet l D ad cA jX1_takenInOrders [.ref 45, .int a1] s (some (.int r)) s := by
  refine zMet_of jX1_takenInOrders [some (.ref 45), some (.int a1), none, none, none] (by decide +kernel) (Nat.le_of_ble_eq_true rfl) rfl hj ?_
  unfold D_X1_takenInOrders at h
  refine zk_iconst (v := 0) dX1_takenInOrders_0 (by decide) ?_
  refine zk_istore_n (i := 2) dX1_takenInOrders_1 rfl (by decide) (zk_eq [_, _, _, _, _] rfl ?_)
  refine zk_iconst (v := 0) dX1_takenInOrders_2 (by decide) ?_
  refine zk_istore_n (i := 3) dX1_takenInOrders_3 rfl (by decide) (zk_eq [_, _, _, _, _] rfl ?_)
  exact ok_X1_takenInOrders_L4 hj r _ _ _ _ _ h
def D_X1_total_B4 (s : zS) (rec4 : Int32 → Int32 → Option Int32) (a1 : Int32) (a2 : Int32) : Option Int32 :=
    if (s.1 45 0) ≤ a2 then (
      some a1
    ) else (
      zgd (zin a2 6 = true) <|
      rec4 (a1 + (s.1 46 a2.toNatClampNeg)) (a2 + 1)
    )
def D_X1_total_L4 (s : zS) (n : Nat) (a1 : Int32) (a2 : Int32) : Option Int32 := zfx (fun (rec : Int32 × Int32 → Option Int32) q => D_X1_total_B4 s (fun v0 v1 => rec (v0, v1)) q.1 q.2) n (a1, a2)
set_option maxRecDepth 100000 in
theorem D_X1_total_L4_s (s : zS) (n : Nat) (a1 : Int32) (a2 : Int32) : D_X1_total_L4 s (n + 1) a1 a2 = D_X1_total_B4 s (D_X1_total_L4 s n) a1 a2 := rfl
set_option maxRecDepth 100000 in
theorem ok_X1_total_L4 {l : Launch} {D : va_G} {ad : Nat → Nat} {cA : Nat → ClassId} (hj : zInj ad) (r : Int32) (s : zS) : ∀ (n : Nat) (a1 : Int32) (a2 : Int32), D_X1_total_L4 s n a1 a2 = some r → zOk l D ad cA (zJm jX1_total) (zEnd D ad cA (some (.int r)) s) 4 [some (.ref 45), some (.int a1), some (.int a2)] [] s := by
  intro n
  induction n with
  | zero =>
    intro a1 a2 h
    have h0 : (none : Option Int32) = some r := h
    cases h0
  | succ n hr4 =>
    intro a1 a2 h
    have h : D_X1_total_B4 s (D_X1_total_L4 s n) a1 a2 = some r := h
    unfold D_X1_total_B4 at h
    refine zk_iload_n dX1_total_4 rfl rfl ?_
    refine zk_aload_n dX1_total_5 rfl rfl ?_
    refine zf_X1_9 rfl dX1_total_6 ?_
    refine zk_icmp_ge (tgt := 27) dX1_total_9 rfl (fun g9 => ?_) (fun g9 => ?_)
    · replace h := zpos g9 h
      refine zk_iload_n dX1_total_27 rfl rfl ?_
      have e9 := Option.some.inj h
      subst e9
      exact zk_iret rfl ⟨rfl, rfl⟩ dX1_total_28
    · replace h := zneg g9 h
      refine zk_iload_n dX1_total_12 rfl rfl ?_
      refine zk_aload_n dX1_total_13 rfl rfl ?_
      refine zf_X1_18 rfl dX1_total_14 ?_
      refine zk_iload_n dX1_total_17 rfl rfl ?_
      obtain ⟨g18, h⟩ := zguard h
      refine zk_iald (zoI_of rfl g18) dX1_total_18 ?_
      refine zk_iadd dX1_total_19 ?_
      refine zk_istore_n (i := 1) dX1_total_20 rfl (by decide) (zk_eq [_, _, _] rfl ?_)
      refine zk_iinc dX1_total_21 rfl (zinc (m := 1) (by decide)) (by decide) (zk_eq [_, _, _] rfl ?_)
      refine zk_goto (tgt := 4) dX1_total_24 rfl ?_
      exact hr4 _ _ h
def D_X1_total (s : zS) : Option Int32 :=
  D_X1_total_L4 s zFU (0 : Int32) (0 : Int32)
set_option maxRecDepth 100000 in
theorem ok_X1_total {l : Launch} {D : va_G} {ad : Nat → Nat} {cA : Nat → ClassId} (hj : zInj ad) (s : zS)  {r : Int32} (h : D_X1_total s = some r) : zMet l D ad cA jX1_total [.ref 45] s (some (.int r)) s := by
  refine zMet_of jX1_total [some (.ref 45), none, none] (by decide +kernel) (Nat.le_of_ble_eq_true rfl) rfl hj ?_
  unfold D_X1_total at h
  refine zk_iconst (v := 0) dX1_total_0 (by decide) ?_
  refine zk_istore_n (i := 1) dX1_total_1 rfl (by decide) (zk_eq [_, _, _] rfl ?_)
  refine zk_iconst (v := 0) dX1_total_2 (by decide) ?_
  refine zk_istore_n (i := 2) dX1_total_3 rfl (by decide) (zk_eq [_, _, _] rfl ?_)
  exact ok_X1_total_L4 hj r _ _ _ _ h
def D_X2_put (s : zS) (a0 : Nat) (a1 : Int64) (a3 : Int64) : Option zS :=
  (D_X8_commonFactor a1 a3).bind fun p2 =>
  if (lg_cmp p2 (0 : Int64)) = 0 then (
    some s
  ) else (
    if 0 < (lg_cmp a3 (0 : Int64)) then (
      if p2 = 0 then none else
      zgd (zshp a0 = (0, 2, [1, 1])) <|
      let s26 : zS := zwL s a0 0 (a1 / p2)
      if p2 = 0 then none else
      zgd (zshp a0 = (0, 2, [1, 1])) <|
      let s34 : zS := zwL s26 a0 1 (a3 / p2)
      some s34
    ) else (
      some s
    )
  )
set_option maxRecDepth 100000 in
theorem ok_X2_put {l : Launch} {D : va_G} {ad : Nat → Nat} {cA : Nat → ClassId} (hj : zInj ad) (s : zS) (a0 : Nat) (a1 : Int64) (a3 : Int64) {r : zS} (h : D_X2_put s a0 a1 a3 = some r) : zMet l D ad cA jX2_put [.ref a0, .long a1, .long a3] s none r := by
  refine zMet_of jX2_put [some (.ref a0), some (.long a1), none, some (.long a3), none, none, none] (by decide +kernel) (Nat.le_of_ble_eq_true rfl) rfl hj ?_
  unfold D_X2_put at h
  refine zk_lload_n dX2_put_0 rfl rfl ?_
  refine zk_lload_n dX2_put_1 rfl rfl ?_
  obtain ⟨p2, h2, h⟩ := zbind h
  refine zc_X2_16 [] (As := [.long _, .long _]) (ok_X8_commonFactor hj _ _ _ h2) rfl ⟨Nat.le_of_ble_eq_true rfl, Nat.le_of_ble_eq_true rfl⟩ ⟨Nat.le_refl _, Nat.le_refl _⟩ rfl rfl (Nat.le_of_ble_eq_true rfl) dX2_put_2 ?_
  refine zk_lstore (i := 5) dX2_put_5 (by decide) (zk_eq [_, _, _, _, _, _, _] rfl ?_)
  refine zk_lload dX2_put_7 rfl ?_
  refine zk_lconst (v := 0) dX2_put_9 (by decide) ?_
  refine zk_lcmp dX2_put_10 ?_
  refine zk_if_eq (tgt := 20) dX2_put_11 rfl (fun g11 => ?_) (fun g11 => ?_)
  · replace h := zpos g11 h
    have e9 := Option.some.inj h
    subst e9
    exact zk_vret rfl ⟨rfl, rfl⟩ dX2_put_20
  · replace h := zneg g11 h
    refine zk_lload_n dX2_put_14 rfl rfl ?_
    refine zk_lconst (v := 0) dX2_put_15 (by decide) ?_
    refine zk_lcmp dX2_put_16 ?_
    refine zk_if_gt (tgt := 21) dX2_put_17 rfl (fun g17 => ?_) (fun g17 => ?_)
    · replace h := zpos g17 h
      refine zk_aload_n dX2_put_21 rfl rfl ?_
      refine zk_lload_n dX2_put_22 rfl rfl ?_
      refine zk_lload dX2_put_23 rfl ?_
      obtain ⟨g25, h⟩ := zguardn h
      refine zk_ldiv dX2_put_25 g25 ?_
      obtain ⟨hs26, h⟩ := zguard h
      refine zp_X2_7 (hs := hs26) rfl dX2_put_26 ?_
      refine zk_aload_n dX2_put_29 rfl rfl ?_
      refine zk_lload_n dX2_put_30 rfl rfl ?_
      refine zk_lload dX2_put_31 rfl ?_
      obtain ⟨g33, h⟩ := zguardn h
      refine zk_ldiv dX2_put_33 g33 ?_
      obtain ⟨hs34, h⟩ := zguard h
      refine zp_X2_13 (hs := hs34) rfl dX2_put_34 ?_
      have e9 := Option.some.inj h
      subst e9
      exact zk_vret rfl ⟨rfl, rfl⟩ dX2_put_37
    · replace h := zneg g17 h
      have e9 := Option.some.inj h
      subst e9
      exact zk_vret rfl ⟨rfl, rfl⟩ dX2_put_20
def D_X1_tellEven (s : zS) (a1 : Int32) (a2 : Int32) : Option zS :=
  (D_X1_openBy s a2).bind fun p2 =>
  (D_X1_evenTimesOpen s a1 a2 p2).bind fun p13 =>
  (D_X2_put s 1 p13.toInt64 p2.toInt64).bind fun p20 =>
  some p20
set_option maxRecDepth 100000 in
theorem ok_X1_tellEven {l : Launch} {D : va_G} {ad : Nat → Nat} {cA : Nat → ClassId} (hj : zInj ad) (s : zS) (a1 : Int32) (a2 : Int32) {r : zS} (h : D_X1_tellEven s a1 a2 = some r) : zMet l D ad cA jX1_tellEven [.ref 45, .int a1, .int a2, .ref 1] s none r := by
  refine zMet_of jX1_tellEven [some (.ref 45), some (.int a1), some (.int a2), some (.ref 1), none] (by decide +kernel) (Nat.le_of_ble_eq_true rfl) rfl hj ?_
  unfold D_X1_tellEven at h
  refine zk_aload_n dX1_tellEven_0 rfl rfl ?_
  refine zk_iload_n dX1_tellEven_1 rfl rfl ?_
  obtain ⟨p2, h2, h⟩ := zbind h
  refine zc_X1_57 [] (As := [.int _]) (ok_X1_openBy hj _ _ h2) rfl ⟨Nat.le_of_ble_eq_true rfl, Nat.le_of_ble_eq_true rfl⟩ ⟨Nat.le_refl _, Nat.le_refl _⟩ rfl rfl (Nat.le_of_ble_eq_true rfl) dX1_tellEven_2 ?_
  refine zk_istore (i := 4) dX1_tellEven_5 (by decide) (zk_eq [_, _, _, _, _] rfl ?_)
  refine zk_aload_n dX1_tellEven_7 rfl rfl ?_
  refine zk_aload_n dX1_tellEven_8 rfl rfl ?_
  refine zk_iload_n dX1_tellEven_9 rfl rfl ?_
  refine zk_iload_n dX1_tellEven_10 rfl rfl ?_
  refine zk_iload dX1_tellEven_11 rfl ?_
  obtain ⟨p13, h13, h⟩ := zbind h
  refine zc_X1_60 [.ref _] (As := [.int _, .int _, .int _]) (ok_X1_evenTimesOpen hj _ _ _ _ h13) rfl ⟨Nat.le_of_ble_eq_true rfl, Nat.le_of_ble_eq_true rfl⟩ ⟨Nat.le_refl _, Nat.le_refl _⟩ rfl rfl (Nat.le_of_ble_eq_true rfl) dX1_tellEven_13 ?_
  refine zk_i2l dX1_tellEven_16 ?_
  refine zk_iload dX1_tellEven_17 rfl ?_
  refine zk_i2l dX1_tellEven_19 ?_
  obtain ⟨p20, h20, h⟩ := zbind h
  refine zc_X1_32 [] (hs := rfl) (As := [.long _, .long _]) (ok_X2_put hj _ _ _ _ h20) rfl ⟨Nat.le_of_ble_eq_true rfl, Nat.le_of_ble_eq_true rfl⟩ ⟨Nat.le_refl _, Nat.le_refl _⟩ rfl rfl (Nat.le_of_ble_eq_true rfl) dX1_tellEven_20 ?_
  have e9 := Option.some.inj h
  subst e9
  exact zk_vret rfl ⟨rfl, rfl⟩ dX1_tellEven_23
def D_X1_tellLessEven (s : zS) (a1 : Int32) (a2 : Int32) (a3 : Int32) : Option zS :=
  (D_X1_openBy s a2).bind fun p2 =>
  zgd (zin a1 6 = true) <|
  (D_X1_evenTimesOpen s a1 a2 p2).bind fun p29 =>
  (D_X2_put s 1 (((((s.1 46 a1.toNatClampNeg) * p2) * a3) - p29).toInt64) (p2.toInt64 * a3.toInt64)).bind fun p40 =>
  some p40
set_option maxRecDepth 100000 in
theorem ok_X1_tellLessEven {l : Launch} {D : va_G} {ad : Nat → Nat} {cA : Nat → ClassId} (hj : zInj ad) (s : zS) (a1 : Int32) (a2 : Int32) (a3 : Int32) {r : zS} (h : D_X1_tellLessEven s a1 a2 a3 = some r) : zMet l D ad cA jX1_tellLessEven [.ref 45, .int a1, .int a2, .int a3, .ref 1] s none r := by
  refine zMet_of jX1_tellLessEven [some (.ref 45), some (.int a1), some (.int a2), some (.int a3), some (.ref 1), none, none] (by decide +kernel) (Nat.le_of_ble_eq_true rfl) rfl hj ?_
  unfold D_X1_tellLessEven at h
  refine zk_aload_n dX1_tellLessEven_0 rfl rfl ?_
  refine zk_iload_n dX1_tellLessEven_1 rfl rfl ?_
  obtain ⟨p2, h2, h⟩ := zbind h
  refine zc_X1_57 [] (As := [.int _]) (ok_X1_openBy hj _ _ h2) rfl ⟨Nat.le_of_ble_eq_true rfl, Nat.le_of_ble_eq_true rfl⟩ ⟨Nat.le_refl _, Nat.le_refl _⟩ rfl rfl (Nat.le_of_ble_eq_true rfl) dX1_tellLessEven_2 ?_
  refine zk_istore (i := 5) dX1_tellLessEven_5 (by decide) (zk_eq [_, _, _, _, _, _, _] rfl ?_)
  refine zk_aload_n dX1_tellLessEven_7 rfl rfl ?_
  refine zf_X1_18 rfl dX1_tellLessEven_8 ?_
  refine zk_iload_n dX1_tellLessEven_11 rfl rfl ?_
  obtain ⟨g12, h⟩ := zguard h
  refine zk_iald (zoI_of rfl g12) dX1_tellLessEven_12 ?_
  refine zk_iload dX1_tellLessEven_13 rfl ?_
  refine zk_imul dX1_tellLessEven_15 ?_
  refine zk_iload_n dX1_tellLessEven_16 rfl rfl ?_
  refine zk_imul dX1_tellLessEven_17 ?_
  refine zk_istore (i := 6) dX1_tellLessEven_18 (by decide) (zk_eq [_, _, _, _, _, _, _] rfl ?_)
  refine zk_aload dX1_tellLessEven_20 rfl ?_
  refine zk_iload dX1_tellLessEven_22 rfl ?_
  refine zk_aload_n dX1_tellLessEven_24 rfl rfl ?_
  refine zk_iload_n dX1_tellLessEven_25 rfl rfl ?_
  refine zk_iload_n dX1_tellLessEven_26 rfl rfl ?_
  refine zk_iload dX1_tellLessEven_27 rfl ?_
  obtain ⟨p29, h29, h⟩ := zbind h
  refine zc_X1_60 [.int _, .ref _] (As := [.int _, .int _, .int _]) (ok_X1_evenTimesOpen hj _ _ _ _ h29) rfl ⟨Nat.le_of_ble_eq_true rfl, Nat.le_of_ble_eq_true rfl⟩ ⟨Nat.le_refl _, Nat.le_refl _⟩ rfl rfl (Nat.le_of_ble_eq_true rfl) dX1_tellLessEven_29 ?_
  refine zk_isub dX1_tellLessEven_32 ?_
  refine zk_i2l dX1_tellLessEven_33 ?_
  refine zk_iload dX1_tellLessEven_34 rfl ?_
  refine zk_i2l dX1_tellLessEven_36 ?_
  refine zk_iload_n dX1_tellLessEven_37 rfl rfl ?_
  refine zk_i2l dX1_tellLessEven_38 ?_
  refine zk_lmul dX1_tellLessEven_39 ?_
  obtain ⟨p40, h40, h⟩ := zbind h
  refine zc_X1_32 [] (hs := rfl) (As := [.long _, .long _]) (ok_X2_put hj _ _ _ _ h40) rfl ⟨Nat.le_of_ble_eq_true rfl, Nat.le_of_ble_eq_true rfl⟩ ⟨Nat.le_refl _, Nat.le_refl _⟩ rfl rfl (Nat.le_of_ble_eq_true rfl) dX1_tellLessEven_40 ?_
  have e9 := Option.some.inj h
  subst e9
  exact zk_vret rfl ⟨rfl, rfl⟩ dX1_tellLessEven_43
def D_X1_tellHalves (s : zS) (a1 : Int32) : Option zS :=
  (D_X1_total s).bind fun p7 =>
  if ((2 : Int32) * (s.1 45 1)) ≤ p7 then (
    (D_X1_openBy s ((2 : Int32) * (s.1 45 1))).bind fun p39 =>
    (D_X1_evenTimesOpen s a1 ((2 : Int32) * (s.1 45 1)) p39).bind fun p53 =>
    (D_X2_put s 1 p53.toInt64 ((2 : Int64) * p39.toInt64)).bind fun p63 =>
    some p63
  ) else (
    (D_X1_total s).bind fun p17 =>
    (D_X1_tellLessEven s a1 ((2 : Int32) * (p17 - (s.1 45 1))) (2 : Int32)).bind fun p28 =>
    some p28
  )
set_option maxRecDepth 100000 in
theorem ok_X1_tellHalves {l : Launch} {D : va_G} {ad : Nat → Nat} {cA : Nat → ClassId} (hj : zInj ad) (s : zS) (a1 : Int32) {r : zS} (h : D_X1_tellHalves s a1 = some r) : zMet l D ad cA jX1_tellHalves [.ref 45, .int a1, .ref 1] s none r := by
  refine zMet_of jX1_tellHalves [some (.ref 45), some (.int a1), some (.ref 1), none] (by decide +kernel) (Nat.le_of_ble_eq_true rfl) rfl hj ?_
  unfold D_X1_tellHalves at h
  refine zk_iconst (v := 2) dX1_tellHalves_0 (by decide) ?_
  refine zk_aload_n dX1_tellHalves_1 rfl rfl ?_
  refine zf_X1_15 rfl dX1_tellHalves_2 ?_
  refine zk_imul dX1_tellHalves_5 ?_
  refine zk_aload_n dX1_tellHalves_6 rfl rfl ?_
  obtain ⟨p7, h7, h⟩ := zbind h
  refine zc_X1_22 [.int _] (As := []) (ok_X1_total hj _ h7) rfl ⟨Nat.le_of_ble_eq_true rfl, Nat.le_of_ble_eq_true rfl⟩ ⟨Nat.le_refl _, Nat.le_refl _⟩ rfl rfl (Nat.le_of_ble_eq_true rfl) dX1_tellHalves_7 ?_
  refine zk_icmp_le (tgt := 32) dX1_tellHalves_10 rfl (fun g10 => ?_) (fun g10 => ?_)
  · replace h := zpos g10 h
    refine zk_aload_n dX1_tellHalves_32 rfl rfl ?_
    refine zk_iconst (v := 2) dX1_tellHalves_33 (by decide) ?_
    refine zk_aload_n dX1_tellHalves_34 rfl rfl ?_
    refine zf_X1_15 rfl dX1_tellHalves_35 ?_
    refine zk_imul dX1_tellHalves_38 ?_
    obtain ⟨p39, h39, h⟩ := zbind h
    refine zc_X1_57 [] (As := [.int _]) (ok_X1_openBy hj _ _ h39) rfl ⟨Nat.le_of_ble_eq_true rfl, Nat.le_of_ble_eq_true rfl⟩ ⟨Nat.le_refl _, Nat.le_refl _⟩ rfl rfl (Nat.le_of_ble_eq_true rfl) dX1_tellHalves_39 ?_
    refine zk_istore_n (i := 3) dX1_tellHalves_42 rfl (by decide) (zk_eq [_, _, _, _] rfl ?_)
    refine zk_aload_n dX1_tellHalves_43 rfl rfl ?_
    refine zk_aload_n dX1_tellHalves_44 rfl rfl ?_
    refine zk_iload_n dX1_tellHalves_45 rfl rfl ?_
    refine zk_iconst (v := 2) dX1_tellHalves_46 (by decide) ?_
    refine zk_aload_n dX1_tellHalves_47 rfl rfl ?_
    refine zf_X1_15 rfl dX1_tellHalves_48 ?_
    refine zk_imul dX1_tellHalves_51 ?_
    refine zk_iload_n dX1_tellHalves_52 rfl rfl ?_
    obtain ⟨p53, h53, h⟩ := zbind h
    refine zc_X1_60 [.ref _] (As := [.int _, .int _, .int _]) (ok_X1_evenTimesOpen hj _ _ _ _ h53) rfl ⟨Nat.le_of_ble_eq_true rfl, Nat.le_of_ble_eq_true rfl⟩ ⟨Nat.le_refl _, Nat.le_refl _⟩ rfl rfl (Nat.le_of_ble_eq_true rfl) dX1_tellHalves_53 ?_
    refine zk_i2l dX1_tellHalves_56 ?_
    refine zk_ldc2 dX1_tellHalves_57 zw_X1_64 ?_
    refine zk_iload_n dX1_tellHalves_60 rfl rfl ?_
    refine zk_i2l dX1_tellHalves_61 ?_
    refine zk_lmul dX1_tellHalves_62 ?_
    obtain ⟨p63, h63, h⟩ := zbind h
    refine zc_X1_32 [] (hs := rfl) (As := [.long _, .long _]) (ok_X2_put hj _ _ _ _ h63) rfl ⟨Nat.le_of_ble_eq_true rfl, Nat.le_of_ble_eq_true rfl⟩ ⟨Nat.le_refl _, Nat.le_refl _⟩ rfl rfl (Nat.le_of_ble_eq_true rfl) dX1_tellHalves_63 ?_
    have e9 := Option.some.inj h
    subst e9
    exact zk_vret rfl ⟨rfl, rfl⟩ dX1_tellHalves_66
  · replace h := zneg g10 h
    refine zk_aload_n dX1_tellHalves_13 rfl rfl ?_
    refine zk_iload_n dX1_tellHalves_14 rfl rfl ?_
    refine zk_iconst (v := 2) dX1_tellHalves_15 (by decide) ?_
    refine zk_aload_n dX1_tellHalves_16 rfl rfl ?_
    obtain ⟨p17, h17, h⟩ := zbind h
    refine zc_X1_22 [.int _, .int _, .ref _] (As := []) (ok_X1_total hj _ h17) rfl ⟨Nat.le_of_ble_eq_true rfl, Nat.le_of_ble_eq_true rfl⟩ ⟨Nat.le_refl _, Nat.le_refl _⟩ rfl rfl (Nat.le_of_ble_eq_true rfl) dX1_tellHalves_17 ?_
    refine zk_aload_n dX1_tellHalves_20 rfl rfl ?_
    refine zf_X1_15 rfl dX1_tellHalves_21 ?_
    refine zk_isub dX1_tellHalves_24 ?_
    refine zk_imul dX1_tellHalves_25 ?_
    refine zk_iconst (v := 2) dX1_tellHalves_26 (by decide) ?_
    refine zk_aload_n dX1_tellHalves_27 rfl rfl ?_
    obtain ⟨p28, h28, h⟩ := zbind h
    refine zc_X1_42 [] (As := [.int _, .int _, .int _, .ref _]) (ok_X1_tellLessEven hj _ _ _ _ h28) rfl ⟨Nat.le_of_ble_eq_true rfl, Nat.le_of_ble_eq_true rfl⟩ ⟨Nat.le_refl _, Nat.le_refl _⟩ rfl rfl (Nat.le_of_ble_eq_true rfl) dX1_tellHalves_28 ?_
    have e9 := Option.some.inj h
    subst e9
    exact zk_vret rfl ⟨rfl, rfl⟩ dX1_tellHalves_31
def D_X1_tellAward (s : zS) (a1 : Int32) (a2 : Int32) : Option zS :=
  if a2 = 0 then (
    zgd (zin a1 6 = true) <|
    (D_X1_total s).bind fun p48 =>
    (D_X2_put s 1 ((s.1 46 a1.toNatClampNeg).toInt64 * (s.1 45 1).toInt64) ((zmax (1 : Int32) p48).toInt64)).bind fun p55 =>
    some p55
  ) else (
  if a2 = 1 then (
    (D_X1_tellEven s a1 (s.1 45 1)).bind fun p68 =>
    some p68
  ) else (
  if a2 = 2 then (
    (D_X1_total s).bind fun p77 =>
    (D_X1_tellLessEven s a1 (p77 - (s.1 45 1)) (1 : Int32)).bind fun p87 =>
    some p87
  ) else (
  if a2 = 3 then (
    (D_X1_tellHalves s a1).bind fun p96 =>
    some p96
  ) else (
  (D_X1_takenInOrders s a1).bind fun p105 =>
  (D_X8_ordersOf (s.1 45 0)).bind fun p113 =>
  (D_X2_put s 1 p105.toInt64 p113.toInt64).bind fun p117 =>
  some p117
  ))))
set_option maxRecDepth 100000 in
theorem ok_X1_tellAward {l : Launch} {D : va_G} {ad : Nat → Nat} {cA : Nat → ClassId} (hj : zInj ad) (s : zS) (a1 : Int32) (a2 : Int32) {r : zS} (h : D_X1_tellAward s a1 a2 = some r) : zMet l D ad cA jX1_tellAward [.ref 45, .int a1, .int a2, .ref 1] s none r := by
  refine zMet_of jX1_tellAward [some (.ref 45), some (.int a1), some (.int a2), some (.ref 1)] (by decide +kernel) (Nat.le_of_ble_eq_true rfl) rfl hj ?_
  unfold D_X1_tellAward at h
  refine zk_iload_n dX1_tellAward_0 rfl rfl ?_
  by_cases g1_0 : a2 = 0
  · replace h := zpos g1_0 h
    refine zk_tableIn (tgt := 32) (off := 31) dX1_tellAward_1 (by rw [g1_0]; decide) (by rw [g1_0]; decide) (by rw [g1_0]; rfl) rfl ?_
    refine zk_aload_n dX1_tellAward_32 rfl rfl ?_
    refine zk_aload_n dX1_tellAward_33 rfl rfl ?_
    refine zf_X1_18 rfl dX1_tellAward_34 ?_
    refine zk_iload_n dX1_tellAward_37 rfl rfl ?_
    obtain ⟨g38, h⟩ := zguard h
    refine zk_iald (zoI_of rfl g38) dX1_tellAward_38 ?_
    refine zk_i2l dX1_tellAward_39 ?_
    refine zk_aload_n dX1_tellAward_40 rfl rfl ?_
    refine zf_X1_15 rfl dX1_tellAward_41 ?_
    refine zk_i2l dX1_tellAward_44 ?_
    refine zk_lmul dX1_tellAward_45 ?_
    refine zk_iconst (v := 1) dX1_tellAward_46 (by decide) ?_
    refine zk_aload_n dX1_tellAward_47 rfl rfl ?_
    obtain ⟨p48, h48, h⟩ := zbind h
    refine zc_X1_22 [.int _, .long _, .ref _] (As := []) (ok_X1_total hj _ h48) rfl ⟨Nat.le_of_ble_eq_true rfl, Nat.le_of_ble_eq_true rfl⟩ ⟨Nat.le_refl _, Nat.le_refl _⟩ rfl rfl (Nat.le_of_ble_eq_true rfl) dX1_tellAward_48 ?_
    refine zk_mmax zmw_X1_26 (Nat.le_of_ble_eq_true rfl) (Nat.le_of_ble_eq_true rfl) ⟨Nat.le_refl _, Nat.le_refl _⟩ dX1_tellAward_51 ?_
    refine zk_i2l dX1_tellAward_54 ?_
    obtain ⟨p55, h55, h⟩ := zbind h
    refine zc_X1_32 [] (hs := rfl) (As := [.long _, .long _]) (ok_X2_put hj _ _ _ _ h55) rfl ⟨Nat.le_of_ble_eq_true rfl, Nat.le_of_ble_eq_true rfl⟩ ⟨Nat.le_refl _, Nat.le_refl _⟩ rfl rfl (Nat.le_of_ble_eq_true rfl) dX1_tellAward_55 ?_
    refine zk_goto (tgt := 120) dX1_tellAward_58 rfl ?_
    have e9 := Option.some.inj h
    subst e9
    exact zk_vret rfl ⟨rfl, rfl⟩ dX1_tellAward_120
  replace h := zneg g1_0 h
  by_cases g1_1 : a2 = 1
  · replace h := zpos g1_1 h
    refine zk_tableIn (tgt := 61) (off := 60) dX1_tellAward_1 (by rw [g1_1]; decide) (by rw [g1_1]; decide) (by rw [g1_1]; rfl) rfl ?_
    refine zk_aload_n dX1_tellAward_61 rfl rfl ?_
    refine zk_iload_n dX1_tellAward_62 rfl rfl ?_
    refine zk_aload_n dX1_tellAward_63 rfl rfl ?_
    refine zf_X1_15 rfl dX1_tellAward_64 ?_
    refine zk_aload_n dX1_tellAward_67 rfl rfl ?_
    obtain ⟨p68, h68, h⟩ := zbind h
    refine zc_X1_38 [] (As := [.int _, .int _, .ref _]) (ok_X1_tellEven hj _ _ _ h68) rfl ⟨Nat.le_of_ble_eq_true rfl, Nat.le_of_ble_eq_true rfl⟩ ⟨Nat.le_refl _, Nat.le_refl _⟩ rfl rfl (Nat.le_of_ble_eq_true rfl) dX1_tellAward_68 ?_
    refine zk_goto (tgt := 120) dX1_tellAward_71 rfl ?_
    have e9 := Option.some.inj h
    subst e9
    exact zk_vret rfl ⟨rfl, rfl⟩ dX1_tellAward_120
  replace h := zneg g1_1 h
  by_cases g1_2 : a2 = 2
  · replace h := zpos g1_2 h
    refine zk_tableIn (tgt := 74) (off := 73) dX1_tellAward_1 (by rw [g1_2]; decide) (by rw [g1_2]; decide) (by rw [g1_2]; rfl) rfl ?_
    refine zk_aload_n dX1_tellAward_74 rfl rfl ?_
    refine zk_iload_n dX1_tellAward_75 rfl rfl ?_
    refine zk_aload_n dX1_tellAward_76 rfl rfl ?_
    obtain ⟨p77, h77, h⟩ := zbind h
    refine zc_X1_22 [.int _, .ref _] (As := []) (ok_X1_total hj _ h77) rfl ⟨Nat.le_of_ble_eq_true rfl, Nat.le_of_ble_eq_true rfl⟩ ⟨Nat.le_refl _, Nat.le_refl _⟩ rfl rfl (Nat.le_of_ble_eq_true rfl) dX1_tellAward_77 ?_
    refine zk_aload_n dX1_tellAward_80 rfl rfl ?_
    refine zf_X1_15 rfl dX1_tellAward_81 ?_
    refine zk_isub dX1_tellAward_84 ?_
    refine zk_iconst (v := 1) dX1_tellAward_85 (by decide) ?_
    refine zk_aload_n dX1_tellAward_86 rfl rfl ?_
    obtain ⟨p87, h87, h⟩ := zbind h
    refine zc_X1_42 [] (As := [.int _, .int _, .int _, .ref _]) (ok_X1_tellLessEven hj _ _ _ _ h87) rfl ⟨Nat.le_of_ble_eq_true rfl, Nat.le_of_ble_eq_true rfl⟩ ⟨Nat.le_refl _, Nat.le_refl _⟩ rfl rfl (Nat.le_of_ble_eq_true rfl) dX1_tellAward_87 ?_
    refine zk_goto (tgt := 120) dX1_tellAward_90 rfl ?_
    have e9 := Option.some.inj h
    subst e9
    exact zk_vret rfl ⟨rfl, rfl⟩ dX1_tellAward_120
  replace h := zneg g1_2 h
  by_cases g1_3 : a2 = 3
  · replace h := zpos g1_3 h
    refine zk_tableIn (tgt := 93) (off := 92) dX1_tellAward_1 (by rw [g1_3]; decide) (by rw [g1_3]; decide) (by rw [g1_3]; rfl) rfl ?_
    refine zk_aload_n dX1_tellAward_93 rfl rfl ?_
    refine zk_iload_n dX1_tellAward_94 rfl rfl ?_
    refine zk_aload_n dX1_tellAward_95 rfl rfl ?_
    obtain ⟨p96, h96, h⟩ := zbind h
    refine zc_X1_46 [] (As := [.int _, .ref _]) (ok_X1_tellHalves hj _ _ h96) rfl ⟨Nat.le_of_ble_eq_true rfl, Nat.le_of_ble_eq_true rfl⟩ ⟨Nat.le_refl _, Nat.le_refl _⟩ rfl rfl (Nat.le_of_ble_eq_true rfl) dX1_tellAward_96 ?_
    refine zk_goto (tgt := 120) dX1_tellAward_99 rfl ?_
    have e9 := Option.some.inj h
    subst e9
    exact zk_vret rfl ⟨rfl, rfl⟩ dX1_tellAward_120
  replace h := zneg g1_3 h
  refine zk_tableOut (tgt := 102) dX1_tellAward_1 (zsw_s (k := 3) (zsw_s (k := 2) (zsw_s (k := 1) (zsw_s (k := 0) (zsw0 _) g1_0) g1_1) g1_2) g1_3) rfl ?_
  refine zk_aload_n dX1_tellAward_102 rfl rfl ?_
  refine zk_aload_n dX1_tellAward_103 rfl rfl ?_
  refine zk_iload_n dX1_tellAward_104 rfl rfl ?_
  obtain ⟨p105, h105, h⟩ := zbind h
  refine zc_X1_50 [.ref _] (As := [.int _]) (ok_X1_takenInOrders hj _ _ h105) rfl ⟨Nat.le_of_ble_eq_true rfl, Nat.le_of_ble_eq_true rfl⟩ ⟨Nat.le_refl _, Nat.le_refl _⟩ rfl rfl (Nat.le_of_ble_eq_true rfl) dX1_tellAward_105 ?_
  refine zk_i2l dX1_tellAward_108 ?_
  refine zk_aload_n dX1_tellAward_109 rfl rfl ?_
  refine zf_X1_9 rfl dX1_tellAward_110 ?_
  obtain ⟨p113, h113, h⟩ := zbind h
  refine zc_X1_54 [.long _, .ref _] (As := [.int _]) (ok_X8_ordersOf hj _ _ h113) rfl ⟨Nat.le_of_ble_eq_true rfl, Nat.le_of_ble_eq_true rfl⟩ ⟨Nat.le_refl _, Nat.le_refl _⟩ rfl rfl (Nat.le_of_ble_eq_true rfl) dX1_tellAward_113 ?_
  refine zk_i2l dX1_tellAward_116 ?_
  obtain ⟨p117, h117, h⟩ := zbind h
  refine zc_X1_32 [] (hs := rfl) (As := [.long _, .long _]) (ok_X2_put hj _ _ _ _ h117) rfl ⟨Nat.le_of_ble_eq_true rfl, Nat.le_of_ble_eq_true rfl⟩ ⟨Nat.le_refl _, Nat.le_refl _⟩ rfl rfl (Nat.le_of_ble_eq_true rfl) dX1_tellAward_117 ?_
  have e9 := Option.some.inj h
  subst e9
  exact zk_vret rfl ⟨rfl, rfl⟩ dX1_tellAward_120
