def D_X9_gain (s : zS) (a1 : Int32) (a2 : Int32) (a3 : Int32) : Option (Int32 × zS) :=
  (D_X9_in a1.toInt64 (0 : Int64) (((s.1 66 17) - (1 : Int32)).toInt64)).bind fun p10 =>
  if p10 = 0 then (
    some ((-2 : Int32), s)
  ) else (
    (D_X9_in a2.toInt64 (0 : Int64) (((s.1 66 18) - (1 : Int32)).toInt64)).bind fun p26 =>
    if p26 = 0 then (
      some ((-2 : Int32), s)
    ) else (
      (D_X9_in a3.toInt64 (0 : Int64) (1000 : Int64)).bind fun p38 =>
      if p38 = 0 then (
        some ((-2 : Int32), s)
      ) else (
        zgd (zin (((4 : Int32) * a1) + a2) 16 = true) <|
        zgd (zin (((4 : Int32) * a1) + a2) 16 = true) <|
        let s69 : zS := zwI s 75 (((4 : Int32) * a1) + a2).toNatClampNeg a3
        some ((s.1 75 (((4 : Int32) * a1) + a2).toNatClampNeg), s69)
      )
    )
  )
set_option maxRecDepth 100000 in
theorem ok_X9_gain {l : Launch} {D : va_G} {ad : Nat → Nat} {cA : Nat → ClassId} (hj : zInj ad) (s : zS) (a1 : Int32) (a2 : Int32) (a3 : Int32) {r : (Int32 × zS)} (h : D_X9_gain s a1 a2 a3 = some r) : zMet l D ad cA jX9_gain [.ref 66, .int a1, .int a2, .int a3] s (some (.int r.1)) r.2 := by
  refine zMet_of jX9_gain [some (.ref 66), some (.int a1), some (.int a2), some (.int a3), none] (by decide +kernel) (Nat.le_of_ble_eq_true rfl) rfl hj ?_
  unfold D_X9_gain at h
  refine zk_iload_n dX9_gain_0 rfl rfl ?_
  refine zk_i2l dX9_gain_1 ?_
  refine zk_lconst (v := 0) dX9_gain_2 (by decide) ?_
  refine zk_aload_n dX9_gain_3 rfl rfl ?_
  refine zf_X9_286 rfl dX9_gain_4 ?_
  refine zk_iconst (v := 1) dX9_gain_7 (by decide) ?_
  refine zk_isub dX9_gain_8 ?_
  refine zk_i2l dX9_gain_9 ?_
  obtain ⟨p10, h10, h⟩ := zbind h
  refine zc_X9_92 [] (As := [.long _, .long _, .long _]) (ok_X9_in hj _ _ _ _ h10) rfl ⟨Nat.le_of_ble_eq_true rfl, Nat.le_of_ble_eq_true rfl⟩ ⟨Nat.le_refl _, Nat.le_refl _⟩ rfl rfl (Nat.le_of_ble_eq_true rfl) dX9_gain_10 ?_
  refine zk_if_eq (tgt := 44) dX9_gain_13 rfl (fun g13 => ?_) (fun g13 => ?_)
  · replace h := zpos g13 h
    refine zk_bipush (v := -2) dX9_gain_44 (by decide) ?_
    have e9 := Option.some.inj h
    subst e9
    exact zk_iret rfl ⟨rfl, rfl⟩ dX9_gain_46
  · replace h := zneg g13 h
    refine zk_iload_n dX9_gain_16 rfl rfl ?_
    refine zk_i2l dX9_gain_17 ?_
    refine zk_lconst (v := 0) dX9_gain_18 (by decide) ?_
    refine zk_aload_n dX9_gain_19 rfl rfl ?_
    refine zf_X9_289 rfl dX9_gain_20 ?_
    refine zk_iconst (v := 1) dX9_gain_23 (by decide) ?_
    refine zk_isub dX9_gain_24 ?_
    refine zk_i2l dX9_gain_25 ?_
    obtain ⟨p26, h26, h⟩ := zbind h
    refine zc_X9_92 [] (As := [.long _, .long _, .long _]) (ok_X9_in hj _ _ _ _ h26) rfl ⟨Nat.le_of_ble_eq_true rfl, Nat.le_of_ble_eq_true rfl⟩ ⟨Nat.le_refl _, Nat.le_refl _⟩ rfl rfl (Nat.le_of_ble_eq_true rfl) dX9_gain_26 ?_
    refine zk_if_eq (tgt := 44) dX9_gain_29 rfl (fun g29 => ?_) (fun g29 => ?_)
    · replace h := zpos g29 h
      refine zk_bipush (v := -2) dX9_gain_44 (by decide) ?_
      have e9 := Option.some.inj h
      subst e9
      exact zk_iret rfl ⟨rfl, rfl⟩ dX9_gain_46
    · replace h := zneg g29 h
      refine zk_iload_n dX9_gain_32 rfl rfl ?_
      refine zk_i2l dX9_gain_33 ?_
      refine zk_lconst (v := 0) dX9_gain_34 (by decide) ?_
      refine zk_ldc2 dX9_gain_35 zw_X9_111 ?_
      obtain ⟨p38, h38, h⟩ := zbind h
      refine zc_X9_92 [] (As := [.long _, .long _, .long _]) (ok_X9_in hj _ _ _ _ h38) rfl ⟨Nat.le_of_ble_eq_true rfl, Nat.le_of_ble_eq_true rfl⟩ ⟨Nat.le_refl _, Nat.le_refl _⟩ rfl rfl (Nat.le_of_ble_eq_true rfl) dX9_gain_38 ?_
      refine zk_if_ne (tgt := 47) dX9_gain_41 rfl (fun g41 => ?_) (fun g41 => ?_)
      · replace h := zneg g41 h
        refine zk_aload_n dX9_gain_47 rfl rfl ?_
        refine zf_X9_48 rfl dX9_gain_48 ?_
        refine zk_iconst (v := 4) dX9_gain_51 (by decide) ?_
        refine zk_iload_n dX9_gain_52 rfl rfl ?_
        refine zk_imul dX9_gain_53 ?_
        refine zk_iload_n dX9_gain_54 rfl rfl ?_
        refine zk_iadd dX9_gain_55 ?_
        obtain ⟨g56, h⟩ := zguard h
        refine zk_iald (zoI_of rfl g56) dX9_gain_56 ?_
        refine zk_istore (i := 4) dX9_gain_57 (by decide) (zk_eq [_, _, _, _, _] rfl ?_)
        refine zk_aload_n dX9_gain_59 rfl rfl ?_
        refine zf_X9_48 rfl dX9_gain_60 ?_
        refine zk_iconst (v := 4) dX9_gain_63 (by decide) ?_
        refine zk_iload_n dX9_gain_64 rfl rfl ?_
        refine zk_imul dX9_gain_65 ?_
        refine zk_iload_n dX9_gain_66 rfl rfl ?_
        refine zk_iadd dX9_gain_67 ?_
        refine zk_iload_n dX9_gain_68 rfl rfl ?_
        obtain ⟨g69, h⟩ := zguard h
        refine zk_iast (zoI_of rfl g69) dX9_gain_69 ?_
        refine zk_iload dX9_gain_70 rfl ?_
        have e9 := Option.some.inj h
        subst e9
        exact zk_iret rfl ⟨rfl, rfl⟩ dX9_gain_72
      · replace h := zpos g41 h
        refine zk_bipush (v := -2) dX9_gain_44 (by decide) ?_
        have e9 := Option.some.inj h
        subst e9
        exact zk_iret rfl ⟨rfl, rfl⟩ dX9_gain_46
def D_X9_give (s : zS) (a1 : Int32) (a2 : Int32) (a3 : Int32) : Option (Int32 × zS) :=
  (D_X9_isShare a1).bind fun p1 =>
  if p1 = 0 then (
    some ((-100000 : Int32), s)
  ) else (
    (D_X9_isSide s a2).bind fun p9 =>
    if p9 = 0 then (
      some ((-100000 : Int32), s)
    ) else (
      (D_X9_in a3.toInt64 (-10000 : Int64) (10000 : Int64)).bind fun p23 =>
      if p23 = 0 then (
        some ((-100000 : Int32), s)
      ) else (
        zgd (zin (((4 : Int32) * a1) + a2) 8 = true) <|
        zgd (zin (((4 : Int32) * a1) + a2) 8 = true) <|
        let s54 : zS := zwI s 68 (((4 : Int32) * a1) + a2).toNatClampNeg a3
        some ((s.1 68 (((4 : Int32) * a1) + a2).toNatClampNeg), s54)
      )
    )
  )
set_option maxRecDepth 100000 in
theorem ok_X9_give {l : Launch} {D : va_G} {ad : Nat → Nat} {cA : Nat → ClassId} (hj : zInj ad) (s : zS) (a1 : Int32) (a2 : Int32) (a3 : Int32) {r : (Int32 × zS)} (h : D_X9_give s a1 a2 a3 = some r) : zMet l D ad cA jX9_give [.ref 66, .int a1, .int a2, .int a3] s (some (.int r.1)) r.2 := by
  refine zMet_of jX9_give [some (.ref 66), some (.int a1), some (.int a2), some (.int a3), none] (by decide +kernel) (Nat.le_of_ble_eq_true rfl) rfl hj ?_
  unfold D_X9_give at h
  refine zk_iload_n dX9_give_0 rfl rfl ?_
  obtain ⟨p1, h1, h⟩ := zbind h
  refine zc_X9_196 [] (As := [.int _]) (ok_X9_isShare hj _ _ h1) rfl ⟨Nat.le_of_ble_eq_true rfl, Nat.le_of_ble_eq_true rfl⟩ ⟨Nat.le_refl _, Nat.le_refl _⟩ rfl rfl (Nat.le_of_ble_eq_true rfl) dX9_give_1 ?_
  refine zk_if_eq (tgt := 29) dX9_give_4 rfl (fun g4 => ?_) (fun g4 => ?_)
  · replace h := zpos g4 h
    refine zk_ldc dX9_give_29 zw_X9_113 ?_
    have e9 := Option.some.inj h
    subst e9
    exact zk_iret rfl ⟨rfl, rfl⟩ dX9_give_31
  · replace h := zneg g4 h
    refine zk_aload_n dX9_give_7 rfl rfl ?_
    refine zk_iload_n dX9_give_8 rfl rfl ?_
    obtain ⟨p9, h9, h⟩ := zbind h
    refine zc_X9_118 [] (As := [.int _]) (ok_X9_isSide hj _ _ h9) rfl ⟨Nat.le_of_ble_eq_true rfl, Nat.le_of_ble_eq_true rfl⟩ ⟨Nat.le_refl _, Nat.le_refl _⟩ rfl rfl (Nat.le_of_ble_eq_true rfl) dX9_give_9 ?_
    refine zk_if_eq (tgt := 29) dX9_give_12 rfl (fun g12 => ?_) (fun g12 => ?_)
    · replace h := zpos g12 h
      refine zk_ldc dX9_give_29 zw_X9_113 ?_
      have e9 := Option.some.inj h
      subst e9
      exact zk_iret rfl ⟨rfl, rfl⟩ dX9_give_31
    · replace h := zneg g12 h
      refine zk_iload_n dX9_give_15 rfl rfl ?_
      refine zk_i2l dX9_give_16 ?_
      refine zk_ldc2 dX9_give_17 zw_X9_199 ?_
      refine zk_ldc2 dX9_give_20 zw_X9_201 ?_
      obtain ⟨p23, h23, h⟩ := zbind h
      refine zc_X9_92 [] (As := [.long _, .long _, .long _]) (ok_X9_in hj _ _ _ _ h23) rfl ⟨Nat.le_of_ble_eq_true rfl, Nat.le_of_ble_eq_true rfl⟩ ⟨Nat.le_refl _, Nat.le_refl _⟩ rfl rfl (Nat.le_of_ble_eq_true rfl) dX9_give_23 ?_
      refine zk_if_ne (tgt := 32) dX9_give_26 rfl (fun g26 => ?_) (fun g26 => ?_)
      · replace h := zneg g26 h
        refine zk_aload_n dX9_give_32 rfl rfl ?_
        refine zf_X9_17 rfl dX9_give_33 ?_
        refine zk_iconst (v := 4) dX9_give_36 (by decide) ?_
        refine zk_iload_n dX9_give_37 rfl rfl ?_
        refine zk_imul dX9_give_38 ?_
        refine zk_iload_n dX9_give_39 rfl rfl ?_
        refine zk_iadd dX9_give_40 ?_
        obtain ⟨g41, h⟩ := zguard h
        refine zk_iald (zoI_of rfl g41) dX9_give_41 ?_
        refine zk_istore (i := 4) dX9_give_42 (by decide) (zk_eq [_, _, _, _, _] rfl ?_)
        refine zk_aload_n dX9_give_44 rfl rfl ?_
        refine zf_X9_17 rfl dX9_give_45 ?_
        refine zk_iconst (v := 4) dX9_give_48 (by decide) ?_
        refine zk_iload_n dX9_give_49 rfl rfl ?_
        refine zk_imul dX9_give_50 ?_
        refine zk_iload_n dX9_give_51 rfl rfl ?_
        refine zk_iadd dX9_give_52 ?_
        refine zk_iload_n dX9_give_53 rfl rfl ?_
        obtain ⟨g54, h⟩ := zguard h
        refine zk_iast (zoI_of rfl g54) dX9_give_54 ?_
        refine zk_iload dX9_give_55 rfl ?_
        have e9 := Option.some.inj h
        subst e9
        exact zk_iret rfl ⟨rfl, rfl⟩ dX9_give_57
      · replace h := zpos g26 h
        refine zk_ldc dX9_give_29 zw_X9_113 ?_
        have e9 := Option.some.inj h
        subst e9
        exact zk_iret rfl ⟨rfl, rfl⟩ dX9_give_31
def D_X9_held_J43 (rec2 : Int32 → Option Int32) (rec16 : Int32 → Int32 → Option Int32) (s : zS) (a1 : Int32) (a3 : Int32) (k0 : Int32) (k1 : Int32) : Option Int32 :=
  rec16 (k0 + k1) (a3 + 1)
set_option maxRecDepth 100000 in
theorem ok_X9_held_J43 {l : Launch} {D : va_G} {ad : Nat → Nat} {cA : Nat → ClassId} (hj : zInj ad) (r : Int32) (s : zS) (a1 : Int32) (a3 : Int32) (k0 : Int32) (k1 : Int32) (rec2 : Int32 → Option Int32) (hr2 : ∀ (b1 : Int32), rec2 b1 = some r → zOk l D ad cA (zJm jX9_held) (zEnd D ad cA (some (.int r)) s) 2 [some (.ref 66), some (.int b1), none, none] [] s) (rec16 : Int32 → Int32 → Option Int32) (hr16 : ∀ (b2 : Int32) (b3 : Int32), rec16 b2 b3 = some r → zOk l D ad cA (zJm jX9_held) (zEnd D ad cA (some (.int r)) s) 16 [some (.ref 66), some (.int a1), some (.int b2), some (.int b3)] [] s) (h : D_X9_held_J43 rec2 rec16 s a1 a3 k0 k1 = some r) : zOk l D ad cA (zJm jX9_held) (zEnd D ad cA (some (.int r)) s) 43 [some (.ref 66), some (.int a1), none, some (.int a3)] [.int k1, .int k0] s := by
  unfold D_X9_held_J43 at h
  refine zk_iadd dX9_held_43 ?_
  refine zk_istore_n (i := 2) dX9_held_44 rfl (by decide) (zk_eq [_, _, _, _] rfl ?_)
  refine zk_iinc dX9_held_45 rfl (zinc (m := 1) (by decide)) (by decide) (zk_eq [_, _, _, _] rfl ?_)
  refine zk_goto (tgt := 16) dX9_held_48 rfl ?_
  exact hr16 _ _ h
def D_X9_held_B16 (rec2 : Int32 → Option Int32) (s : zS) (a1 : Int32) (rec16 : Int32 → Int32 → Option Int32) (a2 : Int32) (a3 : Int32) : Option Int32 :=
    if (s.1 66 14) ≤ a3 then (
      (D_X9_aloneOf s a1).bind fun p54 =>
      if a2 ≤ p54 then (
        rec2 (a1 + 1)
      ) else (
        some a1
      )
    ) else (
      (D_X9_has a1 a3).bind fun p27 =>
      if p27 = 0 then (
        D_X9_held_J43 rec2 rec16 s a1 a3 a2 (0 : Int32)
      ) else (
        zgd (zin a3 8 = true) <|
        D_X9_held_J43 rec2 rec16 s a1 a3 a2 (s.1 74 a3.toNatClampNeg)
      )
    )
def D_X9_held_L16 (rec2 : Int32 → Option Int32) (s : zS) (a1 : Int32) (n : Nat) (a2 : Int32) (a3 : Int32) : Option Int32 := zfx (fun (rec : Int32 × Int32 → Option Int32) q => D_X9_held_B16 rec2 s a1 (fun v0 v1 => rec (v0, v1)) q.1 q.2) n (a2, a3)
set_option maxRecDepth 100000 in
theorem D_X9_held_L16_s (rec2 : Int32 → Option Int32) (s : zS) (a1 : Int32) (n : Nat) (a2 : Int32) (a3 : Int32) : D_X9_held_L16 rec2 s a1 (n + 1) a2 a3 = D_X9_held_B16 rec2 s a1 (D_X9_held_L16 rec2 s a1 n) a2 a3 := rfl
set_option maxRecDepth 100000 in
theorem ok_X9_held_L16 {l : Launch} {D : va_G} {ad : Nat → Nat} {cA : Nat → ClassId} (hj : zInj ad) (r : Int32) (s : zS) (a1 : Int32) (rec2 : Int32 → Option Int32) (hr2 : ∀ (b1 : Int32), rec2 b1 = some r → zOk l D ad cA (zJm jX9_held) (zEnd D ad cA (some (.int r)) s) 2 [some (.ref 66), some (.int b1), none, none] [] s) : ∀ (n : Nat) (a2 : Int32) (a3 : Int32), D_X9_held_L16 rec2 s a1 n a2 a3 = some r → zOk l D ad cA (zJm jX9_held) (zEnd D ad cA (some (.int r)) s) 16 [some (.ref 66), some (.int a1), some (.int a2), some (.int a3)] [] s := by
  intro n
  induction n with
  | zero =>
    intro a2 a3 h
    have h0 : (none : Option Int32) = some r := h
    cases h0
  | succ n hr16 =>
    intro a2 a3 h
    have h : D_X9_held_B16 rec2 s a1 (D_X9_held_L16 rec2 s a1 n) a2 a3 = some r := h
    unfold D_X9_held_B16 at h
    refine zk_iload_n dX9_held_16 rfl rfl ?_
    refine zk_aload_n dX9_held_17 rfl rfl ?_
    refine zf_X9_274 rfl dX9_held_18 ?_
    refine zk_icmp_ge (tgt := 51) dX9_held_21 rfl (fun g21 => ?_) (fun g21 => ?_)
    · replace h := zpos g21 h
      refine zk_iload_n dX9_held_51 rfl rfl ?_
      refine zk_aload_n dX9_held_52 rfl rfl ?_
      refine zk_iload_n dX9_held_53 rfl rfl ?_
      obtain ⟨p54, h54, h⟩ := zbind h
      refine zc_X9_280 [.int _] (As := [.int _]) (ok_X9_aloneOf hj _ _ h54) rfl ⟨Nat.le_of_ble_eq_true rfl, Nat.le_of_ble_eq_true rfl⟩ ⟨Nat.le_refl _, Nat.le_refl _⟩ rfl rfl (Nat.le_of_ble_eq_true rfl) dX9_held_54 ?_
      refine zk_icmp_le (tgt := 62) dX9_held_57 rfl (fun g57 => ?_) (fun g57 => ?_)
      · replace h := zpos g57 h
        refine zk_iinc dX9_held_62 rfl (zinc (m := 1) (by decide)) (by decide) (zk_eq [_, _, _, _] rfl ?_)
        refine zk_goto (tgt := 2) dX9_held_65 rfl ?_
        refine zk_mask [true, true, false, false] ?_
        exact hr2 _ h
      · replace h := zneg g57 h
        refine zk_iload_n dX9_held_60 rfl rfl ?_
        have e9 := Option.some.inj h
        subst e9
        exact zk_iret rfl ⟨rfl, rfl⟩ dX9_held_61
    · replace h := zneg g21 h
      refine zk_iload_n dX9_held_24 rfl rfl ?_
      refine zk_iload_n dX9_held_25 rfl rfl ?_
      refine zk_iload_n dX9_held_26 rfl rfl ?_
      obtain ⟨p27, h27, h⟩ := zbind h
      refine zc_X9_121 [.int _] (As := [.int _, .int _]) (ok_X9_has hj _ _ _ h27) rfl ⟨Nat.le_of_ble_eq_true rfl, Nat.le_of_ble_eq_true rfl⟩ ⟨Nat.le_refl _, Nat.le_refl _⟩ rfl rfl (Nat.le_of_ble_eq_true rfl) dX9_held_27 ?_
      refine zk_if_eq (tgt := 42) dX9_held_30 rfl (fun g30 => ?_) (fun g30 => ?_)
      · replace h := zpos g30 h
        refine zk_iconst (v := 0) dX9_held_42 (by decide) ?_
        refine zk_mask [true, true, false, true] ?_
        exact ok_X9_held_J43 hj r _ _ _ _ _ _ hr2 _ hr16 h
      · replace h := zneg g30 h
        refine zk_aload_n dX9_held_33 rfl rfl ?_
        refine zf_X9_45 rfl dX9_held_34 ?_
        refine zk_iload_n dX9_held_37 rfl rfl ?_
        obtain ⟨g38, h⟩ := zguard h
        refine zk_iald (zoI_of rfl g38) dX9_held_38 ?_
        refine zk_goto (tgt := 43) dX9_held_39 rfl ?_
        refine zk_mask [true, true, false, true] ?_
        exact ok_X9_held_J43 hj r _ _ _ _ _ _ hr2 _ hr16 h
def D_X9_held_B2 (s : zS) (rec2 : Int32 → Option Int32) (a1 : Int32) : Option Int32 :=
    if ((1 : Int32) <<< ((s.1 66 14) &&& 31)) ≤ a1 then (
      some (-1 : Int32)
    ) else (
      D_X9_held_L16 rec2 s a1 zFU (0 : Int32) (0 : Int32)
    )
def D_X9_held_L2 (s : zS) (n : Nat) (a1 : Int32) : Option Int32 := zfx (fun (rec : Int32 → Option Int32) q => D_X9_held_B2 s (fun v0 => rec (v0)) q) n (a1)
set_option maxRecDepth 100000 in
theorem D_X9_held_L2_s (s : zS) (n : Nat) (a1 : Int32) : D_X9_held_L2 s (n + 1) a1 = D_X9_held_B2 s (D_X9_held_L2 s n) a1 := rfl
set_option maxRecDepth 100000 in
theorem ok_X9_held_L2 {l : Launch} {D : va_G} {ad : Nat → Nat} {cA : Nat → ClassId} (hj : zInj ad) (r : Int32) (s : zS) : ∀ (n : Nat) (a1 : Int32), D_X9_held_L2 s n a1 = some r → zOk l D ad cA (zJm jX9_held) (zEnd D ad cA (some (.int r)) s) 2 [some (.ref 66), some (.int a1), none, none] [] s := by
  intro n
  induction n with
  | zero =>
    intro a1 h
    have h0 : (none : Option Int32) = some r := h
    cases h0
  | succ n hr2 =>
    intro a1 h
    have h : D_X9_held_B2 s (D_X9_held_L2 s n) a1 = some r := h
    unfold D_X9_held_B2 at h
    refine zk_iload_n dX9_held_2 rfl rfl ?_
    refine zk_iconst (v := 1) dX9_held_3 (by decide) ?_
    refine zk_aload_n dX9_held_4 rfl rfl ?_
    refine zf_X9_274 rfl dX9_held_5 ?_
    refine zk_ishl dX9_held_8 ?_
    refine zk_icmp_ge (tgt := 68) dX9_held_9 rfl (fun g9 => ?_) (fun g9 => ?_)
    · replace h := zpos g9 h
      refine zk_iconst (v := -1) dX9_held_68 (by decide) ?_
      have e9 := Option.some.inj h
      subst e9
      exact zk_iret rfl ⟨rfl, rfl⟩ dX9_held_69
    · replace h := zneg g9 h
      refine zk_iconst (v := 0) dX9_held_12 (by decide) ?_
      refine zk_istore_n (i := 2) dX9_held_13 rfl (by decide) (zk_eq [_, _, _, _] rfl ?_)
      refine zk_iconst (v := 0) dX9_held_14 (by decide) ?_
      refine zk_istore_n (i := 3) dX9_held_15 rfl (by decide) (zk_eq [_, _, _, _] rfl ?_)
      exact ok_X9_held_L16 hj r _ _ _ hr2 _ _ _ h
def D_X9_held (s : zS) : Option Int32 :=
  D_X9_held_L2 s zFU (1 : Int32)
set_option maxRecDepth 100000 in
theorem ok_X9_held {l : Launch} {D : va_G} {ad : Nat → Nat} {cA : Nat → ClassId} (hj : zInj ad) (s : zS)  {r : Int32} (h : D_X9_held s = some r) : zMet l D ad cA jX9_held [.ref 66] s (some (.int r)) s := by
  refine zMet_of jX9_held [some (.ref 66), none, none, none] (by decide +kernel) (Nat.le_of_ble_eq_true rfl) rfl hj ?_
  unfold D_X9_held at h
  refine zk_iconst (v := 1) dX9_held_0 (by decide) ?_
  refine zk_istore_n (i := 1) dX9_held_1 rfl (by decide) (zk_eq [_, _, _, _] rfl ?_)
  exact ok_X9_held_L2 hj r _ _ _ h
def D_X9_isSame_J63 (rec2 : Int32 → Option Int32) (s : zS) (a1 : Int32) (a2 : Int32) (k0 : Int32) : Option Int32 :=
  (D_X9_doesWin s a2).bind fun p65 =>
  if k0 = p65 then (
    rec2 (a2 + 1)
  ) else (
    some (0 : Int32)
  )
set_option maxRecDepth 100000 in
theorem ok_X9_isSame_J63 {l : Launch} {D : va_G} {ad : Nat → Nat} {cA : Nat → ClassId} (hj : zInj ad) (r : Int32) (s : zS) (a1 : Int32) (a2 : Int32) (k0 : Int32) (rec2 : Int32 → Option Int32) (hr2 : ∀ (b2 : Int32), rec2 b2 = some r → zOk l D ad cA (zJm jX9_isSame) (zEnd D ad cA (some (.int r)) s) 2 [some (.ref 66), some (.int a1), some (.int b2), none, none] [] s) (h : D_X9_isSame_J63 rec2 s a1 a2 k0 = some r) : zOk l D ad cA (zJm jX9_isSame) (zEnd D ad cA (some (.int r)) s) 63 [some (.ref 66), some (.int a1), some (.int a2), none, none] [.int k0] s := by
  unfold D_X9_isSame_J63 at h
  refine zk_aload_n dX9_isSame_63 rfl rfl ?_
  refine zk_iload_n dX9_isSame_64 rfl rfl ?_
  obtain ⟨p65, h65, h⟩ := zbind h
  refine zc_X9_226 [.int _] (As := [.int _]) (ok_X9_doesWin hj _ _ h65) rfl ⟨Nat.le_of_ble_eq_true rfl, Nat.le_of_ble_eq_true rfl⟩ ⟨Nat.le_refl _, Nat.le_refl _⟩ rfl rfl (Nat.le_of_ble_eq_true rfl) dX9_isSame_65 ?_
  refine zk_icmp_eq (tgt := 73) dX9_isSame_68 rfl (fun g68 => ?_) (fun g68 => ?_)
  · replace h := zpos g68 h
    refine zk_iinc dX9_isSame_73 rfl (zinc (m := 1) (by decide)) (by decide) (zk_eq [_, _, _, _, _] rfl ?_)
    refine zk_goto (tgt := 2) dX9_isSame_76 rfl ?_
    exact hr2 _ h
  · replace h := zneg g68 h
    refine zk_iconst (v := 0) dX9_isSame_71 (by decide) ?_
    have e9 := Option.some.inj h
    subst e9
    exact zk_zret rfl (Or.inl rfl) ⟨rfl, rfl⟩ dX9_isSame_72
def D_X9_isSame_J45 (rec2 : Int32 → Option Int32) (rec15 : Int32 → Int32 → Option Int32) (s : zS) (a1 : Int32) (a2 : Int32) (a4 : Int32) (k0 : Int32) (k1 : Int32) : Option Int32 :=
  rec15 (k0 + k1) (a4 + 1)
set_option maxRecDepth 100000 in
theorem ok_X9_isSame_J45 {l : Launch} {D : va_G} {ad : Nat → Nat} {cA : Nat → ClassId} (hj : zInj ad) (r : Int32) (s : zS) (a1 : Int32) (a2 : Int32) (a4 : Int32) (k0 : Int32) (k1 : Int32) (rec2 : Int32 → Option Int32) (hr2 : ∀ (b2 : Int32), rec2 b2 = some r → zOk l D ad cA (zJm jX9_isSame) (zEnd D ad cA (some (.int r)) s) 2 [some (.ref 66), some (.int a1), some (.int b2), none, none] [] s) (rec15 : Int32 → Int32 → Option Int32) (hr15 : ∀ (b3 : Int32) (b4 : Int32), rec15 b3 b4 = some r → zOk l D ad cA (zJm jX9_isSame) (zEnd D ad cA (some (.int r)) s) 15 [some (.ref 66), some (.int a1), some (.int a2), some (.int b3), some (.int b4)] [] s) (h : D_X9_isSame_J45 rec2 rec15 s a1 a2 a4 k0 k1 = some r) : zOk l D ad cA (zJm jX9_isSame) (zEnd D ad cA (some (.int r)) s) 45 [some (.ref 66), some (.int a1), some (.int a2), none, some (.int a4)] [.int k1, .int k0] s := by
  unfold D_X9_isSame_J45 at h
  refine zk_iadd dX9_isSame_45 ?_
  refine zk_istore_n (i := 3) dX9_isSame_46 rfl (by decide) (zk_eq [_, _, _, _, _] rfl ?_)
  refine zk_iinc dX9_isSame_47 rfl (zinc (m := 1) (by decide)) (by decide) (zk_eq [_, _, _, _, _] rfl ?_)
  refine zk_goto (tgt := 15) dX9_isSame_50 rfl ?_
  exact hr15 _ _ h
def D_X9_isSame_B15 (rec2 : Int32 → Option Int32) (s : zS) (a1 : Int32) (a2 : Int32) (rec15 : Int32 → Int32 → Option Int32) (a3 : Int32) (a4 : Int32) : Option Int32 :=
    if (s.1 66 5) ≤ a4 then (
      if a3 < a1 then (
        D_X9_isSame_J63 rec2 s a1 a2 (0 : Int32)
      ) else (
        D_X9_isSame_J63 rec2 s a1 a2 (1 : Int32)
      )
    ) else (
      (D_X9_has a2 a4).bind fun p28 =>
      if p28 = 0 then (
        D_X9_isSame_J45 rec2 rec15 s a1 a2 a4 a3 (0 : Int32)
      ) else (
        zgd (zin a4 5 = true) <|
        D_X9_isSame_J45 rec2 rec15 s a1 a2 a4 a3 (s.1 86 a4.toNatClampNeg)
      )
    )
def D_X9_isSame_L15 (rec2 : Int32 → Option Int32) (s : zS) (a1 : Int32) (a2 : Int32) (n : Nat) (a3 : Int32) (a4 : Int32) : Option Int32 := zfx (fun (rec : Int32 × Int32 → Option Int32) q => D_X9_isSame_B15 rec2 s a1 a2 (fun v0 v1 => rec (v0, v1)) q.1 q.2) n (a3, a4)
set_option maxRecDepth 100000 in
theorem D_X9_isSame_L15_s (rec2 : Int32 → Option Int32) (s : zS) (a1 : Int32) (a2 : Int32) (n : Nat) (a3 : Int32) (a4 : Int32) : D_X9_isSame_L15 rec2 s a1 a2 (n + 1) a3 a4 = D_X9_isSame_B15 rec2 s a1 a2 (D_X9_isSame_L15 rec2 s a1 a2 n) a3 a4 := rfl
set_option maxRecDepth 100000 in
theorem ok_X9_isSame_L15 {l : Launch} {D : va_G} {ad : Nat → Nat} {cA : Nat → ClassId} (hj : zInj ad) (r : Int32) (s : zS) (a1 : Int32) (a2 : Int32) (rec2 : Int32 → Option Int32) (hr2 : ∀ (b2 : Int32), rec2 b2 = some r → zOk l D ad cA (zJm jX9_isSame) (zEnd D ad cA (some (.int r)) s) 2 [some (.ref 66), some (.int a1), some (.int b2), none, none] [] s) : ∀ (n : Nat) (a3 : Int32) (a4 : Int32), D_X9_isSame_L15 rec2 s a1 a2 n a3 a4 = some r → zOk l D ad cA (zJm jX9_isSame) (zEnd D ad cA (some (.int r)) s) 15 [some (.ref 66), some (.int a1), some (.int a2), some (.int a3), some (.int a4)] [] s := by
  intro n
  induction n with
  | zero =>
    intro a3 a4 h
    have h0 : (none : Option Int32) = some r := h
    cases h0
  | succ n hr15 =>
    intro a3 a4 h
    have h : D_X9_isSame_B15 rec2 s a1 a2 (D_X9_isSame_L15 rec2 s a1 a2 n) a3 a4 = some r := h
    unfold D_X9_isSame_B15 at h
    refine zk_iload dX9_isSame_15 rfl ?_
    refine zk_aload_n dX9_isSame_17 rfl rfl ?_
    refine zf_X9_215 rfl dX9_isSame_18 ?_
    refine zk_icmp_ge (tgt := 53) dX9_isSame_21 rfl (fun g21 => ?_) (fun g21 => ?_)
    · replace h := zpos g21 h
      refine zk_iload_n dX9_isSame_53 rfl rfl ?_
      refine zk_iload_n dX9_isSame_54 rfl rfl ?_
      refine zk_icmp_lt (tgt := 62) dX9_isSame_55 rfl (fun g55 => ?_) (fun g55 => ?_)
      · replace h := zpos g55 h
        refine zk_iconst (v := 0) dX9_isSame_62 (by decide) ?_
        refine zk_mask [true, true, true, false, false] ?_
        exact ok_X9_isSame_J63 hj r _ _ _ _ _ hr2 h
      · replace h := zneg g55 h
        refine zk_iconst (v := 1) dX9_isSame_58 (by decide) ?_
        refine zk_goto (tgt := 63) dX9_isSame_59 rfl ?_
        refine zk_mask [true, true, true, false, false] ?_
        exact ok_X9_isSame_J63 hj r _ _ _ _ _ hr2 h
    · replace h := zneg g21 h
      refine zk_iload_n dX9_isSame_24 rfl rfl ?_
      refine zk_iload_n dX9_isSame_25 rfl rfl ?_
      refine zk_iload dX9_isSame_26 rfl ?_
      obtain ⟨p28, h28, h⟩ := zbind h
      refine zc_X9_121 [.int _] (As := [.int _, .int _]) (ok_X9_has hj _ _ _ h28) rfl ⟨Nat.le_of_ble_eq_true rfl, Nat.le_of_ble_eq_true rfl⟩ ⟨Nat.le_refl _, Nat.le_refl _⟩ rfl rfl (Nat.le_of_ble_eq_true rfl) dX9_isSame_28 ?_
      refine zk_if_eq (tgt := 44) dX9_isSame_31 rfl (fun g31 => ?_) (fun g31 => ?_)
      · replace h := zpos g31 h
        refine zk_iconst (v := 0) dX9_isSame_44 (by decide) ?_
        refine zk_mask [true, true, true, false, true] ?_
        exact ok_X9_isSame_J45 hj r _ _ _ _ _ _ _ hr2 _ hr15 h
      · replace h := zneg g31 h
        refine zk_aload_n dX9_isSame_34 rfl rfl ?_
        refine zf_X9_82 rfl dX9_isSame_35 ?_
        refine zk_iload dX9_isSame_38 rfl ?_
        obtain ⟨g40, h⟩ := zguard h
        refine zk_iald (zoI_of rfl g40) dX9_isSame_40 ?_
        refine zk_goto (tgt := 45) dX9_isSame_41 rfl ?_
        refine zk_mask [true, true, true, false, true] ?_
        exact ok_X9_isSame_J45 hj r _ _ _ _ _ _ _ hr2 _ hr15 h
def D_X9_isSame_B2 (s : zS) (a1 : Int32) (rec2 : Int32 → Option Int32) (a2 : Int32) : Option Int32 :=
    (D_X9_allVoters s).bind fun p4 =>
    if p4 < a2 then (
      some (1 : Int32)
    ) else (
      D_X9_isSame_L15 rec2 s a1 a2 zFU (0 : Int32) (0 : Int32)
    )
def D_X9_isSame_L2 (s : zS) (a1 : Int32) (n : Nat) (a2 : Int32) : Option Int32 := zfx (fun (rec : Int32 → Option Int32) q => D_X9_isSame_B2 s a1 (fun v0 => rec (v0)) q) n (a2)
set_option maxRecDepth 100000 in
theorem D_X9_isSame_L2_s (s : zS) (a1 : Int32) (n : Nat) (a2 : Int32) : D_X9_isSame_L2 s a1 (n + 1) a2 = D_X9_isSame_B2 s a1 (D_X9_isSame_L2 s a1 n) a2 := rfl
set_option maxRecDepth 100000 in
theorem ok_X9_isSame_L2 {l : Launch} {D : va_G} {ad : Nat → Nat} {cA : Nat → ClassId} (hj : zInj ad) (r : Int32) (s : zS) (a1 : Int32) : ∀ (n : Nat) (a2 : Int32), D_X9_isSame_L2 s a1 n a2 = some r → zOk l D ad cA (zJm jX9_isSame) (zEnd D ad cA (some (.int r)) s) 2 [some (.ref 66), some (.int a1), some (.int a2), none, none] [] s := by
  intro n
  induction n with
  | zero =>
    intro a2 h
    have h0 : (none : Option Int32) = some r := h
    cases h0
  | succ n hr2 =>
    intro a2 h
    have h : D_X9_isSame_B2 s a1 (D_X9_isSame_L2 s a1 n) a2 = some r := h
    unfold D_X9_isSame_B2 at h
    refine zk_iload_n dX9_isSame_2 rfl rfl ?_
    refine zk_aload_n dX9_isSame_3 rfl rfl ?_
    obtain ⟨p4, h4, h⟩ := zbind h
    refine zc_X9_223 [.int _] (As := []) (ok_X9_allVoters hj _ h4) rfl ⟨Nat.le_of_ble_eq_true rfl, Nat.le_of_ble_eq_true rfl⟩ ⟨Nat.le_refl _, Nat.le_refl _⟩ rfl rfl (Nat.le_of_ble_eq_true rfl) dX9_isSame_4 ?_
    refine zk_icmp_gt (tgt := 79) dX9_isSame_7 rfl (fun g7 => ?_) (fun g7 => ?_)
    · replace h := zpos g7 h
      refine zk_iconst (v := 1) dX9_isSame_79 (by decide) ?_
      have e9 := Option.some.inj h
      subst e9
      exact zk_zret rfl (Or.inr rfl) ⟨rfl, rfl⟩ dX9_isSame_80
    · replace h := zneg g7 h
      refine zk_iconst (v := 0) dX9_isSame_10 (by decide) ?_
      refine zk_istore_n (i := 3) dX9_isSame_11 rfl (by decide) (zk_eq [_, _, _, _, _] rfl ?_)
      refine zk_iconst (v := 0) dX9_isSame_12 (by decide) ?_
      refine zk_istore (i := 4) dX9_isSame_13 (by decide) (zk_eq [_, _, _, _, _] rfl ?_)
      exact ok_X9_isSame_L15 hj r _ _ _ _ hr2 _ _ _ h
def D_X9_isSame (s : zS) (a1 : Int32) : Option Int32 :=
  D_X9_isSame_L2 s a1 zFU (0 : Int32)
set_option maxRecDepth 100000 in
theorem ok_X9_isSame {l : Launch} {D : va_G} {ad : Nat → Nat} {cA : Nat → ClassId} (hj : zInj ad) (s : zS) (a1 : Int32) {r : Int32} (h : D_X9_isSame s a1 = some r) : zMet l D ad cA jX9_isSame [.ref 66, .int a1] s (some (.int r)) s := by
  refine zMet_of jX9_isSame [some (.ref 66), some (.int a1), none, none, none] (by decide +kernel) (Nat.le_of_ble_eq_true rfl) rfl hj ?_
  unfold D_X9_isSame at h
  refine zk_iconst (v := 0) dX9_isSame_0 (by decide) ?_
  refine zk_istore_n (i := 2) dX9_isSame_1 rfl (by decide) (zk_eq [_, _, _, _, _] rfl ?_)
  exact ok_X9_isSame_L2 hj r _ _ _ _ h
def D_X9_isUser (s : zS) (a1 : Int32) : Option Int32 :=
  (D_X9_in a1.toInt64 (0 : Int64) (((s.1 66 14) - (1 : Int32)).toInt64)).bind fun p10 =>
  zgd (p10 = 0 ∨ p10 = 1) <|
  some p10
set_option maxRecDepth 100000 in
theorem ok_X9_isUser {l : Launch} {D : va_G} {ad : Nat → Nat} {cA : Nat → ClassId} (hj : zInj ad) (s : zS) (a1 : Int32) {r : Int32} (h : D_X9_isUser s a1 = some r) : zMet l D ad cA jX9_isUser [.ref 66, .int a1] s (some (.int r)) s := by
  refine zMet_of jX9_isUser [some (.ref 66), some (.int a1)] (by decide +kernel) (Nat.le_of_ble_eq_true rfl) rfl hj ?_
  unfold D_X9_isUser at h
  refine zk_iload_n dX9_isUser_0 rfl rfl ?_
  refine zk_i2l dX9_isUser_1 ?_
  refine zk_lconst (v := 0) dX9_isUser_2 (by decide) ?_
  refine zk_aload_n dX9_isUser_3 rfl rfl ?_
  refine zf_X9_274 rfl dX9_isUser_4 ?_
  refine zk_iconst (v := 1) dX9_isUser_7 (by decide) ?_
  refine zk_isub dX9_isUser_8 ?_
  refine zk_i2l dX9_isUser_9 ?_
  obtain ⟨p10, h10, h⟩ := zbind h
  refine zc_X9_92 [] (As := [.long _, .long _, .long _]) (ok_X9_in hj _ _ _ _ h10) rfl ⟨Nat.le_of_ble_eq_true rfl, Nat.le_of_ble_eq_true rfl⟩ ⟨Nat.le_refl _, Nat.le_refl _⟩ rfl rfl (Nat.le_of_ble_eq_true rfl) dX9_isUser_10 ?_
  obtain ⟨hx13, h⟩ := zguard h
  have e9 := Option.some.inj h
  subst e9
  exact zk_zret rfl hx13 ⟨rfl, rfl⟩ dX9_isUser_13
def D_X9_layPay_B361 (rec42 : Int32 → zS → Option zS) (a1 : Int32) (a2 : Int32) (rec361 : Int32 → zS → Option zS) (a9 : Int32) (s : zS) : Option zS :=
    if (s.1 66 0) ≤ a9 then (
      rec42 a2 s
    ) else (
      zgd (zin (a9 - (1 : Int32)) 5 = true) <|
      zgd (zin a9 5 = true) <|
      let s387 : zS := zwI s 84 a9.toNatClampNeg ((s.1 84 (a9 - (1 : Int32)).toNatClampNeg) + (1 : Int32))
      rec361 (a9 + 1) s387
    )
def D_X9_layPay_L361 (rec42 : Int32 → zS → Option zS) (a1 : Int32) (a2 : Int32) (n : Nat) (a9 : Int32) (s : zS) : Option zS := zfx (fun (rec : Int32 × zS → Option zS) q => D_X9_layPay_B361 rec42 a1 a2 (fun v0 v1 => rec (v0, v1)) q.1 q.2) n (a9, s)
set_option maxRecDepth 100000 in
theorem D_X9_layPay_L361_s (rec42 : Int32 → zS → Option zS) (a1 : Int32) (a2 : Int32) (n : Nat) (a9 : Int32) (s : zS) : D_X9_layPay_L361 rec42 a1 a2 (n + 1) a9 s = D_X9_layPay_B361 rec42 a1 a2 (D_X9_layPay_L361 rec42 a1 a2 n) a9 s := rfl
set_option maxRecDepth 100000 in
theorem ok_X9_layPay_L361 {l : Launch} {D : va_G} {ad : Nat → Nat} {cA : Nat → ClassId} (hj : zInj ad) (r : zS) (a1 : Int32) (a2 : Int32) (rec42 : Int32 → zS → Option zS) (hr42 : ∀ (b2 : Int32) (s : zS), rec42 b2 s = some r → zOk l D ad cA (zJm jX9_layPay) (zEnd D ad cA none r) 42 [some (.ref 66), some (.int a1), some (.int b2), none, none, none, none, none, none, none, none, none, none] [] s) : ∀ (n : Nat) (a9 : Int32) (s : zS), D_X9_layPay_L361 rec42 a1 a2 n a9 s = some r → zOk l D ad cA (zJm jX9_layPay) (zEnd D ad cA none r) 361 [some (.ref 66), some (.int a1), some (.int a2), none, none, none, none, none, none, some (.int a9), none, none, none] [] s := by
  intro n
  induction n with
  | zero =>
    intro a9 s h
    have h0 : (none : Option zS) = some r := h
    cases h0
  | succ n hr361 =>
    intro a9 s h
    have h : D_X9_layPay_B361 rec42 a1 a2 (D_X9_layPay_L361 rec42 a1 a2 n) a9 s = some r := h
    unfold D_X9_layPay_B361 at h
    refine zk_iload dX9_layPay_361 rfl ?_
    refine zk_aload_n dX9_layPay_363 rfl rfl ?_
    refine zf_X9_7 rfl dX9_layPay_364 ?_
    refine zk_icmp_ge (tgt := 394) dX9_layPay_367 rfl (fun g367 => ?_) (fun g367 => ?_)
    · replace h := zpos g367 h
      refine zk_goto (tgt := 42) dX9_layPay_394 rfl ?_
      refine zk_mask [true, true, true, false, false, false, false, false, false, false, false, false, false] ?_
      exact hr42 _ _ h
    · replace h := zneg g367 h
      refine zk_aload_n dX9_layPay_370 rfl rfl ?_
      refine zf_X9_76 rfl dX9_layPay_371 ?_
      refine zk_iload dX9_layPay_374 rfl ?_
      refine zk_aload_n dX9_layPay_376 rfl rfl ?_
      refine zf_X9_76 rfl dX9_layPay_377 ?_
      refine zk_iload dX9_layPay_380 rfl ?_
      refine zk_iconst (v := 1) dX9_layPay_382 (by decide) ?_
      refine zk_isub dX9_layPay_383 ?_
      obtain ⟨g384, h⟩ := zguard h
      refine zk_iald (zoI_of rfl g384) dX9_layPay_384 ?_
      refine zk_iconst (v := 1) dX9_layPay_385 (by decide) ?_
      refine zk_iadd dX9_layPay_386 ?_
      obtain ⟨g387, h⟩ := zguard h
      refine zk_iast (zoI_of rfl g387) dX9_layPay_387 ?_
      refine zk_iinc dX9_layPay_388 rfl (zinc (m := 1) (by decide)) (by decide) (zk_eq [_, _, _, _, _, _, _, _, _, _, _, _, _] rfl ?_)
      refine zk_goto (tgt := 361) dX9_layPay_391 rfl ?_
      exact hr361 _ _ h
def D_X9_layPay_J339 (rec42 : Int32 → zS → Option zS) (s : zS) (a1 : Int32) (a8 : Int32) (k0 : Int32) : Option zS :=
  if k0 = 0 then (
    rec42 k0 s
  ) else (
    zgd (zin a8 5 = true) <|
    zgd (zin a8 5 = true) <|
    let s354 : zS := zwI s 84 a8.toNatClampNeg ((s.1 84 a8.toNatClampNeg) + (1 : Int32))
    D_X9_layPay_L361 rec42 a1 k0 zFU (a8 + (1 : Int32)) s354
  )
set_option maxRecDepth 100000 in
theorem ok_X9_layPay_J339 {l : Launch} {D : va_G} {ad : Nat → Nat} {cA : Nat → ClassId} (hj : zInj ad) (r : zS) (s : zS) (a1 : Int32) (a8 : Int32) (k0 : Int32) (rec42 : Int32 → zS → Option zS) (hr42 : ∀ (b2 : Int32) (s : zS), rec42 b2 s = some r → zOk l D ad cA (zJm jX9_layPay) (zEnd D ad cA none r) 42 [some (.ref 66), some (.int a1), some (.int b2), none, none, none, none, none, none, none, none, none, none] [] s) (h : D_X9_layPay_J339 rec42 s a1 a8 k0 = some r) : zOk l D ad cA (zJm jX9_layPay) (zEnd D ad cA none r) 339 [some (.ref 66), some (.int a1), none, none, none, none, none, none, some (.int a8), none, none, none, none] [.int k0] s := by
  unfold D_X9_layPay_J339 at h
  refine zk_istore_n (i := 2) dX9_layPay_339 rfl (by decide) (zk_eq [_, _, _, _, _, _, _, _, _, _, _, _, _] rfl ?_)
  refine zk_iload_n dX9_layPay_340 rfl rfl ?_
  refine zk_if_eq (tgt := 394) dX9_layPay_341 rfl (fun g341 => ?_) (fun g341 => ?_)
  · replace h := zpos g341 h
    refine zk_goto (tgt := 42) dX9_layPay_394 rfl ?_
    refine zk_mask [true, true, true, false, false, false, false, false, false, false, false, false, false] ?_
    exact hr42 _ _ h
  · replace h := zneg g341 h
    refine zk_aload_n dX9_layPay_344 rfl rfl ?_
    refine zf_X9_76 rfl dX9_layPay_345 ?_
    refine zk_iload dX9_layPay_348 rfl ?_
    refine zk_dup2 dX9_layPay_350 rfl rfl ?_
    obtain ⟨g351, h⟩ := zguard h
    refine zk_iald (zoI_of rfl g351) dX9_layPay_351 ?_
    refine zk_iconst (v := 1) dX9_layPay_352 (by decide) ?_
    refine zk_iadd dX9_layPay_353 ?_
    obtain ⟨g354, h⟩ := zguard h
    refine zk_iast (zoI_of rfl g354) dX9_layPay_354 ?_
    refine zk_iload dX9_layPay_355 rfl ?_
    refine zk_iconst (v := 1) dX9_layPay_357 (by decide) ?_
    refine zk_iadd dX9_layPay_358 ?_
    refine zk_istore (i := 9) dX9_layPay_359 (by decide) (zk_eq [_, _, _, _, _, _, _, _, _, _, _, _, _] rfl ?_)
    refine zk_mask [true, true, true, false, false, false, false, false, false, true, false, false, false] ?_
    exact ok_X9_layPay_L361 hj r _ _ _ hr42 _ _ _ h
def D_X9_layPay_J329 (rec42 : Int32 → zS → Option zS) (s : zS) (a1 : Int32) (a8 : Int32) : Option zS :=
  if a8 < 0 then (
    D_X9_layPay_J339 rec42 s a1 a8 (0 : Int32)
  ) else (
    D_X9_layPay_J339 rec42 s a1 a8 (1 : Int32)
  )
set_option maxRecDepth 100000 in
theorem ok_X9_layPay_J329 {l : Launch} {D : va_G} {ad : Nat → Nat} {cA : Nat → ClassId} (hj : zInj ad) (r : zS) (s : zS) (a1 : Int32) (a8 : Int32) (rec42 : Int32 → zS → Option zS) (hr42 : ∀ (b2 : Int32) (s : zS), rec42 b2 s = some r → zOk l D ad cA (zJm jX9_layPay) (zEnd D ad cA none r) 42 [some (.ref 66), some (.int a1), some (.int b2), none, none, none, none, none, none, none, none, none, none] [] s) (h : D_X9_layPay_J329 rec42 s a1 a8 = some r) : zOk l D ad cA (zJm jX9_layPay) (zEnd D ad cA none r) 329 [some (.ref 66), some (.int a1), none, none, none, none, none, none, some (.int a8), none, none, none, none] [] s := by
  unfold D_X9_layPay_J329 at h
  refine zk_iload dX9_layPay_329 rfl ?_
  refine zk_if_lt (tgt := 338) dX9_layPay_331 rfl (fun g331 => ?_) (fun g331 => ?_)
  · replace h := zpos g331 h
    refine zk_iconst (v := 0) dX9_layPay_338 (by decide) ?_
    exact ok_X9_layPay_J339 hj r _ _ _ _ _ hr42 h
  · replace h := zneg g331 h
    refine zk_iconst (v := 1) dX9_layPay_334 (by decide) ?_
    refine zk_goto (tgt := 339) dX9_layPay_335 rfl ?_
    exact ok_X9_layPay_J339 hj r _ _ _ _ _ hr42 h
def D_X9_layPay_B297 (rec42 : Int32 → zS → Option zS) (s : zS) (a1 : Int32) (rec297 : Int32 → Option zS) (a8 : Int32) : Option zS :=
    if a8 < 0 then (
      D_X9_layPay_J329 rec42 s a1 a8
    ) else (
      zgd (zin a8 5 = true) <|
      if (s.1 84 a8.toNatClampNeg) = (((a1 - (s.1 66 0)) + a8) + (1 : Int32)) then (
        rec297 (a8 + -1)
      ) else (
        D_X9_layPay_J329 rec42 s a1 a8
      )
    )
def D_X9_layPay_L297 (rec42 : Int32 → zS → Option zS) (s : zS) (a1 : Int32) (n : Nat) (a8 : Int32) : Option zS := zfx (fun (rec : Int32 → Option zS) q => D_X9_layPay_B297 rec42 s a1 (fun v0 => rec (v0)) q) n (a8)
set_option maxRecDepth 100000 in
theorem D_X9_layPay_L297_s (rec42 : Int32 → zS → Option zS) (s : zS) (a1 : Int32) (n : Nat) (a8 : Int32) : D_X9_layPay_L297 rec42 s a1 (n + 1) a8 = D_X9_layPay_B297 rec42 s a1 (D_X9_layPay_L297 rec42 s a1 n) a8 := rfl
set_option maxRecDepth 100000 in
theorem ok_X9_layPay_L297 {l : Launch} {D : va_G} {ad : Nat → Nat} {cA : Nat → ClassId} (hj : zInj ad) (r : zS) (s : zS) (a1 : Int32) (rec42 : Int32 → zS → Option zS) (hr42 : ∀ (b2 : Int32) (s : zS), rec42 b2 s = some r → zOk l D ad cA (zJm jX9_layPay) (zEnd D ad cA none r) 42 [some (.ref 66), some (.int a1), some (.int b2), none, none, none, none, none, none, none, none, none, none] [] s) : ∀ (n : Nat) (a8 : Int32), D_X9_layPay_L297 rec42 s a1 n a8 = some r → zOk l D ad cA (zJm jX9_layPay) (zEnd D ad cA none r) 297 [some (.ref 66), some (.int a1), none, none, none, none, none, none, some (.int a8), none, none, none, none] [] s := by
  intro n
  induction n with
  | zero =>
    intro a8 h
    have h0 : (none : Option zS) = some r := h
    cases h0
  | succ n hr297 =>
    intro a8 h
    have h : D_X9_layPay_B297 rec42 s a1 (D_X9_layPay_L297 rec42 s a1 n) a8 = some r := h
    unfold D_X9_layPay_B297 at h
    refine zk_iload dX9_layPay_297 rfl ?_
    refine zk_if_lt (tgt := 329) dX9_layPay_299 rfl (fun g299 => ?_) (fun g299 => ?_)
    · replace h := zpos g299 h
      exact ok_X9_layPay_J329 hj r _ _ _ _ hr42 h
    · replace h := zneg g299 h
      refine zk_aload_n dX9_layPay_302 rfl rfl ?_
      refine zf_X9_76 rfl dX9_layPay_303 ?_
      refine zk_iload dX9_layPay_306 rfl ?_
      obtain ⟨g308, h⟩ := zguard h
      refine zk_iald (zoI_of rfl g308) dX9_layPay_308 ?_
      refine zk_iload_n dX9_layPay_309 rfl rfl ?_
      refine zk_aload_n dX9_layPay_310 rfl rfl ?_
      refine zf_X9_7 rfl dX9_layPay_311 ?_
      refine zk_isub dX9_layPay_314 ?_
      refine zk_iload dX9_layPay_315 rfl ?_
      refine zk_iadd dX9_layPay_317 ?_
      refine zk_iconst (v := 1) dX9_layPay_318 (by decide) ?_
      refine zk_iadd dX9_layPay_319 ?_
      refine zk_icmp_ne (tgt := 329) dX9_layPay_320 rfl (fun g320 => ?_) (fun g320 => ?_)
      · replace h := zneg g320 h
        exact ok_X9_layPay_J329 hj r _ _ _ _ hr42 h
      · replace h := zpos g320 h
        refine zk_iinc dX9_layPay_323 rfl (zinc (m := -1) (by decide)) (by decide) (zk_eq [_, _, _, _, _, _, _, _, _, _, _, _, _] rfl ?_)
        refine zk_goto (tgt := 297) dX9_layPay_326 rfl ?_
        exact hr297 _ h
def D_X9_layPay_J289 (rec42 : Int32 → zS → Option zS) (s : zS) (a1 : Int32) : Option zS :=
  D_X9_layPay_L297 rec42 s a1 zFU ((s.1 66 0) - (1 : Int32))
set_option maxRecDepth 100000 in
theorem ok_X9_layPay_J289 {l : Launch} {D : va_G} {ad : Nat → Nat} {cA : Nat → ClassId} (hj : zInj ad) (r : zS) (s : zS) (a1 : Int32) (rec42 : Int32 → zS → Option zS) (hr42 : ∀ (b2 : Int32) (s : zS), rec42 b2 s = some r → zOk l D ad cA (zJm jX9_layPay) (zEnd D ad cA none r) 42 [some (.ref 66), some (.int a1), some (.int b2), none, none, none, none, none, none, none, none, none, none] [] s) (h : D_X9_layPay_J289 rec42 s a1 = some r) : zOk l D ad cA (zJm jX9_layPay) (zEnd D ad cA none r) 289 [some (.ref 66), some (.int a1), none, none, none, none, none, none, none, none, none, none, none] [] s := by
  unfold D_X9_layPay_J289 at h
  refine zk_aload_n dX9_layPay_289 rfl rfl ?_
  refine zf_X9_7 rfl dX9_layPay_290 ?_
  refine zk_iconst (v := 1) dX9_layPay_293 (by decide) ?_
  refine zk_isub dX9_layPay_294 ?_
  refine zk_istore (i := 8) dX9_layPay_295 (by decide) (zk_eq [_, _, _, _, _, _, _, _, _, _, _, _, _] rfl ?_)
  exact ok_X9_layPay_L297 hj r _ _ _ hr42 _ _ h
def D_X9_layPay_J262 (rec42 : Int32 → zS → Option zS) (s : zS) (a1 : Int32) (a4 : Int64) (a6 : Int64) : Option zS :=
  (D_X9_common a4 a6).bind fun p266 =>
  if p266 = 0 then none else
  let s277 : zS := zwL s 66 33 (a4 / p266)
  if p266 = 0 then none else
  let s286 : zS := zwL s277 66 34 (a6 / p266)
  D_X9_layPay_J289 rec42 s286 a1
set_option maxRecDepth 100000 in
theorem ok_X9_layPay_J262 {l : Launch} {D : va_G} {ad : Nat → Nat} {cA : Nat → ClassId} (hj : zInj ad) (r : zS) (s : zS) (a1 : Int32) (a4 : Int64) (a6 : Int64) (rec42 : Int32 → zS → Option zS) (hr42 : ∀ (b2 : Int32) (s : zS), rec42 b2 s = some r → zOk l D ad cA (zJm jX9_layPay) (zEnd D ad cA none r) 42 [some (.ref 66), some (.int a1), some (.int b2), none, none, none, none, none, none, none, none, none, none] [] s) (h : D_X9_layPay_J262 rec42 s a1 a4 a6 = some r) : zOk l D ad cA (zJm jX9_layPay) (zEnd D ad cA none r) 262 [some (.ref 66), some (.int a1), none, none, some (.long a4), none, some (.long a6), none, none, none, none, none, none] [] s := by
  unfold D_X9_layPay_J262 at h
  refine zk_lload dX9_layPay_262 rfl ?_
  refine zk_lload dX9_layPay_264 rfl ?_
  obtain ⟨p266, h266, h⟩ := zbind h
  refine zc_X9_96 [] (As := [.long _, .long _]) (ok_X9_common hj _ _ _ h266) rfl ⟨Nat.le_of_ble_eq_true rfl, Nat.le_of_ble_eq_true rfl⟩ ⟨Nat.le_refl _, Nat.le_refl _⟩ rfl rfl (Nat.le_of_ble_eq_true rfl) dX9_layPay_266 ?_
  refine zk_lstore (i := 8) dX9_layPay_269 (by decide) (zk_eq [_, _, _, _, _, _, _, _, _, _, _, _, _] rfl ?_)
  refine zk_aload_n dX9_layPay_271 rfl rfl ?_
  refine zk_lload dX9_layPay_272 rfl ?_
  refine zk_lload dX9_layPay_274 rfl ?_
  obtain ⟨g276, h⟩ := zguardn h
  refine zk_ldiv dX9_layPay_276 g276 ?_
  refine zp_X9_173 rfl dX9_layPay_277 ?_
  refine zk_aload_n dX9_layPay_280 rfl rfl ?_
  refine zk_lload dX9_layPay_281 rfl ?_
  refine zk_lload dX9_layPay_283 rfl ?_
  obtain ⟨g285, h⟩ := zguardn h
  refine zk_ldiv dX9_layPay_285 g285 ?_
  refine zp_X9_170 rfl dX9_layPay_286 ?_
  refine zk_mask [true, true, false, false, false, false, false, false, false, false, false, false, false] ?_
  exact ok_X9_layPay_J289 hj r _ _ _ hr42 h
def D_X9_layPay_J231 (rec42 : Int32 → zS → Option zS) (s : zS) (a1 : Int32) (a3 : Int32) (a4 : Int64) (a6 : Int64) : Option zS :=
  if a3 = 0 then (
    D_X9_layPay_J289 rec42 s a1
  ) else (
    if (lg_cmp (s.2 66 34) (0 : Int64)) = 0 then (
      D_X9_layPay_J262 rec42 s a1 a4 a6
    ) else (
      if (lg_cmp (a4 * (s.2 66 34)) ((s.2 66 33) * a6)) ≤ 0 then (
        D_X9_layPay_J289 rec42 s a1
      ) else (
        D_X9_layPay_J262 rec42 s a1 a4 a6
      )
    )
  )
set_option maxRecDepth 100000 in
theorem ok_X9_layPay_J231 {l : Launch} {D : va_G} {ad : Nat → Nat} {cA : Nat → ClassId} (hj : zInj ad) (r : zS) (s : zS) (a1 : Int32) (a3 : Int32) (a4 : Int64) (a6 : Int64) (rec42 : Int32 → zS → Option zS) (hr42 : ∀ (b2 : Int32) (s : zS), rec42 b2 s = some r → zOk l D ad cA (zJm jX9_layPay) (zEnd D ad cA none r) 42 [some (.ref 66), some (.int a1), some (.int b2), none, none, none, none, none, none, none, none, none, none] [] s) (h : D_X9_layPay_J231 rec42 s a1 a3 a4 a6 = some r) : zOk l D ad cA (zJm jX9_layPay) (zEnd D ad cA none r) 231 [some (.ref 66), some (.int a1), none, some (.int a3), some (.long a4), none, some (.long a6), none, none, none, none, none, none] [] s := by
  unfold D_X9_layPay_J231 at h
  refine zk_iload_n dX9_layPay_231 rfl rfl ?_
  refine zk_if_eq (tgt := 289) dX9_layPay_232 rfl (fun g232 => ?_) (fun g232 => ?_)
  · replace h := zpos g232 h
    refine zk_mask [true, true, false, false, false, false, false, false, false, false, false, false, false] ?_
    exact ok_X9_layPay_J289 hj r _ _ _ hr42 h
  · replace h := zneg g232 h
    refine zk_aload_n dX9_layPay_235 rfl rfl ?_
    refine zf_X9_170 rfl dX9_layPay_236 ?_
    refine zk_lconst (v := 0) dX9_layPay_239 (by decide) ?_
    refine zk_lcmp dX9_layPay_240 ?_
    refine zk_if_eq (tgt := 262) dX9_layPay_241 rfl (fun g241 => ?_) (fun g241 => ?_)
    · replace h := zpos g241 h
      refine zk_mask [true, true, false, false, true, false, true, false, false, false, false, false, false] ?_
      exact ok_X9_layPay_J262 hj r _ _ _ _ _ hr42 h
    · replace h := zneg g241 h
      refine zk_lload dX9_layPay_244 rfl ?_
      refine zk_aload_n dX9_layPay_246 rfl rfl ?_
      refine zf_X9_170 rfl dX9_layPay_247 ?_
      refine zk_lmul dX9_layPay_250 ?_
      refine zk_aload_n dX9_layPay_251 rfl rfl ?_
      refine zf_X9_173 rfl dX9_layPay_252 ?_
      refine zk_lload dX9_layPay_255 rfl ?_
      refine zk_lmul dX9_layPay_257 ?_
      refine zk_lcmp dX9_layPay_258 ?_
      refine zk_if_le (tgt := 289) dX9_layPay_259 rfl (fun g259 => ?_) (fun g259 => ?_)
      · replace h := zpos g259 h
        refine zk_mask [true, true, false, false, false, false, false, false, false, false, false, false, false] ?_
        exact ok_X9_layPay_J289 hj r _ _ _ hr42 h
      · replace h := zneg g259 h
        refine zk_mask [true, true, false, false, true, false, true, false, false, false, false, false, false] ?_
        exact ok_X9_layPay_J262 hj r _ _ _ _ _ hr42 h
def D_X9_layPay_J190 (rec42 : Int32 → zS → Option zS) (rec137 : Int32 → Int64 → Int64 → Int32 → Option zS) (s : zS) (a1 : Int32) (a4 : Int64) (a6 : Int64) (a8 : Int32) (a9 : Int64) (a11 : Int64) (k0 : Int32) : Option zS :=
  zgd (zin a8 5 = true) <|
  zgd (zin (s.1 84 a8.toNatClampNeg) 16 = true) <|
  rec137 k0 ((a4 * a11) + (((s.1 67 (s.1 84 a8.toNatClampNeg).toNatClampNeg).toInt64 * a9) * a6)) (a6 * a11) (a8 + 1)
set_option maxRecDepth 100000 in
theorem ok_X9_layPay_J190 {l : Launch} {D : va_G} {ad : Nat → Nat} {cA : Nat → ClassId} (hj : zInj ad) (r : zS) (s : zS) (a1 : Int32) (a4 : Int64) (a6 : Int64) (a8 : Int32) (a9 : Int64) (a11 : Int64) (k0 : Int32) (rec42 : Int32 → zS → Option zS) (hr42 : ∀ (b2 : Int32) (s : zS), rec42 b2 s = some r → zOk l D ad cA (zJm jX9_layPay) (zEnd D ad cA none r) 42 [some (.ref 66), some (.int a1), some (.int b2), none, none, none, none, none, none, none, none, none, none] [] s) (rec137 : Int32 → Int64 → Int64 → Int32 → Option zS) (hr137 : ∀ (b3 : Int32) (b4 : Int64) (b6 : Int64) (b8 : Int32), rec137 b3 b4 b6 b8 = some r → zOk l D ad cA (zJm jX9_layPay) (zEnd D ad cA none r) 137 [some (.ref 66), some (.int a1), none, some (.int b3), some (.long b4), none, some (.long b6), none, some (.int b8), none, none, none, none] [] s) (h : D_X9_layPay_J190 rec42 rec137 s a1 a4 a6 a8 a9 a11 k0 = some r) : zOk l D ad cA (zJm jX9_layPay) (zEnd D ad cA none r) 190 [some (.ref 66), some (.int a1), none, none, some (.long a4), none, some (.long a6), none, some (.int a8), some (.long a9), none, some (.long a11), none] [.int k0] s := by
  unfold D_X9_layPay_J190 at h
  refine zk_istore_n (i := 3) dX9_layPay_190 rfl (by decide) (zk_eq [_, _, _, _, _, _, _, _, _, _, _, _, _] rfl ?_)
  refine zk_lload dX9_layPay_191 rfl ?_
  refine zk_lload dX9_layPay_193 rfl ?_
  refine zk_lmul dX9_layPay_195 ?_
  refine zk_aload_n dX9_layPay_196 rfl rfl ?_
  refine zf_X9_13 rfl dX9_layPay_197 ?_
  refine zk_aload_n dX9_layPay_200 rfl rfl ?_
  refine zf_X9_76 rfl dX9_layPay_201 ?_
  refine zk_iload dX9_layPay_204 rfl ?_
  obtain ⟨g206, h⟩ := zguard h
  refine zk_iald (zoI_of rfl g206) dX9_layPay_206 ?_
  obtain ⟨g207, h⟩ := zguard h
  refine zk_iald (zoI_of rfl g207) dX9_layPay_207 ?_
  refine zk_i2l dX9_layPay_208 ?_
  refine zk_lload dX9_layPay_209 rfl ?_
  refine zk_lmul dX9_layPay_211 ?_
  refine zk_lload dX9_layPay_212 rfl ?_
  refine zk_lmul dX9_layPay_214 ?_
  refine zk_ladd dX9_layPay_215 ?_
  refine zk_lstore (i := 4) dX9_layPay_216 (by decide) (zk_eq [_, _, _, _, _, _, _, _, _, _, _, _, _] rfl ?_)
  refine zk_lload dX9_layPay_218 rfl ?_
  refine zk_lload dX9_layPay_220 rfl ?_
  refine zk_lmul dX9_layPay_222 ?_
  refine zk_lstore (i := 6) dX9_layPay_223 (by decide) (zk_eq [_, _, _, _, _, _, _, _, _, _, _, _, _] rfl ?_)
  refine zk_iinc dX9_layPay_225 rfl (zinc (m := 1) (by decide)) (by decide) (zk_eq [_, _, _, _, _, _, _, _, _, _, _, _, _] rfl ?_)
  refine zk_goto (tgt := 137) dX9_layPay_228 rfl ?_
  refine zk_mask [true, true, false, true, true, false, true, false, true, false, false, false, false] ?_
  exact hr137 _ _ _ _ h
def D_X9_layPay_B137 (rec42 : Int32 → zS → Option zS) (s : zS) (a1 : Int32) (rec137 : Int32 → Int64 → Int64 → Int32 → Option zS) (a3 : Int32) (a4 : Int64) (a6 : Int64) (a8 : Int32) : Option zS :=
    if (s.1 66 0) ≤ a8 then (
      D_X9_layPay_J231 rec42 s a1 a3 a4 a6
    ) else (
      if a3 = 0 then (
        D_X9_layPay_J231 rec42 s a1 a3 a4 a6
      ) else (
        zgd (zin (((6 : Int32) * a8) + (5 : Int32)) 30 = true) <|
        zgd (zin (((6 : Int32) * a8) + (5 : Int32)) 30 = true) <|
        if (lg_cmp (s.2 77 (((6 : Int32) * a8) + (5 : Int32)).toNatClampNeg) (0 : Int64)) < 0 then (
          D_X9_layPay_J190 rec42 rec137 s a1 a4 a6 a8 (s.2 77 (((6 : Int32) * a8) + (5 : Int32)).toNatClampNeg) (s.2 78 (((6 : Int32) * a8) + (5 : Int32)).toNatClampNeg) (0 : Int32)
        ) else (
          D_X9_layPay_J190 rec42 rec137 s a1 a4 a6 a8 (s.2 77 (((6 : Int32) * a8) + (5 : Int32)).toNatClampNeg) (s.2 78 (((6 : Int32) * a8) + (5 : Int32)).toNatClampNeg) (1 : Int32)
        )
      )
    )
def D_X9_layPay_L137 (rec42 : Int32 → zS → Option zS) (s : zS) (a1 : Int32) (n : Nat) (a3 : Int32) (a4 : Int64) (a6 : Int64) (a8 : Int32) : Option zS := zfx (fun (rec : Int32 × Int64 × Int64 × Int32 → Option zS) q => D_X9_layPay_B137 rec42 s a1 (fun v0 v1 v2 v3 => rec (v0, v1, v2, v3)) q.1 q.2.1 q.2.2.1 q.2.2.2) n (a3, a4, a6, a8)
set_option maxRecDepth 100000 in
theorem D_X9_layPay_L137_s (rec42 : Int32 → zS → Option zS) (s : zS) (a1 : Int32) (n : Nat) (a3 : Int32) (a4 : Int64) (a6 : Int64) (a8 : Int32) : D_X9_layPay_L137 rec42 s a1 (n + 1) a3 a4 a6 a8 = D_X9_layPay_B137 rec42 s a1 (D_X9_layPay_L137 rec42 s a1 n) a3 a4 a6 a8 := rfl
set_option maxRecDepth 100000 in
theorem ok_X9_layPay_L137 {l : Launch} {D : va_G} {ad : Nat → Nat} {cA : Nat → ClassId} (hj : zInj ad) (r : zS) (s : zS) (a1 : Int32) (rec42 : Int32 → zS → Option zS) (hr42 : ∀ (b2 : Int32) (s : zS), rec42 b2 s = some r → zOk l D ad cA (zJm jX9_layPay) (zEnd D ad cA none r) 42 [some (.ref 66), some (.int a1), some (.int b2), none, none, none, none, none, none, none, none, none, none] [] s) : ∀ (n : Nat) (a3 : Int32) (a4 : Int64) (a6 : Int64) (a8 : Int32), D_X9_layPay_L137 rec42 s a1 n a3 a4 a6 a8 = some r → zOk l D ad cA (zJm jX9_layPay) (zEnd D ad cA none r) 137 [some (.ref 66), some (.int a1), none, some (.int a3), some (.long a4), none, some (.long a6), none, some (.int a8), none, none, none, none] [] s := by
  intro n
  induction n with
  | zero =>
    intro a3 a4 a6 a8 h
    have h0 : (none : Option zS) = some r := h
    cases h0
  | succ n hr137 =>
    intro a3 a4 a6 a8 h
    have h : D_X9_layPay_B137 rec42 s a1 (D_X9_layPay_L137 rec42 s a1 n) a3 a4 a6 a8 = some r := h
    unfold D_X9_layPay_B137 at h
    refine zk_iload dX9_layPay_137 rfl ?_
    refine zk_aload_n dX9_layPay_139 rfl rfl ?_
    refine zf_X9_7 rfl dX9_layPay_140 ?_
    refine zk_icmp_ge (tgt := 231) dX9_layPay_143 rfl (fun g143 => ?_) (fun g143 => ?_)
    · replace h := zpos g143 h
      refine zk_mask [true, true, false, true, true, false, true, false, false, false, false, false, false] ?_
      exact ok_X9_layPay_J231 hj r _ _ _ _ _ _ hr42 h
    · replace h := zneg g143 h
      refine zk_iload_n dX9_layPay_146 rfl rfl ?_
      refine zk_if_eq (tgt := 231) dX9_layPay_147 rfl (fun g147 => ?_) (fun g147 => ?_)
      · replace h := zpos g147 h
        refine zk_mask [true, true, false, true, true, false, true, false, false, false, false, false, false] ?_
        exact ok_X9_layPay_J231 hj r _ _ _ _ _ _ hr42 h
      · replace h := zneg g147 h
        refine zk_aload_n dX9_layPay_150 rfl rfl ?_
        refine zf_X9_54 rfl dX9_layPay_151 ?_
        refine zk_bipush (v := 6) dX9_layPay_154 (by decide) ?_
        refine zk_iload dX9_layPay_156 rfl ?_
        refine zk_imul dX9_layPay_158 ?_
        refine zk_iconst (v := 5) dX9_layPay_159 (by decide) ?_
        refine zk_iadd dX9_layPay_160 ?_
        obtain ⟨g161, h⟩ := zguard h
        refine zk_lald (zoL_of rfl g161) dX9_layPay_161 ?_
        refine zk_lstore (i := 9) dX9_layPay_162 (by decide) (zk_eq [_, _, _, _, _, _, _, _, _, _, _, _, _] rfl ?_)
        refine zk_aload_n dX9_layPay_164 rfl rfl ?_
        refine zf_X9_58 rfl dX9_layPay_165 ?_
        refine zk_bipush (v := 6) dX9_layPay_168 (by decide) ?_
        refine zk_iload dX9_layPay_170 rfl ?_
        refine zk_imul dX9_layPay_172 ?_
        refine zk_iconst (v := 5) dX9_layPay_173 (by decide) ?_
        refine zk_iadd dX9_layPay_174 ?_
        obtain ⟨g175, h⟩ := zguard h
        refine zk_lald (zoL_of rfl g175) dX9_layPay_175 ?_
        refine zk_lstore (i := 11) dX9_layPay_176 (by decide) (zk_eq [_, _, _, _, _, _, _, _, _, _, _, _, _] rfl ?_)
        refine zk_lload dX9_layPay_178 rfl ?_
        refine zk_lconst (v := 0) dX9_layPay_180 (by decide) ?_
        refine zk_lcmp dX9_layPay_181 ?_
        refine zk_if_lt (tgt := 189) dX9_layPay_182 rfl (fun g182 => ?_) (fun g182 => ?_)
        · replace h := zpos g182 h
          refine zk_iconst (v := 0) dX9_layPay_189 (by decide) ?_
          refine zk_mask [true, true, false, false, true, false, true, false, true, true, false, true, false] ?_
          exact ok_X9_layPay_J190 hj r _ _ _ _ _ _ _ _ _ hr42 _ hr137 h
        · replace h := zneg g182 h
          refine zk_iconst (v := 1) dX9_layPay_185 (by decide) ?_
          refine zk_goto (tgt := 190) dX9_layPay_186 rfl ?_
          refine zk_mask [true, true, false, false, true, false, true, false, true, true, false, true, false] ?_
          exact ok_X9_layPay_J190 hj r _ _ _ _ _ _ _ _ _ hr42 _ hr137 h
def D_X9_layPay_J95 (rec42 : Int32 → zS → Option zS) (rec52 : Int32 → zS → Option zS) (rec63 : Int32 → zS → Option zS) (s : zS) (a1 : Int32) (a3 : Int32) (a4 : Int32) (k1 : Int32) (k2 : Int32) (k3 : Int64) : Option zS :=
  (D_X9_put s k1 k2 k3 (1 : Int64)).bind fun p96 =>
  rec63 (a4 + 1) p96
set_option maxRecDepth 100000 in
theorem ok_X9_layPay_J95 {l : Launch} {D : va_G} {ad : Nat → Nat} {cA : Nat → ClassId} (hj : zInj ad) (r : zS) (s : zS) (a1 : Int32) (a3 : Int32) (a4 : Int32) (k1 : Int32) (k2 : Int32) (k3 : Int64) (rec42 : Int32 → zS → Option zS) (hr42 : ∀ (b2 : Int32) (s : zS), rec42 b2 s = some r → zOk l D ad cA (zJm jX9_layPay) (zEnd D ad cA none r) 42 [some (.ref 66), some (.int a1), some (.int b2), none, none, none, none, none, none, none, none, none, none] [] s) (rec52 : Int32 → zS → Option zS) (hr52 : ∀ (b3 : Int32) (s : zS), rec52 b3 s = some r → zOk l D ad cA (zJm jX9_layPay) (zEnd D ad cA none r) 52 [some (.ref 66), some (.int a1), none, some (.int b3), none, none, none, none, none, none, none, none, none] [] s) (rec63 : Int32 → zS → Option zS) (hr63 : ∀ (b4 : Int32) (s : zS), rec63 b4 s = some r → zOk l D ad cA (zJm jX9_layPay) (zEnd D ad cA none r) 63 [some (.ref 66), some (.int a1), none, some (.int a3), some (.int b4), none, none, none, none, none, none, none, none] [] s) (h : D_X9_layPay_J95 rec42 rec52 rec63 s a1 a3 a4 k1 k2 k3 = some r) : zOk l D ad cA (zJm jX9_layPay) (zEnd D ad cA none r) 95 [some (.ref 66), some (.int a1), none, some (.int a3), some (.int a4), none, none, none, none, none, none, none, none] [.long k3, .int k2, .int k1, .ref 66] s := by
  unfold D_X9_layPay_J95 at h
  refine zk_lconst (v := 1) dX9_layPay_95 (by decide) ?_
  obtain ⟨p96, h96, h⟩ := zbind h
  refine zc_X9_134 [] (As := [.int _, .int _, .long _, .long _]) (ok_X9_put hj _ _ _ _ _ h96) rfl ⟨Nat.le_of_ble_eq_true rfl, Nat.le_of_ble_eq_true rfl⟩ ⟨Nat.le_refl _, Nat.le_refl _⟩ rfl rfl (Nat.le_of_ble_eq_true rfl) dX9_layPay_96 ?_
  refine zk_iinc dX9_layPay_99 rfl (zinc (m := 1) (by decide)) (by decide) (zk_eq [_, _, _, _, _, _, _, _, _, _, _, _, _] rfl ?_)
  refine zk_goto (tgt := 63) dX9_layPay_102 rfl ?_
  exact hr63 _ _ h
def D_X9_layPay_B63 (rec42 : Int32 → zS → Option zS) (rec52 : Int32 → zS → Option zS) (a1 : Int32) (a3 : Int32) (rec63 : Int32 → zS → Option zS) (a4 : Int32) (s : zS) : Option zS :=
    if (s.1 66 0) ≤ a4 then (
      (D_X9_put s a3 (5 : Int32) (1 : Int64) (1 : Int64)).bind fun p110 =>
      rec52 (a3 + 1) p110
    ) else (
      zgd (zin a4 5 = true) <|
      (D_X9_has (s.1 84 a4.toNatClampNeg) a3).bind fun p84 =>
      if p84 = 0 then (
        D_X9_layPay_J95 rec42 rec52 rec63 s a1 a3 a4 a3 a4 (0 : Int64)
      ) else (
        D_X9_layPay_J95 rec42 rec52 rec63 s a1 a3 a4 a3 a4 (1 : Int64)
      )
    )
def D_X9_layPay_L63 (rec42 : Int32 → zS → Option zS) (rec52 : Int32 → zS → Option zS) (a1 : Int32) (a3 : Int32) (n : Nat) (a4 : Int32) (s : zS) : Option zS := zfx (fun (rec : Int32 × zS → Option zS) q => D_X9_layPay_B63 rec42 rec52 a1 a3 (fun v0 v1 => rec (v0, v1)) q.1 q.2) n (a4, s)
set_option maxRecDepth 100000 in
theorem D_X9_layPay_L63_s (rec42 : Int32 → zS → Option zS) (rec52 : Int32 → zS → Option zS) (a1 : Int32) (a3 : Int32) (n : Nat) (a4 : Int32) (s : zS) : D_X9_layPay_L63 rec42 rec52 a1 a3 (n + 1) a4 s = D_X9_layPay_B63 rec42 rec52 a1 a3 (D_X9_layPay_L63 rec42 rec52 a1 a3 n) a4 s := rfl
set_option maxRecDepth 100000 in
theorem ok_X9_layPay_L63 {l : Launch} {D : va_G} {ad : Nat → Nat} {cA : Nat → ClassId} (hj : zInj ad) (r : zS) (a1 : Int32) (a3 : Int32) (rec42 : Int32 → zS → Option zS) (hr42 : ∀ (b2 : Int32) (s : zS), rec42 b2 s = some r → zOk l D ad cA (zJm jX9_layPay) (zEnd D ad cA none r) 42 [some (.ref 66), some (.int a1), some (.int b2), none, none, none, none, none, none, none, none, none, none] [] s) (rec52 : Int32 → zS → Option zS) (hr52 : ∀ (b3 : Int32) (s : zS), rec52 b3 s = some r → zOk l D ad cA (zJm jX9_layPay) (zEnd D ad cA none r) 52 [some (.ref 66), some (.int a1), none, some (.int b3), none, none, none, none, none, none, none, none, none] [] s) : ∀ (n : Nat) (a4 : Int32) (s : zS), D_X9_layPay_L63 rec42 rec52 a1 a3 n a4 s = some r → zOk l D ad cA (zJm jX9_layPay) (zEnd D ad cA none r) 63 [some (.ref 66), some (.int a1), none, some (.int a3), some (.int a4), none, none, none, none, none, none, none, none] [] s := by
  intro n
  induction n with
  | zero =>
    intro a4 s h
    have h0 : (none : Option zS) = some r := h
    cases h0
  | succ n hr63 =>
    intro a4 s h
    have h : D_X9_layPay_B63 rec42 rec52 a1 a3 (D_X9_layPay_L63 rec42 rec52 a1 a3 n) a4 s = some r := h
    unfold D_X9_layPay_B63 at h
    refine zk_iload dX9_layPay_63 rfl ?_
    refine zk_aload_n dX9_layPay_65 rfl rfl ?_
    refine zf_X9_7 rfl dX9_layPay_66 ?_
    refine zk_icmp_ge (tgt := 105) dX9_layPay_69 rfl (fun g69 => ?_) (fun g69 => ?_)
    · replace h := zpos g69 h
      refine zk_aload_n dX9_layPay_105 rfl rfl ?_
      refine zk_iload_n dX9_layPay_106 rfl rfl ?_
      refine zk_iconst (v := 5) dX9_layPay_107 (by decide) ?_
      refine zk_lconst (v := 1) dX9_layPay_108 (by decide) ?_
      refine zk_lconst (v := 1) dX9_layPay_109 (by decide) ?_
      obtain ⟨p110, h110, h⟩ := zbind h
      refine zc_X9_134 [] (As := [.int _, .int _, .long _, .long _]) (ok_X9_put hj _ _ _ _ _ h110) rfl ⟨Nat.le_of_ble_eq_true rfl, Nat.le_of_ble_eq_true rfl⟩ ⟨Nat.le_refl _, Nat.le_refl _⟩ rfl rfl (Nat.le_of_ble_eq_true rfl) dX9_layPay_110 ?_
      refine zk_iinc dX9_layPay_113 rfl (zinc (m := 1) (by decide)) (by decide) (zk_eq [_, _, _, _, _, _, _, _, _, _, _, _, _] rfl ?_)
      refine zk_goto (tgt := 52) dX9_layPay_116 rfl ?_
      refine zk_mask [true, true, false, true, false, false, false, false, false, false, false, false, false] ?_
      exact hr52 _ _ h
    · replace h := zneg g69 h
      refine zk_aload_n dX9_layPay_72 rfl rfl ?_
      refine zk_iload_n dX9_layPay_73 rfl rfl ?_
      refine zk_iload dX9_layPay_74 rfl ?_
      refine zk_aload_n dX9_layPay_76 rfl rfl ?_
      refine zf_X9_76 rfl dX9_layPay_77 ?_
      refine zk_iload dX9_layPay_80 rfl ?_
      obtain ⟨g82, h⟩ := zguard h
      refine zk_iald (zoI_of rfl g82) dX9_layPay_82 ?_
      refine zk_iload_n dX9_layPay_83 rfl rfl ?_
      obtain ⟨p84, h84, h⟩ := zbind h
      refine zc_X9_121 [.int _, .int _, .ref _] (As := [.int _, .int _]) (ok_X9_has hj _ _ _ h84) rfl ⟨Nat.le_of_ble_eq_true rfl, Nat.le_of_ble_eq_true rfl⟩ ⟨Nat.le_refl _, Nat.le_refl _⟩ rfl rfl (Nat.le_of_ble_eq_true rfl) dX9_layPay_84 ?_
      refine zk_if_eq (tgt := 94) dX9_layPay_87 rfl (fun g87 => ?_) (fun g87 => ?_)
      · replace h := zpos g87 h
        refine zk_lconst (v := 0) dX9_layPay_94 (by decide) ?_
        exact ok_X9_layPay_J95 hj r _ _ _ _ _ _ _ _ hr42 _ hr52 _ hr63 h
      · replace h := zneg g87 h
        refine zk_lconst (v := 1) dX9_layPay_90 (by decide) ?_
        refine zk_goto (tgt := 95) dX9_layPay_91 rfl ?_
        exact ok_X9_layPay_J95 hj r _ _ _ _ _ _ _ _ hr42 _ hr52 _ hr63 h
def D_X9_layPay_B52 (rec42 : Int32 → zS → Option zS) (a1 : Int32) (rec52 : Int32 → zS → Option zS) (a3 : Int32) (s : zS) : Option zS :=
    if (s.1 66 0) ≤ a3 then (
      (D_X9_solve s (s.1 66 0)).bind fun p124 =>
      D_X9_layPay_L137 rec42 p124.2 a1 zFU p124.1 (0 : Int64) (1 : Int64) (0 : Int32)
    ) else (
      D_X9_layPay_L63 rec42 rec52 a1 a3 zFU (0 : Int32) s
    )
def D_X9_layPay_L52 (rec42 : Int32 → zS → Option zS) (a1 : Int32) (n : Nat) (a3 : Int32) (s : zS) : Option zS := zfx (fun (rec : Int32 × zS → Option zS) q => D_X9_layPay_B52 rec42 a1 (fun v0 v1 => rec (v0, v1)) q.1 q.2) n (a3, s)
set_option maxRecDepth 100000 in
theorem D_X9_layPay_L52_s (rec42 : Int32 → zS → Option zS) (a1 : Int32) (n : Nat) (a3 : Int32) (s : zS) : D_X9_layPay_L52 rec42 a1 (n + 1) a3 s = D_X9_layPay_B52 rec42 a1 (D_X9_layPay_L52 rec42 a1 n) a3 s := rfl
set_option maxRecDepth 100000 in
theorem ok_X9_layPay_L52 {l : Launch} {D : va_G} {ad : Nat → Nat} {cA : Nat → ClassId} (hj : zInj ad) (r : zS) (a1 : Int32) (rec42 : Int32 → zS → Option zS) (hr42 : ∀ (b2 : Int32) (s : zS), rec42 b2 s = some r → zOk l D ad cA (zJm jX9_layPay) (zEnd D ad cA none r) 42 [some (.ref 66), some (.int a1), some (.int b2), none, none, none, none, none, none, none, none, none, none] [] s) : ∀ (n : Nat) (a3 : Int32) (s : zS), D_X9_layPay_L52 rec42 a1 n a3 s = some r → zOk l D ad cA (zJm jX9_layPay) (zEnd D ad cA none r) 52 [some (.ref 66), some (.int a1), none, some (.int a3), none, none, none, none, none, none, none, none, none] [] s := by
  intro n
  induction n with
  | zero =>
    intro a3 s h
    have h0 : (none : Option zS) = some r := h
    cases h0
  | succ n hr52 =>
    intro a3 s h
    have h : D_X9_layPay_B52 rec42 a1 (D_X9_layPay_L52 rec42 a1 n) a3 s = some r := h
    unfold D_X9_layPay_B52 at h
    refine zk_iload_n dX9_layPay_52 rfl rfl ?_
    refine zk_aload_n dX9_layPay_53 rfl rfl ?_
    refine zf_X9_7 rfl dX9_layPay_54 ?_
    refine zk_icmp_ge (tgt := 119) dX9_layPay_57 rfl (fun g57 => ?_) (fun g57 => ?_)
    · replace h := zpos g57 h
      refine zk_aload_n dX9_layPay_119 rfl rfl ?_
      refine zk_aload_n dX9_layPay_120 rfl rfl ?_
      refine zf_X9_7 rfl dX9_layPay_121 ?_
      obtain ⟨p124, h124, h⟩ := zbind h
      refine zc_X9_152 [] (As := [.int _]) (ok_X9_solve hj _ _ h124) rfl ⟨Nat.le_of_ble_eq_true rfl, Nat.le_of_ble_eq_true rfl⟩ ⟨Nat.le_refl _, Nat.le_refl _⟩ rfl rfl (Nat.le_of_ble_eq_true rfl) dX9_layPay_124 ?_
      refine zk_istore_n (i := 3) dX9_layPay_127 rfl (by decide) (zk_eq [_, _, _, _, _, _, _, _, _, _, _, _, _] rfl ?_)
      refine zk_lconst (v := 0) dX9_layPay_128 (by decide) ?_
      refine zk_lstore (i := 4) dX9_layPay_129 (by decide) (zk_eq [_, _, _, _, _, _, _, _, _, _, _, _, _] rfl ?_)
      refine zk_lconst (v := 1) dX9_layPay_131 (by decide) ?_
      refine zk_lstore (i := 6) dX9_layPay_132 (by decide) (zk_eq [_, _, _, _, _, _, _, _, _, _, _, _, _] rfl ?_)
      refine zk_iconst (v := 0) dX9_layPay_134 (by decide) ?_
      refine zk_istore (i := 8) dX9_layPay_135 (by decide) (zk_eq [_, _, _, _, _, _, _, _, _, _, _, _, _] rfl ?_)
      exact ok_X9_layPay_L137 hj r _ _ _ hr42 _ _ _ _ _ h
    · replace h := zneg g57 h
      refine zk_iconst (v := 0) dX9_layPay_60 (by decide) ?_
      refine zk_istore (i := 4) dX9_layPay_61 (by decide) (zk_eq [_, _, _, _, _, _, _, _, _, _, _, _, _] rfl ?_)
      exact ok_X9_layPay_L63 hj r _ _ _ hr42 _ hr52 _ _ _ h
def D_X9_layPay_B42 (a1 : Int32) (rec42 : Int32 → zS → Option zS) (a2 : Int32) (s : zS) : Option zS :=
    if a2 = 0 then (
      some s
    ) else (
      (D_X9_noRows s).bind fun p47 =>
      D_X9_layPay_L52 rec42 a1 zFU (0 : Int32) p47
    )
def D_X9_layPay_L42 (a1 : Int32) (n : Nat) (a2 : Int32) (s : zS) : Option zS := zfx (fun (rec : Int32 × zS → Option zS) q => D_X9_layPay_B42 a1 (fun v0 v1 => rec (v0, v1)) q.1 q.2) n (a2, s)
set_option maxRecDepth 100000 in
theorem D_X9_layPay_L42_s (a1 : Int32) (n : Nat) (a2 : Int32) (s : zS) : D_X9_layPay_L42 a1 (n + 1) a2 s = D_X9_layPay_B42 a1 (D_X9_layPay_L42 a1 n) a2 s := rfl
set_option maxRecDepth 100000 in
theorem ok_X9_layPay_L42 {l : Launch} {D : va_G} {ad : Nat → Nat} {cA : Nat → ClassId} (hj : zInj ad) (r : zS) (a1 : Int32) : ∀ (n : Nat) (a2 : Int32) (s : zS), D_X9_layPay_L42 a1 n a2 s = some r → zOk l D ad cA (zJm jX9_layPay) (zEnd D ad cA none r) 42 [some (.ref 66), some (.int a1), some (.int a2), none, none, none, none, none, none, none, none, none, none] [] s := by
  intro n
  induction n with
  | zero =>
    intro a2 s h
    have h0 : (none : Option zS) = some r := h
    cases h0
  | succ n hr42 =>
    intro a2 s h
    have h : D_X9_layPay_B42 a1 (D_X9_layPay_L42 a1 n) a2 s = some r := h
    unfold D_X9_layPay_B42 at h
    refine zk_iload_n dX9_layPay_42 rfl rfl ?_
    refine zk_if_eq (tgt := 397) dX9_layPay_43 rfl (fun g43 => ?_) (fun g43 => ?_)
    · replace h := zpos g43 h
      have e9 := Option.some.inj h
      subst e9
      exact zk_vret rfl ⟨rfl, rfl⟩ dX9_layPay_397
    · replace h := zneg g43 h
      refine zk_aload_n dX9_layPay_46 rfl rfl ?_
      obtain ⟨p47, h47, h⟩ := zbind h
      refine zc_X9_147 [] (As := []) (ok_X9_noRows hj _ h47) rfl ⟨Nat.le_of_ble_eq_true rfl, Nat.le_of_ble_eq_true rfl⟩ ⟨Nat.le_refl _, Nat.le_refl _⟩ rfl rfl (Nat.le_of_ble_eq_true rfl) dX9_layPay_47 ?_
      refine zk_iconst (v := 0) dX9_layPay_50 (by decide) ?_
      refine zk_istore_n (i := 3) dX9_layPay_51 rfl (by decide) (zk_eq [_, _, _, _, _, _, _, _, _, _, _, _, _] rfl ?_)
      refine zk_mask [true, true, false, true, false, false, false, false, false, false, false, false, false] ?_
      exact ok_X9_layPay_L52 hj r _ _ hr42 _ _ _ h
def D_X9_layPay_B17 (a1 : Int32) (rec17 : Int32 → zS → Option zS) (a2 : Int32) (s : zS) : Option zS :=
    if (s.1 66 0) ≤ a2 then (
      D_X9_layPay_L42 a1 zFU (1 : Int32) s
    ) else (
      zgd (zin a2 5 = true) <|
      let s33 : zS := zwI s 84 a2.toNatClampNeg (a2 + (1 : Int32))
      rec17 (a2 + 1) s33
    )
def D_X9_layPay_L17 (a1 : Int32) (n : Nat) (a2 : Int32) (s : zS) : Option zS := zfx (fun (rec : Int32 × zS → Option zS) q => D_X9_layPay_B17 a1 (fun v0 v1 => rec (v0, v1)) q.1 q.2) n (a2, s)
set_option maxRecDepth 100000 in
theorem D_X9_layPay_L17_s (a1 : Int32) (n : Nat) (a2 : Int32) (s : zS) : D_X9_layPay_L17 a1 (n + 1) a2 s = D_X9_layPay_B17 a1 (D_X9_layPay_L17 a1 n) a2 s := rfl
set_option maxRecDepth 100000 in
theorem ok_X9_layPay_L17 {l : Launch} {D : va_G} {ad : Nat → Nat} {cA : Nat → ClassId} (hj : zInj ad) (r : zS) (a1 : Int32) : ∀ (n : Nat) (a2 : Int32) (s : zS), D_X9_layPay_L17 a1 n a2 s = some r → zOk l D ad cA (zJm jX9_layPay) (zEnd D ad cA none r) 17 [some (.ref 66), some (.int a1), some (.int a2), none, none, none, none, none, none, none, none, none, none] [] s := by
  intro n
  induction n with
  | zero =>
    intro a2 s h
    have h0 : (none : Option zS) = some r := h
    cases h0
  | succ n hr17 =>
    intro a2 s h
    have h : D_X9_layPay_B17 a1 (D_X9_layPay_L17 a1 n) a2 s = some r := h
    unfold D_X9_layPay_B17 at h
    refine zk_iload_n dX9_layPay_17 rfl rfl ?_
    refine zk_aload_n dX9_layPay_18 rfl rfl ?_
    refine zf_X9_7 rfl dX9_layPay_19 ?_
    refine zk_icmp_ge (tgt := 40) dX9_layPay_22 rfl (fun g22 => ?_) (fun g22 => ?_)
    · replace h := zpos g22 h
      refine zk_iconst (v := 1) dX9_layPay_40 (by decide) ?_
      refine zk_istore_n (i := 2) dX9_layPay_41 rfl (by decide) (zk_eq [_, _, _, _, _, _, _, _, _, _, _, _, _] rfl ?_)
      exact ok_X9_layPay_L42 hj r _ _ _ _ h
    · replace h := zneg g22 h
      refine zk_aload_n dX9_layPay_25 rfl rfl ?_
      refine zf_X9_76 rfl dX9_layPay_26 ?_
      refine zk_iload_n dX9_layPay_29 rfl rfl ?_
      refine zk_iload_n dX9_layPay_30 rfl rfl ?_
      refine zk_iconst (v := 1) dX9_layPay_31 (by decide) ?_
      refine zk_iadd dX9_layPay_32 ?_
      obtain ⟨g33, h⟩ := zguard h
      refine zk_iast (zoI_of rfl g33) dX9_layPay_33 ?_
      refine zk_iinc dX9_layPay_34 rfl (zinc (m := 1) (by decide)) (by decide) (zk_eq [_, _, _, _, _, _, _, _, _, _, _, _, _] rfl ?_)
      refine zk_goto (tgt := 17) dX9_layPay_37 rfl ?_
      exact hr17 _ _ h
def D_X9_layPay (s : zS) : Option zS :=
  let s2 : zS := zwL s 66 33 (0 : Int64)
  let s7 : zS := zwL s2 66 34 (0 : Int64)
  (D_X9_all s7).bind fun p11 =>
  D_X9_layPay_L17 p11 zFU (0 : Int32) s7
set_option maxRecDepth 100000 in
theorem ok_X9_layPay {l : Launch} {D : va_G} {ad : Nat → Nat} {cA : Nat → ClassId} (hj : zInj ad) (s : zS)  {r : zS} (h : D_X9_layPay s = some r) : zMet l D ad cA jX9_layPay [.ref 66] s none r := by
  refine zMet_of jX9_layPay [some (.ref 66), none, none, none, none, none, none, none, none, none, none, none, none] (by decide +kernel) (Nat.le_of_ble_eq_true rfl) rfl hj ?_
  unfold D_X9_layPay at h
  refine zk_aload_n dX9_layPay_0 rfl rfl ?_
  refine zk_lconst (v := 0) dX9_layPay_1 (by decide) ?_
  refine zp_X9_173 rfl dX9_layPay_2 ?_
  refine zk_aload_n dX9_layPay_5 rfl rfl ?_
  refine zk_lconst (v := 0) dX9_layPay_6 (by decide) ?_
  refine zp_X9_170 rfl dX9_layPay_7 ?_
  refine zk_aload_n dX9_layPay_10 rfl rfl ?_
  obtain ⟨p11, h11, h⟩ := zbind h
  refine zc_X9_88 [] (As := []) (ok_X9_all hj _ h11) rfl ⟨Nat.le_of_ble_eq_true rfl, Nat.le_of_ble_eq_true rfl⟩ ⟨Nat.le_refl _, Nat.le_refl _⟩ rfl rfl (Nat.le_of_ble_eq_true rfl) dX9_layPay_11 ?_
  refine zk_istore_n (i := 1) dX9_layPay_14 rfl (by decide) (zk_eq [_, _, _, _, _, _, _, _, _, _, _, _, _] rfl ?_)
  refine zk_iconst (v := 0) dX9_layPay_15 (by decide) ?_
  refine zk_istore_n (i := 2) dX9_layPay_16 rfl (by decide) (zk_eq [_, _, _, _, _, _, _, _, _, _, _, _, _] rfl ?_)
  exact ok_X9_layPay_L17 hj r _ _ _ _ h
def D_X9_layRow_B13 (a2 : Int32) (rec13 : Int32 → Int32 → Int32 → zS → Option (Int32 × zS)) (a3 : Int32) (a4 : Int32) (a5 : Int32) (s : zS) : Option (Int32 × zS) :=
    if a5 < 0 then (
      if a4 = a2 then (
        some ((1 : Int32), s)
      ) else (
        some ((0 : Int32), s)
      )
    ) else (
      if (a2 + (1 : Int32)) = 0 then none else
      zgd (zin a5 5 = true) <|
      let s29 : zS := zwI s 86 a5.toNatClampNeg (a3 - a3 / (a2 + (1 : Int32)) * (a2 + (1 : Int32)))
      if (a2 + (1 : Int32)) = 0 then none else
      zgd (zin a5 5 = true) <|
      rec13 (a3 / (a2 + (1 : Int32))) (a4 + (s29.1 86 a5.toNatClampNeg)) (a5 + -1) s29
    )
def D_X9_layRow_L13 (a2 : Int32) (n : Nat) (a3 : Int32) (a4 : Int32) (a5 : Int32) (s : zS) : Option (Int32 × zS) := zfx (fun (rec : Int32 × Int32 × Int32 × zS → Option (Int32 × zS)) q => D_X9_layRow_B13 a2 (fun v0 v1 v2 v3 => rec (v0, v1, v2, v3)) q.1 q.2.1 q.2.2.1 q.2.2.2) n (a3, a4, a5, s)
set_option maxRecDepth 100000 in
theorem D_X9_layRow_L13_s (a2 : Int32) (n : Nat) (a3 : Int32) (a4 : Int32) (a5 : Int32) (s : zS) : D_X9_layRow_L13 a2 (n + 1) a3 a4 a5 s = D_X9_layRow_B13 a2 (D_X9_layRow_L13 a2 n) a3 a4 a5 s := rfl
set_option maxRecDepth 100000 in
theorem ok_X9_layRow_L13 {l : Launch} {D : va_G} {ad : Nat → Nat} {cA : Nat → ClassId} (hj : zInj ad) (r : (Int32 × zS)) (a2 : Int32) : ∀ (n : Nat) (a3 : Int32) (a4 : Int32) (a5 : Int32) (s : zS), D_X9_layRow_L13 a2 n a3 a4 a5 s = some r → zOk l D ad cA (zJm jX9_layRow) (zEnd D ad cA (some (.int r.1)) r.2) 13 [some (.ref 66), none, some (.int a2), some (.int a3), some (.int a4), some (.int a5)] [] s := by
  intro n
  induction n with
  | zero =>
    intro a3 a4 a5 s h
    have h0 : (none : Option (Int32 × zS)) = some r := h
    cases h0
  | succ n hr13 =>
    intro a3 a4 a5 s h
    have h : D_X9_layRow_B13 a2 (D_X9_layRow_L13 a2 n) a3 a4 a5 s = some r := h
    unfold D_X9_layRow_B13 at h
    refine zk_iload dX9_layRow_13 rfl ?_
    refine zk_if_lt (tgt := 54) dX9_layRow_15 rfl (fun g15 => ?_) (fun g15 => ?_)
    · replace h := zpos g15 h
      refine zk_iload dX9_layRow_54 rfl ?_
      refine zk_iload_n dX9_layRow_56 rfl rfl ?_
      refine zk_icmp_ne (tgt := 64) dX9_layRow_57 rfl (fun g57 => ?_) (fun g57 => ?_)
      · replace h := zneg g57 h
        refine zk_iconst (v := 0) dX9_layRow_64 (by decide) ?_
        have e9 := Option.some.inj h
        subst e9
        exact zk_zret rfl (Or.inl rfl) ⟨rfl, rfl⟩ dX9_layRow_65
      · replace h := zpos g57 h
        refine zk_iconst (v := 1) dX9_layRow_60 (by decide) ?_
        refine zk_goto (tgt := 65) dX9_layRow_61 rfl ?_
        have e9 := Option.some.inj h
        subst e9
        exact zk_zret rfl (Or.inr rfl) ⟨rfl, rfl⟩ dX9_layRow_65
    · replace h := zneg g15 h
      refine zk_aload_n dX9_layRow_18 rfl rfl ?_
      refine zf_X9_82 rfl dX9_layRow_19 ?_
      refine zk_iload dX9_layRow_22 rfl ?_
      refine zk_iload_n dX9_layRow_24 rfl rfl ?_
      refine zk_iload_n dX9_layRow_25 rfl rfl ?_
      refine zk_iconst (v := 1) dX9_layRow_26 (by decide) ?_
      refine zk_iadd dX9_layRow_27 ?_
      obtain ⟨g28, h⟩ := zguardn h
      refine zk_irem dX9_layRow_28 g28 ?_
      obtain ⟨g29, h⟩ := zguard h
      refine zk_iast (zoI_of rfl g29) dX9_layRow_29 ?_
      refine zk_iload_n dX9_layRow_30 rfl rfl ?_
      refine zk_iload_n dX9_layRow_31 rfl rfl ?_
      refine zk_iconst (v := 1) dX9_layRow_32 (by decide) ?_
      refine zk_iadd dX9_layRow_33 ?_
      obtain ⟨g34, h⟩ := zguardn h
      refine zk_idiv dX9_layRow_34 g34 ?_
      refine zk_istore_n (i := 3) dX9_layRow_35 rfl (by decide) (zk_eq [_, _, _, _, _, _] rfl ?_)
      refine zk_iload dX9_layRow_36 rfl ?_
      refine zk_aload_n dX9_layRow_38 rfl rfl ?_
      refine zf_X9_82 rfl dX9_layRow_39 ?_
      refine zk_iload dX9_layRow_42 rfl ?_
      obtain ⟨g44, h⟩ := zguard h
      refine zk_iald (zoI_of rfl g44) dX9_layRow_44 ?_
      refine zk_iadd dX9_layRow_45 ?_
      refine zk_istore (i := 4) dX9_layRow_46 (by decide) (zk_eq [_, _, _, _, _, _] rfl ?_)
      refine zk_iinc dX9_layRow_48 rfl (zinc (m := -1) (by decide)) (by decide) (zk_eq [_, _, _, _, _, _] rfl ?_)
      refine zk_goto (tgt := 13) dX9_layRow_51 rfl ?_
      exact hr13 _ _ _ _ h
def D_X9_layRow (s : zS) (a1 : Int32) (a2 : Int32) : Option (Int32 × zS) :=
  D_X9_layRow_L13 a2 zFU a1 (0 : Int32) ((s.1 66 5) - (1 : Int32)) s
set_option maxRecDepth 100000 in
theorem ok_X9_layRow {l : Launch} {D : va_G} {ad : Nat → Nat} {cA : Nat → ClassId} (hj : zInj ad) (s : zS) (a1 : Int32) (a2 : Int32) {r : (Int32 × zS)} (h : D_X9_layRow s a1 a2 = some r) : zMet l D ad cA jX9_layRow [.ref 66, .int a1, .int a2] s (some (.int r.1)) r.2 := by
  refine zMet_of jX9_layRow [some (.ref 66), some (.int a1), some (.int a2), none, none, none] (by decide +kernel) (Nat.le_of_ble_eq_true rfl) rfl hj ?_
  unfold D_X9_layRow at h
  refine zk_iload_n dX9_layRow_0 rfl rfl ?_
  refine zk_istore_n (i := 3) dX9_layRow_1 rfl (by decide) (zk_eq [_, _, _, _, _, _] rfl ?_)
  refine zk_iconst (v := 0) dX9_layRow_2 (by decide) ?_
  refine zk_istore (i := 4) dX9_layRow_3 (by decide) (zk_eq [_, _, _, _, _, _] rfl ?_)
  refine zk_aload_n dX9_layRow_5 rfl rfl ?_
  refine zf_X9_215 rfl dX9_layRow_6 ?_
  refine zk_iconst (v := 1) dX9_layRow_9 (by decide) ?_
  refine zk_isub dX9_layRow_10 ?_
  refine zk_istore (i := 5) dX9_layRow_11 (by decide) (zk_eq [_, _, _, _, _, _] rfl ?_)
  refine zk_mask [true, false, true, true, true, true] ?_
  exact ok_X9_layRow_L13 hj r _ _ _ _ _ _ h
def D_X9_least (s : zS) (a1 : Int32) : Option (Int32 × zS) :=
  (D_X9_in a1.toInt64 (0 : Int64) (1 : Int64)).bind fun p4 =>
  if p4 = 0 then (
    some ((-2 : Int32), s)
  ) else (
    if a1 = 0 then (
      (D_X9_layPay s).bind fun p18 =>
      (D_X9_fraction p18 (p18.2 66 33) (p18.2 66 34)).bind fun p30 =>
      some (p30.1, p30.2)
    ) else (
      if (s.1 66 0) = (1 : Int32) then (
        some ((0 : Int32), s)
      ) else (
        (D_X9_beginShares s).bind fun p45 =>
        (D_X9_layStrain p45).bind fun p49 =>
        (D_X9_fraction p49 (p49.2 66 33) (p49.2 66 34)).bind fun p61 =>
        some (p61.1, p61.2)
      )
    )
  )
set_option maxRecDepth 100000 in
theorem ok_X9_least {l : Launch} {D : va_G} {ad : Nat → Nat} {cA : Nat → ClassId} (hj : zInj ad) (s : zS) (a1 : Int32) {r : (Int32 × zS)} (h : D_X9_least s a1 = some r) : zMet l D ad cA jX9_least [.ref 66, .int a1] s (some (.int r.1)) r.2 := by
  refine zMet_of jX9_least [some (.ref 66), some (.int a1)] (by decide +kernel) (Nat.le_of_ble_eq_true rfl) rfl hj ?_
  unfold D_X9_least at h
  refine zk_iload_n dX9_least_0 rfl rfl ?_
  refine zk_i2l dX9_least_1 ?_
  refine zk_lconst (v := 0) dX9_least_2 (by decide) ?_
  refine zk_lconst (v := 1) dX9_least_3 (by decide) ?_
  obtain ⟨p4, h4, h⟩ := zbind h
  refine zc_X9_92 [] (As := [.long _, .long _, .long _]) (ok_X9_in hj _ _ _ _ h4) rfl ⟨Nat.le_of_ble_eq_true rfl, Nat.le_of_ble_eq_true rfl⟩ ⟨Nat.le_refl _, Nat.le_refl _⟩ rfl rfl (Nat.le_of_ble_eq_true rfl) dX9_least_4 ?_
  refine zk_if_ne (tgt := 13) dX9_least_7 rfl (fun g7 => ?_) (fun g7 => ?_)
  · replace h := zneg g7 h
    refine zk_iload_n dX9_least_13 rfl rfl ?_
    refine zk_if_ne (tgt := 34) dX9_least_14 rfl (fun g14 => ?_) (fun g14 => ?_)
    · replace h := zneg g14 h
      refine zk_aload_n dX9_least_34 rfl rfl ?_
      refine zf_X9_7 rfl dX9_least_35 ?_
      refine zk_iconst (v := 1) dX9_least_38 (by decide) ?_
      refine zk_icmp_ne (tgt := 44) dX9_least_39 rfl (fun g39 => ?_) (fun g39 => ?_)
      · replace h := zneg g39 h
        refine zk_aload_n dX9_least_44 rfl rfl ?_
        obtain ⟨p45, h45, h⟩ := zbind h
        refine zc_X9_183 [] (As := []) (ok_X9_beginShares hj _ h45) rfl ⟨Nat.le_of_ble_eq_true rfl, Nat.le_of_ble_eq_true rfl⟩ ⟨Nat.le_refl _, Nat.le_refl _⟩ rfl rfl (Nat.le_of_ble_eq_true rfl) dX9_least_45 ?_
        refine zk_aload_n dX9_least_48 rfl rfl ?_
        obtain ⟨p49, h49, h⟩ := zbind h
        refine zc_X9_186 [] (As := []) (ok_X9_layStrain hj _ h49) rfl ⟨Nat.le_of_ble_eq_true rfl, Nat.le_of_ble_eq_true rfl⟩ ⟨Nat.le_refl _, Nat.le_refl _⟩ rfl rfl (Nat.le_of_ble_eq_true rfl) dX9_least_49 ?_
        refine zk_aload_n dX9_least_52 rfl rfl ?_
        refine zk_aload_n dX9_least_53 rfl rfl ?_
        refine zf_X9_173 rfl dX9_least_54 ?_
        refine zk_aload_n dX9_least_57 rfl rfl ?_
        refine zf_X9_170 rfl dX9_least_58 ?_
        obtain ⟨p61, h61, h⟩ := zbind h
        refine zc_X9_128 [] (As := [.long _, .long _]) (ok_X9_fraction hj _ _ _ h61) rfl ⟨Nat.le_of_ble_eq_true rfl, Nat.le_of_ble_eq_true rfl⟩ ⟨Nat.le_refl _, Nat.le_refl _⟩ rfl rfl (Nat.le_of_ble_eq_true rfl) dX9_least_61 ?_
        have e9 := Option.some.inj h
        subst e9
        exact zk_iret rfl ⟨rfl, rfl⟩ dX9_least_64
      · replace h := zpos g39 h
        refine zk_iconst (v := 0) dX9_least_42 (by decide) ?_
        have e9 := Option.some.inj h
        subst e9
        exact zk_iret rfl ⟨rfl, rfl⟩ dX9_least_43
    · replace h := zpos g14 h
      refine zk_aload_n dX9_least_17 rfl rfl ?_
      obtain ⟨p18, h18, h⟩ := zbind h
      refine zc_X9_180 [] (As := []) (ok_X9_layPay hj _ h18) rfl ⟨Nat.le_of_ble_eq_true rfl, Nat.le_of_ble_eq_true rfl⟩ ⟨Nat.le_refl _, Nat.le_refl _⟩ rfl rfl (Nat.le_of_ble_eq_true rfl) dX9_least_18 ?_
      refine zk_aload_n dX9_least_21 rfl rfl ?_
      refine zk_aload_n dX9_least_22 rfl rfl ?_
      refine zf_X9_173 rfl dX9_least_23 ?_
      refine zk_aload_n dX9_least_26 rfl rfl ?_
      refine zf_X9_170 rfl dX9_least_27 ?_
      obtain ⟨p30, h30, h⟩ := zbind h
      refine zc_X9_128 [] (As := [.long _, .long _]) (ok_X9_fraction hj _ _ _ h30) rfl ⟨Nat.le_of_ble_eq_true rfl, Nat.le_of_ble_eq_true rfl⟩ ⟨Nat.le_refl _, Nat.le_refl _⟩ rfl rfl (Nat.le_of_ble_eq_true rfl) dX9_least_30 ?_
      have e9 := Option.some.inj h
      subst e9
      exact zk_iret rfl ⟨rfl, rfl⟩ dX9_least_33
  · replace h := zpos g7 h
    refine zk_bipush (v := -2) dX9_least_10 (by decide) ?_
    have e9 := Option.some.inj h
    subst e9
    exact zk_iret rfl ⟨rfl, rfl⟩ dX9_least_12
def D_X9_margin_J109 (rec44 : Int32 → Int32 → Int32 → Option Int32) (s : zS) (a1 : Int32) (a2 : Int32) (a3 : Int32) (a5 : Int32) (a6 : Int32) (k0 : Int32) : Option Int32 :=
  rec44 (a3 ||| ((1 : Int32) <<< (a6 &&& 31))) k0 (a5 + -1)
set_option maxRecDepth 100000 in
theorem ok_X9_margin_J109 {l : Launch} {D : va_G} {ad : Nat → Nat} {cA : Nat → ClassId} (hj : zInj ad) (r : Int32) (s : zS) (a1 : Int32) (a2 : Int32) (a3 : Int32) (a5 : Int32) (a6 : Int32) (k0 : Int32) (rec44 : Int32 → Int32 → Int32 → Option Int32) (hr44 : ∀ (b3 : Int32) (b4 : Int32) (b5 : Int32), rec44 b3 b4 b5 = some r → zOk l D ad cA (zJm jX9_margin) (zEnd D ad cA (some (.int r)) s) 44 [some (.ref 66), some (.int a1), some (.int a2), some (.int b3), some (.int b4), some (.int b5), none] [] s) (h : D_X9_margin_J109 rec44 s a1 a2 a3 a5 a6 k0 = some r) : zOk l D ad cA (zJm jX9_margin) (zEnd D ad cA (some (.int r)) s) 109 [some (.ref 66), some (.int a1), some (.int a2), some (.int a3), none, some (.int a5), some (.int a6)] [.int k0] s := by
  unfold D_X9_margin_J109 at h
  refine zk_istore (i := 4) dX9_margin_109 (by decide) (zk_eq [_, _, _, _, _, _, _] rfl ?_)
  refine zk_iload_n dX9_margin_111 rfl rfl ?_
  refine zk_iconst (v := 1) dX9_margin_112 (by decide) ?_
  refine zk_iload dX9_margin_113 rfl ?_
  refine zk_ishl dX9_margin_115 ?_
  refine zk_ior dX9_margin_116 ?_
  refine zk_istore_n (i := 3) dX9_margin_117 rfl (by decide) (zk_eq [_, _, _, _, _, _, _] rfl ?_)
  refine zk_iinc dX9_margin_118 rfl (zinc (m := -1) (by decide)) (by decide) (zk_eq [_, _, _, _, _, _, _] rfl ?_)
  refine zk_goto (tgt := 44) dX9_margin_121 rfl ?_
  refine zk_mask [true, true, true, true, true, true, false] ?_
  exact hr44 _ _ _ h
def D_X9_margin_B44 (s : zS) (a1 : Int32) (a2 : Int32) (rec44 : Int32 → Int32 → Int32 → Option Int32) (a3 : Int32) (a4 : Int32) (a5 : Int32) : Option Int32 :=
    if a5 < 0 then (
      some a4
    ) else (
      if (s.1 66 0) ≤ ((a1 >>> (((2 : Int32) * a5) &&& 31)) &&& (3 : Int32)) then (
        some (-100000 : Int32)
      ) else (
        (D_X9_has a3 ((a1 >>> (((2 : Int32) * a5) &&& 31)) &&& (3 : Int32))).bind fun p71 =>
        if p71 = 0 then (
          if ((a1 >>> (((2 : Int32) * a5) &&& 31)) &&& (3 : Int32)) = a2 then (
            zgd (zin (a3 ||| ((1 : Int32) <<< (((a1 >>> (((2 : Int32) * a5) &&& 31)) &&& (3 : Int32)) &&& 31))) 16 = true) <|
            zgd (zin a3 16 = true) <|
            D_X9_margin_J109 rec44 s a1 a2 a3 a5 ((a1 >>> (((2 : Int32) * a5) &&& 31)) &&& (3 : Int32)) ((s.1 67 (a3 ||| ((1 : Int32) <<< (((a1 >>> (((2 : Int32) * a5) &&& 31)) &&& (3 : Int32)) &&& 31))).toNatClampNeg) - (s.1 67 a3.toNatClampNeg))
          ) else (
            D_X9_margin_J109 rec44 s a1 a2 a3 a5 ((a1 >>> (((2 : Int32) * a5) &&& 31)) &&& (3 : Int32)) a4
          )
        ) else (
          some (-100000 : Int32)
        )
      )
    )
def D_X9_margin_L44 (s : zS) (a1 : Int32) (a2 : Int32) (n : Nat) (a3 : Int32) (a4 : Int32) (a5 : Int32) : Option Int32 := zfx (fun (rec : Int32 × Int32 × Int32 → Option Int32) q => D_X9_margin_B44 s a1 a2 (fun v0 v1 v2 => rec (v0, v1, v2)) q.1 q.2.1 q.2.2) n (a3, a4, a5)
set_option maxRecDepth 100000 in
theorem D_X9_margin_L44_s (s : zS) (a1 : Int32) (a2 : Int32) (n : Nat) (a3 : Int32) (a4 : Int32) (a5 : Int32) : D_X9_margin_L44 s a1 a2 (n + 1) a3 a4 a5 = D_X9_margin_B44 s a1 a2 (D_X9_margin_L44 s a1 a2 n) a3 a4 a5 := rfl
set_option maxRecDepth 100000 in
theorem ok_X9_margin_L44 {l : Launch} {D : va_G} {ad : Nat → Nat} {cA : Nat → ClassId} (hj : zInj ad) (r : Int32) (s : zS) (a1 : Int32) (a2 : Int32) : ∀ (n : Nat) (a3 : Int32) (a4 : Int32) (a5 : Int32), D_X9_margin_L44 s a1 a2 n a3 a4 a5 = some r → zOk l D ad cA (zJm jX9_margin) (zEnd D ad cA (some (.int r)) s) 44 [some (.ref 66), some (.int a1), some (.int a2), some (.int a3), some (.int a4), some (.int a5), none] [] s := by
  intro n
  induction n with
  | zero =>
    intro a3 a4 a5 h
    have h0 : (none : Option Int32) = some r := h
    cases h0
  | succ n hr44 =>
    intro a3 a4 a5 h
    have h : D_X9_margin_B44 s a1 a2 (D_X9_margin_L44 s a1 a2 n) a3 a4 a5 = some r := h
    unfold D_X9_margin_B44 at h
    refine zk_iload dX9_margin_44 rfl ?_
    refine zk_if_lt (tgt := 124) dX9_margin_46 rfl (fun g46 => ?_) (fun g46 => ?_)
    · replace h := zpos g46 h
      refine zk_iload dX9_margin_124 rfl ?_
      have e9 := Option.some.inj h
      subst e9
      exact zk_iret rfl ⟨rfl, rfl⟩ dX9_margin_126
    · replace h := zneg g46 h
      refine zk_iload_n dX9_margin_49 rfl rfl ?_
      refine zk_iconst (v := 2) dX9_margin_50 (by decide) ?_
      refine zk_iload dX9_margin_51 rfl ?_
      refine zk_imul dX9_margin_53 ?_
      refine zk_ishr dX9_margin_54 ?_
      refine zk_iconst (v := 3) dX9_margin_55 (by decide) ?_
      refine zk_iand dX9_margin_56 ?_
      refine zk_istore (i := 6) dX9_margin_57 (by decide) (zk_eq [_, _, _, _, _, _, _] rfl ?_)
      refine zk_iload dX9_margin_59 rfl ?_
      refine zk_aload_n dX9_margin_61 rfl rfl ?_
      refine zf_X9_7 rfl dX9_margin_62 ?_
      refine zk_icmp_ge (tgt := 77) dX9_margin_65 rfl (fun g65 => ?_) (fun g65 => ?_)
      · replace h := zpos g65 h
        refine zk_ldc dX9_margin_77 zw_X9_113 ?_
        have e9 := Option.some.inj h
        subst e9
        exact zk_iret rfl ⟨rfl, rfl⟩ dX9_margin_79
      · replace h := zneg g65 h
        refine zk_iload_n dX9_margin_68 rfl rfl ?_
        refine zk_iload dX9_margin_69 rfl ?_
        obtain ⟨p71, h71, h⟩ := zbind h
        refine zc_X9_121 [] (As := [.int _, .int _]) (ok_X9_has hj _ _ _ h71) rfl ⟨Nat.le_of_ble_eq_true rfl, Nat.le_of_ble_eq_true rfl⟩ ⟨Nat.le_refl _, Nat.le_refl _⟩ rfl rfl (Nat.le_of_ble_eq_true rfl) dX9_margin_71 ?_
        refine zk_if_eq (tgt := 80) dX9_margin_74 rfl (fun g74 => ?_) (fun g74 => ?_)
        · replace h := zpos g74 h
          refine zk_iload dX9_margin_80 rfl ?_
          refine zk_iload_n dX9_margin_82 rfl rfl ?_
          refine zk_icmp_ne (tgt := 107) dX9_margin_83 rfl (fun g83 => ?_) (fun g83 => ?_)
          · replace h := zneg g83 h
            refine zk_iload dX9_margin_107 rfl ?_
            refine zk_mask [true, true, true, true, false, true, true] ?_
            exact ok_X9_margin_J109 hj r _ _ _ _ _ _ _ _ hr44 h
          · replace h := zpos g83 h
            refine zk_aload_n dX9_margin_86 rfl rfl ?_
            refine zf_X9_13 rfl dX9_margin_87 ?_
            refine zk_iload_n dX9_margin_90 rfl rfl ?_
            refine zk_iconst (v := 1) dX9_margin_91 (by decide) ?_
            refine zk_iload dX9_margin_92 rfl ?_
            refine zk_ishl dX9_margin_94 ?_
            refine zk_ior dX9_margin_95 ?_
            obtain ⟨g96, h⟩ := zguard h
            refine zk_iald (zoI_of rfl g96) dX9_margin_96 ?_
            refine zk_aload_n dX9_margin_97 rfl rfl ?_
            refine zf_X9_13 rfl dX9_margin_98 ?_
            refine zk_iload_n dX9_margin_101 rfl rfl ?_
            obtain ⟨g102, h⟩ := zguard h
            refine zk_iald (zoI_of rfl g102) dX9_margin_102 ?_
            refine zk_isub dX9_margin_103 ?_
            refine zk_goto (tgt := 109) dX9_margin_104 rfl ?_
            refine zk_mask [true, true, true, true, false, true, true] ?_
            exact ok_X9_margin_J109 hj r _ _ _ _ _ _ _ _ hr44 h
        · replace h := zneg g74 h
          refine zk_ldc dX9_margin_77 zw_X9_113 ?_
          have e9 := Option.some.inj h
          subst e9
          exact zk_iret rfl ⟨rfl, rfl⟩ dX9_margin_79
def D_X9_margin (s : zS) (a1 : Int32) (a2 : Int32) : Option Int32 :=
  (D_X9_isSide s a2).bind fun p2 =>
  if p2 = 0 then (
    some (-100000 : Int32)
  ) else (
    (D_X9_in a1.toInt64 (0 : Int64) ((((1 : Int32) <<< (((2 : Int32) * (s.1 66 0)) &&& 31)) - (1 : Int32)).toInt64)).bind fun p22 =>
    if p22 = 0 then (
      some (-100000 : Int32)
    ) else (
      D_X9_margin_L44 s a1 a2 zFU (0 : Int32) (0 : Int32) ((s.1 66 0) - (1 : Int32))
    )
  )
set_option maxRecDepth 100000 in
theorem ok_X9_margin {l : Launch} {D : va_G} {ad : Nat → Nat} {cA : Nat → ClassId} (hj : zInj ad) (s : zS) (a1 : Int32) (a2 : Int32) {r : Int32} (h : D_X9_margin s a1 a2 = some r) : zMet l D ad cA jX9_margin [.ref 66, .int a1, .int a2] s (some (.int r)) s := by
  refine zMet_of jX9_margin [some (.ref 66), some (.int a1), some (.int a2), none, none, none, none] (by decide +kernel) (Nat.le_of_ble_eq_true rfl) rfl hj ?_
  unfold D_X9_margin at h
  refine zk_aload_n dX9_margin_0 rfl rfl ?_
  refine zk_iload_n dX9_margin_1 rfl rfl ?_
  obtain ⟨p2, h2, h⟩ := zbind h
  refine zc_X9_118 [] (As := [.int _]) (ok_X9_isSide hj _ _ h2) rfl ⟨Nat.le_of_ble_eq_true rfl, Nat.le_of_ble_eq_true rfl⟩ ⟨Nat.le_refl _, Nat.le_refl _⟩ rfl rfl (Nat.le_of_ble_eq_true rfl) dX9_margin_2 ?_
  refine zk_if_eq (tgt := 28) dX9_margin_5 rfl (fun g5 => ?_) (fun g5 => ?_)
  · replace h := zpos g5 h
    refine zk_ldc dX9_margin_28 zw_X9_113 ?_
    have e9 := Option.some.inj h
    subst e9
    exact zk_iret rfl ⟨rfl, rfl⟩ dX9_margin_30
  · replace h := zneg g5 h
    refine zk_iload_n dX9_margin_8 rfl rfl ?_
    refine zk_i2l dX9_margin_9 ?_
    refine zk_lconst (v := 0) dX9_margin_10 (by decide) ?_
    refine zk_iconst (v := 1) dX9_margin_11 (by decide) ?_
    refine zk_iconst (v := 2) dX9_margin_12 (by decide) ?_
    refine zk_aload_n dX9_margin_13 rfl rfl ?_
    refine zf_X9_7 rfl dX9_margin_14 ?_
    refine zk_imul dX9_margin_17 ?_
    refine zk_ishl dX9_margin_18 ?_
    refine zk_iconst (v := 1) dX9_margin_19 (by decide) ?_
    refine zk_isub dX9_margin_20 ?_
    refine zk_i2l dX9_margin_21 ?_
    obtain ⟨p22, h22, h⟩ := zbind h
    refine zc_X9_92 [] (As := [.long _, .long _, .long _]) (ok_X9_in hj _ _ _ _ h22) rfl ⟨Nat.le_of_ble_eq_true rfl, Nat.le_of_ble_eq_true rfl⟩ ⟨Nat.le_refl _, Nat.le_refl _⟩ rfl rfl (Nat.le_of_ble_eq_true rfl) dX9_margin_22 ?_
    refine zk_if_ne (tgt := 31) dX9_margin_25 rfl (fun g25 => ?_) (fun g25 => ?_)
    · replace h := zneg g25 h
      refine zk_iconst (v := 0) dX9_margin_31 (by decide) ?_
      refine zk_istore_n (i := 3) dX9_margin_32 rfl (by decide) (zk_eq [_, _, _, _, _, _, _] rfl ?_)
      refine zk_iconst (v := 0) dX9_margin_33 (by decide) ?_
      refine zk_istore (i := 4) dX9_margin_34 (by decide) (zk_eq [_, _, _, _, _, _, _] rfl ?_)
      refine zk_aload_n dX9_margin_36 rfl rfl ?_
      refine zf_X9_7 rfl dX9_margin_37 ?_
      refine zk_iconst (v := 1) dX9_margin_40 (by decide) ?_
      refine zk_isub dX9_margin_41 ?_
      refine zk_istore (i := 5) dX9_margin_42 (by decide) (zk_eq [_, _, _, _, _, _, _] rfl ?_)
      exact ok_X9_margin_L44 hj r _ _ _ _ _ _ _ h
    · replace h := zpos g25 h
      refine zk_ldc dX9_margin_28 zw_X9_113 ?_
      have e9 := Option.some.inj h
      subst e9
      exact zk_iret rfl ⟨rfl, rfl⟩ dX9_margin_30
