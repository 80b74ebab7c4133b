def D_X9_market_B60  (rec60 : Int32 → zS → Option (Int32 × zS)) (a3 : Int32) (s : zS) : Option (Int32 × zS) :=
    if (4 : Int32) ≤ a3 then (
      some ((1 : Int32), s)
    ) else (
      zgd (zin a3 4 = true) <|
      let s71 : zS := zwI s 76 a3.toNatClampNeg (0 : Int32)
      rec60 (a3 + 1) s71
    )
def D_X9_market_L60 (n : Nat) (a3 : Int32) (s : zS) : Option (Int32 × zS) := zfx (fun (rec : Int32 × zS → Option (Int32 × zS)) q => D_X9_market_B60 (fun v0 v1 => rec (v0, v1)) q.1 q.2) n (a3, s)
set_option maxRecDepth 100000 in
theorem D_X9_market_L60_s (n : Nat) (a3 : Int32) (s : zS) : D_X9_market_L60 (n + 1) a3 s = D_X9_market_B60 (D_X9_market_L60 n) a3 s := rfl
set_option maxRecDepth 100000 in
theorem ok_X9_market_L60 {l : Launch} {D : va_G} {ad : Nat → Nat} {cA : Nat → ClassId} (hj : zInj ad) (r : (Int32 × zS))  : ∀ (n : Nat) (a3 : Int32) (s : zS), D_X9_market_L60 n a3 s = some r → zOk l D ad cA (zJm jX9_market) (zEnd D ad cA (some (.int r.1)) r.2) 60 [some (.ref 66), none, none, some (.int a3)] [] s := by
  intro n
  induction n with
  | zero =>
    intro a3 s h
    have h0 : (none : Option (Int32 × zS)) = some r := h
    cases h0
  | succ n hr60 =>
    intro a3 s h
    have h : D_X9_market_B60 (D_X9_market_L60 n) a3 s = some r := h
    unfold D_X9_market_B60 at h
    refine zk_iload_n dX9_market_60 rfl rfl ?_
    refine zk_iconst (v := 4) dX9_market_61 (by decide) ?_
    refine zk_icmp_ge (tgt := 78) dX9_market_62 rfl (fun g62 => ?_) (fun g62 => ?_)
    · replace h := zpos g62 h
      refine zk_iconst (v := 1) dX9_market_78 (by decide) ?_
      have e9 := Option.some.inj h
      subst e9
      exact zk_iret rfl ⟨rfl, rfl⟩ dX9_market_79
    · replace h := zneg g62 h
      refine zk_aload_n dX9_market_65 rfl rfl ?_
      refine zf_X9_51 rfl dX9_market_66 ?_
      refine zk_iload_n dX9_market_69 rfl rfl ?_
      refine zk_iconst (v := 0) dX9_market_70 (by decide) ?_
      obtain ⟨g71, h⟩ := zguard h
      refine zk_iast (zoI_of rfl g71) dX9_market_71 ?_
      refine zk_iinc dX9_market_72 rfl (zinc (m := 1) (by decide)) (by decide) (zk_eq [_, _, _, _] rfl ?_)
      refine zk_goto (tgt := 60) dX9_market_75 rfl ?_
      exact hr60 _ _ h
def D_X9_market_B39  (rec39 : Int32 → zS → Option (Int32 × zS)) (a3 : Int32) (s : zS) : Option (Int32 × zS) :=
    if (16 : Int32) ≤ a3 then (
      D_X9_market_L60 zFU (0 : Int32) s
    ) else (
      zgd (zin a3 16 = true) <|
      let s51 : zS := zwI s 75 a3.toNatClampNeg (0 : Int32)
      rec39 (a3 + 1) s51
    )
def D_X9_market_L39 (n : Nat) (a3 : Int32) (s : zS) : Option (Int32 × zS) := zfx (fun (rec : Int32 × zS → Option (Int32 × zS)) q => D_X9_market_B39 (fun v0 v1 => rec (v0, v1)) q.1 q.2) n (a3, s)
set_option maxRecDepth 100000 in
theorem D_X9_market_L39_s (n : Nat) (a3 : Int32) (s : zS) : D_X9_market_L39 (n + 1) a3 s = D_X9_market_B39 (D_X9_market_L39 n) a3 s := rfl
set_option maxRecDepth 100000 in
theorem ok_X9_market_L39 {l : Launch} {D : va_G} {ad : Nat → Nat} {cA : Nat → ClassId} (hj : zInj ad) (r : (Int32 × zS))  : ∀ (n : Nat) (a3 : Int32) (s : zS), D_X9_market_L39 n a3 s = some r → zOk l D ad cA (zJm jX9_market) (zEnd D ad cA (some (.int r.1)) r.2) 39 [some (.ref 66), none, none, some (.int a3)] [] s := by
  intro n
  induction n with
  | zero =>
    intro a3 s h
    have h0 : (none : Option (Int32 × zS)) = some r := h
    cases h0
  | succ n hr39 =>
    intro a3 s h
    have h : D_X9_market_B39 (D_X9_market_L39 n) a3 s = some r := h
    unfold D_X9_market_B39 at h
    refine zk_iload_n dX9_market_39 rfl rfl ?_
    refine zk_bipush (v := 16) dX9_market_40 (by decide) ?_
    refine zk_icmp_ge (tgt := 58) dX9_market_42 rfl (fun g42 => ?_) (fun g42 => ?_)
    · replace h := zpos g42 h
      refine zk_iconst (v := 0) dX9_market_58 (by decide) ?_
      refine zk_istore_n (i := 3) dX9_market_59 rfl (by decide) (zk_eq [_, _, _, _] rfl ?_)
      exact ok_X9_market_L60 hj r  _ _ _ h
    · replace h := zneg g42 h
      refine zk_aload_n dX9_market_45 rfl rfl ?_
      refine zf_X9_48 rfl dX9_market_46 ?_
      refine zk_iload_n dX9_market_49 rfl rfl ?_
      refine zk_iconst (v := 0) dX9_market_50 (by decide) ?_
      obtain ⟨g51, h⟩ := zguard h
      refine zk_iast (zoI_of rfl g51) dX9_market_51 ?_
      refine zk_iinc dX9_market_52 rfl (zinc (m := 1) (by decide)) (by decide) (zk_eq [_, _, _, _] rfl ?_)
      refine zk_goto (tgt := 39) dX9_market_55 rfl ?_
      exact hr39 _ _ h
def D_X9_market (s : zS) (a1 : Int32) (a2 : Int32) : Option (Int32 × zS) :=
  (D_X9_in a1.toInt64 (0 : Int64) (4 : Int64)).bind fun p6 =>
  if p6 = 0 then (
    some ((-2 : Int32), s)
  ) else (
    (D_X9_in a2.toInt64 (0 : Int64) (4 : Int64)).bind fun p18 =>
    if p18 = 0 then (
      some ((-2 : Int32), s)
    ) else (
      let s29 : zS := zwI s 66 17 a1
      let s34 : zS := zwI s29 66 18 a2
      D_X9_market_L39 zFU (0 : Int32) s34
    )
  )
set_option maxRecDepth 100000 in
theorem ok_X9_market {l : Launch} {D : va_G} {ad : Nat → Nat} {cA : Nat → ClassId} (hj : zInj ad) (s : zS) (a1 : Int32) (a2 : Int32) {r : (Int32 × zS)} (h : D_X9_market s a1 a2 = some r) : zMet l D ad cA jX9_market [.ref 66, .int a1, .int a2] s (some (.int r.1)) r.2 := by
  refine zMet_of jX9_market [some (.ref 66), some (.int a1), some (.int a2), none] (by decide +kernel) (Nat.le_of_ble_eq_true rfl) rfl hj ?_
  unfold D_X9_market at h
  refine zk_iload_n dX9_market_0 rfl rfl ?_
  refine zk_i2l dX9_market_1 ?_
  refine zk_lconst (v := 0) dX9_market_2 (by decide) ?_
  refine zk_ldc2 dX9_market_3 zw_X9_103 ?_
  obtain ⟨p6, h6, h⟩ := zbind h
  refine zc_X9_92 [] (As := [.long _, .long _, .long _]) (ok_X9_in hj _ _ _ _ h6) rfl ⟨Nat.le_of_ble_eq_true rfl, Nat.le_of_ble_eq_true rfl⟩ ⟨Nat.le_refl _, Nat.le_refl _⟩ rfl rfl (Nat.le_of_ble_eq_true rfl) dX9_market_6 ?_
  refine zk_if_eq (tgt := 24) dX9_market_9 rfl (fun g9 => ?_) (fun g9 => ?_)
  · replace h := zpos g9 h
    refine zk_bipush (v := -2) dX9_market_24 (by decide) ?_
    have e9 := Option.some.inj h
    subst e9
    exact zk_iret rfl ⟨rfl, rfl⟩ dX9_market_26
  · replace h := zneg g9 h
    refine zk_iload_n dX9_market_12 rfl rfl ?_
    refine zk_i2l dX9_market_13 ?_
    refine zk_lconst (v := 0) dX9_market_14 (by decide) ?_
    refine zk_ldc2 dX9_market_15 zw_X9_103 ?_
    obtain ⟨p18, h18, h⟩ := zbind h
    refine zc_X9_92 [] (As := [.long _, .long _, .long _]) (ok_X9_in hj _ _ _ _ h18) rfl ⟨Nat.le_of_ble_eq_true rfl, Nat.le_of_ble_eq_true rfl⟩ ⟨Nat.le_refl _, Nat.le_refl _⟩ rfl rfl (Nat.le_of_ble_eq_true rfl) dX9_market_18 ?_
    refine zk_if_ne (tgt := 27) dX9_market_21 rfl (fun g21 => ?_) (fun g21 => ?_)
    · replace h := zneg g21 h
      refine zk_aload_n dX9_market_27 rfl rfl ?_
      refine zk_iload_n dX9_market_28 rfl rfl ?_
      refine zp_X9_286 rfl dX9_market_29 ?_
      refine zk_aload_n dX9_market_32 rfl rfl ?_
      refine zk_iload_n dX9_market_33 rfl rfl ?_
      refine zp_X9_289 rfl dX9_market_34 ?_
      refine zk_iconst (v := 0) dX9_market_37 (by decide) ?_
      refine zk_istore_n (i := 3) dX9_market_38 rfl (by decide) (zk_eq [_, _, _, _] rfl ?_)
      refine zk_mask [true, false, false, true] ?_
      exact ok_X9_market_L39 hj r  _ _ _ h
    · replace h := zpos g21 h
      refine zk_bipush (v := -2) dX9_market_24 (by decide) ?_
      have e9 := Option.some.inj h
      subst e9
      exact zk_iret rfl ⟨rfl, rfl⟩ dX9_market_26
def D_X9_minimal_B12 (s : zS) (a1 : Int32) (rec12 : Int32 → Int32 → Option Int32) (a2 : Int32) (a3 : Int32) : Option Int32 :=
    (D_X9_allVoters s).bind fun p14 =>
    if p14 < a3 then (
      if a1 = (-1 : Int32) then (
        some a2
      ) else (
        some (-1 : Int32)
      )
    ) else (
      (D_X9_isLeast s a3).bind fun p22 =>
      if p22 = 0 then (
        rec12 a2 (a3 + 1)
      ) else (
        if a2 = a1 then (
          some a3
        ) else (
          rec12 (a2 + 1) (a3 + 1)
        )
      )
    )
def D_X9_minimal_L12 (s : zS) (a1 : Int32) (n : Nat) (a2 : Int32) (a3 : Int32) : Option Int32 := zfx (fun (rec : Int32 × Int32 → Option Int32) q => D_X9_minimal_B12 s a1 (fun v0 v1 => rec (v0, v1)) q.1 q.2) n (a2, a3)
set_option maxRecDepth 100000 in
theorem D_X9_minimal_L12_s (s : zS) (a1 : Int32) (n : Nat) (a2 : Int32) (a3 : Int32) : D_X9_minimal_L12 s a1 (n + 1) a2 a3 = D_X9_minimal_B12 s a1 (D_X9_minimal_L12 s a1 n) a2 a3 := rfl
set_option maxRecDepth 100000 in
theorem ok_X9_minimal_L12 {l : Launch} {D : va_G} {ad : Nat → Nat} {cA : Nat → ClassId} (hj : zInj ad) (r : Int32) (s : zS) (a1 : Int32) : ∀ (n : Nat) (a2 : Int32) (a3 : Int32), D_X9_minimal_L12 s a1 n a2 a3 = some r → zOk l D ad cA (zJm jX9_minimal) (zEnd D ad cA (some (.int r)) s) 12 [some (.ref 66), some (.int a1), some (.int a2), some (.int a3)] [] s := by
  intro n
  induction n with
  | zero =>
    intro a2 a3 h
    have h0 : (none : Option Int32) = some r := h
    cases h0
  | succ n hr12 =>
    intro a2 a3 h
    have h : D_X9_minimal_B12 s a1 (D_X9_minimal_L12 s a1 n) a2 a3 = some r := h
    unfold D_X9_minimal_B12 at h
    refine zk_iload_n dX9_minimal_12 rfl rfl ?_
    refine zk_aload_n dX9_minimal_13 rfl rfl ?_
    obtain ⟨p14, h14, h⟩ := zbind h
    refine zc_X9_223 [.int _] (As := []) (ok_X9_allVoters hj _ h14) rfl ⟨Nat.le_of_ble_eq_true rfl, Nat.le_of_ble_eq_true rfl⟩ ⟨Nat.le_refl _, Nat.le_refl _⟩ rfl rfl (Nat.le_of_ble_eq_true rfl) dX9_minimal_14 ?_
    refine zk_icmp_gt (tgt := 44) dX9_minimal_17 rfl (fun g17 => ?_) (fun g17 => ?_)
    · replace h := zpos g17 h
      refine zk_iload_n dX9_minimal_44 rfl rfl ?_
      refine zk_iconst (v := -1) dX9_minimal_45 (by decide) ?_
      refine zk_icmp_ne (tgt := 53) dX9_minimal_46 rfl (fun g46 => ?_) (fun g46 => ?_)
      · replace h := zneg g46 h
        refine zk_iconst (v := -1) dX9_minimal_53 (by decide) ?_
        have e9 := Option.some.inj h
        subst e9
        exact zk_iret rfl ⟨rfl, rfl⟩ dX9_minimal_54
      · replace h := zpos g46 h
        refine zk_iload_n dX9_minimal_49 rfl rfl ?_
        refine zk_goto (tgt := 54) dX9_minimal_50 rfl ?_
        have e9 := Option.some.inj h
        subst e9
        exact zk_iret rfl ⟨rfl, rfl⟩ dX9_minimal_54
    · replace h := zneg g17 h
      refine zk_aload_n dX9_minimal_20 rfl rfl ?_
      refine zk_iload_n dX9_minimal_21 rfl rfl ?_
      obtain ⟨p22, h22, h⟩ := zbind h
      refine zc_X9_229 [] (As := [.int _]) (ok_X9_isLeast hj _ _ h22) rfl ⟨Nat.le_of_ble_eq_true rfl, Nat.le_of_ble_eq_true rfl⟩ ⟨Nat.le_refl _, Nat.le_refl _⟩ rfl rfl (Nat.le_of_ble_eq_true rfl) dX9_minimal_22 ?_
      refine zk_if_eq (tgt := 38) dX9_minimal_25 rfl (fun g25 => ?_) (fun g25 => ?_)
      · replace h := zpos g25 h
        refine zk_iinc dX9_minimal_38 rfl (zinc (m := 1) (by decide)) (by decide) (zk_eq [_, _, _, _] rfl ?_)
        refine zk_goto (tgt := 12) dX9_minimal_41 rfl ?_
        exact hr12 _ _ h
      · replace h := zneg g25 h
        refine zk_iload_n dX9_minimal_28 rfl rfl ?_
        refine zk_iload_n dX9_minimal_29 rfl rfl ?_
        refine zk_icmp_ne (tgt := 35) dX9_minimal_30 rfl (fun g30 => ?_) (fun g30 => ?_)
        · replace h := zneg g30 h
          refine zk_iinc dX9_minimal_35 rfl (zinc (m := 1) (by decide)) (by decide) (zk_eq [_, _, _, _] rfl ?_)
          refine zk_iinc dX9_minimal_38 rfl (zinc (m := 1) (by decide)) (by decide) (zk_eq [_, _, _, _] rfl ?_)
          refine zk_goto (tgt := 12) dX9_minimal_41 rfl ?_
          exact hr12 _ _ h
        · replace h := zpos g30 h
          refine zk_iload_n dX9_minimal_33 rfl rfl ?_
          have e9 := Option.some.inj h
          subst e9
          exact zk_iret rfl ⟨rfl, rfl⟩ dX9_minimal_34
def D_X9_minimal (s : zS) (a1 : Int32) : Option Int32 :=
  if (-1 : Int32) ≤ a1 then (
    D_X9_minimal_L12 s a1 zFU (0 : Int32) (0 : Int32)
  ) else (
    some (-2 : Int32)
  )
set_option maxRecDepth 100000 in
theorem ok_X9_minimal {l : Launch} {D : va_G} {ad : Nat → Nat} {cA : Nat → ClassId} (hj : zInj ad) (s : zS) (a1 : Int32) {r : Int32} (h : D_X9_minimal s a1 = some r) : zMet l D ad cA jX9_minimal [.ref 66, .int a1] s (some (.int r)) s := by
  refine zMet_of jX9_minimal [some (.ref 66), some (.int a1), none, none] (by decide +kernel) (Nat.le_of_ble_eq_true rfl) rfl hj ?_
  unfold D_X9_minimal at h
  refine zk_iload_n dX9_minimal_0 rfl rfl ?_
  refine zk_iconst (v := -1) dX9_minimal_1 (by decide) ?_
  refine zk_icmp_ge (tgt := 8) dX9_minimal_2 rfl (fun g2 => ?_) (fun g2 => ?_)
  · replace h := zpos g2 h
    refine zk_iconst (v := 0) dX9_minimal_8 (by decide) ?_
    refine zk_istore_n (i := 2) dX9_minimal_9 rfl (by decide) (zk_eq [_, _, _, _] rfl ?_)
    refine zk_iconst (v := 0) dX9_minimal_10 (by decide) ?_
    refine zk_istore_n (i := 3) dX9_minimal_11 rfl (by decide) (zk_eq [_, _, _, _] rfl ?_)
    exact ok_X9_minimal_L12 hj r _ _ _ _ _ h
  · replace h := zneg g2 h
    refine zk_bipush (v := -2) dX9_minimal_5 (by decide) ?_
    have e9 := Option.some.inj h
    subst e9
    exact zk_iret rfl ⟨rfl, rfl⟩ dX9_minimal_7
def D_X9_most_B51 (s : zS) (a1 : Int32) (rec51 : Int32 → Int32 → Option (Int32 × zS)) (a3 : Int32) (a4 : Int32) : Option (Int32 × zS) :=
    if a4 ≤ a1 then (
      some (((a3 - a3 / (5 : Int32) * (5 : Int32)) - (1 : Int32)), s)
    ) else (
      rec51 (a3 / (5 : Int32)) (a4 + -1)
    )
def D_X9_most_L51 (s : zS) (a1 : Int32) (n : Nat) (a3 : Int32) (a4 : Int32) : Option (Int32 × zS) := zfx (fun (rec : Int32 × Int32 → Option (Int32 × zS)) q => D_X9_most_B51 s a1 (fun v0 v1 => rec (v0, v1)) q.1 q.2) n (a3, a4)
set_option maxRecDepth 100000 in
theorem D_X9_most_L51_s (s : zS) (a1 : Int32) (n : Nat) (a3 : Int32) (a4 : Int32) : D_X9_most_L51 s a1 (n + 1) a3 a4 = D_X9_most_B51 s a1 (D_X9_most_L51 s a1 n) a3 a4 := rfl
set_option maxRecDepth 100000 in
theorem ok_X9_most_L51 {l : Launch} {D : va_G} {ad : Nat → Nat} {cA : Nat → ClassId} (hj : zInj ad) (r : (Int32 × zS)) (s : zS) (a1 : Int32) : ∀ (n : Nat) (a3 : Int32) (a4 : Int32), D_X9_most_L51 s a1 n a3 a4 = some r → zOk l D ad cA (zJm jX9_most) (zEnd D ad cA (some (.int r.1)) r.2) 51 [none, some (.int a1), none, some (.int a3), some (.int a4)] [] s := by
  intro n
  induction n with
  | zero =>
    intro a3 a4 h
    have h0 : (none : Option (Int32 × zS)) = some r := h
    cases h0
  | succ n hr51 =>
    intro a3 a4 h
    have h : D_X9_most_B51 s a1 (D_X9_most_L51 s a1 n) a3 a4 = some r := h
    unfold D_X9_most_B51 at h
    refine zk_iload dX9_most_51 rfl ?_
    refine zk_iload_n dX9_most_53 rfl rfl ?_
    refine zk_icmp_le (tgt := 67) dX9_most_54 rfl (fun g54 => ?_) (fun g54 => ?_)
    · replace h := zpos g54 h
      refine zk_iload_n dX9_most_67 rfl rfl ?_
      refine zk_iconst (v := 5) dX9_most_68 (by decide) ?_
      refine zk_irem dX9_most_69 (by decide) ?_
      refine zk_iconst (v := 1) dX9_most_70 (by decide) ?_
      refine zk_isub dX9_most_71 ?_
      have e9 := Option.some.inj h
      subst e9
      exact zk_iret rfl ⟨rfl, rfl⟩ dX9_most_72
    · replace h := zneg g54 h
      refine zk_iload_n dX9_most_57 rfl rfl ?_
      refine zk_iconst (v := 5) dX9_most_58 (by decide) ?_
      refine zk_idiv dX9_most_59 (by decide) ?_
      refine zk_istore_n (i := 3) dX9_most_60 rfl (by decide) (zk_eq [_, _, _, _, _] rfl ?_)
      refine zk_iinc dX9_most_61 rfl (zinc (m := -1) (by decide)) (by decide) (zk_eq [_, _, _, _, _] rfl ?_)
      refine zk_goto (tgt := 51) dX9_most_64 rfl ?_
      exact hr51 _ _ h
def D_X9_most_J24 (s : zS) (a1 : Int32) : Option (Int32 × zS) :=
  (D_X9_mostOf s (-1 : Int32) (0 : Int32)).bind fun p27 =>
  if a1 = (-1 : Int32) then (
    some (p27.1, p27.2)
  ) else (
    D_X9_most_L51 p27.2 a1 zFU (p27.2.1 66 41) ((p27.2.1 66 17) - (1 : Int32))
  )
set_option maxRecDepth 100000 in
theorem ok_X9_most_J24 {l : Launch} {D : va_G} {ad : Nat → Nat} {cA : Nat → ClassId} (hj : zInj ad) (r : (Int32 × zS)) (s : zS) (a1 : Int32) (h : D_X9_most_J24 s a1 = some r) : zOk l D ad cA (zJm jX9_most) (zEnd D ad cA (some (.int r.1)) r.2) 24 [some (.ref 66), some (.int a1), none, none, none] [] s := by
  unfold D_X9_most_J24 at h
  refine zk_aload_n dX9_most_24 rfl rfl ?_
  refine zk_iconst (v := -1) dX9_most_25 (by decide) ?_
  refine zk_iconst (v := 0) dX9_most_26 (by decide) ?_
  obtain ⟨p27, h27, h⟩ := zbind h
  refine zc_X9_295 [] (As := [.int _, .int _]) (ok_X9_mostOf hj _ _ _ h27) rfl ⟨Nat.le_of_ble_eq_true rfl, Nat.le_of_ble_eq_true rfl⟩ ⟨Nat.le_refl _, Nat.le_refl _⟩ rfl rfl (Nat.le_of_ble_eq_true rfl) dX9_most_27 ?_
  refine zk_istore_n (i := 2) dX9_most_30 rfl (by decide) (zk_eq [_, _, _, _, _] rfl ?_)
  refine zk_iload_n dX9_most_31 rfl rfl ?_
  refine zk_iconst (v := -1) dX9_most_32 (by decide) ?_
  refine zk_icmp_ne (tgt := 38) dX9_most_33 rfl (fun g33 => ?_) (fun g33 => ?_)
  · replace h := zneg g33 h
    refine zk_aload_n dX9_most_38 rfl rfl ?_
    refine zf_X9_292 rfl dX9_most_39 ?_
    refine zk_istore_n (i := 3) dX9_most_42 rfl (by decide) (zk_eq [_, _, _, _, _] rfl ?_)
    refine zk_aload_n dX9_most_43 rfl rfl ?_
    refine zf_X9_286 rfl dX9_most_44 ?_
    refine zk_iconst (v := 1) dX9_most_47 (by decide) ?_
    refine zk_isub dX9_most_48 ?_
    refine zk_istore (i := 4) dX9_most_49 (by decide) (zk_eq [_, _, _, _, _] rfl ?_)
    refine zk_mask [false, true, false, true, true] ?_
    exact ok_X9_most_L51 hj r _ _ _ _ _ h
  · replace h := zpos g33 h
    refine zk_iload_n dX9_most_36 rfl rfl ?_
    have e9 := Option.some.inj h
    subst e9
    exact zk_iret rfl ⟨rfl, rfl⟩ dX9_most_37
def D_X9_most (s : zS) (a1 : Int32) : Option (Int32 × zS) :=
  if a1 = (-1 : Int32) then (
    D_X9_most_J24 s a1
  ) else (
    (D_X9_in a1.toInt64 (0 : Int64) (((s.1 66 17) - (1 : Int32)).toInt64)).bind fun p15 =>
    if p15 = 0 then (
      some ((-10 : Int32), s)
    ) else (
      D_X9_most_J24 s a1
    )
  )
set_option maxRecDepth 100000 in
theorem ok_X9_most {l : Launch} {D : va_G} {ad : Nat → Nat} {cA : Nat → ClassId} (hj : zInj ad) (s : zS) (a1 : Int32) {r : (Int32 × zS)} (h : D_X9_most s a1 = some r) : zMet l D ad cA jX9_most [.ref 66, .int a1] s (some (.int r.1)) r.2 := by
  refine zMet_of jX9_most [some (.ref 66), some (.int a1), none, none, none] (by decide +kernel) (Nat.le_of_ble_eq_true rfl) rfl hj ?_
  unfold D_X9_most at h
  refine zk_iload_n dX9_most_0 rfl rfl ?_
  refine zk_iconst (v := -1) dX9_most_1 (by decide) ?_
  refine zk_icmp_eq (tgt := 24) dX9_most_2 rfl (fun g2 => ?_) (fun g2 => ?_)
  · replace h := zpos g2 h
    exact ok_X9_most_J24 hj r _ _ h
  · replace h := zneg g2 h
    refine zk_iload_n dX9_most_5 rfl rfl ?_
    refine zk_i2l dX9_most_6 ?_
    refine zk_lconst (v := 0) dX9_most_7 (by decide) ?_
    refine zk_aload_n dX9_most_8 rfl rfl ?_
    refine zf_X9_286 rfl dX9_most_9 ?_
    refine zk_iconst (v := 1) dX9_most_12 (by decide) ?_
    refine zk_isub dX9_most_13 ?_
    refine zk_i2l dX9_most_14 ?_
    obtain ⟨p15, h15, h⟩ := zbind h
    refine zc_X9_92 [] (As := [.long _, .long _, .long _]) (ok_X9_in hj _ _ _ _ h15) rfl ⟨Nat.le_of_ble_eq_true rfl, Nat.le_of_ble_eq_true rfl⟩ ⟨Nat.le_refl _, Nat.le_refl _⟩ rfl rfl (Nat.le_of_ble_eq_true rfl) dX9_most_15 ?_
    refine zk_if_ne (tgt := 24) dX9_most_18 rfl (fun g18 => ?_) (fun g18 => ?_)
    · replace h := zneg g18 h
      exact ok_X9_most_J24 hj r _ _ h
    · replace h := zpos g18 h
      refine zk_bipush (v := -10) dX9_most_21 (by decide) ?_
      have e9 := Option.some.inj h
      subst e9
      exact zk_iret rfl ⟨rfl, rfl⟩ dX9_most_23
def D_X9_paid_J98 (rec16 : Int64 → Int32 → Option (Int32 × zS)) (s : zS) (a1 : Int32) (a4 : Int32) (k0 : Int64) (k1 : Int64) : Option (Int32 × zS) :=
  rec16 (k0 + k1) (a4 + 1)
set_option maxRecDepth 100000 in
theorem ok_X9_paid_J98 {l : Launch} {D : va_G} {ad : Nat → Nat} {cA : Nat → ClassId} (hj : zInj ad) (r : (Int32 × zS)) (s : zS) (a1 : Int32) (a4 : Int32) (k0 : Int64) (k1 : Int64) (rec16 : Int64 → Int32 → Option (Int32 × zS)) (hr16 : ∀ (b2 : Int64) (b4 : Int32), rec16 b2 b4 = some r → zOk l D ad cA (zJm jX9_paid) (zEnd D ad cA (some (.int r.1)) r.2) 16 [some (.ref 66), some (.int a1), some (.long b2), none, some (.int b4), none, none] [] s) (h : D_X9_paid_J98 rec16 s a1 a4 k0 k1 = some r) : zOk l D ad cA (zJm jX9_paid) (zEnd D ad cA (some (.int r.1)) r.2) 98 [some (.ref 66), some (.int a1), none, none, some (.int a4), none, none] [.long k1, .long k0] s := by
  unfold D_X9_paid_J98 at h
  refine zk_ladd dX9_paid_98 ?_
  refine zk_lstore_n (i := 2) dX9_paid_99 rfl (by decide) (zk_eq [_, _, _, _, _, _, _] rfl ?_)
  refine zk_iinc dX9_paid_100 rfl (zinc (m := 1) (by decide)) (by decide) (zk_eq [_, _, _, _, _, _, _] rfl ?_)
  refine zk_goto (tgt := 16) dX9_paid_103 rfl ?_
  exact hr16 _ _ h
def D_X9_paid_J58 (rec16 : Int64 → Int32 → Option (Int32 × zS)) (rec31 : Int32 → Int32 → Option (Int32 × zS)) (s : zS) (a1 : Int32) (a2 : Int64) (a4 : Int32) (a6 : Int32) (k0 : Int32) (k1 : Int32) : Option (Int32 × zS) :=
  rec31 (k0 + k1) (a6 + 1)
set_option maxRecDepth 100000 in
theorem ok_X9_paid_J58 {l : Launch} {D : va_G} {ad : Nat → Nat} {cA : Nat → ClassId} (hj : zInj ad) (r : (Int32 × zS)) (s : zS) (a1 : Int32) (a2 : Int64) (a4 : Int32) (a6 : Int32) (k0 : Int32) (k1 : Int32) (rec16 : Int64 → Int32 → Option (Int32 × zS)) (hr16 : ∀ (b2 : Int64) (b4 : Int32), rec16 b2 b4 = some r → zOk l D ad cA (zJm jX9_paid) (zEnd D ad cA (some (.int r.1)) r.2) 16 [some (.ref 66), some (.int a1), some (.long b2), none, some (.int b4), none, none] [] s) (rec31 : Int32 → Int32 → Option (Int32 × zS)) (hr31 : ∀ (b5 : Int32) (b6 : Int32), rec31 b5 b6 = some r → zOk l D ad cA (zJm jX9_paid) (zEnd D ad cA (some (.int r.1)) r.2) 31 [some (.ref 66), some (.int a1), some (.long a2), none, some (.int a4), some (.int b5), some (.int b6)] [] s) (h : D_X9_paid_J58 rec16 rec31 s a1 a2 a4 a6 k0 k1 = some r) : zOk l D ad cA (zJm jX9_paid) (zEnd D ad cA (some (.int r.1)) r.2) 58 [some (.ref 66), some (.int a1), some (.long a2), none, some (.int a4), none, some (.int a6)] [.int k1, .int k0] s := by
  unfold D_X9_paid_J58 at h
  refine zk_iadd dX9_paid_58 ?_
  refine zk_istore (i := 5) dX9_paid_59 (by decide) (zk_eq [_, _, _, _, _, _, _] rfl ?_)
  refine zk_iinc dX9_paid_61 rfl (zinc (m := 1) (by decide)) (by decide) (zk_eq [_, _, _, _, _, _, _] rfl ?_)
  refine zk_goto (tgt := 31) dX9_paid_64 rfl ?_
  exact hr31 _ _ h
def D_X9_paid_B31 (rec16 : Int64 → Int32 → Option (Int32 × zS)) (s : zS) (a1 : Int32) (a2 : Int64) (a4 : Int32) (rec31 : Int32 → Int32 → Option (Int32 × zS)) (a5 : Int32) (a6 : Int32) : Option (Int32 × zS) :=
    if (s.1 66 14) ≤ a6 then (
      (D_X9_isOnWay s a1 a4).bind fun p72 =>
      if p72 = 0 then (
        D_X9_paid_J98 rec16 s a1 a4 a2 (0 : Int64)
      ) else (
        zgd (zin a4 10 = true) <|
        if a5.toInt64 = 0 then none else
        D_X9_paid_J98 rec16 s a1 a4 a2 (((840 : Int64) * (s.1 72 a4.toNatClampNeg).toInt64) / a5.toInt64)
      )
    ) else (
      (D_X9_isOnWay s a6 a4).bind fun p47 =>
      if p47 = 0 then (
        D_X9_paid_J58 rec16 rec31 s a1 a2 a4 a6 a5 (0 : Int32)
      ) else (
        D_X9_paid_J58 rec16 rec31 s a1 a2 a4 a6 a5 (1 : Int32)
      )
    )
def D_X9_paid_L31 (rec16 : Int64 → Int32 → Option (Int32 × zS)) (s : zS) (a1 : Int32) (a2 : Int64) (a4 : Int32) (n : Nat) (a5 : Int32) (a6 : Int32) : Option (Int32 × zS) := zfx (fun (rec : Int32 × Int32 → Option (Int32 × zS)) q => D_X9_paid_B31 rec16 s a1 a2 a4 (fun v0 v1 => rec (v0, v1)) q.1 q.2) n (a5, a6)
set_option maxRecDepth 100000 in
theorem D_X9_paid_L31_s (rec16 : Int64 → Int32 → Option (Int32 × zS)) (s : zS) (a1 : Int32) (a2 : Int64) (a4 : Int32) (n : Nat) (a5 : Int32) (a6 : Int32) : D_X9_paid_L31 rec16 s a1 a2 a4 (n + 1) a5 a6 = D_X9_paid_B31 rec16 s a1 a2 a4 (D_X9_paid_L31 rec16 s a1 a2 a4 n) a5 a6 := rfl
set_option maxRecDepth 100000 in
theorem ok_X9_paid_L31 {l : Launch} {D : va_G} {ad : Nat → Nat} {cA : Nat → ClassId} (hj : zInj ad) (r : (Int32 × zS)) (s : zS) (a1 : Int32) (a2 : Int64) (a4 : Int32) (rec16 : Int64 → Int32 → Option (Int32 × zS)) (hr16 : ∀ (b2 : Int64) (b4 : Int32), rec16 b2 b4 = some r → zOk l D ad cA (zJm jX9_paid) (zEnd D ad cA (some (.int r.1)) r.2) 16 [some (.ref 66), some (.int a1), some (.long b2), none, some (.int b4), none, none] [] s) : ∀ (n : Nat) (a5 : Int32) (a6 : Int32), D_X9_paid_L31 rec16 s a1 a2 a4 n a5 a6 = some r → zOk l D ad cA (zJm jX9_paid) (zEnd D ad cA (some (.int r.1)) r.2) 31 [some (.ref 66), some (.int a1), some (.long a2), none, some (.int a4), some (.int a5), some (.int a6)] [] s := by
  intro n
  induction n with
  | zero =>
    intro a5 a6 h
    have h0 : (none : Option (Int32 × zS)) = some r := h
    cases h0
  | succ n hr31 =>
    intro a5 a6 h
    have h : D_X9_paid_B31 rec16 s a1 a2 a4 (D_X9_paid_L31 rec16 s a1 a2 a4 n) a5 a6 = some r := h
    unfold D_X9_paid_B31 at h
    refine zk_iload dX9_paid_31 rfl ?_
    refine zk_aload_n dX9_paid_33 rfl rfl ?_
    refine zf_X9_274 rfl dX9_paid_34 ?_
    refine zk_icmp_ge (tgt := 67) dX9_paid_37 rfl (fun g37 => ?_) (fun g37 => ?_)
    · replace h := zpos g37 h
      refine zk_lload_n dX9_paid_67 rfl rfl ?_
      refine zk_aload_n dX9_paid_68 rfl rfl ?_
      refine zk_iload_n dX9_paid_69 rfl rfl ?_
      refine zk_iload dX9_paid_70 rfl ?_
      obtain ⟨p72, h72, h⟩ := zbind h
      refine zc_X9_277 [.long _] (As := [.int _, .int _]) (ok_X9_isOnWay hj _ _ _ h72) rfl ⟨Nat.le_of_ble_eq_true rfl, Nat.le_of_ble_eq_true rfl⟩ ⟨Nat.le_refl _, Nat.le_refl _⟩ rfl rfl (Nat.le_of_ble_eq_true rfl) dX9_paid_72 ?_
      refine zk_if_eq (tgt := 97) dX9_paid_75 rfl (fun g75 => ?_) (fun g75 => ?_)
      · replace h := zpos g75 h
        refine zk_lconst (v := 0) dX9_paid_97 (by decide) ?_
        refine zk_mask [true, true, false, false, true, false, false] ?_
        exact ok_X9_paid_J98 hj r _ _ _ _ _ _ hr16 h
      · replace h := zneg g75 h
        refine zk_ldc2 dX9_paid_78 zw_X9_234 ?_
        refine zk_aload_n dX9_paid_81 rfl rfl ?_
        refine zf_X9_39 rfl dX9_paid_82 ?_
        refine zk_iload dX9_paid_85 rfl ?_
        obtain ⟨g87, h⟩ := zguard h
        refine zk_iald (zoI_of rfl g87) dX9_paid_87 ?_
        refine zk_i2l dX9_paid_88 ?_
        refine zk_lmul dX9_paid_89 ?_
        refine zk_iload dX9_paid_90 rfl ?_
        refine zk_i2l dX9_paid_92 ?_
        obtain ⟨g93, h⟩ := zguardn h
        refine zk_ldiv dX9_paid_93 g93 ?_
        refine zk_goto (tgt := 98) dX9_paid_94 rfl ?_
        refine zk_mask [true, true, false, false, true, false, false] ?_
        exact ok_X9_paid_J98 hj r _ _ _ _ _ _ hr16 h
    · replace h := zneg g37 h
      refine zk_iload dX9_paid_40 rfl ?_
      refine zk_aload_n dX9_paid_42 rfl rfl ?_
      refine zk_iload dX9_paid_43 rfl ?_
      refine zk_iload dX9_paid_45 rfl ?_
      obtain ⟨p47, h47, h⟩ := zbind h
      refine zc_X9_277 [.int _] (As := [.int _, .int _]) (ok_X9_isOnWay hj _ _ _ h47) rfl ⟨Nat.le_of_ble_eq_true rfl, Nat.le_of_ble_eq_true rfl⟩ ⟨Nat.le_refl _, Nat.le_refl _⟩ rfl rfl (Nat.le_of_ble_eq_true rfl) dX9_paid_47 ?_
      refine zk_if_eq (tgt := 57) dX9_paid_50 rfl (fun g50 => ?_) (fun g50 => ?_)
      · replace h := zpos g50 h
        refine zk_iconst (v := 0) dX9_paid_57 (by decide) ?_
        refine zk_mask [true, true, true, false, true, false, true] ?_
        exact ok_X9_paid_J58 hj r _ _ _ _ _ _ _ _ hr16 _ hr31 h
      · replace h := zneg g50 h
        refine zk_iconst (v := 1) dX9_paid_53 (by decide) ?_
        refine zk_goto (tgt := 58) dX9_paid_54 rfl ?_
        refine zk_mask [true, true, true, false, true, false, true] ?_
        exact ok_X9_paid_J58 hj r _ _ _ _ _ _ _ _ hr16 _ hr31 h
def D_X9_paid_B16 (s : zS) (a1 : Int32) (rec16 : Int64 → Int32 → Option (Int32 × zS)) (a2 : Int64) (a4 : Int32) : Option (Int32 × zS) :=
    if (s.1 66 11) ≤ a4 then (
      (D_X9_fraction s a2 (840 : Int64)).bind fun p111 =>
      some (p111.1, p111.2)
    ) else (
      D_X9_paid_L31 rec16 s a1 a2 a4 zFU (0 : Int32) (0 : Int32)
    )
def D_X9_paid_L16 (s : zS) (a1 : Int32) (n : Nat) (a2 : Int64) (a4 : Int32) : Option (Int32 × zS) := zfx (fun (rec : Int64 × Int32 → Option (Int32 × zS)) q => D_X9_paid_B16 s a1 (fun v0 v1 => rec (v0, v1)) q.1 q.2) n (a2, a4)
set_option maxRecDepth 100000 in
theorem D_X9_paid_L16_s (s : zS) (a1 : Int32) (n : Nat) (a2 : Int64) (a4 : Int32) : D_X9_paid_L16 s a1 (n + 1) a2 a4 = D_X9_paid_B16 s a1 (D_X9_paid_L16 s a1 n) a2 a4 := rfl
set_option maxRecDepth 100000 in
theorem ok_X9_paid_L16 {l : Launch} {D : va_G} {ad : Nat → Nat} {cA : Nat → ClassId} (hj : zInj ad) (r : (Int32 × zS)) (s : zS) (a1 : Int32) : ∀ (n : Nat) (a2 : Int64) (a4 : Int32), D_X9_paid_L16 s a1 n a2 a4 = some r → zOk l D ad cA (zJm jX9_paid) (zEnd D ad cA (some (.int r.1)) r.2) 16 [some (.ref 66), some (.int a1), some (.long a2), none, some (.int a4), none, none] [] s := by
  intro n
  induction n with
  | zero =>
    intro a2 a4 h
    have h0 : (none : Option (Int32 × zS)) = some r := h
    cases h0
  | succ n hr16 =>
    intro a2 a4 h
    have h : D_X9_paid_B16 s a1 (D_X9_paid_L16 s a1 n) a2 a4 = some r := h
    unfold D_X9_paid_B16 at h
    refine zk_iload dX9_paid_16 rfl ?_
    refine zk_aload_n dX9_paid_18 rfl rfl ?_
    refine zf_X9_33 rfl dX9_paid_19 ?_
    refine zk_icmp_ge (tgt := 106) dX9_paid_22 rfl (fun g22 => ?_) (fun g22 => ?_)
    · replace h := zpos g22 h
      refine zk_aload_n dX9_paid_106 rfl rfl ?_
      refine zk_lload_n dX9_paid_107 rfl rfl ?_
      refine zk_ldc2 dX9_paid_108 zw_X9_234 ?_
      obtain ⟨p111, h111, h⟩ := zbind h
      refine zc_X9_128 [] (As := [.long _, .long _]) (ok_X9_fraction hj _ _ _ h111) rfl ⟨Nat.le_of_ble_eq_true rfl, Nat.le_of_ble_eq_true rfl⟩ ⟨Nat.le_refl _, Nat.le_refl _⟩ rfl rfl (Nat.le_of_ble_eq_true rfl) dX9_paid_111 ?_
      have e9 := Option.some.inj h
      subst e9
      exact zk_iret rfl ⟨rfl, rfl⟩ dX9_paid_114
    · replace h := zneg g22 h
      refine zk_iconst (v := 0) dX9_paid_25 (by decide) ?_
      refine zk_istore (i := 5) dX9_paid_26 (by decide) (zk_eq [_, _, _, _, _, _, _] rfl ?_)
      refine zk_iconst (v := 0) dX9_paid_28 (by decide) ?_
      refine zk_istore (i := 6) dX9_paid_29 (by decide) (zk_eq [_, _, _, _, _, _, _] rfl ?_)
      exact ok_X9_paid_L31 hj r _ _ _ _ _ hr16 _ _ _ h
def D_X9_paid (s : zS) (a1 : Int32) : Option (Int32 × zS) :=
  (D_X9_isUser s a1).bind fun p2 =>
  if p2 = 0 then (
    some ((-2 : Int32), s)
  ) else (
    D_X9_paid_L16 s a1 zFU (0 : Int64) (1 : Int32)
  )
set_option maxRecDepth 100000 in
theorem ok_X9_paid {l : Launch} {D : va_G} {ad : Nat → Nat} {cA : Nat → ClassId} (hj : zInj ad) (s : zS) (a1 : Int32) {r : (Int32 × zS)} (h : D_X9_paid s a1 = some r) : zMet l D ad cA jX9_paid [.ref 66, .int a1] s (some (.int r.1)) r.2 := by
  refine zMet_of jX9_paid [some (.ref 66), some (.int a1), none, none, none, none, none] (by decide +kernel) (Nat.le_of_ble_eq_true rfl) rfl hj ?_
  unfold D_X9_paid at h
  refine zk_aload_n dX9_paid_0 rfl rfl ?_
  refine zk_iload_n dX9_paid_1 rfl rfl ?_
  obtain ⟨p2, h2, h⟩ := zbind h
  refine zc_X9_283 [] (As := [.int _]) (ok_X9_isUser hj _ _ h2) rfl ⟨Nat.le_of_ble_eq_true rfl, Nat.le_of_ble_eq_true rfl⟩ ⟨Nat.le_refl _, Nat.le_refl _⟩ rfl rfl (Nat.le_of_ble_eq_true rfl) dX9_paid_2 ?_
  refine zk_if_ne (tgt := 11) dX9_paid_5 rfl (fun g5 => ?_) (fun g5 => ?_)
  · replace h := zneg g5 h
    refine zk_lconst (v := 0) dX9_paid_11 (by decide) ?_
    refine zk_lstore_n (i := 2) dX9_paid_12 rfl (by decide) (zk_eq [_, _, _, _, _, _, _] rfl ?_)
    refine zk_iconst (v := 1) dX9_paid_13 (by decide) ?_
    refine zk_istore (i := 4) dX9_paid_14 (by decide) (zk_eq [_, _, _, _, _, _, _] rfl ?_)
    exact ok_X9_paid_L16 hj r _ _ _ _ _ h
  · replace h := zpos g5 h
    refine zk_bipush (v := -2) dX9_paid_8 (by decide) ?_
    have e9 := Option.some.inj h
    subst e9
    exact zk_iret rfl ⟨rfl, rfl⟩ dX9_paid_10
def D_X9_part (s : zS) (a1 : Int32) : Option Int64 :=
  if a1 = 0 then (
    some (s.2 66 3)
  ) else (
    if a1 = (1 : Int32) then (
      some (s.2 66 4)
    ) else (
      some (-1000000000000000000 : Int64)
    )
  )
set_option maxRecDepth 100000 in
theorem ok_X9_part {l : Launch} {D : va_G} {ad : Nat → Nat} {cA : Nat → ClassId} (hj : zInj ad) (s : zS) (a1 : Int32) {r : Int64} (h : D_X9_part s a1 = some r) : zMet l D ad cA jX9_part [.ref 66, .int a1] s (some (.long r)) s := by
  refine zMet_of jX9_part [some (.ref 66), some (.int a1)] (by decide +kernel) (Nat.le_of_ble_eq_true rfl) rfl hj ?_
  unfold D_X9_part at h
  refine zk_iload_n dX9_part_0 rfl rfl ?_
  refine zk_if_ne (tgt := 11) dX9_part_1 rfl (fun g1 => ?_) (fun g1 => ?_)
  · replace h := zneg g1 h
    refine zk_iload_n dX9_part_11 rfl rfl ?_
    refine zk_iconst (v := 1) dX9_part_12 (by decide) ?_
    refine zk_icmp_ne (tgt := 23) dX9_part_13 rfl (fun g13 => ?_) (fun g13 => ?_)
    · replace h := zneg g13 h
      refine zk_ldc2 dX9_part_23 zw_X9_132 ?_
      have e9 := Option.some.inj h
      subst e9
      exact zk_lret rfl ⟨rfl, rfl⟩ dX9_part_26
    · replace h := zpos g13 h
      refine zk_aload_n dX9_part_16 rfl rfl ?_
      refine zf_X9_20 rfl dX9_part_17 ?_
      refine zk_goto (tgt := 26) dX9_part_20 rfl ?_
      have e9 := Option.some.inj h
      subst e9
      exact zk_lret rfl ⟨rfl, rfl⟩ dX9_part_26
  · replace h := zpos g1 h
    refine zk_aload_n dX9_part_4 rfl rfl ?_
    refine zf_X9_100 rfl dX9_part_5 ?_
    refine zk_goto (tgt := 26) dX9_part_8 rfl ?_
    have e9 := Option.some.inj h
    subst e9
    exact zk_lret rfl ⟨rfl, rfl⟩ dX9_part_26
def D_X9_parting_J258 (rec26 : Int32 → Int32 → Int32 → Int32 → Option Int32) (s : zS) (a1 : Int32) (a5 : Int32) (a6 : Int32) (a7 : Int32) : Option Int32 :=
  rec26 a5 a6 a7 (a5 + 1)
set_option maxRecDepth 100000 in
theorem ok_X9_parting_J258 {l : Launch} {D : va_G} {ad : Nat → Nat} {cA : Nat → ClassId} (hj : zInj ad) (r : Int32) (s : zS) (a1 : Int32) (a5 : Int32) (a6 : Int32) (a7 : Int32) (rec26 : Int32 → Int32 → Int32 → Int32 → Option Int32) (hr26 : ∀ (b2 : Int32) (b3 : Int32) (b4 : Int32) (b5 : Int32), rec26 b2 b3 b4 b5 = some r → zOk l D ad cA (zJm jX9_parting) (zEnd D ad cA (some (.int r)) s) 26 [some (.ref 66), some (.int a1), some (.int b2), some (.int b3), some (.int b4), some (.int b5), none, none, none, none, none, none] [] s) (h : D_X9_parting_J258 rec26 s a1 a5 a6 a7 = some r) : zOk l D ad cA (zJm jX9_parting) (zEnd D ad cA (some (.int r)) s) 258 [some (.ref 66), some (.int a1), none, none, none, some (.int a5), some (.int a6), some (.int a7), none, none, none, none] [] s := by
  unfold D_X9_parting_J258 at h
  refine zk_iload dX9_parting_258 rfl ?_
  refine zk_istore_n (i := 2) dX9_parting_260 rfl (by decide) (zk_eq [_, _, _, _, _, _, _, _, _, _, _, _] rfl ?_)
  refine zk_iload dX9_parting_261 rfl ?_
  refine zk_istore_n (i := 3) dX9_parting_263 rfl (by decide) (zk_eq [_, _, _, _, _, _, _, _, _, _, _, _] rfl ?_)
  refine zk_iload dX9_parting_264 rfl ?_
  refine zk_istore (i := 4) dX9_parting_266 (by decide) (zk_eq [_, _, _, _, _, _, _, _, _, _, _, _] rfl ?_)
  refine zk_iinc dX9_parting_268 rfl (zinc (m := 1) (by decide)) (by decide) (zk_eq [_, _, _, _, _, _, _, _, _, _, _, _] rfl ?_)
  refine zk_goto (tgt := 26) dX9_parting_271 rfl ?_
  refine zk_mask [true, true, true, true, true, true, false, false, false, false, false, false] ?_
  exact hr26 _ _ _ _ h
def D_X9_parting_J229 (rec26 : Int32 → Int32 → Int32 → Int32 → Option Int32) (s : zS) (a1 : Int32) (a2 : Int32) (a3 : Int32) (a4 : Int32) (a5 : Int32) (a6 : Int32) (a7 : Int32) (a8 : Int32) : Option Int32 :=
  if a8 = 0 then (
    rec26 a2 a3 a4 (a5 + 1)
  ) else (
    if a2 = (-1 : Int32) then (
      D_X9_parting_J258 rec26 s a1 a5 a6 a7
    ) else (
      if a3 < a6 then (
        D_X9_parting_J258 rec26 s a1 a5 a6 a7
      ) else (
        if a6 = a3 then (
          if a4 ≤ a7 then (
            rec26 a2 a3 a4 (a5 + 1)
          ) else (
            D_X9_parting_J258 rec26 s a1 a5 a6 a7
          )
        ) else (
          rec26 a2 a3 a4 (a5 + 1)
        )
      )
    )
  )
set_option maxRecDepth 100000 in
theorem ok_X9_parting_J229 {l : Launch} {D : va_G} {ad : Nat → Nat} {cA : Nat → ClassId} (hj : zInj ad) (r : Int32) (s : zS) (a1 : Int32) (a2 : Int32) (a3 : Int32) (a4 : Int32) (a5 : Int32) (a6 : Int32) (a7 : Int32) (a8 : Int32) (rec26 : Int32 → Int32 → Int32 → Int32 → Option Int32) (hr26 : ∀ (b2 : Int32) (b3 : Int32) (b4 : Int32) (b5 : Int32), rec26 b2 b3 b4 b5 = some r → zOk l D ad cA (zJm jX9_parting) (zEnd D ad cA (some (.int r)) s) 26 [some (.ref 66), some (.int a1), some (.int b2), some (.int b3), some (.int b4), some (.int b5), none, none, none, none, none, none] [] s) (h : D_X9_parting_J229 rec26 s a1 a2 a3 a4 a5 a6 a7 a8 = some r) : zOk l D ad cA (zJm jX9_parting) (zEnd D ad cA (some (.int r)) s) 229 [some (.ref 66), some (.int a1), some (.int a2), some (.int a3), some (.int a4), some (.int a5), some (.int a6), some (.int a7), some (.int a8), none, none, none] [] s := by
  unfold D_X9_parting_J229 at h
  refine zk_iload dX9_parting_229 rfl ?_
  refine zk_if_eq (tgt := 268) dX9_parting_231 rfl (fun g231 => ?_) (fun g231 => ?_)
  · replace h := zpos g231 h
    refine zk_iinc dX9_parting_268 rfl (zinc (m := 1) (by decide)) (by decide) (zk_eq [_, _, _, _, _, _, _, _, _, _, _, _] rfl ?_)
    refine zk_goto (tgt := 26) dX9_parting_271 rfl ?_
    refine zk_mask [true, true, true, true, true, true, false, false, false, false, false, false] ?_
    exact hr26 _ _ _ _ h
  · replace h := zneg g231 h
    refine zk_iload_n dX9_parting_234 rfl rfl ?_
    refine zk_iconst (v := -1) dX9_parting_235 (by decide) ?_
    refine zk_icmp_eq (tgt := 258) dX9_parting_236 rfl (fun g236 => ?_) (fun g236 => ?_)
    · replace h := zpos g236 h
      refine zk_mask [true, true, false, false, false, true, true, true, false, false, false, false] ?_
      exact ok_X9_parting_J258 hj r _ _ _ _ _ _ hr26 h
    · replace h := zneg g236 h
      refine zk_iload dX9_parting_239 rfl ?_
      refine zk_iload_n dX9_parting_241 rfl rfl ?_
      refine zk_icmp_gt (tgt := 258) dX9_parting_242 rfl (fun g242 => ?_) (fun g242 => ?_)
      · replace h := zpos g242 h
        refine zk_mask [true, true, false, false, false, true, true, true, false, false, false, false] ?_
        exact ok_X9_parting_J258 hj r _ _ _ _ _ _ hr26 h
      · replace h := zneg g242 h
        refine zk_iload dX9_parting_245 rfl ?_
        refine zk_iload_n dX9_parting_247 rfl rfl ?_
        refine zk_icmp_ne (tgt := 268) dX9_parting_248 rfl (fun g248 => ?_) (fun g248 => ?_)
        · replace h := zneg g248 h
          refine zk_iinc dX9_parting_268 rfl (zinc (m := 1) (by decide)) (by decide) (zk_eq [_, _, _, _, _, _, _, _, _, _, _, _] rfl ?_)
          refine zk_goto (tgt := 26) dX9_parting_271 rfl ?_
          refine zk_mask [true, true, true, true, true, true, false, false, false, false, false, false] ?_
          exact hr26 _ _ _ _ h
        · replace h := zpos g248 h
          refine zk_iload dX9_parting_251 rfl ?_
          refine zk_iload dX9_parting_253 rfl ?_
          refine zk_icmp_ge (tgt := 268) dX9_parting_255 rfl (fun g255 => ?_) (fun g255 => ?_)
          · replace h := zpos g255 h
            refine zk_iinc dX9_parting_268 rfl (zinc (m := 1) (by decide)) (by decide) (zk_eq [_, _, _, _, _, _, _, _, _, _, _, _] rfl ?_)
            refine zk_goto (tgt := 26) dX9_parting_271 rfl ?_
            refine zk_mask [true, true, true, true, true, true, false, false, false, false, false, false] ?_
            exact hr26 _ _ _ _ h
          · replace h := zneg g255 h
            refine zk_mask [true, true, false, false, false, true, true, true, false, false, false, false] ?_
            exact ok_X9_parting_J258 hj r _ _ _ _ _ _ hr26 h
def D_X9_parting_J220 (rec26 : Int32 → Int32 → Int32 → Int32 → Option Int32) (rec127 : Int32 → Int32 → Int32 → Option Int32) (s : zS) (a1 : Int32) (a2 : Int32) (a3 : Int32) (a4 : Int32) (a5 : Int32) (a6 : Int32) (a8 : Int32) (a9 : Int32) (k0 : Int32) (k1 : Int32) : Option Int32 :=
  rec127 a6 (k0 + k1) (a9 + 1)
set_option maxRecDepth 100000 in
theorem ok_X9_parting_J220 {l : Launch} {D : va_G} {ad : Nat → Nat} {cA : Nat → ClassId} (hj : zInj ad) (r : Int32) (s : zS) (a1 : Int32) (a2 : Int32) (a3 : Int32) (a4 : Int32) (a5 : Int32) (a6 : Int32) (a8 : Int32) (a9 : Int32) (k0 : Int32) (k1 : Int32) (rec26 : Int32 → Int32 → Int32 → Int32 → Option Int32) (hr26 : ∀ (b2 : Int32) (b3 : Int32) (b4 : Int32) (b5 : Int32), rec26 b2 b3 b4 b5 = some r → zOk l D ad cA (zJm jX9_parting) (zEnd D ad cA (some (.int r)) s) 26 [some (.ref 66), some (.int a1), some (.int b2), some (.int b3), some (.int b4), some (.int b5), none, none, none, none, none, none] [] s) (rec127 : Int32 → Int32 → Int32 → Option Int32) (hr127 : ∀ (b6 : Int32) (b7 : Int32) (b9 : Int32), rec127 b6 b7 b9 = some r → zOk l D ad cA (zJm jX9_parting) (zEnd D ad cA (some (.int r)) s) 127 [some (.ref 66), some (.int a1), some (.int a2), some (.int a3), some (.int a4), some (.int a5), some (.int b6), some (.int b7), some (.int a8), some (.int b9), none, none] [] s) (h : D_X9_parting_J220 rec26 rec127 s a1 a2 a3 a4 a5 a6 a8 a9 k0 k1 = some r) : zOk l D ad cA (zJm jX9_parting) (zEnd D ad cA (some (.int r)) s) 220 [some (.ref 66), some (.int a1), some (.int a2), some (.int a3), some (.int a4), some (.int a5), some (.int a6), none, some (.int a8), some (.int a9), none, none] [.int k1, .int k0] s := by
  unfold D_X9_parting_J220 at h
  refine zk_iadd dX9_parting_220 ?_
  refine zk_istore (i := 7) dX9_parting_221 (by decide) (zk_eq [_, _, _, _, _, _, _, _, _, _, _, _] rfl ?_)
  refine zk_iinc dX9_parting_223 rfl (zinc (m := 1) (by decide)) (by decide) (zk_eq [_, _, _, _, _, _, _, _, _, _, _, _] rfl ?_)
  refine zk_goto (tgt := 127) dX9_parting_226 rfl ?_
  exact hr127 _ _ _ h
def D_X9_parting_J187 (rec26 : Int32 → Int32 → Int32 → Int32 → Option Int32) (rec127 : Int32 → Int32 → Int32 → Option Int32) (rec147 : Int32 → Int32 → Option Int32) (s : zS) (a1 : Int32) (a2 : Int32) (a3 : Int32) (a4 : Int32) (a5 : Int32) (a6 : Int32) (a7 : Int32) (a8 : Int32) (a9 : Int32) (a11 : Int32) (k0 : Int32) (k1 : Int32) : Option Int32 :=
  rec147 (k0 ||| k1) (a11 + 1)
set_option maxRecDepth 100000 in
theorem ok_X9_parting_J187 {l : Launch} {D : va_G} {ad : Nat → Nat} {cA : Nat → ClassId} (hj : zInj ad) (r : Int32) (s : zS) (a1 : Int32) (a2 : Int32) (a3 : Int32) (a4 : Int32) (a5 : Int32) (a6 : Int32) (a7 : Int32) (a8 : Int32) (a9 : Int32) (a11 : Int32) (k0 : Int32) (k1 : Int32) (rec26 : Int32 → Int32 → Int32 → Int32 → Option Int32) (hr26 : ∀ (b2 : Int32) (b3 : Int32) (b4 : Int32) (b5 : Int32), rec26 b2 b3 b4 b5 = some r → zOk l D ad cA (zJm jX9_parting) (zEnd D ad cA (some (.int r)) s) 26 [some (.ref 66), some (.int a1), some (.int b2), some (.int b3), some (.int b4), some (.int b5), none, none, none, none, none, none] [] s) (rec127 : Int32 → Int32 → Int32 → Option Int32) (hr127 : ∀ (b6 : Int32) (b7 : Int32) (b9 : Int32), rec127 b6 b7 b9 = some r → zOk l D ad cA (zJm jX9_parting) (zEnd D ad cA (some (.int r)) s) 127 [some (.ref 66), some (.int a1), some (.int a2), some (.int a3), some (.int a4), some (.int a5), some (.int b6), some (.int b7), some (.int a8), some (.int b9), none, none] [] s) (rec147 : Int32 → Int32 → Option Int32) (hr147 : ∀ (b10 : Int32) (b11 : Int32), rec147 b10 b11 = some r → zOk l D ad cA (zJm jX9_parting) (zEnd D ad cA (some (.int r)) s) 147 [some (.ref 66), some (.int a1), some (.int a2), some (.int a3), some (.int a4), some (.int a5), some (.int a6), some (.int a7), some (.int a8), some (.int a9), some (.int b10), some (.int b11)] [] s) (h : D_X9_parting_J187 rec26 rec127 rec147 s a1 a2 a3 a4 a5 a6 a7 a8 a9 a11 k0 k1 = some r) : zOk l D ad cA (zJm jX9_parting) (zEnd D ad cA (some (.int r)) s) 187 [some (.ref 66), some (.int a1), some (.int a2), some (.int a3), some (.int a4), some (.int a5), some (.int a6), some (.int a7), some (.int a8), some (.int a9), none, some (.int a11)] [.int k1, .int k0] s := by
  unfold D_X9_parting_J187 at h
  refine zk_ior dX9_parting_187 ?_
  refine zk_istore (i := 10) dX9_parting_188 (by decide) (zk_eq [_, _, _, _, _, _, _, _, _, _, _, _] rfl ?_)
  refine zk_iinc dX9_parting_190 rfl (zinc (m := 1) (by decide)) (by decide) (zk_eq [_, _, _, _, _, _, _, _, _, _, _, _] rfl ?_)
  refine zk_goto (tgt := 147) dX9_parting_193 rfl ?_
  exact hr147 _ _ h
def D_X9_parting_B147 (rec26 : Int32 → Int32 → Int32 → Int32 → Option Int32) (rec127 : Int32 → Int32 → Int32 → Option Int32) (s : zS) (a1 : Int32) (a2 : Int32) (a3 : Int32) (a4 : Int32) (a5 : Int32) (a6 : Int32) (a7 : Int32) (a8 : Int32) (a9 : Int32) (rec147 : Int32 → Int32 → Option Int32) (a10 : Int32) (a11 : Int32) : Option Int32 :=
    if (s.1 66 0) ≤ a11 then (
      zgd (zin a10 16 = true) <|
      if a10 = 0 then (
        D_X9_parting_J220 rec26 rec127 s a1 a2 a3 a4 a5 (a6 + (s.1 67 a10.toNatClampNeg)) a8 a9 a7 (0 : Int32)
      ) else (
        D_X9_parting_J220 rec26 rec127 s a1 a2 a3 a4 a5 (a6 + (s.1 67 a10.toNatClampNeg)) a8 a9 a7 (1 : Int32)
      )
    ) else (
      if ((a5 >>> (((2 : Int32) * (((s.1 66 0) - (1 : Int32)) - a11)) &&& 31)) &&& (3 : Int32)) = a9 then (
        D_X9_parting_J187 rec26 rec127 rec147 s a1 a2 a3 a4 a5 a6 a7 a8 a9 a11 a10 ((1 : Int32) <<< (a11 &&& 31))
      ) else (
        D_X9_parting_J187 rec26 rec127 rec147 s a1 a2 a3 a4 a5 a6 a7 a8 a9 a11 a10 (0 : Int32)
      )
    )
def D_X9_parting_L147 (rec26 : Int32 → Int32 → Int32 → Int32 → Option Int32) (rec127 : Int32 → Int32 → Int32 → Option Int32) (s : zS) (a1 : Int32) (a2 : Int32) (a3 : Int32) (a4 : Int32) (a5 : Int32) (a6 : Int32) (a7 : Int32) (a8 : Int32) (a9 : Int32) (n : Nat) (a10 : Int32) (a11 : Int32) : Option Int32 := zfx (fun (rec : Int32 × Int32 → Option Int32) q => D_X9_parting_B147 rec26 rec127 s a1 a2 a3 a4 a5 a6 a7 a8 a9 (fun v0 v1 => rec (v0, v1)) q.1 q.2) n (a10, a11)
set_option maxRecDepth 100000 in
theorem D_X9_parting_L147_s (rec26 : Int32 → Int32 → Int32 → Int32 → Option Int32) (rec127 : Int32 → Int32 → Int32 → Option Int32) (s : zS) (a1 : Int32) (a2 : Int32) (a3 : Int32) (a4 : Int32) (a5 : Int32) (a6 : Int32) (a7 : Int32) (a8 : Int32) (a9 : Int32) (n : Nat) (a10 : Int32) (a11 : Int32) : D_X9_parting_L147 rec26 rec127 s a1 a2 a3 a4 a5 a6 a7 a8 a9 (n + 1) a10 a11 = D_X9_parting_B147 rec26 rec127 s a1 a2 a3 a4 a5 a6 a7 a8 a9 (D_X9_parting_L147 rec26 rec127 s a1 a2 a3 a4 a5 a6 a7 a8 a9 n) a10 a11 := rfl
set_option maxRecDepth 100000 in
theorem ok_X9_parting_L147 {l : Launch} {D : va_G} {ad : Nat → Nat} {cA : Nat → ClassId} (hj : zInj ad) (r : Int32) (s : zS) (a1 : Int32) (a2 : Int32) (a3 : Int32) (a4 : Int32) (a5 : Int32) (a6 : Int32) (a7 : Int32) (a8 : Int32) (a9 : Int32) (rec26 : Int32 → Int32 → Int32 → Int32 → Option Int32) (hr26 : ∀ (b2 : Int32) (b3 : Int32) (b4 : Int32) (b5 : Int32), rec26 b2 b3 b4 b5 = some r → zOk l D ad cA (zJm jX9_parting) (zEnd D ad cA (some (.int r)) s) 26 [some (.ref 66), some (.int a1), some (.int b2), some (.int b3), some (.int b4), some (.int b5), none, none, none, none, none, none] [] s) (rec127 : Int32 → Int32 → Int32 → Option Int32) (hr127 : ∀ (b6 : Int32) (b7 : Int32) (b9 : Int32), rec127 b6 b7 b9 = some r → zOk l D ad cA (zJm jX9_parting) (zEnd D ad cA (some (.int r)) s) 127 [some (.ref 66), some (.int a1), some (.int a2), some (.int a3), some (.int a4), some (.int a5), some (.int b6), some (.int b7), some (.int a8), some (.int b9), none, none] [] s) : ∀ (n : Nat) (a10 : Int32) (a11 : Int32), D_X9_parting_L147 rec26 rec127 s a1 a2 a3 a4 a5 a6 a7 a8 a9 n a10 a11 = some r → zOk l D ad cA (zJm jX9_parting) (zEnd D ad cA (some (.int r)) s) 147 [some (.ref 66), some (.int a1), some (.int a2), some (.int a3), some (.int a4), some (.int a5), some (.int a6), some (.int a7), some (.int a8), some (.int a9), some (.int a10), some (.int a11)] [] s := by
  intro n
  induction n with
  | zero =>
    intro a10 a11 h
    have h0 : (none : Option Int32) = some r := h
    cases h0
  | succ n hr147 =>
    intro a10 a11 h
    have h : D_X9_parting_B147 rec26 rec127 s a1 a2 a3 a4 a5 a6 a7 a8 a9 (D_X9_parting_L147 rec26 rec127 s a1 a2 a3 a4 a5 a6 a7 a8 a9 n) a10 a11 = some r := h
    unfold D_X9_parting_B147 at h
    refine zk_iload dX9_parting_147 rfl ?_
    refine zk_aload_n dX9_parting_149 rfl rfl ?_
    refine zf_X9_7 rfl dX9_parting_150 ?_
    refine zk_icmp_ge (tgt := 196) dX9_parting_153 rfl (fun g153 => ?_) (fun g153 => ?_)
    · replace h := zpos g153 h
      refine zk_iload dX9_parting_196 rfl ?_
      refine zk_aload_n dX9_parting_198 rfl rfl ?_
      refine zf_X9_13 rfl dX9_parting_199 ?_
      refine zk_iload dX9_parting_202 rfl ?_
      obtain ⟨g204, h⟩ := zguard h
      refine zk_iald (zoI_of rfl g204) dX9_parting_204 ?_
      refine zk_iadd dX9_parting_205 ?_
      refine zk_istore (i := 6) dX9_parting_206 (by decide) (zk_eq [_, _, _, _, _, _, _, _, _, _, _, _] rfl ?_)
      refine zk_iload dX9_parting_208 rfl ?_
      refine zk_iload dX9_parting_210 rfl ?_
      refine zk_if_eq (tgt := 219) dX9_parting_212 rfl (fun g212 => ?_) (fun g212 => ?_)
      · replace h := zpos g212 h
        refine zk_iconst (v := 0) dX9_parting_219 (by decide) ?_
        refine zk_mask [true, true, true, true, true, true, true, false, true, true, false, false] ?_
        exact ok_X9_parting_J220 hj r _ _ _ _ _ _ _ _ _ _ _ _ hr26 _ hr127 h
      · replace h := zneg g212 h
        refine zk_iconst (v := 1) dX9_parting_215 (by decide) ?_
        refine zk_goto (tgt := 220) dX9_parting_216 rfl ?_
        refine zk_mask [true, true, true, true, true, true, true, false, true, true, false, false] ?_
        exact ok_X9_parting_J220 hj r _ _ _ _ _ _ _ _ _ _ _ _ hr26 _ hr127 h
    · replace h := zneg g153 h
      refine zk_iload dX9_parting_156 rfl ?_
      refine zk_iload dX9_parting_158 rfl ?_
      refine zk_iconst (v := 2) dX9_parting_160 (by decide) ?_
      refine zk_aload_n dX9_parting_161 rfl rfl ?_
      refine zf_X9_7 rfl dX9_parting_162 ?_
      refine zk_iconst (v := 1) dX9_parting_165 (by decide) ?_
      refine zk_isub dX9_parting_166 ?_
      refine zk_iload dX9_parting_167 rfl ?_
      refine zk_isub dX9_parting_169 ?_
      refine zk_imul dX9_parting_170 ?_
      refine zk_ishr dX9_parting_171 ?_
      refine zk_iconst (v := 3) dX9_parting_172 (by decide) ?_
      refine zk_iand dX9_parting_173 ?_
      refine zk_iload dX9_parting_174 rfl ?_
      refine zk_icmp_ne (tgt := 186) dX9_parting_176 rfl (fun g176 => ?_) (fun g176 => ?_)
      · replace h := zneg g176 h
        refine zk_iconst (v := 0) dX9_parting_186 (by decide) ?_
        refine zk_mask [true, true, true, true, true, true, true, true, true, true, false, true] ?_
        exact ok_X9_parting_J187 hj r _ _ _ _ _ _ _ _ _ _ _ _ _ _ hr26 _ hr127 _ hr147 h
      · replace h := zpos g176 h
        refine zk_iconst (v := 1) dX9_parting_179 (by decide) ?_
        refine zk_iload dX9_parting_180 rfl ?_
        refine zk_ishl dX9_parting_182 ?_
        refine zk_goto (tgt := 187) dX9_parting_183 rfl ?_
        refine zk_mask [true, true, true, true, true, true, true, true, true, true, false, true] ?_
        exact ok_X9_parting_J187 hj r _ _ _ _ _ _ _ _ _ _ _ _ _ _ hr26 _ hr127 _ hr147 h
def D_X9_parting_B127 (rec26 : Int32 → Int32 → Int32 → Int32 → Option Int32) (s : zS) (a1 : Int32) (a2 : Int32) (a3 : Int32) (a4 : Int32) (a5 : Int32) (a8 : Int32) (rec127 : Int32 → Int32 → Int32 → Option Int32) (a6 : Int32) (a7 : Int32) (a9 : Int32) : Option Int32 :=
    if (s.1 66 0) ≤ a9 then (
      D_X9_parting_J229 rec26 s a1 a2 a3 a4 a5 a6 a7 a8
    ) else (
      if a8 = 0 then (
        D_X9_parting_J229 rec26 s a1 a2 a3 a4 a5 a6 a7 a8
      ) else (
        D_X9_parting_L147 rec26 rec127 s a1 a2 a3 a4 a5 a6 a7 a8 a9 zFU (0 : Int32) (0 : Int32)
      )
    )
def D_X9_parting_L127 (rec26 : Int32 → Int32 → Int32 → Int32 → Option Int32) (s : zS) (a1 : Int32) (a2 : Int32) (a3 : Int32) (a4 : Int32) (a5 : Int32) (a8 : Int32) (n : Nat) (a6 : Int32) (a7 : Int32) (a9 : Int32) : Option Int32 := zfx (fun (rec : Int32 × Int32 × Int32 → Option Int32) q => D_X9_parting_B127 rec26 s a1 a2 a3 a4 a5 a8 (fun v0 v1 v2 => rec (v0, v1, v2)) q.1 q.2.1 q.2.2) n (a6, a7, a9)
set_option maxRecDepth 100000 in
theorem D_X9_parting_L127_s (rec26 : Int32 → Int32 → Int32 → Int32 → Option Int32) (s : zS) (a1 : Int32) (a2 : Int32) (a3 : Int32) (a4 : Int32) (a5 : Int32) (a8 : Int32) (n : Nat) (a6 : Int32) (a7 : Int32) (a9 : Int32) : D_X9_parting_L127 rec26 s a1 a2 a3 a4 a5 a8 (n + 1) a6 a7 a9 = D_X9_parting_B127 rec26 s a1 a2 a3 a4 a5 a8 (D_X9_parting_L127 rec26 s a1 a2 a3 a4 a5 a8 n) a6 a7 a9 := rfl
set_option maxRecDepth 100000 in
theorem ok_X9_parting_L127 {l : Launch} {D : va_G} {ad : Nat → Nat} {cA : Nat → ClassId} (hj : zInj ad) (r : Int32) (s : zS) (a1 : Int32) (a2 : Int32) (a3 : Int32) (a4 : Int32) (a5 : Int32) (a8 : Int32) (rec26 : Int32 → Int32 → Int32 → Int32 → Option Int32) (hr26 : ∀ (b2 : Int32) (b3 : Int32) (b4 : Int32) (b5 : Int32), rec26 b2 b3 b4 b5 = some r → zOk l D ad cA (zJm jX9_parting) (zEnd D ad cA (some (.int r)) s) 26 [some (.ref 66), some (.int a1), some (.int b2), some (.int b3), some (.int b4), some (.int b5), none, none, none, none, none, none] [] s) : ∀ (n : Nat) (a6 : Int32) (a7 : Int32) (a9 : Int32), D_X9_parting_L127 rec26 s a1 a2 a3 a4 a5 a8 n a6 a7 a9 = some r → zOk l D ad cA (zJm jX9_parting) (zEnd D ad cA (some (.int r)) s) 127 [some (.ref 66), some (.int a1), some (.int a2), some (.int a3), some (.int a4), some (.int a5), some (.int a6), some (.int a7), some (.int a8), some (.int a9), none, none] [] s := by
  intro n
  induction n with
  | zero =>
    intro a6 a7 a9 h
    have h0 : (none : Option Int32) = some r := h
    cases h0
  | succ n hr127 =>
    intro a6 a7 a9 h
    have h : D_X9_parting_B127 rec26 s a1 a2 a3 a4 a5 a8 (D_X9_parting_L127 rec26 s a1 a2 a3 a4 a5 a8 n) a6 a7 a9 = some r := h
    unfold D_X9_parting_B127 at h
    refine zk_iload dX9_parting_127 rfl ?_
    refine zk_aload_n dX9_parting_129 rfl rfl ?_
    refine zf_X9_7 rfl dX9_parting_130 ?_
    refine zk_icmp_ge (tgt := 229) dX9_parting_133 rfl (fun g133 => ?_) (fun g133 => ?_)
    · replace h := zpos g133 h
      refine zk_mask [true, true, true, true, true, true, true, true, true, false, false, false] ?_
      exact ok_X9_parting_J229 hj r _ _ _ _ _ _ _ _ _ _ hr26 h
    · replace h := zneg g133 h
      refine zk_iload dX9_parting_136 rfl ?_
      refine zk_if_eq (tgt := 229) dX9_parting_138 rfl (fun g138 => ?_) (fun g138 => ?_)
      · replace h := zpos g138 h
        refine zk_mask [true, true, true, true, true, true, true, true, true, false, false, false] ?_
        exact ok_X9_parting_J229 hj r _ _ _ _ _ _ _ _ _ _ hr26 h
      · replace h := zneg g138 h
        refine zk_iconst (v := 0) dX9_parting_141 (by decide) ?_
        refine zk_istore (i := 10) dX9_parting_142 (by decide) (zk_eq [_, _, _, _, _, _, _, _, _, _, _, _] rfl ?_)
        refine zk_iconst (v := 0) dX9_parting_144 (by decide) ?_
        refine zk_istore (i := 11) dX9_parting_145 (by decide) (zk_eq [_, _, _, _, _, _, _, _, _, _, _, _] rfl ?_)
        exact ok_X9_parting_L147 hj r _ _ _ _ _ _ _ _ _ _ _ hr26 _ hr127 _ _ _ h
def D_X9_parting_J115 (rec26 : Int32 → Int32 → Int32 → Int32 → Option Int32) (rec51 : Int32 → Int32 → Option Int32) (s : zS) (a1 : Int32) (a2 : Int32) (a3 : Int32) (a4 : Int32) (a5 : Int32) (a6 : Int32) (a7 : Int32) (a9 : Int32) : Option Int32 :=
  rec51 (0 : Int32) (a9 + 1)
set_option maxRecDepth 100000 in
theorem ok_X9_parting_J115 {l : Launch} {D : va_G} {ad : Nat → Nat} {cA : Nat → ClassId} (hj : zInj ad) (r : Int32) (s : zS) (a1 : Int32) (a2 : Int32) (a3 : Int32) (a4 : Int32) (a5 : Int32) (a6 : Int32) (a7 : Int32) (a9 : Int32) (rec26 : Int32 → Int32 → Int32 → Int32 → Option Int32) (hr26 : ∀ (b2 : Int32) (b3 : Int32) (b4 : Int32) (b5 : Int32), rec26 b2 b3 b4 b5 = some r → zOk l D ad cA (zJm jX9_parting) (zEnd D ad cA (some (.int r)) s) 26 [some (.ref 66), some (.int a1), some (.int b2), some (.int b3), some (.int b4), some (.int b5), none, none, none, none, none, none] [] s) (rec51 : Int32 → Int32 → Option Int32) (hr51 : ∀ (b8 : Int32) (b9 : Int32), rec51 b8 b9 = some r → zOk l D ad cA (zJm jX9_parting) (zEnd D ad cA (some (.int r)) s) 51 [some (.ref 66), some (.int a1), some (.int a2), some (.int a3), some (.int a4), some (.int a5), some (.int a6), some (.int a7), some (.int b8), some (.int b9), none, none] [] s) (h : D_X9_parting_J115 rec26 rec51 s a1 a2 a3 a4 a5 a6 a7 a9 = some r) : zOk l D ad cA (zJm jX9_parting) (zEnd D ad cA (some (.int r)) s) 115 [some (.ref 66), some (.int a1), some (.int a2), some (.int a3), some (.int a4), some (.int a5), some (.int a6), some (.int a7), none, some (.int a9), none, none] [] s := by
  unfold D_X9_parting_J115 at h
  refine zk_iconst (v := 0) dX9_parting_115 (by decide) ?_
  refine zk_istore (i := 8) dX9_parting_116 (by decide) (zk_eq [_, _, _, _, _, _, _, _, _, _, _, _] rfl ?_)
  refine zk_iinc dX9_parting_118 rfl (zinc (m := 1) (by decide)) (by decide) (zk_eq [_, _, _, _, _, _, _, _, _, _, _, _] rfl ?_)
  refine zk_goto (tgt := 51) dX9_parting_121 rfl ?_
  exact hr51 _ _ h
def D_X9_parting_B51 (rec26 : Int32 → Int32 → Int32 → Int32 → Option Int32) (s : zS) (a1 : Int32) (a2 : Int32) (a3 : Int32) (a4 : Int32) (a5 : Int32) (a6 : Int32) (a7 : Int32) (rec51 : Int32 → Int32 → Option Int32) (a8 : Int32) (a9 : Int32) : Option Int32 :=
    if (s.1 66 0) ≤ a9 then (
      D_X9_parting_L127 rec26 s a1 a2 a3 a4 a5 a8 zFU a6 a7 (0 : Int32)
    ) else (
      if a8 = 0 then (
        D_X9_parting_J115 rec26 rec51 s a1 a2 a3 a4 a5 a6 a7 a9
      ) else (
        if a9 < ((a5 >>> (((2 : Int32) * (((s.1 66 0) - (1 : Int32)) - a9)) &&& 31)) &&& (3 : Int32)) then (
          D_X9_parting_J115 rec26 rec51 s a1 a2 a3 a4 a5 a6 a7 a9
        ) else (
          if ((a5 >>> (((2 : Int32) * (((s.1 66 0) - (1 : Int32)) - ((a5 >>> (((2 : Int32) * (((s.1 66 0) - (1 : Int32)) - a9)) &&& 31)) &&& (3 : Int32)))) &&& 31)) &&& (3 : Int32)) = ((a5 >>> (((2 : Int32) * (((s.1 66 0) - (1 : Int32)) - a9)) &&& 31)) &&& (3 : Int32)) then (
            rec51 (1 : Int32) (a9 + 1)
          ) else (
            D_X9_parting_J115 rec26 rec51 s a1 a2 a3 a4 a5 a6 a7 a9
          )
        )
      )
    )
def D_X9_parting_L51 (rec26 : Int32 → Int32 → Int32 → Int32 → Option Int32) (s : zS) (a1 : Int32) (a2 : Int32) (a3 : Int32) (a4 : Int32) (a5 : Int32) (a6 : Int32) (a7 : Int32) (n : Nat) (a8 : Int32) (a9 : Int32) : Option Int32 := zfx (fun (rec : Int32 × Int32 → Option Int32) q => D_X9_parting_B51 rec26 s a1 a2 a3 a4 a5 a6 a7 (fun v0 v1 => rec (v0, v1)) q.1 q.2) n (a8, a9)
set_option maxRecDepth 100000 in
theorem D_X9_parting_L51_s (rec26 : Int32 → Int32 → Int32 → Int32 → Option Int32) (s : zS) (a1 : Int32) (a2 : Int32) (a3 : Int32) (a4 : Int32) (a5 : Int32) (a6 : Int32) (a7 : Int32) (n : Nat) (a8 : Int32) (a9 : Int32) : D_X9_parting_L51 rec26 s a1 a2 a3 a4 a5 a6 a7 (n + 1) a8 a9 = D_X9_parting_B51 rec26 s a1 a2 a3 a4 a5 a6 a7 (D_X9_parting_L51 rec26 s a1 a2 a3 a4 a5 a6 a7 n) a8 a9 := rfl
set_option maxRecDepth 100000 in
theorem ok_X9_parting_L51 {l : Launch} {D : va_G} {ad : Nat → Nat} {cA : Nat → ClassId} (hj : zInj ad) (r : Int32) (s : zS) (a1 : Int32) (a2 : Int32) (a3 : Int32) (a4 : Int32) (a5 : Int32) (a6 : Int32) (a7 : Int32) (rec26 : Int32 → Int32 → Int32 → Int32 → Option Int32) (hr26 : ∀ (b2 : Int32) (b3 : Int32) (b4 : Int32) (b5 : Int32), rec26 b2 b3 b4 b5 = some r → zOk l D ad cA (zJm jX9_parting) (zEnd D ad cA (some (.int r)) s) 26 [some (.ref 66), some (.int a1), some (.int b2), some (.int b3), some (.int b4), some (.int b5), none, none, none, none, none, none] [] s) : ∀ (n : Nat) (a8 : Int32) (a9 : Int32), D_X9_parting_L51 rec26 s a1 a2 a3 a4 a5 a6 a7 n a8 a9 = some r → zOk l D ad cA (zJm jX9_parting) (zEnd D ad cA (some (.int r)) s) 51 [some (.ref 66), some (.int a1), some (.int a2), some (.int a3), some (.int a4), some (.int a5), some (.int a6), some (.int a7), some (.int a8), some (.int a9), none, none] [] s := by
  intro n
  induction n with
  | zero =>
    intro a8 a9 h
    have h0 : (none : Option Int32) = some r := h
    cases h0
  | succ n hr51 =>
    intro a8 a9 h
    have h : D_X9_parting_B51 rec26 s a1 a2 a3 a4 a5 a6 a7 (D_X9_parting_L51 rec26 s a1 a2 a3 a4 a5 a6 a7 n) a8 a9 = some r := h
    unfold D_X9_parting_B51 at h
    refine zk_iload dX9_parting_51 rfl ?_
    refine zk_aload_n dX9_parting_53 rfl rfl ?_
    refine zf_X9_7 rfl dX9_parting_54 ?_
    refine zk_icmp_ge (tgt := 124) dX9_parting_57 rfl (fun g57 => ?_) (fun g57 => ?_)
    · replace h := zpos g57 h
      refine zk_iconst (v := 0) dX9_parting_124 (by decide) ?_
      refine zk_istore (i := 9) dX9_parting_125 (by decide) (zk_eq [_, _, _, _, _, _, _, _, _, _, _, _] rfl ?_)
      exact ok_X9_parting_L127 hj r _ _ _ _ _ _ _ _ hr26 _ _ _ _ h
    · replace h := zneg g57 h
      refine zk_iload dX9_parting_60 rfl ?_
      refine zk_iconst (v := 2) dX9_parting_62 (by decide) ?_
      refine zk_aload_n dX9_parting_63 rfl rfl ?_
      refine zf_X9_7 rfl dX9_parting_64 ?_
      refine zk_iconst (v := 1) dX9_parting_67 (by decide) ?_
      refine zk_isub dX9_parting_68 ?_
      refine zk_iload dX9_parting_69 rfl ?_
      refine zk_isub dX9_parting_71 ?_
      refine zk_imul dX9_parting_72 ?_
      refine zk_ishr dX9_parting_73 ?_
      refine zk_iconst (v := 3) dX9_parting_74 (by decide) ?_
      refine zk_iand dX9_parting_75 ?_
      refine zk_istore (i := 10) dX9_parting_76 (by decide) (zk_eq [_, _, _, _, _, _, _, _, _, _, _, _] rfl ?_)
      refine zk_iload dX9_parting_78 rfl ?_
      refine zk_if_eq (tgt := 115) dX9_parting_80 rfl (fun g80 => ?_) (fun g80 => ?_)
      · replace h := zpos g80 h
        refine zk_mask [true, true, true, true, true, true, true, true, false, true, false, false] ?_
        exact ok_X9_parting_J115 hj r _ _ _ _ _ _ _ _ _ _ hr26 _ hr51 h
      · replace h := zneg g80 h
        refine zk_iload dX9_parting_83 rfl ?_
        refine zk_iload dX9_parting_85 rfl ?_
        refine zk_icmp_gt (tgt := 115) dX9_parting_87 rfl (fun g87 => ?_) (fun g87 => ?_)
        · replace h := zpos g87 h
          refine zk_mask [true, true, true, true, true, true, true, true, false, true, false, false] ?_
          exact ok_X9_parting_J115 hj r _ _ _ _ _ _ _ _ _ _ hr26 _ hr51 h
        · replace h := zneg g87 h
          refine zk_iload dX9_parting_90 rfl ?_
          refine zk_iconst (v := 2) dX9_parting_92 (by decide) ?_
          refine zk_aload_n dX9_parting_93 rfl rfl ?_
          refine zf_X9_7 rfl dX9_parting_94 ?_
          refine zk_iconst (v := 1) dX9_parting_97 (by decide) ?_
          refine zk_isub dX9_parting_98 ?_
          refine zk_iload dX9_parting_99 rfl ?_
          refine zk_isub dX9_parting_101 ?_
          refine zk_imul dX9_parting_102 ?_
          refine zk_ishr dX9_parting_103 ?_
          refine zk_iconst (v := 3) dX9_parting_104 (by decide) ?_
          refine zk_iand dX9_parting_105 ?_
          refine zk_iload dX9_parting_106 rfl ?_
          refine zk_icmp_ne (tgt := 115) dX9_parting_108 rfl (fun g108 => ?_) (fun g108 => ?_)
          · replace h := zneg g108 h
            refine zk_mask [true, true, true, true, true, true, true, true, false, true, false, false] ?_
            exact ok_X9_parting_J115 hj r _ _ _ _ _ _ _ _ _ _ hr26 _ hr51 h
          · replace h := zpos g108 h
            refine zk_iconst (v := 1) dX9_parting_111 (by decide) ?_
            refine zk_goto (tgt := 116) dX9_parting_112 rfl ?_
            refine zk_istore (i := 8) dX9_parting_116 (by decide) (zk_eq [_, _, _, _, _, _, _, _, _, _, _, _] rfl ?_)
            refine zk_iinc dX9_parting_118 rfl (zinc (m := 1) (by decide)) (by decide) (zk_eq [_, _, _, _, _, _, _, _, _, _, _, _] rfl ?_)
            refine zk_goto (tgt := 51) dX9_parting_121 rfl ?_
            refine zk_mask [true, true, true, true, true, true, true, true, true, true, false, false] ?_
            exact hr51 _ _ h
def D_X9_parting_B26 (s : zS) (a1 : Int32) (rec26 : Int32 → Int32 → Int32 → Int32 → Option Int32) (a2 : Int32) (a3 : Int32) (a4 : Int32) (a5 : Int32) : Option Int32 :=
    if ((1 : Int32) <<< (((2 : Int32) * (s.1 66 0)) &&& 31)) ≤ a5 then (
      if a1 = (-1 : Int32) then (
        some a3
      ) else (
        some ((a2 >>> (((2 : Int32) * (((s.1 66 0) - (1 : Int32)) - a1)) &&& 31)) &&& (3 : Int32))
      )
    ) else (
      D_X9_parting_L51 rec26 s a1 a2 a3 a4 a5 (0 : Int32) (0 : Int32) zFU (1 : Int32) (0 : Int32)
    )
def D_X9_parting_L26 (s : zS) (a1 : Int32) (n : Nat) (a2 : Int32) (a3 : Int32) (a4 : Int32) (a5 : Int32) : Option Int32 := zfx (fun (rec : Int32 × Int32 × Int32 × Int32 → Option Int32) q => D_X9_parting_B26 s a1 (fun v0 v1 v2 v3 => rec (v0, v1, v2, v3)) q.1 q.2.1 q.2.2.1 q.2.2.2) n (a2, a3, a4, a5)
set_option maxRecDepth 100000 in
theorem D_X9_parting_L26_s (s : zS) (a1 : Int32) (n : Nat) (a2 : Int32) (a3 : Int32) (a4 : Int32) (a5 : Int32) : D_X9_parting_L26 s a1 (n + 1) a2 a3 a4 a5 = D_X9_parting_B26 s a1 (D_X9_parting_L26 s a1 n) a2 a3 a4 a5 := rfl
set_option maxRecDepth 100000 in
theorem ok_X9_parting_L26 {l : Launch} {D : va_G} {ad : Nat → Nat} {cA : Nat → ClassId} (hj : zInj ad) (r : Int32) (s : zS) (a1 : Int32) : ∀ (n : Nat) (a2 : Int32) (a3 : Int32) (a4 : Int32) (a5 : Int32), D_X9_parting_L26 s a1 n a2 a3 a4 a5 = some r → zOk l D ad cA (zJm jX9_parting) (zEnd D ad cA (some (.int r)) s) 26 [some (.ref 66), some (.int a1), some (.int a2), some (.int a3), some (.int a4), some (.int a5), none, none, none, none, none, none] [] s := by
  intro n
  induction n with
  | zero =>
    intro a2 a3 a4 a5 h
    have h0 : (none : Option Int32) = some r := h
    cases h0
  | succ n hr26 =>
    intro a2 a3 a4 a5 h
    have h : D_X9_parting_B26 s a1 (D_X9_parting_L26 s a1 n) a2 a3 a4 a5 = some r := h
    unfold D_X9_parting_B26 at h
    refine zk_iload dX9_parting_26 rfl ?_
    refine zk_iconst (v := 1) dX9_parting_28 (by decide) ?_
    refine zk_iconst (v := 2) dX9_parting_29 (by decide) ?_
    refine zk_aload_n dX9_parting_30 rfl rfl ?_
    refine zf_X9_7 rfl dX9_parting_31 ?_
    refine zk_imul dX9_parting_34 ?_
    refine zk_ishl dX9_parting_35 ?_
    refine zk_icmp_ge (tgt := 274) dX9_parting_36 rfl (fun g36 => ?_) (fun g36 => ?_)
    · replace h := zpos g36 h
      refine zk_iload_n dX9_parting_274 rfl rfl ?_
      refine zk_iconst (v := -1) dX9_parting_275 (by decide) ?_
      refine zk_icmp_ne (tgt := 283) dX9_parting_276 rfl (fun g276 => ?_) (fun g276 => ?_)
      · replace h := zneg g276 h
        refine zk_iload_n dX9_parting_283 rfl rfl ?_
        refine zk_iconst (v := 2) dX9_parting_284 (by decide) ?_
        refine zk_aload_n dX9_parting_285 rfl rfl ?_
        refine zf_X9_7 rfl dX9_parting_286 ?_
        refine zk_iconst (v := 1) dX9_parting_289 (by decide) ?_
        refine zk_isub dX9_parting_290 ?_
        refine zk_iload_n dX9_parting_291 rfl rfl ?_
        refine zk_isub dX9_parting_292 ?_
        refine zk_imul dX9_parting_293 ?_
        refine zk_ishr dX9_parting_294 ?_
        refine zk_iconst (v := 3) dX9_parting_295 (by decide) ?_
        refine zk_iand dX9_parting_296 ?_
        have e9 := Option.some.inj h
        subst e9
        exact zk_iret rfl ⟨rfl, rfl⟩ dX9_parting_297
      · replace h := zpos g276 h
        refine zk_iload_n dX9_parting_279 rfl rfl ?_
        refine zk_goto (tgt := 297) dX9_parting_280 rfl ?_
        have e9 := Option.some.inj h
        subst e9
        exact zk_iret rfl ⟨rfl, rfl⟩ dX9_parting_297
    · replace h := zneg g36 h
      refine zk_iconst (v := 0) dX9_parting_39 (by decide) ?_
      refine zk_istore (i := 6) dX9_parting_40 (by decide) (zk_eq [_, _, _, _, _, _, _, _, _, _, _, _] rfl ?_)
      refine zk_iconst (v := 0) dX9_parting_42 (by decide) ?_
      refine zk_istore (i := 7) dX9_parting_43 (by decide) (zk_eq [_, _, _, _, _, _, _, _, _, _, _, _] rfl ?_)
      refine zk_iconst (v := 1) dX9_parting_45 (by decide) ?_
      refine zk_istore (i := 8) dX9_parting_46 (by decide) (zk_eq [_, _, _, _, _, _, _, _, _, _, _, _] rfl ?_)
      refine zk_iconst (v := 0) dX9_parting_48 (by decide) ?_
      refine zk_istore (i := 9) dX9_parting_49 (by decide) (zk_eq [_, _, _, _, _, _, _, _, _, _, _, _] rfl ?_)
      exact ok_X9_parting_L51 hj r _ _ _ _ _ _ _ _ _ hr26 _ _ _ h
def D_X9_parting_J16 (s : zS) (a1 : Int32) : Option Int32 :=
  D_X9_parting_L26 s a1 zFU (-1 : Int32) (0 : Int32) (0 : Int32) (0 : Int32)
set_option maxRecDepth 100000 in
theorem ok_X9_parting_J16 {l : Launch} {D : va_G} {ad : Nat → Nat} {cA : Nat → ClassId} (hj : zInj ad) (r : Int32) (s : zS) (a1 : Int32) (h : D_X9_parting_J16 s a1 = some r) : zOk l D ad cA (zJm jX9_parting) (zEnd D ad cA (some (.int r)) s) 16 [some (.ref 66), some (.int a1), none, none, none, none, none, none, none, none, none, none] [] s := by
  unfold D_X9_parting_J16 at h
  refine zk_iconst (v := -1) dX9_parting_16 (by decide) ?_
  refine zk_istore_n (i := 2) dX9_parting_17 rfl (by decide) (zk_eq [_, _, _, _, _, _, _, _, _, _, _, _] rfl ?_)
  refine zk_iconst (v := 0) dX9_parting_18 (by decide) ?_
  refine zk_istore_n (i := 3) dX9_parting_19 rfl (by decide) (zk_eq [_, _, _, _, _, _, _, _, _, _, _, _] rfl ?_)
  refine zk_iconst (v := 0) dX9_parting_20 (by decide) ?_
  refine zk_istore (i := 4) dX9_parting_21 (by decide) (zk_eq [_, _, _, _, _, _, _, _, _, _, _, _] rfl ?_)
  refine zk_iconst (v := 0) dX9_parting_23 (by decide) ?_
  refine zk_istore (i := 5) dX9_parting_24 (by decide) (zk_eq [_, _, _, _, _, _, _, _, _, _, _, _] rfl ?_)
  exact ok_X9_parting_L26 hj r _ _ _ _ _ _ _ h
def D_X9_parting (s : zS) (a1 : Int32) : Option Int32 :=
  if a1 = (-1 : Int32) then (
    D_X9_parting_J16 s a1
  ) else (
    (D_X9_isSide s a1).bind fun p7 =>
    if p7 = 0 then (
      some (-100000 : Int32)
    ) else (
      D_X9_parting_J16 s a1
    )
  )
set_option maxRecDepth 100000 in
theorem ok_X9_parting {l : Launch} {D : va_G} {ad : Nat → Nat} {cA : Nat → ClassId} (hj : zInj ad) (s : zS) (a1 : Int32) {r : Int32} (h : D_X9_parting s a1 = some r) : zMet l D ad cA jX9_parting [.ref 66, .int a1] s (some (.int r)) s := by
  refine zMet_of jX9_parting [some (.ref 66), some (.int a1), none, none, none, none, none, none, none, none, none, none] (by decide +kernel) (Nat.le_of_ble_eq_true rfl) rfl hj ?_
  unfold D_X9_parting at h
  refine zk_iload_n dX9_parting_0 rfl rfl ?_
  refine zk_iconst (v := -1) dX9_parting_1 (by decide) ?_
  refine zk_icmp_eq (tgt := 16) dX9_parting_2 rfl (fun g2 => ?_) (fun g2 => ?_)
  · replace h := zpos g2 h
    exact ok_X9_parting_J16 hj r _ _ h
  · replace h := zneg g2 h
    refine zk_aload_n dX9_parting_5 rfl rfl ?_
    refine zk_iload_n dX9_parting_6 rfl rfl ?_
    obtain ⟨p7, h7, h⟩ := zbind h
    refine zc_X9_118 [] (As := [.int _]) (ok_X9_isSide hj _ _ h7) rfl ⟨Nat.le_of_ble_eq_true rfl, Nat.le_of_ble_eq_true rfl⟩ ⟨Nat.le_refl _, Nat.le_refl _⟩ rfl rfl (Nat.le_of_ble_eq_true rfl) dX9_parting_7 ?_
    refine zk_if_ne (tgt := 16) dX9_parting_10 rfl (fun g10 => ?_) (fun g10 => ?_)
    · replace h := zneg g10 h
      exact ok_X9_parting_J16 hj r _ _ h
    · replace h := zpos g10 h
      refine zk_ldc dX9_parting_13 zw_X9_113 ?_
      have e9 := Option.some.inj h
      subst e9
      exact zk_iret rfl ⟨rfl, rfl⟩ dX9_parting_15
def D_X9_pay (s : zS) (a1 : Int32) (a2 : Int32) : Option (Int32 × zS) :=
  (D_X9_isUser s a1).bind fun p2 =>
  if p2 = 0 then (
    some ((-2 : Int32), s)
  ) else (
    (D_X9_in a2.toInt64 (0 : Int64) (10000 : Int64)).bind fun p14 =>
    if p14 = 0 then (
      some ((-2 : Int32), s)
    ) else (
      zgd (zin a1 8 = true) <|
      zgd (zin a1 8 = true) <|
      let s36 : zS := zwI s 74 a1.toNatClampNeg a2
      some ((s.1 74 a1.toNatClampNeg), s36)
    )
  )
set_option maxRecDepth 100000 in
theorem ok_X9_pay {l : Launch} {D : va_G} {ad : Nat → Nat} {cA : Nat → ClassId} (hj : zInj ad) (s : zS) (a1 : Int32) (a2 : Int32) {r : (Int32 × zS)} (h : D_X9_pay s a1 a2 = some r) : zMet l D ad cA jX9_pay [.ref 66, .int a1, .int a2] s (some (.int r.1)) r.2 := by
  refine zMet_of jX9_pay [some (.ref 66), some (.int a1), some (.int a2), none] (by decide +kernel) (Nat.le_of_ble_eq_true rfl) rfl hj ?_
  unfold D_X9_pay at h
  refine zk_aload_n dX9_pay_0 rfl rfl ?_
  refine zk_iload_n dX9_pay_1 rfl rfl ?_
  obtain ⟨p2, h2, h⟩ := zbind h
  refine zc_X9_283 [] (As := [.int _]) (ok_X9_isUser hj _ _ h2) rfl ⟨Nat.le_of_ble_eq_true rfl, Nat.le_of_ble_eq_true rfl⟩ ⟨Nat.le_refl _, Nat.le_refl _⟩ rfl rfl (Nat.le_of_ble_eq_true rfl) dX9_pay_2 ?_
  refine zk_if_eq (tgt := 20) dX9_pay_5 rfl (fun g5 => ?_) (fun g5 => ?_)
  · replace h := zpos g5 h
    refine zk_bipush (v := -2) dX9_pay_20 (by decide) ?_
    have e9 := Option.some.inj h
    subst e9
    exact zk_iret rfl ⟨rfl, rfl⟩ dX9_pay_22
  · replace h := zneg g5 h
    refine zk_iload_n dX9_pay_8 rfl rfl ?_
    refine zk_i2l dX9_pay_9 ?_
    refine zk_lconst (v := 0) dX9_pay_10 (by decide) ?_
    refine zk_ldc2 dX9_pay_11 zw_X9_201 ?_
    obtain ⟨p14, h14, h⟩ := zbind h
    refine zc_X9_92 [] (As := [.long _, .long _, .long _]) (ok_X9_in hj _ _ _ _ h14) rfl ⟨Nat.le_of_ble_eq_true rfl, Nat.le_of_ble_eq_true rfl⟩ ⟨Nat.le_refl _, Nat.le_refl _⟩ rfl rfl (Nat.le_of_ble_eq_true rfl) dX9_pay_14 ?_
    refine zk_if_ne (tgt := 23) dX9_pay_17 rfl (fun g17 => ?_) (fun g17 => ?_)
    · replace h := zneg g17 h
      refine zk_aload_n dX9_pay_23 rfl rfl ?_
      refine zf_X9_45 rfl dX9_pay_24 ?_
      refine zk_iload_n dX9_pay_27 rfl rfl ?_
      obtain ⟨g28, h⟩ := zguard h
      refine zk_iald (zoI_of rfl g28) dX9_pay_28 ?_
      refine zk_istore_n (i := 3) dX9_pay_29 rfl (by decide) (zk_eq [_, _, _, _] rfl ?_)
      refine zk_aload_n dX9_pay_30 rfl rfl ?_
      refine zf_X9_45 rfl dX9_pay_31 ?_
      refine zk_iload_n dX9_pay_34 rfl rfl ?_
      refine zk_iload_n dX9_pay_35 rfl rfl ?_
      obtain ⟨g36, h⟩ := zguard h
      refine zk_iast (zoI_of rfl g36) dX9_pay_36 ?_
      refine zk_iload_n dX9_pay_37 rfl rfl ?_
      have e9 := Option.some.inj h
      subst e9
      exact zk_iret rfl ⟨rfl, rfl⟩ dX9_pay_38
    · replace h := zpos g17 h
      refine zk_bipush (v := -2) dX9_pay_20 (by decide) ?_
      have e9 := Option.some.inj h
      subst e9
      exact zk_iret rfl ⟨rfl, rfl⟩ dX9_pay_22
def D_X9_place (s : zS) (a1 : Int32) (a2 : Int32) : Option (Int32 × zS) :=
  (D_X9_in a1.toInt64 (0 : Int64) (((s.1 66 11) - (1 : Int32)).toInt64)).bind fun p10 =>
  if p10 = 0 then (
    some ((-2 : Int32), s)
  ) else (
    (D_X9_in a2.toInt64 (0 : Int64) (1000 : Int64)).bind fun p22 =>
    if p22 = 0 then (
      some ((-2 : Int32), s)
    ) else (
      if (s.1 66 11) = (10 : Int32) then (
        some ((-4 : Int32), s)
      ) else (
        zgd (zin (s.1 66 11) 10 = true) <|
        let s52 : zS := zwI s 71 (s.1 66 11).toNatClampNeg a1
        zgd (zin (s52.1 66 11) 10 = true) <|
        let s62 : zS := zwI s52 72 (s52.1 66 11).toNatClampNeg a2
        let s70 : zS := zwI s62 66 11 ((s62.1 66 11) + (1 : Int32))
        some (((s70.1 66 11) - (1 : Int32)), s70)
      )
    )
  )
set_option maxRecDepth 100000 in
theorem ok_X9_place {l : Launch} {D : va_G} {ad : Nat → Nat} {cA : Nat → ClassId} (hj : zInj ad) (s : zS) (a1 : Int32) (a2 : Int32) {r : (Int32 × zS)} (h : D_X9_place s a1 a2 = some r) : zMet l D ad cA jX9_place [.ref 66, .int a1, .int a2] s (some (.int r.1)) r.2 := by
  refine zMet_of jX9_place [some (.ref 66), some (.int a1), some (.int a2)] (by decide +kernel) (Nat.le_of_ble_eq_true rfl) rfl hj ?_
  unfold D_X9_place at h
  refine zk_iload_n dX9_place_0 rfl rfl ?_
  refine zk_i2l dX9_place_1 ?_
  refine zk_lconst (v := 0) dX9_place_2 (by decide) ?_
  refine zk_aload_n dX9_place_3 rfl rfl ?_
  refine zf_X9_33 rfl dX9_place_4 ?_
  refine zk_iconst (v := 1) dX9_place_7 (by decide) ?_
  refine zk_isub dX9_place_8 ?_
  refine zk_i2l dX9_place_9 ?_
  obtain ⟨p10, h10, h⟩ := zbind h
  refine zc_X9_92 [] (As := [.long _, .long _, .long _]) (ok_X9_in hj _ _ _ _ h10) rfl ⟨Nat.le_of_ble_eq_true rfl, Nat.le_of_ble_eq_true rfl⟩ ⟨Nat.le_refl _, Nat.le_refl _⟩ rfl rfl (Nat.le_of_ble_eq_true rfl) dX9_place_10 ?_
  refine zk_if_eq (tgt := 28) dX9_place_13 rfl (fun g13 => ?_) (fun g13 => ?_)
  · replace h := zpos g13 h
    refine zk_bipush (v := -2) dX9_place_28 (by decide) ?_
    have e9 := Option.some.inj h
    subst e9
    exact zk_iret rfl ⟨rfl, rfl⟩ dX9_place_30
  · replace h := zneg g13 h
    refine zk_iload_n dX9_place_16 rfl rfl ?_
    refine zk_i2l dX9_place_17 ?_
    refine zk_lconst (v := 0) dX9_place_18 (by decide) ?_
    refine zk_ldc2 dX9_place_19 zw_X9_111 ?_
    obtain ⟨p22, h22, h⟩ := zbind h
    refine zc_X9_92 [] (As := [.long _, .long _, .long _]) (ok_X9_in hj _ _ _ _ h22) rfl ⟨Nat.le_of_ble_eq_true rfl, Nat.le_of_ble_eq_true rfl⟩ ⟨Nat.le_refl _, Nat.le_refl _⟩ rfl rfl (Nat.le_of_ble_eq_true rfl) dX9_place_22 ?_
    refine zk_if_ne (tgt := 31) dX9_place_25 rfl (fun g25 => ?_) (fun g25 => ?_)
    · replace h := zneg g25 h
      refine zk_aload_n dX9_place_31 rfl rfl ?_
      refine zf_X9_33 rfl dX9_place_32 ?_
      refine zk_bipush (v := 10) dX9_place_35 (by decide) ?_
      refine zk_icmp_ne (tgt := 43) dX9_place_37 rfl (fun g37 => ?_) (fun g37 => ?_)
      · replace h := zneg g37 h
        refine zk_aload_n dX9_place_43 rfl rfl ?_
        refine zf_X9_36 rfl dX9_place_44 ?_
        refine zk_aload_n dX9_place_47 rfl rfl ?_
        refine zf_X9_33 rfl dX9_place_48 ?_
        refine zk_iload_n dX9_place_51 rfl rfl ?_
        obtain ⟨g52, h⟩ := zguard h
        refine zk_iast (zoI_of rfl g52) dX9_place_52 ?_
        refine zk_aload_n dX9_place_53 rfl rfl ?_
        refine zf_X9_39 rfl dX9_place_54 ?_
        refine zk_aload_n dX9_place_57 rfl rfl ?_
        refine zf_X9_33 rfl dX9_place_58 ?_
        refine zk_iload_n dX9_place_61 rfl rfl ?_
        obtain ⟨g62, h⟩ := zguard h
        refine zk_iast (zoI_of rfl g62) dX9_place_62 ?_
        refine zk_aload_n dX9_place_63 rfl rfl ?_
        refine zk_dup dX9_place_64 rfl ?_
        refine zf_X9_33 rfl dX9_place_65 ?_
        refine zk_iconst (v := 1) dX9_place_68 (by decide) ?_
        refine zk_iadd dX9_place_69 ?_
        refine zp_X9_33 rfl dX9_place_70 ?_
        refine zk_aload_n dX9_place_73 rfl rfl ?_
        refine zf_X9_33 rfl dX9_place_74 ?_
        refine zk_iconst (v := 1) dX9_place_77 (by decide) ?_
        refine zk_isub dX9_place_78 ?_
        have e9 := Option.some.inj h
        subst e9
        exact zk_iret rfl ⟨rfl, rfl⟩ dX9_place_79
      · replace h := zpos g37 h
        refine zk_bipush (v := -4) dX9_place_40 (by decide) ?_
        have e9 := Option.some.inj h
        subst e9
        exact zk_iret rfl ⟨rfl, rfl⟩ dX9_place_42
    · replace h := zpos g25 h
      refine zk_bipush (v := -2) dX9_place_28 (by decide) ?_
      have e9 := Option.some.inj h
      subst e9
      exact zk_iret rfl ⟨rfl, rfl⟩ dX9_place_30
