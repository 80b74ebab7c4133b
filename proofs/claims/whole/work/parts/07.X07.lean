def D_X8_dividend (s : zS) (a1 : Int32) : Option Int32 :=
  (D_X7_knowsSet s a1).bind fun p5 =>
  if p5 = 0 then (
    some (-100000 : Int32)
  ) else (
    (D_X7_dividendOf s a1).bind fun p16 =>
    some p16
  )
set_option maxRecDepth 100000 in
theorem ok_X8_dividend {l : Launch} {D : va_G} {ad : Nat → Nat} {cA : Nat → ClassId} (hj : zInj ad) (s : zS) (a1 : Int32) {r : Int32} (h : D_X8_dividend s a1 = some r) : zMet l D ad cA jX8_dividend [.ref 0, .int a1] s (some (.int r)) s := by
  refine zMet_of jX8_dividend [some (.ref 0), some (.int a1)] (by decide +kernel) (Nat.le_of_ble_eq_true rfl) rfl hj ?_
  unfold D_X8_dividend at h
  refine zk_aload_n dX8_dividend_0 rfl rfl ?_
  refine zf_X8_19 rfl dX8_dividend_1 ?_
  refine zk_iload_n dX8_dividend_4 rfl rfl ?_
  obtain ⟨p5, h5, h⟩ := zbind h
  refine zc_X8_68 [] (As := [.int _]) (ok_X7_knowsSet hj _ _ h5) rfl ⟨Nat.le_of_ble_eq_true rfl, Nat.le_of_ble_eq_true rfl⟩ ⟨Nat.le_refl _, Nat.le_refl _⟩ rfl rfl (Nat.le_of_ble_eq_true rfl) dX8_dividend_5 ?_
  refine zk_if_eq (tgt := 22) dX8_dividend_8 rfl (fun g8 => ?_) (fun g8 => ?_)
  · replace h := zpos g8 h
    refine zk_ldc dX8_dividend_22 zw_X8_72 ?_
    have e9 := Option.some.inj h
    subst e9
    exact zk_iret rfl ⟨rfl, rfl⟩ dX8_dividend_24
  · replace h := zneg g8 h
    refine zk_aload_n dX8_dividend_11 rfl rfl ?_
    refine zf_X8_19 rfl dX8_dividend_12 ?_
    refine zk_iload_n dX8_dividend_15 rfl rfl ?_
    obtain ⟨p16, h16, h⟩ := zbind h
    refine zc_X8_80 [] (As := [.int _]) (ok_X7_dividendOf hj _ _ h16) rfl ⟨Nat.le_of_ble_eq_true rfl, Nat.le_of_ble_eq_true rfl⟩ ⟨Nat.le_refl _, Nat.le_refl _⟩ rfl rfl (Nat.le_of_ble_eq_true rfl) dX8_dividend_16 ?_
    refine zk_goto (tgt := 24) dX8_dividend_19 rfl ?_
    have e9 := Option.some.inj h
    subst e9
    exact zk_iret rfl ⟨rfl, rfl⟩ dX8_dividend_24
def D_X8_end_J71 (s : zS) (a1 : Int32) (k1 : Int32) (k2 : Int32) (k3 : Int32) : Option (Int32 × zS) :=
  (D_X3_driveSide s k1 k2 k3).bind fun p71 =>
  (D_X3_tellRow p71 a1).bind fun p83 =>
  some ((1 : Int32), p83)
set_option maxRecDepth 100000 in
theorem ok_X8_end_J71 {l : Launch} {D : va_G} {ad : Nat → Nat} {cA : Nat → ClassId} (hj : zInj ad) (r : (Int32 × zS)) (s : zS) (a1 : Int32) (k1 : Int32) (k2 : Int32) (k3 : Int32) (h : D_X8_end_J71 s a1 k1 k2 k3 = some r) : zOk l D ad cA (zJm jX8_end) (zEnd D ad cA (some (.int r.1)) r.2) 71 [some (.ref 0), some (.int a1), none] [.int k3, .int k2, .int k1, .ref 4] s := by
  unfold D_X8_end_J71 at h
  obtain ⟨p71, h71, h⟩ := zbind h
  refine zc_X8_154 [] (As := [.int _, .int _, .int _]) (ok_X3_driveSide hj _ _ _ _ h71) rfl ⟨Nat.le_of_ble_eq_true rfl, Nat.le_of_ble_eq_true rfl⟩ ⟨Nat.le_refl _, Nat.le_refl _⟩ rfl rfl (Nat.le_of_ble_eq_true rfl) dX8_end_71 ?_
  refine zk_aload_n dX8_end_74 rfl rfl ?_
  refine zf_X8_26 rfl dX8_end_75 ?_
  refine zk_iload_n dX8_end_78 rfl rfl ?_
  refine zk_aload_n dX8_end_79 rfl rfl ?_
  refine zf_X8_10 rfl dX8_end_80 ?_
  obtain ⟨p83, h83, h⟩ := zbind h
  refine zc_X8_139 [] (As := [.int _, .ref _]) (ok_X3_tellRow hj _ _ h83) rfl ⟨Nat.le_of_ble_eq_true rfl, Nat.le_of_ble_eq_true rfl⟩ ⟨Nat.le_refl _, Nat.le_refl _⟩ rfl rfl (Nat.le_of_ble_eq_true rfl) dX8_end_83 ?_
  refine zk_iconst (v := 1) dX8_end_86 (by decide) ?_
  have e9 := Option.some.inj h
  subst e9
  exact zk_iret rfl ⟨rfl, rfl⟩ dX8_end_87
def D_X8_end (s : zS) (a1 : Int32) (a2 : Int32) : Option (Int32 × zS) :=
  (D_X7_knowsSide s a1).bind fun p5 =>
  if p5 = 0 then (
    some ((-2 : Int32), s)
  ) else (
    (D_X8_within a2 (0 : Int32) (1 : Int32)).bind fun p14 =>
    if p14 = 0 then (
      some ((-2 : Int32), s)
    ) else (
      (D_X3_layLeastPay s).bind fun p31 =>
      (D_X3_isWhole p31).bind fun p42 =>
      if p42 = 0 then (
        some ((0 : Int32), p31)
      ) else (
        if a2 = 0 then (
          D_X8_end_J71 p31 a1 (p31.1 2 0) a1 (-1 : Int32)
        ) else (
          D_X8_end_J71 p31 a1 (p31.1 2 0) a1 (1 : Int32)
        )
      )
    )
  )
set_option maxRecDepth 100000 in
theorem ok_X8_end {l : Launch} {D : va_G} {ad : Nat → Nat} {cA : Nat → ClassId} (hj : zInj ad) (s : zS) (a1 : Int32) (a2 : Int32) {r : (Int32 × zS)} (h : D_X8_end s a1 a2 = some r) : zMet l D ad cA jX8_end [.ref 0, .int a1, .int a2] s (some (.int r.1)) r.2 := by
  refine zMet_of jX8_end [some (.ref 0), some (.int a1), some (.int a2)] (by decide +kernel) (Nat.le_of_ble_eq_true rfl) rfl hj ?_
  unfold D_X8_end at h
  refine zk_aload_n dX8_end_0 rfl rfl ?_
  refine zf_X8_19 rfl dX8_end_1 ?_
  refine zk_iload_n dX8_end_4 rfl rfl ?_
  obtain ⟨p5, h5, h⟩ := zbind h
  refine zc_X8_84 [] (As := [.int _]) (ok_X7_knowsSide hj _ _ h5) rfl ⟨Nat.le_of_ble_eq_true rfl, Nat.le_of_ble_eq_true rfl⟩ ⟨Nat.le_refl _, Nat.le_refl _⟩ rfl rfl (Nat.le_of_ble_eq_true rfl) dX8_end_5 ?_
  refine zk_if_eq (tgt := 20) dX8_end_8 rfl (fun g8 => ?_) (fun g8 => ?_)
  · replace h := zpos g8 h
    refine zk_bipush (v := -2) dX8_end_20 (by decide) ?_
    have e9 := Option.some.inj h
    subst e9
    exact zk_iret rfl ⟨rfl, rfl⟩ dX8_end_22
  · replace h := zneg g8 h
    refine zk_iload_n dX8_end_11 rfl rfl ?_
    refine zk_iconst (v := 0) dX8_end_12 (by decide) ?_
    refine zk_iconst (v := 1) dX8_end_13 (by decide) ?_
    obtain ⟨p14, h14, h⟩ := zbind h
    refine zc_X8_58 [] (As := [.int _, .int _, .int _]) (ok_X8_within hj _ _ _ _ h14) rfl ⟨Nat.le_of_ble_eq_true rfl, Nat.le_of_ble_eq_true rfl⟩ ⟨Nat.le_refl _, Nat.le_refl _⟩ rfl rfl (Nat.le_of_ble_eq_true rfl) dX8_end_14 ?_
    refine zk_if_ne (tgt := 23) dX8_end_17 rfl (fun g17 => ?_) (fun g17 => ?_)
    · replace h := zneg g17 h
      refine zk_aload_n dX8_end_23 rfl rfl ?_
      refine zf_X8_26 rfl dX8_end_24 ?_
      refine zk_aload_n dX8_end_27 rfl rfl ?_
      refine zf_X8_19 rfl dX8_end_28 ?_
      obtain ⟨p31, h31, h⟩ := zbind h
      refine zc_X8_135 [] (As := [.ref _]) (ok_X3_layLeastPay hj _ h31) rfl ⟨Nat.le_of_ble_eq_true rfl, Nat.le_of_ble_eq_true rfl⟩ ⟨Nat.le_refl _, Nat.le_refl _⟩ rfl rfl (Nat.le_of_ble_eq_true rfl) dX8_end_31 ?_
      refine zk_aload_n dX8_end_34 rfl rfl ?_
      refine zf_X8_26 rfl dX8_end_35 ?_
      refine zk_aload_n dX8_end_38 rfl rfl ?_
      refine zf_X8_19 rfl dX8_end_39 ?_
      obtain ⟨p42, h42, h⟩ := zbind h
      refine zc_X8_150 [] (As := [.ref _]) (ok_X3_isWhole hj _ h42) rfl ⟨Nat.le_of_ble_eq_true rfl, Nat.le_of_ble_eq_true rfl⟩ ⟨Nat.le_refl _, Nat.le_refl _⟩ rfl rfl (Nat.le_of_ble_eq_true rfl) dX8_end_42 ?_
      refine zk_if_ne (tgt := 50) dX8_end_45 rfl (fun g45 => ?_) (fun g45 => ?_)
      · replace h := zneg g45 h
        refine zk_aload_n dX8_end_50 rfl rfl ?_
        refine zf_X8_26 rfl dX8_end_51 ?_
        refine zk_aload_n dX8_end_54 rfl rfl ?_
        refine zf_X8_19 rfl dX8_end_55 ?_
        refine zf_X8_96 rfl dX8_end_58 ?_
        refine zk_iload_n dX8_end_61 rfl rfl ?_
        refine zk_iload_n dX8_end_62 rfl rfl ?_
        refine zk_if_ne (tgt := 70) dX8_end_63 rfl (fun g63 => ?_) (fun g63 => ?_)
        · replace h := zneg g63 h
          refine zk_iconst (v := 1) dX8_end_70 (by decide) ?_
          refine zk_mask [true, true, false] ?_
          exact ok_X8_end_J71 hj r _ _ _ _ _ h
        · replace h := zpos g63 h
          refine zk_iconst (v := -1) dX8_end_66 (by decide) ?_
          refine zk_goto (tgt := 71) dX8_end_67 rfl ?_
          refine zk_mask [true, true, false] ?_
          exact ok_X8_end_J71 hj r _ _ _ _ _ h
      · replace h := zpos g45 h
        refine zk_iconst (v := 0) dX8_end_48 (by decide) ?_
        have e9 := Option.some.inj h
        subst e9
        exact zk_iret rfl ⟨rfl, rfl⟩ dX8_end_49
    · replace h := zpos g17 h
      refine zk_bipush (v := -2) dX8_end_20 (by decide) ?_
      have e9 := Option.some.inj h
      subst e9
      exact zk_iret rfl ⟨rfl, rfl⟩ dX8_end_22
def D_X8_estate (s : zS) (a1 : Int32) : Option (Int32 × zS) :=
  (D_X8_within a1 (0 : Int32) (6000 : Int32)).bind fun p5 =>
  if p5 = 0 then (
    some ((-2 : Int32), s)
  ) else (
    (D_X1_replaceEstate s a1).bind fun p16 =>
    some (p16.1, p16.2)
  )
set_option maxRecDepth 100000 in
theorem ok_X8_estate {l : Launch} {D : va_G} {ad : Nat → Nat} {cA : Nat → ClassId} (hj : zInj ad) (s : zS) (a1 : Int32) {r : (Int32 × zS)} (h : D_X8_estate s a1 = some r) : zMet l D ad cA jX8_estate [.ref 0, .int a1] s (some (.int r.1)) r.2 := by
  refine zMet_of jX8_estate [some (.ref 0), some (.int a1)] (by decide +kernel) (Nat.le_of_ble_eq_true rfl) rfl hj ?_
  unfold D_X8_estate at h
  refine zk_iload_n dX8_estate_0 rfl rfl ?_
  refine zk_iconst (v := 0) dX8_estate_1 (by decide) ?_
  refine zk_sipush (v := 6000) dX8_estate_2 (by decide) ?_
  obtain ⟨p5, h5, h⟩ := zbind h
  refine zc_X8_58 [] (As := [.int _, .int _, .int _]) (ok_X8_within hj _ _ _ _ h5) rfl ⟨Nat.le_of_ble_eq_true rfl, Nat.le_of_ble_eq_true rfl⟩ ⟨Nat.le_refl _, Nat.le_refl _⟩ rfl rfl (Nat.le_of_ble_eq_true rfl) dX8_estate_5 ?_
  refine zk_if_eq (tgt := 22) dX8_estate_8 rfl (fun g8 => ?_) (fun g8 => ?_)
  · replace h := zpos g8 h
    refine zk_bipush (v := -2) dX8_estate_22 (by decide) ?_
    have e9 := Option.some.inj h
    subst e9
    exact zk_iret rfl ⟨rfl, rfl⟩ dX8_estate_24
  · replace h := zneg g8 h
    refine zk_aload_n dX8_estate_11 rfl rfl ?_
    refine zf_X8_40 rfl dX8_estate_12 ?_
    refine zk_iload_n dX8_estate_15 rfl rfl ?_
    obtain ⟨p16, h16, h⟩ := zbind h
    refine zc_X8_231 [] (As := [.int _]) (ok_X1_replaceEstate hj _ _ h16) rfl ⟨Nat.le_of_ble_eq_true rfl, Nat.le_of_ble_eq_true rfl⟩ ⟨Nat.le_refl _, Nat.le_refl _⟩ rfl rfl (Nat.le_of_ble_eq_true rfl) dX8_estate_16 ?_
    refine zk_goto (tgt := 24) dX8_estate_19 rfl ?_
    have e9 := Option.some.inj h
    subst e9
    exact zk_iret rfl ⟨rfl, rfl⟩ dX8_estate_24
def D_X8_even (s : zS) (a1 : Int32) : Option Int32 :=
  (D_X8_within a1 (0 : Int32) (1 : Int32)).bind fun p3 =>
  if p3 = 0 then (
    some (-2 : Int32)
  ) else (
    (D_X3_standsEven s a1).bind fun p21 =>
    if p21 = 0 then (
      some (0 : Int32)
    ) else (
      some (1 : Int32)
    )
  )
set_option maxRecDepth 100000 in
theorem ok_X8_even {l : Launch} {D : va_G} {ad : Nat → Nat} {cA : Nat → ClassId} (hj : zInj ad) (s : zS) (a1 : Int32) {r : Int32} (h : D_X8_even s a1 = some r) : zMet l D ad cA jX8_even [.ref 0, .int a1] s (some (.int r)) s := by
  refine zMet_of jX8_even [some (.ref 0), some (.int a1)] (by decide +kernel) (Nat.le_of_ble_eq_true rfl) rfl hj ?_
  unfold D_X8_even at h
  refine zk_iload_n dX8_even_0 rfl rfl ?_
  refine zk_iconst (v := 0) dX8_even_1 (by decide) ?_
  refine zk_iconst (v := 1) dX8_even_2 (by decide) ?_
  obtain ⟨p3, h3, h⟩ := zbind h
  refine zc_X8_58 [] (As := [.int _, .int _, .int _]) (ok_X8_within hj _ _ _ _ h3) rfl ⟨Nat.le_of_ble_eq_true rfl, Nat.le_of_ble_eq_true rfl⟩ ⟨Nat.le_refl _, Nat.le_refl _⟩ rfl rfl (Nat.le_of_ble_eq_true rfl) dX8_even_3 ?_
  refine zk_if_ne (tgt := 12) dX8_even_6 rfl (fun g6 => ?_) (fun g6 => ?_)
  · replace h := zneg g6 h
    refine zk_aload_n dX8_even_12 rfl rfl ?_
    refine zf_X8_26 rfl dX8_even_13 ?_
    refine zk_aload_n dX8_even_16 rfl rfl ?_
    refine zf_X8_19 rfl dX8_even_17 ?_
    refine zk_iload_n dX8_even_20 rfl rfl ?_
    obtain ⟨p21, h21, h⟩ := zbind h
    refine zc_X8_174 [] (As := [.ref _, .int _]) (ok_X3_standsEven hj _ _ h21) rfl ⟨Nat.le_of_ble_eq_true rfl, Nat.le_of_ble_eq_true rfl⟩ ⟨Nat.le_refl _, Nat.le_refl _⟩ rfl rfl (Nat.le_of_ble_eq_true rfl) dX8_even_21 ?_
    refine zk_if_eq (tgt := 31) dX8_even_24 rfl (fun g24 => ?_) (fun g24 => ?_)
    · replace h := zpos g24 h
      refine zk_iconst (v := 0) dX8_even_31 (by decide) ?_
      have e9 := Option.some.inj h
      subst e9
      exact zk_iret rfl ⟨rfl, rfl⟩ dX8_even_32
    · replace h := zneg g24 h
      refine zk_iconst (v := 1) dX8_even_27 (by decide) ?_
      refine zk_goto (tgt := 32) dX8_even_28 rfl ?_
      have e9 := Option.some.inj h
      subst e9
      exact zk_iret rfl ⟨rfl, rfl⟩ dX8_even_32
  · replace h := zpos g6 h
    refine zk_bipush (v := -2) dX8_even_9 (by decide) ?_
    have e9 := Option.some.inj h
    subst e9
    exact zk_iret rfl ⟨rfl, rfl⟩ dX8_even_11
def D_X8_fails (s : zS) (a1 : Int32) : Option Int32 :=
  (D_X8_within a1 (0 : Int32) (1 : Int32)).bind fun p3 =>
  if p3 = 0 then (
    some (-2 : Int32)
  ) else (
    if a1 = 0 then (
      (D_X7_firstBetterApart s).bind fun p20 =>
      some p20
    ) else (
      (D_X7_firstLessByMore s).bind fun p30 =>
      some p30
    )
  )
set_option maxRecDepth 100000 in
theorem ok_X8_fails {l : Launch} {D : va_G} {ad : Nat → Nat} {cA : Nat → ClassId} (hj : zInj ad) (s : zS) (a1 : Int32) {r : Int32} (h : D_X8_fails s a1 = some r) : zMet l D ad cA jX8_fails [.ref 0, .int a1] s (some (.int r)) s := by
  refine zMet_of jX8_fails [some (.ref 0), some (.int a1)] (by decide +kernel) (Nat.le_of_ble_eq_true rfl) rfl hj ?_
  unfold D_X8_fails at h
  refine zk_iload_n dX8_fails_0 rfl rfl ?_
  refine zk_iconst (v := 0) dX8_fails_1 (by decide) ?_
  refine zk_iconst (v := 1) dX8_fails_2 (by decide) ?_
  obtain ⟨p3, h3, h⟩ := zbind h
  refine zc_X8_58 [] (As := [.int _, .int _, .int _]) (ok_X8_within hj _ _ _ _ h3) rfl ⟨Nat.le_of_ble_eq_true rfl, Nat.le_of_ble_eq_true rfl⟩ ⟨Nat.le_refl _, Nat.le_refl _⟩ rfl rfl (Nat.le_of_ble_eq_true rfl) dX8_fails_3 ?_
  refine zk_if_ne (tgt := 12) dX8_fails_6 rfl (fun g6 => ?_) (fun g6 => ?_)
  · replace h := zneg g6 h
    refine zk_iload_n dX8_fails_12 rfl rfl ?_
    refine zk_if_ne (tgt := 26) dX8_fails_13 rfl (fun g13 => ?_) (fun g13 => ?_)
    · replace h := zneg g13 h
      refine zk_aload_n dX8_fails_26 rfl rfl ?_
      refine zf_X8_19 rfl dX8_fails_27 ?_
      obtain ⟨p30, h30, h⟩ := zbind h
      refine zc_X8_114 [] (As := []) (ok_X7_firstLessByMore hj _ h30) rfl ⟨Nat.le_of_ble_eq_true rfl, Nat.le_of_ble_eq_true rfl⟩ ⟨Nat.le_refl _, Nat.le_refl _⟩ rfl rfl (Nat.le_of_ble_eq_true rfl) dX8_fails_30 ?_
      have e9 := Option.some.inj h
      subst e9
      exact zk_iret rfl ⟨rfl, rfl⟩ dX8_fails_33
    · replace h := zpos g13 h
      refine zk_aload_n dX8_fails_16 rfl rfl ?_
      refine zf_X8_19 rfl dX8_fails_17 ?_
      obtain ⟨p20, h20, h⟩ := zbind h
      refine zc_X8_110 [] (As := []) (ok_X7_firstBetterApart hj _ h20) rfl ⟨Nat.le_of_ble_eq_true rfl, Nat.le_of_ble_eq_true rfl⟩ ⟨Nat.le_refl _, Nat.le_refl _⟩ rfl rfl (Nat.le_of_ble_eq_true rfl) dX8_fails_20 ?_
      refine zk_goto (tgt := 33) dX8_fails_23 rfl ?_
      have e9 := Option.some.inj h
      subst e9
      exact zk_iret rfl ⟨rfl, rfl⟩ dX8_fails_33
  · replace h := zpos g6 h
    refine zk_bipush (v := -2) dX8_fails_9 (by decide) ?_
    have e9 := Option.some.inj h
    subst e9
    exact zk_iret rfl ⟨rfl, rfl⟩ dX8_fails_11
def D_X8_gain (s : zS) (a1 : Int32) (a2 : Int32) (a3 : Int32) : Option (Int32 × zS) :=
  (D_X4_knowsBuyer s a1).bind fun p5 =>
  if p5 = 0 then (
    some ((-2 : Int32), s)
  ) else (
    (D_X4_knowsSeller s a2).bind fun p16 =>
    if p16 = 0 then (
      some ((-2 : Int32), s)
    ) else (
      (D_X8_within a3 (0 : Int32) (1000 : Int32)).bind fun p27 =>
      if p27 = 0 then (
        some ((-2 : Int32), s)
      ) else (
        (D_X4_replaceGain s a1 a2 a3).bind fun p43 =>
        some (p43.1, p43.2)
      )
    )
  )
set_option maxRecDepth 100000 in
theorem ok_X8_gain {l : Launch} {D : va_G} {ad : Nat → Nat} {cA : Nat → ClassId} (hj : zInj ad) (s : zS) (a1 : Int32) (a2 : Int32) (a3 : Int32) {r : (Int32 × zS)} (h : D_X8_gain s a1 a2 a3 = some r) : zMet l D ad cA jX8_gain [.ref 0, .int a1, .int a2, .int a3] s (some (.int r.1)) r.2 := by
  refine zMet_of jX8_gain [some (.ref 0), some (.int a1), some (.int a2), some (.int a3)] (by decide +kernel) (Nat.le_of_ble_eq_true rfl) rfl hj ?_
  unfold D_X8_gain at h
  refine zk_aload_n dX8_gain_0 rfl rfl ?_
  refine zf_X8_54 rfl dX8_gain_1 ?_
  refine zk_iload_n dX8_gain_4 rfl rfl ?_
  obtain ⟨p5, h5, h⟩ := zbind h
  refine zc_X8_280 [] (As := [.int _]) (ok_X4_knowsBuyer hj _ _ h5) rfl ⟨Nat.le_of_ble_eq_true rfl, Nat.le_of_ble_eq_true rfl⟩ ⟨Nat.le_refl _, Nat.le_refl _⟩ rfl rfl (Nat.le_of_ble_eq_true rfl) dX8_gain_5 ?_
  refine zk_if_eq (tgt := 33) dX8_gain_8 rfl (fun g8 => ?_) (fun g8 => ?_)
  · replace h := zpos g8 h
    refine zk_bipush (v := -2) dX8_gain_33 (by decide) ?_
    have e9 := Option.some.inj h
    subst e9
    exact zk_iret rfl ⟨rfl, rfl⟩ dX8_gain_35
  · replace h := zneg g8 h
    refine zk_aload_n dX8_gain_11 rfl rfl ?_
    refine zf_X8_54 rfl dX8_gain_12 ?_
    refine zk_iload_n dX8_gain_15 rfl rfl ?_
    obtain ⟨p16, h16, h⟩ := zbind h
    refine zc_X8_283 [] (As := [.int _]) (ok_X4_knowsSeller hj _ _ h16) rfl ⟨Nat.le_of_ble_eq_true rfl, Nat.le_of_ble_eq_true rfl⟩ ⟨Nat.le_refl _, Nat.le_refl _⟩ rfl rfl (Nat.le_of_ble_eq_true rfl) dX8_gain_16 ?_
    refine zk_if_eq (tgt := 33) dX8_gain_19 rfl (fun g19 => ?_) (fun g19 => ?_)
    · replace h := zpos g19 h
      refine zk_bipush (v := -2) dX8_gain_33 (by decide) ?_
      have e9 := Option.some.inj h
      subst e9
      exact zk_iret rfl ⟨rfl, rfl⟩ dX8_gain_35
    · replace h := zneg g19 h
      refine zk_iload_n dX8_gain_22 rfl rfl ?_
      refine zk_iconst (v := 0) dX8_gain_23 (by decide) ?_
      refine zk_sipush (v := 1000) dX8_gain_24 (by decide) ?_
      obtain ⟨p27, h27, h⟩ := zbind h
      refine zc_X8_58 [] (As := [.int _, .int _, .int _]) (ok_X8_within hj _ _ _ _ h27) rfl ⟨Nat.le_of_ble_eq_true rfl, Nat.le_of_ble_eq_true rfl⟩ ⟨Nat.le_refl _, Nat.le_refl _⟩ rfl rfl (Nat.le_of_ble_eq_true rfl) dX8_gain_27 ?_
      refine zk_if_ne (tgt := 36) dX8_gain_30 rfl (fun g30 => ?_) (fun g30 => ?_)
      · replace h := zneg g30 h
        refine zk_aload_n dX8_gain_36 rfl rfl ?_
        refine zf_X8_54 rfl dX8_gain_37 ?_
        refine zk_iload_n dX8_gain_40 rfl rfl ?_
        refine zk_iload_n dX8_gain_41 rfl rfl ?_
        refine zk_iload_n dX8_gain_42 rfl rfl ?_
        obtain ⟨p43, h43, h⟩ := zbind h
        refine zc_X8_286 [] (As := [.int _, .int _, .int _]) (ok_X4_replaceGain hj _ _ _ _ h43) rfl ⟨Nat.le_of_ble_eq_true rfl, Nat.le_of_ble_eq_true rfl⟩ ⟨Nat.le_refl _, Nat.le_refl _⟩ rfl rfl (Nat.le_of_ble_eq_true rfl) dX8_gain_43 ?_
        have e9 := Option.some.inj h
        subst e9
        exact zk_iret rfl ⟨rfl, rfl⟩ dX8_gain_46
      · replace h := zpos g30 h
        refine zk_bipush (v := -2) dX8_gain_33 (by decide) ?_
        have e9 := Option.some.inj h
        subst e9
        exact zk_iret rfl ⟨rfl, rfl⟩ dX8_gain_35
def D_X8_give (s : zS) (a1 : Int32) (a2 : Int32) (a3 : Int32) : Option (Int32 × zS) :=
  (D_X8_within a1 (0 : Int32) (1 : Int32)).bind fun p3 =>
  if p3 = 0 then (
    some ((-100000 : Int32), s)
  ) else (
    (D_X7_knowsSide s a2).bind fun p14 =>
    if p14 = 0 then (
      some ((-100000 : Int32), s)
    ) else (
      (D_X8_within a3 (-10000 : Int32) (10000 : Int32)).bind fun p27 =>
      if p27 = 0 then (
        some ((-100000 : Int32), s)
      ) else (
        (D_X3_replaceGiven s a1 a2 a3).bind fun p43 =>
        some (p43.1, p43.2)
      )
    )
  )
set_option maxRecDepth 100000 in
theorem ok_X8_give {l : Launch} {D : va_G} {ad : Nat → Nat} {cA : Nat → ClassId} (hj : zInj ad) (s : zS) (a1 : Int32) (a2 : Int32) (a3 : Int32) {r : (Int32 × zS)} (h : D_X8_give s a1 a2 a3 = some r) : zMet l D ad cA jX8_give [.ref 0, .int a1, .int a2, .int a3] s (some (.int r.1)) r.2 := by
  refine zMet_of jX8_give [some (.ref 0), some (.int a1), some (.int a2), some (.int a3)] (by decide +kernel) (Nat.le_of_ble_eq_true rfl) rfl hj ?_
  unfold D_X8_give at h
  refine zk_iload_n dX8_give_0 rfl rfl ?_
  refine zk_iconst (v := 0) dX8_give_1 (by decide) ?_
  refine zk_iconst (v := 1) dX8_give_2 (by decide) ?_
  obtain ⟨p3, h3, h⟩ := zbind h
  refine zc_X8_58 [] (As := [.int _, .int _, .int _]) (ok_X8_within hj _ _ _ _ h3) rfl ⟨Nat.le_of_ble_eq_true rfl, Nat.le_of_ble_eq_true rfl⟩ ⟨Nat.le_refl _, Nat.le_refl _⟩ rfl rfl (Nat.le_of_ble_eq_true rfl) dX8_give_3 ?_
  refine zk_if_eq (tgt := 33) dX8_give_6 rfl (fun g6 => ?_) (fun g6 => ?_)
  · replace h := zpos g6 h
    refine zk_ldc dX8_give_33 zw_X8_72 ?_
    have e9 := Option.some.inj h
    subst e9
    exact zk_iret rfl ⟨rfl, rfl⟩ dX8_give_35
  · replace h := zneg g6 h
    refine zk_aload_n dX8_give_9 rfl rfl ?_
    refine zf_X8_19 rfl dX8_give_10 ?_
    refine zk_iload_n dX8_give_13 rfl rfl ?_
    obtain ⟨p14, h14, h⟩ := zbind h
    refine zc_X8_84 [] (As := [.int _]) (ok_X7_knowsSide hj _ _ h14) rfl ⟨Nat.le_of_ble_eq_true rfl, Nat.le_of_ble_eq_true rfl⟩ ⟨Nat.le_refl _, Nat.le_refl _⟩ rfl rfl (Nat.le_of_ble_eq_true rfl) dX8_give_14 ?_
    refine zk_if_eq (tgt := 33) dX8_give_17 rfl (fun g17 => ?_) (fun g17 => ?_)
    · replace h := zpos g17 h
      refine zk_ldc dX8_give_33 zw_X8_72 ?_
      have e9 := Option.some.inj h
      subst e9
      exact zk_iret rfl ⟨rfl, rfl⟩ dX8_give_35
    · replace h := zneg g17 h
      refine zk_iload_n dX8_give_20 rfl rfl ?_
      refine zk_sipush (v := -10000) dX8_give_21 (by decide) ?_
      refine zk_sipush (v := 10000) dX8_give_24 (by decide) ?_
      obtain ⟨p27, h27, h⟩ := zbind h
      refine zc_X8_58 [] (As := [.int _, .int _, .int _]) (ok_X8_within hj _ _ _ _ h27) rfl ⟨Nat.le_of_ble_eq_true rfl, Nat.le_of_ble_eq_true rfl⟩ ⟨Nat.le_refl _, Nat.le_refl _⟩ rfl rfl (Nat.le_of_ble_eq_true rfl) dX8_give_27 ?_
      refine zk_if_ne (tgt := 36) dX8_give_30 rfl (fun g30 => ?_) (fun g30 => ?_)
      · replace h := zneg g30 h
        refine zk_aload_n dX8_give_36 rfl rfl ?_
        refine zf_X8_26 rfl dX8_give_37 ?_
        refine zk_iload_n dX8_give_40 rfl rfl ?_
        refine zk_iload_n dX8_give_41 rfl rfl ?_
        refine zk_iload_n dX8_give_42 rfl rfl ?_
        obtain ⟨p43, h43, h⟩ := zbind h
        refine zc_X8_161 [] (As := [.int _, .int _, .int _]) (ok_X3_replaceGiven hj _ _ _ _ h43) rfl ⟨Nat.le_of_ble_eq_true rfl, Nat.le_of_ble_eq_true rfl⟩ ⟨Nat.le_refl _, Nat.le_refl _⟩ rfl rfl (Nat.le_of_ble_eq_true rfl) dX8_give_43 ?_
        have e9 := Option.some.inj h
        subst e9
        exact zk_iret rfl ⟨rfl, rfl⟩ dX8_give_46
      · replace h := zpos g30 h
        refine zk_ldc dX8_give_33 zw_X8_72 ?_
        have e9 := Option.some.inj h
        subst e9
        exact zk_iret rfl ⟨rfl, rfl⟩ dX8_give_35
def D_X8_held (s : zS) : Option Int32 :=
  (D_X6_firstOverpaying s).bind fun p4 =>
  some p4
set_option maxRecDepth 100000 in
theorem ok_X8_held {l : Launch} {D : va_G} {ad : Nat → Nat} {cA : Nat → ClassId} (hj : zInj ad) (s : zS)  {r : Int32} (h : D_X8_held s = some r) : zMet l D ad cA jX8_held [.ref 0] s (some (.int r)) s := by
  refine zMet_of jX8_held [some (.ref 0)] (by decide +kernel) (Nat.le_of_ble_eq_true rfl) rfl hj ?_
  unfold D_X8_held at h
  refine zk_aload_n dX8_held_0 rfl rfl ?_
  refine zf_X8_47 rfl dX8_held_1 ?_
  obtain ⟨p4, h4, h⟩ := zbind h
  refine zc_X8_274 [] (As := []) (ok_X6_firstOverpaying hj _ h4) rfl ⟨Nat.le_of_ble_eq_true rfl, Nat.le_of_ble_eq_true rfl⟩ ⟨Nat.le_refl _, Nat.le_refl _⟩ rfl rfl (Nat.le_of_ble_eq_true rfl) dX8_held_4 ?_
  have e9 := Option.some.inj h
  subst e9
  exact zk_iret rfl ⟨rfl, rfl⟩ dX8_held_7
def D_X8_least (s : zS) (a1 : Int32) : Option (Int32 × zS) :=
  (D_X8_within a1 (0 : Int32) (1 : Int32)).bind fun p3 =>
  if p3 = 0 then (
    some ((-2 : Int32), s)
  ) else (
    if a1 = 0 then (
      (D_X3_layLeastPay s).bind fun p24 =>
      (D_X3_tellRow p24 (p24.1 2 0)).bind fun p42 =>
      some ((1 : Int32), p42)
    ) else (
      if (s.1 2 0) = (1 : Int32) then (
        some ((0 : Int32), s)
      ) else (
        (D_X3_findCalm s).bind fun p68 =>
        (D_X3_tellStrain p68).bind fun p79 =>
        some ((1 : Int32), p79)
      )
    )
  )
set_option maxRecDepth 100000 in
theorem ok_X8_least {l : Launch} {D : va_G} {ad : Nat → Nat} {cA : Nat → ClassId} (hj : zInj ad) (s : zS) (a1 : Int32) {r : (Int32 × zS)} (h : D_X8_least s a1 = some r) : zMet l D ad cA jX8_least [.ref 0, .int a1] s (some (.int r.1)) r.2 := by
  refine zMet_of jX8_least [some (.ref 0), some (.int a1)] (by decide +kernel) (Nat.le_of_ble_eq_true rfl) rfl hj ?_
  unfold D_X8_least at h
  refine zk_iload_n dX8_least_0 rfl rfl ?_
  refine zk_iconst (v := 0) dX8_least_1 (by decide) ?_
  refine zk_iconst (v := 1) dX8_least_2 (by decide) ?_
  obtain ⟨p3, h3, h⟩ := zbind h
  refine zc_X8_58 [] (As := [.int _, .int _, .int _]) (ok_X8_within hj _ _ _ _ h3) rfl ⟨Nat.le_of_ble_eq_true rfl, Nat.le_of_ble_eq_true rfl⟩ ⟨Nat.le_refl _, Nat.le_refl _⟩ rfl rfl (Nat.le_of_ble_eq_true rfl) dX8_least_3 ?_
  refine zk_if_ne (tgt := 12) dX8_least_6 rfl (fun g6 => ?_) (fun g6 => ?_)
  · replace h := zneg g6 h
    refine zk_iload_n dX8_least_12 rfl rfl ?_
    refine zk_if_ne (tgt := 47) dX8_least_13 rfl (fun g13 => ?_) (fun g13 => ?_)
    · replace h := zneg g13 h
      refine zk_aload_n dX8_least_47 rfl rfl ?_
      refine zf_X8_19 rfl dX8_least_48 ?_
      refine zf_X8_96 rfl dX8_least_51 ?_
      refine zk_iconst (v := 1) dX8_least_54 (by decide) ?_
      refine zk_icmp_ne (tgt := 60) dX8_least_55 rfl (fun g55 => ?_) (fun g55 => ?_)
      · replace h := zneg g55 h
        refine zk_aload_n dX8_least_60 rfl rfl ?_
        refine zf_X8_26 rfl dX8_least_61 ?_
        refine zk_aload_n dX8_least_64 rfl rfl ?_
        refine zf_X8_19 rfl dX8_least_65 ?_
        obtain ⟨p68, h68, h⟩ := zbind h
        refine zc_X8_143 [] (As := [.ref _]) (ok_X3_findCalm hj _ h68) rfl ⟨Nat.le_of_ble_eq_true rfl, Nat.le_of_ble_eq_true rfl⟩ ⟨Nat.le_refl _, Nat.le_refl _⟩ rfl rfl (Nat.le_of_ble_eq_true rfl) dX8_least_68 ?_
        refine zk_aload_n dX8_least_71 rfl rfl ?_
        refine zf_X8_26 rfl dX8_least_72 ?_
        refine zk_aload_n dX8_least_75 rfl rfl ?_
        refine zf_X8_10 rfl dX8_least_76 ?_
        obtain ⟨p79, h79, h⟩ := zbind h
        refine zc_X8_146 [] (As := [.ref _]) (ok_X3_tellStrain hj _ h79) rfl ⟨Nat.le_of_ble_eq_true rfl, Nat.le_of_ble_eq_true rfl⟩ ⟨Nat.le_refl _, Nat.le_refl _⟩ rfl rfl (Nat.le_of_ble_eq_true rfl) dX8_least_79 ?_
        refine zk_iconst (v := 1) dX8_least_82 (by decide) ?_
        have e9 := Option.some.inj h
        subst e9
        exact zk_iret rfl ⟨rfl, rfl⟩ dX8_least_83
      · replace h := zpos g55 h
        refine zk_iconst (v := 0) dX8_least_58 (by decide) ?_
        have e9 := Option.some.inj h
        subst e9
        exact zk_iret rfl ⟨rfl, rfl⟩ dX8_least_59
    · replace h := zpos g13 h
      refine zk_aload_n dX8_least_16 rfl rfl ?_
      refine zf_X8_26 rfl dX8_least_17 ?_
      refine zk_aload_n dX8_least_20 rfl rfl ?_
      refine zf_X8_19 rfl dX8_least_21 ?_
      obtain ⟨p24, h24, h⟩ := zbind h
      refine zc_X8_135 [] (As := [.ref _]) (ok_X3_layLeastPay hj _ h24) rfl ⟨Nat.le_of_ble_eq_true rfl, Nat.le_of_ble_eq_true rfl⟩ ⟨Nat.le_refl _, Nat.le_refl _⟩ rfl rfl (Nat.le_of_ble_eq_true rfl) dX8_least_24 ?_
      refine zk_aload_n dX8_least_27 rfl rfl ?_
      refine zf_X8_26 rfl dX8_least_28 ?_
      refine zk_aload_n dX8_least_31 rfl rfl ?_
      refine zf_X8_19 rfl dX8_least_32 ?_
      refine zf_X8_96 rfl dX8_least_35 ?_
      refine zk_aload_n dX8_least_38 rfl rfl ?_
      refine zf_X8_10 rfl dX8_least_39 ?_
      obtain ⟨p42, h42, h⟩ := zbind h
      refine zc_X8_139 [] (As := [.int _, .ref _]) (ok_X3_tellRow hj _ _ h42) rfl ⟨Nat.le_of_ble_eq_true rfl, Nat.le_of_ble_eq_true rfl⟩ ⟨Nat.le_refl _, Nat.le_refl _⟩ rfl rfl (Nat.le_of_ble_eq_true rfl) dX8_least_42 ?_
      refine zk_iconst (v := 1) dX8_least_45 (by decide) ?_
      have e9 := Option.some.inj h
      subst e9
      exact zk_iret rfl ⟨rfl, rfl⟩ dX8_least_46
  · replace h := zpos g6 h
    refine zk_bipush (v := -2) dX8_least_9 (by decide) ?_
    have e9 := Option.some.inj h
    subst e9
    exact zk_iret rfl ⟨rfl, rfl⟩ dX8_least_11
def D_X8_margin (s : zS) (a1 : Int32) (a2 : Int32) : Option Int32 :=
  (D_X7_knowsSide s a2).bind fun p5 =>
  if p5 = 0 then (
    some (-100000 : Int32)
  ) else (
    (D_X7_knowsOrder s a1).bind fun p16 =>
    if p16 = 0 then (
      some (-100000 : Int32)
    ) else (
      (D_X7_marginIn s a1 a2).bind fun p31 =>
      some p31
    )
  )
set_option maxRecDepth 100000 in
theorem ok_X8_margin {l : Launch} {D : va_G} {ad : Nat → Nat} {cA : Nat → ClassId} (hj : zInj ad) (s : zS) (a1 : Int32) (a2 : Int32) {r : Int32} (h : D_X8_margin s a1 a2 = some r) : zMet l D ad cA jX8_margin [.ref 0, .int a1, .int a2] s (some (.int r)) s := by
  refine zMet_of jX8_margin [some (.ref 0), some (.int a1), some (.int a2)] (by decide +kernel) (Nat.le_of_ble_eq_true rfl) rfl hj ?_
  unfold D_X8_margin at h
  refine zk_aload_n dX8_margin_0 rfl rfl ?_
  refine zf_X8_19 rfl dX8_margin_1 ?_
  refine zk_iload_n dX8_margin_4 rfl rfl ?_
  obtain ⟨p5, h5, h⟩ := zbind h
  refine zc_X8_84 [] (As := [.int _]) (ok_X7_knowsSide hj _ _ h5) rfl ⟨Nat.le_of_ble_eq_true rfl, Nat.le_of_ble_eq_true rfl⟩ ⟨Nat.le_refl _, Nat.le_refl _⟩ rfl rfl (Nat.le_of_ble_eq_true rfl) dX8_margin_5 ?_
  refine zk_if_eq (tgt := 22) dX8_margin_8 rfl (fun g8 => ?_) (fun g8 => ?_)
  · replace h := zpos g8 h
    refine zk_ldc dX8_margin_22 zw_X8_72 ?_
    have e9 := Option.some.inj h
    subst e9
    exact zk_iret rfl ⟨rfl, rfl⟩ dX8_margin_24
  · replace h := zneg g8 h
    refine zk_aload_n dX8_margin_11 rfl rfl ?_
    refine zf_X8_19 rfl dX8_margin_12 ?_
    refine zk_iload_n dX8_margin_15 rfl rfl ?_
    obtain ⟨p16, h16, h⟩ := zbind h
    refine zc_X8_87 [] (As := [.int _]) (ok_X7_knowsOrder hj _ _ h16) rfl ⟨Nat.le_of_ble_eq_true rfl, Nat.le_of_ble_eq_true rfl⟩ ⟨Nat.le_refl _, Nat.le_refl _⟩ rfl rfl (Nat.le_of_ble_eq_true rfl) dX8_margin_16 ?_
    refine zk_if_ne (tgt := 25) dX8_margin_19 rfl (fun g19 => ?_) (fun g19 => ?_)
    · replace h := zneg g19 h
      refine zk_aload_n dX8_margin_25 rfl rfl ?_
      refine zf_X8_19 rfl dX8_margin_26 ?_
      refine zk_iload_n dX8_margin_29 rfl rfl ?_
      refine zk_iload_n dX8_margin_30 rfl rfl ?_
      obtain ⟨p31, h31, h⟩ := zbind h
      refine zc_X8_90 [] (As := [.int _, .int _]) (ok_X7_marginIn hj _ _ _ h31) rfl ⟨Nat.le_of_ble_eq_true rfl, Nat.le_of_ble_eq_true rfl⟩ ⟨Nat.le_refl _, Nat.le_refl _⟩ rfl rfl (Nat.le_of_ble_eq_true rfl) dX8_margin_31 ?_
      have e9 := Option.some.inj h
      subst e9
      exact zk_iret rfl ⟨rfl, rfl⟩ dX8_margin_34
    · replace h := zpos g19 h
      refine zk_ldc dX8_margin_22 zw_X8_72 ?_
      have e9 := Option.some.inj h
      subst e9
      exact zk_iret rfl ⟨rfl, rfl⟩ dX8_margin_24
def D_X8_market (s : zS) (a1 : Int32) (a2 : Int32) : Option (Int32 × zS) :=
  (D_X8_within a1 (0 : Int32) (4 : Int32)).bind fun p3 =>
  if p3 = 0 then (
    some ((-2 : Int32), s)
  ) else (
    (D_X8_within a2 (0 : Int32) (4 : Int32)).bind fun p12 =>
    if p12 = 0 then (
      some ((-2 : Int32), s)
    ) else (
      (D_X4_restart s a1 a2).bind fun p27 =>
      some ((1 : Int32), p27)
    )
  )
set_option maxRecDepth 100000 in
theorem ok_X8_market {l : Launch} {D : va_G} {ad : Nat → Nat} {cA : Nat → ClassId} (hj : zInj ad) (s : zS) (a1 : Int32) (a2 : Int32) {r : (Int32 × zS)} (h : D_X8_market s a1 a2 = some r) : zMet l D ad cA jX8_market [.ref 0, .int a1, .int a2] s (some (.int r.1)) r.2 := by
  refine zMet_of jX8_market [some (.ref 0), some (.int a1), some (.int a2)] (by decide +kernel) (Nat.le_of_ble_eq_true rfl) rfl hj ?_
  unfold D_X8_market at h
  refine zk_iload_n dX8_market_0 rfl rfl ?_
  refine zk_iconst (v := 0) dX8_market_1 (by decide) ?_
  refine zk_iconst (v := 4) dX8_market_2 (by decide) ?_
  obtain ⟨p3, h3, h⟩ := zbind h
  refine zc_X8_58 [] (As := [.int _, .int _, .int _]) (ok_X8_within hj _ _ _ _ h3) rfl ⟨Nat.le_of_ble_eq_true rfl, Nat.le_of_ble_eq_true rfl⟩ ⟨Nat.le_refl _, Nat.le_refl _⟩ rfl rfl (Nat.le_of_ble_eq_true rfl) dX8_market_3 ?_
  refine zk_if_eq (tgt := 18) dX8_market_6 rfl (fun g6 => ?_) (fun g6 => ?_)
  · replace h := zpos g6 h
    refine zk_bipush (v := -2) dX8_market_18 (by decide) ?_
    have e9 := Option.some.inj h
    subst e9
    exact zk_iret rfl ⟨rfl, rfl⟩ dX8_market_20
  · replace h := zneg g6 h
    refine zk_iload_n dX8_market_9 rfl rfl ?_
    refine zk_iconst (v := 0) dX8_market_10 (by decide) ?_
    refine zk_iconst (v := 4) dX8_market_11 (by decide) ?_
    obtain ⟨p12, h12, h⟩ := zbind h
    refine zc_X8_58 [] (As := [.int _, .int _, .int _]) (ok_X8_within hj _ _ _ _ h12) rfl ⟨Nat.le_of_ble_eq_true rfl, Nat.le_of_ble_eq_true rfl⟩ ⟨Nat.le_refl _, Nat.le_refl _⟩ rfl rfl (Nat.le_of_ble_eq_true rfl) dX8_market_12 ?_
    refine zk_if_ne (tgt := 21) dX8_market_15 rfl (fun g15 => ?_) (fun g15 => ?_)
    · replace h := zneg g15 h
      refine zk_aload_n dX8_market_21 rfl rfl ?_
      refine zf_X8_54 rfl dX8_market_22 ?_
      refine zk_iload_n dX8_market_25 rfl rfl ?_
      refine zk_iload_n dX8_market_26 rfl rfl ?_
      obtain ⟨p27, h27, h⟩ := zbind h
      refine zc_X8_277 [] (As := [.int _, .int _]) (ok_X4_restart hj _ _ _ h27) rfl ⟨Nat.le_of_ble_eq_true rfl, Nat.le_of_ble_eq_true rfl⟩ ⟨Nat.le_refl _, Nat.le_refl _⟩ rfl rfl (Nat.le_of_ble_eq_true rfl) dX8_market_27 ?_
      refine zk_iconst (v := 1) dX8_market_30 (by decide) ?_
      have e9 := Option.some.inj h
      subst e9
      exact zk_iret rfl ⟨rfl, rfl⟩ dX8_market_31
    · replace h := zpos g15 h
      refine zk_bipush (v := -2) dX8_market_18 (by decide) ?_
      have e9 := Option.some.inj h
      subst e9
      exact zk_iret rfl ⟨rfl, rfl⟩ dX8_market_20
def D_X8_minimal (s : zS) (a1 : Int32) : Option Int32 :=
  if (-1 : Int32) ≤ a1 then (
    if a1 = (-1 : Int32) then (
      (D_X5_leastSets s).bind fun p17 =>
      some p17
    ) else (
      (D_X5_leastSetAt s a1).bind fun p28 =>
      some p28
    )
  ) else (
    some (-2 : Int32)
  )
set_option maxRecDepth 100000 in
theorem ok_X8_minimal {l : Launch} {D : va_G} {ad : Nat → Nat} {cA : Nat → ClassId} (hj : zInj ad) (s : zS) (a1 : Int32) {r : Int32} (h : D_X8_minimal s a1 = some r) : zMet l D ad cA jX8_minimal [.ref 0, .int a1] s (some (.int r)) s := by
  refine zMet_of jX8_minimal [some (.ref 0), some (.int a1)] (by decide +kernel) (Nat.le_of_ble_eq_true rfl) rfl hj ?_
  unfold D_X8_minimal at h
  refine zk_iload_n dX8_minimal_0 rfl rfl ?_
  refine zk_iconst (v := -1) dX8_minimal_1 (by decide) ?_
  refine zk_icmp_ge (tgt := 8) dX8_minimal_2 rfl (fun g2 => ?_) (fun g2 => ?_)
  · replace h := zpos g2 h
    refine zk_iload_n dX8_minimal_8 rfl rfl ?_
    refine zk_iconst (v := -1) dX8_minimal_9 (by decide) ?_
    refine zk_icmp_ne (tgt := 23) dX8_minimal_10 rfl (fun g10 => ?_) (fun g10 => ?_)
    · replace h := zneg g10 h
      refine zk_aload_n dX8_minimal_23 rfl rfl ?_
      refine zf_X8_33 rfl dX8_minimal_24 ?_
      refine zk_iload_n dX8_minimal_27 rfl rfl ?_
      obtain ⟨p28, h28, h⟩ := zbind h
      refine zc_X8_204 [] (As := [.int _]) (ok_X5_leastSetAt hj _ _ h28) rfl ⟨Nat.le_of_ble_eq_true rfl, Nat.le_of_ble_eq_true rfl⟩ ⟨Nat.le_refl _, Nat.le_refl _⟩ rfl rfl (Nat.le_of_ble_eq_true rfl) dX8_minimal_28 ?_
      have e9 := Option.some.inj h
      subst e9
      exact zk_iret rfl ⟨rfl, rfl⟩ dX8_minimal_31
    · replace h := zpos g10 h
      refine zk_aload_n dX8_minimal_13 rfl rfl ?_
      refine zf_X8_33 rfl dX8_minimal_14 ?_
      obtain ⟨p17, h17, h⟩ := zbind h
      refine zc_X8_201 [] (As := []) (ok_X5_leastSets hj _ h17) rfl ⟨Nat.le_of_ble_eq_true rfl, Nat.le_of_ble_eq_true rfl⟩ ⟨Nat.le_refl _, Nat.le_refl _⟩ rfl rfl (Nat.le_of_ble_eq_true rfl) dX8_minimal_17 ?_
      refine zk_goto (tgt := 31) dX8_minimal_20 rfl ?_
      have e9 := Option.some.inj h
      subst e9
      exact zk_iret rfl ⟨rfl, rfl⟩ dX8_minimal_31
  · replace h := zneg g2 h
    refine zk_bipush (v := -2) dX8_minimal_5 (by decide) ?_
    have e9 := Option.some.inj h
    subst e9
    exact zk_iret rfl ⟨rfl, rfl⟩ dX8_minimal_7
def D_X8_most_J19 (s : zS) (a1 : Int32) : Option (Int32 × zS) :=
  if a1 = (-1 : Int32) then (
    (D_X4_greatestSum s).bind fun p28 =>
    some (p28.1, p28.2)
  ) else (
    (D_X4_sellerOf s a1).bind fun p39 =>
    some (p39.1, p39.2)
  )
set_option maxRecDepth 100000 in
theorem ok_X8_most_J19 {l : Launch} {D : va_G} {ad : Nat → Nat} {cA : Nat → ClassId} (hj : zInj ad) (r : (Int32 × zS)) (s : zS) (a1 : Int32) (h : D_X8_most_J19 s a1 = some r) : zOk l D ad cA (zJm jX8_most) (zEnd D ad cA (some (.int r.1)) r.2) 19 [some (.ref 0), some (.int a1)] [] s := by
  unfold D_X8_most_J19 at h
  refine zk_iload_n dX8_most_19 rfl rfl ?_
  refine zk_iconst (v := -1) dX8_most_20 (by decide) ?_
  refine zk_icmp_ne (tgt := 34) dX8_most_21 rfl (fun g21 => ?_) (fun g21 => ?_)
  · replace h := zneg g21 h
    refine zk_aload_n dX8_most_34 rfl rfl ?_
    refine zf_X8_54 rfl dX8_most_35 ?_
    refine zk_iload_n dX8_most_38 rfl rfl ?_
    obtain ⟨p39, h39, h⟩ := zbind h
    refine zc_X8_292 [] (As := [.int _]) (ok_X4_sellerOf hj _ _ h39) rfl ⟨Nat.le_of_ble_eq_true rfl, Nat.le_of_ble_eq_true rfl⟩ ⟨Nat.le_refl _, Nat.le_refl _⟩ rfl rfl (Nat.le_of_ble_eq_true rfl) dX8_most_39 ?_
    have e9 := Option.some.inj h
    subst e9
    exact zk_iret rfl ⟨rfl, rfl⟩ dX8_most_42
  · replace h := zpos g21 h
    refine zk_aload_n dX8_most_24 rfl rfl ?_
    refine zf_X8_54 rfl dX8_most_25 ?_
    obtain ⟨p28, h28, h⟩ := zbind h
    refine zc_X8_289 [] (As := []) (ok_X4_greatestSum hj _ h28) rfl ⟨Nat.le_of_ble_eq_true rfl, Nat.le_of_ble_eq_true rfl⟩ ⟨Nat.le_refl _, Nat.le_refl _⟩ rfl rfl (Nat.le_of_ble_eq_true rfl) dX8_most_28 ?_
    refine zk_goto (tgt := 42) dX8_most_31 rfl ?_
    have e9 := Option.some.inj h
    subst e9
    exact zk_iret rfl ⟨rfl, rfl⟩ dX8_most_42
def D_X8_most (s : zS) (a1 : Int32) : Option (Int32 × zS) :=
  if a1 = (-1 : Int32) then (
    D_X8_most_J19 s a1
  ) else (
    (D_X4_knowsBuyer s a1).bind fun p10 =>
    if p10 = 0 then (
      some ((-10 : Int32), s)
    ) else (
      D_X8_most_J19 s a1
    )
  )
set_option maxRecDepth 100000 in
theorem ok_X8_most {l : Launch} {D : va_G} {ad : Nat → Nat} {cA : Nat → ClassId} (hj : zInj ad) (s : zS) (a1 : Int32) {r : (Int32 × zS)} (h : D_X8_most s a1 = some r) : zMet l D ad cA jX8_most [.ref 0, .int a1] s (some (.int r.1)) r.2 := by
  refine zMet_of jX8_most [some (.ref 0), some (.int a1)] (by decide +kernel) (Nat.le_of_ble_eq_true rfl) rfl hj ?_
  unfold D_X8_most at h
  refine zk_iload_n dX8_most_0 rfl rfl ?_
  refine zk_iconst (v := -1) dX8_most_1 (by decide) ?_
  refine zk_icmp_eq (tgt := 19) dX8_most_2 rfl (fun g2 => ?_) (fun g2 => ?_)
  · replace h := zpos g2 h
    exact ok_X8_most_J19 hj r _ _ h
  · replace h := zneg g2 h
    refine zk_aload_n dX8_most_5 rfl rfl ?_
    refine zf_X8_54 rfl dX8_most_6 ?_
    refine zk_iload_n dX8_most_9 rfl rfl ?_
    obtain ⟨p10, h10, h⟩ := zbind h
    refine zc_X8_280 [] (As := [.int _]) (ok_X4_knowsBuyer hj _ _ h10) rfl ⟨Nat.le_of_ble_eq_true rfl, Nat.le_of_ble_eq_true rfl⟩ ⟨Nat.le_refl _, Nat.le_refl _⟩ rfl rfl (Nat.le_of_ble_eq_true rfl) dX8_most_10 ?_
    refine zk_if_ne (tgt := 19) dX8_most_13 rfl (fun g13 => ?_) (fun g13 => ?_)
    · replace h := zneg g13 h
      exact ok_X8_most_J19 hj r _ _ h
    · replace h := zpos g13 h
      refine zk_bipush (v := -10) dX8_most_16 (by decide) ?_
      have e9 := Option.some.inj h
      subst e9
      exact zk_iret rfl ⟨rfl, rfl⟩ dX8_most_18
def D_X8_paid (s : zS) (a1 : Int32) : Option (Int32 × zS) :=
  (D_X6_knowsUser s a1).bind fun p5 =>
  if p5 = 0 then (
    some ((-2 : Int32), s)
  ) else (
    (D_X6_partsOfWays s a1).bind fun p23 =>
    (D_X2_put s 1 p23.toInt64 (840 : Int64)).bind fun p30 =>
    some ((1 : Int32), p30)
  )
set_option maxRecDepth 100000 in
theorem ok_X8_paid {l : Launch} {D : va_G} {ad : Nat → Nat} {cA : Nat → ClassId} (hj : zInj ad) (s : zS) (a1 : Int32) {r : (Int32 × zS)} (h : D_X8_paid s a1 = some r) : zMet l D ad cA jX8_paid [.ref 0, .int a1] s (some (.int r.1)) r.2 := by
  refine zMet_of jX8_paid [some (.ref 0), some (.int a1)] (by decide +kernel) (Nat.le_of_ble_eq_true rfl) rfl hj ?_
  unfold D_X8_paid at h
  refine zk_aload_n dX8_paid_0 rfl rfl ?_
  refine zf_X8_47 rfl dX8_paid_1 ?_
  refine zk_iload_n dX8_paid_4 rfl rfl ?_
  obtain ⟨p5, h5, h⟩ := zbind h
  refine zc_X8_265 [] (As := [.int _]) (ok_X6_knowsUser hj _ _ h5) rfl ⟨Nat.le_of_ble_eq_true rfl, Nat.le_of_ble_eq_true rfl⟩ ⟨Nat.le_refl _, Nat.le_refl _⟩ rfl rfl (Nat.le_of_ble_eq_true rfl) dX8_paid_5 ?_
  refine zk_if_ne (tgt := 14) dX8_paid_8 rfl (fun g8 => ?_) (fun g8 => ?_)
  · replace h := zneg g8 h
    refine zk_aload_n dX8_paid_14 rfl rfl ?_
    refine zf_X8_10 rfl dX8_paid_15 ?_
    refine zk_aload_n dX8_paid_18 rfl rfl ?_
    refine zf_X8_47 rfl dX8_paid_19 ?_
    refine zk_iload_n dX8_paid_22 rfl rfl ?_
    obtain ⟨p23, h23, h⟩ := zbind h
    refine zc_X8_268 [.ref _] (As := [.int _]) (ok_X6_partsOfWays hj _ _ h23) rfl ⟨Nat.le_of_ble_eq_true rfl, Nat.le_of_ble_eq_true rfl⟩ ⟨Nat.le_refl _, Nat.le_refl _⟩ rfl rfl (Nat.le_of_ble_eq_true rfl) dX8_paid_23 ?_
    refine zk_i2l dX8_paid_26 ?_
    refine zk_ldc2 dX8_paid_27 zw_X8_222 ?_
    obtain ⟨p30, h30, h⟩ := zbind h
    refine zc_X8_103 [] (hs := rfl) (As := [.long _, .long _]) (ok_X2_put hj _ _ _ _ h30) rfl ⟨Nat.le_of_ble_eq_true rfl, Nat.le_of_ble_eq_true rfl⟩ ⟨Nat.le_refl _, Nat.le_refl _⟩ rfl rfl (Nat.le_of_ble_eq_true rfl) dX8_paid_30 ?_
    refine zk_iconst (v := 1) dX8_paid_33 (by decide) ?_
    have e9 := Option.some.inj h
    subst e9
    exact zk_iret rfl ⟨rfl, rfl⟩ dX8_paid_34
  · replace h := zpos g8 h
    refine zk_bipush (v := -2) dX8_paid_11 (by decide) ?_
    have e9 := Option.some.inj h
    subst e9
    exact zk_iret rfl ⟨rfl, rfl⟩ dX8_paid_13
def D_X8_part (s : zS) (a1 : Int32) : Option Int64 :=
  (D_X8_within a1 (0 : Int32) (1 : Int32)).bind fun p3 =>
  if p3 = 0 then (
    some (-1000000000000000000 : Int64)
  ) else (
    if a1 = 0 then (
      some (s.2 1 0)
    ) else (
      some (s.2 1 1)
    )
  )
set_option maxRecDepth 100000 in
theorem ok_X8_part {l : Launch} {D : va_G} {ad : Nat → Nat} {cA : Nat → ClassId} (hj : zInj ad) (s : zS) (a1 : Int32) {r : Int64} (h : D_X8_part s a1 = some r) : zMet l D ad cA jX8_part [.ref 0, .int a1] s (some (.long r)) s := by
  refine zMet_of jX8_part [some (.ref 0), some (.int a1)] (by decide +kernel) (Nat.le_of_ble_eq_true rfl) rfl hj ?_
  unfold D_X8_part at h
  refine zk_iload_n dX8_part_0 rfl rfl ?_
  refine zk_iconst (v := 0) dX8_part_1 (by decide) ?_
  refine zk_iconst (v := 1) dX8_part_2 (by decide) ?_
  obtain ⟨p3, h3, h⟩ := zbind h
  refine zc_X8_58 [] (As := [.int _, .int _, .int _]) (ok_X8_within hj _ _ _ _ h3) rfl ⟨Nat.le_of_ble_eq_true rfl, Nat.le_of_ble_eq_true rfl⟩ ⟨Nat.le_refl _, Nat.le_refl _⟩ rfl rfl (Nat.le_of_ble_eq_true rfl) dX8_part_3 ?_
  refine zk_if_ne (tgt := 13) dX8_part_6 rfl (fun g6 => ?_) (fun g6 => ?_)
  · replace h := zneg g6 h
    refine zk_iload_n dX8_part_13 rfl rfl ?_
    refine zk_if_ne (tgt := 27) dX8_part_14 rfl (fun g14 => ?_) (fun g14 => ?_)
    · replace h := zneg g14 h
      refine zk_aload_n dX8_part_27 rfl rfl ?_
      refine zf_X8_10 rfl dX8_part_28 ?_
      refine zf_X8_132 (hs := rfl) rfl dX8_part_31 ?_
      have e9 := Option.some.inj h
      subst e9
      exact zk_lret rfl ⟨rfl, rfl⟩ dX8_part_34
    · replace h := zpos g14 h
      refine zk_aload_n dX8_part_17 rfl rfl ?_
      refine zf_X8_10 rfl dX8_part_18 ?_
      refine zf_X8_128 (hs := rfl) rfl dX8_part_21 ?_
      refine zk_goto (tgt := 34) dX8_part_24 rfl ?_
      have e9 := Option.some.inj h
      subst e9
      exact zk_lret rfl ⟨rfl, rfl⟩ dX8_part_34
  · replace h := zpos g6 h
    refine zk_ldc2 dX8_part_9 zw_X8_126 ?_
    have e9 := Option.some.inj h
    subst e9
    exact zk_lret rfl ⟨rfl, rfl⟩ dX8_part_12
def D_X8_parting_J19 (s : zS) (a1 : Int32) : Option Int32 :=
  (D_X7_bestParting s).bind fun p23 =>
  if a1 = (-1 : Int32) then (
    (D_X7_partingWorth s p23).bind fun p37 =>
    some p37
  ) else (
    (D_X7_leastBeside s p23 a1).bind fun p49 =>
    some p49
  )
set_option maxRecDepth 100000 in
theorem ok_X8_parting_J19 {l : Launch} {D : va_G} {ad : Nat → Nat} {cA : Nat → ClassId} (hj : zInj ad) (r : Int32) (s : zS) (a1 : Int32) (h : D_X8_parting_J19 s a1 = some r) : zOk l D ad cA (zJm jX8_parting) (zEnd D ad cA (some (.int r)) s) 19 [some (.ref 0), some (.int a1), none] [] s := by
  unfold D_X8_parting_J19 at h
  refine zk_aload_n dX8_parting_19 rfl rfl ?_
  refine zf_X8_19 rfl dX8_parting_20 ?_
  obtain ⟨p23, h23, h⟩ := zbind h
  refine zc_X8_117 [] (As := []) (ok_X7_bestParting hj _ h23) rfl ⟨Nat.le_of_ble_eq_true rfl, Nat.le_of_ble_eq_true rfl⟩ ⟨Nat.le_refl _, Nat.le_refl _⟩ rfl rfl (Nat.le_of_ble_eq_true rfl) dX8_parting_23 ?_
  refine zk_istore_n (i := 2) dX8_parting_26 rfl (by decide) (zk_eq [_, _, _] rfl ?_)
  refine zk_iload_n dX8_parting_27 rfl rfl ?_
  refine zk_iconst (v := -1) dX8_parting_28 (by decide) ?_
  refine zk_icmp_ne (tgt := 43) dX8_parting_29 rfl (fun g29 => ?_) (fun g29 => ?_)
  · replace h := zneg g29 h
    refine zk_aload_n dX8_parting_43 rfl rfl ?_
    refine zf_X8_19 rfl dX8_parting_44 ?_
    refine zk_iload_n dX8_parting_47 rfl rfl ?_
    refine zk_iload_n dX8_parting_48 rfl rfl ?_
    obtain ⟨p49, h49, h⟩ := zbind h
    refine zc_X8_123 [] (As := [.int _, .int _]) (ok_X7_leastBeside hj _ _ _ h49) rfl ⟨Nat.le_of_ble_eq_true rfl, Nat.le_of_ble_eq_true rfl⟩ ⟨Nat.le_refl _, Nat.le_refl _⟩ rfl rfl (Nat.le_of_ble_eq_true rfl) dX8_parting_49 ?_
    have e9 := Option.some.inj h
    subst e9
    exact zk_iret rfl ⟨rfl, rfl⟩ dX8_parting_52
  · replace h := zpos g29 h
    refine zk_aload_n dX8_parting_32 rfl rfl ?_
    refine zf_X8_19 rfl dX8_parting_33 ?_
    refine zk_iload_n dX8_parting_36 rfl rfl ?_
    obtain ⟨p37, h37, h⟩ := zbind h
    refine zc_X8_120 [] (As := [.int _]) (ok_X7_partingWorth hj _ _ h37) rfl ⟨Nat.le_of_ble_eq_true rfl, Nat.le_of_ble_eq_true rfl⟩ ⟨Nat.le_refl _, Nat.le_refl _⟩ rfl rfl (Nat.le_of_ble_eq_true rfl) dX8_parting_37 ?_
    refine zk_goto (tgt := 52) dX8_parting_40 rfl ?_
    have e9 := Option.some.inj h
    subst e9
    exact zk_iret rfl ⟨rfl, rfl⟩ dX8_parting_52
def D_X8_parting (s : zS) (a1 : Int32) : Option Int32 :=
  if a1 = (-1 : Int32) then (
    D_X8_parting_J19 s a1
  ) else (
    (D_X7_knowsSide s a1).bind fun p10 =>
    if p10 = 0 then (
      some (-100000 : Int32)
    ) else (
      D_X8_parting_J19 s a1
    )
  )
set_option maxRecDepth 100000 in
theorem ok_X8_parting {l : Launch} {D : va_G} {ad : Nat → Nat} {cA : Nat → ClassId} (hj : zInj ad) (s : zS) (a1 : Int32) {r : Int32} (h : D_X8_parting s a1 = some r) : zMet l D ad cA jX8_parting [.ref 0, .int a1] s (some (.int r)) s := by
  refine zMet_of jX8_parting [some (.ref 0), some (.int a1), none] (by decide +kernel) (Nat.le_of_ble_eq_true rfl) rfl hj ?_
  unfold D_X8_parting at h
  refine zk_iload_n dX8_parting_0 rfl rfl ?_
  refine zk_iconst (v := -1) dX8_parting_1 (by decide) ?_
  refine zk_icmp_eq (tgt := 19) dX8_parting_2 rfl (fun g2 => ?_) (fun g2 => ?_)
  · replace h := zpos g2 h
    exact ok_X8_parting_J19 hj r _ _ h
  · replace h := zneg g2 h
    refine zk_aload_n dX8_parting_5 rfl rfl ?_
    refine zf_X8_19 rfl dX8_parting_6 ?_
    refine zk_iload_n dX8_parting_9 rfl rfl ?_
    obtain ⟨p10, h10, h⟩ := zbind h
    refine zc_X8_84 [] (As := [.int _]) (ok_X7_knowsSide hj _ _ h10) rfl ⟨Nat.le_of_ble_eq_true rfl, Nat.le_of_ble_eq_true rfl⟩ ⟨Nat.le_refl _, Nat.le_refl _⟩ rfl rfl (Nat.le_of_ble_eq_true rfl) dX8_parting_10 ?_
    refine zk_if_ne (tgt := 19) dX8_parting_13 rfl (fun g13 => ?_) (fun g13 => ?_)
    · replace h := zneg g13 h
      exact ok_X8_parting_J19 hj r _ _ h
    · replace h := zpos g13 h
      refine zk_ldc dX8_parting_16 zw_X8_72 ?_
      have e9 := Option.some.inj h
      subst e9
      exact zk_iret rfl ⟨rfl, rfl⟩ dX8_parting_18
def D_X8_pay (s : zS) (a1 : Int32) (a2 : Int32) : Option (Int32 × zS) :=
  (D_X6_knowsUser s a1).bind fun p5 =>
  if p5 = 0 then (
    some ((-2 : Int32), s)
  ) else (
    (D_X8_within a2 (0 : Int32) (10000 : Int32)).bind fun p16 =>
    if p16 = 0 then (
      some ((-2 : Int32), s)
    ) else (
      (D_X6_replacePay s a1 a2).bind fun p31 =>
      some (p31.1, p31.2)
    )
  )
set_option maxRecDepth 100000 in
theorem ok_X8_pay {l : Launch} {D : va_G} {ad : Nat → Nat} {cA : Nat → ClassId} (hj : zInj ad) (s : zS) (a1 : Int32) (a2 : Int32) {r : (Int32 × zS)} (h : D_X8_pay s a1 a2 = some r) : zMet l D ad cA jX8_pay [.ref 0, .int a1, .int a2] s (some (.int r.1)) r.2 := by
  refine zMet_of jX8_pay [some (.ref 0), some (.int a1), some (.int a2)] (by decide +kernel) (Nat.le_of_ble_eq_true rfl) rfl hj ?_
  unfold D_X8_pay at h
  refine zk_aload_n dX8_pay_0 rfl rfl ?_
  refine zf_X8_47 rfl dX8_pay_1 ?_
  refine zk_iload_n dX8_pay_4 rfl rfl ?_
  obtain ⟨p5, h5, h⟩ := zbind h
  refine zc_X8_265 [] (As := [.int _]) (ok_X6_knowsUser hj _ _ h5) rfl ⟨Nat.le_of_ble_eq_true rfl, Nat.le_of_ble_eq_true rfl⟩ ⟨Nat.le_refl _, Nat.le_refl _⟩ rfl rfl (Nat.le_of_ble_eq_true rfl) dX8_pay_5 ?_
  refine zk_if_eq (tgt := 22) dX8_pay_8 rfl (fun g8 => ?_) (fun g8 => ?_)
  · replace h := zpos g8 h
    refine zk_bipush (v := -2) dX8_pay_22 (by decide) ?_
    have e9 := Option.some.inj h
    subst e9
    exact zk_iret rfl ⟨rfl, rfl⟩ dX8_pay_24
  · replace h := zneg g8 h
    refine zk_iload_n dX8_pay_11 rfl rfl ?_
    refine zk_iconst (v := 0) dX8_pay_12 (by decide) ?_
    refine zk_sipush (v := 10000) dX8_pay_13 (by decide) ?_
    obtain ⟨p16, h16, h⟩ := zbind h
    refine zc_X8_58 [] (As := [.int _, .int _, .int _]) (ok_X8_within hj _ _ _ _ h16) rfl ⟨Nat.le_of_ble_eq_true rfl, Nat.le_of_ble_eq_true rfl⟩ ⟨Nat.le_refl _, Nat.le_refl _⟩ rfl rfl (Nat.le_of_ble_eq_true rfl) dX8_pay_16 ?_
    refine zk_if_ne (tgt := 25) dX8_pay_19 rfl (fun g19 => ?_) (fun g19 => ?_)
    · replace h := zneg g19 h
      refine zk_aload_n dX8_pay_25 rfl rfl ?_
      refine zf_X8_47 rfl dX8_pay_26 ?_
      refine zk_iload_n dX8_pay_29 rfl rfl ?_
      refine zk_iload_n dX8_pay_30 rfl rfl ?_
      obtain ⟨p31, h31, h⟩ := zbind h
      refine zc_X8_271 [] (As := [.int _, .int _]) (ok_X6_replacePay hj _ _ _ h31) rfl ⟨Nat.le_of_ble_eq_true rfl, Nat.le_of_ble_eq_true rfl⟩ ⟨Nat.le_refl _, Nat.le_refl _⟩ rfl rfl (Nat.le_of_ble_eq_true rfl) dX8_pay_31 ?_
      have e9 := Option.some.inj h
      subst e9
      exact zk_iret rfl ⟨rfl, rfl⟩ dX8_pay_34
    · replace h := zpos g19 h
      refine zk_bipush (v := -2) dX8_pay_22 (by decide) ?_
      have e9 := Option.some.inj h
      subst e9
      exact zk_iret rfl ⟨rfl, rfl⟩ dX8_pay_24
def D_X8_place (s : zS) (a1 : Int32) (a2 : Int32) : Option (Int32 × zS) :=
  (D_X6_knowsPlace s a1).bind fun p5 =>
  if p5 = 0 then (
    some ((-2 : Int32), s)
  ) else (
    (D_X8_within a2 (0 : Int32) (1000 : Int32)).bind fun p16 =>
    if p16 = 0 then (
      some ((-2 : Int32), s)
    ) else (
      if (10 : Int32) ≤ (s.1 47 0) then (
        some ((-4 : Int32), s)
      ) else (
        (D_X6_addPlace s a1 a2).bind fun p43 =>
        some (p43.1, p43.2)
      )
    )
  )
set_option maxRecDepth 100000 in
theorem ok_X8_place {l : Launch} {D : va_G} {ad : Nat → Nat} {cA : Nat → ClassId} (hj : zInj ad) (s : zS) (a1 : Int32) (a2 : Int32) {r : (Int32 × zS)} (h : D_X8_place s a1 a2 = some r) : zMet l D ad cA jX8_place [.ref 0, .int a1, .int a2] s (some (.int r.1)) r.2 := by
  refine zMet_of jX8_place [some (.ref 0), some (.int a1), some (.int a2)] (by decide +kernel) (Nat.le_of_ble_eq_true rfl) rfl hj ?_
  unfold D_X8_place at h
  refine zk_aload_n dX8_place_0 rfl rfl ?_
  refine zf_X8_47 rfl dX8_place_1 ?_
  refine zk_iload_n dX8_place_4 rfl rfl ?_
  obtain ⟨p5, h5, h⟩ := zbind h
  refine zc_X8_244 [] (As := [.int _]) (ok_X6_knowsPlace hj _ _ h5) rfl ⟨Nat.le_of_ble_eq_true rfl, Nat.le_of_ble_eq_true rfl⟩ ⟨Nat.le_refl _, Nat.le_refl _⟩ rfl rfl (Nat.le_of_ble_eq_true rfl) dX8_place_5 ?_
  refine zk_if_eq (tgt := 22) dX8_place_8 rfl (fun g8 => ?_) (fun g8 => ?_)
  · replace h := zpos g8 h
    refine zk_bipush (v := -2) dX8_place_22 (by decide) ?_
    have e9 := Option.some.inj h
    subst e9
    exact zk_iret rfl ⟨rfl, rfl⟩ dX8_place_24
  · replace h := zneg g8 h
    refine zk_iload_n dX8_place_11 rfl rfl ?_
    refine zk_iconst (v := 0) dX8_place_12 (by decide) ?_
    refine zk_sipush (v := 1000) dX8_place_13 (by decide) ?_
    obtain ⟨p16, h16, h⟩ := zbind h
    refine zc_X8_58 [] (As := [.int _, .int _, .int _]) (ok_X8_within hj _ _ _ _ h16) rfl ⟨Nat.le_of_ble_eq_true rfl, Nat.le_of_ble_eq_true rfl⟩ ⟨Nat.le_refl _, Nat.le_refl _⟩ rfl rfl (Nat.le_of_ble_eq_true rfl) dX8_place_16 ?_
    refine zk_if_ne (tgt := 25) dX8_place_19 rfl (fun g19 => ?_) (fun g19 => ?_)
    · replace h := zneg g19 h
      refine zk_aload_n dX8_place_25 rfl rfl ?_
      refine zf_X8_47 rfl dX8_place_26 ?_
      refine zf_X8_247 rfl dX8_place_29 ?_
      refine zk_bipush (v := 10) dX8_place_32 (by decide) ?_
      refine zk_icmp_ge (tgt := 49) dX8_place_34 rfl (fun g34 => ?_) (fun g34 => ?_)
      · replace h := zpos g34 h
        refine zk_bipush (v := -4) dX8_place_49 (by decide) ?_
        have e9 := Option.some.inj h
        subst e9
        exact zk_iret rfl ⟨rfl, rfl⟩ dX8_place_51
      · replace h := zneg g34 h
        refine zk_aload_n dX8_place_37 rfl rfl ?_
        refine zf_X8_47 rfl dX8_place_38 ?_
        refine zk_iload_n dX8_place_41 rfl rfl ?_
        refine zk_iload_n dX8_place_42 rfl rfl ?_
        obtain ⟨p43, h43, h⟩ := zbind h
        refine zc_X8_250 [] (As := [.int _, .int _]) (ok_X6_addPlace hj _ _ _ h43) rfl ⟨Nat.le_of_ble_eq_true rfl, Nat.le_of_ble_eq_true rfl⟩ ⟨Nat.le_refl _, Nat.le_refl _⟩ rfl rfl (Nat.le_of_ble_eq_true rfl) dX8_place_43 ?_
        refine zk_goto (tgt := 51) dX8_place_46 rfl ?_
        have e9 := Option.some.inj h
        subst e9
        exact zk_iret rfl ⟨rfl, rfl⟩ dX8_place_51
    · replace h := zpos g19 h
      refine zk_bipush (v := -2) dX8_place_22 (by decide) ?_
      have e9 := Option.some.inj h
      subst e9
      exact zk_iret rfl ⟨rfl, rfl⟩ dX8_place_24
def D_X8_power (s : zS) (a1 : Int32) (a2 : Int32) : Option Int32 :=
  (D_X5_knowsVoter s a1).bind fun p5 =>
  if p5 = 0 then (
    some (-2 : Int32)
  ) else (
    if a2 = 0 then (
      (D_X5_turnsOf s a1).bind fun p49 =>
      some p49
    ) else (
    if a2 = 1 then (
      (D_X5_pivotsOf s a1).bind fun p58 =>
      some p58
    ) else (
    if a2 = 2 then (
      (D_X5_isBlocking s a1).bind fun p67 =>
      if p67 = 0 then (
        some (0 : Int32)
      ) else (
        some (1 : Int32)
      )
    ) else (
    if a2 = 3 then (
      (D_X5_isIdle s a1).bind fun p84 =>
      if p84 = 0 then (
        some (0 : Int32)
      ) else (
        some (1 : Int32)
      )
    ) else (
    some (-2 : Int32)
    ))))
  )
set_option maxRecDepth 100000 in
theorem ok_X8_power {l : Launch} {D : va_G} {ad : Nat → Nat} {cA : Nat → ClassId} (hj : zInj ad) (s : zS) (a1 : Int32) (a2 : Int32) {r : Int32} (h : D_X8_power s a1 a2 = some r) : zMet l D ad cA jX8_power [.ref 0, .int a1, .int a2] s (some (.int r)) s := by
  refine zMet_of jX8_power [some (.ref 0), some (.int a1), some (.int a2)] (by decide +kernel) (Nat.le_of_ble_eq_true rfl) rfl hj ?_
  unfold D_X8_power at h
  refine zk_aload_n dX8_power_0 rfl rfl ?_
  refine zf_X8_33 rfl dX8_power_1 ?_
  refine zk_iload_n dX8_power_4 rfl rfl ?_
  obtain ⟨p5, h5, h⟩ := zbind h
  refine zc_X8_186 [] (As := [.int _]) (ok_X5_knowsVoter hj _ _ h5) rfl ⟨Nat.le_of_ble_eq_true rfl, Nat.le_of_ble_eq_true rfl⟩ ⟨Nat.le_refl _, Nat.le_refl _⟩ rfl rfl (Nat.le_of_ble_eq_true rfl) dX8_power_5 ?_
  refine zk_if_ne (tgt := 14) dX8_power_8 rfl (fun g8 => ?_) (fun g8 => ?_)
  · replace h := zneg g8 h
    refine zk_iload_n dX8_power_14 rfl rfl ?_
    by_cases g15_0 : a2 = 0
    · replace h := zpos g15_0 h
      refine zk_tableIn (tgt := 44) (off := 29) dX8_power_15 (by rw [g15_0]; decide) (by rw [g15_0]; decide) (by rw [g15_0]; rfl) rfl ?_
      refine zk_aload_n dX8_power_44 rfl rfl ?_
      refine zf_X8_33 rfl dX8_power_45 ?_
      refine zk_iload_n dX8_power_48 rfl rfl ?_
      obtain ⟨p49, h49, h⟩ := zbind h
      refine zc_X8_207 [] (As := [.int _]) (ok_X5_turnsOf hj _ _ h49) rfl ⟨Nat.le_of_ble_eq_true rfl, Nat.le_of_ble_eq_true rfl⟩ ⟨Nat.le_refl _, Nat.le_refl _⟩ rfl rfl (Nat.le_of_ble_eq_true rfl) dX8_power_49 ?_
      have e9 := Option.some.inj h
      subst e9
      exact zk_iret rfl ⟨rfl, rfl⟩ dX8_power_52
    replace h := zneg g15_0 h
    by_cases g15_1 : a2 = 1
    · replace h := zpos g15_1 h
      refine zk_tableIn (tgt := 53) (off := 38) dX8_power_15 (by rw [g15_1]; decide) (by rw [g15_1]; decide) (by rw [g15_1]; rfl) rfl ?_
      refine zk_aload_n dX8_power_53 rfl rfl ?_
      refine zf_X8_33 rfl dX8_power_54 ?_
      refine zk_iload_n dX8_power_57 rfl rfl ?_
      obtain ⟨p58, h58, h⟩ := zbind h
      refine zc_X8_210 [] (As := [.int _]) (ok_X5_pivotsOf hj _ _ h58) rfl ⟨Nat.le_of_ble_eq_true rfl, Nat.le_of_ble_eq_true rfl⟩ ⟨Nat.le_refl _, Nat.le_refl _⟩ rfl rfl (Nat.le_of_ble_eq_true rfl) dX8_power_58 ?_
      have e9 := Option.some.inj h
      subst e9
      exact zk_iret rfl ⟨rfl, rfl⟩ dX8_power_61
    replace h := zneg g15_1 h
    by_cases g15_2 : a2 = 2
    · replace h := zpos g15_2 h
      refine zk_tableIn (tgt := 62) (off := 47) dX8_power_15 (by rw [g15_2]; decide) (by rw [g15_2]; decide) (by rw [g15_2]; rfl) rfl ?_
      refine zk_aload_n dX8_power_62 rfl rfl ?_
      refine zf_X8_33 rfl dX8_power_63 ?_
      refine zk_iload_n dX8_power_66 rfl rfl ?_
      obtain ⟨p67, h67, h⟩ := zbind h
      refine zc_X8_213 [] (As := [.int _]) (ok_X5_isBlocking hj _ _ h67) rfl ⟨Nat.le_of_ble_eq_true rfl, Nat.le_of_ble_eq_true rfl⟩ ⟨Nat.le_refl _, Nat.le_refl _⟩ rfl rfl (Nat.le_of_ble_eq_true rfl) dX8_power_67 ?_
      refine zk_if_eq (tgt := 77) dX8_power_70 rfl (fun g70 => ?_) (fun g70 => ?_)
      · replace h := zpos g70 h
        refine zk_iconst (v := 0) dX8_power_77 (by decide) ?_
        have e9 := Option.some.inj h
        subst e9
        exact zk_iret rfl ⟨rfl, rfl⟩ dX8_power_78
      · replace h := zneg g70 h
        refine zk_iconst (v := 1) dX8_power_73 (by decide) ?_
        refine zk_goto (tgt := 78) dX8_power_74 rfl ?_
        have e9 := Option.some.inj h
        subst e9
        exact zk_iret rfl ⟨rfl, rfl⟩ dX8_power_78
    replace h := zneg g15_2 h
    by_cases g15_3 : a2 = 3
    · replace h := zpos g15_3 h
      refine zk_tableIn (tgt := 79) (off := 64) dX8_power_15 (by rw [g15_3]; decide) (by rw [g15_3]; decide) (by rw [g15_3]; rfl) rfl ?_
      refine zk_aload_n dX8_power_79 rfl rfl ?_
      refine zf_X8_33 rfl dX8_power_80 ?_
      refine zk_iload_n dX8_power_83 rfl rfl ?_
      obtain ⟨p84, h84, h⟩ := zbind h
      refine zc_X8_216 [] (As := [.int _]) (ok_X5_isIdle hj _ _ h84) rfl ⟨Nat.le_of_ble_eq_true rfl, Nat.le_of_ble_eq_true rfl⟩ ⟨Nat.le_refl _, Nat.le_refl _⟩ rfl rfl (Nat.le_of_ble_eq_true rfl) dX8_power_84 ?_
      refine zk_if_eq (tgt := 94) dX8_power_87 rfl (fun g87 => ?_) (fun g87 => ?_)
      · replace h := zpos g87 h
        refine zk_iconst (v := 0) dX8_power_94 (by decide) ?_
        have e9 := Option.some.inj h
        subst e9
        exact zk_iret rfl ⟨rfl, rfl⟩ dX8_power_95
      · replace h := zneg g87 h
        refine zk_iconst (v := 1) dX8_power_90 (by decide) ?_
        refine zk_goto (tgt := 95) dX8_power_91 rfl ?_
        have e9 := Option.some.inj h
        subst e9
        exact zk_iret rfl ⟨rfl, rfl⟩ dX8_power_95
    replace h := zneg g15_3 h
    refine zk_tableOut (tgt := 96) dX8_power_15 (zsw_s (k := 3) (zsw_s (k := 2) (zsw_s (k := 1) (zsw_s (k := 0) (zsw0 _) g15_0) g15_1) g15_2) g15_3) rfl ?_
    refine zk_bipush (v := -2) dX8_power_96 (by decide) ?_
    have e9 := Option.some.inj h
    subst e9
    exact zk_iret rfl ⟨rfl, rfl⟩ dX8_power_98
  · replace h := zpos g8 h
    refine zk_bipush (v := -2) dX8_power_11 (by decide) ?_
    have e9 := Option.some.inj h
    subst e9
    exact zk_iret rfl ⟨rfl, rfl⟩ dX8_power_13
def D_X8_price (s : zS) (a1 : Int32) (a2 : Int32) : Option (Int32 × zS) :=
  (D_X4_knowsSeller s a1).bind fun p5 =>
  if p5 = 0 then (
    some ((-2 : Int32), s)
  ) else (
    (D_X8_within a2 (0 : Int32) (1 : Int32)).bind fun p14 =>
    if p14 = 0 then (
      some ((-2 : Int32), s)
    ) else (
      if a2 = 0 then (
        (D_X4_cheapPrice s a1).bind fun p32 =>
        some (p32.1, p32.2)
      ) else (
        (D_X4_dearPrice s a1).bind fun p43 =>
        some (p43.1, p43.2)
      )
    )
  )
set_option maxRecDepth 100000 in
theorem ok_X8_price {l : Launch} {D : va_G} {ad : Nat → Nat} {cA : Nat → ClassId} (hj : zInj ad) (s : zS) (a1 : Int32) (a2 : Int32) {r : (Int32 × zS)} (h : D_X8_price s a1 a2 = some r) : zMet l D ad cA jX8_price [.ref 0, .int a1, .int a2] s (some (.int r.1)) r.2 := by
  refine zMet_of jX8_price [some (.ref 0), some (.int a1), some (.int a2)] (by decide +kernel) (Nat.le_of_ble_eq_true rfl) rfl hj ?_
  unfold D_X8_price at h
  refine zk_aload_n dX8_price_0 rfl rfl ?_
  refine zf_X8_54 rfl dX8_price_1 ?_
  refine zk_iload_n dX8_price_4 rfl rfl ?_
  obtain ⟨p5, h5, h⟩ := zbind h
  refine zc_X8_283 [] (As := [.int _]) (ok_X4_knowsSeller hj _ _ h5) rfl ⟨Nat.le_of_ble_eq_true rfl, Nat.le_of_ble_eq_true rfl⟩ ⟨Nat.le_refl _, Nat.le_refl _⟩ rfl rfl (Nat.le_of_ble_eq_true rfl) dX8_price_5 ?_
  refine zk_if_eq (tgt := 20) dX8_price_8 rfl (fun g8 => ?_) (fun g8 => ?_)
  · replace h := zpos g8 h
    refine zk_bipush (v := -2) dX8_price_20 (by decide) ?_
    have e9 := Option.some.inj h
    subst e9
    exact zk_iret rfl ⟨rfl, rfl⟩ dX8_price_22
  · replace h := zneg g8 h
    refine zk_iload_n dX8_price_11 rfl rfl ?_
    refine zk_iconst (v := 0) dX8_price_12 (by decide) ?_
    refine zk_iconst (v := 1) dX8_price_13 (by decide) ?_
    obtain ⟨p14, h14, h⟩ := zbind h
    refine zc_X8_58 [] (As := [.int _, .int _, .int _]) (ok_X8_within hj _ _ _ _ h14) rfl ⟨Nat.le_of_ble_eq_true rfl, Nat.le_of_ble_eq_true rfl⟩ ⟨Nat.le_refl _, Nat.le_refl _⟩ rfl rfl (Nat.le_of_ble_eq_true rfl) dX8_price_14 ?_
    refine zk_if_ne (tgt := 23) dX8_price_17 rfl (fun g17 => ?_) (fun g17 => ?_)
    · replace h := zneg g17 h
      refine zk_iload_n dX8_price_23 rfl rfl ?_
      refine zk_if_ne (tgt := 38) dX8_price_24 rfl (fun g24 => ?_) (fun g24 => ?_)
      · replace h := zneg g24 h
        refine zk_aload_n dX8_price_38 rfl rfl ?_
        refine zf_X8_54 rfl dX8_price_39 ?_
        refine zk_iload_n dX8_price_42 rfl rfl ?_
        obtain ⟨p43, h43, h⟩ := zbind h
        refine zc_X8_298 [] (As := [.int _]) (ok_X4_dearPrice hj _ _ h43) rfl ⟨Nat.le_of_ble_eq_true rfl, Nat.le_of_ble_eq_true rfl⟩ ⟨Nat.le_refl _, Nat.le_refl _⟩ rfl rfl (Nat.le_of_ble_eq_true rfl) dX8_price_43 ?_
        have e9 := Option.some.inj h
        subst e9
        exact zk_iret rfl ⟨rfl, rfl⟩ dX8_price_46
      · replace h := zpos g24 h
        refine zk_aload_n dX8_price_27 rfl rfl ?_
        refine zf_X8_54 rfl dX8_price_28 ?_
        refine zk_iload_n dX8_price_31 rfl rfl ?_
        obtain ⟨p32, h32, h⟩ := zbind h
        refine zc_X8_295 [] (As := [.int _]) (ok_X4_cheapPrice hj _ _ h32) rfl ⟨Nat.le_of_ble_eq_true rfl, Nat.le_of_ble_eq_true rfl⟩ ⟨Nat.le_refl _, Nat.le_refl _⟩ rfl rfl (Nat.le_of_ble_eq_true rfl) dX8_price_32 ?_
        refine zk_goto (tgt := 46) dX8_price_35 rfl ?_
        have e9 := Option.some.inj h
        subst e9
        exact zk_iret rfl ⟨rfl, rfl⟩ dX8_price_46
    · replace h := zpos g17 h
      refine zk_bipush (v := -2) dX8_price_20 (by decide) ?_
      have e9 := Option.some.inj h
      subst e9
      exact zk_iret rfl ⟨rfl, rfl⟩ dX8_price_22
def D_X8_quota (s : zS) (a1 : Int32) : Option (Int32 × zS) :=
  (D_X8_within a1 (1 : Int32) (400 : Int32)).bind fun p5 =>
  if p5 = 0 then (
    some ((-2 : Int32), s)
  ) else (
    (D_X5_replaceQuota s a1).bind fun p16 =>
    some (p16.1, p16.2)
  )
set_option maxRecDepth 100000 in
theorem ok_X8_quota {l : Launch} {D : va_G} {ad : Nat → Nat} {cA : Nat → ClassId} (hj : zInj ad) (s : zS) (a1 : Int32) {r : (Int32 × zS)} (h : D_X8_quota s a1 = some r) : zMet l D ad cA jX8_quota [.ref 0, .int a1] s (some (.int r.1)) r.2 := by
  refine zMet_of jX8_quota [some (.ref 0), some (.int a1)] (by decide +kernel) (Nat.le_of_ble_eq_true rfl) rfl hj ?_
  unfold D_X8_quota at h
  refine zk_iload_n dX8_quota_0 rfl rfl ?_
  refine zk_iconst (v := 1) dX8_quota_1 (by decide) ?_
  refine zk_sipush (v := 400) dX8_quota_2 (by decide) ?_
  obtain ⟨p5, h5, h⟩ := zbind h
  refine zc_X8_58 [] (As := [.int _, .int _, .int _]) (ok_X8_within hj _ _ _ _ h5) rfl ⟨Nat.le_of_ble_eq_true rfl, Nat.le_of_ble_eq_true rfl⟩ ⟨Nat.le_refl _, Nat.le_refl _⟩ rfl rfl (Nat.le_of_ble_eq_true rfl) dX8_quota_5 ?_
  refine zk_if_eq (tgt := 22) dX8_quota_8 rfl (fun g8 => ?_) (fun g8 => ?_)
  · replace h := zpos g8 h
    refine zk_bipush (v := -2) dX8_quota_22 (by decide) ?_
    have e9 := Option.some.inj h
    subst e9
    exact zk_iret rfl ⟨rfl, rfl⟩ dX8_quota_24
  · replace h := zneg g8 h
    refine zk_aload_n dX8_quota_11 rfl rfl ?_
    refine zf_X8_33 rfl dX8_quota_12 ?_
    refine zk_iload_n dX8_quota_15 rfl rfl ?_
    obtain ⟨p16, h16, h⟩ := zbind h
    refine zc_X8_192 [] (As := [.int _]) (ok_X5_replaceQuota hj _ _ h16) rfl ⟨Nat.le_of_ble_eq_true rfl, Nat.le_of_ble_eq_true rfl⟩ ⟨Nat.le_refl _, Nat.le_refl _⟩ rfl rfl (Nat.le_of_ble_eq_true rfl) dX8_quota_16 ?_
    refine zk_goto (tgt := 24) dX8_quota_19 rfl ?_
    have e9 := Option.some.inj h
    subst e9
    exact zk_iret rfl ⟨rfl, rfl⟩ dX8_quota_24
def D_X8_same_J19 (s : zS) (a1 : Int32) : Option (Int32 × zS) :=
  (D_X8_within (s.1 38 0) (1 : Int32) (5 : Int32)).bind fun p28 =>
  if p28 = 0 then (
    some ((-3 : Int32), s)
  ) else (
    (D_X5_tellSame s a1).bind fun p42 =>
    some (p42.1, p42.2)
  )
set_option maxRecDepth 100000 in
theorem ok_X8_same_J19 {l : Launch} {D : va_G} {ad : Nat → Nat} {cA : Nat → ClassId} (hj : zInj ad) (r : (Int32 × zS)) (s : zS) (a1 : Int32) (h : D_X8_same_J19 s a1 = some r) : zOk l D ad cA (zJm jX8_same) (zEnd D ad cA (some (.int r.1)) r.2) 19 [some (.ref 0), some (.int a1)] [] s := by
  unfold D_X8_same_J19 at h
  refine zk_aload_n dX8_same_19 rfl rfl ?_
  refine zf_X8_33 rfl dX8_same_20 ?_
  refine zf_X8_182 rfl dX8_same_23 ?_
  refine zk_iconst (v := 1) dX8_same_26 (by decide) ?_
  refine zk_iconst (v := 5) dX8_same_27 (by decide) ?_
  obtain ⟨p28, h28, h⟩ := zbind h
  refine zc_X8_58 [] (As := [.int _, .int _, .int _]) (ok_X8_within hj _ _ _ _ h28) rfl ⟨Nat.le_of_ble_eq_true rfl, Nat.le_of_ble_eq_true rfl⟩ ⟨Nat.le_refl _, Nat.le_refl _⟩ rfl rfl (Nat.le_of_ble_eq_true rfl) dX8_same_28 ?_
  refine zk_if_ne (tgt := 37) dX8_same_31 rfl (fun g31 => ?_) (fun g31 => ?_)
  · replace h := zneg g31 h
    refine zk_aload_n dX8_same_37 rfl rfl ?_
    refine zf_X8_33 rfl dX8_same_38 ?_
    refine zk_iload_n dX8_same_41 rfl rfl ?_
    obtain ⟨p42, h42, h⟩ := zbind h
    refine zc_X8_224 [] (As := [.int _]) (ok_X5_tellSame hj _ _ h42) rfl ⟨Nat.le_of_ble_eq_true rfl, Nat.le_of_ble_eq_true rfl⟩ ⟨Nat.le_refl _, Nat.le_refl _⟩ rfl rfl (Nat.le_of_ble_eq_true rfl) dX8_same_42 ?_
    have e9 := Option.some.inj h
    subst e9
    exact zk_iret rfl ⟨rfl, rfl⟩ dX8_same_45
  · replace h := zpos g31 h
    refine zk_bipush (v := -3) dX8_same_34 (by decide) ?_
    have e9 := Option.some.inj h
    subst e9
    exact zk_iret rfl ⟨rfl, rfl⟩ dX8_same_36
def D_X8_same (s : zS) (a1 : Int32) : Option (Int32 × zS) :=
  if a1 = (-1 : Int32) then (
    D_X8_same_J19 s a1
  ) else (
    (D_X5_knowsVoter s a1).bind fun p10 =>
    if p10 = 0 then (
      some ((-2 : Int32), s)
    ) else (
      D_X8_same_J19 s a1
    )
  )
set_option maxRecDepth 100000 in
theorem ok_X8_same {l : Launch} {D : va_G} {ad : Nat → Nat} {cA : Nat → ClassId} (hj : zInj ad) (s : zS) (a1 : Int32) {r : (Int32 × zS)} (h : D_X8_same s a1 = some r) : zMet l D ad cA jX8_same [.ref 0, .int a1] s (some (.int r.1)) r.2 := by
  refine zMet_of jX8_same [some (.ref 0), some (.int a1)] (by decide +kernel) (Nat.le_of_ble_eq_true rfl) rfl hj ?_
  unfold D_X8_same at h
  refine zk_iload_n dX8_same_0 rfl rfl ?_
  refine zk_iconst (v := -1) dX8_same_1 (by decide) ?_
  refine zk_icmp_eq (tgt := 19) dX8_same_2 rfl (fun g2 => ?_) (fun g2 => ?_)
  · replace h := zpos g2 h
    exact ok_X8_same_J19 hj r _ _ h
  · replace h := zneg g2 h
    refine zk_aload_n dX8_same_5 rfl rfl ?_
    refine zf_X8_33 rfl dX8_same_6 ?_
    refine zk_iload_n dX8_same_9 rfl rfl ?_
    obtain ⟨p10, h10, h⟩ := zbind h
    refine zc_X8_186 [] (As := [.int _]) (ok_X5_knowsVoter hj _ _ h10) rfl ⟨Nat.le_of_ble_eq_true rfl, Nat.le_of_ble_eq_true rfl⟩ ⟨Nat.le_refl _, Nat.le_refl _⟩ rfl rfl (Nat.le_of_ble_eq_true rfl) dX8_same_10 ?_
    refine zk_if_ne (tgt := 19) dX8_same_13 rfl (fun g13 => ?_) (fun g13 => ?_)
    · replace h := zneg g13 h
      exact ok_X8_same_J19 hj r _ _ h
    · replace h := zpos g13 h
      refine zk_bipush (v := -2) dX8_same_16 (by decide) ?_
      have e9 := Option.some.inj h
      subst e9
      exact zk_iret rfl ⟨rfl, rfl⟩ dX8_same_18
def D_X8_sides (s : zS) (a1 : Int32) : Option (Int32 × zS) :=
  (D_X8_within a1 (1 : Int32) (4 : Int32)).bind fun p3 =>
  if p3 = 0 then (
    some ((-2 : Int32), s)
  ) else (
    (D_X7_restart s a1).bind fun p17 =>
    (D_X3_restart p17).bind fun p24 =>
    some ((1 : Int32), p24)
  )
set_option maxRecDepth 100000 in
theorem ok_X8_sides {l : Launch} {D : va_G} {ad : Nat → Nat} {cA : Nat → ClassId} (hj : zInj ad) (s : zS) (a1 : Int32) {r : (Int32 × zS)} (h : D_X8_sides s a1 = some r) : zMet l D ad cA jX8_sides [.ref 0, .int a1] s (some (.int r.1)) r.2 := by
  refine zMet_of jX8_sides [some (.ref 0), some (.int a1)] (by decide +kernel) (Nat.le_of_ble_eq_true rfl) rfl hj ?_
  unfold D_X8_sides at h
  refine zk_iload_n dX8_sides_0 rfl rfl ?_
  refine zk_iconst (v := 1) dX8_sides_1 (by decide) ?_
  refine zk_iconst (v := 4) dX8_sides_2 (by decide) ?_
  obtain ⟨p3, h3, h⟩ := zbind h
  refine zc_X8_58 [] (As := [.int _, .int _, .int _]) (ok_X8_within hj _ _ _ _ h3) rfl ⟨Nat.le_of_ble_eq_true rfl, Nat.le_of_ble_eq_true rfl⟩ ⟨Nat.le_refl _, Nat.le_refl _⟩ rfl rfl (Nat.le_of_ble_eq_true rfl) dX8_sides_3 ?_
  refine zk_if_ne (tgt := 12) dX8_sides_6 rfl (fun g6 => ?_) (fun g6 => ?_)
  · replace h := zneg g6 h
    refine zk_aload_n dX8_sides_12 rfl rfl ?_
    refine zf_X8_19 rfl dX8_sides_13 ?_
    refine zk_iload_n dX8_sides_16 rfl rfl ?_
    obtain ⟨p17, h17, h⟩ := zbind h
    refine zc_X8_62 [] (As := [.int _]) (ok_X7_restart hj _ _ h17) rfl ⟨Nat.le_of_ble_eq_true rfl, Nat.le_of_ble_eq_true rfl⟩ ⟨Nat.le_refl _, Nat.le_refl _⟩ rfl rfl (Nat.le_of_ble_eq_true rfl) dX8_sides_17 ?_
    refine zk_aload_n dX8_sides_20 rfl rfl ?_
    refine zf_X8_26 rfl dX8_sides_21 ?_
    obtain ⟨p24, h24, h⟩ := zbind h
    refine zc_X8_66 [] (As := []) (ok_X3_restart hj _ h24) rfl ⟨Nat.le_of_ble_eq_true rfl, Nat.le_of_ble_eq_true rfl⟩ ⟨Nat.le_refl _, Nat.le_refl _⟩ rfl rfl (Nat.le_of_ble_eq_true rfl) dX8_sides_24 ?_
    refine zk_iconst (v := 1) dX8_sides_27 (by decide) ?_
    have e9 := Option.some.inj h
    subst e9
    exact zk_iret rfl ⟨rfl, rfl⟩ dX8_sides_28
  · replace h := zpos g6 h
    refine zk_bipush (v := -2) dX8_sides_9 (by decide) ?_
    have e9 := Option.some.inj h
    subst e9
    exact zk_iret rfl ⟨rfl, rfl⟩ dX8_sides_11
def D_X8_surplus (s : zS) (a1 : Int32) (a2 : Int32) (a3 : Int32) : Option Int32 :=
  (D_X8_within a1 (0 : Int32) (1 : Int32)).bind fun p3 =>
  if p3 = 0 then (
    some (-1000000 : Int32)
  ) else (
    (D_X7_knowsSide s a2).bind fun p14 =>
    if p14 = 0 then (
      some (-1000000 : Int32)
    ) else (
      (D_X7_knowsSide s a3).bind fun p25 =>
      if p25 = 0 then (
        some (-1000000 : Int32)
      ) else (
        if a2 = a3 then (
          some (-1000000 : Int32)
        ) else (
          (D_X3_surplusOver s a1 a2 a3).bind fun p50 =>
          some p50
        )
      )
    )
  )
set_option maxRecDepth 100000 in
theorem ok_X8_surplus {l : Launch} {D : va_G} {ad : Nat → Nat} {cA : Nat → ClassId} (hj : zInj ad) (s : zS) (a1 : Int32) (a2 : Int32) (a3 : Int32) {r : Int32} (h : D_X8_surplus s a1 a2 a3 = some r) : zMet l D ad cA jX8_surplus [.ref 0, .int a1, .int a2, .int a3] s (some (.int r)) s := by
  refine zMet_of jX8_surplus [some (.ref 0), some (.int a1), some (.int a2), some (.int a3)] (by decide +kernel) (Nat.le_of_ble_eq_true rfl) rfl hj ?_
  unfold D_X8_surplus at h
  refine zk_iload_n dX8_surplus_0 rfl rfl ?_
  refine zk_iconst (v := 0) dX8_surplus_1 (by decide) ?_
  refine zk_iconst (v := 1) dX8_surplus_2 (by decide) ?_
  obtain ⟨p3, h3, h⟩ := zbind h
  refine zc_X8_58 [] (As := [.int _, .int _, .int _]) (ok_X8_within hj _ _ _ _ h3) rfl ⟨Nat.le_of_ble_eq_true rfl, Nat.le_of_ble_eq_true rfl⟩ ⟨Nat.le_refl _, Nat.le_refl _⟩ rfl rfl (Nat.le_of_ble_eq_true rfl) dX8_surplus_3 ?_
  refine zk_if_eq (tgt := 36) dX8_surplus_6 rfl (fun g6 => ?_) (fun g6 => ?_)
  · replace h := zpos g6 h
    refine zk_ldc dX8_surplus_36 zw_X8_165 ?_
    have e9 := Option.some.inj h
    subst e9
    exact zk_iret rfl ⟨rfl, rfl⟩ dX8_surplus_38
  · replace h := zneg g6 h
    refine zk_aload_n dX8_surplus_9 rfl rfl ?_
    refine zf_X8_19 rfl dX8_surplus_10 ?_
    refine zk_iload_n dX8_surplus_13 rfl rfl ?_
    obtain ⟨p14, h14, h⟩ := zbind h
    refine zc_X8_84 [] (As := [.int _]) (ok_X7_knowsSide hj _ _ h14) rfl ⟨Nat.le_of_ble_eq_true rfl, Nat.le_of_ble_eq_true rfl⟩ ⟨Nat.le_refl _, Nat.le_refl _⟩ rfl rfl (Nat.le_of_ble_eq_true rfl) dX8_surplus_14 ?_
    refine zk_if_eq (tgt := 36) dX8_surplus_17 rfl (fun g17 => ?_) (fun g17 => ?_)
    · replace h := zpos g17 h
      refine zk_ldc dX8_surplus_36 zw_X8_165 ?_
      have e9 := Option.some.inj h
      subst e9
      exact zk_iret rfl ⟨rfl, rfl⟩ dX8_surplus_38
    · replace h := zneg g17 h
      refine zk_aload_n dX8_surplus_20 rfl rfl ?_
      refine zf_X8_19 rfl dX8_surplus_21 ?_
      refine zk_iload_n dX8_surplus_24 rfl rfl ?_
      obtain ⟨p25, h25, h⟩ := zbind h
      refine zc_X8_84 [] (As := [.int _]) (ok_X7_knowsSide hj _ _ h25) rfl ⟨Nat.le_of_ble_eq_true rfl, Nat.le_of_ble_eq_true rfl⟩ ⟨Nat.le_refl _, Nat.le_refl _⟩ rfl rfl (Nat.le_of_ble_eq_true rfl) dX8_surplus_25 ?_
      refine zk_if_eq (tgt := 36) dX8_surplus_28 rfl (fun g28 => ?_) (fun g28 => ?_)
      · replace h := zpos g28 h
        refine zk_ldc dX8_surplus_36 zw_X8_165 ?_
        have e9 := Option.some.inj h
        subst e9
        exact zk_iret rfl ⟨rfl, rfl⟩ dX8_surplus_38
      · replace h := zneg g28 h
        refine zk_iload_n dX8_surplus_31 rfl rfl ?_
        refine zk_iload_n dX8_surplus_32 rfl rfl ?_
        refine zk_icmp_ne (tgt := 39) dX8_surplus_33 rfl (fun g33 => ?_) (fun g33 => ?_)
        · replace h := zneg g33 h
          refine zk_aload_n dX8_surplus_39 rfl rfl ?_
          refine zf_X8_26 rfl dX8_surplus_40 ?_
          refine zk_aload_n dX8_surplus_43 rfl rfl ?_
          refine zf_X8_19 rfl dX8_surplus_44 ?_
          refine zk_iload_n dX8_surplus_47 rfl rfl ?_
          refine zk_iload_n dX8_surplus_48 rfl rfl ?_
          refine zk_iload_n dX8_surplus_49 rfl rfl ?_
          obtain ⟨p50, h50, h⟩ := zbind h
          refine zc_X8_170 [] (As := [.ref _, .int _, .int _, .int _]) (ok_X3_surplusOver hj _ _ _ _ h50) rfl ⟨Nat.le_of_ble_eq_true rfl, Nat.le_of_ble_eq_true rfl⟩ ⟨Nat.le_refl _, Nat.le_refl _⟩ rfl rfl (Nat.le_of_ble_eq_true rfl) dX8_surplus_50 ?_
          have e9 := Option.some.inj h
          subst e9
          exact zk_iret rfl ⟨rfl, rfl⟩ dX8_surplus_53
        · replace h := zpos g33 h
          refine zk_ldc dX8_surplus_36 zw_X8_165 ?_
          have e9 := Option.some.inj h
          subst e9
          exact zk_iret rfl ⟨rfl, rfl⟩ dX8_surplus_38
def D_X8_tell (s : zS) (a1 : Int32) (a2 : Int32) : Option (Int32 × zS) :=
  (D_X4_knowsSeller s a1).bind fun p5 =>
  if p5 = 0 then (
    some ((-2 : Int32), s)
  ) else (
    (D_X8_within a2 (0 : Int32) (1000 : Int32)).bind fun p16 =>
    if p16 = 0 then (
      some ((-2 : Int32), s)
    ) else (
      (D_X4_replacePrice s a1 a2).bind fun p31 =>
      some (p31.1, p31.2)
    )
  )
set_option maxRecDepth 100000 in
theorem ok_X8_tell {l : Launch} {D : va_G} {ad : Nat → Nat} {cA : Nat → ClassId} (hj : zInj ad) (s : zS) (a1 : Int32) (a2 : Int32) {r : (Int32 × zS)} (h : D_X8_tell s a1 a2 = some r) : zMet l D ad cA jX8_tell [.ref 0, .int a1, .int a2] s (some (.int r.1)) r.2 := by
  refine zMet_of jX8_tell [some (.ref 0), some (.int a1), some (.int a2)] (by decide +kernel) (Nat.le_of_ble_eq_true rfl) rfl hj ?_
  unfold D_X8_tell at h
  refine zk_aload_n dX8_tell_0 rfl rfl ?_
  refine zf_X8_54 rfl dX8_tell_1 ?_
  refine zk_iload_n dX8_tell_4 rfl rfl ?_
  obtain ⟨p5, h5, h⟩ := zbind h
  refine zc_X8_283 [] (As := [.int _]) (ok_X4_knowsSeller hj _ _ h5) rfl ⟨Nat.le_of_ble_eq_true rfl, Nat.le_of_ble_eq_true rfl⟩ ⟨Nat.le_refl _, Nat.le_refl _⟩ rfl rfl (Nat.le_of_ble_eq_true rfl) dX8_tell_5 ?_
  refine zk_if_eq (tgt := 22) dX8_tell_8 rfl (fun g8 => ?_) (fun g8 => ?_)
  · replace h := zpos g8 h
    refine zk_bipush (v := -2) dX8_tell_22 (by decide) ?_
    have e9 := Option.some.inj h
    subst e9
    exact zk_iret rfl ⟨rfl, rfl⟩ dX8_tell_24
  · replace h := zneg g8 h
    refine zk_iload_n dX8_tell_11 rfl rfl ?_
    refine zk_iconst (v := 0) dX8_tell_12 (by decide) ?_
    refine zk_sipush (v := 1000) dX8_tell_13 (by decide) ?_
    obtain ⟨p16, h16, h⟩ := zbind h
    refine zc_X8_58 [] (As := [.int _, .int _, .int _]) (ok_X8_within hj _ _ _ _ h16) rfl ⟨Nat.le_of_ble_eq_true rfl, Nat.le_of_ble_eq_true rfl⟩ ⟨Nat.le_refl _, Nat.le_refl _⟩ rfl rfl (Nat.le_of_ble_eq_true rfl) dX8_tell_16 ?_
    refine zk_if_ne (tgt := 25) dX8_tell_19 rfl (fun g19 => ?_) (fun g19 => ?_)
    · replace h := zneg g19 h
      refine zk_aload_n dX8_tell_25 rfl rfl ?_
      refine zf_X8_54 rfl dX8_tell_26 ?_
      refine zk_iload_n dX8_tell_29 rfl rfl ?_
      refine zk_iload_n dX8_tell_30 rfl rfl ?_
      obtain ⟨p31, h31, h⟩ := zbind h
      refine zc_X8_301 [] (As := [.int _, .int _]) (ok_X4_replacePrice hj _ _ _ h31) rfl ⟨Nat.le_of_ble_eq_true rfl, Nat.le_of_ble_eq_true rfl⟩ ⟨Nat.le_refl _, Nat.le_refl _⟩ rfl rfl (Nat.le_of_ble_eq_true rfl) dX8_tell_31 ?_
      have e9 := Option.some.inj h
      subst e9
      exact zk_iret rfl ⟨rfl, rfl⟩ dX8_tell_34
    · replace h := zpos g19 h
      refine zk_bipush (v := -2) dX8_tell_22 (by decide) ?_
      have e9 := Option.some.inj h
      subst e9
      exact zk_iret rfl ⟨rfl, rfl⟩ dX8_tell_24
def D_X8_user (s : zS) (a1 : Int32) : Option (Int32 × zS) :=
  (D_X6_knowsPlace s a1).bind fun p5 =>
  if p5 = 0 then (
    some ((-2 : Int32), s)
  ) else (
    if (8 : Int32) ≤ (s.1 47 4) then (
      some ((-4 : Int32), s)
    ) else (
      (D_X6_addUser s a1).bind fun p31 =>
      some (p31.1, p31.2)
    )
  )
set_option maxRecDepth 100000 in
theorem ok_X8_user {l : Launch} {D : va_G} {ad : Nat → Nat} {cA : Nat → ClassId} (hj : zInj ad) (s : zS) (a1 : Int32) {r : (Int32 × zS)} (h : D_X8_user s a1 = some r) : zMet l D ad cA jX8_user [.ref 0, .int a1] s (some (.int r.1)) r.2 := by
  refine zMet_of jX8_user [some (.ref 0), some (.int a1)] (by decide +kernel) (Nat.le_of_ble_eq_true rfl) rfl hj ?_
  unfold D_X8_user at h
  refine zk_aload_n dX8_user_0 rfl rfl ?_
  refine zf_X8_47 rfl dX8_user_1 ?_
  refine zk_iload_n dX8_user_4 rfl rfl ?_
  obtain ⟨p5, h5, h⟩ := zbind h
  refine zc_X8_244 [] (As := [.int _]) (ok_X6_knowsPlace hj _ _ h5) rfl ⟨Nat.le_of_ble_eq_true rfl, Nat.le_of_ble_eq_true rfl⟩ ⟨Nat.le_refl _, Nat.le_refl _⟩ rfl rfl (Nat.le_of_ble_eq_true rfl) dX8_user_5 ?_
  refine zk_if_ne (tgt := 14) dX8_user_8 rfl (fun g8 => ?_) (fun g8 => ?_)
  · replace h := zneg g8 h
    refine zk_aload_n dX8_user_14 rfl rfl ?_
    refine zf_X8_47 rfl dX8_user_15 ?_
    refine zf_X8_253 rfl dX8_user_18 ?_
    refine zk_bipush (v := 8) dX8_user_21 (by decide) ?_
    refine zk_icmp_ge (tgt := 37) dX8_user_23 rfl (fun g23 => ?_) (fun g23 => ?_)
    · replace h := zpos g23 h
      refine zk_bipush (v := -4) dX8_user_37 (by decide) ?_
      have e9 := Option.some.inj h
      subst e9
      exact zk_iret rfl ⟨rfl, rfl⟩ dX8_user_39
    · replace h := zneg g23 h
      refine zk_aload_n dX8_user_26 rfl rfl ?_
      refine zf_X8_47 rfl dX8_user_27 ?_
      refine zk_iload_n dX8_user_30 rfl rfl ?_
      obtain ⟨p31, h31, h⟩ := zbind h
      refine zc_X8_256 [] (As := [.int _]) (ok_X6_addUser hj _ _ h31) rfl ⟨Nat.le_of_ble_eq_true rfl, Nat.le_of_ble_eq_true rfl⟩ ⟨Nat.le_refl _, Nat.le_refl _⟩ rfl rfl (Nat.le_of_ble_eq_true rfl) dX8_user_31 ?_
      refine zk_goto (tgt := 39) dX8_user_34 rfl ?_
      have e9 := Option.some.inj h
      subst e9
      exact zk_iret rfl ⟨rfl, rfl⟩ dX8_user_39
  · replace h := zpos g8 h
    refine zk_bipush (v := -2) dX8_user_11 (by decide) ?_
    have e9 := Option.some.inj h
    subst e9
    exact zk_iret rfl ⟨rfl, rfl⟩ dX8_user_13
def D_X8_value (s : zS) (a1 : Int32) (a2 : Int32) : Option (Int32 × zS) :=
  (D_X7_knowsSide s a1).bind fun p5 =>
  if p5 = 0 then (
    some ((-2 : Int32), s)
  ) else (
    (D_X8_within a2 (0 : Int32) (1 : Int32)).bind fun p14 =>
    if p14 = 0 then (
      some ((-2 : Int32), s)
    ) else (
      if a2 = 0 then (
        (D_X7_marginsInOrders s a1).bind fun p36 =>
        (D_X8_ordersOf (s.1 2 0)).bind fun p47 =>
        (D_X2_put s 1 p36.toInt64 p47.toInt64).bind fun p51 =>
        some ((1 : Int32), p51)
      ) else (
        (D_X7_marginsOverSets s a1).bind fun p66 =>
        (D_X2_put s 1 p66.toInt64 ((1 : Int64) <<< (((s.1 2 0) - (1 : Int32)).toInt64 &&& 63))).bind fun p81 =>
        some ((1 : Int32), p81)
      )
    )
  )
set_option maxRecDepth 100000 in
theorem ok_X8_value {l : Launch} {D : va_G} {ad : Nat → Nat} {cA : Nat → ClassId} (hj : zInj ad) (s : zS) (a1 : Int32) (a2 : Int32) {r : (Int32 × zS)} (h : D_X8_value s a1 a2 = some r) : zMet l D ad cA jX8_value [.ref 0, .int a1, .int a2] s (some (.int r.1)) r.2 := by
  refine zMet_of jX8_value [some (.ref 0), some (.int a1), some (.int a2)] (by decide +kernel) (Nat.le_of_ble_eq_true rfl) rfl hj ?_
  unfold D_X8_value at h
  refine zk_aload_n dX8_value_0 rfl rfl ?_
  refine zf_X8_19 rfl dX8_value_1 ?_
  refine zk_iload_n dX8_value_4 rfl rfl ?_
  obtain ⟨p5, h5, h⟩ := zbind h
  refine zc_X8_84 [] (As := [.int _]) (ok_X7_knowsSide hj _ _ h5) rfl ⟨Nat.le_of_ble_eq_true rfl, Nat.le_of_ble_eq_true rfl⟩ ⟨Nat.le_refl _, Nat.le_refl _⟩ rfl rfl (Nat.le_of_ble_eq_true rfl) dX8_value_5 ?_
  refine zk_if_eq (tgt := 20) dX8_value_8 rfl (fun g8 => ?_) (fun g8 => ?_)
  · replace h := zpos g8 h
    refine zk_bipush (v := -2) dX8_value_20 (by decide) ?_
    have e9 := Option.some.inj h
    subst e9
    exact zk_iret rfl ⟨rfl, rfl⟩ dX8_value_22
  · replace h := zneg g8 h
    refine zk_iload_n dX8_value_11 rfl rfl ?_
    refine zk_iconst (v := 0) dX8_value_12 (by decide) ?_
    refine zk_iconst (v := 1) dX8_value_13 (by decide) ?_
    obtain ⟨p14, h14, h⟩ := zbind h
    refine zc_X8_58 [] (As := [.int _, .int _, .int _]) (ok_X8_within hj _ _ _ _ h14) rfl ⟨Nat.le_of_ble_eq_true rfl, Nat.le_of_ble_eq_true rfl⟩ ⟨Nat.le_refl _, Nat.le_refl _⟩ rfl rfl (Nat.le_of_ble_eq_true rfl) dX8_value_14 ?_
    refine zk_if_ne (tgt := 23) dX8_value_17 rfl (fun g17 => ?_) (fun g17 => ?_)
    · replace h := zneg g17 h
      refine zk_iload_n dX8_value_23 rfl rfl ?_
      refine zk_if_ne (tgt := 57) dX8_value_24 rfl (fun g24 => ?_) (fun g24 => ?_)
      · replace h := zneg g24 h
        refine zk_aload_n dX8_value_57 rfl rfl ?_
        refine zf_X8_10 rfl dX8_value_58 ?_
        refine zk_aload_n dX8_value_61 rfl rfl ?_
        refine zf_X8_19 rfl dX8_value_62 ?_
        refine zk_iload_n dX8_value_65 rfl rfl ?_
        obtain ⟨p66, h66, h⟩ := zbind h
        refine zc_X8_107 [.ref _] (As := [.int _]) (ok_X7_marginsOverSets hj _ _ h66) rfl ⟨Nat.le_of_ble_eq_true rfl, Nat.le_of_ble_eq_true rfl⟩ ⟨Nat.le_refl _, Nat.le_refl _⟩ rfl rfl (Nat.le_of_ble_eq_true rfl) dX8_value_66 ?_
        refine zk_i2l dX8_value_69 ?_
        refine zk_lconst (v := 1) dX8_value_70 (by decide) ?_
        refine zk_aload_n dX8_value_71 rfl rfl ?_
        refine zf_X8_19 rfl dX8_value_72 ?_
        refine zf_X8_96 rfl dX8_value_75 ?_
        refine zk_iconst (v := 1) dX8_value_78 (by decide) ?_
        refine zk_isub dX8_value_79 ?_
        refine zk_lshl dX8_value_80 rfl ?_
        obtain ⟨p81, h81, h⟩ := zbind h
        refine zc_X8_103 [] (hs := rfl) (As := [.long _, .long _]) (ok_X2_put hj _ _ _ _ h81) rfl ⟨Nat.le_of_ble_eq_true rfl, Nat.le_of_ble_eq_true rfl⟩ ⟨Nat.le_refl _, Nat.le_refl _⟩ rfl rfl (Nat.le_of_ble_eq_true rfl) dX8_value_81 ?_
        refine zk_iconst (v := 1) dX8_value_84 (by decide) ?_
        have e9 := Option.some.inj h
        subst e9
        exact zk_iret rfl ⟨rfl, rfl⟩ dX8_value_85
      · replace h := zpos g24 h
        refine zk_aload_n dX8_value_27 rfl rfl ?_
        refine zf_X8_10 rfl dX8_value_28 ?_
        refine zk_aload_n dX8_value_31 rfl rfl ?_
        refine zf_X8_19 rfl dX8_value_32 ?_
        refine zk_iload_n dX8_value_35 rfl rfl ?_
        obtain ⟨p36, h36, h⟩ := zbind h
        refine zc_X8_93 [.ref _] (As := [.int _]) (ok_X7_marginsInOrders hj _ _ h36) rfl ⟨Nat.le_of_ble_eq_true rfl, Nat.le_of_ble_eq_true rfl⟩ ⟨Nat.le_refl _, Nat.le_refl _⟩ rfl rfl (Nat.le_of_ble_eq_true rfl) dX8_value_36 ?_
        refine zk_i2l dX8_value_39 ?_
        refine zk_aload_n dX8_value_40 rfl rfl ?_
        refine zf_X8_19 rfl dX8_value_41 ?_
        refine zf_X8_96 rfl dX8_value_44 ?_
        obtain ⟨p47, h47, h⟩ := zbind h
        refine zc_X8_100 [.long _, .ref _] (As := [.int _]) (ok_X8_ordersOf hj _ _ h47) rfl ⟨Nat.le_of_ble_eq_true rfl, Nat.le_of_ble_eq_true rfl⟩ ⟨Nat.le_refl _, Nat.le_refl _⟩ rfl rfl (Nat.le_of_ble_eq_true rfl) dX8_value_47 ?_
        refine zk_i2l dX8_value_50 ?_
        obtain ⟨p51, h51, h⟩ := zbind h
        refine zc_X8_103 [] (hs := rfl) (As := [.long _, .long _]) (ok_X2_put hj _ _ _ _ h51) rfl ⟨Nat.le_of_ble_eq_true rfl, Nat.le_of_ble_eq_true rfl⟩ ⟨Nat.le_refl _, Nat.le_refl _⟩ rfl rfl (Nat.le_of_ble_eq_true rfl) dX8_value_51 ?_
        refine zk_goto (tgt := 84) dX8_value_54 rfl ?_
        refine zk_iconst (v := 1) dX8_value_84 (by decide) ?_
        have e9 := Option.some.inj h
        subst e9
        exact zk_iret rfl ⟨rfl, rfl⟩ dX8_value_85
    · replace h := zpos g17 h
      refine zk_bipush (v := -2) dX8_value_20 (by decide) ?_
      have e9 := Option.some.inj h
      subst e9
      exact zk_iret rfl ⟨rfl, rfl⟩ dX8_value_22
def D_X8_voter (s : zS) (a1 : Int32) : Option (Int32 × zS) :=
  (D_X8_within a1 (0 : Int32) (50 : Int32)).bind fun p4 =>
  if p4 = 0 then (
    some ((-2 : Int32), s)
  ) else (
    if (8 : Int32) ≤ (s.1 38 0) then (
      some ((-4 : Int32), s)
    ) else (
      (D_X5_addVoter s a1).bind fun p30 =>
      some (p30.1, p30.2)
    )
  )
set_option maxRecDepth 100000 in
theorem ok_X8_voter {l : Launch} {D : va_G} {ad : Nat → Nat} {cA : Nat → ClassId} (hj : zInj ad) (s : zS) (a1 : Int32) {r : (Int32 × zS)} (h : D_X8_voter s a1 = some r) : zMet l D ad cA jX8_voter [.ref 0, .int a1] s (some (.int r.1)) r.2 := by
  refine zMet_of jX8_voter [some (.ref 0), some (.int a1)] (by decide +kernel) (Nat.le_of_ble_eq_true rfl) rfl hj ?_
  unfold D_X8_voter at h
  refine zk_iload_n dX8_voter_0 rfl rfl ?_
  refine zk_iconst (v := 0) dX8_voter_1 (by decide) ?_
  refine zk_bipush (v := 50) dX8_voter_2 (by decide) ?_
  obtain ⟨p4, h4, h⟩ := zbind h
  refine zc_X8_58 [] (As := [.int _, .int _, .int _]) (ok_X8_within hj _ _ _ _ h4) rfl ⟨Nat.le_of_ble_eq_true rfl, Nat.le_of_ble_eq_true rfl⟩ ⟨Nat.le_refl _, Nat.le_refl _⟩ rfl rfl (Nat.le_of_ble_eq_true rfl) dX8_voter_4 ?_
  refine zk_if_ne (tgt := 13) dX8_voter_7 rfl (fun g7 => ?_) (fun g7 => ?_)
  · replace h := zneg g7 h
    refine zk_aload_n dX8_voter_13 rfl rfl ?_
    refine zf_X8_33 rfl dX8_voter_14 ?_
    refine zf_X8_182 rfl dX8_voter_17 ?_
    refine zk_bipush (v := 8) dX8_voter_20 (by decide) ?_
    refine zk_icmp_ge (tgt := 36) dX8_voter_22 rfl (fun g22 => ?_) (fun g22 => ?_)
    · replace h := zpos g22 h
      refine zk_bipush (v := -4) dX8_voter_36 (by decide) ?_
      have e9 := Option.some.inj h
      subst e9
      exact zk_iret rfl ⟨rfl, rfl⟩ dX8_voter_38
    · replace h := zneg g22 h
      refine zk_aload_n dX8_voter_25 rfl rfl ?_
      refine zf_X8_33 rfl dX8_voter_26 ?_
      refine zk_iload_n dX8_voter_29 rfl rfl ?_
      obtain ⟨p30, h30, h⟩ := zbind h
      refine zc_X8_183 [] (As := [.int _]) (ok_X5_addVoter hj _ _ h30) rfl ⟨Nat.le_of_ble_eq_true rfl, Nat.le_of_ble_eq_true rfl⟩ ⟨Nat.le_refl _, Nat.le_refl _⟩ rfl rfl (Nat.le_of_ble_eq_true rfl) dX8_voter_30 ?_
      refine zk_goto (tgt := 38) dX8_voter_33 rfl ?_
      have e9 := Option.some.inj h
      subst e9
      exact zk_iret rfl ⟨rfl, rfl⟩ dX8_voter_38
  · replace h := zpos g7 h
    refine zk_bipush (v := -2) dX8_voter_10 (by decide) ?_
    have e9 := Option.some.inj h
    subst e9
    exact zk_iret rfl ⟨rfl, rfl⟩ dX8_voter_12
def D_X8_weight (s : zS) (a1 : Int32) (a2 : Int32) : Option (Int32 × zS) :=
  (D_X5_knowsVoter s a1).bind fun p5 =>
  if p5 = 0 then (
    some ((-2 : Int32), s)
  ) else (
    (D_X8_within a2 (0 : Int32) (50 : Int32)).bind fun p15 =>
    if p15 = 0 then (
      some ((-2 : Int32), s)
    ) else (
      (D_X5_replaceWeight s a1 a2).bind fun p30 =>
      some (p30.1, p30.2)
    )
  )
set_option maxRecDepth 100000 in
theorem ok_X8_weight {l : Launch} {D : va_G} {ad : Nat → Nat} {cA : Nat → ClassId} (hj : zInj ad) (s : zS) (a1 : Int32) (a2 : Int32) {r : (Int32 × zS)} (h : D_X8_weight s a1 a2 = some r) : zMet l D ad cA jX8_weight [.ref 0, .int a1, .int a2] s (some (.int r.1)) r.2 := by
  refine zMet_of jX8_weight [some (.ref 0), some (.int a1), some (.int a2)] (by decide +kernel) (Nat.le_of_ble_eq_true rfl) rfl hj ?_
  unfold D_X8_weight at h
  refine zk_aload_n dX8_weight_0 rfl rfl ?_
  refine zf_X8_33 rfl dX8_weight_1 ?_
  refine zk_iload_n dX8_weight_4 rfl rfl ?_
  obtain ⟨p5, h5, h⟩ := zbind h
  refine zc_X8_186 [] (As := [.int _]) (ok_X5_knowsVoter hj _ _ h5) rfl ⟨Nat.le_of_ble_eq_true rfl, Nat.le_of_ble_eq_true rfl⟩ ⟨Nat.le_refl _, Nat.le_refl _⟩ rfl rfl (Nat.le_of_ble_eq_true rfl) dX8_weight_5 ?_
  refine zk_if_eq (tgt := 21) dX8_weight_8 rfl (fun g8 => ?_) (fun g8 => ?_)
  · replace h := zpos g8 h
    refine zk_bipush (v := -2) dX8_weight_21 (by decide) ?_
    have e9 := Option.some.inj h
    subst e9
    exact zk_iret rfl ⟨rfl, rfl⟩ dX8_weight_23
  · replace h := zneg g8 h
    refine zk_iload_n dX8_weight_11 rfl rfl ?_
    refine zk_iconst (v := 0) dX8_weight_12 (by decide) ?_
    refine zk_bipush (v := 50) dX8_weight_13 (by decide) ?_
    obtain ⟨p15, h15, h⟩ := zbind h
    refine zc_X8_58 [] (As := [.int _, .int _, .int _]) (ok_X8_within hj _ _ _ _ h15) rfl ⟨Nat.le_of_ble_eq_true rfl, Nat.le_of_ble_eq_true rfl⟩ ⟨Nat.le_refl _, Nat.le_refl _⟩ rfl rfl (Nat.le_of_ble_eq_true rfl) dX8_weight_15 ?_
    refine zk_if_ne (tgt := 24) dX8_weight_18 rfl (fun g18 => ?_) (fun g18 => ?_)
    · replace h := zneg g18 h
      refine zk_aload_n dX8_weight_24 rfl rfl ?_
      refine zf_X8_33 rfl dX8_weight_25 ?_
      refine zk_iload_n dX8_weight_28 rfl rfl ?_
      refine zk_iload_n dX8_weight_29 rfl rfl ?_
      obtain ⟨p30, h30, h⟩ := zbind h
      refine zc_X8_189 [] (As := [.int _, .int _]) (ok_X5_replaceWeight hj _ _ _ h30) rfl ⟨Nat.le_of_ble_eq_true rfl, Nat.le_of_ble_eq_true rfl⟩ ⟨Nat.le_refl _, Nat.le_refl _⟩ rfl rfl (Nat.le_of_ble_eq_true rfl) dX8_weight_30 ?_
      have e9 := Option.some.inj h
      subst e9
      exact zk_iret rfl ⟨rfl, rfl⟩ dX8_weight_33
    · replace h := zpos g18 h
      refine zk_bipush (v := -2) dX8_weight_21 (by decide) ?_
      have e9 := Option.some.inj h
      subst e9
      exact zk_iret rfl ⟨rfl, rfl⟩ dX8_weight_23
