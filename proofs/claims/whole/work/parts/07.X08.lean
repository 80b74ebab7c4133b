def D_X8_wins (s : zS) (a1 : Int32) : Option Int32 :=
  (D_X5_allVoters s).bind fun p6 =>
  (D_X8_within a1 (0 : Int32) p6).bind fun p9 =>
  if p9 = 0 then (
    some (-2 : Int32)
  ) else (
    (D_X5_isWinning s a1).bind fun p23 =>
    if p23 = 0 then (
      some (0 : Int32)
    ) else (
      some (1 : Int32)
    )
  )
set_option maxRecDepth 100000 in
theorem ok_X8_wins {l : Launch} {D : va_G} {ad : Nat → Nat} {cA : Nat → ClassId} (hj : zInj ad) (s : zS) (a1 : Int32) {r : Int32} (h : D_X8_wins s a1 = some r) : zMet l D ad cA jX8_wins [.ref 0, .int a1] s (some (.int r)) s := by
  refine zMet_of jX8_wins [some (.ref 0), some (.int a1)] (by decide +kernel) (Nat.le_of_ble_eq_true rfl) rfl hj ?_
  unfold D_X8_wins at h
  refine zk_iload_n dX8_wins_0 rfl rfl ?_
  refine zk_iconst (v := 0) dX8_wins_1 (by decide) ?_
  refine zk_aload_n dX8_wins_2 rfl rfl ?_
  refine zf_X8_33 rfl dX8_wins_3 ?_
  obtain ⟨p6, h6, h⟩ := zbind h
  refine zc_X8_195 [.int _, .int _] (As := []) (ok_X5_allVoters hj _ h6) rfl ⟨Nat.le_of_ble_eq_true rfl, Nat.le_of_ble_eq_true rfl⟩ ⟨Nat.le_refl _, Nat.le_refl _⟩ rfl rfl (Nat.le_of_ble_eq_true rfl) dX8_wins_6 ?_
  obtain ⟨p9, h9, h⟩ := zbind h
  refine zc_X8_58 [] (As := [.int _, .int _, .int _]) (ok_X8_within hj _ _ _ _ h9) rfl ⟨Nat.le_of_ble_eq_true rfl, Nat.le_of_ble_eq_true rfl⟩ ⟨Nat.le_refl _, Nat.le_refl _⟩ rfl rfl (Nat.le_of_ble_eq_true rfl) dX8_wins_9 ?_
  refine zk_if_ne (tgt := 18) dX8_wins_12 rfl (fun g12 => ?_) (fun g12 => ?_)
  · replace h := zneg g12 h
    refine zk_aload_n dX8_wins_18 rfl rfl ?_
    refine zf_X8_33 rfl dX8_wins_19 ?_
    refine zk_iload_n dX8_wins_22 rfl rfl ?_
    obtain ⟨p23, h23, h⟩ := zbind h
    refine zc_X8_198 [] (As := [.int _]) (ok_X5_isWinning hj _ _ h23) rfl ⟨Nat.le_of_ble_eq_true rfl, Nat.le_of_ble_eq_true rfl⟩ ⟨Nat.le_refl _, Nat.le_refl _⟩ rfl rfl (Nat.le_of_ble_eq_true rfl) dX8_wins_23 ?_
    refine zk_if_eq (tgt := 33) dX8_wins_26 rfl (fun g26 => ?_) (fun g26 => ?_)
    · replace h := zpos g26 h
      refine zk_iconst (v := 0) dX8_wins_33 (by decide) ?_
      have e9 := Option.some.inj h
      subst e9
      exact zk_iret rfl ⟨rfl, rfl⟩ dX8_wins_34
    · replace h := zneg g26 h
      refine zk_iconst (v := 1) dX8_wins_29 (by decide) ?_
      refine zk_goto (tgt := 34) dX8_wins_30 rfl ?_
      have e9 := Option.some.inj h
      subst e9
      exact zk_iret rfl ⟨rfl, rfl⟩ dX8_wins_34
  · replace h := zpos g12 h
    refine zk_bipush (v := -2) dX8_wins_15 (by decide) ?_
    have e9 := Option.some.inj h
    subst e9
    exact zk_iret rfl ⟨rfl, rfl⟩ dX8_wins_17
def D_X8_worth (s : zS) (a1 : Int32) (a2 : Int32) : Option (Int32 × zS) :=
  (D_X7_knowsSet s a1).bind fun p5 =>
  if p5 = 0 then (
    some ((-100000 : Int32), s)
  ) else (
    (D_X8_within a2 (-1000 : Int32) (1000 : Int32)).bind fun p18 =>
    if p18 = 0 then (
      some ((-100000 : Int32), s)
    ) else (
      (D_X3_forgetCalm s).bind fun p31 =>
      (D_X7_replaceWorth p31 a1 a2).bind fun p40 =>
      some (p40.1, p40.2)
    )
  )
set_option maxRecDepth 100000 in
theorem ok_X8_worth {l : Launch} {D : va_G} {ad : Nat → Nat} {cA : Nat → ClassId} (hj : zInj ad) (s : zS) (a1 : Int32) (a2 : Int32) {r : (Int32 × zS)} (h : D_X8_worth s a1 a2 = some r) : zMet l D ad cA jX8_worth [.ref 0, .int a1, .int a2] s (some (.int r.1)) r.2 := by
  refine zMet_of jX8_worth [some (.ref 0), some (.int a1), some (.int a2)] (by decide +kernel) (Nat.le_of_ble_eq_true rfl) rfl hj ?_
  unfold D_X8_worth at h
  refine zk_aload_n dX8_worth_0 rfl rfl ?_
  refine zf_X8_19 rfl dX8_worth_1 ?_
  refine zk_iload_n dX8_worth_4 rfl rfl ?_
  obtain ⟨p5, h5, h⟩ := zbind h
  refine zc_X8_68 [] (As := [.int _]) (ok_X7_knowsSet hj _ _ h5) rfl ⟨Nat.le_of_ble_eq_true rfl, Nat.le_of_ble_eq_true rfl⟩ ⟨Nat.le_refl _, Nat.le_refl _⟩ rfl rfl (Nat.le_of_ble_eq_true rfl) dX8_worth_5 ?_
  refine zk_if_eq (tgt := 24) dX8_worth_8 rfl (fun g8 => ?_) (fun g8 => ?_)
  · replace h := zpos g8 h
    refine zk_ldc dX8_worth_24 zw_X8_72 ?_
    have e9 := Option.some.inj h
    subst e9
    exact zk_iret rfl ⟨rfl, rfl⟩ dX8_worth_26
  · replace h := zneg g8 h
    refine zk_iload_n dX8_worth_11 rfl rfl ?_
    refine zk_sipush (v := -1000) dX8_worth_12 (by decide) ?_
    refine zk_sipush (v := 1000) dX8_worth_15 (by decide) ?_
    obtain ⟨p18, h18, h⟩ := zbind h
    refine zc_X8_58 [] (As := [.int _, .int _, .int _]) (ok_X8_within hj _ _ _ _ h18) rfl ⟨Nat.le_of_ble_eq_true rfl, Nat.le_of_ble_eq_true rfl⟩ ⟨Nat.le_refl _, Nat.le_refl _⟩ rfl rfl (Nat.le_of_ble_eq_true rfl) dX8_worth_18 ?_
    refine zk_if_ne (tgt := 27) dX8_worth_21 rfl (fun g21 => ?_) (fun g21 => ?_)
    · replace h := zneg g21 h
      refine zk_aload_n dX8_worth_27 rfl rfl ?_
      refine zf_X8_26 rfl dX8_worth_28 ?_
      obtain ⟨p31, h31, h⟩ := zbind h
      refine zc_X8_73 [] (As := []) (ok_X3_forgetCalm hj _ h31) rfl ⟨Nat.le_of_ble_eq_true rfl, Nat.le_of_ble_eq_true rfl⟩ ⟨Nat.le_refl _, Nat.le_refl _⟩ rfl rfl (Nat.le_of_ble_eq_true rfl) dX8_worth_31 ?_
      refine zk_aload_n dX8_worth_34 rfl rfl ?_
      refine zf_X8_19 rfl dX8_worth_35 ?_
      refine zk_iload_n dX8_worth_38 rfl rfl ?_
      refine zk_iload_n dX8_worth_39 rfl rfl ?_
      obtain ⟨p40, h40, h⟩ := zbind h
      refine zc_X8_76 [] (As := [.int _, .int _]) (ok_X7_replaceWorth hj _ _ _ h40) rfl ⟨Nat.le_of_ble_eq_true rfl, Nat.le_of_ble_eq_true rfl⟩ ⟨Nat.le_refl _, Nat.le_refl _⟩ rfl rfl (Nat.le_of_ble_eq_true rfl) dX8_worth_40 ?_
      have e9 := Option.some.inj h
      subst e9
      exact zk_iret rfl ⟨rfl, rfl⟩ dX8_worth_43
    · replace h := zpos g21 h
      refine zk_ldc dX8_worth_24 zw_X8_72 ?_
      have e9 := Option.some.inj h
      subst e9
      exact zk_iret rfl ⟨rfl, rfl⟩ dX8_worth_26
