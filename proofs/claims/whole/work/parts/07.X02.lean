def D_X3_addHaving_J55 (rec25 : Int32 → zS → Option zS) (s : zS) (a1 : Int32) (a3 : Int32) (a5 : Int32) (a6 : Int32) (k1 : Int32) (k2 : Int32) (k3 : Int64) : Option zS :=
  (D_X0_putFactor s k1 k2 k3).bind fun p55 =>
  rec25 (a6 + 1) p55
set_option maxRecDepth 100000 in
theorem ok_X3_addHaving_J55 {l : Launch} {D : va_G} {ad : Nat → Nat} {cA : Nat → ClassId} (hj : zInj ad) (r : zS) (s : zS) (a1 : Int32) (a3 : Int32) (a5 : Int32) (a6 : Int32) (k1 : Int32) (k2 : Int32) (k3 : Int64) (rec25 : Int32 → zS → Option zS) (hr25 : ∀ (b6 : Int32) (s : zS), rec25 b6 s = some r → zOk l D ad cA (zJm jX3_addHaving) (zEnd D ad cA none r) 25 [some (.ref 4), some (.int a1), none, some (.int a3), none, some (.int a5), some (.int b6)] [] s) (h : D_X3_addHaving_J55 rec25 s a1 a3 a5 a6 k1 k2 k3 = some r) : zOk l D ad cA (zJm jX3_addHaving) (zEnd D ad cA none r) 55 [some (.ref 4), some (.int a1), none, some (.int a3), none, some (.int a5), some (.int a6)] [.long k3, .int k2, .int k1, .ref 8] s := by
  unfold D_X3_addHaving_J55 at h
  obtain ⟨p55, h55, h⟩ := zbind h
  refine zc_X3_122 [] (As := [.int _, .int _, .long _]) (ok_X0_putFactor hj _ _ _ _ h55) rfl ⟨Nat.le_of_ble_eq_true rfl, Nat.le_of_ble_eq_true rfl⟩ ⟨Nat.le_refl _, Nat.le_refl _⟩ rfl rfl (Nat.le_of_ble_eq_true rfl) dX3_addHaving_55 ?_
  refine zk_iinc dX3_addHaving_58 rfl (zinc (m := 1) (by decide)) (by decide) (zk_eq [_, _, _, _, _, _, _] rfl ?_)
  refine zk_goto (tgt := 25) dX3_addHaving_61 rfl ?_
  exact hr25 _ _ h
def D_X3_addHaving_B25 (a1 : Int32) (a3 : Int32) (a5 : Int32) (rec25 : Int32 → zS → Option zS) (a6 : Int32) (s : zS) : Option zS :=
    if a1 ≤ a6 then (
      some s
    ) else (
      (D_X8_has a3 a6).bind fun p42 =>
      if p42 = 0 then (
        D_X3_addHaving_J55 rec25 s a1 a3 a5 a6 a5 a6 (0 : Int64)
      ) else (
        D_X3_addHaving_J55 rec25 s a1 a3 a5 a6 a5 a6 (-1 : Int64)
      )
    )
def D_X3_addHaving_L25 (a1 : Int32) (a3 : Int32) (a5 : Int32) (n : Nat) (a6 : Int32) (s : zS) : Option zS := zfx (fun (rec : Int32 × zS → Option zS) q => D_X3_addHaving_B25 a1 a3 a5 (fun v0 v1 => rec (v0, v1)) q.1 q.2) n (a6, s)
set_option maxRecDepth 100000 in
theorem D_X3_addHaving_L25_s (a1 : Int32) (a3 : Int32) (a5 : Int32) (n : Nat) (a6 : Int32) (s : zS) : D_X3_addHaving_L25 a1 a3 a5 (n + 1) a6 s = D_X3_addHaving_B25 a1 a3 a5 (D_X3_addHaving_L25 a1 a3 a5 n) a6 s := rfl
set_option maxRecDepth 100000 in
theorem ok_X3_addHaving_L25 {l : Launch} {D : va_G} {ad : Nat → Nat} {cA : Nat → ClassId} (hj : zInj ad) (r : zS) (a1 : Int32) (a3 : Int32) (a5 : Int32) : ∀ (n : Nat) (a6 : Int32) (s : zS), D_X3_addHaving_L25 a1 a3 a5 n a6 s = some r → zOk l D ad cA (zJm jX3_addHaving) (zEnd D ad cA none r) 25 [some (.ref 4), some (.int a1), none, some (.int a3), none, some (.int a5), some (.int a6)] [] s := by
  intro n
  induction n with
  | zero =>
    intro a6 s h
    have h0 : (none : Option zS) = some r := h
    cases h0
  | succ n hr25 =>
    intro a6 s h
    have h : D_X3_addHaving_B25 a1 a3 a5 (D_X3_addHaving_L25 a1 a3 a5 n) a6 s = some r := h
    unfold D_X3_addHaving_B25 at h
    refine zk_iload dX3_addHaving_25 rfl ?_
    refine zk_iload_n dX3_addHaving_27 rfl rfl ?_
    refine zk_icmp_ge (tgt := 64) dX3_addHaving_28 rfl (fun g28 => ?_) (fun g28 => ?_)
    · replace h := zpos g28 h
      have e9 := Option.some.inj h
      subst e9
      exact zk_vret rfl ⟨rfl, rfl⟩ dX3_addHaving_64
    · replace h := zneg g28 h
      refine zk_aload_n dX3_addHaving_31 rfl rfl ?_
      refine zf_X3_19 rfl dX3_addHaving_32 ?_
      refine zk_iload dX3_addHaving_35 rfl ?_
      refine zk_iload dX3_addHaving_37 rfl ?_
      refine zk_iload_n dX3_addHaving_39 rfl rfl ?_
      refine zk_iload dX3_addHaving_40 rfl ?_
      obtain ⟨p42, h42, h⟩ := zbind h
      refine zc_X3_41 [.int _, .int _, .ref _] (As := [.int _, .int _]) (ok_X8_has hj _ _ _ h42) rfl ⟨Nat.le_of_ble_eq_true rfl, Nat.le_of_ble_eq_true rfl⟩ ⟨Nat.le_refl _, Nat.le_refl _⟩ rfl rfl (Nat.le_of_ble_eq_true rfl) dX3_addHaving_42 ?_
      refine zk_if_eq (tgt := 54) dX3_addHaving_45 rfl (fun g45 => ?_) (fun g45 => ?_)
      · replace h := zpos g45 h
        refine zk_lconst (v := 0) dX3_addHaving_54 (by decide) ?_
        exact ok_X3_addHaving_J55 hj r _ _ _ _ _ _ _ _ _ hr25 h
      · replace h := zneg g45 h
        refine zk_ldc2 dX3_addHaving_48 zw_X3_120 ?_
        refine zk_goto (tgt := 55) dX3_addHaving_51 rfl ?_
        exact ok_X3_addHaving_J55 hj r _ _ _ _ _ _ _ _ _ hr25 h
def D_X3_addHaving (s : zS) (a1 : Int32) (a2 : Int32) (a3 : Int32) (a4 : Int32) : Option zS :=
  (D_J6_bitCount_0f7a4 a3).bind fun p9 =>
  (D_X0_addRow s a2 ((((1000 : Int32) * p9) - a4).toInt64)).bind fun p17 =>
  D_X3_addHaving_L25 a1 a3 p17.1 zFU (0 : Int32) p17.2
set_option maxRecDepth 100000 in
theorem ok_X3_addHaving {l : Launch} {D : va_G} {ad : Nat → Nat} {cA : Nat → ClassId} (hj : zInj ad) (s : zS) (a1 : Int32) (a2 : Int32) (a3 : Int32) (a4 : Int32) {r : zS} (h : D_X3_addHaving s a1 a2 a3 a4 = some r) : zMet l D ad cA jX3_addHaving [.ref 4, .int a1, .int a2, .int a3, .int a4] s none r := by
  refine zMet_of jX3_addHaving [some (.ref 4), some (.int a1), some (.int a2), some (.int a3), some (.int a4), none, none] (by decide +kernel) (Nat.le_of_ble_eq_true rfl) rfl hj ?_
  unfold D_X3_addHaving at h
  refine zk_aload_n dX3_addHaving_0 rfl rfl ?_
  refine zf_X3_19 rfl dX3_addHaving_1 ?_
  refine zk_iload_n dX3_addHaving_4 rfl rfl ?_
  refine zk_sipush (v := 1000) dX3_addHaving_5 (by decide) ?_
  refine zk_iload_n dX3_addHaving_8 rfl rfl ?_
  obtain ⟨p9, h9, h⟩ := zbind h
  refine zc_X3_110 [.int _, .int _, .ref _] (As := [.int _]) (ok_J6_bitCount_0f7a4 hj _ _ h9) rfl ⟨Nat.le_of_ble_eq_true rfl, Nat.le_of_ble_eq_true rfl⟩ ⟨Nat.le_refl _, Nat.le_refl _⟩ rfl rfl (Nat.le_of_ble_eq_true rfl) dX3_addHaving_9 ?_
  refine zk_imul dX3_addHaving_12 ?_
  refine zk_iload dX3_addHaving_13 rfl ?_
  refine zk_isub dX3_addHaving_15 ?_
  refine zk_i2l dX3_addHaving_16 ?_
  obtain ⟨p17, h17, h⟩ := zbind h
  refine zc_X3_116 [] (As := [.int _, .long _]) (ok_X0_addRow hj _ _ _ h17) rfl ⟨Nat.le_of_ble_eq_true rfl, Nat.le_of_ble_eq_true rfl⟩ ⟨Nat.le_refl _, Nat.le_refl _⟩ rfl rfl (Nat.le_of_ble_eq_true rfl) dX3_addHaving_17 ?_
  refine zk_istore (i := 5) dX3_addHaving_20 (by decide) (zk_eq [_, _, _, _, _, _, _] rfl ?_)
  refine zk_iconst (v := 0) dX3_addHaving_22 (by decide) ?_
  refine zk_istore (i := 6) dX3_addHaving_23 (by decide) (zk_eq [_, _, _, _, _, _, _] rfl ?_)
  refine zk_mask [true, true, false, true, false, true, true] ?_
  exact ok_X3_addHaving_L25 hj r _ _ _ _ _ _ h
def D_X7_all (s : zS) : Option Int32 :=
  some (((1 : Int32) <<< ((s.1 2 0) &&& 31)) - (1 : Int32))
set_option maxRecDepth 100000 in
theorem ok_X7_all {l : Launch} {D : va_G} {ad : Nat → Nat} {cA : Nat → ClassId} (hj : zInj ad) (s : zS)  {r : Int32} (h : D_X7_all s = some r) : zMet l D ad cA jX7_all [.ref 2] s (some (.int r)) s := by
  refine zMet_of jX7_all [some (.ref 2)] (by decide +kernel) (Nat.le_of_ble_eq_true rfl) rfl hj ?_
  unfold D_X7_all at h
  refine zk_iconst (v := 1) dX7_all_0 (by decide) ?_
  refine zk_aload_n dX7_all_1 rfl rfl ?_
  refine zf_X7_9 rfl dX7_all_2 ?_
  refine zk_ishl dX7_all_5 ?_
  refine zk_iconst (v := 1) dX7_all_6 (by decide) ?_
  refine zk_isub dX7_all_7 ?_
  have e9 := Option.some.inj h
  subst e9
  exact zk_iret rfl ⟨rfl, rfl⟩ dX7_all_8
def D_X3_addWholeHaving_J88 (rec51 : Int32 → zS → Option zS) (s : zS) (a3 : Int32) (a5 : Int32) (a7 : Int32) (a8 : Int32) (a9 : Int32) (k0 : Int32) : Option zS :=
  (D_X0_putFactor s a7 a8 ((a9 - k0).toInt64)).bind fun p104 =>
  rec51 (a8 + 1) p104
set_option maxRecDepth 100000 in
theorem ok_X3_addWholeHaving_J88 {l : Launch} {D : va_G} {ad : Nat → Nat} {cA : Nat → ClassId} (hj : zInj ad) (r : zS) (s : zS) (a3 : Int32) (a5 : Int32) (a7 : Int32) (a8 : Int32) (a9 : Int32) (k0 : Int32) (rec51 : Int32 → zS → Option zS) (hr51 : ∀ (b8 : Int32) (s : zS), rec51 b8 s = some r → zOk l D ad cA (zJm jX3_addWholeHaving) (zEnd D ad cA none r) 51 [some (.ref 4), none, none, some (.int a3), none, some (.int a5), none, some (.int a7), some (.int b8), none, none] [] s) (h : D_X3_addWholeHaving_J88 rec51 s a3 a5 a7 a8 a9 k0 = some r) : zOk l D ad cA (zJm jX3_addWholeHaving) (zEnd D ad cA none r) 88 [some (.ref 4), none, none, some (.int a3), none, some (.int a5), none, some (.int a7), some (.int a8), some (.int a9), none] [.int k0] s := by
  unfold D_X3_addWholeHaving_J88 at h
  refine zk_istore (i := 10) dX3_addWholeHaving_88 (by decide) (zk_eq [_, _, _, _, _, _, _, _, _, _, _] rfl ?_)
  refine zk_aload_n dX3_addWholeHaving_90 rfl rfl ?_
  refine zf_X3_19 rfl dX3_addWholeHaving_91 ?_
  refine zk_iload dX3_addWholeHaving_94 rfl ?_
  refine zk_iload dX3_addWholeHaving_96 rfl ?_
  refine zk_iload dX3_addWholeHaving_98 rfl ?_
  refine zk_iload dX3_addWholeHaving_100 rfl ?_
  refine zk_isub dX3_addWholeHaving_102 ?_
  refine zk_i2l dX3_addWholeHaving_103 ?_
  obtain ⟨p104, h104, h⟩ := zbind h
  refine zc_X3_122 [] (As := [.int _, .int _, .long _]) (ok_X0_putFactor hj _ _ _ _ h104) rfl ⟨Nat.le_of_ble_eq_true rfl, Nat.le_of_ble_eq_true rfl⟩ ⟨Nat.le_refl _, Nat.le_refl _⟩ rfl rfl (Nat.le_of_ble_eq_true rfl) dX3_addWholeHaving_104 ?_
  refine zk_iinc dX3_addWholeHaving_107 rfl (zinc (m := 1) (by decide)) (by decide) (zk_eq [_, _, _, _, _, _, _, _, _, _, _] rfl ?_)
  refine zk_goto (tgt := 51) dX3_addWholeHaving_110 rfl ?_
  refine zk_mask [true, false, false, true, false, true, false, true, true, false, false] ?_
  exact hr51 _ _ h
def D_X3_addWholeHaving_J72 (rec51 : Int32 → zS → Option zS) (s : zS) (a3 : Int32) (a5 : Int32) (a7 : Int32) (a8 : Int32) (k0 : Int32) : Option zS :=
  (D_X8_has a3 a5).bind fun p77 =>
  if p77 = 0 then (
    D_X3_addWholeHaving_J88 rec51 s a3 a5 a7 a8 k0 (0 : Int32)
  ) else (
    D_X3_addWholeHaving_J88 rec51 s a3 a5 a7 a8 k0 (1 : Int32)
  )
set_option maxRecDepth 100000 in
theorem ok_X3_addWholeHaving_J72 {l : Launch} {D : va_G} {ad : Nat → Nat} {cA : Nat → ClassId} (hj : zInj ad) (r : zS) (s : zS) (a3 : Int32) (a5 : Int32) (a7 : Int32) (a8 : Int32) (k0 : Int32) (rec51 : Int32 → zS → Option zS) (hr51 : ∀ (b8 : Int32) (s : zS), rec51 b8 s = some r → zOk l D ad cA (zJm jX3_addWholeHaving) (zEnd D ad cA none r) 51 [some (.ref 4), none, none, some (.int a3), none, some (.int a5), none, some (.int a7), some (.int b8), none, none] [] s) (h : D_X3_addWholeHaving_J72 rec51 s a3 a5 a7 a8 k0 = some r) : zOk l D ad cA (zJm jX3_addWholeHaving) (zEnd D ad cA none r) 72 [some (.ref 4), none, none, some (.int a3), none, some (.int a5), none, some (.int a7), some (.int a8), none, none] [.int k0] s := by
  unfold D_X3_addWholeHaving_J72 at h
  refine zk_istore (i := 9) dX3_addWholeHaving_72 (by decide) (zk_eq [_, _, _, _, _, _, _, _, _, _, _] rfl ?_)
  refine zk_iload_n dX3_addWholeHaving_74 rfl rfl ?_
  refine zk_iload dX3_addWholeHaving_75 rfl ?_
  obtain ⟨p77, h77, h⟩ := zbind h
  refine zc_X3_41 [] (As := [.int _, .int _]) (ok_X8_has hj _ _ _ h77) rfl ⟨Nat.le_of_ble_eq_true rfl, Nat.le_of_ble_eq_true rfl⟩ ⟨Nat.le_refl _, Nat.le_refl _⟩ rfl rfl (Nat.le_of_ble_eq_true rfl) dX3_addWholeHaving_77 ?_
  refine zk_if_eq (tgt := 87) dX3_addWholeHaving_80 rfl (fun g80 => ?_) (fun g80 => ?_)
  · replace h := zpos g80 h
    refine zk_iconst (v := 0) dX3_addWholeHaving_87 (by decide) ?_
    exact ok_X3_addWholeHaving_J88 hj r _ _ _ _ _ _ _ _ hr51 h
  · replace h := zneg g80 h
    refine zk_iconst (v := 1) dX3_addWholeHaving_83 (by decide) ?_
    refine zk_goto (tgt := 88) dX3_addWholeHaving_84 rfl ?_
    exact ok_X3_addWholeHaving_J88 hj r _ _ _ _ _ _ _ _ hr51 h
def D_X3_addWholeHaving_B51 (a3 : Int32) (a5 : Int32) (a7 : Int32) (rec51 : Int32 → zS → Option zS) (a8 : Int32) (s : zS) : Option zS :=
    if a5 ≤ a8 then (
      some s
    ) else (
      (D_X8_has a3 a8).bind fun p61 =>
      if p61 = 0 then (
        D_X3_addWholeHaving_J72 rec51 s a3 a5 a7 a8 (0 : Int32)
      ) else (
        D_X3_addWholeHaving_J72 rec51 s a3 a5 a7 a8 (1 : Int32)
      )
    )
def D_X3_addWholeHaving_L51 (a3 : Int32) (a5 : Int32) (a7 : Int32) (n : Nat) (a8 : Int32) (s : zS) : Option zS := zfx (fun (rec : Int32 × zS → Option zS) q => D_X3_addWholeHaving_B51 a3 a5 a7 (fun v0 v1 => rec (v0, v1)) q.1 q.2) n (a8, s)
set_option maxRecDepth 100000 in
theorem D_X3_addWholeHaving_L51_s (a3 : Int32) (a5 : Int32) (a7 : Int32) (n : Nat) (a8 : Int32) (s : zS) : D_X3_addWholeHaving_L51 a3 a5 a7 (n + 1) a8 s = D_X3_addWholeHaving_B51 a3 a5 a7 (D_X3_addWholeHaving_L51 a3 a5 a7 n) a8 s := rfl
set_option maxRecDepth 100000 in
theorem ok_X3_addWholeHaving_L51 {l : Launch} {D : va_G} {ad : Nat → Nat} {cA : Nat → ClassId} (hj : zInj ad) (r : zS) (a3 : Int32) (a5 : Int32) (a7 : Int32) : ∀ (n : Nat) (a8 : Int32) (s : zS), D_X3_addWholeHaving_L51 a3 a5 a7 n a8 s = some r → zOk l D ad cA (zJm jX3_addWholeHaving) (zEnd D ad cA none r) 51 [some (.ref 4), none, none, some (.int a3), none, some (.int a5), none, some (.int a7), some (.int a8), none, none] [] s := by
  intro n
  induction n with
  | zero =>
    intro a8 s h
    have h0 : (none : Option zS) = some r := h
    cases h0
  | succ n hr51 =>
    intro a8 s h
    have h : D_X3_addWholeHaving_B51 a3 a5 a7 (D_X3_addWholeHaving_L51 a3 a5 a7 n) a8 s = some r := h
    unfold D_X3_addWholeHaving_B51 at h
    refine zk_iload dX3_addWholeHaving_51 rfl ?_
    refine zk_iload dX3_addWholeHaving_53 rfl ?_
    refine zk_icmp_ge (tgt := 113) dX3_addWholeHaving_55 rfl (fun g55 => ?_) (fun g55 => ?_)
    · replace h := zpos g55 h
      have e9 := Option.some.inj h
      subst e9
      exact zk_vret rfl ⟨rfl, rfl⟩ dX3_addWholeHaving_113
    · replace h := zneg g55 h
      refine zk_iload_n dX3_addWholeHaving_58 rfl rfl ?_
      refine zk_iload dX3_addWholeHaving_59 rfl ?_
      obtain ⟨p61, h61, h⟩ := zbind h
      refine zc_X3_41 [] (As := [.int _, .int _]) (ok_X8_has hj _ _ _ h61) rfl ⟨Nat.le_of_ble_eq_true rfl, Nat.le_of_ble_eq_true rfl⟩ ⟨Nat.le_refl _, Nat.le_refl _⟩ rfl rfl (Nat.le_of_ble_eq_true rfl) dX3_addWholeHaving_61 ?_
      refine zk_if_eq (tgt := 71) dX3_addWholeHaving_64 rfl (fun g64 => ?_) (fun g64 => ?_)
      · replace h := zpos g64 h
        refine zk_iconst (v := 0) dX3_addWholeHaving_71 (by decide) ?_
        exact ok_X3_addWholeHaving_J72 hj r _ _ _ _ _ _ _ hr51 h
      · replace h := zneg g64 h
        refine zk_iconst (v := 1) dX3_addWholeHaving_67 (by decide) ?_
        refine zk_goto (tgt := 72) dX3_addWholeHaving_68 rfl ?_
        exact ok_X3_addWholeHaving_J72 hj r _ _ _ _ _ _ _ hr51 h
def D_X3_addWholeHaving_J30 (s : zS) (a2 : Int32) (a3 : Int32) (a4 : Int32) (a5 : Int32) (k0 : Int32) : Option zS :=
  (D_X0_addRow s a2 ((k0 - a4).toInt64)).bind fun p43 =>
  D_X3_addWholeHaving_L51 a3 a5 p43.1 zFU (0 : Int32) p43.2
set_option maxRecDepth 100000 in
theorem ok_X3_addWholeHaving_J30 {l : Launch} {D : va_G} {ad : Nat → Nat} {cA : Nat → ClassId} (hj : zInj ad) (r : zS) (s : zS) (a2 : Int32) (a3 : Int32) (a4 : Int32) (a5 : Int32) (k0 : Int32) (h : D_X3_addWholeHaving_J30 s a2 a3 a4 a5 k0 = some r) : zOk l D ad cA (zJm jX3_addWholeHaving) (zEnd D ad cA none r) 30 [some (.ref 4), none, some (.int a2), some (.int a3), some (.int a4), some (.int a5), none, none, none, none, none] [.int k0] s := by
  unfold D_X3_addWholeHaving_J30 at h
  refine zk_istore (i := 6) dX3_addWholeHaving_30 (by decide) (zk_eq [_, _, _, _, _, _, _, _, _, _, _] rfl ?_)
  refine zk_aload_n dX3_addWholeHaving_32 rfl rfl ?_
  refine zf_X3_19 rfl dX3_addWholeHaving_33 ?_
  refine zk_iload_n dX3_addWholeHaving_36 rfl rfl ?_
  refine zk_iload dX3_addWholeHaving_37 rfl ?_
  refine zk_iload dX3_addWholeHaving_39 rfl ?_
  refine zk_isub dX3_addWholeHaving_41 ?_
  refine zk_i2l dX3_addWholeHaving_42 ?_
  obtain ⟨p43, h43, h⟩ := zbind h
  refine zc_X3_116 [] (As := [.int _, .long _]) (ok_X0_addRow hj _ _ _ h43) rfl ⟨Nat.le_of_ble_eq_true rfl, Nat.le_of_ble_eq_true rfl⟩ ⟨Nat.le_refl _, Nat.le_refl _⟩ rfl rfl (Nat.le_of_ble_eq_true rfl) dX3_addWholeHaving_43 ?_
  refine zk_istore (i := 7) dX3_addWholeHaving_46 (by decide) (zk_eq [_, _, _, _, _, _, _, _, _, _, _] rfl ?_)
  refine zk_iconst (v := 0) dX3_addWholeHaving_48 (by decide) ?_
  refine zk_istore (i := 8) dX3_addWholeHaving_49 (by decide) (zk_eq [_, _, _, _, _, _, _, _, _, _, _] rfl ?_)
  refine zk_mask [true, false, false, true, false, true, false, true, true, false, false] ?_
  exact ok_X3_addWholeHaving_L51 hj r _ _ _ _ _ _ h
def D_X3_addWholeHaving (s : zS) (a2 : Int32) (a3 : Int32) (a4 : Int32) : Option zS :=
  (D_X8_has a3 ((s.1 2 0) - (1 : Int32))).bind fun p11 =>
  if p11 = 0 then (
    D_X3_addWholeHaving_J30 s a2 a3 a4 ((s.1 2 0) - (1 : Int32)) (0 : Int32)
  ) else (
    (D_X7_all s).bind fun p22 =>
    zgd (zin p22 16 = true) <|
    D_X3_addWholeHaving_J30 s a2 a3 a4 ((s.1 2 0) - (1 : Int32)) (s.1 3 p22.toNatClampNeg)
  )
set_option maxRecDepth 100000 in
theorem ok_X3_addWholeHaving {l : Launch} {D : va_G} {ad : Nat → Nat} {cA : Nat → ClassId} (hj : zInj ad) (s : zS) (a2 : Int32) (a3 : Int32) (a4 : Int32) {r : zS} (h : D_X3_addWholeHaving s a2 a3 a4 = some r) : zMet l D ad cA jX3_addWholeHaving [.ref 4, .ref 2, .int a2, .int a3, .int a4] s none r := by
  refine zMet_of jX3_addWholeHaving [some (.ref 4), some (.ref 2), some (.int a2), some (.int a3), some (.int a4), none, none, none, none, none, none] (by decide +kernel) (Nat.le_of_ble_eq_true rfl) rfl hj ?_
  unfold D_X3_addWholeHaving at h
  refine zk_aload_n dX3_addWholeHaving_0 rfl rfl ?_
  refine zf_X3_69 rfl dX3_addWholeHaving_1 ?_
  refine zk_iconst (v := 1) dX3_addWholeHaving_4 (by decide) ?_
  refine zk_isub dX3_addWholeHaving_5 ?_
  refine zk_istore (i := 5) dX3_addWholeHaving_6 (by decide) (zk_eq [_, _, _, _, _, _, _, _, _, _, _] rfl ?_)
  refine zk_iload_n dX3_addWholeHaving_8 rfl rfl ?_
  refine zk_iload dX3_addWholeHaving_9 rfl ?_
  obtain ⟨p11, h11, h⟩ := zbind h
  refine zc_X3_41 [] (As := [.int _, .int _]) (ok_X8_has hj _ _ _ h11) rfl ⟨Nat.le_of_ble_eq_true rfl, Nat.le_of_ble_eq_true rfl⟩ ⟨Nat.le_refl _, Nat.le_refl _⟩ rfl rfl (Nat.le_of_ble_eq_true rfl) dX3_addWholeHaving_11 ?_
  refine zk_if_eq (tgt := 29) dX3_addWholeHaving_14 rfl (fun g14 => ?_) (fun g14 => ?_)
  · replace h := zpos g14 h
    refine zk_iconst (v := 0) dX3_addWholeHaving_29 (by decide) ?_
    refine zk_mask [true, false, true, true, true, true, false, false, false, false, false] ?_
    exact ok_X3_addWholeHaving_J30 hj r _ _ _ _ _ _ h
  · replace h := zneg g14 h
    refine zk_aload_n dX3_addWholeHaving_17 rfl rfl ?_
    refine zf_X3_45 rfl dX3_addWholeHaving_18 ?_
    refine zk_aload_n dX3_addWholeHaving_21 rfl rfl ?_
    obtain ⟨p22, h22, h⟩ := zbind h
    refine zc_X3_56 [.ref _] (As := []) (ok_X7_all hj _ h22) rfl ⟨Nat.le_of_ble_eq_true rfl, Nat.le_of_ble_eq_true rfl⟩ ⟨Nat.le_refl _, Nat.le_refl _⟩ rfl rfl (Nat.le_of_ble_eq_true rfl) dX3_addWholeHaving_22 ?_
    obtain ⟨g25, h⟩ := zguard h
    refine zk_iald (zoI_of rfl g25) dX3_addWholeHaving_25 ?_
    refine zk_goto (tgt := 30) dX3_addWholeHaving_26 rfl ?_
    refine zk_mask [true, false, true, true, true, true, false, false, false, false, false] ?_
    exact ok_X3_addWholeHaving_J30 hj r _ _ _ _ _ _ h
def D_X3_allHaveMore_B3 (s : zS) (a1 : Int32) (a2 : Int32) (a3 : Int32) (rec3 : Int32 → Option Int32) (a4 : Int32) : Option Int32 :=
    if a1 ≤ a4 then (
      some (1 : Int32)
    ) else (
      (D_X8_has a3 a4).bind fun p12 =>
      if p12 = 0 then (
        rec3 (a4 + 1)
      ) else (
        zgd (zin a2 2 = true) <|
        zgd (zoI (zT 5 a2) a4 = true) <|
        zgd (zin ((1 : Int32) - a2) 2 = true) <|
        zgd (zoI (zT 5 ((1 : Int32) - a2)) a4 = true) <|
        if (s.1 (zT 5 ((1 : Int32) - a2)) a4.toNatClampNeg) < (s.1 (zT 5 a2) a4.toNatClampNeg) then (
          rec3 (a4 + 1)
        ) else (
          some (0 : Int32)
        )
      )
    )
def D_X3_allHaveMore_L3 (s : zS) (a1 : Int32) (a2 : Int32) (a3 : Int32) (n : Nat) (a4 : Int32) : Option Int32 := zfx (fun (rec : Int32 → Option Int32) q => D_X3_allHaveMore_B3 s a1 a2 a3 (fun v0 => rec (v0)) q) n (a4)
set_option maxRecDepth 100000 in
theorem D_X3_allHaveMore_L3_s (s : zS) (a1 : Int32) (a2 : Int32) (a3 : Int32) (n : Nat) (a4 : Int32) : D_X3_allHaveMore_L3 s a1 a2 a3 (n + 1) a4 = D_X3_allHaveMore_B3 s a1 a2 a3 (D_X3_allHaveMore_L3 s a1 a2 a3 n) a4 := rfl
set_option maxRecDepth 100000 in
theorem ok_X3_allHaveMore_L3 {l : Launch} {D : va_G} {ad : Nat → Nat} {cA : Nat → ClassId} (hj : zInj ad) (r : Int32) (s : zS) (a1 : Int32) (a2 : Int32) (a3 : Int32) : ∀ (n : Nat) (a4 : Int32), D_X3_allHaveMore_L3 s a1 a2 a3 n a4 = some r → zOk l D ad cA (zJm jX3_allHaveMore) (zEnd D ad cA (some (.int r)) s) 3 [some (.ref 4), some (.int a1), some (.int a2), some (.int a3), some (.int a4)] [] s := by
  intro n
  induction n with
  | zero =>
    intro a4 h
    have h0 : (none : Option Int32) = some r := h
    cases h0
  | succ n hr3 =>
    intro a4 h
    have h : D_X3_allHaveMore_B3 s a1 a2 a3 (D_X3_allHaveMore_L3 s a1 a2 a3 n) a4 = some r := h
    unfold D_X3_allHaveMore_B3 at h
    refine zk_iload dX3_allHaveMore_3 rfl ?_
    refine zk_iload_n dX3_allHaveMore_5 rfl rfl ?_
    refine zk_icmp_ge (tgt := 49) dX3_allHaveMore_6 rfl (fun g6 => ?_) (fun g6 => ?_)
    · replace h := zpos g6 h
      refine zk_iconst (v := 1) dX3_allHaveMore_49 (by decide) ?_
      have e9 := Option.some.inj h
      subst e9
      exact zk_zret rfl (Or.inr rfl) ⟨rfl, rfl⟩ dX3_allHaveMore_50
    · replace h := zneg g6 h
      refine zk_iload_n dX3_allHaveMore_9 rfl rfl ?_
      refine zk_iload dX3_allHaveMore_10 rfl ?_
      obtain ⟨p12, h12, h⟩ := zbind h
      refine zc_X3_41 [] (As := [.int _, .int _]) (ok_X8_has hj _ _ _ h12) rfl ⟨Nat.le_of_ble_eq_true rfl, Nat.le_of_ble_eq_true rfl⟩ ⟨Nat.le_refl _, Nat.le_refl _⟩ rfl rfl (Nat.le_of_ble_eq_true rfl) dX3_allHaveMore_12 ?_
      refine zk_if_eq (tgt := 43) dX3_allHaveMore_15 rfl (fun g15 => ?_) (fun g15 => ?_)
      · replace h := zpos g15 h
        refine zk_iinc dX3_allHaveMore_43 rfl (zinc (m := 1) (by decide)) (by decide) (zk_eq [_, _, _, _, _] rfl ?_)
        refine zk_goto (tgt := 3) dX3_allHaveMore_46 rfl ?_
        exact hr3 _ h
      · replace h := zneg g15 h
        refine zk_aload_n dX3_allHaveMore_18 rfl rfl ?_
        refine zf_X3_11 rfl dX3_allHaveMore_19 ?_
        refine zk_iload_n dX3_allHaveMore_22 rfl rfl ?_
        obtain ⟨g23, h⟩ := zguard h
        refine zk_aald (zoR_of ⟨rfl, rfl, by decide, by decide⟩ g23) dX3_allHaveMore_23 ?_
        refine zk_iload dX3_allHaveMore_24 rfl ?_
        obtain ⟨g26, h⟩ := zguard h
        refine zk_iald g26 dX3_allHaveMore_26 ?_
        refine zk_aload_n dX3_allHaveMore_27 rfl rfl ?_
        refine zf_X3_11 rfl dX3_allHaveMore_28 ?_
        refine zk_iconst (v := 1) dX3_allHaveMore_31 (by decide) ?_
        refine zk_iload_n dX3_allHaveMore_32 rfl rfl ?_
        refine zk_isub dX3_allHaveMore_33 ?_
        obtain ⟨g34, h⟩ := zguard h
        refine zk_aald (zoR_of ⟨rfl, rfl, by decide, by decide⟩ g34) dX3_allHaveMore_34 ?_
        refine zk_iload dX3_allHaveMore_35 rfl ?_
        obtain ⟨g37, h⟩ := zguard h
        refine zk_iald g37 dX3_allHaveMore_37 ?_
        refine zk_icmp_gt (tgt := 43) dX3_allHaveMore_38 rfl (fun g38 => ?_) (fun g38 => ?_)
        · replace h := zpos g38 h
          refine zk_iinc dX3_allHaveMore_43 rfl (zinc (m := 1) (by decide)) (by decide) (zk_eq [_, _, _, _, _] rfl ?_)
          refine zk_goto (tgt := 3) dX3_allHaveMore_46 rfl ?_
          exact hr3 _ h
        · replace h := zneg g38 h
          refine zk_iconst (v := 0) dX3_allHaveMore_41 (by decide) ?_
          have e9 := Option.some.inj h
          subst e9
          exact zk_zret rfl (Or.inl rfl) ⟨rfl, rfl⟩ dX3_allHaveMore_42
def D_X3_allHaveMore (s : zS) (a1 : Int32) (a2 : Int32) (a3 : Int32) : Option Int32 :=
  D_X3_allHaveMore_L3 s a1 a2 a3 zFU (0 : Int32)
set_option maxRecDepth 100000 in
theorem ok_X3_allHaveMore {l : Launch} {D : va_G} {ad : Nat → Nat} {cA : Nat → ClassId} (hj : zInj ad) (s : zS) (a1 : Int32) (a2 : Int32) (a3 : Int32) {r : Int32} (h : D_X3_allHaveMore s a1 a2 a3 = some r) : zMet l D ad cA jX3_allHaveMore [.ref 4, .int a1, .int a2, .int a3] s (some (.int r)) s := by
  refine zMet_of jX3_allHaveMore [some (.ref 4), some (.int a1), some (.int a2), some (.int a3), none] (by decide +kernel) (Nat.le_of_ble_eq_true rfl) rfl hj ?_
  unfold D_X3_allHaveMore at h
  refine zk_iconst (v := 0) dX3_allHaveMore_0 (by decide) ?_
  refine zk_istore (i := 4) dX3_allHaveMore_1 (by decide) (zk_eq [_, _, _, _, _] rfl ?_)
  exact ok_X3_allHaveMore_L3 hj r _ _ _ _ _ _ h
def D_X3_shareOf_B5 (s : zS) (a1 : Int32) (a2 : Int32) (rec5 : Int32 → Int32 → Option Int32) (a3 : Int32) (a4 : Int32) : Option Int32 :=
    if (4 : Int32) ≤ a4 then (
      some a3
    ) else (
      (D_X8_has a2 a4).bind fun p14 =>
      if p14 = 0 then (
        rec5 a3 (a4 + 1)
      ) else (
        zgd (zin a1 2 = true) <|
        zgd (zoI (zT 5 a1) a4 = true) <|
        rec5 (a3 + (s.1 (zT 5 a1) a4.toNatClampNeg)) (a4 + 1)
      )
    )
def D_X3_shareOf_L5 (s : zS) (a1 : Int32) (a2 : Int32) (n : Nat) (a3 : Int32) (a4 : Int32) : Option Int32 := zfx (fun (rec : Int32 × Int32 → Option Int32) q => D_X3_shareOf_B5 s a1 a2 (fun v0 v1 => rec (v0, v1)) q.1 q.2) n (a3, a4)
set_option maxRecDepth 100000 in
theorem D_X3_shareOf_L5_s (s : zS) (a1 : Int32) (a2 : Int32) (n : Nat) (a3 : Int32) (a4 : Int32) : D_X3_shareOf_L5 s a1 a2 (n + 1) a3 a4 = D_X3_shareOf_B5 s a1 a2 (D_X3_shareOf_L5 s a1 a2 n) a3 a4 := rfl
set_option maxRecDepth 100000 in
theorem ok_X3_shareOf_L5 {l : Launch} {D : va_G} {ad : Nat → Nat} {cA : Nat → ClassId} (hj : zInj ad) (r : Int32) (s : zS) (a1 : Int32) (a2 : Int32) : ∀ (n : Nat) (a3 : Int32) (a4 : Int32), D_X3_shareOf_L5 s a1 a2 n a3 a4 = some r → zOk l D ad cA (zJm jX3_shareOf) (zEnd D ad cA (some (.int r)) s) 5 [some (.ref 4), some (.int a1), some (.int a2), some (.int a3), some (.int a4)] [] s := by
  intro n
  induction n with
  | zero =>
    intro a3 a4 h
    have h0 : (none : Option Int32) = some r := h
    cases h0
  | succ n hr5 =>
    intro a3 a4 h
    have h : D_X3_shareOf_B5 s a1 a2 (D_X3_shareOf_L5 s a1 a2 n) a3 a4 = some r := h
    unfold D_X3_shareOf_B5 at h
    refine zk_iload dX3_shareOf_5 rfl ?_
    refine zk_iconst (v := 4) dX3_shareOf_7 (by decide) ?_
    refine zk_icmp_ge (tgt := 38) dX3_shareOf_8 rfl (fun g8 => ?_) (fun g8 => ?_)
    · replace h := zpos g8 h
      refine zk_iload_n dX3_shareOf_38 rfl rfl ?_
      have e9 := Option.some.inj h
      subst e9
      exact zk_iret rfl ⟨rfl, rfl⟩ dX3_shareOf_39
    · replace h := zneg g8 h
      refine zk_iload_n dX3_shareOf_11 rfl rfl ?_
      refine zk_iload dX3_shareOf_12 rfl ?_
      obtain ⟨p14, h14, h⟩ := zbind h
      refine zc_X3_41 [] (As := [.int _, .int _]) (ok_X8_has hj _ _ _ h14) rfl ⟨Nat.le_of_ble_eq_true rfl, Nat.le_of_ble_eq_true rfl⟩ ⟨Nat.le_refl _, Nat.le_refl _⟩ rfl rfl (Nat.le_of_ble_eq_true rfl) dX3_shareOf_14 ?_
      refine zk_if_eq (tgt := 32) dX3_shareOf_17 rfl (fun g17 => ?_) (fun g17 => ?_)
      · replace h := zpos g17 h
        refine zk_iinc dX3_shareOf_32 rfl (zinc (m := 1) (by decide)) (by decide) (zk_eq [_, _, _, _, _] rfl ?_)
        refine zk_goto (tgt := 5) dX3_shareOf_35 rfl ?_
        exact hr5 _ _ h
      · replace h := zneg g17 h
        refine zk_iload_n dX3_shareOf_20 rfl rfl ?_
        refine zk_aload_n dX3_shareOf_21 rfl rfl ?_
        refine zf_X3_11 rfl dX3_shareOf_22 ?_
        refine zk_iload_n dX3_shareOf_25 rfl rfl ?_
        obtain ⟨g26, h⟩ := zguard h
        refine zk_aald (zoR_of ⟨rfl, rfl, by decide, by decide⟩ g26) dX3_shareOf_26 ?_
        refine zk_iload dX3_shareOf_27 rfl ?_
        obtain ⟨g29, h⟩ := zguard h
        refine zk_iald g29 dX3_shareOf_29 ?_
        refine zk_iadd dX3_shareOf_30 ?_
        refine zk_istore_n (i := 3) dX3_shareOf_31 rfl (by decide) (zk_eq [_, _, _, _, _] rfl ?_)
        refine zk_iinc dX3_shareOf_32 rfl (zinc (m := 1) (by decide)) (by decide) (zk_eq [_, _, _, _, _] rfl ?_)
        refine zk_goto (tgt := 5) dX3_shareOf_35 rfl ?_
        exact hr5 _ _ h
def D_X3_shareOf (s : zS) (a1 : Int32) (a2 : Int32) : Option Int32 :=
  D_X3_shareOf_L5 s a1 a2 zFU (0 : Int32) (0 : Int32)
set_option maxRecDepth 100000 in
theorem ok_X3_shareOf {l : Launch} {D : va_G} {ad : Nat → Nat} {cA : Nat → ClassId} (hj : zInj ad) (s : zS) (a1 : Int32) (a2 : Int32) {r : Int32} (h : D_X3_shareOf s a1 a2 = some r) : zMet l D ad cA jX3_shareOf [.ref 4, .int a1, .int a2] s (some (.int r)) s := by
  refine zMet_of jX3_shareOf [some (.ref 4), some (.int a1), some (.int a2), none, none] (by decide +kernel) (Nat.le_of_ble_eq_true rfl) rfl hj ?_
  unfold D_X3_shareOf at h
  refine zk_iconst (v := 0) dX3_shareOf_0 (by decide) ?_
  refine zk_istore_n (i := 3) dX3_shareOf_1 rfl (by decide) (zk_eq [_, _, _, _, _] rfl ?_)
  refine zk_iconst (v := 0) dX3_shareOf_2 (by decide) ?_
  refine zk_istore (i := 4) dX3_shareOf_3 (by decide) (zk_eq [_, _, _, _, _] rfl ?_)
  exact ok_X3_shareOf_L5 hj r _ _ _ _ _ _ h
def D_X3_complaintOf (s : zS) (a2 : Int32) (a3 : Int32) : Option Int32 :=
  zgd (zin a3 16 = true) <|
  (D_X3_shareOf s a2 a3).bind fun p9 =>
  some ((s.1 3 a3.toNatClampNeg) - p9)
set_option maxRecDepth 100000 in
theorem ok_X3_complaintOf {l : Launch} {D : va_G} {ad : Nat → Nat} {cA : Nat → ClassId} (hj : zInj ad) (s : zS) (a2 : Int32) (a3 : Int32) {r : Int32} (h : D_X3_complaintOf s a2 a3 = some r) : zMet l D ad cA jX3_complaintOf [.ref 4, .ref 2, .int a2, .int a3] s (some (.int r)) s := by
  refine zMet_of jX3_complaintOf [some (.ref 4), some (.ref 2), some (.int a2), some (.int a3)] (by decide +kernel) (Nat.le_of_ble_eq_true rfl) rfl hj ?_
  unfold D_X3_complaintOf at h
  refine zk_aload_n dX3_complaintOf_0 rfl rfl ?_
  refine zf_X3_45 rfl dX3_complaintOf_1 ?_
  refine zk_iload_n dX3_complaintOf_4 rfl rfl ?_
  obtain ⟨g5, h⟩ := zguard h
  refine zk_iald (zoI_of rfl g5) dX3_complaintOf_5 ?_
  refine zk_aload_n dX3_complaintOf_6 rfl rfl ?_
  refine zk_iload_n dX3_complaintOf_7 rfl rfl ?_
  refine zk_iload_n dX3_complaintOf_8 rfl rfl ?_
  obtain ⟨p9, h9, h⟩ := zbind h
  refine zc_X3_51 [.int _] (As := [.int _, .int _]) (ok_X3_shareOf hj _ _ _ h9) rfl ⟨Nat.le_of_ble_eq_true rfl, Nat.le_of_ble_eq_true rfl⟩ ⟨Nat.le_refl _, Nat.le_refl _⟩ rfl rfl (Nat.le_of_ble_eq_true rfl) dX3_complaintOf_9 ?_
  refine zk_isub dX3_complaintOf_12 ?_
  have e9 := Option.some.inj h
  subst e9
  exact zk_iret rfl ⟨rfl, rfl⟩ dX3_complaintOf_13
def D_X3_driveSide (s : zS) (a1 : Int32) (a2 : Int32) (a3 : Int32) : Option zS :=
  (D_X0_freeze s a1).bind fun p5 =>
  (D_X0_drive p5 a2 a3).bind fun p14 =>
  some p14
set_option maxRecDepth 100000 in
theorem ok_X3_driveSide {l : Launch} {D : va_G} {ad : Nat → Nat} {cA : Nat → ClassId} (hj : zInj ad) (s : zS) (a1 : Int32) (a2 : Int32) (a3 : Int32) {r : zS} (h : D_X3_driveSide s a1 a2 a3 = some r) : zMet l D ad cA jX3_driveSide [.ref 4, .int a1, .int a2, .int a3] s none r := by
  refine zMet_of jX3_driveSide [some (.ref 4), some (.int a1), some (.int a2), some (.int a3)] (by decide +kernel) (Nat.le_of_ble_eq_true rfl) rfl hj ?_
  unfold D_X3_driveSide at h
  refine zk_aload_n dX3_driveSide_0 rfl rfl ?_
  refine zf_X3_19 rfl dX3_driveSide_1 ?_
  refine zk_iload_n dX3_driveSide_4 rfl rfl ?_
  obtain ⟨p5, h5, h⟩ := zbind h
  refine zc_X3_103 [] (As := [.int _]) (ok_X0_freeze hj _ _ h5) rfl ⟨Nat.le_of_ble_eq_true rfl, Nat.le_of_ble_eq_true rfl⟩ ⟨Nat.le_refl _, Nat.le_refl _⟩ rfl rfl (Nat.le_of_ble_eq_true rfl) dX3_driveSide_5 ?_
  refine zk_aload_n dX3_driveSide_8 rfl rfl ?_
  refine zf_X3_19 rfl dX3_driveSide_9 ?_
  refine zk_iload_n dX3_driveSide_12 rfl rfl ?_
  refine zk_iload_n dX3_driveSide_13 rfl rfl ?_
  obtain ⟨p14, h14, h⟩ := zbind h
  refine zc_X3_92 [] (As := [.int _, .int _]) (ok_X0_drive hj _ _ _ h14) rfl ⟨Nat.le_of_ble_eq_true rfl, Nat.le_of_ble_eq_true rfl⟩ ⟨Nat.le_refl _, Nat.le_refl _⟩ rfl rfl (Nat.le_of_ble_eq_true rfl) dX3_driveSide_14 ?_
  have e9 := Option.some.inj h
  subst e9
  exact zk_vret rfl ⟨rfl, rfl⟩ dX3_driveSide_17
def D_X3_greatestComplaintByLast_J39 (rec5 : Int32 → Int32 → Option Int32) (s : zS) (a2 : Int32) (a3 : Int32) (k0 : Int32) : Option Int32 :=
  zgd (zin a3 16 = true) <|
  rec5 (zmax a2 ((s.1 3 a3.toNatClampNeg) - k0)) (a3 + 1)
set_option maxRecDepth 100000 in
theorem ok_X3_greatestComplaintByLast_J39 {l : Launch} {D : va_G} {ad : Nat → Nat} {cA : Nat → ClassId} (hj : zInj ad) (r : Int32) (s : zS) (a2 : Int32) (a3 : Int32) (k0 : Int32) (rec5 : Int32 → Int32 → Option Int32) (hr5 : ∀ (b2 : Int32) (b3 : Int32), rec5 b2 b3 = some r → zOk l D ad cA (zJm jX3_greatestComplaintByLast) (zEnd D ad cA (some (.int r)) s) 5 [none, some (.ref 2), some (.int b2), some (.int b3), none] [] s) (h : D_X3_greatestComplaintByLast_J39 rec5 s a2 a3 k0 = some r) : zOk l D ad cA (zJm jX3_greatestComplaintByLast) (zEnd D ad cA (some (.int r)) s) 39 [none, some (.ref 2), some (.int a2), some (.int a3), none] [.int k0] s := by
  unfold D_X3_greatestComplaintByLast_J39 at h
  refine zk_istore (i := 4) dX3_greatestComplaintByLast_39 (by decide) (zk_eq [_, _, _, _, _] rfl ?_)
  refine zk_iload_n dX3_greatestComplaintByLast_41 rfl rfl ?_
  refine zk_aload_n dX3_greatestComplaintByLast_42 rfl rfl ?_
  refine zf_X3_45 rfl dX3_greatestComplaintByLast_43 ?_
  refine zk_iload_n dX3_greatestComplaintByLast_46 rfl rfl ?_
  obtain ⟨g47, h⟩ := zguard h
  refine zk_iald (zoI_of rfl g47) dX3_greatestComplaintByLast_47 ?_
  refine zk_iload dX3_greatestComplaintByLast_48 rfl ?_
  refine zk_isub dX3_greatestComplaintByLast_50 ?_
  refine zk_mmax zmw_X3_64 (Nat.le_of_ble_eq_true rfl) (Nat.le_of_ble_eq_true rfl) ⟨Nat.le_refl _, Nat.le_refl _⟩ dX3_greatestComplaintByLast_51 ?_
  refine zk_istore_n (i := 2) dX3_greatestComplaintByLast_54 rfl (by decide) (zk_eq [_, _, _, _, _] rfl ?_)
  refine zk_iinc dX3_greatestComplaintByLast_55 rfl (zinc (m := 1) (by decide)) (by decide) (zk_eq [_, _, _, _, _] rfl ?_)
  refine zk_goto (tgt := 5) dX3_greatestComplaintByLast_58 rfl ?_
  refine zk_mask [false, true, true, true, false] ?_
  exact hr5 _ _ h
def D_X3_greatestComplaintByLast_B5 (s : zS) (rec5 : Int32 → Int32 → Option Int32) (a2 : Int32) (a3 : Int32) : Option Int32 :=
    (D_X7_all s).bind fun p7 =>
    if p7 ≤ a3 then (
      some a2
    ) else (
      (D_X8_has a3 ((s.1 2 0) - (1 : Int32))).bind fun p20 =>
      if p20 = 0 then (
        D_X3_greatestComplaintByLast_J39 rec5 s a2 a3 (0 : Int32)
      ) else (
        (D_X7_all s).bind fun p31 =>
        zgd (zin p31 16 = true) <|
        D_X3_greatestComplaintByLast_J39 rec5 s a2 a3 (s.1 3 p31.toNatClampNeg)
      )
    )
def D_X3_greatestComplaintByLast_L5 (s : zS) (n : Nat) (a2 : Int32) (a3 : Int32) : Option Int32 := zfx (fun (rec : Int32 × Int32 → Option Int32) q => D_X3_greatestComplaintByLast_B5 s (fun v0 v1 => rec (v0, v1)) q.1 q.2) n (a2, a3)
set_option maxRecDepth 100000 in
theorem D_X3_greatestComplaintByLast_L5_s (s : zS) (n : Nat) (a2 : Int32) (a3 : Int32) : D_X3_greatestComplaintByLast_L5 s (n + 1) a2 a3 = D_X3_greatestComplaintByLast_B5 s (D_X3_greatestComplaintByLast_L5 s n) a2 a3 := rfl
set_option maxRecDepth 100000 in
theorem ok_X3_greatestComplaintByLast_L5 {l : Launch} {D : va_G} {ad : Nat → Nat} {cA : Nat → ClassId} (hj : zInj ad) (r : Int32) (s : zS) : ∀ (n : Nat) (a2 : Int32) (a3 : Int32), D_X3_greatestComplaintByLast_L5 s n a2 a3 = some r → zOk l D ad cA (zJm jX3_greatestComplaintByLast) (zEnd D ad cA (some (.int r)) s) 5 [none, some (.ref 2), some (.int a2), some (.int a3), none] [] s := by
  intro n
  induction n with
  | zero =>
    intro a2 a3 h
    have h0 : (none : Option Int32) = some r := h
    cases h0
  | succ n hr5 =>
    intro a2 a3 h
    have h : D_X3_greatestComplaintByLast_B5 s (D_X3_greatestComplaintByLast_L5 s n) a2 a3 = some r := h
    unfold D_X3_greatestComplaintByLast_B5 at h
    refine zk_iload_n dX3_greatestComplaintByLast_5 rfl rfl ?_
    refine zk_aload_n dX3_greatestComplaintByLast_6 rfl rfl ?_
    obtain ⟨p7, h7, h⟩ := zbind h
    refine zc_X3_56 [.int _] (As := []) (ok_X7_all hj _ h7) rfl ⟨Nat.le_of_ble_eq_true rfl, Nat.le_of_ble_eq_true rfl⟩ ⟨Nat.le_refl _, Nat.le_refl _⟩ rfl rfl (Nat.le_of_ble_eq_true rfl) dX3_greatestComplaintByLast_7 ?_
    refine zk_icmp_ge (tgt := 61) dX3_greatestComplaintByLast_10 rfl (fun g10 => ?_) (fun g10 => ?_)
    · replace h := zpos g10 h
      refine zk_iload_n dX3_greatestComplaintByLast_61 rfl rfl ?_
      have e9 := Option.some.inj h
      subst e9
      exact zk_iret rfl ⟨rfl, rfl⟩ dX3_greatestComplaintByLast_62
    · replace h := zneg g10 h
      refine zk_iload_n dX3_greatestComplaintByLast_13 rfl rfl ?_
      refine zk_aload_n dX3_greatestComplaintByLast_14 rfl rfl ?_
      refine zf_X3_69 rfl dX3_greatestComplaintByLast_15 ?_
      refine zk_iconst (v := 1) dX3_greatestComplaintByLast_18 (by decide) ?_
      refine zk_isub dX3_greatestComplaintByLast_19 ?_
      obtain ⟨p20, h20, h⟩ := zbind h
      refine zc_X3_41 [] (As := [.int _, .int _]) (ok_X8_has hj _ _ _ h20) rfl ⟨Nat.le_of_ble_eq_true rfl, Nat.le_of_ble_eq_true rfl⟩ ⟨Nat.le_refl _, Nat.le_refl _⟩ rfl rfl (Nat.le_of_ble_eq_true rfl) dX3_greatestComplaintByLast_20 ?_
      refine zk_if_eq (tgt := 38) dX3_greatestComplaintByLast_23 rfl (fun g23 => ?_) (fun g23 => ?_)
      · replace h := zpos g23 h
        refine zk_iconst (v := 0) dX3_greatestComplaintByLast_38 (by decide) ?_
        exact ok_X3_greatestComplaintByLast_J39 hj r _ _ _ _ _ hr5 h
      · replace h := zneg g23 h
        refine zk_aload_n dX3_greatestComplaintByLast_26 rfl rfl ?_
        refine zf_X3_45 rfl dX3_greatestComplaintByLast_27 ?_
        refine zk_aload_n dX3_greatestComplaintByLast_30 rfl rfl ?_
        obtain ⟨p31, h31, h⟩ := zbind h
        refine zc_X3_56 [.ref _] (As := []) (ok_X7_all hj _ h31) rfl ⟨Nat.le_of_ble_eq_true rfl, Nat.le_of_ble_eq_true rfl⟩ ⟨Nat.le_refl _, Nat.le_refl _⟩ rfl rfl (Nat.le_of_ble_eq_true rfl) dX3_greatestComplaintByLast_31 ?_
        obtain ⟨g34, h⟩ := zguard h
        refine zk_iald (zoI_of rfl g34) dX3_greatestComplaintByLast_34 ?_
        refine zk_goto (tgt := 39) dX3_greatestComplaintByLast_35 rfl ?_
        exact ok_X3_greatestComplaintByLast_J39 hj r _ _ _ _ _ hr5 h
def D_X3_greatestComplaintByLast (s : zS) : Option Int32 :=
  D_X3_greatestComplaintByLast_L5 s zFU (-1000000 : Int32) (1 : Int32)
set_option maxRecDepth 100000 in
theorem ok_X3_greatestComplaintByLast {l : Launch} {D : va_G} {ad : Nat → Nat} {cA : Nat → ClassId} (hj : zInj ad) (s : zS)  {r : Int32} (h : D_X3_greatestComplaintByLast s = some r) : zMet l D ad cA jX3_greatestComplaintByLast [.ref 4, .ref 2] s (some (.int r)) s := by
  refine zMet_of jX3_greatestComplaintByLast [some (.ref 4), some (.ref 2), none, none, none] (by decide +kernel) (Nat.le_of_ble_eq_true rfl) rfl hj ?_
  unfold D_X3_greatestComplaintByLast at h
  refine zk_ldc dX3_greatestComplaintByLast_0 zw_X3_55 ?_
  refine zk_istore_n (i := 2) dX3_greatestComplaintByLast_2 rfl (by decide) (zk_eq [_, _, _, _, _] rfl ?_)
  refine zk_iconst (v := 1) dX3_greatestComplaintByLast_3 (by decide) ?_
  refine zk_istore_n (i := 3) dX3_greatestComplaintByLast_4 rfl (by decide) (zk_eq [_, _, _, _, _] rfl ?_)
  refine zk_mask [false, true, true, true, false] ?_
  exact ok_X3_greatestComplaintByLast_L5 hj r _ _ _ _ h
def D_X3_layWhole_B50 (a3 : Int32) (rec50 : Int32 → zS → Option (Int32 × zS)) (a4 : Int32) (s : zS) : Option (Int32 × zS) :=
    (D_X7_all s).bind fun p53 =>
    if p53 ≤ a4 then (
      some (a3, s)
    ) else (
      zgd (zin a4 16 = true) <|
      (D_X3_addWholeHaving s a4 a4 ((s.1 3 a4.toNatClampNeg) - a3)).bind fun p74 =>
      rec50 (a4 + 1) p74
    )
def D_X3_layWhole_L50 (a3 : Int32) (n : Nat) (a4 : Int32) (s : zS) : Option (Int32 × zS) := zfx (fun (rec : Int32 × zS → Option (Int32 × zS)) q => D_X3_layWhole_B50 a3 (fun v0 v1 => rec (v0, v1)) q.1 q.2) n (a4, s)
set_option maxRecDepth 100000 in
theorem D_X3_layWhole_L50_s (a3 : Int32) (n : Nat) (a4 : Int32) (s : zS) : D_X3_layWhole_L50 a3 (n + 1) a4 s = D_X3_layWhole_B50 a3 (D_X3_layWhole_L50 a3 n) a4 s := rfl
set_option maxRecDepth 100000 in
theorem ok_X3_layWhole_L50 {l : Launch} {D : va_G} {ad : Nat → Nat} {cA : Nat → ClassId} (hj : zInj ad) (r : (Int32 × zS)) (a3 : Int32) : ∀ (n : Nat) (a4 : Int32) (s : zS), D_X3_layWhole_L50 a3 n a4 s = some r → zOk l D ad cA (zJm jX3_layWhole) (zEnd D ad cA (some (.int r.1)) r.2) 50 [some (.ref 4), some (.ref 2), none, some (.int a3), some (.int a4)] [] s := by
  intro n
  induction n with
  | zero =>
    intro a4 s h
    have h0 : (none : Option (Int32 × zS)) = some r := h
    cases h0
  | succ n hr50 =>
    intro a4 s h
    have h : D_X3_layWhole_B50 a3 (D_X3_layWhole_L50 a3 n) a4 s = some r := h
    unfold D_X3_layWhole_B50 at h
    refine zk_iload dX3_layWhole_50 rfl ?_
    refine zk_aload_n dX3_layWhole_52 rfl rfl ?_
    obtain ⟨p53, h53, h⟩ := zbind h
    refine zc_X3_56 [.int _] (As := []) (ok_X7_all hj _ h53) rfl ⟨Nat.le_of_ble_eq_true rfl, Nat.le_of_ble_eq_true rfl⟩ ⟨Nat.le_refl _, Nat.le_refl _⟩ rfl rfl (Nat.le_of_ble_eq_true rfl) dX3_layWhole_53 ?_
    refine zk_icmp_ge (tgt := 83) dX3_layWhole_56 rfl (fun g56 => ?_) (fun g56 => ?_)
    · replace h := zpos g56 h
      refine zk_iload_n dX3_layWhole_83 rfl rfl ?_
      have e9 := Option.some.inj h
      subst e9
      exact zk_iret rfl ⟨rfl, rfl⟩ dX3_layWhole_84
    · replace h := zneg g56 h
      refine zk_aload_n dX3_layWhole_59 rfl rfl ?_
      refine zk_aload_n dX3_layWhole_60 rfl rfl ?_
      refine zk_iload dX3_layWhole_61 rfl ?_
      refine zk_iload dX3_layWhole_63 rfl ?_
      refine zk_aload_n dX3_layWhole_65 rfl rfl ?_
      refine zf_X3_45 rfl dX3_layWhole_66 ?_
      refine zk_iload dX3_layWhole_69 rfl ?_
      obtain ⟨g71, h⟩ := zguard h
      refine zk_iald (zoI_of rfl g71) dX3_layWhole_71 ?_
      refine zk_iload_n dX3_layWhole_72 rfl rfl ?_
      refine zk_isub dX3_layWhole_73 ?_
      obtain ⟨p74, h74, h⟩ := zbind h
      refine zc_X3_152 [] (As := [.ref _, .int _, .int _, .int _]) (ok_X3_addWholeHaving hj _ _ _ _ h74) rfl ⟨Nat.le_of_ble_eq_true rfl, Nat.le_of_ble_eq_true rfl⟩ ⟨Nat.le_refl _, Nat.le_refl _⟩ rfl rfl (Nat.le_of_ble_eq_true rfl) dX3_layWhole_74 ?_
      refine zk_iinc dX3_layWhole_77 rfl (zinc (m := 1) (by decide)) (by decide) (zk_eq [_, _, _, _, _] rfl ?_)
      refine zk_goto (tgt := 50) dX3_layWhole_80 rfl ?_
      exact hr50 _ _ h
def D_X3_layWhole_B24 (a2 : Int32) (a3 : Int32) (rec24 : Int32 → zS → Option (Int32 × zS)) (a4 : Int32) (s : zS) : Option (Int32 × zS) :=
    if a2 ≤ a4 then (
      D_X3_layWhole_L50 a3 zFU (1 : Int32) s
    ) else (
      (D_X3_addWholeHaving s (0 : Int32) ((1 : Int32) <<< (a4 &&& 31)) (0 : Int32)).bind fun p38 =>
      rec24 (a4 + 1) p38
    )
def D_X3_layWhole_L24 (a2 : Int32) (a3 : Int32) (n : Nat) (a4 : Int32) (s : zS) : Option (Int32 × zS) := zfx (fun (rec : Int32 × zS → Option (Int32 × zS)) q => D_X3_layWhole_B24 a2 a3 (fun v0 v1 => rec (v0, v1)) q.1 q.2) n (a4, s)
set_option maxRecDepth 100000 in
theorem D_X3_layWhole_L24_s (a2 : Int32) (a3 : Int32) (n : Nat) (a4 : Int32) (s : zS) : D_X3_layWhole_L24 a2 a3 (n + 1) a4 s = D_X3_layWhole_B24 a2 a3 (D_X3_layWhole_L24 a2 a3 n) a4 s := rfl
set_option maxRecDepth 100000 in
theorem ok_X3_layWhole_L24 {l : Launch} {D : va_G} {ad : Nat → Nat} {cA : Nat → ClassId} (hj : zInj ad) (r : (Int32 × zS)) (a2 : Int32) (a3 : Int32) : ∀ (n : Nat) (a4 : Int32) (s : zS), D_X3_layWhole_L24 a2 a3 n a4 s = some r → zOk l D ad cA (zJm jX3_layWhole) (zEnd D ad cA (some (.int r.1)) r.2) 24 [some (.ref 4), some (.ref 2), some (.int a2), some (.int a3), some (.int a4)] [] s := by
  intro n
  induction n with
  | zero =>
    intro a4 s h
    have h0 : (none : Option (Int32 × zS)) = some r := h
    cases h0
  | succ n hr24 =>
    intro a4 s h
    have h : D_X3_layWhole_B24 a2 a3 (D_X3_layWhole_L24 a2 a3 n) a4 s = some r := h
    unfold D_X3_layWhole_B24 at h
    refine zk_iload dX3_layWhole_24 rfl ?_
    refine zk_iload_n dX3_layWhole_26 rfl rfl ?_
    refine zk_icmp_ge (tgt := 47) dX3_layWhole_27 rfl (fun g27 => ?_) (fun g27 => ?_)
    · replace h := zpos g27 h
      refine zk_iconst (v := 1) dX3_layWhole_47 (by decide) ?_
      refine zk_istore (i := 4) dX3_layWhole_48 (by decide) (zk_eq [_, _, _, _, _] rfl ?_)
      refine zk_mask [true, true, false, true, true] ?_
      exact ok_X3_layWhole_L50 hj r _ _ _ _ h
    · replace h := zneg g27 h
      refine zk_aload_n dX3_layWhole_30 rfl rfl ?_
      refine zk_aload_n dX3_layWhole_31 rfl rfl ?_
      refine zk_iconst (v := 0) dX3_layWhole_32 (by decide) ?_
      refine zk_iconst (v := 1) dX3_layWhole_33 (by decide) ?_
      refine zk_iload dX3_layWhole_34 rfl ?_
      refine zk_ishl dX3_layWhole_36 ?_
      refine zk_iconst (v := 0) dX3_layWhole_37 (by decide) ?_
      obtain ⟨p38, h38, h⟩ := zbind h
      refine zc_X3_152 [] (As := [.ref _, .int _, .int _, .int _]) (ok_X3_addWholeHaving hj _ _ _ _ h38) rfl ⟨Nat.le_of_ble_eq_true rfl, Nat.le_of_ble_eq_true rfl⟩ ⟨Nat.le_refl _, Nat.le_refl _⟩ rfl rfl (Nat.le_of_ble_eq_true rfl) dX3_layWhole_38 ?_
      refine zk_iinc dX3_layWhole_41 rfl (zinc (m := 1) (by decide)) (by decide) (zk_eq [_, _, _, _, _] rfl ?_)
      refine zk_goto (tgt := 24) dX3_layWhole_44 rfl ?_
      exact hr24 _ _ h
def D_X3_layWhole (s : zS) : Option (Int32 × zS) :=
  (D_X3_greatestComplaintByLast s).bind fun p7 =>
  (D_X0_restart s ((s.1 2 0) - (1 : Int32))).bind fun p18 =>
  D_X3_layWhole_L24 (s.1 2 0) p7 zFU (0 : Int32) p18
set_option maxRecDepth 100000 in
theorem ok_X3_layWhole {l : Launch} {D : va_G} {ad : Nat → Nat} {cA : Nat → ClassId} (hj : zInj ad) (s : zS)  {r : (Int32 × zS)} (h : D_X3_layWhole s = some r) : zMet l D ad cA jX3_layWhole [.ref 4, .ref 2] s (some (.int r.1)) r.2 := by
  refine zMet_of jX3_layWhole [some (.ref 4), some (.ref 2), none, none, none] (by decide +kernel) (Nat.le_of_ble_eq_true rfl) rfl hj ?_
  unfold D_X3_layWhole at h
  refine zk_aload_n dX3_layWhole_0 rfl rfl ?_
  refine zf_X3_69 rfl dX3_layWhole_1 ?_
  refine zk_istore_n (i := 2) dX3_layWhole_4 rfl (by decide) (zk_eq [_, _, _, _, _] rfl ?_)
  refine zk_aload_n dX3_layWhole_5 rfl rfl ?_
  refine zk_aload_n dX3_layWhole_6 rfl rfl ?_
  obtain ⟨p7, h7, h⟩ := zbind h
  refine zc_X3_149 [] (As := [.ref _]) (ok_X3_greatestComplaintByLast hj _ h7) rfl ⟨Nat.le_of_ble_eq_true rfl, Nat.le_of_ble_eq_true rfl⟩ ⟨Nat.le_refl _, Nat.le_refl _⟩ rfl rfl (Nat.le_of_ble_eq_true rfl) dX3_layWhole_7 ?_
  refine zk_istore_n (i := 3) dX3_layWhole_10 rfl (by decide) (zk_eq [_, _, _, _, _] rfl ?_)
  refine zk_aload_n dX3_layWhole_11 rfl rfl ?_
  refine zf_X3_19 rfl dX3_layWhole_12 ?_
  refine zk_iload_n dX3_layWhole_15 rfl rfl ?_
  refine zk_iconst (v := 1) dX3_layWhole_16 (by decide) ?_
  refine zk_isub dX3_layWhole_17 ?_
  obtain ⟨p18, h18, h⟩ := zbind h
  refine zc_X3_81 [] (As := [.int _]) (ok_X0_restart hj _ _ h18) rfl ⟨Nat.le_of_ble_eq_true rfl, Nat.le_of_ble_eq_true rfl⟩ ⟨Nat.le_refl _, Nat.le_refl _⟩ rfl rfl (Nat.le_of_ble_eq_true rfl) dX3_layWhole_18 ?_
  refine zk_iconst (v := 0) dX3_layWhole_21 (by decide) ?_
  refine zk_istore (i := 4) dX3_layWhole_22 (by decide) (zk_eq [_, _, _, _, _] rfl ?_)
  exact ok_X3_layWhole_L24 hj r _ _ _ _ _ h
def D_X3_findCalm_B134  (rec134 : Int32 → zS → Option zS) (a4 : Int32) (s : zS) : Option zS :=
    if (s.1 2 0) ≤ a4 then (
      let s179 : zS := zwI s 4 4 (1 : Int32)
      some s179
    ) else (
      zgd (zin a4 4 = true) <|
      (D_X0_constantOf s a4).bind fun p156 =>
      (D_X0_belowOf s a4).bind fun p165 =>
      zgd (zshp (zT 32 a4) = (0, 2, [1, 1])) <|
      (D_X2_put s (zT 32 a4) p156 p165).bind fun p168 =>
      rec134 (a4 + 1) p168
    )
def D_X3_findCalm_L134 (n : Nat) (a4 : Int32) (s : zS) : Option zS := zfx (fun (rec : Int32 × zS → Option zS) q => D_X3_findCalm_B134 (fun v0 v1 => rec (v0, v1)) q.1 q.2) n (a4, s)
set_option maxRecDepth 100000 in
theorem D_X3_findCalm_L134_s (n : Nat) (a4 : Int32) (s : zS) : D_X3_findCalm_L134 (n + 1) a4 s = D_X3_findCalm_B134 (D_X3_findCalm_L134 n) a4 s := rfl
set_option maxRecDepth 100000 in
theorem ok_X3_findCalm_L134 {l : Launch} {D : va_G} {ad : Nat → Nat} {cA : Nat → ClassId} (hj : zInj ad) (r : zS)  : ∀ (n : Nat) (a4 : Int32) (s : zS), D_X3_findCalm_L134 n a4 s = some r → zOk l D ad cA (zJm jX3_findCalm) (zEnd D ad cA none r) 134 [some (.ref 4), some (.ref 2), none, none, some (.int a4), none, none, none] [] s := by
  intro n
  induction n with
  | zero =>
    intro a4 s h
    have h0 : (none : Option zS) = some r := h
    cases h0
  | succ n hr134 =>
    intro a4 s h
    have h : D_X3_findCalm_B134 (D_X3_findCalm_L134 n) a4 s = some r := h
    unfold D_X3_findCalm_B134 at h
    refine zk_iload dX3_findCalm_134 rfl ?_
    refine zk_aload_n dX3_findCalm_136 rfl rfl ?_
    refine zf_X3_69 rfl dX3_findCalm_137 ?_
    refine zk_icmp_ge (tgt := 177) dX3_findCalm_140 rfl (fun g140 => ?_) (fun g140 => ?_)
    · replace h := zpos g140 h
      refine zk_aload_n dX3_findCalm_177 rfl rfl ?_
      refine zk_iconst (v := 1) dX3_findCalm_178 (by decide) ?_
      refine zp_X3_34 rfl (Or.inr rfl) dX3_findCalm_179 ?_
      have e9 := Option.some.inj h
      subst e9
      exact zk_vret rfl ⟨rfl, rfl⟩ dX3_findCalm_182
    · replace h := zneg g140 h
      refine zk_aload_n dX3_findCalm_143 rfl rfl ?_
      refine zf_X3_26 rfl dX3_findCalm_144 ?_
      refine zk_iload dX3_findCalm_147 rfl ?_
      obtain ⟨g149, h⟩ := zguard h
      refine zk_aald (zoR_of ⟨rfl, rfl, by decide, by decide⟩ g149) dX3_findCalm_149 ?_
      refine zk_aload_n dX3_findCalm_150 rfl rfl ?_
      refine zf_X3_19 rfl dX3_findCalm_151 ?_
      refine zk_iload dX3_findCalm_154 rfl ?_
      obtain ⟨p156, h156, h⟩ := zbind h
      refine zc_X3_96 [.ref _] (As := [.int _]) (ok_X0_constantOf hj _ _ h156) rfl ⟨Nat.le_of_ble_eq_true rfl, Nat.le_of_ble_eq_true rfl⟩ ⟨Nat.le_refl _, Nat.le_refl _⟩ rfl rfl (Nat.le_of_ble_eq_true rfl) dX3_findCalm_156 ?_
      refine zk_aload_n dX3_findCalm_159 rfl rfl ?_
      refine zf_X3_19 rfl dX3_findCalm_160 ?_
      refine zk_iload dX3_findCalm_163 rfl ?_
      obtain ⟨p165, h165, h⟩ := zbind h
      refine zc_X3_100 [.long _, .ref _] (As := [.int _]) (ok_X0_belowOf hj _ _ h165) rfl ⟨Nat.le_of_ble_eq_true rfl, Nat.le_of_ble_eq_true rfl⟩ ⟨Nat.le_refl _, Nat.le_refl _⟩ rfl rfl (Nat.le_of_ble_eq_true rfl) dX3_findCalm_165 ?_
      obtain ⟨hs168, h⟩ := zguard h
      obtain ⟨p168, h168, h⟩ := zbind h
      refine zc_X3_106 [] (hs := hs168) (As := [.long _, .long _]) (ok_X2_put hj _ _ _ _ h168) rfl ⟨Nat.le_of_ble_eq_true rfl, Nat.le_of_ble_eq_true rfl⟩ ⟨Nat.le_refl _, Nat.le_refl _⟩ rfl rfl (Nat.le_of_ble_eq_true rfl) dX3_findCalm_168 ?_
      refine zk_iinc dX3_findCalm_171 rfl (zinc (m := 1) (by decide)) (by decide) (zk_eq [_, _, _, _, _, _, _, _] rfl ?_)
      refine zk_goto (tgt := 134) dX3_findCalm_174 rfl ?_
      exact hr134 _ _ h
def D_X3_findCalm_J131 (s : zS) : Option zS :=
  D_X3_findCalm_L134 zFU (0 : Int32) s
set_option maxRecDepth 100000 in
theorem ok_X3_findCalm_J131 {l : Launch} {D : va_G} {ad : Nat → Nat} {cA : Nat → ClassId} (hj : zInj ad) (r : zS) (s : zS) (h : D_X3_findCalm_J131 s = some r) : zOk l D ad cA (zJm jX3_findCalm) (zEnd D ad cA none r) 131 [some (.ref 4), some (.ref 2), none, none, none, none, none, none] [] s := by
  unfold D_X3_findCalm_J131 at h
  refine zk_iconst (v := 0) dX3_findCalm_131 (by decide) ?_
  refine zk_istore (i := 4) dX3_findCalm_132 (by decide) (zk_eq [_, _, _, _, _, _, _, _] rfl ?_)
  exact ok_X3_findCalm_L134 hj r  _ _ _ h
def D_X3_findCalm_J116 (rec26 : Int32 → Int32 → zS → Option zS) (s : zS) (a2 : Int32) (a3 : Int32) (a4 : Int32) (a5 : Int32) : Option zS :=
  (D_X0_freeze s a5).bind fun p122 =>
  rec26 a3 (a4 + 1) p122
set_option maxRecDepth 100000 in
theorem ok_X3_findCalm_J116 {l : Launch} {D : va_G} {ad : Nat → Nat} {cA : Nat → ClassId} (hj : zInj ad) (r : zS) (s : zS) (a2 : Int32) (a3 : Int32) (a4 : Int32) (a5 : Int32) (rec26 : Int32 → Int32 → zS → Option zS) (hr26 : ∀ (b3 : Int32) (b4 : Int32) (s : zS), rec26 b3 b4 s = some r → zOk l D ad cA (zJm jX3_findCalm) (zEnd D ad cA none r) 26 [some (.ref 4), some (.ref 2), some (.int a2), some (.int b3), some (.int b4), none, none, none] [] s) (h : D_X3_findCalm_J116 rec26 s a2 a3 a4 a5 = some r) : zOk l D ad cA (zJm jX3_findCalm) (zEnd D ad cA none r) 116 [some (.ref 4), some (.ref 2), some (.int a2), some (.int a3), some (.int a4), some (.int a5), none, none] [] s := by
  unfold D_X3_findCalm_J116 at h
  refine zk_aload_n dX3_findCalm_116 rfl rfl ?_
  refine zf_X3_19 rfl dX3_findCalm_117 ?_
  refine zk_iload dX3_findCalm_120 rfl ?_
  obtain ⟨p122, h122, h⟩ := zbind h
  refine zc_X3_103 [] (As := [.int _]) (ok_X0_freeze hj _ _ h122) rfl ⟨Nat.le_of_ble_eq_true rfl, Nat.le_of_ble_eq_true rfl⟩ ⟨Nat.le_refl _, Nat.le_refl _⟩ rfl rfl (Nat.le_of_ble_eq_true rfl) dX3_findCalm_122 ?_
  refine zk_iinc dX3_findCalm_125 rfl (zinc (m := 1) (by decide)) (by decide) (zk_eq [_, _, _, _, _, _, _, _] rfl ?_)
  refine zk_goto (tgt := 26) dX3_findCalm_128 rfl ?_
  refine zk_mask [true, true, true, true, true, false, false, false] ?_
  exact hr26 _ _ _ h
def D_X3_findCalm_B26 (a2 : Int32) (rec26 : Int32 → Int32 → zS → Option zS) (a3 : Int32) (a4 : Int32) (s : zS) : Option zS :=
    if (4 : Int32) ≤ a4 then (
      D_X3_findCalm_J131 s
    ) else (
      if (s.1 8 4) ≤ 0 then (
        D_X3_findCalm_J131 s
      ) else (
        (D_X0_releaseFlatRows s).bind fun p46 =>
        (D_X0_addDrawingIn p46).bind fun p57 =>
        (D_X0_enter p57.2 p57.1).bind fun p60 =>
        (D_X0_drive p60.2 p60.1 (1 : Int32)).bind fun p72 =>
        if a3 = 0 then (
          D_X3_findCalm_J116 rec26 p72 a2 a3 a4 p60.1
        ) else (
          (D_X0_belowOf p72 p60.1).bind fun p85 =>
          (D_X0_constantOf p72 p60.1).bind fun p105 =>
          (D_X2_put p72 37 ((a2.toInt64 * p85) - p105) p85).bind fun p111 =>
          D_X3_findCalm_J116 rec26 p111 a2 (0 : Int32) a4 p60.1
        )
      )
    )
def D_X3_findCalm_L26 (a2 : Int32) (n : Nat) (a3 : Int32) (a4 : Int32) (s : zS) : Option zS := zfx (fun (rec : Int32 × Int32 × zS → Option zS) q => D_X3_findCalm_B26 a2 (fun v0 v1 v2 => rec (v0, v1, v2)) q.1 q.2.1 q.2.2) n (a3, a4, s)
set_option maxRecDepth 100000 in
theorem D_X3_findCalm_L26_s (a2 : Int32) (n : Nat) (a3 : Int32) (a4 : Int32) (s : zS) : D_X3_findCalm_L26 a2 (n + 1) a3 a4 s = D_X3_findCalm_B26 a2 (D_X3_findCalm_L26 a2 n) a3 a4 s := rfl
set_option maxRecDepth 100000 in
theorem ok_X3_findCalm_L26 {l : Launch} {D : va_G} {ad : Nat → Nat} {cA : Nat → ClassId} (hj : zInj ad) (r : zS) (a2 : Int32) : ∀ (n : Nat) (a3 : Int32) (a4 : Int32) (s : zS), D_X3_findCalm_L26 a2 n a3 a4 s = some r → zOk l D ad cA (zJm jX3_findCalm) (zEnd D ad cA none r) 26 [some (.ref 4), some (.ref 2), some (.int a2), some (.int a3), some (.int a4), none, none, none] [] s := by
  intro n
  induction n with
  | zero =>
    intro a3 a4 s h
    have h0 : (none : Option zS) = some r := h
    cases h0
  | succ n hr26 =>
    intro a3 a4 s h
    have h : D_X3_findCalm_B26 a2 (D_X3_findCalm_L26 a2 n) a3 a4 s = some r := h
    unfold D_X3_findCalm_B26 at h
    refine zk_iload dX3_findCalm_26 rfl ?_
    refine zk_iconst (v := 4) dX3_findCalm_28 (by decide) ?_
    refine zk_icmp_ge (tgt := 131) dX3_findCalm_29 rfl (fun g29 => ?_) (fun g29 => ?_)
    · replace h := zpos g29 h
      refine zk_mask [true, true, false, false, false, false, false, false] ?_
      exact ok_X3_findCalm_J131 hj r _ h
    · replace h := zneg g29 h
      refine zk_aload_n dX3_findCalm_32 rfl rfl ?_
      refine zf_X3_19 rfl dX3_findCalm_33 ?_
      refine zf_X3_137 rfl dX3_findCalm_36 ?_
      refine zk_if_le (tgt := 131) dX3_findCalm_39 rfl (fun g39 => ?_) (fun g39 => ?_)
      · replace h := zpos g39 h
        refine zk_mask [true, true, false, false, false, false, false, false] ?_
        exact ok_X3_findCalm_J131 hj r _ h
      · replace h := zneg g39 h
        refine zk_aload_n dX3_findCalm_42 rfl rfl ?_
        refine zf_X3_19 rfl dX3_findCalm_43 ?_
        obtain ⟨p46, h46, h⟩ := zbind h
        refine zc_X3_140 [] (As := []) (ok_X0_releaseFlatRows hj _ h46) rfl ⟨Nat.le_of_ble_eq_true rfl, Nat.le_of_ble_eq_true rfl⟩ ⟨Nat.le_refl _, Nat.le_refl _⟩ rfl rfl (Nat.le_of_ble_eq_true rfl) dX3_findCalm_46 ?_
        refine zk_aload_n dX3_findCalm_49 rfl rfl ?_
        refine zf_X3_19 rfl dX3_findCalm_50 ?_
        refine zk_aload_n dX3_findCalm_53 rfl rfl ?_
        refine zf_X3_19 rfl dX3_findCalm_54 ?_
        obtain ⟨p57, h57, h⟩ := zbind h
        refine zc_X3_143 [.ref _] (As := []) (ok_X0_addDrawingIn hj _ h57) rfl ⟨Nat.le_of_ble_eq_true rfl, Nat.le_of_ble_eq_true rfl⟩ ⟨Nat.le_refl _, Nat.le_refl _⟩ rfl rfl (Nat.le_of_ble_eq_true rfl) dX3_findCalm_57 ?_
        obtain ⟨p60, h60, h⟩ := zbind h
        refine zc_X3_146 [] (As := [.int _]) (ok_X0_enter hj _ _ h60) rfl ⟨Nat.le_of_ble_eq_true rfl, Nat.le_of_ble_eq_true rfl⟩ ⟨Nat.le_refl _, Nat.le_refl _⟩ rfl rfl (Nat.le_of_ble_eq_true rfl) dX3_findCalm_60 ?_
        refine zk_istore (i := 5) dX3_findCalm_63 (by decide) (zk_eq [_, _, _, _, _, _, _, _] rfl ?_)
        refine zk_aload_n dX3_findCalm_65 rfl rfl ?_
        refine zf_X3_19 rfl dX3_findCalm_66 ?_
        refine zk_iload dX3_findCalm_69 rfl ?_
        refine zk_iconst (v := 1) dX3_findCalm_71 (by decide) ?_
        obtain ⟨p72, h72, h⟩ := zbind h
        refine zc_X3_92 [] (As := [.int _, .int _]) (ok_X0_drive hj _ _ _ h72) rfl ⟨Nat.le_of_ble_eq_true rfl, Nat.le_of_ble_eq_true rfl⟩ ⟨Nat.le_refl _, Nat.le_refl _⟩ rfl rfl (Nat.le_of_ble_eq_true rfl) dX3_findCalm_72 ?_
        refine zk_iload_n dX3_findCalm_75 rfl rfl ?_
        refine zk_if_eq (tgt := 116) dX3_findCalm_76 rfl (fun g76 => ?_) (fun g76 => ?_)
        · replace h := zpos g76 h
          exact ok_X3_findCalm_J116 hj r _ _ _ _ _ _ hr26 h
        · replace h := zneg g76 h
          refine zk_aload_n dX3_findCalm_79 rfl rfl ?_
          refine zf_X3_19 rfl dX3_findCalm_80 ?_
          refine zk_iload dX3_findCalm_83 rfl ?_
          obtain ⟨p85, h85, h⟩ := zbind h
          refine zc_X3_100 [] (As := [.int _]) (ok_X0_belowOf hj _ _ h85) rfl ⟨Nat.le_of_ble_eq_true rfl, Nat.le_of_ble_eq_true rfl⟩ ⟨Nat.le_refl _, Nat.le_refl _⟩ rfl rfl (Nat.le_of_ble_eq_true rfl) dX3_findCalm_85 ?_
          refine zk_lstore (i := 6) dX3_findCalm_88 (by decide) (zk_eq [_, _, _, _, _, _, _, _] rfl ?_)
          refine zk_aload_n dX3_findCalm_90 rfl rfl ?_
          refine zf_X3_30 rfl dX3_findCalm_91 ?_
          refine zk_iload_n dX3_findCalm_94 rfl rfl ?_
          refine zk_i2l dX3_findCalm_95 ?_
          refine zk_lload dX3_findCalm_96 rfl ?_
          refine zk_lmul dX3_findCalm_98 ?_
          refine zk_aload_n dX3_findCalm_99 rfl rfl ?_
          refine zf_X3_19 rfl dX3_findCalm_100 ?_
          refine zk_iload dX3_findCalm_103 rfl ?_
          obtain ⟨p105, h105, h⟩ := zbind h
          refine zc_X3_96 [.long _, .ref _] (As := [.int _]) (ok_X0_constantOf hj _ _ h105) rfl ⟨Nat.le_of_ble_eq_true rfl, Nat.le_of_ble_eq_true rfl⟩ ⟨Nat.le_refl _, Nat.le_refl _⟩ rfl rfl (Nat.le_of_ble_eq_true rfl) dX3_findCalm_105 ?_
          refine zk_lsub dX3_findCalm_108 ?_
          refine zk_lload dX3_findCalm_109 rfl ?_
          obtain ⟨p111, h111, h⟩ := zbind h
          refine zc_X3_106 [] (hs := rfl) (As := [.long _, .long _]) (ok_X2_put hj _ _ _ _ h111) rfl ⟨Nat.le_of_ble_eq_true rfl, Nat.le_of_ble_eq_true rfl⟩ ⟨Nat.le_refl _, Nat.le_refl _⟩ rfl rfl (Nat.le_of_ble_eq_true rfl) dX3_findCalm_111 ?_
          refine zk_iconst (v := 0) dX3_findCalm_114 (by decide) ?_
          refine zk_istore_n (i := 3) dX3_findCalm_115 rfl (by decide) (zk_eq [_, _, _, _, _, _, _, _] rfl ?_)
          refine zk_mask [true, true, true, true, true, true, false, false] ?_
          exact ok_X3_findCalm_J116 hj r _ _ _ _ _ _ hr26 h
def D_X3_findCalm (s : zS) : Option zS :=
  if (s.1 4 4) = 0 then (
    (D_X3_layWhole s).bind fun p10 =>
    (D_X0_enterAll p10.2).bind fun p18 =>
    D_X3_findCalm_L26 p10.1 zFU (1 : Int32) (0 : Int32) p18
  ) else (
    some s
  )
set_option maxRecDepth 100000 in
theorem ok_X3_findCalm {l : Launch} {D : va_G} {ad : Nat → Nat} {cA : Nat → ClassId} (hj : zInj ad) (s : zS)  {r : zS} (h : D_X3_findCalm s = some r) : zMet l D ad cA jX3_findCalm [.ref 4, .ref 2] s none r := by
  refine zMet_of jX3_findCalm [some (.ref 4), some (.ref 2), none, none, none, none, none, none] (by decide +kernel) (Nat.le_of_ble_eq_true rfl) rfl hj ?_
  unfold D_X3_findCalm at h
  refine zk_aload_n dX3_findCalm_0 rfl rfl ?_
  refine zf_X3_34 rfl dX3_findCalm_1 ?_
  refine zk_if_eq (tgt := 8) dX3_findCalm_4 rfl (fun g4 => ?_) (fun g4 => ?_)
  · replace h := zpos g4 h
    refine zk_aload_n dX3_findCalm_8 rfl rfl ?_
    refine zk_aload_n dX3_findCalm_9 rfl rfl ?_
    obtain ⟨p10, h10, h⟩ := zbind h
    refine zc_X3_133 [] (As := [.ref _]) (ok_X3_layWhole hj _ h10) rfl ⟨Nat.le_of_ble_eq_true rfl, Nat.le_of_ble_eq_true rfl⟩ ⟨Nat.le_refl _, Nat.le_refl _⟩ rfl rfl (Nat.le_of_ble_eq_true rfl) dX3_findCalm_10 ?_
    refine zk_istore_n (i := 2) dX3_findCalm_13 rfl (by decide) (zk_eq [_, _, _, _, _, _, _, _] rfl ?_)
    refine zk_aload_n dX3_findCalm_14 rfl rfl ?_
    refine zf_X3_19 rfl dX3_findCalm_15 ?_
    obtain ⟨p18, h18, h⟩ := zbind h
    refine zc_X3_89 [] (As := []) (ok_X0_enterAll hj _ h18) rfl ⟨Nat.le_of_ble_eq_true rfl, Nat.le_of_ble_eq_true rfl⟩ ⟨Nat.le_refl _, Nat.le_refl _⟩ rfl rfl (Nat.le_of_ble_eq_true rfl) dX3_findCalm_18 ?_
    refine zk_iconst (v := 1) dX3_findCalm_21 (by decide) ?_
    refine zk_istore_n (i := 3) dX3_findCalm_22 rfl (by decide) (zk_eq [_, _, _, _, _, _, _, _] rfl ?_)
    refine zk_iconst (v := 0) dX3_findCalm_23 (by decide) ?_
    refine zk_istore (i := 4) dX3_findCalm_24 (by decide) (zk_eq [_, _, _, _, _, _, _, _] rfl ?_)
    exact ok_X3_findCalm_L26 hj r _ _ _ _ _ h
  · replace h := zneg g4 h
    have e9 := Option.some.inj h
    subst e9
    exact zk_vret rfl ⟨rfl, rfl⟩ dX3_findCalm_7
def D_X3_firstBetterSet_B2 (s : zS) (a2 : Int32) (rec2 : Int32 → Option Int32) (a3 : Int32) : Option Int32 :=
    (D_X7_all s).bind fun p4 =>
    if p4 < a3 then (
      some (-1 : Int32)
    ) else (
      (D_X3_complaintOf s a2 a3).bind fun p14 =>
      if p14 < 0 then (
        rec2 (a3 + 1)
      ) else (
        (D_X3_allHaveMore s (s.1 2 0) a2 a3).bind fun p27 =>
        if p27 = 0 then (
          rec2 (a3 + 1)
        ) else (
          some a3
        )
      )
    )
def D_X3_firstBetterSet_L2 (s : zS) (a2 : Int32) (n : Nat) (a3 : Int32) : Option Int32 := zfx (fun (rec : Int32 → Option Int32) q => D_X3_firstBetterSet_B2 s a2 (fun v0 => rec (v0)) q) n (a3)
set_option maxRecDepth 100000 in
theorem D_X3_firstBetterSet_L2_s (s : zS) (a2 : Int32) (n : Nat) (a3 : Int32) : D_X3_firstBetterSet_L2 s a2 (n + 1) a3 = D_X3_firstBetterSet_B2 s a2 (D_X3_firstBetterSet_L2 s a2 n) a3 := rfl
set_option maxRecDepth 100000 in
theorem ok_X3_firstBetterSet_L2 {l : Launch} {D : va_G} {ad : Nat → Nat} {cA : Nat → ClassId} (hj : zInj ad) (r : Int32) (s : zS) (a2 : Int32) : ∀ (n : Nat) (a3 : Int32), D_X3_firstBetterSet_L2 s a2 n a3 = some r → zOk l D ad cA (zJm jX3_firstBetterSet) (zEnd D ad cA (some (.int r)) s) 2 [some (.ref 4), some (.ref 2), some (.int a2), some (.int a3)] [] s := by
  intro n
  induction n with
  | zero =>
    intro a3 h
    have h0 : (none : Option Int32) = some r := h
    cases h0
  | succ n hr2 =>
    intro a3 h
    have h : D_X3_firstBetterSet_B2 s a2 (D_X3_firstBetterSet_L2 s a2 n) a3 = some r := h
    unfold D_X3_firstBetterSet_B2 at h
    refine zk_iload_n dX3_firstBetterSet_2 rfl rfl ?_
    refine zk_aload_n dX3_firstBetterSet_3 rfl rfl ?_
    obtain ⟨p4, h4, h⟩ := zbind h
    refine zc_X3_56 [.int _] (As := []) (ok_X7_all hj _ h4) rfl ⟨Nat.le_of_ble_eq_true rfl, Nat.le_of_ble_eq_true rfl⟩ ⟨Nat.le_refl _, Nat.le_refl _⟩ rfl rfl (Nat.le_of_ble_eq_true rfl) dX3_firstBetterSet_4 ?_
    refine zk_icmp_gt (tgt := 41) dX3_firstBetterSet_7 rfl (fun g7 => ?_) (fun g7 => ?_)
    · replace h := zpos g7 h
      refine zk_iconst (v := -1) dX3_firstBetterSet_41 (by decide) ?_
      have e9 := Option.some.inj h
      subst e9
      exact zk_iret rfl ⟨rfl, rfl⟩ dX3_firstBetterSet_42
    · replace h := zneg g7 h
      refine zk_aload_n dX3_firstBetterSet_10 rfl rfl ?_
      refine zk_aload_n dX3_firstBetterSet_11 rfl rfl ?_
      refine zk_iload_n dX3_firstBetterSet_12 rfl rfl ?_
      refine zk_iload_n dX3_firstBetterSet_13 rfl rfl ?_
      obtain ⟨p14, h14, h⟩ := zbind h
      refine zc_X3_60 [] (As := [.ref _, .int _, .int _]) (ok_X3_complaintOf hj _ _ _ h14) rfl ⟨Nat.le_of_ble_eq_true rfl, Nat.le_of_ble_eq_true rfl⟩ ⟨Nat.le_refl _, Nat.le_refl _⟩ rfl rfl (Nat.le_of_ble_eq_true rfl) dX3_firstBetterSet_14 ?_
      refine zk_if_lt (tgt := 35) dX3_firstBetterSet_17 rfl (fun g17 => ?_) (fun g17 => ?_)
      · replace h := zpos g17 h
        refine zk_iinc dX3_firstBetterSet_35 rfl (zinc (m := 1) (by decide)) (by decide) (zk_eq [_, _, _, _] rfl ?_)
        refine zk_goto (tgt := 2) dX3_firstBetterSet_38 rfl ?_
        exact hr2 _ h
      · replace h := zneg g17 h
        refine zk_aload_n dX3_firstBetterSet_20 rfl rfl ?_
        refine zk_aload_n dX3_firstBetterSet_21 rfl rfl ?_
        refine zf_X3_69 rfl dX3_firstBetterSet_22 ?_
        refine zk_iload_n dX3_firstBetterSet_25 rfl rfl ?_
        refine zk_iload_n dX3_firstBetterSet_26 rfl rfl ?_
        obtain ⟨p27, h27, h⟩ := zbind h
        refine zc_X3_77 [] (As := [.int _, .int _, .int _]) (ok_X3_allHaveMore hj _ _ _ _ h27) rfl ⟨Nat.le_of_ble_eq_true rfl, Nat.le_of_ble_eq_true rfl⟩ ⟨Nat.le_refl _, Nat.le_refl _⟩ rfl rfl (Nat.le_of_ble_eq_true rfl) dX3_firstBetterSet_27 ?_
        refine zk_if_eq (tgt := 35) dX3_firstBetterSet_30 rfl (fun g30 => ?_) (fun g30 => ?_)
        · replace h := zpos g30 h
          refine zk_iinc dX3_firstBetterSet_35 rfl (zinc (m := 1) (by decide)) (by decide) (zk_eq [_, _, _, _] rfl ?_)
          refine zk_goto (tgt := 2) dX3_firstBetterSet_38 rfl ?_
          exact hr2 _ h
        · replace h := zneg g30 h
          refine zk_iload_n dX3_firstBetterSet_33 rfl rfl ?_
          have e9 := Option.some.inj h
          subst e9
          exact zk_iret rfl ⟨rfl, rfl⟩ dX3_firstBetterSet_34
def D_X3_firstBetterSet (s : zS) (a2 : Int32) : Option Int32 :=
  D_X3_firstBetterSet_L2 s a2 zFU (1 : Int32)
set_option maxRecDepth 100000 in
theorem ok_X3_firstBetterSet {l : Launch} {D : va_G} {ad : Nat → Nat} {cA : Nat → ClassId} (hj : zInj ad) (s : zS) (a2 : Int32) {r : Int32} (h : D_X3_firstBetterSet s a2 = some r) : zMet l D ad cA jX3_firstBetterSet [.ref 4, .ref 2, .int a2] s (some (.int r)) s := by
  refine zMet_of jX3_firstBetterSet [some (.ref 4), some (.ref 2), some (.int a2), none] (by decide +kernel) (Nat.le_of_ble_eq_true rfl) rfl hj ?_
  unfold D_X3_firstBetterSet at h
  refine zk_iconst (v := 1) dX3_firstBetterSet_0 (by decide) ?_
  refine zk_istore_n (i := 3) dX3_firstBetterSet_1 rfl (by decide) (zk_eq [_, _, _, _] rfl ?_)
  exact ok_X3_firstBetterSet_L2 hj r _ _ _ _ h
def D_X3_forgetCalm (s : zS) : Option zS :=
  let s2 : zS := zwI s 4 4 (0 : Int32)
  some s2
set_option maxRecDepth 100000 in
theorem ok_X3_forgetCalm {l : Launch} {D : va_G} {ad : Nat → Nat} {cA : Nat → ClassId} (hj : zInj ad) (s : zS)  {r : zS} (h : D_X3_forgetCalm s = some r) : zMet l D ad cA jX3_forgetCalm [.ref 4] s none r := by
  refine zMet_of jX3_forgetCalm [some (.ref 4)] (by decide +kernel) (Nat.le_of_ble_eq_true rfl) rfl hj ?_
  unfold D_X3_forgetCalm at h
  refine zk_aload_n dX3_forgetCalm_0 rfl rfl ?_
  refine zk_iconst (v := 0) dX3_forgetCalm_1 (by decide) ?_
  refine zp_X3_34 rfl (Or.inl rfl) dX3_forgetCalm_2 ?_
  have e9 := Option.some.inj h
  subst e9
  exact zk_vret rfl ⟨rfl, rfl⟩ dX3_forgetCalm_5
def D_X3_isWhole (s : zS) : Option Int32 :=
  (D_X0_constantOf s (s.1 2 0)).bind fun p10 =>
  (D_X0_belowOf s (s.1 2 0)).bind fun p18 =>
  (D_X7_all s).bind fun p26 =>
  zgd (zin p26 16 = true) <|
  if (lg_cmp p10 (p18 * (s.1 3 p26.toNatClampNeg).toInt64)) = 0 then (
    some (1 : Int32)
  ) else (
    some (0 : Int32)
  )
set_option maxRecDepth 100000 in
theorem ok_X3_isWhole {l : Launch} {D : va_G} {ad : Nat → Nat} {cA : Nat → ClassId} (hj : zInj ad) (s : zS)  {r : Int32} (h : D_X3_isWhole s = some r) : zMet l D ad cA jX3_isWhole [.ref 4, .ref 2] s (some (.int r)) s := by
  refine zMet_of jX3_isWhole [some (.ref 4), some (.ref 2), none] (by decide +kernel) (Nat.le_of_ble_eq_true rfl) rfl hj ?_
  unfold D_X3_isWhole at h
  refine zk_aload_n dX3_isWhole_0 rfl rfl ?_
  refine zf_X3_69 rfl dX3_isWhole_1 ?_
  refine zk_istore_n (i := 2) dX3_isWhole_4 rfl (by decide) (zk_eq [_, _, _] rfl ?_)
  refine zk_aload_n dX3_isWhole_5 rfl rfl ?_
  refine zf_X3_19 rfl dX3_isWhole_6 ?_
  refine zk_iload_n dX3_isWhole_9 rfl rfl ?_
  obtain ⟨p10, h10, h⟩ := zbind h
  refine zc_X3_96 [] (As := [.int _]) (ok_X0_constantOf hj _ _ h10) rfl ⟨Nat.le_of_ble_eq_true rfl, Nat.le_of_ble_eq_true rfl⟩ ⟨Nat.le_refl _, Nat.le_refl _⟩ rfl rfl (Nat.le_of_ble_eq_true rfl) dX3_isWhole_10 ?_
  refine zk_aload_n dX3_isWhole_13 rfl rfl ?_
  refine zf_X3_19 rfl dX3_isWhole_14 ?_
  refine zk_iload_n dX3_isWhole_17 rfl rfl ?_
  obtain ⟨p18, h18, h⟩ := zbind h
  refine zc_X3_100 [.long _] (As := [.int _]) (ok_X0_belowOf hj _ _ h18) rfl ⟨Nat.le_of_ble_eq_true rfl, Nat.le_of_ble_eq_true rfl⟩ ⟨Nat.le_refl _, Nat.le_refl _⟩ rfl rfl (Nat.le_of_ble_eq_true rfl) dX3_isWhole_18 ?_
  refine zk_aload_n dX3_isWhole_21 rfl rfl ?_
  refine zf_X3_45 rfl dX3_isWhole_22 ?_
  refine zk_aload_n dX3_isWhole_25 rfl rfl ?_
  obtain ⟨p26, h26, h⟩ := zbind h
  refine zc_X3_56 [.ref _, .long _, .long _] (As := []) (ok_X7_all hj _ h26) rfl ⟨Nat.le_of_ble_eq_true rfl, Nat.le_of_ble_eq_true rfl⟩ ⟨Nat.le_refl _, Nat.le_refl _⟩ rfl rfl (Nat.le_of_ble_eq_true rfl) dX3_isWhole_26 ?_
  obtain ⟨g29, h⟩ := zguard h
  refine zk_iald (zoI_of rfl g29) dX3_isWhole_29 ?_
  refine zk_i2l dX3_isWhole_30 ?_
  refine zk_lmul dX3_isWhole_31 ?_
  refine zk_lcmp dX3_isWhole_32 ?_
  refine zk_if_ne (tgt := 40) dX3_isWhole_33 rfl (fun g33 => ?_) (fun g33 => ?_)
  · replace h := zneg g33 h
    refine zk_iconst (v := 0) dX3_isWhole_40 (by decide) ?_
    have e9 := Option.some.inj h
    subst e9
    exact zk_zret rfl (Or.inl rfl) ⟨rfl, rfl⟩ dX3_isWhole_41
  · replace h := zpos g33 h
    refine zk_iconst (v := 1) dX3_isWhole_36 (by decide) ?_
    refine zk_goto (tgt := 41) dX3_isWhole_37 rfl ?_
    have e9 := Option.some.inj h
    subst e9
    exact zk_zret rfl (Or.inr rfl) ⟨rfl, rfl⟩ dX3_isWhole_41
def D_X3_layLeastPay_B49 (a2 : Int32) (rec49 : Int32 → zS → Option zS) (a3 : Int32) (s : zS) : Option zS :=
    (D_X7_all s).bind fun p51 =>
    if p51 < a3 then (
      (D_X0_enterAll s).bind fun p80 =>
      (D_X0_drive p80 a2 (-1 : Int32)).bind fun p89 =>
      some p89
    ) else (
      zgd (zin a3 16 = true) <|
      (D_X3_addHaving s a2 a3 a3 (s.1 3 a3.toNatClampNeg)).bind fun p67 =>
      rec49 (a3 + 1) p67
    )
def D_X3_layLeastPay_L49 (a2 : Int32) (n : Nat) (a3 : Int32) (s : zS) : Option zS := zfx (fun (rec : Int32 × zS → Option zS) q => D_X3_layLeastPay_B49 a2 (fun v0 v1 => rec (v0, v1)) q.1 q.2) n (a3, s)
set_option maxRecDepth 100000 in
theorem D_X3_layLeastPay_L49_s (a2 : Int32) (n : Nat) (a3 : Int32) (s : zS) : D_X3_layLeastPay_L49 a2 (n + 1) a3 s = D_X3_layLeastPay_B49 a2 (D_X3_layLeastPay_L49 a2 n) a3 s := rfl
set_option maxRecDepth 100000 in
theorem ok_X3_layLeastPay_L49 {l : Launch} {D : va_G} {ad : Nat → Nat} {cA : Nat → ClassId} (hj : zInj ad) (r : zS) (a2 : Int32) : ∀ (n : Nat) (a3 : Int32) (s : zS), D_X3_layLeastPay_L49 a2 n a3 s = some r → zOk l D ad cA (zJm jX3_layLeastPay) (zEnd D ad cA none r) 49 [some (.ref 4), some (.ref 2), some (.int a2), some (.int a3)] [] s := by
  intro n
  induction n with
  | zero =>
    intro a3 s h
    have h0 : (none : Option zS) = some r := h
    cases h0
  | succ n hr49 =>
    intro a3 s h
    have h : D_X3_layLeastPay_B49 a2 (D_X3_layLeastPay_L49 a2 n) a3 s = some r := h
    unfold D_X3_layLeastPay_B49 at h
    refine zk_iload_n dX3_layLeastPay_49 rfl rfl ?_
    refine zk_aload_n dX3_layLeastPay_50 rfl rfl ?_
    obtain ⟨p51, h51, h⟩ := zbind h
    refine zc_X3_56 [.int _] (As := []) (ok_X7_all hj _ h51) rfl ⟨Nat.le_of_ble_eq_true rfl, Nat.le_of_ble_eq_true rfl⟩ ⟨Nat.le_refl _, Nat.le_refl _⟩ rfl rfl (Nat.le_of_ble_eq_true rfl) dX3_layLeastPay_51 ?_
    refine zk_icmp_gt (tgt := 76) dX3_layLeastPay_54 rfl (fun g54 => ?_) (fun g54 => ?_)
    · replace h := zpos g54 h
      refine zk_aload_n dX3_layLeastPay_76 rfl rfl ?_
      refine zf_X3_19 rfl dX3_layLeastPay_77 ?_
      obtain ⟨p80, h80, h⟩ := zbind h
      refine zc_X3_89 [] (As := []) (ok_X0_enterAll hj _ h80) rfl ⟨Nat.le_of_ble_eq_true rfl, Nat.le_of_ble_eq_true rfl⟩ ⟨Nat.le_refl _, Nat.le_refl _⟩ rfl rfl (Nat.le_of_ble_eq_true rfl) dX3_layLeastPay_80 ?_
      refine zk_aload_n dX3_layLeastPay_83 rfl rfl ?_
      refine zf_X3_19 rfl dX3_layLeastPay_84 ?_
      refine zk_iload_n dX3_layLeastPay_87 rfl rfl ?_
      refine zk_iconst (v := -1) dX3_layLeastPay_88 (by decide) ?_
      obtain ⟨p89, h89, h⟩ := zbind h
      refine zc_X3_92 [] (As := [.int _, .int _]) (ok_X0_drive hj _ _ _ h89) rfl ⟨Nat.le_of_ble_eq_true rfl, Nat.le_of_ble_eq_true rfl⟩ ⟨Nat.le_refl _, Nat.le_refl _⟩ rfl rfl (Nat.le_of_ble_eq_true rfl) dX3_layLeastPay_89 ?_
      have e9 := Option.some.inj h
      subst e9
      exact zk_vret rfl ⟨rfl, rfl⟩ dX3_layLeastPay_92
    · replace h := zneg g54 h
      refine zk_aload_n dX3_layLeastPay_57 rfl rfl ?_
      refine zk_iload_n dX3_layLeastPay_58 rfl rfl ?_
      refine zk_iload_n dX3_layLeastPay_59 rfl rfl ?_
      refine zk_iload_n dX3_layLeastPay_60 rfl rfl ?_
      refine zk_aload_n dX3_layLeastPay_61 rfl rfl ?_
      refine zf_X3_45 rfl dX3_layLeastPay_62 ?_
      refine zk_iload_n dX3_layLeastPay_65 rfl rfl ?_
      obtain ⟨g66, h⟩ := zguard h
      refine zk_iald (zoI_of rfl g66) dX3_layLeastPay_66 ?_
      obtain ⟨p67, h67, h⟩ := zbind h
      refine zc_X3_85 [] (As := [.int _, .int _, .int _, .int _]) (ok_X3_addHaving hj _ _ _ _ _ h67) rfl ⟨Nat.le_of_ble_eq_true rfl, Nat.le_of_ble_eq_true rfl⟩ ⟨Nat.le_refl _, Nat.le_refl _⟩ rfl rfl (Nat.le_of_ble_eq_true rfl) dX3_layLeastPay_67 ?_
      refine zk_iinc dX3_layLeastPay_70 rfl (zinc (m := 1) (by decide)) (by decide) (zk_eq [_, _, _, _] rfl ?_)
      refine zk_goto (tgt := 49) dX3_layLeastPay_73 rfl ?_
      exact hr49 _ _ h
def D_X3_layLeastPay_B15 (a2 : Int32) (rec15 : Int32 → zS → Option zS) (a3 : Int32) (s : zS) : Option zS :=
    if a2 ≤ a3 then (
      (D_X7_all s).bind fun p40 =>
      (D_X3_addHaving s a2 (0 : Int32) p40 (0 : Int32)).bind fun p44 =>
      D_X3_layLeastPay_L49 a2 zFU (1 : Int32) p44
    ) else (
      (D_X3_addHaving s a2 (0 : Int32) ((1 : Int32) <<< (a3 &&& 31)) (0 : Int32)).bind fun p27 =>
      rec15 (a3 + 1) p27
    )
def D_X3_layLeastPay_L15 (a2 : Int32) (n : Nat) (a3 : Int32) (s : zS) : Option zS := zfx (fun (rec : Int32 × zS → Option zS) q => D_X3_layLeastPay_B15 a2 (fun v0 v1 => rec (v0, v1)) q.1 q.2) n (a3, s)
set_option maxRecDepth 100000 in
theorem D_X3_layLeastPay_L15_s (a2 : Int32) (n : Nat) (a3 : Int32) (s : zS) : D_X3_layLeastPay_L15 a2 (n + 1) a3 s = D_X3_layLeastPay_B15 a2 (D_X3_layLeastPay_L15 a2 n) a3 s := rfl
set_option maxRecDepth 100000 in
theorem ok_X3_layLeastPay_L15 {l : Launch} {D : va_G} {ad : Nat → Nat} {cA : Nat → ClassId} (hj : zInj ad) (r : zS) (a2 : Int32) : ∀ (n : Nat) (a3 : Int32) (s : zS), D_X3_layLeastPay_L15 a2 n a3 s = some r → zOk l D ad cA (zJm jX3_layLeastPay) (zEnd D ad cA none r) 15 [some (.ref 4), some (.ref 2), some (.int a2), some (.int a3)] [] s := by
  intro n
  induction n with
  | zero =>
    intro a3 s h
    have h0 : (none : Option zS) = some r := h
    cases h0
  | succ n hr15 =>
    intro a3 s h
    have h : D_X3_layLeastPay_B15 a2 (D_X3_layLeastPay_L15 a2 n) a3 s = some r := h
    unfold D_X3_layLeastPay_B15 at h
    refine zk_iload_n dX3_layLeastPay_15 rfl rfl ?_
    refine zk_iload_n dX3_layLeastPay_16 rfl rfl ?_
    refine zk_icmp_ge (tgt := 36) dX3_layLeastPay_17 rfl (fun g17 => ?_) (fun g17 => ?_)
    · replace h := zpos g17 h
      refine zk_aload_n dX3_layLeastPay_36 rfl rfl ?_
      refine zk_iload_n dX3_layLeastPay_37 rfl rfl ?_
      refine zk_iconst (v := 0) dX3_layLeastPay_38 (by decide) ?_
      refine zk_aload_n dX3_layLeastPay_39 rfl rfl ?_
      obtain ⟨p40, h40, h⟩ := zbind h
      refine zc_X3_56 [.int _, .int _, .ref _] (As := []) (ok_X7_all hj _ h40) rfl ⟨Nat.le_of_ble_eq_true rfl, Nat.le_of_ble_eq_true rfl⟩ ⟨Nat.le_refl _, Nat.le_refl _⟩ rfl rfl (Nat.le_of_ble_eq_true rfl) dX3_layLeastPay_40 ?_
      refine zk_iconst (v := 0) dX3_layLeastPay_43 (by decide) ?_
      obtain ⟨p44, h44, h⟩ := zbind h
      refine zc_X3_85 [] (As := [.int _, .int _, .int _, .int _]) (ok_X3_addHaving hj _ _ _ _ _ h44) rfl ⟨Nat.le_of_ble_eq_true rfl, Nat.le_of_ble_eq_true rfl⟩ ⟨Nat.le_refl _, Nat.le_refl _⟩ rfl rfl (Nat.le_of_ble_eq_true rfl) dX3_layLeastPay_44 ?_
      refine zk_iconst (v := 1) dX3_layLeastPay_47 (by decide) ?_
      refine zk_istore_n (i := 3) dX3_layLeastPay_48 rfl (by decide) (zk_eq [_, _, _, _] rfl ?_)
      exact ok_X3_layLeastPay_L49 hj r _ _ _ _ h
    · replace h := zneg g17 h
      refine zk_aload_n dX3_layLeastPay_20 rfl rfl ?_
      refine zk_iload_n dX3_layLeastPay_21 rfl rfl ?_
      refine zk_iconst (v := 0) dX3_layLeastPay_22 (by decide) ?_
      refine zk_iconst (v := 1) dX3_layLeastPay_23 (by decide) ?_
      refine zk_iload_n dX3_layLeastPay_24 rfl rfl ?_
      refine zk_ishl dX3_layLeastPay_25 ?_
      refine zk_iconst (v := 0) dX3_layLeastPay_26 (by decide) ?_
      obtain ⟨p27, h27, h⟩ := zbind h
      refine zc_X3_85 [] (As := [.int _, .int _, .int _, .int _]) (ok_X3_addHaving hj _ _ _ _ _ h27) rfl ⟨Nat.le_of_ble_eq_true rfl, Nat.le_of_ble_eq_true rfl⟩ ⟨Nat.le_refl _, Nat.le_refl _⟩ rfl rfl (Nat.le_of_ble_eq_true rfl) dX3_layLeastPay_27 ?_
      refine zk_iinc dX3_layLeastPay_30 rfl (zinc (m := 1) (by decide)) (by decide) (zk_eq [_, _, _, _] rfl ?_)
      refine zk_goto (tgt := 15) dX3_layLeastPay_33 rfl ?_
      exact hr15 _ _ h
def D_X3_layLeastPay (s : zS) : Option zS :=
  (D_X0_restart s (s.1 2 0)).bind fun p10 =>
  D_X3_layLeastPay_L15 (s.1 2 0) zFU (0 : Int32) p10
set_option maxRecDepth 100000 in
theorem ok_X3_layLeastPay {l : Launch} {D : va_G} {ad : Nat → Nat} {cA : Nat → ClassId} (hj : zInj ad) (s : zS)  {r : zS} (h : D_X3_layLeastPay s = some r) : zMet l D ad cA jX3_layLeastPay [.ref 4, .ref 2] s none r := by
  refine zMet_of jX3_layLeastPay [some (.ref 4), some (.ref 2), none, none] (by decide +kernel) (Nat.le_of_ble_eq_true rfl) rfl hj ?_
  unfold D_X3_layLeastPay at h
  refine zk_aload_n dX3_layLeastPay_0 rfl rfl ?_
  refine zf_X3_69 rfl dX3_layLeastPay_1 ?_
  refine zk_istore_n (i := 2) dX3_layLeastPay_4 rfl (by decide) (zk_eq [_, _, _, _] rfl ?_)
  refine zk_aload_n dX3_layLeastPay_5 rfl rfl ?_
  refine zf_X3_19 rfl dX3_layLeastPay_6 ?_
  refine zk_iload_n dX3_layLeastPay_9 rfl rfl ?_
  obtain ⟨p10, h10, h⟩ := zbind h
  refine zc_X3_81 [] (As := [.int _]) (ok_X0_restart hj _ _ h10) rfl ⟨Nat.le_of_ble_eq_true rfl, Nat.le_of_ble_eq_true rfl⟩ ⟨Nat.le_refl _, Nat.le_refl _⟩ rfl rfl (Nat.le_of_ble_eq_true rfl) dX3_layLeastPay_10 ?_
  refine zk_iconst (v := 0) dX3_layLeastPay_13 (by decide) ?_
  refine zk_istore_n (i := 3) dX3_layLeastPay_14 rfl (by decide) (zk_eq [_, _, _, _] rfl ?_)
  exact ok_X3_layLeastPay_L15 hj r _ _ _ _ h
def D_X3_mixInto_B15 (rec6 : Int64 → Int32 → Option Int64) (s : zS) (a3 : Int32) (a6 : Int32) (rec15 : Int64 → Int32 → Option Int64) (a4 : Int64) (a7 : Int32) : Option Int64 :=
    if a3 ≤ a7 then (
      rec6 a4 (a6 + 1)
    ) else (
      zgd (zin a6 2 = true) <|
      zgd (zoI (zT 5 a6) a7 = true) <|
      (D_X8_mix a4 ((s.1 (zT 5 a6) a7.toNatClampNeg).toInt64)).bind fun p34 =>
      rec15 p34 (a7 + 1)
    )
def D_X3_mixInto_L15 (rec6 : Int64 → Int32 → Option Int64) (s : zS) (a3 : Int32) (a6 : Int32) (n : Nat) (a4 : Int64) (a7 : Int32) : Option Int64 := zfx (fun (rec : Int64 × Int32 → Option Int64) q => D_X3_mixInto_B15 rec6 s a3 a6 (fun v0 v1 => rec (v0, v1)) q.1 q.2) n (a4, a7)
set_option maxRecDepth 100000 in
theorem D_X3_mixInto_L15_s (rec6 : Int64 → Int32 → Option Int64) (s : zS) (a3 : Int32) (a6 : Int32) (n : Nat) (a4 : Int64) (a7 : Int32) : D_X3_mixInto_L15 rec6 s a3 a6 (n + 1) a4 a7 = D_X3_mixInto_B15 rec6 s a3 a6 (D_X3_mixInto_L15 rec6 s a3 a6 n) a4 a7 := rfl
set_option maxRecDepth 100000 in
theorem ok_X3_mixInto_L15 {l : Launch} {D : va_G} {ad : Nat → Nat} {cA : Nat → ClassId} (hj : zInj ad) (r : Int64) (s : zS) (a3 : Int32) (a6 : Int32) (rec6 : Int64 → Int32 → Option Int64) (hr6 : ∀ (b4 : Int64) (b6 : Int32), rec6 b4 b6 = some r → zOk l D ad cA (zJm jX3_mixInto) (zEnd D ad cA (some (.long r)) s) 6 [some (.ref 4), none, none, some (.int a3), some (.long b4), none, some (.int b6), none] [] s) : ∀ (n : Nat) (a4 : Int64) (a7 : Int32), D_X3_mixInto_L15 rec6 s a3 a6 n a4 a7 = some r → zOk l D ad cA (zJm jX3_mixInto) (zEnd D ad cA (some (.long r)) s) 15 [some (.ref 4), none, none, some (.int a3), some (.long a4), none, some (.int a6), some (.int a7)] [] s := by
  intro n
  induction n with
  | zero =>
    intro a4 a7 h
    have h0 : (none : Option Int64) = some r := h
    cases h0
  | succ n hr15 =>
    intro a4 a7 h
    have h : D_X3_mixInto_B15 rec6 s a3 a6 (D_X3_mixInto_L15 rec6 s a3 a6 n) a4 a7 = some r := h
    unfold D_X3_mixInto_B15 at h
    refine zk_iload dX3_mixInto_15 rfl ?_
    refine zk_iload_n dX3_mixInto_17 rfl rfl ?_
    refine zk_icmp_ge (tgt := 45) dX3_mixInto_18 rfl (fun g18 => ?_) (fun g18 => ?_)
    · replace h := zpos g18 h
      refine zk_iinc dX3_mixInto_45 rfl (zinc (m := 1) (by decide)) (by decide) (zk_eq [_, _, _, _, _, _, _, _] rfl ?_)
      refine zk_goto (tgt := 6) dX3_mixInto_48 rfl ?_
      refine zk_mask [true, false, false, true, true, false, true, false] ?_
      exact hr6 _ _ h
    · replace h := zneg g18 h
      refine zk_lload dX3_mixInto_21 rfl ?_
      refine zk_aload_n dX3_mixInto_23 rfl rfl ?_
      refine zf_X3_11 rfl dX3_mixInto_24 ?_
      refine zk_iload dX3_mixInto_27 rfl ?_
      obtain ⟨g29, h⟩ := zguard h
      refine zk_aald (zoR_of ⟨rfl, rfl, by decide, by decide⟩ g29) dX3_mixInto_29 ?_
      refine zk_iload dX3_mixInto_30 rfl ?_
      obtain ⟨g32, h⟩ := zguard h
      refine zk_iald g32 dX3_mixInto_32 ?_
      refine zk_i2l dX3_mixInto_33 ?_
      obtain ⟨p34, h34, h⟩ := zbind h
      refine zc_X3_156 [] (As := [.long _, .long _]) (ok_X8_mix hj _ _ _ h34) rfl ⟨Nat.le_of_ble_eq_true rfl, Nat.le_of_ble_eq_true rfl⟩ ⟨Nat.le_refl _, Nat.le_refl _⟩ rfl rfl (Nat.le_of_ble_eq_true rfl) dX3_mixInto_34 ?_
      refine zk_lstore (i := 4) dX3_mixInto_37 (by decide) (zk_eq [_, _, _, _, _, _, _, _] rfl ?_)
      refine zk_iinc dX3_mixInto_39 rfl (zinc (m := 1) (by decide)) (by decide) (zk_eq [_, _, _, _, _, _, _, _] rfl ?_)
      refine zk_goto (tgt := 15) dX3_mixInto_42 rfl ?_
      exact hr15 _ _ h
def D_X3_mixInto_B6 (s : zS) (a3 : Int32) (rec6 : Int64 → Int32 → Option Int64) (a4 : Int64) (a6 : Int32) : Option Int64 :=
    if (2 : Int32) ≤ a6 then (
      some a4
    ) else (
      D_X3_mixInto_L15 rec6 s a3 a6 zFU a4 (0 : Int32)
    )
def D_X3_mixInto_L6 (s : zS) (a3 : Int32) (n : Nat) (a4 : Int64) (a6 : Int32) : Option Int64 := zfx (fun (rec : Int64 × Int32 → Option Int64) q => D_X3_mixInto_B6 s a3 (fun v0 v1 => rec (v0, v1)) q.1 q.2) n (a4, a6)
set_option maxRecDepth 100000 in
theorem D_X3_mixInto_L6_s (s : zS) (a3 : Int32) (n : Nat) (a4 : Int64) (a6 : Int32) : D_X3_mixInto_L6 s a3 (n + 1) a4 a6 = D_X3_mixInto_B6 s a3 (D_X3_mixInto_L6 s a3 n) a4 a6 := rfl
set_option maxRecDepth 100000 in
theorem ok_X3_mixInto_L6 {l : Launch} {D : va_G} {ad : Nat → Nat} {cA : Nat → ClassId} (hj : zInj ad) (r : Int64) (s : zS) (a3 : Int32) : ∀ (n : Nat) (a4 : Int64) (a6 : Int32), D_X3_mixInto_L6 s a3 n a4 a6 = some r → zOk l D ad cA (zJm jX3_mixInto) (zEnd D ad cA (some (.long r)) s) 6 [some (.ref 4), none, none, some (.int a3), some (.long a4), none, some (.int a6), none] [] s := by
  intro n
  induction n with
  | zero =>
    intro a4 a6 h
    have h0 : (none : Option Int64) = some r := h
    cases h0
  | succ n hr6 =>
    intro a4 a6 h
    have h : D_X3_mixInto_B6 s a3 (D_X3_mixInto_L6 s a3 n) a4 a6 = some r := h
    unfold D_X3_mixInto_B6 at h
    refine zk_iload dX3_mixInto_6 rfl ?_
    refine zk_iconst (v := 2) dX3_mixInto_8 (by decide) ?_
    refine zk_icmp_ge (tgt := 51) dX3_mixInto_9 rfl (fun g9 => ?_) (fun g9 => ?_)
    · replace h := zpos g9 h
      refine zk_lload dX3_mixInto_51 rfl ?_
      have e9 := Option.some.inj h
      subst e9
      exact zk_lret rfl ⟨rfl, rfl⟩ dX3_mixInto_53
    · replace h := zneg g9 h
      refine zk_iconst (v := 0) dX3_mixInto_12 (by decide) ?_
      refine zk_istore (i := 7) dX3_mixInto_13 (by decide) (zk_eq [_, _, _, _, _, _, _, _] rfl ?_)
      exact ok_X3_mixInto_L15 hj r _ _ _ _ hr6 _ _ _ h
def D_X3_mixInto (s : zS) (a1 : Int64) (a3 : Int32) : Option Int64 :=
  D_X3_mixInto_L6 s a3 zFU a1 (0 : Int32)
set_option maxRecDepth 100000 in
theorem ok_X3_mixInto {l : Launch} {D : va_G} {ad : Nat → Nat} {cA : Nat → ClassId} (hj : zInj ad) (s : zS) (a1 : Int64) (a3 : Int32) {r : Int64} (h : D_X3_mixInto s a1 a3 = some r) : zMet l D ad cA jX3_mixInto [.ref 4, .long a1, .int a3] s (some (.long r)) s := by
  refine zMet_of jX3_mixInto [some (.ref 4), some (.long a1), none, some (.int a3), none, none, none, none] (by decide +kernel) (Nat.le_of_ble_eq_true rfl) rfl hj ?_
  unfold D_X3_mixInto at h
  refine zk_lload_n dX3_mixInto_0 rfl rfl ?_
  refine zk_lstore (i := 4) dX3_mixInto_1 (by decide) (zk_eq [_, _, _, _, _, _, _, _] rfl ?_)
  refine zk_iconst (v := 0) dX3_mixInto_3 (by decide) ?_
  refine zk_istore (i := 6) dX3_mixInto_4 (by decide) (zk_eq [_, _, _, _, _, _, _, _] rfl ?_)
  refine zk_mask [true, false, false, true, true, false, true, false] ?_
  exact ok_X3_mixInto_L6 hj r _ _ _ _ _ h
def D_X3_replaceGiven (s : zS) (a1 : Int32) (a2 : Int32) (a3 : Int32) : Option (Int32 × zS) :=
  zgd (zin a1 2 = true) <|
  zgd (zoI (zT 5 a1) a2 = true) <|
  zgd (zin a1 2 = true) <|
  zgd (zoI (zT 5 a1) a2 = true) <|
  let s18 : zS := zwI s (zT 5 a1) a2.toNatClampNeg a3
  some ((s.1 (zT 5 a1) a2.toNatClampNeg), s18)
set_option maxRecDepth 100000 in
theorem ok_X3_replaceGiven {l : Launch} {D : va_G} {ad : Nat → Nat} {cA : Nat → ClassId} (hj : zInj ad) (s : zS) (a1 : Int32) (a2 : Int32) (a3 : Int32) {r : (Int32 × zS)} (h : D_X3_replaceGiven s a1 a2 a3 = some r) : zMet l D ad cA jX3_replaceGiven [.ref 4, .int a1, .int a2, .int a3] s (some (.int r.1)) r.2 := by
  refine zMet_of jX3_replaceGiven [some (.ref 4), some (.int a1), some (.int a2), some (.int a3), none] (by decide +kernel) (Nat.le_of_ble_eq_true rfl) rfl hj ?_
  unfold D_X3_replaceGiven at h
  refine zk_aload_n dX3_replaceGiven_0 rfl rfl ?_
  refine zf_X3_11 rfl dX3_replaceGiven_1 ?_
  refine zk_iload_n dX3_replaceGiven_4 rfl rfl ?_
  obtain ⟨g5, h⟩ := zguard h
  refine zk_aald (zoR_of ⟨rfl, rfl, by decide, by decide⟩ g5) dX3_replaceGiven_5 ?_
  refine zk_iload_n dX3_replaceGiven_6 rfl rfl ?_
  obtain ⟨g7, h⟩ := zguard h
  refine zk_iald g7 dX3_replaceGiven_7 ?_
  refine zk_istore (i := 4) dX3_replaceGiven_8 (by decide) (zk_eq [_, _, _, _, _] rfl ?_)
  refine zk_aload_n dX3_replaceGiven_10 rfl rfl ?_
  refine zf_X3_11 rfl dX3_replaceGiven_11 ?_
  refine zk_iload_n dX3_replaceGiven_14 rfl rfl ?_
  obtain ⟨g15, h⟩ := zguard h
  refine zk_aald (zoR_of ⟨rfl, rfl, by decide, by decide⟩ g15) dX3_replaceGiven_15 ?_
  refine zk_iload_n dX3_replaceGiven_16 rfl rfl ?_
  refine zk_iload_n dX3_replaceGiven_17 rfl rfl ?_
  obtain ⟨g18, h⟩ := zguard h
  refine zk_iast g18 dX3_replaceGiven_18 ?_
  refine zk_iload dX3_replaceGiven_19 rfl ?_
  have e9 := Option.some.inj h
  subst e9
  exact zk_iret rfl ⟨rfl, rfl⟩ dX3_replaceGiven_21
def D_X3_restart_B2  (rec2 : Int32 → zS → Option zS) (a1 : Int32) (s : zS) : Option zS :=
    if (4 : Int32) ≤ a1 then (
      (D_X3_forgetCalm s).bind fun p32 =>
      some p32
    ) else (
      zgd (zin (0 : Int32) 2 = true) <|
      zgd (zoI (zT 5 (0 : Int32)) a1 = true) <|
      let s15 : zS := zwI s (zT 5 (0 : Int32)) a1.toNatClampNeg (0 : Int32)
      zgd (zin (1 : Int32) 2 = true) <|
      zgd (zoI (zT 5 (1 : Int32)) a1 = true) <|
      let s24 : zS := zwI s15 (zT 5 (1 : Int32)) a1.toNatClampNeg (0 : Int32)
      rec2 (a1 + 1) s24
    )
def D_X3_restart_L2 (n : Nat) (a1 : Int32) (s : zS) : Option zS := zfx (fun (rec : Int32 × zS → Option zS) q => D_X3_restart_B2 (fun v0 v1 => rec (v0, v1)) q.1 q.2) n (a1, s)
set_option maxRecDepth 100000 in
theorem D_X3_restart_L2_s (n : Nat) (a1 : Int32) (s : zS) : D_X3_restart_L2 (n + 1) a1 s = D_X3_restart_B2 (D_X3_restart_L2 n) a1 s := rfl
set_option maxRecDepth 100000 in
theorem ok_X3_restart_L2 {l : Launch} {D : va_G} {ad : Nat → Nat} {cA : Nat → ClassId} (hj : zInj ad) (r : zS)  : ∀ (n : Nat) (a1 : Int32) (s : zS), D_X3_restart_L2 n a1 s = some r → zOk l D ad cA (zJm jX3_restart) (zEnd D ad cA none r) 2 [some (.ref 4), some (.int a1)] [] s := by
  intro n
  induction n with
  | zero =>
    intro a1 s h
    have h0 : (none : Option zS) = some r := h
    cases h0
  | succ n hr2 =>
    intro a1 s h
    have h : D_X3_restart_B2 (D_X3_restart_L2 n) a1 s = some r := h
    unfold D_X3_restart_B2 at h
    refine zk_iload_n dX3_restart_2 rfl rfl ?_
    refine zk_iconst (v := 4) dX3_restart_3 (by decide) ?_
    refine zk_icmp_ge (tgt := 31) dX3_restart_4 rfl (fun g4 => ?_) (fun g4 => ?_)
    · replace h := zpos g4 h
      refine zk_aload_n dX3_restart_31 rfl rfl ?_
      obtain ⟨p32, h32, h⟩ := zbind h
      refine zc_X3_38 [] (As := []) (ok_X3_forgetCalm hj _ h32) rfl ⟨Nat.le_of_ble_eq_true rfl, Nat.le_of_ble_eq_true rfl⟩ ⟨Nat.le_refl _, Nat.le_refl _⟩ rfl rfl (Nat.le_of_ble_eq_true rfl) dX3_restart_32 ?_
      have e9 := Option.some.inj h
      subst e9
      exact zk_vret rfl ⟨rfl, rfl⟩ dX3_restart_35
    · replace h := zneg g4 h
      refine zk_aload_n dX3_restart_7 rfl rfl ?_
      refine zf_X3_11 rfl dX3_restart_8 ?_
      refine zk_iconst (v := 0) dX3_restart_11 (by decide) ?_
      obtain ⟨g12, h⟩ := zguard h
      refine zk_aald (zoR_of ⟨rfl, rfl, by decide, by decide⟩ g12) dX3_restart_12 ?_
      refine zk_iload_n dX3_restart_13 rfl rfl ?_
      refine zk_iconst (v := 0) dX3_restart_14 (by decide) ?_
      obtain ⟨g15, h⟩ := zguard h
      refine zk_iast g15 dX3_restart_15 ?_
      refine zk_aload_n dX3_restart_16 rfl rfl ?_
      refine zf_X3_11 rfl dX3_restart_17 ?_
      refine zk_iconst (v := 1) dX3_restart_20 (by decide) ?_
      obtain ⟨g21, h⟩ := zguard h
      refine zk_aald (zoR_of ⟨rfl, rfl, by decide, by decide⟩ g21) dX3_restart_21 ?_
      refine zk_iload_n dX3_restart_22 rfl rfl ?_
      refine zk_iconst (v := 0) dX3_restart_23 (by decide) ?_
      obtain ⟨g24, h⟩ := zguard h
      refine zk_iast g24 dX3_restart_24 ?_
      refine zk_iinc dX3_restart_25 rfl (zinc (m := 1) (by decide)) (by decide) (zk_eq [_, _] rfl ?_)
      refine zk_goto (tgt := 2) dX3_restart_28 rfl ?_
      exact hr2 _ _ h
def D_X3_restart (s : zS) : Option zS :=
  D_X3_restart_L2 zFU (0 : Int32) s
set_option maxRecDepth 100000 in
theorem ok_X3_restart {l : Launch} {D : va_G} {ad : Nat → Nat} {cA : Nat → ClassId} (hj : zInj ad) (s : zS)  {r : zS} (h : D_X3_restart s = some r) : zMet l D ad cA jX3_restart [.ref 4] s none r := by
  refine zMet_of jX3_restart [some (.ref 4), none] (by decide +kernel) (Nat.le_of_ble_eq_true rfl) rfl hj ?_
  unfold D_X3_restart at h
  refine zk_iconst (v := 0) dX3_restart_0 (by decide) ?_
  refine zk_istore_n (i := 1) dX3_restart_1 rfl (by decide) (zk_eq [_, _] rfl ?_)
  exact ok_X3_restart_L2 hj r  _ _ _ h
