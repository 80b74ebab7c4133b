def D_X3_surplusOver_B7 (s : zS) (a2 : Int32) (a3 : Int32) (a4 : Int32) (rec7 : Int32 → Int32 → Option Int32) (a5 : Int32) (a6 : Int32) : Option Int32 :=
    (D_X7_all s).bind fun p10 =>
    if p10 < a6 then (
      some a5
    ) else (
      (D_X8_has a6 a3).bind fun p19 =>
      if p19 = 0 then (
        rec7 a5 (a6 + 1)
      ) else (
        (D_X8_has a6 a4).bind fun p29 =>
        if p29 = 0 then (
          (D_X3_complaintOf s a2 a6).bind fun p42 =>
          rec7 (zmax a5 p42) (a6 + 1)
        ) else (
          rec7 a5 (a6 + 1)
        )
      )
    )
def D_X3_surplusOver_L7 (s : zS) (a2 : Int32) (a3 : Int32) (a4 : Int32) (n : Nat) (a5 : Int32) (a6 : Int32) : Option Int32 := zfx (fun (rec : Int32 × Int32 → Option Int32) q => D_X3_surplusOver_B7 s a2 a3 a4 (fun v0 v1 => rec (v0, v1)) q.1 q.2) n (a5, a6)
set_option maxRecDepth 100000 in
theorem D_X3_surplusOver_L7_s (s : zS) (a2 : Int32) (a3 : Int32) (a4 : Int32) (n : Nat) (a5 : Int32) (a6 : Int32) : D_X3_surplusOver_L7 s a2 a3 a4 (n + 1) a5 a6 = D_X3_surplusOver_B7 s a2 a3 a4 (D_X3_surplusOver_L7 s a2 a3 a4 n) a5 a6 := rfl
set_option maxRecDepth 100000 in
theorem ok_X3_surplusOver_L7 {l : Launch} {D : va_G} {ad : Nat → Nat} {cA : Nat → ClassId} (hj : zInj ad) (r : Int32) (s : zS) (a2 : Int32) (a3 : Int32) (a4 : Int32) : ∀ (n : Nat) (a5 : Int32) (a6 : Int32), D_X3_surplusOver_L7 s a2 a3 a4 n a5 a6 = some r → zOk l D ad cA (zJm jX3_surplusOver) (zEnd D ad cA (some (.int r)) s) 7 [some (.ref 4), some (.ref 2), some (.int a2), some (.int a3), some (.int a4), some (.int a5), some (.int a6)] [] s := by
  intro n
  induction n with
  | zero =>
    intro a5 a6 h
    have h0 : (none : Option Int32) = some r := h
    cases h0
  | succ n hr7 =>
    intro a5 a6 h
    have h : D_X3_surplusOver_B7 s a2 a3 a4 (D_X3_surplusOver_L7 s a2 a3 a4 n) a5 a6 = some r := h
    unfold D_X3_surplusOver_B7 at h
    refine zk_iload dX3_surplusOver_7 rfl ?_
    refine zk_aload_n dX3_surplusOver_9 rfl rfl ?_
    obtain ⟨p10, h10, h⟩ := zbind h
    refine zc_X3_56 [.int _] (As := []) (ok_X7_all hj _ h10) rfl ⟨Nat.le_of_ble_eq_true rfl, Nat.le_of_ble_eq_true rfl⟩ ⟨Nat.le_refl _, Nat.le_refl _⟩ rfl rfl (Nat.le_of_ble_eq_true rfl) dX3_surplusOver_10 ?_
    refine zk_icmp_gt (tgt := 56) dX3_surplusOver_13 rfl (fun g13 => ?_) (fun g13 => ?_)
    · replace h := zpos g13 h
      refine zk_iload dX3_surplusOver_56 rfl ?_
      have e9 := Option.some.inj h
      subst e9
      exact zk_iret rfl ⟨rfl, rfl⟩ dX3_surplusOver_58
    · replace h := zneg g13 h
      refine zk_iload dX3_surplusOver_16 rfl ?_
      refine zk_iload_n dX3_surplusOver_18 rfl rfl ?_
      obtain ⟨p19, h19, h⟩ := zbind h
      refine zc_X3_41 [] (As := [.int _, .int _]) (ok_X8_has hj _ _ _ h19) rfl ⟨Nat.le_of_ble_eq_true rfl, Nat.le_of_ble_eq_true rfl⟩ ⟨Nat.le_refl _, Nat.le_refl _⟩ rfl rfl (Nat.le_of_ble_eq_true rfl) dX3_surplusOver_19 ?_
      refine zk_if_eq (tgt := 50) dX3_surplusOver_22 rfl (fun g22 => ?_) (fun g22 => ?_)
      · replace h := zpos g22 h
        refine zk_iinc dX3_surplusOver_50 rfl (zinc (m := 1) (by decide)) (by decide) (zk_eq [_, _, _, _, _, _, _] rfl ?_)
        refine zk_goto (tgt := 7) dX3_surplusOver_53 rfl ?_
        exact hr7 _ _ h
      · replace h := zneg g22 h
        refine zk_iload dX3_surplusOver_25 rfl ?_
        refine zk_iload dX3_surplusOver_27 rfl ?_
        obtain ⟨p29, h29, h⟩ := zbind h
        refine zc_X3_41 [] (As := [.int _, .int _]) (ok_X8_has hj _ _ _ h29) rfl ⟨Nat.le_of_ble_eq_true rfl, Nat.le_of_ble_eq_true rfl⟩ ⟨Nat.le_refl _, Nat.le_refl _⟩ rfl rfl (Nat.le_of_ble_eq_true rfl) dX3_surplusOver_29 ?_
        refine zk_if_ne (tgt := 50) dX3_surplusOver_32 rfl (fun g32 => ?_) (fun g32 => ?_)
        · replace h := zneg g32 h
          refine zk_iinc dX3_surplusOver_50 rfl (zinc (m := 1) (by decide)) (by decide) (zk_eq [_, _, _, _, _, _, _] rfl ?_)
          refine zk_goto (tgt := 7) dX3_surplusOver_53 rfl ?_
          exact hr7 _ _ h
        · replace h := zpos g32 h
          refine zk_iload dX3_surplusOver_35 rfl ?_
          refine zk_aload_n dX3_surplusOver_37 rfl rfl ?_
          refine zk_aload_n dX3_surplusOver_38 rfl rfl ?_
          refine zk_iload_n dX3_surplusOver_39 rfl rfl ?_
          refine zk_iload dX3_surplusOver_40 rfl ?_
          obtain ⟨p42, h42, h⟩ := zbind h
          refine zc_X3_60 [.int _] (As := [.ref _, .int _, .int _]) (ok_X3_complaintOf hj _ _ _ h42) rfl ⟨Nat.le_of_ble_eq_true rfl, Nat.le_of_ble_eq_true rfl⟩ ⟨Nat.le_refl _, Nat.le_refl _⟩ rfl rfl (Nat.le_of_ble_eq_true rfl) dX3_surplusOver_42 ?_
          refine zk_mmax zmw_X3_64 (Nat.le_of_ble_eq_true rfl) (Nat.le_of_ble_eq_true rfl) ⟨Nat.le_refl _, Nat.le_refl _⟩ dX3_surplusOver_45 ?_
          refine zk_istore (i := 5) dX3_surplusOver_48 (by decide) (zk_eq [_, _, _, _, _, _, _] rfl ?_)
          refine zk_iinc dX3_surplusOver_50 rfl (zinc (m := 1) (by decide)) (by decide) (zk_eq [_, _, _, _, _, _, _] rfl ?_)
          refine zk_goto (tgt := 7) dX3_surplusOver_53 rfl ?_
          exact hr7 _ _ h
def D_X3_surplusOver (s : zS) (a2 : Int32) (a3 : Int32) (a4 : Int32) : Option Int32 :=
  D_X3_surplusOver_L7 s a2 a3 a4 zFU (-1000000 : Int32) (1 : Int32)
set_option maxRecDepth 100000 in
theorem ok_X3_surplusOver {l : Launch} {D : va_G} {ad : Nat → Nat} {cA : Nat → ClassId} (hj : zInj ad) (s : zS) (a2 : Int32) (a3 : Int32) (a4 : Int32) {r : Int32} (h : D_X3_surplusOver s a2 a3 a4 = some r) : zMet l D ad cA jX3_surplusOver [.ref 4, .ref 2, .int a2, .int a3, .int a4] s (some (.int r)) s := by
  refine zMet_of jX3_surplusOver [some (.ref 4), some (.ref 2), some (.int a2), some (.int a3), some (.int a4), none, none] (by decide +kernel) (Nat.le_of_ble_eq_true rfl) rfl hj ?_
  unfold D_X3_surplusOver at h
  refine zk_ldc dX3_surplusOver_0 zw_X3_55 ?_
  refine zk_istore (i := 5) dX3_surplusOver_2 (by decide) (zk_eq [_, _, _, _, _, _, _] rfl ?_)
  refine zk_iconst (v := 1) dX3_surplusOver_4 (by decide) ?_
  refine zk_istore (i := 6) dX3_surplusOver_5 (by decide) (zk_eq [_, _, _, _, _, _, _] rfl ?_)
  exact ok_X3_surplusOver_L7 hj r _ _ _ _ _ _ _ h
def D_X3_standsEven_B30 (rec17 : Int32 → Option Int32) (s : zS) (a2 : Int32) (a3 : Int32) (rec30 : Int32 → Option Int32) (a4 : Int32) : Option Int32 :=
    if (s.1 2 0) ≤ a4 then (
      rec17 (a3 + 1)
    ) else (
      (D_X3_surplusOver s a2 a3 a4).bind fun p45 =>
      (D_X3_surplusOver s a2 a4 a3).bind fun p54 =>
      if p45 = p54 then (
        rec30 (a4 + 1)
      ) else (
        some (0 : Int32)
      )
    )
def D_X3_standsEven_L30 (rec17 : Int32 → Option Int32) (s : zS) (a2 : Int32) (a3 : Int32) (n : Nat) (a4 : Int32) : Option Int32 := zfx (fun (rec : Int32 → Option Int32) q => D_X3_standsEven_B30 rec17 s a2 a3 (fun v0 => rec (v0)) q) n (a4)
set_option maxRecDepth 100000 in
theorem D_X3_standsEven_L30_s (rec17 : Int32 → Option Int32) (s : zS) (a2 : Int32) (a3 : Int32) (n : Nat) (a4 : Int32) : D_X3_standsEven_L30 rec17 s a2 a3 (n + 1) a4 = D_X3_standsEven_B30 rec17 s a2 a3 (D_X3_standsEven_L30 rec17 s a2 a3 n) a4 := rfl
set_option maxRecDepth 100000 in
theorem ok_X3_standsEven_L30 {l : Launch} {D : va_G} {ad : Nat → Nat} {cA : Nat → ClassId} (hj : zInj ad) (r : Int32) (s : zS) (a2 : Int32) (a3 : Int32) (rec17 : Int32 → Option Int32) (hr17 : ∀ (b3 : Int32), rec17 b3 = some r → zOk l D ad cA (zJm jX3_standsEven) (zEnd D ad cA (some (.int r)) s) 17 [some (.ref 4), some (.ref 2), some (.int a2), some (.int b3), none] [] s) : ∀ (n : Nat) (a4 : Int32), D_X3_standsEven_L30 rec17 s a2 a3 n a4 = some r → zOk l D ad cA (zJm jX3_standsEven) (zEnd D ad cA (some (.int r)) s) 30 [some (.ref 4), some (.ref 2), some (.int a2), some (.int a3), some (.int a4)] [] s := by
  intro n
  induction n with
  | zero =>
    intro a4 h
    have h0 : (none : Option Int32) = some r := h
    cases h0
  | succ n hr30 =>
    intro a4 h
    have h : D_X3_standsEven_B30 rec17 s a2 a3 (D_X3_standsEven_L30 rec17 s a2 a3 n) a4 = some r := h
    unfold D_X3_standsEven_B30 at h
    refine zk_iload dX3_standsEven_30 rfl ?_
    refine zk_aload_n dX3_standsEven_32 rfl rfl ?_
    refine zf_X3_69 rfl dX3_standsEven_33 ?_
    refine zk_icmp_ge (tgt := 68) dX3_standsEven_36 rfl (fun g36 => ?_) (fun g36 => ?_)
    · replace h := zpos g36 h
      refine zk_iinc dX3_standsEven_68 rfl (zinc (m := 1) (by decide)) (by decide) (zk_eq [_, _, _, _, _] rfl ?_)
      refine zk_goto (tgt := 17) dX3_standsEven_71 rfl ?_
      refine zk_mask [true, true, true, true, false] ?_
      exact hr17 _ h
    · replace h := zneg g36 h
      refine zk_aload_n dX3_standsEven_39 rfl rfl ?_
      refine zk_aload_n dX3_standsEven_40 rfl rfl ?_
      refine zk_iload_n dX3_standsEven_41 rfl rfl ?_
      refine zk_iload_n dX3_standsEven_42 rfl rfl ?_
      refine zk_iload dX3_standsEven_43 rfl ?_
      obtain ⟨p45, h45, h⟩ := zbind h
      refine zc_X3_73 [] (As := [.ref _, .int _, .int _, .int _]) (ok_X3_surplusOver hj _ _ _ _ h45) rfl ⟨Nat.le_of_ble_eq_true rfl, Nat.le_of_ble_eq_true rfl⟩ ⟨Nat.le_refl _, Nat.le_refl _⟩ rfl rfl (Nat.le_of_ble_eq_true rfl) dX3_standsEven_45 ?_
      refine zk_aload_n dX3_standsEven_48 rfl rfl ?_
      refine zk_aload_n dX3_standsEven_49 rfl rfl ?_
      refine zk_iload_n dX3_standsEven_50 rfl rfl ?_
      refine zk_iload dX3_standsEven_51 rfl ?_
      refine zk_iload_n dX3_standsEven_53 rfl rfl ?_
      obtain ⟨p54, h54, h⟩ := zbind h
      refine zc_X3_73 [.int _] (As := [.ref _, .int _, .int _, .int _]) (ok_X3_surplusOver hj _ _ _ _ h54) rfl ⟨Nat.le_of_ble_eq_true rfl, Nat.le_of_ble_eq_true rfl⟩ ⟨Nat.le_refl _, Nat.le_refl _⟩ rfl rfl (Nat.le_of_ble_eq_true rfl) dX3_standsEven_54 ?_
      refine zk_icmp_eq (tgt := 62) dX3_standsEven_57 rfl (fun g57 => ?_) (fun g57 => ?_)
      · replace h := zpos g57 h
        refine zk_iinc dX3_standsEven_62 rfl (zinc (m := 1) (by decide)) (by decide) (zk_eq [_, _, _, _, _] rfl ?_)
        refine zk_goto (tgt := 30) dX3_standsEven_65 rfl ?_
        exact hr30 _ h
      · replace h := zneg g57 h
        refine zk_iconst (v := 0) dX3_standsEven_60 (by decide) ?_
        have e9 := Option.some.inj h
        subst e9
        exact zk_zret rfl (Or.inl rfl) ⟨rfl, rfl⟩ dX3_standsEven_61
def D_X3_standsEven_B17 (s : zS) (a2 : Int32) (rec17 : Int32 → Option Int32) (a3 : Int32) : Option Int32 :=
    if (s.1 2 0) ≤ a3 then (
      some (1 : Int32)
    ) else (
      D_X3_standsEven_L30 rec17 s a2 a3 zFU (a3 + (1 : Int32))
    )
def D_X3_standsEven_L17 (s : zS) (a2 : Int32) (n : Nat) (a3 : Int32) : Option Int32 := zfx (fun (rec : Int32 → Option Int32) q => D_X3_standsEven_B17 s a2 (fun v0 => rec (v0)) q) n (a3)
set_option maxRecDepth 100000 in
theorem D_X3_standsEven_L17_s (s : zS) (a2 : Int32) (n : Nat) (a3 : Int32) : D_X3_standsEven_L17 s a2 (n + 1) a3 = D_X3_standsEven_B17 s a2 (D_X3_standsEven_L17 s a2 n) a3 := rfl
set_option maxRecDepth 100000 in
theorem ok_X3_standsEven_L17 {l : Launch} {D : va_G} {ad : Nat → Nat} {cA : Nat → ClassId} (hj : zInj ad) (r : Int32) (s : zS) (a2 : Int32) : ∀ (n : Nat) (a3 : Int32), D_X3_standsEven_L17 s a2 n a3 = some r → zOk l D ad cA (zJm jX3_standsEven) (zEnd D ad cA (some (.int r)) s) 17 [some (.ref 4), some (.ref 2), some (.int a2), some (.int a3), none] [] s := by
  intro n
  induction n with
  | zero =>
    intro a3 h
    have h0 : (none : Option Int32) = some r := h
    cases h0
  | succ n hr17 =>
    intro a3 h
    have h : D_X3_standsEven_B17 s a2 (D_X3_standsEven_L17 s a2 n) a3 = some r := h
    unfold D_X3_standsEven_B17 at h
    refine zk_iload_n dX3_standsEven_17 rfl rfl ?_
    refine zk_aload_n dX3_standsEven_18 rfl rfl ?_
    refine zf_X3_69 rfl dX3_standsEven_19 ?_
    refine zk_icmp_ge (tgt := 74) dX3_standsEven_22 rfl (fun g22 => ?_) (fun g22 => ?_)
    · replace h := zpos g22 h
      refine zk_iconst (v := 1) dX3_standsEven_74 (by decide) ?_
      have e9 := Option.some.inj h
      subst e9
      exact zk_zret rfl (Or.inr rfl) ⟨rfl, rfl⟩ dX3_standsEven_75
    · replace h := zneg g22 h
      refine zk_iload_n dX3_standsEven_25 rfl rfl ?_
      refine zk_iconst (v := 1) dX3_standsEven_26 (by decide) ?_
      refine zk_iadd dX3_standsEven_27 ?_
      refine zk_istore (i := 4) dX3_standsEven_28 (by decide) (zk_eq [_, _, _, _, _] rfl ?_)
      exact ok_X3_standsEven_L30 hj r _ _ _ _ hr17 _ _ h
def D_X3_standsEven (s : zS) (a2 : Int32) : Option Int32 :=
  (D_X7_all s).bind fun p4 =>
  (D_X3_complaintOf s a2 p4).bind fun p7 =>
  if p7 = 0 then (
    D_X3_standsEven_L17 s a2 zFU (0 : Int32)
  ) else (
    some (0 : Int32)
  )
set_option maxRecDepth 100000 in
theorem ok_X3_standsEven {l : Launch} {D : va_G} {ad : Nat → Nat} {cA : Nat → ClassId} (hj : zInj ad) (s : zS) (a2 : Int32) {r : Int32} (h : D_X3_standsEven s a2 = some r) : zMet l D ad cA jX3_standsEven [.ref 4, .ref 2, .int a2] s (some (.int r)) s := by
  refine zMet_of jX3_standsEven [some (.ref 4), some (.ref 2), some (.int a2), none, none] (by decide +kernel) (Nat.le_of_ble_eq_true rfl) rfl hj ?_
  unfold D_X3_standsEven at h
  refine zk_aload_n dX3_standsEven_0 rfl rfl ?_
  refine zk_aload_n dX3_standsEven_1 rfl rfl ?_
  refine zk_iload_n dX3_standsEven_2 rfl rfl ?_
  refine zk_aload_n dX3_standsEven_3 rfl rfl ?_
  obtain ⟨p4, h4, h⟩ := zbind h
  refine zc_X3_56 [.int _, .ref _, .ref _] (As := []) (ok_X7_all hj _ h4) rfl ⟨Nat.le_of_ble_eq_true rfl, Nat.le_of_ble_eq_true rfl⟩ ⟨Nat.le_refl _, Nat.le_refl _⟩ rfl rfl (Nat.le_of_ble_eq_true rfl) dX3_standsEven_4 ?_
  obtain ⟨p7, h7, h⟩ := zbind h
  refine zc_X3_60 [] (As := [.ref _, .int _, .int _]) (ok_X3_complaintOf hj _ _ _ h7) rfl ⟨Nat.le_of_ble_eq_true rfl, Nat.le_of_ble_eq_true rfl⟩ ⟨Nat.le_refl _, Nat.le_refl _⟩ rfl rfl (Nat.le_of_ble_eq_true rfl) dX3_standsEven_7 ?_
  refine zk_if_eq (tgt := 15) dX3_standsEven_10 rfl (fun g10 => ?_) (fun g10 => ?_)
  · replace h := zpos g10 h
    refine zk_iconst (v := 0) dX3_standsEven_15 (by decide) ?_
    refine zk_istore_n (i := 3) dX3_standsEven_16 rfl (by decide) (zk_eq [_, _, _, _, _] rfl ?_)
    exact ok_X3_standsEven_L17 hj r _ _ _ _ h
  · replace h := zneg g10 h
    refine zk_iconst (v := 0) dX3_standsEven_13 (by decide) ?_
    have e9 := Option.some.inj h
    subst e9
    exact zk_zret rfl (Or.inl rfl) ⟨rfl, rfl⟩ dX3_standsEven_14
def D_X3_tellCalm (s : zS) (a1 : Int32) : Option zS :=
  zgd (zin a1 4 = true) <|
  zgd (zshp (zT 32 a1) = (0, 2, [1, 1])) <|
  zgd (zin a1 4 = true) <|
  zgd (zshp (zT 32 a1) = (0, 2, [1, 1])) <|
  (D_X2_put s 1 (s.2 (zT 32 a1) 0) (s.2 (zT 32 a1) 1)).bind fun p19 =>
  some p19
set_option maxRecDepth 100000 in
theorem ok_X3_tellCalm {l : Launch} {D : va_G} {ad : Nat → Nat} {cA : Nat → ClassId} (hj : zInj ad) (s : zS) (a1 : Int32) {r : zS} (h : D_X3_tellCalm s a1 = some r) : zMet l D ad cA jX3_tellCalm [.ref 4, .int a1, .ref 1] s none r := by
  refine zMet_of jX3_tellCalm [some (.ref 4), some (.int a1), some (.ref 1)] (by decide +kernel) (Nat.le_of_ble_eq_true rfl) rfl hj ?_
  unfold D_X3_tellCalm at h
  refine zk_aload_n dX3_tellCalm_0 rfl rfl ?_
  refine zk_aload_n dX3_tellCalm_1 rfl rfl ?_
  refine zf_X3_26 rfl dX3_tellCalm_2 ?_
  refine zk_iload_n dX3_tellCalm_5 rfl rfl ?_
  obtain ⟨g6, h⟩ := zguard h
  refine zk_aald (zoR_of ⟨rfl, rfl, by decide, by decide⟩ g6) dX3_tellCalm_6 ?_
  obtain ⟨hs7, h⟩ := zguard h
  refine zf_X3_126 (hs := hs7) rfl dX3_tellCalm_7 ?_
  refine zk_aload_n dX3_tellCalm_10 rfl rfl ?_
  refine zf_X3_26 rfl dX3_tellCalm_11 ?_
  refine zk_iload_n dX3_tellCalm_14 rfl rfl ?_
  obtain ⟨g15, h⟩ := zguard h
  refine zk_aald (zoR_of ⟨rfl, rfl, by decide, by decide⟩ g15) dX3_tellCalm_15 ?_
  obtain ⟨hs16, h⟩ := zguard h
  refine zf_X3_130 (hs := hs16) rfl dX3_tellCalm_16 ?_
  obtain ⟨p19, h19, h⟩ := zbind h
  refine zc_X3_106 [] (hs := rfl) (As := [.long _, .long _]) (ok_X2_put hj _ _ _ _ h19) rfl ⟨Nat.le_of_ble_eq_true rfl, Nat.le_of_ble_eq_true rfl⟩ ⟨Nat.le_refl _, Nat.le_refl _⟩ rfl rfl (Nat.le_of_ble_eq_true rfl) dX3_tellCalm_19 ?_
  have e9 := Option.some.inj h
  subst e9
  exact zk_vret rfl ⟨rfl, rfl⟩ dX3_tellCalm_22
def D_X3_tellRow (s : zS) (a1 : Int32) : Option zS :=
  (D_X0_constantOf s a1).bind fun p6 =>
  (D_X0_belowOf s a1).bind fun p14 =>
  (D_X2_put s 1 p6 p14).bind fun p17 =>
  some p17
set_option maxRecDepth 100000 in
theorem ok_X3_tellRow {l : Launch} {D : va_G} {ad : Nat → Nat} {cA : Nat → ClassId} (hj : zInj ad) (s : zS) (a1 : Int32) {r : zS} (h : D_X3_tellRow s a1 = some r) : zMet l D ad cA jX3_tellRow [.ref 4, .int a1, .ref 1] s none r := by
  refine zMet_of jX3_tellRow [some (.ref 4), some (.int a1), some (.ref 1)] (by decide +kernel) (Nat.le_of_ble_eq_true rfl) rfl hj ?_
  unfold D_X3_tellRow at h
  refine zk_aload_n dX3_tellRow_0 rfl rfl ?_
  refine zk_aload_n dX3_tellRow_1 rfl rfl ?_
  refine zf_X3_19 rfl dX3_tellRow_2 ?_
  refine zk_iload_n dX3_tellRow_5 rfl rfl ?_
  obtain ⟨p6, h6, h⟩ := zbind h
  refine zc_X3_96 [.ref _] (As := [.int _]) (ok_X0_constantOf hj _ _ h6) rfl ⟨Nat.le_of_ble_eq_true rfl, Nat.le_of_ble_eq_true rfl⟩ ⟨Nat.le_refl _, Nat.le_refl _⟩ rfl rfl (Nat.le_of_ble_eq_true rfl) dX3_tellRow_6 ?_
  refine zk_aload_n dX3_tellRow_9 rfl rfl ?_
  refine zf_X3_19 rfl dX3_tellRow_10 ?_
  refine zk_iload_n dX3_tellRow_13 rfl rfl ?_
  obtain ⟨p14, h14, h⟩ := zbind h
  refine zc_X3_100 [.long _, .ref _] (As := [.int _]) (ok_X0_belowOf hj _ _ h14) rfl ⟨Nat.le_of_ble_eq_true rfl, Nat.le_of_ble_eq_true rfl⟩ ⟨Nat.le_refl _, Nat.le_refl _⟩ rfl rfl (Nat.le_of_ble_eq_true rfl) dX3_tellRow_14 ?_
  obtain ⟨p17, h17, h⟩ := zbind h
  refine zc_X3_106 [] (hs := rfl) (As := [.long _, .long _]) (ok_X2_put hj _ _ _ _ h17) rfl ⟨Nat.le_of_ble_eq_true rfl, Nat.le_of_ble_eq_true rfl⟩ ⟨Nat.le_refl _, Nat.le_refl _⟩ rfl rfl (Nat.le_of_ble_eq_true rfl) dX3_tellRow_17 ?_
  have e9 := Option.some.inj h
  subst e9
  exact zk_vret rfl ⟨rfl, rfl⟩ dX3_tellRow_20
def D_X3_tellStrain (s : zS) : Option zS :=
  (D_X2_put s 1 (s.2 37 0) (s.2 37 1)).bind fun p15 =>
  some p15
set_option maxRecDepth 100000 in
theorem ok_X3_tellStrain {l : Launch} {D : va_G} {ad : Nat → Nat} {cA : Nat → ClassId} (hj : zInj ad) (s : zS)  {r : zS} (h : D_X3_tellStrain s = some r) : zMet l D ad cA jX3_tellStrain [.ref 4, .ref 1] s none r := by
  refine zMet_of jX3_tellStrain [some (.ref 4), some (.ref 1)] (by decide +kernel) (Nat.le_of_ble_eq_true rfl) rfl hj ?_
  unfold D_X3_tellStrain at h
  refine zk_aload_n dX3_tellStrain_0 rfl rfl ?_
  refine zk_aload_n dX3_tellStrain_1 rfl rfl ?_
  refine zf_X3_30 rfl dX3_tellStrain_2 ?_
  refine zf_X3_126 (hs := rfl) rfl dX3_tellStrain_5 ?_
  refine zk_aload_n dX3_tellStrain_8 rfl rfl ?_
  refine zf_X3_30 rfl dX3_tellStrain_9 ?_
  refine zf_X3_130 (hs := rfl) rfl dX3_tellStrain_12 ?_
  obtain ⟨p15, h15, h⟩ := zbind h
  refine zc_X3_106 [] (hs := rfl) (As := [.long _, .long _]) (ok_X2_put hj _ _ _ _ h15) rfl ⟨Nat.le_of_ble_eq_true rfl, Nat.le_of_ble_eq_true rfl⟩ ⟨Nat.le_refl _, Nat.le_refl _⟩ rfl rfl (Nat.le_of_ble_eq_true rfl) dX3_tellStrain_15 ?_
  have e9 := Option.some.inj h
  subst e9
  exact zk_vret rfl ⟨rfl, rfl⟩ dX3_tellStrain_18
def D_X4_sellerOfThing (a1 : Int32) (a2 : Int32) : Option Int32 :=
  if (4 : Int32) ≤ a1 then (
    some a2
  ) else (
    some a1
  )
set_option maxRecDepth 100000 in
theorem ok_X4_sellerOfThing {l : Launch} {D : va_G} {ad : Nat → Nat} {cA : Nat → ClassId} (hj : zInj ad) (s : zS) (a1 : Int32) (a2 : Int32) {r : Int32} (h : D_X4_sellerOfThing a1 a2 = some r) : zMet l D ad cA jX4_sellerOfThing [.ref 53, .int a1, .int a2] s (some (.int r)) s := by
  refine zMet_of jX4_sellerOfThing [some (.ref 53), some (.int a1), some (.int a2)] (by decide +kernel) (Nat.le_of_ble_eq_true rfl) rfl hj ?_
  unfold D_X4_sellerOfThing at h
  refine zk_iload_n dX4_sellerOfThing_0 rfl rfl ?_
  refine zk_iconst (v := 4) dX4_sellerOfThing_1 (by decide) ?_
  refine zk_icmp_ge (tgt := 9) dX4_sellerOfThing_2 rfl (fun g2 => ?_) (fun g2 => ?_)
  · replace h := zpos g2 h
    refine zk_iload_n dX4_sellerOfThing_9 rfl rfl ?_
    have e9 := Option.some.inj h
    subst e9
    exact zk_iret rfl ⟨rfl, rfl⟩ dX4_sellerOfThing_10
  · replace h := zneg g2 h
    refine zk_iload_n dX4_sellerOfThing_5 rfl rfl ?_
    refine zk_goto (tgt := 10) dX4_sellerOfThing_6 rfl ?_
    have e9 := Option.some.inj h
    subst e9
    exact zk_iret rfl ⟨rfl, rfl⟩ dX4_sellerOfThing_10
def D_X4_knowsSeller (s : zS) (a1 : Int32) : Option Int32 :=
  (D_X8_within a1 (0 : Int32) ((s.1 53 1) - (1 : Int32))).bind fun p8 =>
  zgd (p8 = 0 ∨ p8 = 1) <|
  some p8
set_option maxRecDepth 100000 in
theorem ok_X4_knowsSeller {l : Launch} {D : va_G} {ad : Nat → Nat} {cA : Nat → ClassId} (hj : zInj ad) (s : zS) (a1 : Int32) {r : Int32} (h : D_X4_knowsSeller s a1 = some r) : zMet l D ad cA jX4_knowsSeller [.ref 53, .int a1] s (some (.int r)) s := by
  refine zMet_of jX4_knowsSeller [some (.ref 53), some (.int a1)] (by decide +kernel) (Nat.le_of_ble_eq_true rfl) rfl hj ?_
  unfold D_X4_knowsSeller at h
  refine zk_iload_n dX4_knowsSeller_0 rfl rfl ?_
  refine zk_iconst (v := 0) dX4_knowsSeller_1 (by decide) ?_
  refine zk_aload_n dX4_knowsSeller_2 rfl rfl ?_
  refine zf_X4_15 rfl dX4_knowsSeller_3 ?_
  refine zk_iconst (v := 1) dX4_knowsSeller_6 (by decide) ?_
  refine zk_isub dX4_knowsSeller_7 ?_
  obtain ⟨p8, h8, h⟩ := zbind h
  refine zc_X4_30 [] (As := [.int _, .int _, .int _]) (ok_X8_within hj _ _ _ _ h8) rfl ⟨Nat.le_of_ble_eq_true rfl, Nat.le_of_ble_eq_true rfl⟩ ⟨Nat.le_refl _, Nat.le_refl _⟩ rfl rfl (Nat.le_of_ble_eq_true rfl) dX4_knowsSeller_8 ?_
  obtain ⟨hx11, h⟩ := zguard h
  have e9 := Option.some.inj h
  subst e9
  exact zk_zret rfl hx11 ⟨rfl, rfl⟩ dX4_knowsSeller_11
def D_X4_bestFrom_B15 (s : zS) (a1 : Int32) (a2 : Int32) (a3 : Int32) (rec15 : Int32 → Int32 → Option Int32) (a4 : Int32) (a5 : Int32) : Option Int32 :=
    if (5 : Int32) ≤ a5 then (
      some a4
    ) else (
      (D_X4_sellerOfThing a5 a3).bind fun p25 =>
      (D_X4_knowsSeller s p25).bind fun p33 =>
      if p33 = 0 then (
        rec15 a4 (a5 + 1)
      ) else (
        (D_X8_has a2 a5).bind fun p42 =>
        if p42 = 0 then (
          zgd (zin a1 4 = true) <|
          zgd (zoI (zT 54 a1) p25 = true) <|
          zgd (zin (a1 + (1 : Int32)) 5 = true) <|
          zgd (zoI (zT 60 (a1 + (1 : Int32))) (a2 ||| ((1 : Int32) <<< (a5 &&& 31))) = true) <|
          rec15 (zmax a4 ((s.1 (zT 54 a1) p25.toNatClampNeg) + (s.1 (zT 60 (a1 + (1 : Int32))) (a2 ||| ((1 : Int32) <<< (a5 &&& 31))).toNatClampNeg))) (a5 + 1)
        ) else (
          rec15 a4 (a5 + 1)
        )
      )
    )
def D_X4_bestFrom_L15 (s : zS) (a1 : Int32) (a2 : Int32) (a3 : Int32) (n : Nat) (a4 : Int32) (a5 : Int32) : Option Int32 := zfx (fun (rec : Int32 × Int32 → Option Int32) q => D_X4_bestFrom_B15 s a1 a2 a3 (fun v0 v1 => rec (v0, v1)) q.1 q.2) n (a4, a5)
set_option maxRecDepth 100000 in
theorem D_X4_bestFrom_L15_s (s : zS) (a1 : Int32) (a2 : Int32) (a3 : Int32) (n : Nat) (a4 : Int32) (a5 : Int32) : D_X4_bestFrom_L15 s a1 a2 a3 (n + 1) a4 a5 = D_X4_bestFrom_B15 s a1 a2 a3 (D_X4_bestFrom_L15 s a1 a2 a3 n) a4 a5 := rfl
set_option maxRecDepth 100000 in
theorem ok_X4_bestFrom_L15 {l : Launch} {D : va_G} {ad : Nat → Nat} {cA : Nat → ClassId} (hj : zInj ad) (r : Int32) (s : zS) (a1 : Int32) (a2 : Int32) (a3 : Int32) : ∀ (n : Nat) (a4 : Int32) (a5 : Int32), D_X4_bestFrom_L15 s a1 a2 a3 n a4 a5 = some r → zOk l D ad cA (zJm jX4_bestFrom) (zEnd D ad cA (some (.int r)) s) 15 [some (.ref 53), some (.int a1), some (.int a2), some (.int a3), some (.int a4), some (.int a5), none] [] s := by
  intro n
  induction n with
  | zero =>
    intro a4 a5 h
    have h0 : (none : Option Int32) = some r := h
    cases h0
  | succ n hr15 =>
    intro a4 a5 h
    have h : D_X4_bestFrom_B15 s a1 a2 a3 (D_X4_bestFrom_L15 s a1 a2 a3 n) a4 a5 = some r := h
    unfold D_X4_bestFrom_B15 at h
    refine zk_iload dX4_bestFrom_15 rfl ?_
    refine zk_iconst (v := 5) dX4_bestFrom_17 (by decide) ?_
    refine zk_icmp_ge (tgt := 86) dX4_bestFrom_18 rfl (fun g18 => ?_) (fun g18 => ?_)
    · replace h := zpos g18 h
      refine zk_iload dX4_bestFrom_86 rfl ?_
      have e9 := Option.some.inj h
      subst e9
      exact zk_iret rfl ⟨rfl, rfl⟩ dX4_bestFrom_88
    · replace h := zneg g18 h
      refine zk_aload_n dX4_bestFrom_21 rfl rfl ?_
      refine zk_iload dX4_bestFrom_22 rfl ?_
      refine zk_iload_n dX4_bestFrom_24 rfl rfl ?_
      obtain ⟨p25, h25, h⟩ := zbind h
      refine zc_X4_38 [] (As := [.int _, .int _]) (ok_X4_sellerOfThing hj _ _ _ h25) rfl ⟨Nat.le_of_ble_eq_true rfl, Nat.le_of_ble_eq_true rfl⟩ ⟨Nat.le_refl _, Nat.le_refl _⟩ rfl rfl (Nat.le_of_ble_eq_true rfl) dX4_bestFrom_25 ?_
      refine zk_istore (i := 6) dX4_bestFrom_28 (by decide) (zk_eq [_, _, _, _, _, _, _] rfl ?_)
      refine zk_aload_n dX4_bestFrom_30 rfl rfl ?_
      refine zk_iload dX4_bestFrom_31 rfl ?_
      obtain ⟨p33, h33, h⟩ := zbind h
      refine zc_X4_42 [] (As := [.int _]) (ok_X4_knowsSeller hj _ _ h33) rfl ⟨Nat.le_of_ble_eq_true rfl, Nat.le_of_ble_eq_true rfl⟩ ⟨Nat.le_refl _, Nat.le_refl _⟩ rfl rfl (Nat.le_of_ble_eq_true rfl) dX4_bestFrom_33 ?_
      refine zk_if_eq (tgt := 80) dX4_bestFrom_36 rfl (fun g36 => ?_) (fun g36 => ?_)
      · replace h := zpos g36 h
        refine zk_iinc dX4_bestFrom_80 rfl (zinc (m := 1) (by decide)) (by decide) (zk_eq [_, _, _, _, _, _, _] rfl ?_)
        refine zk_goto (tgt := 15) dX4_bestFrom_83 rfl ?_
        refine zk_mask [true, true, true, true, true, true, false] ?_
        exact hr15 _ _ h
      · replace h := zneg g36 h
        refine zk_iload_n dX4_bestFrom_39 rfl rfl ?_
        refine zk_iload dX4_bestFrom_40 rfl ?_
        obtain ⟨p42, h42, h⟩ := zbind h
        refine zc_X4_46 [] (As := [.int _, .int _]) (ok_X8_has hj _ _ _ h42) rfl ⟨Nat.le_of_ble_eq_true rfl, Nat.le_of_ble_eq_true rfl⟩ ⟨Nat.le_refl _, Nat.le_refl _⟩ rfl rfl (Nat.le_of_ble_eq_true rfl) dX4_bestFrom_42 ?_
        refine zk_if_ne (tgt := 80) dX4_bestFrom_45 rfl (fun g45 => ?_) (fun g45 => ?_)
        · replace h := zneg g45 h
          refine zk_iinc dX4_bestFrom_80 rfl (zinc (m := 1) (by decide)) (by decide) (zk_eq [_, _, _, _, _, _, _] rfl ?_)
          refine zk_goto (tgt := 15) dX4_bestFrom_83 rfl ?_
          refine zk_mask [true, true, true, true, true, true, false] ?_
          exact hr15 _ _ h
        · replace h := zpos g45 h
          refine zk_iload dX4_bestFrom_48 rfl ?_
          refine zk_aload_n dX4_bestFrom_50 rfl rfl ?_
          refine zf_X4_20 rfl dX4_bestFrom_51 ?_
          refine zk_iload_n dX4_bestFrom_54 rfl rfl ?_
          obtain ⟨g55, h⟩ := zguard h
          refine zk_aald (zoR_of ⟨rfl, rfl, by decide, by decide⟩ g55) dX4_bestFrom_55 ?_
          refine zk_iload dX4_bestFrom_56 rfl ?_
          obtain ⟨g58, h⟩ := zguard h
          refine zk_iald g58 dX4_bestFrom_58 ?_
          refine zk_aload_n dX4_bestFrom_59 rfl rfl ?_
          refine zf_X4_27 rfl dX4_bestFrom_60 ?_
          refine zk_iload_n dX4_bestFrom_63 rfl rfl ?_
          refine zk_iconst (v := 1) dX4_bestFrom_64 (by decide) ?_
          refine zk_iadd dX4_bestFrom_65 ?_
          obtain ⟨g66, h⟩ := zguard h
          refine zk_aald (zoR_of ⟨rfl, rfl, by decide, by decide⟩ g66) dX4_bestFrom_66 ?_
          refine zk_iload_n dX4_bestFrom_67 rfl rfl ?_
          refine zk_iconst (v := 1) dX4_bestFrom_68 (by decide) ?_
          refine zk_iload dX4_bestFrom_69 rfl ?_
          refine zk_ishl dX4_bestFrom_71 ?_
          refine zk_ior dX4_bestFrom_72 ?_
          obtain ⟨g73, h⟩ := zguard h
          refine zk_iald g73 dX4_bestFrom_73 ?_
          refine zk_iadd dX4_bestFrom_74 ?_
          refine zk_mmax zmw_X4_50 (Nat.le_of_ble_eq_true rfl) (Nat.le_of_ble_eq_true rfl) ⟨Nat.le_refl _, Nat.le_refl _⟩ dX4_bestFrom_75 ?_
          refine zk_istore (i := 4) dX4_bestFrom_78 (by decide) (zk_eq [_, _, _, _, _, _, _] rfl ?_)
          refine zk_iinc dX4_bestFrom_80 rfl (zinc (m := 1) (by decide)) (by decide) (zk_eq [_, _, _, _, _, _, _] rfl ?_)
          refine zk_goto (tgt := 15) dX4_bestFrom_83 rfl ?_
          refine zk_mask [true, true, true, true, true, true, false] ?_
          exact hr15 _ _ h
def D_X4_bestFrom (s : zS) (a1 : Int32) (a2 : Int32) (a3 : Int32) : Option Int32 :=
  zgd (zin (a1 + (1 : Int32)) 5 = true) <|
  zgd (zoI (zT 60 (a1 + (1 : Int32))) a2 = true) <|
  D_X4_bestFrom_L15 s a1 a2 a3 zFU (s.1 (zT 60 (a1 + (1 : Int32))) a2.toNatClampNeg) (0 : Int32)
set_option maxRecDepth 100000 in
theorem ok_X4_bestFrom {l : Launch} {D : va_G} {ad : Nat → Nat} {cA : Nat → ClassId} (hj : zInj ad) (s : zS) (a1 : Int32) (a2 : Int32) (a3 : Int32) {r : Int32} (h : D_X4_bestFrom s a1 a2 a3 = some r) : zMet l D ad cA jX4_bestFrom [.ref 53, .int a1, .int a2, .int a3] s (some (.int r)) s := by
  refine zMet_of jX4_bestFrom [some (.ref 53), some (.int a1), some (.int a2), some (.int a3), none, none, none] (by decide +kernel) (Nat.le_of_ble_eq_true rfl) rfl hj ?_
  unfold D_X4_bestFrom at h
  refine zk_aload_n dX4_bestFrom_0 rfl rfl ?_
  refine zf_X4_27 rfl dX4_bestFrom_1 ?_
  refine zk_iload_n dX4_bestFrom_4 rfl rfl ?_
  refine zk_iconst (v := 1) dX4_bestFrom_5 (by decide) ?_
  refine zk_iadd dX4_bestFrom_6 ?_
  obtain ⟨g7, h⟩ := zguard h
  refine zk_aald (zoR_of ⟨rfl, rfl, by decide, by decide⟩ g7) dX4_bestFrom_7 ?_
  refine zk_iload_n dX4_bestFrom_8 rfl rfl ?_
  obtain ⟨g9, h⟩ := zguard h
  refine zk_iald g9 dX4_bestFrom_9 ?_
  refine zk_istore (i := 4) dX4_bestFrom_10 (by decide) (zk_eq [_, _, _, _, _, _, _] rfl ?_)
  refine zk_iconst (v := 0) dX4_bestFrom_12 (by decide) ?_
  refine zk_istore (i := 5) dX4_bestFrom_13 (by decide) (zk_eq [_, _, _, _, _, _, _] rfl ?_)
  exact ok_X4_bestFrom_L15 hj r _ _ _ _ _ _ _ h
def D_X4_findRests_B39 (rec33 : Int32 → zS → Option zS) (a1 : Int32) (a2 : Int32) (rec39 : Int32 → zS → Option zS) (a3 : Int32) (s : zS) : Option zS :=
    if (32 : Int32) ≤ a3 then (
      rec33 (a2 + -1) s
    ) else (
      zgd (zin a2 5 = true) <|
      (D_X4_bestFrom s a2 a3 a1).bind fun p56 =>
      zgd (zoI (zT 60 a2) a3 = true) <|
      let s59 : zS := zwI s (zT 60 a2) a3.toNatClampNeg p56
      rec39 (a3 + 1) s59
    )
def D_X4_findRests_L39 (rec33 : Int32 → zS → Option zS) (a1 : Int32) (a2 : Int32) (n : Nat) (a3 : Int32) (s : zS) : Option zS := zfx (fun (rec : Int32 × zS → Option zS) q => D_X4_findRests_B39 rec33 a1 a2 (fun v0 v1 => rec (v0, v1)) q.1 q.2) n (a3, s)
set_option maxRecDepth 100000 in
theorem D_X4_findRests_L39_s (rec33 : Int32 → zS → Option zS) (a1 : Int32) (a2 : Int32) (n : Nat) (a3 : Int32) (s : zS) : D_X4_findRests_L39 rec33 a1 a2 (n + 1) a3 s = D_X4_findRests_B39 rec33 a1 a2 (D_X4_findRests_L39 rec33 a1 a2 n) a3 s := rfl
set_option maxRecDepth 100000 in
theorem ok_X4_findRests_L39 {l : Launch} {D : va_G} {ad : Nat → Nat} {cA : Nat → ClassId} (hj : zInj ad) (r : zS) (a1 : Int32) (a2 : Int32) (rec33 : Int32 → zS → Option zS) (hr33 : ∀ (b2 : Int32) (s : zS), rec33 b2 s = some r → zOk l D ad cA (zJm jX4_findRests) (zEnd D ad cA none r) 33 [some (.ref 53), some (.int a1), some (.int b2), none] [] s) : ∀ (n : Nat) (a3 : Int32) (s : zS), D_X4_findRests_L39 rec33 a1 a2 n a3 s = some r → zOk l D ad cA (zJm jX4_findRests) (zEnd D ad cA none r) 39 [some (.ref 53), some (.int a1), some (.int a2), some (.int a3)] [] s := by
  intro n
  induction n with
  | zero =>
    intro a3 s h
    have h0 : (none : Option zS) = some r := h
    cases h0
  | succ n hr39 =>
    intro a3 s h
    have h : D_X4_findRests_B39 rec33 a1 a2 (D_X4_findRests_L39 rec33 a1 a2 n) a3 s = some r := h
    unfold D_X4_findRests_B39 at h
    refine zk_iload_n dX4_findRests_39 rfl rfl ?_
    refine zk_bipush (v := 32) dX4_findRests_40 (by decide) ?_
    refine zk_icmp_ge (tgt := 66) dX4_findRests_42 rfl (fun g42 => ?_) (fun g42 => ?_)
    · replace h := zpos g42 h
      refine zk_iinc dX4_findRests_66 rfl (zinc (m := -1) (by decide)) (by decide) (zk_eq [_, _, _, _] rfl ?_)
      refine zk_goto (tgt := 33) dX4_findRests_69 rfl ?_
      refine zk_mask [true, true, true, false] ?_
      exact hr33 _ _ h
    · replace h := zneg g42 h
      refine zk_aload_n dX4_findRests_45 rfl rfl ?_
      refine zf_X4_27 rfl dX4_findRests_46 ?_
      refine zk_iload_n dX4_findRests_49 rfl rfl ?_
      obtain ⟨g50, h⟩ := zguard h
      refine zk_aald (zoR_of ⟨rfl, rfl, by decide, by decide⟩ g50) dX4_findRests_50 ?_
      refine zk_iload_n dX4_findRests_51 rfl rfl ?_
      refine zk_aload_n dX4_findRests_52 rfl rfl ?_
      refine zk_iload_n dX4_findRests_53 rfl rfl ?_
      refine zk_iload_n dX4_findRests_54 rfl rfl ?_
      refine zk_iload_n dX4_findRests_55 rfl rfl ?_
      obtain ⟨p56, h56, h⟩ := zbind h
      refine zc_X4_34 [.int _, .ref _] (As := [.int _, .int _, .int _]) (ok_X4_bestFrom hj _ _ _ _ h56) rfl ⟨Nat.le_of_ble_eq_true rfl, Nat.le_of_ble_eq_true rfl⟩ ⟨Nat.le_refl _, Nat.le_refl _⟩ rfl rfl (Nat.le_of_ble_eq_true rfl) dX4_findRests_56 ?_
      obtain ⟨g59, h⟩ := zguard h
      refine zk_iast g59 dX4_findRests_59 ?_
      refine zk_iinc dX4_findRests_60 rfl (zinc (m := 1) (by decide)) (by decide) (zk_eq [_, _, _, _] rfl ?_)
      refine zk_goto (tgt := 39) dX4_findRests_63 rfl ?_
      exact hr39 _ _ h
def D_X4_findRests_B33 (a1 : Int32) (rec33 : Int32 → zS → Option zS) (a2 : Int32) (s : zS) : Option zS :=
    if a2 < 0 then (
      some s
    ) else (
      D_X4_findRests_L39 rec33 a1 a2 zFU (0 : Int32) s
    )
def D_X4_findRests_L33 (a1 : Int32) (n : Nat) (a2 : Int32) (s : zS) : Option zS := zfx (fun (rec : Int32 × zS → Option zS) q => D_X4_findRests_B33 a1 (fun v0 v1 => rec (v0, v1)) q.1 q.2) n (a2, s)
set_option maxRecDepth 100000 in
theorem D_X4_findRests_L33_s (a1 : Int32) (n : Nat) (a2 : Int32) (s : zS) : D_X4_findRests_L33 a1 (n + 1) a2 s = D_X4_findRests_B33 a1 (D_X4_findRests_L33 a1 n) a2 s := rfl
set_option maxRecDepth 100000 in
theorem ok_X4_findRests_L33 {l : Launch} {D : va_G} {ad : Nat → Nat} {cA : Nat → ClassId} (hj : zInj ad) (r : zS) (a1 : Int32) : ∀ (n : Nat) (a2 : Int32) (s : zS), D_X4_findRests_L33 a1 n a2 s = some r → zOk l D ad cA (zJm jX4_findRests) (zEnd D ad cA none r) 33 [some (.ref 53), some (.int a1), some (.int a2), none] [] s := by
  intro n
  induction n with
  | zero =>
    intro a2 s h
    have h0 : (none : Option zS) = some r := h
    cases h0
  | succ n hr33 =>
    intro a2 s h
    have h : D_X4_findRests_B33 a1 (D_X4_findRests_L33 a1 n) a2 s = some r := h
    unfold D_X4_findRests_B33 at h
    refine zk_iload_n dX4_findRests_33 rfl rfl ?_
    refine zk_if_lt (tgt := 72) dX4_findRests_34 rfl (fun g34 => ?_) (fun g34 => ?_)
    · replace h := zpos g34 h
      have e9 := Option.some.inj h
      subst e9
      exact zk_vret rfl ⟨rfl, rfl⟩ dX4_findRests_72
    · replace h := zneg g34 h
      refine zk_iconst (v := 0) dX4_findRests_37 (by decide) ?_
      refine zk_istore_n (i := 3) dX4_findRests_38 rfl (by decide) (zk_eq [_, _, _, _] rfl ?_)
      exact ok_X4_findRests_L39 hj r _ _ _ hr33 _ _ _ h
def D_X4_findRests_B2 (a1 : Int32) (rec2 : Int32 → zS → Option zS) (a2 : Int32) (s : zS) : Option zS :=
    if (32 : Int32) ≤ a2 then (
      D_X4_findRests_L33 a1 zFU ((s.1 53 0) - (1 : Int32)) s
    ) else (
      zgd (zin (s.1 53 0) 5 = true) <|
      zgd (zoI (zT 60 (s.1 53 0)) a2 = true) <|
      let s19 : zS := zwI s (zT 60 (s.1 53 0)) a2.toNatClampNeg (0 : Int32)
      rec2 (a2 + 1) s19
    )
def D_X4_findRests_L2 (a1 : Int32) (n : Nat) (a2 : Int32) (s : zS) : Option zS := zfx (fun (rec : Int32 × zS → Option zS) q => D_X4_findRests_B2 a1 (fun v0 v1 => rec (v0, v1)) q.1 q.2) n (a2, s)
set_option maxRecDepth 100000 in
theorem D_X4_findRests_L2_s (a1 : Int32) (n : Nat) (a2 : Int32) (s : zS) : D_X4_findRests_L2 a1 (n + 1) a2 s = D_X4_findRests_B2 a1 (D_X4_findRests_L2 a1 n) a2 s := rfl
set_option maxRecDepth 100000 in
theorem ok_X4_findRests_L2 {l : Launch} {D : va_G} {ad : Nat → Nat} {cA : Nat → ClassId} (hj : zInj ad) (r : zS) (a1 : Int32) : ∀ (n : Nat) (a2 : Int32) (s : zS), D_X4_findRests_L2 a1 n a2 s = some r → zOk l D ad cA (zJm jX4_findRests) (zEnd D ad cA none r) 2 [some (.ref 53), some (.int a1), some (.int a2), none] [] s := by
  intro n
  induction n with
  | zero =>
    intro a2 s h
    have h0 : (none : Option zS) = some r := h
    cases h0
  | succ n hr2 =>
    intro a2 s h
    have h : D_X4_findRests_B2 a1 (D_X4_findRests_L2 a1 n) a2 s = some r := h
    unfold D_X4_findRests_B2 at h
    refine zk_iload_n dX4_findRests_2 rfl rfl ?_
    refine zk_bipush (v := 32) dX4_findRests_3 (by decide) ?_
    refine zk_icmp_ge (tgt := 26) dX4_findRests_5 rfl (fun g5 => ?_) (fun g5 => ?_)
    · replace h := zpos g5 h
      refine zk_aload_n dX4_findRests_26 rfl rfl ?_
      refine zf_X4_9 rfl dX4_findRests_27 ?_
      refine zk_iconst (v := 1) dX4_findRests_30 (by decide) ?_
      refine zk_isub dX4_findRests_31 ?_
      refine zk_istore_n (i := 2) dX4_findRests_32 rfl (by decide) (zk_eq [_, _, _, _] rfl ?_)
      exact ok_X4_findRests_L33 hj r _ _ _ _ h
    · replace h := zneg g5 h
      refine zk_aload_n dX4_findRests_8 rfl rfl ?_
      refine zf_X4_27 rfl dX4_findRests_9 ?_
      refine zk_aload_n dX4_findRests_12 rfl rfl ?_
      refine zf_X4_9 rfl dX4_findRests_13 ?_
      obtain ⟨g16, h⟩ := zguard h
      refine zk_aald (zoR_of ⟨rfl, rfl, by decide, by decide⟩ g16) dX4_findRests_16 ?_
      refine zk_iload_n dX4_findRests_17 rfl rfl ?_
      refine zk_iconst (v := 0) dX4_findRests_18 (by decide) ?_
      obtain ⟨g19, h⟩ := zguard h
      refine zk_iast g19 dX4_findRests_19 ?_
      refine zk_iinc dX4_findRests_20 rfl (zinc (m := 1) (by decide)) (by decide) (zk_eq [_, _, _, _] rfl ?_)
      refine zk_goto (tgt := 2) dX4_findRests_23 rfl ?_
      exact hr2 _ _ h
def D_X4_findRests (s : zS) (a1 : Int32) : Option zS :=
  D_X4_findRests_L2 a1 zFU (0 : Int32) s
set_option maxRecDepth 100000 in
theorem ok_X4_findRests {l : Launch} {D : va_G} {ad : Nat → Nat} {cA : Nat → ClassId} (hj : zInj ad) (s : zS) (a1 : Int32) {r : zS} (h : D_X4_findRests s a1 = some r) : zMet l D ad cA jX4_findRests [.ref 53, .int a1] s none r := by
  refine zMet_of jX4_findRests [some (.ref 53), some (.int a1), none, none] (by decide +kernel) (Nat.le_of_ble_eq_true rfl) rfl hj ?_
  unfold D_X4_findRests at h
  refine zk_iconst (v := 0) dX4_findRests_0 (by decide) ?_
  refine zk_istore_n (i := 2) dX4_findRests_1 rfl (by decide) (zk_eq [_, _, _, _] rfl ?_)
  exact ok_X4_findRests_L2 hj r _ _ _ _ h
def D_X4_greatestSum (s : zS) : Option (Int32 × zS) :=
  (D_X4_findRests s (-1 : Int32)).bind fun p2 =>
  zgd (zin (0 : Int32) 5 = true) <|
  zgd (zoI (zT 60 (0 : Int32)) (0 : Int32) = true) <|
  some ((p2.1 (zT 60 (0 : Int32)) (0 : Int32).toNatClampNeg), p2)
set_option maxRecDepth 100000 in
theorem ok_X4_greatestSum {l : Launch} {D : va_G} {ad : Nat → Nat} {cA : Nat → ClassId} (hj : zInj ad) (s : zS)  {r : (Int32 × zS)} (h : D_X4_greatestSum s = some r) : zMet l D ad cA jX4_greatestSum [.ref 53] s (some (.int r.1)) r.2 := by
  refine zMet_of jX4_greatestSum [some (.ref 53)] (by decide +kernel) (Nat.le_of_ble_eq_true rfl) rfl hj ?_
  unfold D_X4_greatestSum at h
  refine zk_aload_n dX4_greatestSum_0 rfl rfl ?_
  refine zk_iconst (v := -1) dX4_greatestSum_1 (by decide) ?_
  obtain ⟨p2, h2, h⟩ := zbind h
  refine zc_X4_55 [] (As := [.int _]) (ok_X4_findRests hj _ _ h2) rfl ⟨Nat.le_of_ble_eq_true rfl, Nat.le_of_ble_eq_true rfl⟩ ⟨Nat.le_refl _, Nat.le_refl _⟩ rfl rfl (Nat.le_of_ble_eq_true rfl) dX4_greatestSum_2 ?_
  refine zk_aload_n dX4_greatestSum_5 rfl rfl ?_
  refine zf_X4_27 rfl dX4_greatestSum_6 ?_
  refine zk_iconst (v := 0) dX4_greatestSum_9 (by decide) ?_
  obtain ⟨g10, h⟩ := zguard h
  refine zk_aald (zoR_of ⟨rfl, rfl, by decide, by decide⟩ g10) dX4_greatestSum_10 ?_
  refine zk_iconst (v := 0) dX4_greatestSum_11 (by decide) ?_
  obtain ⟨g12, h⟩ := zguard h
  refine zk_iald g12 dX4_greatestSum_12 ?_
  have e9 := Option.some.inj h
  subst e9
  exact zk_iret rfl ⟨rfl, rfl⟩ dX4_greatestSum_13
def D_X4_cheapPrice (s : zS) (a1 : Int32) : Option (Int32 × zS) :=
  (D_X4_greatestSum s).bind fun p1 =>
  (D_X4_findRests p1.2 a1).bind fun p7 =>
  zgd (zin (0 : Int32) 5 = true) <|
  zgd (zoI (zT 60 (0 : Int32)) (0 : Int32) = true) <|
  some (((p7.1 (zT 60 (0 : Int32)) (0 : Int32).toNatClampNeg) - p1.1), p7)
set_option maxRecDepth 100000 in
theorem ok_X4_cheapPrice {l : Launch} {D : va_G} {ad : Nat → Nat} {cA : Nat → ClassId} (hj : zInj ad) (s : zS) (a1 : Int32) {r : (Int32 × zS)} (h : D_X4_cheapPrice s a1 = some r) : zMet l D ad cA jX4_cheapPrice [.ref 53, .int a1] s (some (.int r.1)) r.2 := by
  refine zMet_of jX4_cheapPrice [some (.ref 53), some (.int a1), none] (by decide +kernel) (Nat.le_of_ble_eq_true rfl) rfl hj ?_
  unfold D_X4_cheapPrice at h
  refine zk_aload_n dX4_cheapPrice_0 rfl rfl ?_
  obtain ⟨p1, h1, h⟩ := zbind h
  refine zc_X4_62 [] (As := []) (ok_X4_greatestSum hj _ h1) rfl ⟨Nat.le_of_ble_eq_true rfl, Nat.le_of_ble_eq_true rfl⟩ ⟨Nat.le_refl _, Nat.le_refl _⟩ rfl rfl (Nat.le_of_ble_eq_true rfl) dX4_cheapPrice_1 ?_
  refine zk_istore_n (i := 2) dX4_cheapPrice_4 rfl (by decide) (zk_eq [_, _, _] rfl ?_)
  refine zk_aload_n dX4_cheapPrice_5 rfl rfl ?_
  refine zk_iload_n dX4_cheapPrice_6 rfl rfl ?_
  obtain ⟨p7, h7, h⟩ := zbind h
  refine zc_X4_55 [] (As := [.int _]) (ok_X4_findRests hj _ _ h7) rfl ⟨Nat.le_of_ble_eq_true rfl, Nat.le_of_ble_eq_true rfl⟩ ⟨Nat.le_refl _, Nat.le_refl _⟩ rfl rfl (Nat.le_of_ble_eq_true rfl) dX4_cheapPrice_7 ?_
  refine zk_aload_n dX4_cheapPrice_10 rfl rfl ?_
  refine zf_X4_27 rfl dX4_cheapPrice_11 ?_
  refine zk_iconst (v := 0) dX4_cheapPrice_14 (by decide) ?_
  obtain ⟨g15, h⟩ := zguard h
  refine zk_aald (zoR_of ⟨rfl, rfl, by decide, by decide⟩ g15) dX4_cheapPrice_15 ?_
  refine zk_iconst (v := 0) dX4_cheapPrice_16 (by decide) ?_
  obtain ⟨g17, h⟩ := zguard h
  refine zk_iald g17 dX4_cheapPrice_17 ?_
  refine zk_iload_n dX4_cheapPrice_18 rfl rfl ?_
  refine zk_isub dX4_cheapPrice_19 ?_
  have e9 := Option.some.inj h
  subst e9
  exact zk_iret rfl ⟨rfl, rfl⟩ dX4_cheapPrice_20
def D_X4_dearPrice (s : zS) (a1 : Int32) : Option (Int32 × zS) :=
  (D_X4_greatestSum s).bind fun p1 =>
  zgd (zin (0 : Int32) 5 = true) <|
  zgd (zoI (zT 60 (0 : Int32)) ((1 : Int32) <<< (a1 &&& 31)) = true) <|
  some ((p1.1 - (p1.2.1 (zT 60 (0 : Int32)) ((1 : Int32) <<< (a1 &&& 31)).toNatClampNeg)), p1.2)
set_option maxRecDepth 100000 in
theorem ok_X4_dearPrice {l : Launch} {D : va_G} {ad : Nat → Nat} {cA : Nat → ClassId} (hj : zInj ad) (s : zS) (a1 : Int32) {r : (Int32 × zS)} (h : D_X4_dearPrice s a1 = some r) : zMet l D ad cA jX4_dearPrice [.ref 53, .int a1] s (some (.int r.1)) r.2 := by
  refine zMet_of jX4_dearPrice [some (.ref 53), some (.int a1)] (by decide +kernel) (Nat.le_of_ble_eq_true rfl) rfl hj ?_
  unfold D_X4_dearPrice at h
  refine zk_aload_n dX4_dearPrice_0 rfl rfl ?_
  obtain ⟨p1, h1, h⟩ := zbind h
  refine zc_X4_62 [] (As := []) (ok_X4_greatestSum hj _ h1) rfl ⟨Nat.le_of_ble_eq_true rfl, Nat.le_of_ble_eq_true rfl⟩ ⟨Nat.le_refl _, Nat.le_refl _⟩ rfl rfl (Nat.le_of_ble_eq_true rfl) dX4_dearPrice_1 ?_
  refine zk_aload_n dX4_dearPrice_4 rfl rfl ?_
  refine zf_X4_27 rfl dX4_dearPrice_5 ?_
  refine zk_iconst (v := 0) dX4_dearPrice_8 (by decide) ?_
  obtain ⟨g9, h⟩ := zguard h
  refine zk_aald (zoR_of ⟨rfl, rfl, by decide, by decide⟩ g9) dX4_dearPrice_9 ?_
  refine zk_iconst (v := 1) dX4_dearPrice_10 (by decide) ?_
  refine zk_iload_n dX4_dearPrice_11 rfl rfl ?_
  refine zk_ishl dX4_dearPrice_12 ?_
  obtain ⟨g13, h⟩ := zguard h
  refine zk_iald g13 dX4_dearPrice_13 ?_
  refine zk_isub dX4_dearPrice_14 ?_
  have e9 := Option.some.inj h
  subst e9
  exact zk_iret rfl ⟨rfl, rfl⟩ dX4_dearPrice_15
def D_X4_firstBest_B25 (s : zS) (a1 : Int32) (a2 : Int32) (rec25 : Int32 → Option Int32) (a3 : Int32) : Option Int32 :=
    if (s.1 53 1) ≤ a3 then (
      some (-1 : Int32)
    ) else (
      (D_X8_has a2 a3).bind fun p35 =>
      if p35 = 0 then (
        zgd (zin a1 4 = true) <|
        zgd (zoI (zT 54 a1) a3 = true) <|
        zgd (zin (a1 + (1 : Int32)) 5 = true) <|
        zgd (zoI (zT 60 (a1 + (1 : Int32))) (a2 ||| ((1 : Int32) <<< (a3 &&& 31))) = true) <|
        zgd (zin a1 5 = true) <|
        zgd (zoI (zT 60 a1) a2 = true) <|
        if ((s.1 (zT 54 a1) a3.toNatClampNeg) + (s.1 (zT 60 (a1 + (1 : Int32))) (a2 ||| ((1 : Int32) <<< (a3 &&& 31))).toNatClampNeg)) = (s.1 (zT 60 a1) a2.toNatClampNeg) then (
          some a3
        ) else (
          rec25 (a3 + 1)
        )
      ) else (
        rec25 (a3 + 1)
      )
    )
def D_X4_firstBest_L25 (s : zS) (a1 : Int32) (a2 : Int32) (n : Nat) (a3 : Int32) : Option Int32 := zfx (fun (rec : Int32 → Option Int32) q => D_X4_firstBest_B25 s a1 a2 (fun v0 => rec (v0)) q) n (a3)
set_option maxRecDepth 100000 in
theorem D_X4_firstBest_L25_s (s : zS) (a1 : Int32) (a2 : Int32) (n : Nat) (a3 : Int32) : D_X4_firstBest_L25 s a1 a2 (n + 1) a3 = D_X4_firstBest_B25 s a1 a2 (D_X4_firstBest_L25 s a1 a2 n) a3 := rfl
set_option maxRecDepth 100000 in
theorem ok_X4_firstBest_L25 {l : Launch} {D : va_G} {ad : Nat → Nat} {cA : Nat → ClassId} (hj : zInj ad) (r : Int32) (s : zS) (a1 : Int32) (a2 : Int32) : ∀ (n : Nat) (a3 : Int32), D_X4_firstBest_L25 s a1 a2 n a3 = some r → zOk l D ad cA (zJm jX4_firstBest) (zEnd D ad cA (some (.int r)) s) 25 [some (.ref 53), some (.int a1), some (.int a2), some (.int a3)] [] s := by
  intro n
  induction n with
  | zero =>
    intro a3 h
    have h0 : (none : Option Int32) = some r := h
    cases h0
  | succ n hr25 =>
    intro a3 h
    have h : D_X4_firstBest_B25 s a1 a2 (D_X4_firstBest_L25 s a1 a2 n) a3 = some r := h
    unfold D_X4_firstBest_B25 at h
    refine zk_iload_n dX4_firstBest_25 rfl rfl ?_
    refine zk_aload_n dX4_firstBest_26 rfl rfl ?_
    refine zf_X4_15 rfl dX4_firstBest_27 ?_
    refine zk_icmp_ge (tgt := 83) dX4_firstBest_30 rfl (fun g30 => ?_) (fun g30 => ?_)
    · replace h := zpos g30 h
      refine zk_iconst (v := -1) dX4_firstBest_83 (by decide) ?_
      have e9 := Option.some.inj h
      subst e9
      exact zk_iret rfl ⟨rfl, rfl⟩ dX4_firstBest_84
    · replace h := zneg g30 h
      refine zk_iload_n dX4_firstBest_33 rfl rfl ?_
      refine zk_iload_n dX4_firstBest_34 rfl rfl ?_
      obtain ⟨p35, h35, h⟩ := zbind h
      refine zc_X4_46 [] (As := [.int _, .int _]) (ok_X8_has hj _ _ _ h35) rfl ⟨Nat.le_of_ble_eq_true rfl, Nat.le_of_ble_eq_true rfl⟩ ⟨Nat.le_refl _, Nat.le_refl _⟩ rfl rfl (Nat.le_of_ble_eq_true rfl) dX4_firstBest_35 ?_
      refine zk_if_ne (tgt := 77) dX4_firstBest_38 rfl (fun g38 => ?_) (fun g38 => ?_)
      · replace h := zneg g38 h
        refine zk_iinc dX4_firstBest_77 rfl (zinc (m := 1) (by decide)) (by decide) (zk_eq [_, _, _, _] rfl ?_)
        refine zk_goto (tgt := 25) dX4_firstBest_80 rfl ?_
        exact hr25 _ h
      · replace h := zpos g38 h
        refine zk_aload_n dX4_firstBest_41 rfl rfl ?_
        refine zf_X4_20 rfl dX4_firstBest_42 ?_
        refine zk_iload_n dX4_firstBest_45 rfl rfl ?_
        obtain ⟨g46, h⟩ := zguard h
        refine zk_aald (zoR_of ⟨rfl, rfl, by decide, by decide⟩ g46) dX4_firstBest_46 ?_
        refine zk_iload_n dX4_firstBest_47 rfl rfl ?_
        obtain ⟨g48, h⟩ := zguard h
        refine zk_iald g48 dX4_firstBest_48 ?_
        refine zk_aload_n dX4_firstBest_49 rfl rfl ?_
        refine zf_X4_27 rfl dX4_firstBest_50 ?_
        refine zk_iload_n dX4_firstBest_53 rfl rfl ?_
        refine zk_iconst (v := 1) dX4_firstBest_54 (by decide) ?_
        refine zk_iadd dX4_firstBest_55 ?_
        obtain ⟨g56, h⟩ := zguard h
        refine zk_aald (zoR_of ⟨rfl, rfl, by decide, by decide⟩ g56) dX4_firstBest_56 ?_
        refine zk_iload_n dX4_firstBest_57 rfl rfl ?_
        refine zk_iconst (v := 1) dX4_firstBest_58 (by decide) ?_
        refine zk_iload_n dX4_firstBest_59 rfl rfl ?_
        refine zk_ishl dX4_firstBest_60 ?_
        refine zk_ior dX4_firstBest_61 ?_
        obtain ⟨g62, h⟩ := zguard h
        refine zk_iald g62 dX4_firstBest_62 ?_
        refine zk_iadd dX4_firstBest_63 ?_
        refine zk_aload_n dX4_firstBest_64 rfl rfl ?_
        refine zf_X4_27 rfl dX4_firstBest_65 ?_
        refine zk_iload_n dX4_firstBest_68 rfl rfl ?_
        obtain ⟨g69, h⟩ := zguard h
        refine zk_aald (zoR_of ⟨rfl, rfl, by decide, by decide⟩ g69) dX4_firstBest_69 ?_
        refine zk_iload_n dX4_firstBest_70 rfl rfl ?_
        obtain ⟨g71, h⟩ := zguard h
        refine zk_iald g71 dX4_firstBest_71 ?_
        refine zk_icmp_ne (tgt := 77) dX4_firstBest_72 rfl (fun g72 => ?_) (fun g72 => ?_)
        · replace h := zneg g72 h
          refine zk_iinc dX4_firstBest_77 rfl (zinc (m := 1) (by decide)) (by decide) (zk_eq [_, _, _, _] rfl ?_)
          refine zk_goto (tgt := 25) dX4_firstBest_80 rfl ?_
          exact hr25 _ h
        · replace h := zpos g72 h
          refine zk_iload_n dX4_firstBest_75 rfl rfl ?_
          have e9 := Option.some.inj h
          subst e9
          exact zk_iret rfl ⟨rfl, rfl⟩ dX4_firstBest_76
def D_X4_firstBest (s : zS) (a1 : Int32) (a2 : Int32) : Option Int32 :=
  zgd (zin (a1 + (1 : Int32)) 5 = true) <|
  zgd (zoI (zT 60 (a1 + (1 : Int32))) a2 = true) <|
  zgd (zin a1 5 = true) <|
  zgd (zoI (zT 60 a1) a2 = true) <|
  if (s.1 (zT 60 (a1 + (1 : Int32))) a2.toNatClampNeg) = (s.1 (zT 60 a1) a2.toNatClampNeg) then (
    some (-1 : Int32)
  ) else (
    D_X4_firstBest_L25 s a1 a2 zFU (0 : Int32)
  )
set_option maxRecDepth 100000 in
theorem ok_X4_firstBest {l : Launch} {D : va_G} {ad : Nat → Nat} {cA : Nat → ClassId} (hj : zInj ad) (s : zS) (a1 : Int32) (a2 : Int32) {r : Int32} (h : D_X4_firstBest s a1 a2 = some r) : zMet l D ad cA jX4_firstBest [.ref 53, .int a1, .int a2] s (some (.int r)) s := by
  refine zMet_of jX4_firstBest [some (.ref 53), some (.int a1), some (.int a2), none] (by decide +kernel) (Nat.le_of_ble_eq_true rfl) rfl hj ?_
  unfold D_X4_firstBest at h
  refine zk_aload_n dX4_firstBest_0 rfl rfl ?_
  refine zf_X4_27 rfl dX4_firstBest_1 ?_
  refine zk_iload_n dX4_firstBest_4 rfl rfl ?_
  refine zk_iconst (v := 1) dX4_firstBest_5 (by decide) ?_
  refine zk_iadd dX4_firstBest_6 ?_
  obtain ⟨g7, h⟩ := zguard h
  refine zk_aald (zoR_of ⟨rfl, rfl, by decide, by decide⟩ g7) dX4_firstBest_7 ?_
  refine zk_iload_n dX4_firstBest_8 rfl rfl ?_
  obtain ⟨g9, h⟩ := zguard h
  refine zk_iald g9 dX4_firstBest_9 ?_
  refine zk_aload_n dX4_firstBest_10 rfl rfl ?_
  refine zf_X4_27 rfl dX4_firstBest_11 ?_
  refine zk_iload_n dX4_firstBest_14 rfl rfl ?_
  obtain ⟨g15, h⟩ := zguard h
  refine zk_aald (zoR_of ⟨rfl, rfl, by decide, by decide⟩ g15) dX4_firstBest_15 ?_
  refine zk_iload_n dX4_firstBest_16 rfl rfl ?_
  obtain ⟨g17, h⟩ := zguard h
  refine zk_iald g17 dX4_firstBest_17 ?_
  refine zk_icmp_ne (tgt := 23) dX4_firstBest_18 rfl (fun g18 => ?_) (fun g18 => ?_)
  · replace h := zneg g18 h
    refine zk_iconst (v := 0) dX4_firstBest_23 (by decide) ?_
    refine zk_istore_n (i := 3) dX4_firstBest_24 rfl (by decide) (zk_eq [_, _, _, _] rfl ?_)
    exact ok_X4_firstBest_L25 hj r _ _ _ _ _ h
  · replace h := zpos g18 h
    refine zk_iconst (v := -1) dX4_firstBest_21 (by decide) ?_
    have e9 := Option.some.inj h
    subst e9
    exact zk_iret rfl ⟨rfl, rfl⟩ dX4_firstBest_22
def D_X4_greatestLessPrice_B4 (s : zS) (a1 : Int32) (rec4 : Int32 → Int32 → Option Int32) (a2 : Int32) (a3 : Int32) : Option Int32 :=
    if (s.1 53 1) ≤ a3 then (
      some a2
    ) else (
      zgd (zin a1 4 = true) <|
      zgd (zoI (zT 54 a1) a3 = true) <|
      zgd (zin a3 4 = true) <|
      rec4 (zmax a2 ((s.1 (zT 54 a1) a3.toNatClampNeg) - (s.1 59 a3.toNatClampNeg))) (a3 + 1)
    )
def D_X4_greatestLessPrice_L4 (s : zS) (a1 : Int32) (n : Nat) (a2 : Int32) (a3 : Int32) : Option Int32 := zfx (fun (rec : Int32 × Int32 → Option Int32) q => D_X4_greatestLessPrice_B4 s a1 (fun v0 v1 => rec (v0, v1)) q.1 q.2) n (a2, a3)
set_option maxRecDepth 100000 in
theorem D_X4_greatestLessPrice_L4_s (s : zS) (a1 : Int32) (n : Nat) (a2 : Int32) (a3 : Int32) : D_X4_greatestLessPrice_L4 s a1 (n + 1) a2 a3 = D_X4_greatestLessPrice_B4 s a1 (D_X4_greatestLessPrice_L4 s a1 n) a2 a3 := rfl
set_option maxRecDepth 100000 in
theorem ok_X4_greatestLessPrice_L4 {l : Launch} {D : va_G} {ad : Nat → Nat} {cA : Nat → ClassId} (hj : zInj ad) (r : Int32) (s : zS) (a1 : Int32) : ∀ (n : Nat) (a2 : Int32) (a3 : Int32), D_X4_greatestLessPrice_L4 s a1 n a2 a3 = some r → zOk l D ad cA (zJm jX4_greatestLessPrice) (zEnd D ad cA (some (.int r)) s) 4 [some (.ref 53), some (.int a1), some (.int a2), some (.int a3)] [] s := by
  intro n
  induction n with
  | zero =>
    intro a2 a3 h
    have h0 : (none : Option Int32) = some r := h
    cases h0
  | succ n hr4 =>
    intro a2 a3 h
    have h : D_X4_greatestLessPrice_B4 s a1 (D_X4_greatestLessPrice_L4 s a1 n) a2 a3 = some r := h
    unfold D_X4_greatestLessPrice_B4 at h
    refine zk_iload_n dX4_greatestLessPrice_4 rfl rfl ?_
    refine zk_aload_n dX4_greatestLessPrice_5 rfl rfl ?_
    refine zf_X4_15 rfl dX4_greatestLessPrice_6 ?_
    refine zk_icmp_ge (tgt := 38) dX4_greatestLessPrice_9 rfl (fun g9 => ?_) (fun g9 => ?_)
    · replace h := zpos g9 h
      refine zk_iload_n dX4_greatestLessPrice_38 rfl rfl ?_
      have e9 := Option.some.inj h
      subst e9
      exact zk_iret rfl ⟨rfl, rfl⟩ dX4_greatestLessPrice_39
    · replace h := zneg g9 h
      refine zk_iload_n dX4_greatestLessPrice_12 rfl rfl ?_
      refine zk_aload_n dX4_greatestLessPrice_13 rfl rfl ?_
      refine zf_X4_20 rfl dX4_greatestLessPrice_14 ?_
      refine zk_iload_n dX4_greatestLessPrice_17 rfl rfl ?_
      obtain ⟨g18, h⟩ := zguard h
      refine zk_aald (zoR_of ⟨rfl, rfl, by decide, by decide⟩ g18) dX4_greatestLessPrice_18 ?_
      refine zk_iload_n dX4_greatestLessPrice_19 rfl rfl ?_
      obtain ⟨g20, h⟩ := zguard h
      refine zk_iald g20 dX4_greatestLessPrice_20 ?_
      refine zk_aload_n dX4_greatestLessPrice_21 rfl rfl ?_
      refine zf_X4_23 rfl dX4_greatestLessPrice_22 ?_
      refine zk_iload_n dX4_greatestLessPrice_25 rfl rfl ?_
      obtain ⟨g26, h⟩ := zguard h
      refine zk_iald (zoI_of rfl g26) dX4_greatestLessPrice_26 ?_
      refine zk_isub dX4_greatestLessPrice_27 ?_
      refine zk_mmax zmw_X4_50 (Nat.le_of_ble_eq_true rfl) (Nat.le_of_ble_eq_true rfl) ⟨Nat.le_refl _, Nat.le_refl _⟩ dX4_greatestLessPrice_28 ?_
      refine zk_istore_n (i := 2) dX4_greatestLessPrice_31 rfl (by decide) (zk_eq [_, _, _, _] rfl ?_)
      refine zk_iinc dX4_greatestLessPrice_32 rfl (zinc (m := 1) (by decide)) (by decide) (zk_eq [_, _, _, _] rfl ?_)
      refine zk_goto (tgt := 4) dX4_greatestLessPrice_35 rfl ?_
      exact hr4 _ _ h
def D_X4_greatestLessPrice (s : zS) (a1 : Int32) : Option Int32 :=
  D_X4_greatestLessPrice_L4 s a1 zFU (0 : Int32) (0 : Int32)
set_option maxRecDepth 100000 in
theorem ok_X4_greatestLessPrice {l : Launch} {D : va_G} {ad : Nat → Nat} {cA : Nat → ClassId} (hj : zInj ad) (s : zS) (a1 : Int32) {r : Int32} (h : D_X4_greatestLessPrice s a1 = some r) : zMet l D ad cA jX4_greatestLessPrice [.ref 53, .int a1] s (some (.int r)) s := by
  refine zMet_of jX4_greatestLessPrice [some (.ref 53), some (.int a1), none, none] (by decide +kernel) (Nat.le_of_ble_eq_true rfl) rfl hj ?_
  unfold D_X4_greatestLessPrice at h
  refine zk_iconst (v := 0) dX4_greatestLessPrice_0 (by decide) ?_
  refine zk_istore_n (i := 2) dX4_greatestLessPrice_1 rfl (by decide) (zk_eq [_, _, _, _] rfl ?_)
  refine zk_iconst (v := 0) dX4_greatestLessPrice_2 (by decide) ?_
  refine zk_istore_n (i := 3) dX4_greatestLessPrice_3 rfl (by decide) (zk_eq [_, _, _, _] rfl ?_)
  exact ok_X4_greatestLessPrice_L4 hj r _ _ _ _ _ h
def D_X4_knowsBuyer (s : zS) (a1 : Int32) : Option Int32 :=
  (D_X8_within a1 (0 : Int32) ((s.1 53 0) - (1 : Int32))).bind fun p8 =>
  zgd (p8 = 0 ∨ p8 = 1) <|
  some p8
set_option maxRecDepth 100000 in
theorem ok_X4_knowsBuyer {l : Launch} {D : va_G} {ad : Nat → Nat} {cA : Nat → ClassId} (hj : zInj ad) (s : zS) (a1 : Int32) {r : Int32} (h : D_X4_knowsBuyer s a1 = some r) : zMet l D ad cA jX4_knowsBuyer [.ref 53, .int a1] s (some (.int r)) s := by
  refine zMet_of jX4_knowsBuyer [some (.ref 53), some (.int a1)] (by decide +kernel) (Nat.le_of_ble_eq_true rfl) rfl hj ?_
  unfold D_X4_knowsBuyer at h
  refine zk_iload_n dX4_knowsBuyer_0 rfl rfl ?_
  refine zk_iconst (v := 0) dX4_knowsBuyer_1 (by decide) ?_
  refine zk_aload_n dX4_knowsBuyer_2 rfl rfl ?_
  refine zf_X4_9 rfl dX4_knowsBuyer_3 ?_
  refine zk_iconst (v := 1) dX4_knowsBuyer_6 (by decide) ?_
  refine zk_isub dX4_knowsBuyer_7 ?_
  obtain ⟨p8, h8, h⟩ := zbind h
  refine zc_X4_30 [] (As := [.int _, .int _, .int _]) (ok_X8_within hj _ _ _ _ h8) rfl ⟨Nat.le_of_ble_eq_true rfl, Nat.le_of_ble_eq_true rfl⟩ ⟨Nat.le_refl _, Nat.le_refl _⟩ rfl rfl (Nat.le_of_ble_eq_true rfl) dX4_knowsBuyer_8 ?_
  obtain ⟨hx11, h⟩ := zguard h
  have e9 := Option.some.inj h
  subst e9
  exact zk_zret rfl hx11 ⟨rfl, rfl⟩ dX4_knowsBuyer_11
def D_X4_mixInto_B57 (s : zS) (rec57 : Int64 → Int32 → Option Int64) (a3 : Int64) (a5 : Int32) : Option Int64 :=
    if (s.1 53 1) ≤ a5 then (
      some a3
    ) else (
      zgd (zin a5 4 = true) <|
      (D_X8_mix a3 ((s.1 59 a5.toNatClampNeg).toInt64)).bind fun p75 =>
      rec57 p75 (a5 + 1)
    )
def D_X4_mixInto_L57 (s : zS) (n : Nat) (a3 : Int64) (a5 : Int32) : Option Int64 := zfx (fun (rec : Int64 × Int32 → Option Int64) q => D_X4_mixInto_B57 s (fun v0 v1 => rec (v0, v1)) q.1 q.2) n (a3, a5)
set_option maxRecDepth 100000 in
theorem D_X4_mixInto_L57_s (s : zS) (n : Nat) (a3 : Int64) (a5 : Int32) : D_X4_mixInto_L57 s (n + 1) a3 a5 = D_X4_mixInto_B57 s (D_X4_mixInto_L57 s n) a3 a5 := rfl
set_option maxRecDepth 100000 in
theorem ok_X4_mixInto_L57 {l : Launch} {D : va_G} {ad : Nat → Nat} {cA : Nat → ClassId} (hj : zInj ad) (r : Int64) (s : zS) : ∀ (n : Nat) (a3 : Int64) (a5 : Int32), D_X4_mixInto_L57 s n a3 a5 = some r → zOk l D ad cA (zJm jX4_mixInto) (zEnd D ad cA (some (.long r)) s) 57 [some (.ref 53), none, none, some (.long a3), none, some (.int a5), none] [] s := by
  intro n
  induction n with
  | zero =>
    intro a3 a5 h
    have h0 : (none : Option Int64) = some r := h
    cases h0
  | succ n hr57 =>
    intro a3 a5 h
    have h : D_X4_mixInto_B57 s (D_X4_mixInto_L57 s n) a3 a5 = some r := h
    unfold D_X4_mixInto_B57 at h
    refine zk_iload dX4_mixInto_57 rfl ?_
    refine zk_aload_n dX4_mixInto_59 rfl rfl ?_
    refine zf_X4_15 rfl dX4_mixInto_60 ?_
    refine zk_icmp_ge (tgt := 85) dX4_mixInto_63 rfl (fun g63 => ?_) (fun g63 => ?_)
    · replace h := zpos g63 h
      refine zk_lload_n dX4_mixInto_85 rfl rfl ?_
      have e9 := Option.some.inj h
      subst e9
      exact zk_lret rfl ⟨rfl, rfl⟩ dX4_mixInto_86
    · replace h := zneg g63 h
      refine zk_lload_n dX4_mixInto_66 rfl rfl ?_
      refine zk_aload_n dX4_mixInto_67 rfl rfl ?_
      refine zf_X4_23 rfl dX4_mixInto_68 ?_
      refine zk_iload dX4_mixInto_71 rfl ?_
      obtain ⟨g73, h⟩ := zguard h
      refine zk_iald (zoI_of rfl g73) dX4_mixInto_73 ?_
      refine zk_i2l dX4_mixInto_74 ?_
      obtain ⟨p75, h75, h⟩ := zbind h
      refine zc_X4_70 [] (As := [.long _, .long _]) (ok_X8_mix hj _ _ _ h75) rfl ⟨Nat.le_of_ble_eq_true rfl, Nat.le_of_ble_eq_true rfl⟩ ⟨Nat.le_refl _, Nat.le_refl _⟩ rfl rfl (Nat.le_of_ble_eq_true rfl) dX4_mixInto_75 ?_
      refine zk_lstore_n (i := 3) dX4_mixInto_78 rfl (by decide) (zk_eq [_, _, _, _, _, _, _] rfl ?_)
      refine zk_iinc dX4_mixInto_79 rfl (zinc (m := 1) (by decide)) (by decide) (zk_eq [_, _, _, _, _, _, _] rfl ?_)
      refine zk_goto (tgt := 57) dX4_mixInto_82 rfl ?_
      exact hr57 _ _ h
def D_X4_mixInto_B17 (rec5 : Int64 → Int32 → Option Int64) (s : zS) (a5 : Int32) (rec17 : Int64 → Int32 → Option Int64) (a3 : Int64) (a6 : Int32) : Option Int64 :=
    if (s.1 53 1) ≤ a6 then (
      rec5 a3 (a5 + 1)
    ) else (
      zgd (zin a5 4 = true) <|
      zgd (zoI (zT 54 a5) a6 = true) <|
      (D_X8_mix a3 ((s.1 (zT 54 a5) a6.toNatClampNeg).toInt64)).bind fun p38 =>
      rec17 p38 (a6 + 1)
    )
def D_X4_mixInto_L17 (rec5 : Int64 → Int32 → Option Int64) (s : zS) (a5 : Int32) (n : Nat) (a3 : Int64) (a6 : Int32) : Option Int64 := zfx (fun (rec : Int64 × Int32 → Option Int64) q => D_X4_mixInto_B17 rec5 s a5 (fun v0 v1 => rec (v0, v1)) q.1 q.2) n (a3, a6)
set_option maxRecDepth 100000 in
theorem D_X4_mixInto_L17_s (rec5 : Int64 → Int32 → Option Int64) (s : zS) (a5 : Int32) (n : Nat) (a3 : Int64) (a6 : Int32) : D_X4_mixInto_L17 rec5 s a5 (n + 1) a3 a6 = D_X4_mixInto_B17 rec5 s a5 (D_X4_mixInto_L17 rec5 s a5 n) a3 a6 := rfl
set_option maxRecDepth 100000 in
theorem ok_X4_mixInto_L17 {l : Launch} {D : va_G} {ad : Nat → Nat} {cA : Nat → ClassId} (hj : zInj ad) (r : Int64) (s : zS) (a5 : Int32) (rec5 : Int64 → Int32 → Option Int64) (hr5 : ∀ (b3 : Int64) (b5 : Int32), rec5 b3 b5 = some r → zOk l D ad cA (zJm jX4_mixInto) (zEnd D ad cA (some (.long r)) s) 5 [some (.ref 53), none, none, some (.long b3), none, some (.int b5), none] [] s) : ∀ (n : Nat) (a3 : Int64) (a6 : Int32), D_X4_mixInto_L17 rec5 s a5 n a3 a6 = some r → zOk l D ad cA (zJm jX4_mixInto) (zEnd D ad cA (some (.long r)) s) 17 [some (.ref 53), none, none, some (.long a3), none, some (.int a5), some (.int a6)] [] s := by
  intro n
  induction n with
  | zero =>
    intro a3 a6 h
    have h0 : (none : Option Int64) = some r := h
    cases h0
  | succ n hr17 =>
    intro a3 a6 h
    have h : D_X4_mixInto_B17 rec5 s a5 (D_X4_mixInto_L17 rec5 s a5 n) a3 a6 = some r := h
    unfold D_X4_mixInto_B17 at h
    refine zk_iload dX4_mixInto_17 rfl ?_
    refine zk_aload_n dX4_mixInto_19 rfl rfl ?_
    refine zf_X4_15 rfl dX4_mixInto_20 ?_
    refine zk_icmp_ge (tgt := 48) dX4_mixInto_23 rfl (fun g23 => ?_) (fun g23 => ?_)
    · replace h := zpos g23 h
      refine zk_iinc dX4_mixInto_48 rfl (zinc (m := 1) (by decide)) (by decide) (zk_eq [_, _, _, _, _, _, _] rfl ?_)
      refine zk_goto (tgt := 5) dX4_mixInto_51 rfl ?_
      refine zk_mask [true, false, false, true, false, true, false] ?_
      exact hr5 _ _ h
    · replace h := zneg g23 h
      refine zk_lload_n dX4_mixInto_26 rfl rfl ?_
      refine zk_aload_n dX4_mixInto_27 rfl rfl ?_
      refine zf_X4_20 rfl dX4_mixInto_28 ?_
      refine zk_iload dX4_mixInto_31 rfl ?_
      obtain ⟨g33, h⟩ := zguard h
      refine zk_aald (zoR_of ⟨rfl, rfl, by decide, by decide⟩ g33) dX4_mixInto_33 ?_
      refine zk_iload dX4_mixInto_34 rfl ?_
      obtain ⟨g36, h⟩ := zguard h
      refine zk_iald g36 dX4_mixInto_36 ?_
      refine zk_i2l dX4_mixInto_37 ?_
      obtain ⟨p38, h38, h⟩ := zbind h
      refine zc_X4_70 [] (As := [.long _, .long _]) (ok_X8_mix hj _ _ _ h38) rfl ⟨Nat.le_of_ble_eq_true rfl, Nat.le_of_ble_eq_true rfl⟩ ⟨Nat.le_refl _, Nat.le_refl _⟩ rfl rfl (Nat.le_of_ble_eq_true rfl) dX4_mixInto_38 ?_
      refine zk_lstore_n (i := 3) dX4_mixInto_41 rfl (by decide) (zk_eq [_, _, _, _, _, _, _] rfl ?_)
      refine zk_iinc dX4_mixInto_42 rfl (zinc (m := 1) (by decide)) (by decide) (zk_eq [_, _, _, _, _, _, _] rfl ?_)
      refine zk_goto (tgt := 17) dX4_mixInto_45 rfl ?_
      exact hr17 _ _ h
def D_X4_mixInto_B5 (s : zS) (rec5 : Int64 → Int32 → Option Int64) (a3 : Int64) (a5 : Int32) : Option Int64 :=
    if (s.1 53 0) ≤ a5 then (
      D_X4_mixInto_L57 s zFU a3 (0 : Int32)
    ) else (
      D_X4_mixInto_L17 rec5 s a5 zFU a3 (0 : Int32)
    )
def D_X4_mixInto_L5 (s : zS) (n : Nat) (a3 : Int64) (a5 : Int32) : Option Int64 := zfx (fun (rec : Int64 × Int32 → Option Int64) q => D_X4_mixInto_B5 s (fun v0 v1 => rec (v0, v1)) q.1 q.2) n (a3, a5)
set_option maxRecDepth 100000 in
theorem D_X4_mixInto_L5_s (s : zS) (n : Nat) (a3 : Int64) (a5 : Int32) : D_X4_mixInto_L5 s (n + 1) a3 a5 = D_X4_mixInto_B5 s (D_X4_mixInto_L5 s n) a3 a5 := rfl
set_option maxRecDepth 100000 in
theorem ok_X4_mixInto_L5 {l : Launch} {D : va_G} {ad : Nat → Nat} {cA : Nat → ClassId} (hj : zInj ad) (r : Int64) (s : zS) : ∀ (n : Nat) (a3 : Int64) (a5 : Int32), D_X4_mixInto_L5 s n a3 a5 = some r → zOk l D ad cA (zJm jX4_mixInto) (zEnd D ad cA (some (.long r)) s) 5 [some (.ref 53), none, none, some (.long a3), none, some (.int a5), none] [] s := by
  intro n
  induction n with
  | zero =>
    intro a3 a5 h
    have h0 : (none : Option Int64) = some r := h
    cases h0
  | succ n hr5 =>
    intro a3 a5 h
    have h : D_X4_mixInto_B5 s (D_X4_mixInto_L5 s n) a3 a5 = some r := h
    unfold D_X4_mixInto_B5 at h
    refine zk_iload dX4_mixInto_5 rfl ?_
    refine zk_aload_n dX4_mixInto_7 rfl rfl ?_
    refine zf_X4_9 rfl dX4_mixInto_8 ?_
    refine zk_icmp_ge (tgt := 54) dX4_mixInto_11 rfl (fun g11 => ?_) (fun g11 => ?_)
    · replace h := zpos g11 h
      refine zk_iconst (v := 0) dX4_mixInto_54 (by decide) ?_
      refine zk_istore (i := 5) dX4_mixInto_55 (by decide) (zk_eq [_, _, _, _, _, _, _] rfl ?_)
      exact ok_X4_mixInto_L57 hj r _ _ _ _ h
    · replace h := zneg g11 h
      refine zk_iconst (v := 0) dX4_mixInto_14 (by decide) ?_
      refine zk_istore (i := 6) dX4_mixInto_15 (by decide) (zk_eq [_, _, _, _, _, _, _] rfl ?_)
      exact ok_X4_mixInto_L17 hj r _ _ _ hr5 _ _ _ h
def D_X4_mixInto (s : zS) (a1 : Int64) : Option Int64 :=
  D_X4_mixInto_L5 s zFU a1 (0 : Int32)
set_option maxRecDepth 100000 in
theorem ok_X4_mixInto {l : Launch} {D : va_G} {ad : Nat → Nat} {cA : Nat → ClassId} (hj : zInj ad) (s : zS) (a1 : Int64) {r : Int64} (h : D_X4_mixInto s a1 = some r) : zMet l D ad cA jX4_mixInto [.ref 53, .long a1] s (some (.long r)) s := by
  refine zMet_of jX4_mixInto [some (.ref 53), some (.long a1), none, none, none, none, none] (by decide +kernel) (Nat.le_of_ble_eq_true rfl) rfl hj ?_
  unfold D_X4_mixInto at h
  refine zk_lload_n dX4_mixInto_0 rfl rfl ?_
  refine zk_lstore_n (i := 3) dX4_mixInto_1 rfl (by decide) (zk_eq [_, _, _, _, _, _, _] rfl ?_)
  refine zk_iconst (v := 0) dX4_mixInto_2 (by decide) ?_
  refine zk_istore (i := 5) dX4_mixInto_3 (by decide) (zk_eq [_, _, _, _, _, _, _] rfl ?_)
  refine zk_mask [true, false, false, true, false, true, false] ?_
  exact ok_X4_mixInto_L5 hj r _ _ _ _ h
def D_X4_pricesFit_B29 (s : zS) (rec29 : Int32 → Int32 → Option (Int32 × zS)) (a1 : Int32) (a2 : Int32) : Option (Int32 × zS) :=
    if (s.1 53 0) ≤ a2 then (
      (D_X4_greatestSum s).bind fun p53 =>
      if a1 = p53.1 then (
        some ((1 : Int32), p53.2)
      ) else (
        some ((0 : Int32), p53.2)
      )
    ) else (
      (D_X4_greatestLessPrice s a2).bind fun p40 =>
      rec29 (a1 + p40) (a2 + 1)
    )
def D_X4_pricesFit_L29 (s : zS) (n : Nat) (a1 : Int32) (a2 : Int32) : Option (Int32 × zS) := zfx (fun (rec : Int32 × Int32 → Option (Int32 × zS)) q => D_X4_pricesFit_B29 s (fun v0 v1 => rec (v0, v1)) q.1 q.2) n (a1, a2)
set_option maxRecDepth 100000 in
theorem D_X4_pricesFit_L29_s (s : zS) (n : Nat) (a1 : Int32) (a2 : Int32) : D_X4_pricesFit_L29 s (n + 1) a1 a2 = D_X4_pricesFit_B29 s (D_X4_pricesFit_L29 s n) a1 a2 := rfl
set_option maxRecDepth 100000 in
theorem ok_X4_pricesFit_L29 {l : Launch} {D : va_G} {ad : Nat → Nat} {cA : Nat → ClassId} (hj : zInj ad) (r : (Int32 × zS)) (s : zS) : ∀ (n : Nat) (a1 : Int32) (a2 : Int32), D_X4_pricesFit_L29 s n a1 a2 = some r → zOk l D ad cA (zJm jX4_pricesFit) (zEnd D ad cA (some (.int r.1)) r.2) 29 [some (.ref 53), some (.int a1), some (.int a2)] [] s := by
  intro n
  induction n with
  | zero =>
    intro a1 a2 h
    have h0 : (none : Option (Int32 × zS)) = some r := h
    cases h0
  | succ n hr29 =>
    intro a1 a2 h
    have h : D_X4_pricesFit_B29 s (D_X4_pricesFit_L29 s n) a1 a2 = some r := h
    unfold D_X4_pricesFit_B29 at h
    refine zk_iload_n dX4_pricesFit_29 rfl rfl ?_
    refine zk_aload_n dX4_pricesFit_30 rfl rfl ?_
    refine zf_X4_9 rfl dX4_pricesFit_31 ?_
    refine zk_icmp_ge (tgt := 51) dX4_pricesFit_34 rfl (fun g34 => ?_) (fun g34 => ?_)
    · replace h := zpos g34 h
      refine zk_iload_n dX4_pricesFit_51 rfl rfl ?_
      refine zk_aload_n dX4_pricesFit_52 rfl rfl ?_
      obtain ⟨p53, h53, h⟩ := zbind h
      refine zc_X4_62 [.int _] (As := []) (ok_X4_greatestSum hj _ h53) rfl ⟨Nat.le_of_ble_eq_true rfl, Nat.le_of_ble_eq_true rfl⟩ ⟨Nat.le_refl _, Nat.le_refl _⟩ rfl rfl (Nat.le_of_ble_eq_true rfl) dX4_pricesFit_53 ?_
      refine zk_icmp_ne (tgt := 63) dX4_pricesFit_56 rfl (fun g56 => ?_) (fun g56 => ?_)
      · replace h := zneg g56 h
        refine zk_iconst (v := 0) dX4_pricesFit_63 (by decide) ?_
        have e9 := Option.some.inj h
        subst e9
        exact zk_zret rfl (Or.inl rfl) ⟨rfl, rfl⟩ dX4_pricesFit_64
      · replace h := zpos g56 h
        refine zk_iconst (v := 1) dX4_pricesFit_59 (by decide) ?_
        refine zk_goto (tgt := 64) dX4_pricesFit_60 rfl ?_
        have e9 := Option.some.inj h
        subst e9
        exact zk_zret rfl (Or.inr rfl) ⟨rfl, rfl⟩ dX4_pricesFit_64
    · replace h := zneg g34 h
      refine zk_iload_n dX4_pricesFit_37 rfl rfl ?_
      refine zk_aload_n dX4_pricesFit_38 rfl rfl ?_
      refine zk_iload_n dX4_pricesFit_39 rfl rfl ?_
      obtain ⟨p40, h40, h⟩ := zbind h
      refine zc_X4_66 [.int _] (As := [.int _]) (ok_X4_greatestLessPrice hj _ _ h40) rfl ⟨Nat.le_of_ble_eq_true rfl, Nat.le_of_ble_eq_true rfl⟩ ⟨Nat.le_refl _, Nat.le_refl _⟩ rfl rfl (Nat.le_of_ble_eq_true rfl) dX4_pricesFit_40 ?_
      refine zk_iadd dX4_pricesFit_43 ?_
      refine zk_istore_n (i := 1) dX4_pricesFit_44 rfl (by decide) (zk_eq [_, _, _] rfl ?_)
      refine zk_iinc dX4_pricesFit_45 rfl (zinc (m := 1) (by decide)) (by decide) (zk_eq [_, _, _] rfl ?_)
      refine zk_goto (tgt := 29) dX4_pricesFit_48 rfl ?_
      exact hr29 _ _ h
def D_X4_pricesFit_B4 (s : zS) (rec4 : Int32 → Int32 → Option (Int32 × zS)) (a1 : Int32) (a2 : Int32) : Option (Int32 × zS) :=
    if (s.1 53 1) ≤ a2 then (
      D_X4_pricesFit_L29 s zFU a1 (0 : Int32)
    ) else (
      zgd (zin a2 4 = true) <|
      rec4 (a1 + (s.1 59 a2.toNatClampNeg)) (a2 + 1)
    )
def D_X4_pricesFit_L4 (s : zS) (n : Nat) (a1 : Int32) (a2 : Int32) : Option (Int32 × zS) := zfx (fun (rec : Int32 × Int32 → Option (Int32 × zS)) q => D_X4_pricesFit_B4 s (fun v0 v1 => rec (v0, v1)) q.1 q.2) n (a1, a2)
set_option maxRecDepth 100000 in
theorem D_X4_pricesFit_L4_s (s : zS) (n : Nat) (a1 : Int32) (a2 : Int32) : D_X4_pricesFit_L4 s (n + 1) a1 a2 = D_X4_pricesFit_B4 s (D_X4_pricesFit_L4 s n) a1 a2 := rfl
set_option maxRecDepth 100000 in
theorem ok_X4_pricesFit_L4 {l : Launch} {D : va_G} {ad : Nat → Nat} {cA : Nat → ClassId} (hj : zInj ad) (r : (Int32 × zS)) (s : zS) : ∀ (n : Nat) (a1 : Int32) (a2 : Int32), D_X4_pricesFit_L4 s n a1 a2 = some r → zOk l D ad cA (zJm jX4_pricesFit) (zEnd D ad cA (some (.int r.1)) r.2) 4 [some (.ref 53), some (.int a1), some (.int a2)] [] s := by
  intro n
  induction n with
  | zero =>
    intro a1 a2 h
    have h0 : (none : Option (Int32 × zS)) = some r := h
    cases h0
  | succ n hr4 =>
    intro a1 a2 h
    have h : D_X4_pricesFit_B4 s (D_X4_pricesFit_L4 s n) a1 a2 = some r := h
    unfold D_X4_pricesFit_B4 at h
    refine zk_iload_n dX4_pricesFit_4 rfl rfl ?_
    refine zk_aload_n dX4_pricesFit_5 rfl rfl ?_
    refine zf_X4_15 rfl dX4_pricesFit_6 ?_
    refine zk_icmp_ge (tgt := 27) dX4_pricesFit_9 rfl (fun g9 => ?_) (fun g9 => ?_)
    · replace h := zpos g9 h
      refine zk_iconst (v := 0) dX4_pricesFit_27 (by decide) ?_
      refine zk_istore_n (i := 2) dX4_pricesFit_28 rfl (by decide) (zk_eq [_, _, _] rfl ?_)
      exact ok_X4_pricesFit_L29 hj r _ _ _ _ h
    · replace h := zneg g9 h
      refine zk_iload_n dX4_pricesFit_12 rfl rfl ?_
      refine zk_aload_n dX4_pricesFit_13 rfl rfl ?_
      refine zf_X4_23 rfl dX4_pricesFit_14 ?_
      refine zk_iload_n dX4_pricesFit_17 rfl rfl ?_
      obtain ⟨g18, h⟩ := zguard h
      refine zk_iald (zoI_of rfl g18) dX4_pricesFit_18 ?_
      refine zk_iadd dX4_pricesFit_19 ?_
      refine zk_istore_n (i := 1) dX4_pricesFit_20 rfl (by decide) (zk_eq [_, _, _] rfl ?_)
      refine zk_iinc dX4_pricesFit_21 rfl (zinc (m := 1) (by decide)) (by decide) (zk_eq [_, _, _] rfl ?_)
      refine zk_goto (tgt := 4) dX4_pricesFit_24 rfl ?_
      exact hr4 _ _ h
def D_X4_pricesFit (s : zS) : Option (Int32 × zS) :=
  D_X4_pricesFit_L4 s zFU (0 : Int32) (0 : Int32)
set_option maxRecDepth 100000 in
theorem ok_X4_pricesFit {l : Launch} {D : va_G} {ad : Nat → Nat} {cA : Nat → ClassId} (hj : zInj ad) (s : zS)  {r : (Int32 × zS)} (h : D_X4_pricesFit s = some r) : zMet l D ad cA jX4_pricesFit [.ref 53] s (some (.int r.1)) r.2 := by
  refine zMet_of jX4_pricesFit [some (.ref 53), none, none] (by decide +kernel) (Nat.le_of_ble_eq_true rfl) rfl hj ?_
  unfold D_X4_pricesFit at h
  refine zk_iconst (v := 0) dX4_pricesFit_0 (by decide) ?_
  refine zk_istore_n (i := 1) dX4_pricesFit_1 rfl (by decide) (zk_eq [_, _, _] rfl ?_)
  refine zk_iconst (v := 0) dX4_pricesFit_2 (by decide) ?_
  refine zk_istore_n (i := 2) dX4_pricesFit_3 rfl (by decide) (zk_eq [_, _, _] rfl ?_)
  exact ok_X4_pricesFit_L4 hj r _ _ _ _ h
def D_X4_replaceGain (s : zS) (a1 : Int32) (a2 : Int32) (a3 : Int32) : Option (Int32 × zS) :=
  zgd (zin a1 4 = true) <|
  zgd (zoI (zT 54 a1) a2 = true) <|
  zgd (zin a1 4 = true) <|
  zgd (zoI (zT 54 a1) a2 = true) <|
  let s18 : zS := zwI s (zT 54 a1) a2.toNatClampNeg a3
  some ((s.1 (zT 54 a1) a2.toNatClampNeg), s18)
set_option maxRecDepth 100000 in
theorem ok_X4_replaceGain {l : Launch} {D : va_G} {ad : Nat → Nat} {cA : Nat → ClassId} (hj : zInj ad) (s : zS) (a1 : Int32) (a2 : Int32) (a3 : Int32) {r : (Int32 × zS)} (h : D_X4_replaceGain s a1 a2 a3 = some r) : zMet l D ad cA jX4_replaceGain [.ref 53, .int a1, .int a2, .int a3] s (some (.int r.1)) r.2 := by
  refine zMet_of jX4_replaceGain [some (.ref 53), some (.int a1), some (.int a2), some (.int a3), none] (by decide +kernel) (Nat.le_of_ble_eq_true rfl) rfl hj ?_
  unfold D_X4_replaceGain at h
  refine zk_aload_n dX4_replaceGain_0 rfl rfl ?_
  refine zf_X4_20 rfl dX4_replaceGain_1 ?_
  refine zk_iload_n dX4_replaceGain_4 rfl rfl ?_
  obtain ⟨g5, h⟩ := zguard h
  refine zk_aald (zoR_of ⟨rfl, rfl, by decide, by decide⟩ g5) dX4_replaceGain_5 ?_
  refine zk_iload_n dX4_replaceGain_6 rfl rfl ?_
  obtain ⟨g7, h⟩ := zguard h
  refine zk_iald g7 dX4_replaceGain_7 ?_
  refine zk_istore (i := 4) dX4_replaceGain_8 (by decide) (zk_eq [_, _, _, _, _] rfl ?_)
  refine zk_aload_n dX4_replaceGain_10 rfl rfl ?_
  refine zf_X4_20 rfl dX4_replaceGain_11 ?_
  refine zk_iload_n dX4_replaceGain_14 rfl rfl ?_
  obtain ⟨g15, h⟩ := zguard h
  refine zk_aald (zoR_of ⟨rfl, rfl, by decide, by decide⟩ g15) dX4_replaceGain_15 ?_
  refine zk_iload_n dX4_replaceGain_16 rfl rfl ?_
  refine zk_iload_n dX4_replaceGain_17 rfl rfl ?_
  obtain ⟨g18, h⟩ := zguard h
  refine zk_iast g18 dX4_replaceGain_18 ?_
  refine zk_iload dX4_replaceGain_19 rfl ?_
  have e9 := Option.some.inj h
  subst e9
  exact zk_iret rfl ⟨rfl, rfl⟩ dX4_replaceGain_21
def D_X4_replacePrice (s : zS) (a1 : Int32) (a2 : Int32) : Option (Int32 × zS) :=
  zgd (zin a1 4 = true) <|
  zgd (zin a1 4 = true) <|
  let s13 : zS := zwI s 59 a1.toNatClampNeg a2
  some ((s.1 59 a1.toNatClampNeg), s13)
set_option maxRecDepth 100000 in
theorem ok_X4_replacePrice {l : Launch} {D : va_G} {ad : Nat → Nat} {cA : Nat → ClassId} (hj : zInj ad) (s : zS) (a1 : Int32) (a2 : Int32) {r : (Int32 × zS)} (h : D_X4_replacePrice s a1 a2 = some r) : zMet l D ad cA jX4_replacePrice [.ref 53, .int a1, .int a2] s (some (.int r.1)) r.2 := by
  refine zMet_of jX4_replacePrice [some (.ref 53), some (.int a1), some (.int a2), none] (by decide +kernel) (Nat.le_of_ble_eq_true rfl) rfl hj ?_
  unfold D_X4_replacePrice at h
  refine zk_aload_n dX4_replacePrice_0 rfl rfl ?_
  refine zf_X4_23 rfl dX4_replacePrice_1 ?_
  refine zk_iload_n dX4_replacePrice_4 rfl rfl ?_
  obtain ⟨g5, h⟩ := zguard h
  refine zk_iald (zoI_of rfl g5) dX4_replacePrice_5 ?_
  refine zk_istore_n (i := 3) dX4_replacePrice_6 rfl (by decide) (zk_eq [_, _, _, _] rfl ?_)
  refine zk_aload_n dX4_replacePrice_7 rfl rfl ?_
  refine zf_X4_23 rfl dX4_replacePrice_8 ?_
  refine zk_iload_n dX4_replacePrice_11 rfl rfl ?_
  refine zk_iload_n dX4_replacePrice_12 rfl rfl ?_
  obtain ⟨g13, h⟩ := zguard h
  refine zk_iast (zoI_of rfl g13) dX4_replacePrice_13 ?_
  refine zk_iload_n dX4_replacePrice_14 rfl rfl ?_
  have e9 := Option.some.inj h
  subst e9
  exact zk_iret rfl ⟨rfl, rfl⟩ dX4_replacePrice_15
def D_X4_restart_B27 (rec12 : Int32 → zS → Option zS) (a3 : Int32) (rec27 : Int32 → zS → Option zS) (a4 : Int32) (s : zS) : Option zS :=
    if (4 : Int32) ≤ a4 then (
      rec12 (a3 + 1) s
    ) else (
      zgd (zin a4 4 = true) <|
      zgd (zoI (zT 54 a4) a3 = true) <|
      let s42 : zS := zwI s (zT 54 a4) a3.toNatClampNeg (0 : Int32)
      rec27 (a4 + 1) s42
    )
def D_X4_restart_L27 (rec12 : Int32 → zS → Option zS) (a3 : Int32) (n : Nat) (a4 : Int32) (s : zS) : Option zS := zfx (fun (rec : Int32 × zS → Option zS) q => D_X4_restart_B27 rec12 a3 (fun v0 v1 => rec (v0, v1)) q.1 q.2) n (a4, s)
set_option maxRecDepth 100000 in
theorem D_X4_restart_L27_s (rec12 : Int32 → zS → Option zS) (a3 : Int32) (n : Nat) (a4 : Int32) (s : zS) : D_X4_restart_L27 rec12 a3 (n + 1) a4 s = D_X4_restart_B27 rec12 a3 (D_X4_restart_L27 rec12 a3 n) a4 s := rfl
set_option maxRecDepth 100000 in
theorem ok_X4_restart_L27 {l : Launch} {D : va_G} {ad : Nat → Nat} {cA : Nat → ClassId} (hj : zInj ad) (r : zS) (a3 : Int32) (rec12 : Int32 → zS → Option zS) (hr12 : ∀ (b3 : Int32) (s : zS), rec12 b3 s = some r → zOk l D ad cA (zJm jX4_restart) (zEnd D ad cA none r) 12 [some (.ref 53), none, none, some (.int b3), none] [] s) : ∀ (n : Nat) (a4 : Int32) (s : zS), D_X4_restart_L27 rec12 a3 n a4 s = some r → zOk l D ad cA (zJm jX4_restart) (zEnd D ad cA none r) 27 [some (.ref 53), none, none, some (.int a3), some (.int a4)] [] s := by
  intro n
  induction n with
  | zero =>
    intro a4 s h
    have h0 : (none : Option zS) = some r := h
    cases h0
  | succ n hr27 =>
    intro a4 s h
    have h : D_X4_restart_B27 rec12 a3 (D_X4_restart_L27 rec12 a3 n) a4 s = some r := h
    unfold D_X4_restart_B27 at h
    refine zk_iload dX4_restart_27 rfl ?_
    refine zk_iconst (v := 4) dX4_restart_29 (by decide) ?_
    refine zk_icmp_ge (tgt := 49) dX4_restart_30 rfl (fun g30 => ?_) (fun g30 => ?_)
    · replace h := zpos g30 h
      refine zk_iinc dX4_restart_49 rfl (zinc (m := 1) (by decide)) (by decide) (zk_eq [_, _, _, _, _] rfl ?_)
      refine zk_goto (tgt := 12) dX4_restart_52 rfl ?_
      refine zk_mask [true, false, false, true, false] ?_
      exact hr12 _ _ h
    · replace h := zneg g30 h
      refine zk_aload_n dX4_restart_33 rfl rfl ?_
      refine zf_X4_20 rfl dX4_restart_34 ?_
      refine zk_iload dX4_restart_37 rfl ?_
      obtain ⟨g39, h⟩ := zguard h
      refine zk_aald (zoR_of ⟨rfl, rfl, by decide, by decide⟩ g39) dX4_restart_39 ?_
      refine zk_iload_n dX4_restart_40 rfl rfl ?_
      refine zk_iconst (v := 0) dX4_restart_41 (by decide) ?_
      obtain ⟨g42, h⟩ := zguard h
      refine zk_iast g42 dX4_restart_42 ?_
      refine zk_iinc dX4_restart_43 rfl (zinc (m := 1) (by decide)) (by decide) (zk_eq [_, _, _, _, _] rfl ?_)
      refine zk_goto (tgt := 27) dX4_restart_46 rfl ?_
      exact hr27 _ _ h
def D_X4_restart_B12  (rec12 : Int32 → zS → Option zS) (a3 : Int32) (s : zS) : Option zS :=
    if (4 : Int32) ≤ a3 then (
      some s
    ) else (
      zgd (zin a3 4 = true) <|
      let s23 : zS := zwI s 59 a3.toNatClampNeg (0 : Int32)
      D_X4_restart_L27 rec12 a3 zFU (0 : Int32) s23
    )
def D_X4_restart_L12 (n : Nat) (a3 : Int32) (s : zS) : Option zS := zfx (fun (rec : Int32 × zS → Option zS) q => D_X4_restart_B12 (fun v0 v1 => rec (v0, v1)) q.1 q.2) n (a3, s)
set_option maxRecDepth 100000 in
theorem D_X4_restart_L12_s (n : Nat) (a3 : Int32) (s : zS) : D_X4_restart_L12 (n + 1) a3 s = D_X4_restart_B12 (D_X4_restart_L12 n) a3 s := rfl
set_option maxRecDepth 100000 in
theorem ok_X4_restart_L12 {l : Launch} {D : va_G} {ad : Nat → Nat} {cA : Nat → ClassId} (hj : zInj ad) (r : zS)  : ∀ (n : Nat) (a3 : Int32) (s : zS), D_X4_restart_L12 n a3 s = some r → zOk l D ad cA (zJm jX4_restart) (zEnd D ad cA none r) 12 [some (.ref 53), none, none, some (.int a3), none] [] s := by
  intro n
  induction n with
  | zero =>
    intro a3 s h
    have h0 : (none : Option zS) = some r := h
    cases h0
  | succ n hr12 =>
    intro a3 s h
    have h : D_X4_restart_B12 (D_X4_restart_L12 n) a3 s = some r := h
    unfold D_X4_restart_B12 at h
    refine zk_iload_n dX4_restart_12 rfl rfl ?_
    refine zk_iconst (v := 4) dX4_restart_13 (by decide) ?_
    refine zk_icmp_ge (tgt := 55) dX4_restart_14 rfl (fun g14 => ?_) (fun g14 => ?_)
    · replace h := zpos g14 h
      have e9 := Option.some.inj h
      subst e9
      exact zk_vret rfl ⟨rfl, rfl⟩ dX4_restart_55
    · replace h := zneg g14 h
      refine zk_aload_n dX4_restart_17 rfl rfl ?_
      refine zf_X4_23 rfl dX4_restart_18 ?_
      refine zk_iload_n dX4_restart_21 rfl rfl ?_
      refine zk_iconst (v := 0) dX4_restart_22 (by decide) ?_
      obtain ⟨g23, h⟩ := zguard h
      refine zk_iast (zoI_of rfl g23) dX4_restart_23 ?_
      refine zk_iconst (v := 0) dX4_restart_24 (by decide) ?_
      refine zk_istore (i := 4) dX4_restart_25 (by decide) (zk_eq [_, _, _, _, _] rfl ?_)
      exact ok_X4_restart_L27 hj r _ _ hr12 _ _ _ h
def D_X4_restart (s : zS) (a1 : Int32) (a2 : Int32) : Option zS :=
  let s2 : zS := zwI s 53 0 a1
  let s7 : zS := zwI s2 53 1 a2
  D_X4_restart_L12 zFU (0 : Int32) s7
set_option maxRecDepth 100000 in
theorem ok_X4_restart {l : Launch} {D : va_G} {ad : Nat → Nat} {cA : Nat → ClassId} (hj : zInj ad) (s : zS) (a1 : Int32) (a2 : Int32) {r : zS} (h : D_X4_restart s a1 a2 = some r) : zMet l D ad cA jX4_restart [.ref 53, .int a1, .int a2] s none r := by
  refine zMet_of jX4_restart [some (.ref 53), some (.int a1), some (.int a2), none, none] (by decide +kernel) (Nat.le_of_ble_eq_true rfl) rfl hj ?_
  unfold D_X4_restart at h
  refine zk_aload_n dX4_restart_0 rfl rfl ?_
  refine zk_iload_n dX4_restart_1 rfl rfl ?_
  refine zp_X4_9 rfl dX4_restart_2 ?_
  refine zk_aload_n dX4_restart_5 rfl rfl ?_
  refine zk_iload_n dX4_restart_6 rfl rfl ?_
  refine zp_X4_15 rfl dX4_restart_7 ?_
  refine zk_iconst (v := 0) dX4_restart_10 (by decide) ?_
  refine zk_istore_n (i := 3) dX4_restart_11 rfl (by decide) (zk_eq [_, _, _, _, _] rfl ?_)
  refine zk_mask [true, false, false, true, false] ?_
  exact ok_X4_restart_L12 hj r  _ _ _ h
def D_X4_sellerOf_J48 (rec12 : Int32 → Int32 → Int32 → Option (Int32 × zS)) (s : zS) (a1 : Int32) (a3 : Int32) (a4 : Int32) (k0 : Int32) (k1 : Int32) : Option (Int32 × zS) :=
  rec12 (k0 ||| k1) a3 (a4 + 1)
set_option maxRecDepth 100000 in
theorem ok_X4_sellerOf_J48 {l : Launch} {D : va_G} {ad : Nat → Nat} {cA : Nat → ClassId} (hj : zInj ad) (r : (Int32 × zS)) (s : zS) (a1 : Int32) (a3 : Int32) (a4 : Int32) (k0 : Int32) (k1 : Int32) (rec12 : Int32 → Int32 → Int32 → Option (Int32 × zS)) (hr12 : ∀ (b2 : Int32) (b3 : Int32) (b4 : Int32), rec12 b2 b3 b4 = some r → zOk l D ad cA (zJm jX4_sellerOf) (zEnd D ad cA (some (.int r.1)) r.2) 12 [some (.ref 53), some (.int a1), some (.int b2), some (.int b3), some (.int b4)] [] s) (h : D_X4_sellerOf_J48 rec12 s a1 a3 a4 k0 k1 = some r) : zOk l D ad cA (zJm jX4_sellerOf) (zEnd D ad cA (some (.int r.1)) r.2) 48 [some (.ref 53), some (.int a1), none, some (.int a3), some (.int a4)] [.int k1, .int k0] s := by
  unfold D_X4_sellerOf_J48 at h
  refine zk_ior dX4_sellerOf_48 ?_
  refine zk_istore_n (i := 2) dX4_sellerOf_49 rfl (by decide) (zk_eq [_, _, _, _, _] rfl ?_)
  refine zk_iinc dX4_sellerOf_50 rfl (zinc (m := 1) (by decide)) (by decide) (zk_eq [_, _, _, _, _] rfl ?_)
  refine zk_goto (tgt := 12) dX4_sellerOf_53 rfl ?_
  exact hr12 _ _ _ h
def D_X4_sellerOf_B12 (s : zS) (a1 : Int32) (rec12 : Int32 → Int32 → Int32 → Option (Int32 × zS)) (a2 : Int32) (a3 : Int32) (a4 : Int32) : Option (Int32 × zS) :=
    if a1 < a4 then (
      some (a3, s)
    ) else (
      if (s.1 53 0) ≤ a4 then (
        some (a3, s)
      ) else (
        (D_X4_firstBest s a4 a2).bind fun p31 =>
        if p31 = (-1 : Int32) then (
          D_X4_sellerOf_J48 rec12 s a1 p31 a4 a2 (0 : Int32)
        ) else (
          D_X4_sellerOf_J48 rec12 s a1 p31 a4 a2 ((1 : Int32) <<< (p31 &&& 31))
        )
      )
    )
def D_X4_sellerOf_L12 (s : zS) (a1 : Int32) (n : Nat) (a2 : Int32) (a3 : Int32) (a4 : Int32) : Option (Int32 × zS) := zfx (fun (rec : Int32 × Int32 × Int32 → Option (Int32 × zS)) q => D_X4_sellerOf_B12 s a1 (fun v0 v1 v2 => rec (v0, v1, v2)) q.1 q.2.1 q.2.2) n (a2, a3, a4)
set_option maxRecDepth 100000 in
theorem D_X4_sellerOf_L12_s (s : zS) (a1 : Int32) (n : Nat) (a2 : Int32) (a3 : Int32) (a4 : Int32) : D_X4_sellerOf_L12 s a1 (n + 1) a2 a3 a4 = D_X4_sellerOf_B12 s a1 (D_X4_sellerOf_L12 s a1 n) a2 a3 a4 := rfl
set_option maxRecDepth 100000 in
theorem ok_X4_sellerOf_L12 {l : Launch} {D : va_G} {ad : Nat → Nat} {cA : Nat → ClassId} (hj : zInj ad) (r : (Int32 × zS)) (s : zS) (a1 : Int32) : ∀ (n : Nat) (a2 : Int32) (a3 : Int32) (a4 : Int32), D_X4_sellerOf_L12 s a1 n a2 a3 a4 = some r → zOk l D ad cA (zJm jX4_sellerOf) (zEnd D ad cA (some (.int r.1)) r.2) 12 [some (.ref 53), some (.int a1), some (.int a2), some (.int a3), some (.int a4)] [] s := by
  intro n
  induction n with
  | zero =>
    intro a2 a3 a4 h
    have h0 : (none : Option (Int32 × zS)) = some r := h
    cases h0
  | succ n hr12 =>
    intro a2 a3 a4 h
    have h : D_X4_sellerOf_B12 s a1 (D_X4_sellerOf_L12 s a1 n) a2 a3 a4 = some r := h
    unfold D_X4_sellerOf_B12 at h
    refine zk_iload dX4_sellerOf_12 rfl ?_
    refine zk_iload_n dX4_sellerOf_14 rfl rfl ?_
    refine zk_icmp_gt (tgt := 56) dX4_sellerOf_15 rfl (fun g15 => ?_) (fun g15 => ?_)
    · replace h := zpos g15 h
      refine zk_iload_n dX4_sellerOf_56 rfl rfl ?_
      have e9 := Option.some.inj h
      subst e9
      exact zk_iret rfl ⟨rfl, rfl⟩ dX4_sellerOf_57
    · replace h := zneg g15 h
      refine zk_iload dX4_sellerOf_18 rfl ?_
      refine zk_aload_n dX4_sellerOf_20 rfl rfl ?_
      refine zf_X4_9 rfl dX4_sellerOf_21 ?_
      refine zk_icmp_ge (tgt := 56) dX4_sellerOf_24 rfl (fun g24 => ?_) (fun g24 => ?_)
      · replace h := zpos g24 h
        refine zk_iload_n dX4_sellerOf_56 rfl rfl ?_
        have e9 := Option.some.inj h
        subst e9
        exact zk_iret rfl ⟨rfl, rfl⟩ dX4_sellerOf_57
      · replace h := zneg g24 h
        refine zk_aload_n dX4_sellerOf_27 rfl rfl ?_
        refine zk_iload dX4_sellerOf_28 rfl ?_
        refine zk_iload_n dX4_sellerOf_30 rfl rfl ?_
        obtain ⟨p31, h31, h⟩ := zbind h
        refine zc_X4_59 [] (As := [.int _, .int _]) (ok_X4_firstBest hj _ _ _ h31) rfl ⟨Nat.le_of_ble_eq_true rfl, Nat.le_of_ble_eq_true rfl⟩ ⟨Nat.le_refl _, Nat.le_refl _⟩ rfl rfl (Nat.le_of_ble_eq_true rfl) dX4_sellerOf_31 ?_
        refine zk_istore_n (i := 3) dX4_sellerOf_34 rfl (by decide) (zk_eq [_, _, _, _, _] rfl ?_)
        refine zk_iload_n dX4_sellerOf_35 rfl rfl ?_
        refine zk_iload_n dX4_sellerOf_36 rfl rfl ?_
        refine zk_iconst (v := -1) dX4_sellerOf_37 (by decide) ?_
        refine zk_icmp_ne (tgt := 45) dX4_sellerOf_38 rfl (fun g38 => ?_) (fun g38 => ?_)
        · replace h := zneg g38 h
          refine zk_iconst (v := 1) dX4_sellerOf_45 (by decide) ?_
          refine zk_iload_n dX4_sellerOf_46 rfl rfl ?_
          refine zk_ishl dX4_sellerOf_47 ?_
          refine zk_mask [true, true, false, true, true] ?_
          exact ok_X4_sellerOf_J48 hj r _ _ _ _ _ _ _ hr12 h
        · replace h := zpos g38 h
          refine zk_iconst (v := 0) dX4_sellerOf_41 (by decide) ?_
          refine zk_goto (tgt := 48) dX4_sellerOf_42 rfl ?_
          refine zk_mask [true, true, false, true, true] ?_
          exact ok_X4_sellerOf_J48 hj r _ _ _ _ _ _ _ hr12 h
def D_X4_sellerOf (s : zS) (a1 : Int32) : Option (Int32 × zS) :=
  (D_X4_findRests s (-1 : Int32)).bind fun p2 =>
  D_X4_sellerOf_L12 p2 a1 zFU (0 : Int32) (-1 : Int32) (0 : Int32)
set_option maxRecDepth 100000 in
theorem ok_X4_sellerOf {l : Launch} {D : va_G} {ad : Nat → Nat} {cA : Nat → ClassId} (hj : zInj ad) (s : zS) (a1 : Int32) {r : (Int32 × zS)} (h : D_X4_sellerOf s a1 = some r) : zMet l D ad cA jX4_sellerOf [.ref 53, .int a1] s (some (.int r.1)) r.2 := by
  refine zMet_of jX4_sellerOf [some (.ref 53), some (.int a1), none, none, none] (by decide +kernel) (Nat.le_of_ble_eq_true rfl) rfl hj ?_
  unfold D_X4_sellerOf at h
  refine zk_aload_n dX4_sellerOf_0 rfl rfl ?_
  refine zk_iconst (v := -1) dX4_sellerOf_1 (by decide) ?_
  obtain ⟨p2, h2, h⟩ := zbind h
  refine zc_X4_55 [] (As := [.int _]) (ok_X4_findRests hj _ _ h2) rfl ⟨Nat.le_of_ble_eq_true rfl, Nat.le_of_ble_eq_true rfl⟩ ⟨Nat.le_refl _, Nat.le_refl _⟩ rfl rfl (Nat.le_of_ble_eq_true rfl) dX4_sellerOf_2 ?_
  refine zk_iconst (v := 0) dX4_sellerOf_5 (by decide) ?_
  refine zk_istore_n (i := 2) dX4_sellerOf_6 rfl (by decide) (zk_eq [_, _, _, _, _] rfl ?_)
  refine zk_iconst (v := -1) dX4_sellerOf_7 (by decide) ?_
  refine zk_istore_n (i := 3) dX4_sellerOf_8 rfl (by decide) (zk_eq [_, _, _, _, _] rfl ?_)
  refine zk_iconst (v := 0) dX4_sellerOf_9 (by decide) ?_
  refine zk_istore (i := 4) dX4_sellerOf_10 (by decide) (zk_eq [_, _, _, _, _] rfl ?_)
  exact ok_X4_sellerOf_L12 hj r _ _ _ _ _ _ h
