def D_X5_leastSets_B4 (s : zS) (rec4 : Int32 → Int32 → Option Int32) (a1 : Int32) (a2 : Int32) : Option Int32 :=
    (D_X5_allVoters s).bind fun p6 =>
    if p6 < a2 then (
      some a1
    ) else (
      (D_X5_isLeastSet s a2).bind fun p14 =>
      if p14 = 0 then (
        rec4 a1 (a2 + 1)
      ) else (
        rec4 (a1 + 1) (a2 + 1)
      )
    )
def D_X5_leastSets_L4 (s : zS) (n : Nat) (a1 : Int32) (a2 : Int32) : Option Int32 := zfx (fun (rec : Int32 × Int32 → Option Int32) q => D_X5_leastSets_B4 s (fun v0 v1 => rec (v0, v1)) q.1 q.2) n (a1, a2)
set_option maxRecDepth 100000 in
theorem D_X5_leastSets_L4_s (s : zS) (n : Nat) (a1 : Int32) (a2 : Int32) : D_X5_leastSets_L4 s (n + 1) a1 a2 = D_X5_leastSets_B4 s (D_X5_leastSets_L4 s n) a1 a2 := rfl
set_option maxRecDepth 100000 in
theorem ok_X5_leastSets_L4 {l : Launch} {D : va_G} {ad : Nat → Nat} {cA : Nat → ClassId} (hj : zInj ad) (r : Int32) (s : zS) : ∀ (n : Nat) (a1 : Int32) (a2 : Int32), D_X5_leastSets_L4 s n a1 a2 = some r → zOk l D ad cA (zJm jX5_leastSets) (zEnd D ad cA (some (.int r)) s) 4 [some (.ref 38), some (.int a1), some (.int a2)] [] s := by
  intro n
  induction n with
  | zero =>
    intro a1 a2 h
    have h0 : (none : Option Int32) = some r := h
    cases h0
  | succ n hr4 =>
    intro a1 a2 h
    have h : D_X5_leastSets_B4 s (D_X5_leastSets_L4 s n) a1 a2 = some r := h
    unfold D_X5_leastSets_B4 at h
    refine zk_iload_n dX5_leastSets_4 rfl rfl ?_
    refine zk_aload_n dX5_leastSets_5 rfl rfl ?_
    obtain ⟨p6, h6, h⟩ := zbind h
    refine zc_X5_64 [.int _] (As := []) (ok_X5_allVoters hj _ h6) rfl ⟨Nat.le_of_ble_eq_true rfl, Nat.le_of_ble_eq_true rfl⟩ ⟨Nat.le_refl _, Nat.le_refl _⟩ rfl rfl (Nat.le_of_ble_eq_true rfl) dX5_leastSets_6 ?_
    refine zk_icmp_gt (tgt := 29) dX5_leastSets_9 rfl (fun g9 => ?_) (fun g9 => ?_)
    · replace h := zpos g9 h
      refine zk_iload_n dX5_leastSets_29 rfl rfl ?_
      have e9 := Option.some.inj h
      subst e9
      exact zk_iret rfl ⟨rfl, rfl⟩ dX5_leastSets_30
    · replace h := zneg g9 h
      refine zk_aload_n dX5_leastSets_12 rfl rfl ?_
      refine zk_iload_n dX5_leastSets_13 rfl rfl ?_
      obtain ⟨p14, h14, h⟩ := zbind h
      refine zc_X5_68 [] (As := [.int _]) (ok_X5_isLeastSet hj _ _ h14) rfl ⟨Nat.le_of_ble_eq_true rfl, Nat.le_of_ble_eq_true rfl⟩ ⟨Nat.le_refl _, Nat.le_refl _⟩ rfl rfl (Nat.le_of_ble_eq_true rfl) dX5_leastSets_14 ?_
      refine zk_if_eq (tgt := 23) dX5_leastSets_17 rfl (fun g17 => ?_) (fun g17 => ?_)
      · replace h := zpos g17 h
        refine zk_iinc dX5_leastSets_23 rfl (zinc (m := 1) (by decide)) (by decide) (zk_eq [_, _, _] rfl ?_)
        refine zk_goto (tgt := 4) dX5_leastSets_26 rfl ?_
        exact hr4 _ _ h
      · replace h := zneg g17 h
        refine zk_iinc dX5_leastSets_20 rfl (zinc (m := 1) (by decide)) (by decide) (zk_eq [_, _, _] rfl ?_)
        refine zk_iinc dX5_leastSets_23 rfl (zinc (m := 1) (by decide)) (by decide) (zk_eq [_, _, _] rfl ?_)
        refine zk_goto (tgt := 4) dX5_leastSets_26 rfl ?_
        exact hr4 _ _ h
def D_X5_leastSets (s : zS) : Option Int32 :=
  D_X5_leastSets_L4 s zFU (0 : Int32) (1 : Int32)
set_option maxRecDepth 100000 in
theorem ok_X5_leastSets {l : Launch} {D : va_G} {ad : Nat → Nat} {cA : Nat → ClassId} (hj : zInj ad) (s : zS)  {r : Int32} (h : D_X5_leastSets s = some r) : zMet l D ad cA jX5_leastSets [.ref 38] s (some (.int r)) s := by
  refine zMet_of jX5_leastSets [some (.ref 38), none, none] (by decide +kernel) (Nat.le_of_ble_eq_true rfl) rfl hj ?_
  unfold D_X5_leastSets at h
  refine zk_iconst (v := 0) dX5_leastSets_0 (by decide) ?_
  refine zk_istore_n (i := 1) dX5_leastSets_1 rfl (by decide) (zk_eq [_, _, _] rfl ?_)
  refine zk_iconst (v := 1) dX5_leastSets_2 (by decide) ?_
  refine zk_istore_n (i := 2) dX5_leastSets_3 rfl (by decide) (zk_eq [_, _, _] rfl ?_)
  exact ok_X5_leastSets_L4 hj r _ _ _ _ h
def D_X5_mixInto_B5 (s : zS) (rec5 : Int64 → Int32 → Option Int64) (a3 : Int64) (a5 : Int32) : Option Int64 :=
    if (s.1 38 0) ≤ a5 then (
      (D_X8_mix a3 ((s.1 38 1).toInt64)).bind fun p39 =>
      some p39
    ) else (
      zgd (zin a5 8 = true) <|
      (D_X8_mix a3 ((s.1 39 a5.toNatClampNeg).toInt64)).bind fun p23 =>
      rec5 p23 (a5 + 1)
    )
def D_X5_mixInto_L5 (s : zS) (n : Nat) (a3 : Int64) (a5 : Int32) : Option Int64 := zfx (fun (rec : Int64 × Int32 → Option Int64) q => D_X5_mixInto_B5 s (fun v0 v1 => rec (v0, v1)) q.1 q.2) n (a3, a5)
set_option maxRecDepth 100000 in
theorem D_X5_mixInto_L5_s (s : zS) (n : Nat) (a3 : Int64) (a5 : Int32) : D_X5_mixInto_L5 s (n + 1) a3 a5 = D_X5_mixInto_B5 s (D_X5_mixInto_L5 s n) a3 a5 := rfl
set_option maxRecDepth 100000 in
theorem ok_X5_mixInto_L5 {l : Launch} {D : va_G} {ad : Nat → Nat} {cA : Nat → ClassId} (hj : zInj ad) (r : Int64) (s : zS) : ∀ (n : Nat) (a3 : Int64) (a5 : Int32), D_X5_mixInto_L5 s n a3 a5 = some r → zOk l D ad cA (zJm jX5_mixInto) (zEnd D ad cA (some (.long r)) s) 5 [some (.ref 38), none, none, some (.long a3), none, some (.int a5)] [] s := by
  intro n
  induction n with
  | zero =>
    intro a3 a5 h
    have h0 : (none : Option Int64) = some r := h
    cases h0
  | succ n hr5 =>
    intro a3 a5 h
    have h : D_X5_mixInto_B5 s (D_X5_mixInto_L5 s n) a3 a5 = some r := h
    unfold D_X5_mixInto_B5 at h
    refine zk_iload dX5_mixInto_5 rfl ?_
    refine zk_aload_n dX5_mixInto_7 rfl rfl ?_
    refine zf_X5_9 rfl dX5_mixInto_8 ?_
    refine zk_icmp_ge (tgt := 33) dX5_mixInto_11 rfl (fun g11 => ?_) (fun g11 => ?_)
    · replace h := zpos g11 h
      refine zk_lload_n dX5_mixInto_33 rfl rfl ?_
      refine zk_aload_n dX5_mixInto_34 rfl rfl ?_
      refine zf_X5_15 rfl dX5_mixInto_35 ?_
      refine zk_i2l dX5_mixInto_38 ?_
      obtain ⟨p39, h39, h⟩ := zbind h
      refine zc_X5_121 [] (As := [.long _, .long _]) (ok_X8_mix hj _ _ _ h39) rfl ⟨Nat.le_of_ble_eq_true rfl, Nat.le_of_ble_eq_true rfl⟩ ⟨Nat.le_refl _, Nat.le_refl _⟩ rfl rfl (Nat.le_of_ble_eq_true rfl) dX5_mixInto_39 ?_
      have e9 := Option.some.inj h
      subst e9
      exact zk_lret rfl ⟨rfl, rfl⟩ dX5_mixInto_42
    · replace h := zneg g11 h
      refine zk_lload_n dX5_mixInto_14 rfl rfl ?_
      refine zk_aload_n dX5_mixInto_15 rfl rfl ?_
      refine zf_X5_18 rfl dX5_mixInto_16 ?_
      refine zk_iload dX5_mixInto_19 rfl ?_
      obtain ⟨g21, h⟩ := zguard h
      refine zk_iald (zoI_of rfl g21) dX5_mixInto_21 ?_
      refine zk_i2l dX5_mixInto_22 ?_
      obtain ⟨p23, h23, h⟩ := zbind h
      refine zc_X5_121 [] (As := [.long _, .long _]) (ok_X8_mix hj _ _ _ h23) rfl ⟨Nat.le_of_ble_eq_true rfl, Nat.le_of_ble_eq_true rfl⟩ ⟨Nat.le_refl _, Nat.le_refl _⟩ rfl rfl (Nat.le_of_ble_eq_true rfl) dX5_mixInto_23 ?_
      refine zk_lstore_n (i := 3) dX5_mixInto_26 rfl (by decide) (zk_eq [_, _, _, _, _, _] rfl ?_)
      refine zk_iinc dX5_mixInto_27 rfl (zinc (m := 1) (by decide)) (by decide) (zk_eq [_, _, _, _, _, _] rfl ?_)
      refine zk_goto (tgt := 5) dX5_mixInto_30 rfl ?_
      exact hr5 _ _ h
def D_X5_mixInto (s : zS) (a1 : Int64) : Option Int64 :=
  D_X5_mixInto_L5 s zFU a1 (0 : Int32)
set_option maxRecDepth 100000 in
theorem ok_X5_mixInto {l : Launch} {D : va_G} {ad : Nat → Nat} {cA : Nat → ClassId} (hj : zInj ad) (s : zS) (a1 : Int64) {r : Int64} (h : D_X5_mixInto s a1 = some r) : zMet l D ad cA jX5_mixInto [.ref 38, .long a1] s (some (.long r)) s := by
  refine zMet_of jX5_mixInto [some (.ref 38), some (.long a1), none, none, none, none] (by decide +kernel) (Nat.le_of_ble_eq_true rfl) rfl hj ?_
  unfold D_X5_mixInto at h
  refine zk_lload_n dX5_mixInto_0 rfl rfl ?_
  refine zk_lstore_n (i := 3) dX5_mixInto_1 rfl (by decide) (zk_eq [_, _, _, _, _, _] rfl ?_)
  refine zk_iconst (v := 0) dX5_mixInto_2 (by decide) ?_
  refine zk_istore (i := 5) dX5_mixInto_3 (by decide) (zk_eq [_, _, _, _, _, _] rfl ?_)
  refine zk_mask [true, false, false, true, false, true] ?_
  exact ok_X5_mixInto_L5 hj r _ _ _ _ h
def D_X5_pivotsOf_B4 (s : zS) (a1 : Int32) (rec4 : Int32 → Int32 → Option Int32) (a2 : Int32) (a3 : Int32) : Option Int32 :=
    (D_X5_allVoters s).bind fun p6 =>
    if p6 < a3 then (
      some a2
    ) else (
      (D_X5_isTurned s a3 a1).bind fun p15 =>
      if p15 = 0 then (
        rec4 a2 (a3 + 1)
      ) else (
        (D_J6_bitCount_0f7a4 a3).bind fun p23 =>
        (D_X8_ordersBehind p23 (s.1 38 0)).bind fun p30 =>
        rec4 (a2 + p30) (a3 + 1)
      )
    )
def D_X5_pivotsOf_L4 (s : zS) (a1 : Int32) (n : Nat) (a2 : Int32) (a3 : Int32) : Option Int32 := zfx (fun (rec : Int32 × Int32 → Option Int32) q => D_X5_pivotsOf_B4 s a1 (fun v0 v1 => rec (v0, v1)) q.1 q.2) n (a2, a3)
set_option maxRecDepth 100000 in
theorem D_X5_pivotsOf_L4_s (s : zS) (a1 : Int32) (n : Nat) (a2 : Int32) (a3 : Int32) : D_X5_pivotsOf_L4 s a1 (n + 1) a2 a3 = D_X5_pivotsOf_B4 s a1 (D_X5_pivotsOf_L4 s a1 n) a2 a3 := rfl
set_option maxRecDepth 100000 in
theorem ok_X5_pivotsOf_L4 {l : Launch} {D : va_G} {ad : Nat → Nat} {cA : Nat → ClassId} (hj : zInj ad) (r : Int32) (s : zS) (a1 : Int32) : ∀ (n : Nat) (a2 : Int32) (a3 : Int32), D_X5_pivotsOf_L4 s a1 n a2 a3 = some r → zOk l D ad cA (zJm jX5_pivotsOf) (zEnd D ad cA (some (.int r)) s) 4 [some (.ref 38), some (.int a1), some (.int a2), some (.int a3)] [] s := by
  intro n
  induction n with
  | zero =>
    intro a2 a3 h
    have h0 : (none : Option Int32) = some r := h
    cases h0
  | succ n hr4 =>
    intro a2 a3 h
    have h : D_X5_pivotsOf_B4 s a1 (D_X5_pivotsOf_L4 s a1 n) a2 a3 = some r := h
    unfold D_X5_pivotsOf_B4 at h
    refine zk_iload_n dX5_pivotsOf_4 rfl rfl ?_
    refine zk_aload_n dX5_pivotsOf_5 rfl rfl ?_
    obtain ⟨p6, h6, h⟩ := zbind h
    refine zc_X5_64 [.int _] (As := []) (ok_X5_allVoters hj _ h6) rfl ⟨Nat.le_of_ble_eq_true rfl, Nat.le_of_ble_eq_true rfl⟩ ⟨Nat.le_refl _, Nat.le_refl _⟩ rfl rfl (Nat.le_of_ble_eq_true rfl) dX5_pivotsOf_6 ?_
    refine zk_icmp_gt (tgt := 41) dX5_pivotsOf_9 rfl (fun g9 => ?_) (fun g9 => ?_)
    · replace h := zpos g9 h
      refine zk_iload_n dX5_pivotsOf_41 rfl rfl ?_
      have e9 := Option.some.inj h
      subst e9
      exact zk_iret rfl ⟨rfl, rfl⟩ dX5_pivotsOf_42
    · replace h := zneg g9 h
      refine zk_aload_n dX5_pivotsOf_12 rfl rfl ?_
      refine zk_iload_n dX5_pivotsOf_13 rfl rfl ?_
      refine zk_iload_n dX5_pivotsOf_14 rfl rfl ?_
      obtain ⟨p15, h15, h⟩ := zbind h
      refine zc_X5_71 [] (As := [.int _, .int _]) (ok_X5_isTurned hj _ _ _ h15) rfl ⟨Nat.le_of_ble_eq_true rfl, Nat.le_of_ble_eq_true rfl⟩ ⟨Nat.le_refl _, Nat.le_refl _⟩ rfl rfl (Nat.le_of_ble_eq_true rfl) dX5_pivotsOf_15 ?_
      refine zk_if_eq (tgt := 35) dX5_pivotsOf_18 rfl (fun g18 => ?_) (fun g18 => ?_)
      · replace h := zpos g18 h
        refine zk_iinc dX5_pivotsOf_35 rfl (zinc (m := 1) (by decide)) (by decide) (zk_eq [_, _, _, _] rfl ?_)
        refine zk_goto (tgt := 4) dX5_pivotsOf_38 rfl ?_
        exact hr4 _ _ h
      · replace h := zneg g18 h
        refine zk_iload_n dX5_pivotsOf_21 rfl rfl ?_
        refine zk_iload_n dX5_pivotsOf_22 rfl rfl ?_
        obtain ⟨p23, h23, h⟩ := zbind h
        refine zc_X5_74 [.int _] (As := [.int _]) (ok_J6_bitCount_0f7a4 hj _ _ h23) rfl ⟨Nat.le_of_ble_eq_true rfl, Nat.le_of_ble_eq_true rfl⟩ ⟨Nat.le_refl _, Nat.le_refl _⟩ rfl rfl (Nat.le_of_ble_eq_true rfl) dX5_pivotsOf_23 ?_
        refine zk_aload_n dX5_pivotsOf_26 rfl rfl ?_
        refine zf_X5_9 rfl dX5_pivotsOf_27 ?_
        obtain ⟨p30, h30, h⟩ := zbind h
        refine zc_X5_80 [.int _] (As := [.int _, .int _]) (ok_X8_ordersBehind hj _ _ _ h30) rfl ⟨Nat.le_of_ble_eq_true rfl, Nat.le_of_ble_eq_true rfl⟩ ⟨Nat.le_refl _, Nat.le_refl _⟩ rfl rfl (Nat.le_of_ble_eq_true rfl) dX5_pivotsOf_30 ?_
        refine zk_iadd dX5_pivotsOf_33 ?_
        refine zk_istore_n (i := 2) dX5_pivotsOf_34 rfl (by decide) (zk_eq [_, _, _, _] rfl ?_)
        refine zk_iinc dX5_pivotsOf_35 rfl (zinc (m := 1) (by decide)) (by decide) (zk_eq [_, _, _, _] rfl ?_)
        refine zk_goto (tgt := 4) dX5_pivotsOf_38 rfl ?_
        exact hr4 _ _ h
def D_X5_pivotsOf (s : zS) (a1 : Int32) : Option Int32 :=
  D_X5_pivotsOf_L4 s a1 zFU (0 : Int32) (0 : Int32)
set_option maxRecDepth 100000 in
theorem ok_X5_pivotsOf {l : Launch} {D : va_G} {ad : Nat → Nat} {cA : Nat → ClassId} (hj : zInj ad) (s : zS) (a1 : Int32) {r : Int32} (h : D_X5_pivotsOf s a1 = some r) : zMet l D ad cA jX5_pivotsOf [.ref 38, .int a1] s (some (.int r)) s := by
  refine zMet_of jX5_pivotsOf [some (.ref 38), some (.int a1), none, none] (by decide +kernel) (Nat.le_of_ble_eq_true rfl) rfl hj ?_
  unfold D_X5_pivotsOf at h
  refine zk_iconst (v := 0) dX5_pivotsOf_0 (by decide) ?_
  refine zk_istore_n (i := 2) dX5_pivotsOf_1 rfl (by decide) (zk_eq [_, _, _, _] rfl ?_)
  refine zk_iconst (v := 0) dX5_pivotsOf_2 (by decide) ?_
  refine zk_istore_n (i := 3) dX5_pivotsOf_3 rfl (by decide) (zk_eq [_, _, _, _] rfl ?_)
  exact ok_X5_pivotsOf_L4 hj r _ _ _ _ _ h
def D_X5_replaceQuota (s : zS) (a1 : Int32) : Option (Int32 × zS) :=
  let s7 : zS := zwI s 38 1 a1
  let s12 : zS := zwI s7 38 9 (0 : Int32)
  some ((s.1 38 1), s12)
set_option maxRecDepth 100000 in
theorem ok_X5_replaceQuota {l : Launch} {D : va_G} {ad : Nat → Nat} {cA : Nat → ClassId} (hj : zInj ad) (s : zS) (a1 : Int32) {r : (Int32 × zS)} (h : D_X5_replaceQuota s a1 = some r) : zMet l D ad cA jX5_replaceQuota [.ref 38, .int a1] s (some (.int r.1)) r.2 := by
  refine zMet_of jX5_replaceQuota [some (.ref 38), some (.int a1), none] (by decide +kernel) (Nat.le_of_ble_eq_true rfl) rfl hj ?_
  unfold D_X5_replaceQuota at h
  refine zk_aload_n dX5_replaceQuota_0 rfl rfl ?_
  refine zf_X5_15 rfl dX5_replaceQuota_1 ?_
  refine zk_istore_n (i := 2) dX5_replaceQuota_4 rfl (by decide) (zk_eq [_, _, _] rfl ?_)
  refine zk_aload_n dX5_replaceQuota_5 rfl rfl ?_
  refine zk_iload_n dX5_replaceQuota_6 rfl rfl ?_
  refine zp_X5_15 rfl dX5_replaceQuota_7 ?_
  refine zk_aload_n dX5_replaceQuota_10 rfl rfl ?_
  refine zk_iconst (v := 0) dX5_replaceQuota_11 (by decide) ?_
  refine zp_X5_40 rfl (Or.inl rfl) dX5_replaceQuota_12 ?_
  refine zk_iload_n dX5_replaceQuota_15 rfl rfl ?_
  have e9 := Option.some.inj h
  subst e9
  exact zk_iret rfl ⟨rfl, rfl⟩ dX5_replaceQuota_16
def D_X5_tellSame (s : zS) (a1 : Int32) : Option (Int32 × zS) :=
  (D_X5_findSame s).bind fun p1 =>
  if (p1.1 38 8) = (-1 : Int32) then (
    some ((-5 : Int32), p1)
  ) else (
    if a1 = (-1 : Int32) then (
      some ((p1.1 38 8), p1)
    ) else (
      zgd (zin a1 5 = true) <|
      some ((p1.1 44 a1.toNatClampNeg), p1)
    )
  )
set_option maxRecDepth 100000 in
theorem ok_X5_tellSame {l : Launch} {D : va_G} {ad : Nat → Nat} {cA : Nat → ClassId} (hj : zInj ad) (s : zS) (a1 : Int32) {r : (Int32 × zS)} (h : D_X5_tellSame s a1 = some r) : zMet l D ad cA jX5_tellSame [.ref 38, .int a1] s (some (.int r.1)) r.2 := by
  refine zMet_of jX5_tellSame [some (.ref 38), some (.int a1)] (by decide +kernel) (Nat.le_of_ble_eq_true rfl) rfl hj ?_
  unfold D_X5_tellSame at h
  refine zk_aload_n dX5_tellSame_0 rfl rfl ?_
  obtain ⟨p1, h1, h⟩ := zbind h
  refine zc_X5_91 [] (As := []) (ok_X5_findSame hj _ h1) rfl ⟨Nat.le_of_ble_eq_true rfl, Nat.le_of_ble_eq_true rfl⟩ ⟨Nat.le_refl _, Nat.le_refl _⟩ rfl rfl (Nat.le_of_ble_eq_true rfl) dX5_tellSame_1 ?_
  refine zk_aload_n dX5_tellSame_4 rfl rfl ?_
  refine zf_X5_37 rfl dX5_tellSame_5 ?_
  refine zk_iconst (v := -1) dX5_tellSame_8 (by decide) ?_
  refine zk_icmp_ne (tgt := 15) dX5_tellSame_9 rfl (fun g9 => ?_) (fun g9 => ?_)
  · replace h := zneg g9 h
    refine zk_iload_n dX5_tellSame_15 rfl rfl ?_
    refine zk_iconst (v := -1) dX5_tellSame_16 (by decide) ?_
    refine zk_icmp_ne (tgt := 27) dX5_tellSame_17 rfl (fun g17 => ?_) (fun g17 => ?_)
    · replace h := zneg g17 h
      refine zk_aload_n dX5_tellSame_27 rfl rfl ?_
      refine zf_X5_34 rfl dX5_tellSame_28 ?_
      refine zk_iload_n dX5_tellSame_31 rfl rfl ?_
      obtain ⟨g32, h⟩ := zguard h
      refine zk_iald (zoI_of rfl g32) dX5_tellSame_32 ?_
      have e9 := Option.some.inj h
      subst e9
      exact zk_iret rfl ⟨rfl, rfl⟩ dX5_tellSame_33
    · replace h := zpos g17 h
      refine zk_aload_n dX5_tellSame_20 rfl rfl ?_
      refine zf_X5_37 rfl dX5_tellSame_21 ?_
      refine zk_goto (tgt := 33) dX5_tellSame_24 rfl ?_
      have e9 := Option.some.inj h
      subst e9
      exact zk_iret rfl ⟨rfl, rfl⟩ dX5_tellSame_33
  · replace h := zpos g9 h
    refine zk_bipush (v := -5) dX5_tellSame_12 (by decide) ?_
    have e9 := Option.some.inj h
    subst e9
    exact zk_iret rfl ⟨rfl, rfl⟩ dX5_tellSame_14
def D_X6_addPlace (s : zS) (a1 : Int32) (a2 : Int32) : Option (Int32 × zS) :=
  zgd (zin (s.1 47 0) 10 = true) <|
  let s9 : zS := zwI s 48 (s.1 47 0).toNatClampNeg a1
  zgd (zin (s9.1 47 0) 10 = true) <|
  let s19 : zS := zwI s9 49 (s9.1 47 0).toNatClampNeg a2
  zgd (zin a1 10 = true) <|
  zgd (zin (s19.1 47 0) 10 = true) <|
  let s41 : zS := zwI s19 50 (s19.1 47 0).toNatClampNeg ((s19.1 50 a1.toNatClampNeg) ||| ((1 : Int32) <<< ((s19.1 47 0) &&& 31)))
  let s49 : zS := zwI s41 47 0 ((s41.1 47 0) + (1 : Int32))
  some (((s49.1 47 0) - (1 : Int32)), s49)
set_option maxRecDepth 100000 in
theorem ok_X6_addPlace {l : Launch} {D : va_G} {ad : Nat → Nat} {cA : Nat → ClassId} (hj : zInj ad) (s : zS) (a1 : Int32) (a2 : Int32) {r : (Int32 × zS)} (h : D_X6_addPlace s a1 a2 = some r) : zMet l D ad cA jX6_addPlace [.ref 47, .int a1, .int a2] s (some (.int r.1)) r.2 := by
  refine zMet_of jX6_addPlace [some (.ref 47), some (.int a1), some (.int a2)] (by decide +kernel) (Nat.le_of_ble_eq_true rfl) rfl hj ?_
  unfold D_X6_addPlace at h
  refine zk_aload_n dX6_addPlace_0 rfl rfl ?_
  refine zf_X6_15 rfl dX6_addPlace_1 ?_
  refine zk_aload_n dX6_addPlace_4 rfl rfl ?_
  refine zf_X6_9 rfl dX6_addPlace_5 ?_
  refine zk_iload_n dX6_addPlace_8 rfl rfl ?_
  obtain ⟨g9, h⟩ := zguard h
  refine zk_iast (zoI_of rfl g9) dX6_addPlace_9 ?_
  refine zk_aload_n dX6_addPlace_10 rfl rfl ?_
  refine zf_X6_19 rfl dX6_addPlace_11 ?_
  refine zk_aload_n dX6_addPlace_14 rfl rfl ?_
  refine zf_X6_9 rfl dX6_addPlace_15 ?_
  refine zk_iload_n dX6_addPlace_18 rfl rfl ?_
  obtain ⟨g19, h⟩ := zguard h
  refine zk_iast (zoI_of rfl g19) dX6_addPlace_19 ?_
  refine zk_aload_n dX6_addPlace_20 rfl rfl ?_
  refine zf_X6_22 rfl dX6_addPlace_21 ?_
  refine zk_aload_n dX6_addPlace_24 rfl rfl ?_
  refine zf_X6_9 rfl dX6_addPlace_25 ?_
  refine zk_aload_n dX6_addPlace_28 rfl rfl ?_
  refine zf_X6_22 rfl dX6_addPlace_29 ?_
  refine zk_iload_n dX6_addPlace_32 rfl rfl ?_
  obtain ⟨g33, h⟩ := zguard h
  refine zk_iald (zoI_of rfl g33) dX6_addPlace_33 ?_
  refine zk_iconst (v := 1) dX6_addPlace_34 (by decide) ?_
  refine zk_aload_n dX6_addPlace_35 rfl rfl ?_
  refine zf_X6_9 rfl dX6_addPlace_36 ?_
  refine zk_ishl dX6_addPlace_39 ?_
  refine zk_ior dX6_addPlace_40 ?_
  obtain ⟨g41, h⟩ := zguard h
  refine zk_iast (zoI_of rfl g41) dX6_addPlace_41 ?_
  refine zk_aload_n dX6_addPlace_42 rfl rfl ?_
  refine zk_dup dX6_addPlace_43 rfl ?_
  refine zf_X6_9 rfl dX6_addPlace_44 ?_
  refine zk_iconst (v := 1) dX6_addPlace_47 (by decide) ?_
  refine zk_iadd dX6_addPlace_48 ?_
  refine zp_X6_9 rfl dX6_addPlace_49 ?_
  refine zk_aload_n dX6_addPlace_52 rfl rfl ?_
  refine zf_X6_9 rfl dX6_addPlace_53 ?_
  refine zk_iconst (v := 1) dX6_addPlace_56 (by decide) ?_
  refine zk_isub dX6_addPlace_57 ?_
  have e9 := Option.some.inj h
  subst e9
  exact zk_iret rfl ⟨rfl, rfl⟩ dX6_addPlace_58
def D_X6_addUser (s : zS) (a1 : Int32) : Option (Int32 × zS) :=
  zgd (zin (s.1 47 4) 8 = true) <|
  let s9 : zS := zwI s 51 (s.1 47 4).toNatClampNeg a1
  let s17 : zS := zwI s9 47 4 ((s9.1 47 4) + (1 : Int32))
  some (((s17.1 47 4) - (1 : Int32)), s17)
set_option maxRecDepth 100000 in
theorem ok_X6_addUser {l : Launch} {D : va_G} {ad : Nat → Nat} {cA : Nat → ClassId} (hj : zInj ad) (s : zS) (a1 : Int32) {r : (Int32 × zS)} (h : D_X6_addUser s a1 = some r) : zMet l D ad cA jX6_addUser [.ref 47, .int a1] s (some (.int r.1)) r.2 := by
  refine zMet_of jX6_addUser [some (.ref 47), some (.int a1)] (by decide +kernel) (Nat.le_of_ble_eq_true rfl) rfl hj ?_
  unfold D_X6_addUser at h
  refine zk_aload_n dX6_addUser_0 rfl rfl ?_
  refine zf_X6_28 rfl dX6_addUser_1 ?_
  refine zk_aload_n dX6_addUser_4 rfl rfl ?_
  refine zf_X6_25 rfl dX6_addUser_5 ?_
  refine zk_iload_n dX6_addUser_8 rfl rfl ?_
  obtain ⟨g9, h⟩ := zguard h
  refine zk_iast (zoI_of rfl g9) dX6_addUser_9 ?_
  refine zk_aload_n dX6_addUser_10 rfl rfl ?_
  refine zk_dup dX6_addUser_11 rfl ?_
  refine zf_X6_25 rfl dX6_addUser_12 ?_
  refine zk_iconst (v := 1) dX6_addUser_15 (by decide) ?_
  refine zk_iadd dX6_addUser_16 ?_
  refine zp_X6_25 rfl dX6_addUser_17 ?_
  refine zk_aload_n dX6_addUser_20 rfl rfl ?_
  refine zf_X6_25 rfl dX6_addUser_21 ?_
  refine zk_iconst (v := 1) dX6_addUser_24 (by decide) ?_
  refine zk_isub dX6_addUser_25 ?_
  have e9 := Option.some.inj h
  subst e9
  exact zk_iret rfl ⟨rfl, rfl⟩ dX6_addUser_26
def D_X6_allUsers (s : zS) : Option Int32 :=
  some (((1 : Int32) <<< ((s.1 47 4) &&& 31)) - (1 : Int32))
set_option maxRecDepth 100000 in
theorem ok_X6_allUsers {l : Launch} {D : va_G} {ad : Nat → Nat} {cA : Nat → ClassId} (hj : zInj ad) (s : zS)  {r : Int32} (h : D_X6_allUsers s = some r) : zMet l D ad cA jX6_allUsers [.ref 47] s (some (.int r)) s := by
  refine zMet_of jX6_allUsers [some (.ref 47)] (by decide +kernel) (Nat.le_of_ble_eq_true rfl) rfl hj ?_
  unfold D_X6_allUsers at h
  refine zk_iconst (v := 1) dX6_allUsers_0 (by decide) ?_
  refine zk_aload_n dX6_allUsers_1 rfl rfl ?_
  refine zf_X6_25 rfl dX6_allUsers_2 ?_
  refine zk_ishl dX6_allUsers_5 ?_
  refine zk_iconst (v := 1) dX6_allUsers_6 (by decide) ?_
  refine zk_isub dX6_allUsers_7 ?_
  have e9 := Option.some.inj h
  subst e9
  exact zk_iret rfl ⟨rfl, rfl⟩ dX6_allUsers_8
def D_X6_knowsPlace (s : zS) (a1 : Int32) : Option Int32 :=
  (D_X8_within a1 (0 : Int32) ((s.1 47 0) - (1 : Int32))).bind fun p8 =>
  zgd (p8 = 0 ∨ p8 = 1) <|
  some p8
set_option maxRecDepth 100000 in
theorem ok_X6_knowsPlace {l : Launch} {D : va_G} {ad : Nat → Nat} {cA : Nat → ClassId} (hj : zInj ad) (s : zS) (a1 : Int32) {r : Int32} (h : D_X6_knowsPlace s a1 = some r) : zMet l D ad cA jX6_knowsPlace [.ref 47, .int a1] s (some (.int r)) s := by
  refine zMet_of jX6_knowsPlace [some (.ref 47), some (.int a1)] (by decide +kernel) (Nat.le_of_ble_eq_true rfl) rfl hj ?_
  unfold D_X6_knowsPlace at h
  refine zk_iload_n dX6_knowsPlace_0 rfl rfl ?_
  refine zk_iconst (v := 0) dX6_knowsPlace_1 (by decide) ?_
  refine zk_aload_n dX6_knowsPlace_2 rfl rfl ?_
  refine zf_X6_9 rfl dX6_knowsPlace_3 ?_
  refine zk_iconst (v := 1) dX6_knowsPlace_6 (by decide) ?_
  refine zk_isub dX6_knowsPlace_7 ?_
  obtain ⟨p8, h8, h⟩ := zbind h
  refine zc_X6_34 [] (As := [.int _, .int _, .int _]) (ok_X8_within hj _ _ _ _ h8) rfl ⟨Nat.le_of_ble_eq_true rfl, Nat.le_of_ble_eq_true rfl⟩ ⟨Nat.le_refl _, Nat.le_refl _⟩ rfl rfl (Nat.le_of_ble_eq_true rfl) dX6_knowsPlace_8 ?_
  obtain ⟨hx11, h⟩ := zguard h
  have e9 := Option.some.inj h
  subst e9
  exact zk_zret rfl hx11 ⟨rfl, rfl⟩ dX6_knowsPlace_11
def D_X6_waysOfUser (s : zS) (a1 : Int32) : Option Int32 :=
  zgd (zin a1 8 = true) <|
  (D_X6_knowsPlace s (s.1 51 a1.toNatClampNeg)).bind fun p9 =>
  if p9 = 0 then (
    some (0 : Int32)
  ) else (
    zgd (zin (s.1 51 a1.toNatClampNeg) 10 = true) <|
    some (s.1 50 (s.1 51 a1.toNatClampNeg).toNatClampNeg)
  )
set_option maxRecDepth 100000 in
theorem ok_X6_waysOfUser {l : Launch} {D : va_G} {ad : Nat → Nat} {cA : Nat → ClassId} (hj : zInj ad) (s : zS) (a1 : Int32) {r : Int32} (h : D_X6_waysOfUser s a1 = some r) : zMet l D ad cA jX6_waysOfUser [.ref 47, .int a1] s (some (.int r)) s := by
  refine zMet_of jX6_waysOfUser [some (.ref 47), some (.int a1), none] (by decide +kernel) (Nat.le_of_ble_eq_true rfl) rfl hj ?_
  unfold D_X6_waysOfUser at h
  refine zk_aload_n dX6_waysOfUser_0 rfl rfl ?_
  refine zf_X6_28 rfl dX6_waysOfUser_1 ?_
  refine zk_iload_n dX6_waysOfUser_4 rfl rfl ?_
  obtain ⟨g5, h⟩ := zguard h
  refine zk_iald (zoI_of rfl g5) dX6_waysOfUser_5 ?_
  refine zk_istore_n (i := 2) dX6_waysOfUser_6 rfl (by decide) (zk_eq [_, _, _] rfl ?_)
  refine zk_aload_n dX6_waysOfUser_7 rfl rfl ?_
  refine zk_iload_n dX6_waysOfUser_8 rfl rfl ?_
  obtain ⟨p9, h9, h⟩ := zbind h
  refine zc_X6_38 [] (As := [.int _]) (ok_X6_knowsPlace hj _ _ h9) rfl ⟨Nat.le_of_ble_eq_true rfl, Nat.le_of_ble_eq_true rfl⟩ ⟨Nat.le_refl _, Nat.le_refl _⟩ rfl rfl (Nat.le_of_ble_eq_true rfl) dX6_waysOfUser_9 ?_
  refine zk_if_eq (tgt := 24) dX6_waysOfUser_12 rfl (fun g12 => ?_) (fun g12 => ?_)
  · replace h := zpos g12 h
    refine zk_iconst (v := 0) dX6_waysOfUser_24 (by decide) ?_
    have e9 := Option.some.inj h
    subst e9
    exact zk_iret rfl ⟨rfl, rfl⟩ dX6_waysOfUser_25
  · replace h := zneg g12 h
    refine zk_aload_n dX6_waysOfUser_15 rfl rfl ?_
    refine zf_X6_22 rfl dX6_waysOfUser_16 ?_
    refine zk_iload_n dX6_waysOfUser_19 rfl rfl ?_
    obtain ⟨g20, h⟩ := zguard h
    refine zk_iald (zoI_of rfl g20) dX6_waysOfUser_20 ?_
    refine zk_goto (tgt := 25) dX6_waysOfUser_21 rfl ?_
    have e9 := Option.some.inj h
    subst e9
    exact zk_iret rfl ⟨rfl, rfl⟩ dX6_waysOfUser_25
def D_X6_costOf_B39 (s : zS) (a2 : Int32) (rec39 : Int32 → Int32 → Option Int32) (a3 : Int32) (a4 : Int32) : Option Int32 :=
    if (s.1 47 0) ≤ a4 then (
      some a3
    ) else (
      (D_X8_has a2 a4).bind fun p51 =>
      if p51 = 0 then (
        rec39 a3 (a4 + 1)
      ) else (
        zgd (zin a4 10 = true) <|
        rec39 (a3 + (s.1 49 a4.toNatClampNeg)) (a4 + 1)
      )
    )
def D_X6_costOf_L39 (s : zS) (a2 : Int32) (n : Nat) (a3 : Int32) (a4 : Int32) : Option Int32 := zfx (fun (rec : Int32 × Int32 → Option Int32) q => D_X6_costOf_B39 s a2 (fun v0 v1 => rec (v0, v1)) q.1 q.2) n (a3, a4)
set_option maxRecDepth 100000 in
theorem D_X6_costOf_L39_s (s : zS) (a2 : Int32) (n : Nat) (a3 : Int32) (a4 : Int32) : D_X6_costOf_L39 s a2 (n + 1) a3 a4 = D_X6_costOf_B39 s a2 (D_X6_costOf_L39 s a2 n) a3 a4 := rfl
set_option maxRecDepth 100000 in
theorem ok_X6_costOf_L39 {l : Launch} {D : va_G} {ad : Nat → Nat} {cA : Nat → ClassId} (hj : zInj ad) (r : Int32) (s : zS) (a2 : Int32) : ∀ (n : Nat) (a3 : Int32) (a4 : Int32), D_X6_costOf_L39 s a2 n a3 a4 = some r → zOk l D ad cA (zJm jX6_costOf) (zEnd D ad cA (some (.int r)) s) 39 [some (.ref 47), none, some (.int a2), some (.int a3), some (.int a4)] [] s := by
  intro n
  induction n with
  | zero =>
    intro a3 a4 h
    have h0 : (none : Option Int32) = some r := h
    cases h0
  | succ n hr39 =>
    intro a3 a4 h
    have h : D_X6_costOf_B39 s a2 (D_X6_costOf_L39 s a2 n) a3 a4 = some r := h
    unfold D_X6_costOf_B39 at h
    refine zk_iload dX6_costOf_39 rfl ?_
    refine zk_aload_n dX6_costOf_41 rfl rfl ?_
    refine zf_X6_9 rfl dX6_costOf_42 ?_
    refine zk_icmp_ge (tgt := 73) dX6_costOf_45 rfl (fun g45 => ?_) (fun g45 => ?_)
    · replace h := zpos g45 h
      refine zk_iload_n dX6_costOf_73 rfl rfl ?_
      have e9 := Option.some.inj h
      subst e9
      exact zk_iret rfl ⟨rfl, rfl⟩ dX6_costOf_74
    · replace h := zneg g45 h
      refine zk_iload_n dX6_costOf_48 rfl rfl ?_
      refine zk_iload dX6_costOf_49 rfl ?_
      obtain ⟨p51, h51, h⟩ := zbind h
      refine zc_X6_42 [] (As := [.int _, .int _]) (ok_X8_has hj _ _ _ h51) rfl ⟨Nat.le_of_ble_eq_true rfl, Nat.le_of_ble_eq_true rfl⟩ ⟨Nat.le_refl _, Nat.le_refl _⟩ rfl rfl (Nat.le_of_ble_eq_true rfl) dX6_costOf_51 ?_
      refine zk_if_eq (tgt := 67) dX6_costOf_54 rfl (fun g54 => ?_) (fun g54 => ?_)
      · replace h := zpos g54 h
        refine zk_iinc dX6_costOf_67 rfl (zinc (m := 1) (by decide)) (by decide) (zk_eq [_, _, _, _, _] rfl ?_)
        refine zk_goto (tgt := 39) dX6_costOf_70 rfl ?_
        exact hr39 _ _ h
      · replace h := zneg g54 h
        refine zk_iload_n dX6_costOf_57 rfl rfl ?_
        refine zk_aload_n dX6_costOf_58 rfl rfl ?_
        refine zf_X6_19 rfl dX6_costOf_59 ?_
        refine zk_iload dX6_costOf_62 rfl ?_
        obtain ⟨g64, h⟩ := zguard h
        refine zk_iald (zoI_of rfl g64) dX6_costOf_64 ?_
        refine zk_iadd dX6_costOf_65 ?_
        refine zk_istore_n (i := 3) dX6_costOf_66 rfl (by decide) (zk_eq [_, _, _, _, _] rfl ?_)
        refine zk_iinc dX6_costOf_67 rfl (zinc (m := 1) (by decide)) (by decide) (zk_eq [_, _, _, _, _] rfl ?_)
        refine zk_goto (tgt := 39) dX6_costOf_70 rfl ?_
        exact hr39 _ _ h
def D_X6_costOf_B4 (s : zS) (a1 : Int32) (rec4 : Int32 → Int32 → Option Int32) (a2 : Int32) (a3 : Int32) : Option Int32 :=
    if (s.1 47 4) ≤ a3 then (
      D_X6_costOf_L39 s a2 zFU (0 : Int32) (1 : Int32)
    ) else (
      (D_X8_has a1 a3).bind fun p14 =>
      if p14 = 0 then (
        rec4 a2 (a3 + 1)
      ) else (
        (D_X6_waysOfUser s a3).bind fun p23 =>
        rec4 (a2 ||| p23) (a3 + 1)
      )
    )
def D_X6_costOf_L4 (s : zS) (a1 : Int32) (n : Nat) (a2 : Int32) (a3 : Int32) : Option Int32 := zfx (fun (rec : Int32 × Int32 → Option Int32) q => D_X6_costOf_B4 s a1 (fun v0 v1 => rec (v0, v1)) q.1 q.2) n (a2, a3)
set_option maxRecDepth 100000 in
theorem D_X6_costOf_L4_s (s : zS) (a1 : Int32) (n : Nat) (a2 : Int32) (a3 : Int32) : D_X6_costOf_L4 s a1 (n + 1) a2 a3 = D_X6_costOf_B4 s a1 (D_X6_costOf_L4 s a1 n) a2 a3 := rfl
set_option maxRecDepth 100000 in
theorem ok_X6_costOf_L4 {l : Launch} {D : va_G} {ad : Nat → Nat} {cA : Nat → ClassId} (hj : zInj ad) (r : Int32) (s : zS) (a1 : Int32) : ∀ (n : Nat) (a2 : Int32) (a3 : Int32), D_X6_costOf_L4 s a1 n a2 a3 = some r → zOk l D ad cA (zJm jX6_costOf) (zEnd D ad cA (some (.int r)) s) 4 [some (.ref 47), some (.int a1), some (.int a2), some (.int a3), none] [] s := by
  intro n
  induction n with
  | zero =>
    intro a2 a3 h
    have h0 : (none : Option Int32) = some r := h
    cases h0
  | succ n hr4 =>
    intro a2 a3 h
    have h : D_X6_costOf_B4 s a1 (D_X6_costOf_L4 s a1 n) a2 a3 = some r := h
    unfold D_X6_costOf_B4 at h
    refine zk_iload_n dX6_costOf_4 rfl rfl ?_
    refine zk_aload_n dX6_costOf_5 rfl rfl ?_
    refine zf_X6_25 rfl dX6_costOf_6 ?_
    refine zk_icmp_ge (tgt := 34) dX6_costOf_9 rfl (fun g9 => ?_) (fun g9 => ?_)
    · replace h := zpos g9 h
      refine zk_iconst (v := 0) dX6_costOf_34 (by decide) ?_
      refine zk_istore_n (i := 3) dX6_costOf_35 rfl (by decide) (zk_eq [_, _, _, _, _] rfl ?_)
      refine zk_iconst (v := 1) dX6_costOf_36 (by decide) ?_
      refine zk_istore (i := 4) dX6_costOf_37 (by decide) (zk_eq [_, _, _, _, _] rfl ?_)
      refine zk_mask [true, false, true, true, true] ?_
      exact ok_X6_costOf_L39 hj r _ _ _ _ _ h
    · replace h := zneg g9 h
      refine zk_iload_n dX6_costOf_12 rfl rfl ?_
      refine zk_iload_n dX6_costOf_13 rfl rfl ?_
      obtain ⟨p14, h14, h⟩ := zbind h
      refine zc_X6_42 [] (As := [.int _, .int _]) (ok_X8_has hj _ _ _ h14) rfl ⟨Nat.le_of_ble_eq_true rfl, Nat.le_of_ble_eq_true rfl⟩ ⟨Nat.le_refl _, Nat.le_refl _⟩ rfl rfl (Nat.le_of_ble_eq_true rfl) dX6_costOf_14 ?_
      refine zk_if_eq (tgt := 28) dX6_costOf_17 rfl (fun g17 => ?_) (fun g17 => ?_)
      · replace h := zpos g17 h
        refine zk_iinc dX6_costOf_28 rfl (zinc (m := 1) (by decide)) (by decide) (zk_eq [_, _, _, _, _] rfl ?_)
        refine zk_goto (tgt := 4) dX6_costOf_31 rfl ?_
        exact hr4 _ _ h
      · replace h := zneg g17 h
        refine zk_iload_n dX6_costOf_20 rfl rfl ?_
        refine zk_aload_n dX6_costOf_21 rfl rfl ?_
        refine zk_iload_n dX6_costOf_22 rfl rfl ?_
        obtain ⟨p23, h23, h⟩ := zbind h
        refine zc_X6_46 [.int _] (As := [.int _]) (ok_X6_waysOfUser hj _ _ h23) rfl ⟨Nat.le_of_ble_eq_true rfl, Nat.le_of_ble_eq_true rfl⟩ ⟨Nat.le_refl _, Nat.le_refl _⟩ rfl rfl (Nat.le_of_ble_eq_true rfl) dX6_costOf_23 ?_
        refine zk_ior dX6_costOf_26 ?_
        refine zk_istore_n (i := 2) dX6_costOf_27 rfl (by decide) (zk_eq [_, _, _, _, _] rfl ?_)
        refine zk_iinc dX6_costOf_28 rfl (zinc (m := 1) (by decide)) (by decide) (zk_eq [_, _, _, _, _] rfl ?_)
        refine zk_goto (tgt := 4) dX6_costOf_31 rfl ?_
        exact hr4 _ _ h
def D_X6_costOf (s : zS) (a1 : Int32) : Option Int32 :=
  D_X6_costOf_L4 s a1 zFU (0 : Int32) (0 : Int32)
set_option maxRecDepth 100000 in
theorem ok_X6_costOf {l : Launch} {D : va_G} {ad : Nat → Nat} {cA : Nat → ClassId} (hj : zInj ad) (s : zS) (a1 : Int32) {r : Int32} (h : D_X6_costOf s a1 = some r) : zMet l D ad cA jX6_costOf [.ref 47, .int a1] s (some (.int r)) s := by
  refine zMet_of jX6_costOf [some (.ref 47), some (.int a1), none, none, none] (by decide +kernel) (Nat.le_of_ble_eq_true rfl) rfl hj ?_
  unfold D_X6_costOf at h
  refine zk_iconst (v := 0) dX6_costOf_0 (by decide) ?_
  refine zk_istore_n (i := 2) dX6_costOf_1 rfl (by decide) (zk_eq [_, _, _, _, _] rfl ?_)
  refine zk_iconst (v := 0) dX6_costOf_2 (by decide) ?_
  refine zk_istore_n (i := 3) dX6_costOf_3 rfl (by decide) (zk_eq [_, _, _, _, _] rfl ?_)
  exact ok_X6_costOf_L4 hj r _ _ _ _ _ h
def D_X6_paysOf_B4 (s : zS) (a1 : Int32) (rec4 : Int32 → Int32 → Option Int32) (a2 : Int32) (a3 : Int32) : Option Int32 :=
    if (s.1 47 4) ≤ a3 then (
      some a2
    ) else (
      (D_X8_has a1 a3).bind fun p14 =>
      if p14 = 0 then (
        rec4 a2 (a3 + 1)
      ) else (
        zgd (zin a3 8 = true) <|
        rec4 (a2 + (s.1 52 a3.toNatClampNeg)) (a3 + 1)
      )
    )
def D_X6_paysOf_L4 (s : zS) (a1 : Int32) (n : Nat) (a2 : Int32) (a3 : Int32) : Option Int32 := zfx (fun (rec : Int32 × Int32 → Option Int32) q => D_X6_paysOf_B4 s a1 (fun v0 v1 => rec (v0, v1)) q.1 q.2) n (a2, a3)
set_option maxRecDepth 100000 in
theorem D_X6_paysOf_L4_s (s : zS) (a1 : Int32) (n : Nat) (a2 : Int32) (a3 : Int32) : D_X6_paysOf_L4 s a1 (n + 1) a2 a3 = D_X6_paysOf_B4 s a1 (D_X6_paysOf_L4 s a1 n) a2 a3 := rfl
set_option maxRecDepth 100000 in
theorem ok_X6_paysOf_L4 {l : Launch} {D : va_G} {ad : Nat → Nat} {cA : Nat → ClassId} (hj : zInj ad) (r : Int32) (s : zS) (a1 : Int32) : ∀ (n : Nat) (a2 : Int32) (a3 : Int32), D_X6_paysOf_L4 s a1 n a2 a3 = some r → zOk l D ad cA (zJm jX6_paysOf) (zEnd D ad cA (some (.int r)) s) 4 [some (.ref 47), some (.int a1), some (.int a2), some (.int a3)] [] s := by
  intro n
  induction n with
  | zero =>
    intro a2 a3 h
    have h0 : (none : Option Int32) = some r := h
    cases h0
  | succ n hr4 =>
    intro a2 a3 h
    have h : D_X6_paysOf_B4 s a1 (D_X6_paysOf_L4 s a1 n) a2 a3 = some r := h
    unfold D_X6_paysOf_B4 at h
    refine zk_iload_n dX6_paysOf_4 rfl rfl ?_
    refine zk_aload_n dX6_paysOf_5 rfl rfl ?_
    refine zf_X6_25 rfl dX6_paysOf_6 ?_
    refine zk_icmp_ge (tgt := 35) dX6_paysOf_9 rfl (fun g9 => ?_) (fun g9 => ?_)
    · replace h := zpos g9 h
      refine zk_iload_n dX6_paysOf_35 rfl rfl ?_
      have e9 := Option.some.inj h
      subst e9
      exact zk_iret rfl ⟨rfl, rfl⟩ dX6_paysOf_36
    · replace h := zneg g9 h
      refine zk_iload_n dX6_paysOf_12 rfl rfl ?_
      refine zk_iload_n dX6_paysOf_13 rfl rfl ?_
      obtain ⟨p14, h14, h⟩ := zbind h
      refine zc_X6_42 [] (As := [.int _, .int _]) (ok_X8_has hj _ _ _ h14) rfl ⟨Nat.le_of_ble_eq_true rfl, Nat.le_of_ble_eq_true rfl⟩ ⟨Nat.le_refl _, Nat.le_refl _⟩ rfl rfl (Nat.le_of_ble_eq_true rfl) dX6_paysOf_14 ?_
      refine zk_if_eq (tgt := 29) dX6_paysOf_17 rfl (fun g17 => ?_) (fun g17 => ?_)
      · replace h := zpos g17 h
        refine zk_iinc dX6_paysOf_29 rfl (zinc (m := 1) (by decide)) (by decide) (zk_eq [_, _, _, _] rfl ?_)
        refine zk_goto (tgt := 4) dX6_paysOf_32 rfl ?_
        exact hr4 _ _ h
      · replace h := zneg g17 h
        refine zk_iload_n dX6_paysOf_20 rfl rfl ?_
        refine zk_aload_n dX6_paysOf_21 rfl rfl ?_
        refine zf_X6_31 rfl dX6_paysOf_22 ?_
        refine zk_iload_n dX6_paysOf_25 rfl rfl ?_
        obtain ⟨g26, h⟩ := zguard h
        refine zk_iald (zoI_of rfl g26) dX6_paysOf_26 ?_
        refine zk_iadd dX6_paysOf_27 ?_
        refine zk_istore_n (i := 2) dX6_paysOf_28 rfl (by decide) (zk_eq [_, _, _, _] rfl ?_)
        refine zk_iinc dX6_paysOf_29 rfl (zinc (m := 1) (by decide)) (by decide) (zk_eq [_, _, _, _] rfl ?_)
        refine zk_goto (tgt := 4) dX6_paysOf_32 rfl ?_
        exact hr4 _ _ h
def D_X6_paysOf (s : zS) (a1 : Int32) : Option Int32 :=
  D_X6_paysOf_L4 s a1 zFU (0 : Int32) (0 : Int32)
set_option maxRecDepth 100000 in
theorem ok_X6_paysOf {l : Launch} {D : va_G} {ad : Nat → Nat} {cA : Nat → ClassId} (hj : zInj ad) (s : zS) (a1 : Int32) {r : Int32} (h : D_X6_paysOf s a1 = some r) : zMet l D ad cA jX6_paysOf [.ref 47, .int a1] s (some (.int r)) s := by
  refine zMet_of jX6_paysOf [some (.ref 47), some (.int a1), none, none] (by decide +kernel) (Nat.le_of_ble_eq_true rfl) rfl hj ?_
  unfold D_X6_paysOf at h
  refine zk_iconst (v := 0) dX6_paysOf_0 (by decide) ?_
  refine zk_istore_n (i := 2) dX6_paysOf_1 rfl (by decide) (zk_eq [_, _, _, _] rfl ?_)
  refine zk_iconst (v := 0) dX6_paysOf_2 (by decide) ?_
  refine zk_istore_n (i := 3) dX6_paysOf_3 rfl (by decide) (zk_eq [_, _, _, _] rfl ?_)
  exact ok_X6_paysOf_L4 hj r _ _ _ _ _ h
def D_X6_firstOverpaying_B2 (s : zS) (rec2 : Int32 → Option Int32) (a1 : Int32) : Option Int32 :=
    (D_X6_allUsers s).bind fun p4 =>
    if p4 < a1 then (
      some (-1 : Int32)
    ) else (
      (D_X6_paysOf s a1).bind fun p12 =>
      (D_X6_costOf s a1).bind fun p17 =>
      if p12 ≤ p17 then (
        rec2 (a1 + 1)
      ) else (
        some a1
      )
    )
def D_X6_firstOverpaying_L2 (s : zS) (n : Nat) (a1 : Int32) : Option Int32 := zfx (fun (rec : Int32 → Option Int32) q => D_X6_firstOverpaying_B2 s (fun v0 => rec (v0)) q) n (a1)
set_option maxRecDepth 100000 in
theorem D_X6_firstOverpaying_L2_s (s : zS) (n : Nat) (a1 : Int32) : D_X6_firstOverpaying_L2 s (n + 1) a1 = D_X6_firstOverpaying_B2 s (D_X6_firstOverpaying_L2 s n) a1 := rfl
set_option maxRecDepth 100000 in
theorem ok_X6_firstOverpaying_L2 {l : Launch} {D : va_G} {ad : Nat → Nat} {cA : Nat → ClassId} (hj : zInj ad) (r : Int32) (s : zS) : ∀ (n : Nat) (a1 : Int32), D_X6_firstOverpaying_L2 s n a1 = some r → zOk l D ad cA (zJm jX6_firstOverpaying) (zEnd D ad cA (some (.int r)) s) 2 [some (.ref 47), some (.int a1)] [] s := by
  intro n
  induction n with
  | zero =>
    intro a1 h
    have h0 : (none : Option Int32) = some r := h
    cases h0
  | succ n hr2 =>
    intro a1 h
    have h : D_X6_firstOverpaying_B2 s (D_X6_firstOverpaying_L2 s n) a1 = some r := h
    unfold D_X6_firstOverpaying_B2 at h
    refine zk_iload_n dX6_firstOverpaying_2 rfl rfl ?_
    refine zk_aload_n dX6_firstOverpaying_3 rfl rfl ?_
    obtain ⟨p4, h4, h⟩ := zbind h
    refine zc_X6_59 [.int _] (As := []) (ok_X6_allUsers hj _ h4) rfl ⟨Nat.le_of_ble_eq_true rfl, Nat.le_of_ble_eq_true rfl⟩ ⟨Nat.le_refl _, Nat.le_refl _⟩ rfl rfl (Nat.le_of_ble_eq_true rfl) dX6_firstOverpaying_4 ?_
    refine zk_icmp_gt (tgt := 31) dX6_firstOverpaying_7 rfl (fun g7 => ?_) (fun g7 => ?_)
    · replace h := zpos g7 h
      refine zk_iconst (v := -1) dX6_firstOverpaying_31 (by decide) ?_
      have e9 := Option.some.inj h
      subst e9
      exact zk_iret rfl ⟨rfl, rfl⟩ dX6_firstOverpaying_32
    · replace h := zneg g7 h
      refine zk_aload_n dX6_firstOverpaying_10 rfl rfl ?_
      refine zk_iload_n dX6_firstOverpaying_11 rfl rfl ?_
      obtain ⟨p12, h12, h⟩ := zbind h
      refine zc_X6_63 [] (As := [.int _]) (ok_X6_paysOf hj _ _ h12) rfl ⟨Nat.le_of_ble_eq_true rfl, Nat.le_of_ble_eq_true rfl⟩ ⟨Nat.le_refl _, Nat.le_refl _⟩ rfl rfl (Nat.le_of_ble_eq_true rfl) dX6_firstOverpaying_12 ?_
      refine zk_aload_n dX6_firstOverpaying_15 rfl rfl ?_
      refine zk_iload_n dX6_firstOverpaying_16 rfl rfl ?_
      obtain ⟨p17, h17, h⟩ := zbind h
      refine zc_X6_66 [.int _] (As := [.int _]) (ok_X6_costOf hj _ _ h17) rfl ⟨Nat.le_of_ble_eq_true rfl, Nat.le_of_ble_eq_true rfl⟩ ⟨Nat.le_refl _, Nat.le_refl _⟩ rfl rfl (Nat.le_of_ble_eq_true rfl) dX6_firstOverpaying_17 ?_
      refine zk_icmp_le (tgt := 25) dX6_firstOverpaying_20 rfl (fun g20 => ?_) (fun g20 => ?_)
      · replace h := zpos g20 h
        refine zk_iinc dX6_firstOverpaying_25 rfl (zinc (m := 1) (by decide)) (by decide) (zk_eq [_, _] rfl ?_)
        refine zk_goto (tgt := 2) dX6_firstOverpaying_28 rfl ?_
        exact hr2 _ h
      · replace h := zneg g20 h
        refine zk_iload_n dX6_firstOverpaying_23 rfl rfl ?_
        have e9 := Option.some.inj h
        subst e9
        exact zk_iret rfl ⟨rfl, rfl⟩ dX6_firstOverpaying_24
def D_X6_firstOverpaying (s : zS) : Option Int32 :=
  D_X6_firstOverpaying_L2 s zFU (1 : Int32)
set_option maxRecDepth 100000 in
theorem ok_X6_firstOverpaying {l : Launch} {D : va_G} {ad : Nat → Nat} {cA : Nat → ClassId} (hj : zInj ad) (s : zS)  {r : Int32} (h : D_X6_firstOverpaying s = some r) : zMet l D ad cA jX6_firstOverpaying [.ref 47] s (some (.int r)) s := by
  refine zMet_of jX6_firstOverpaying [some (.ref 47), none] (by decide +kernel) (Nat.le_of_ble_eq_true rfl) rfl hj ?_
  unfold D_X6_firstOverpaying at h
  refine zk_iconst (v := 1) dX6_firstOverpaying_0 (by decide) ?_
  refine zk_istore_n (i := 1) dX6_firstOverpaying_1 rfl (by decide) (zk_eq [_, _] rfl ?_)
  exact ok_X6_firstOverpaying_L2 hj r _ _ _ h
def D_X6_knowsUser (s : zS) (a1 : Int32) : Option Int32 :=
  (D_X8_within a1 (0 : Int32) ((s.1 47 4) - (1 : Int32))).bind fun p8 =>
  zgd (p8 = 0 ∨ p8 = 1) <|
  some p8
set_option maxRecDepth 100000 in
theorem ok_X6_knowsUser {l : Launch} {D : va_G} {ad : Nat → Nat} {cA : Nat → ClassId} (hj : zInj ad) (s : zS) (a1 : Int32) {r : Int32} (h : D_X6_knowsUser s a1 = some r) : zMet l D ad cA jX6_knowsUser [.ref 47, .int a1] s (some (.int r)) s := by
  refine zMet_of jX6_knowsUser [some (.ref 47), some (.int a1)] (by decide +kernel) (Nat.le_of_ble_eq_true rfl) rfl hj ?_
  unfold D_X6_knowsUser at h
  refine zk_iload_n dX6_knowsUser_0 rfl rfl ?_
  refine zk_iconst (v := 0) dX6_knowsUser_1 (by decide) ?_
  refine zk_aload_n dX6_knowsUser_2 rfl rfl ?_
  refine zf_X6_25 rfl dX6_knowsUser_3 ?_
  refine zk_iconst (v := 1) dX6_knowsUser_6 (by decide) ?_
  refine zk_isub dX6_knowsUser_7 ?_
  obtain ⟨p8, h8, h⟩ := zbind h
  refine zc_X6_34 [] (As := [.int _, .int _, .int _]) (ok_X8_within hj _ _ _ _ h8) rfl ⟨Nat.le_of_ble_eq_true rfl, Nat.le_of_ble_eq_true rfl⟩ ⟨Nat.le_refl _, Nat.le_refl _⟩ rfl rfl (Nat.le_of_ble_eq_true rfl) dX6_knowsUser_8 ?_
  obtain ⟨hx11, h⟩ := zguard h
  have e9 := Option.some.inj h
  subst e9
  exact zk_zret rfl hx11 ⟨rfl, rfl⟩ dX6_knowsUser_11
def D_X6_mixInto_B47 (s : zS) (rec47 : Int64 → Int32 → Option Int64) (a3 : Int64) (a5 : Int32) : Option Int64 :=
    if (s.1 47 4) ≤ a5 then (
      some a3
    ) else (
      zgd (zin a5 8 = true) <|
      (D_X8_mix a3 ((s.1 51 a5.toNatClampNeg).toInt64)).bind fun p65 =>
      zgd (zin a5 8 = true) <|
      (D_X8_mix p65 ((s.1 52 a5.toNatClampNeg).toInt64)).bind fun p76 =>
      rec47 p76 (a5 + 1)
    )
def D_X6_mixInto_L47 (s : zS) (n : Nat) (a3 : Int64) (a5 : Int32) : Option Int64 := zfx (fun (rec : Int64 × Int32 → Option Int64) q => D_X6_mixInto_B47 s (fun v0 v1 => rec (v0, v1)) q.1 q.2) n (a3, a5)
set_option maxRecDepth 100000 in
theorem D_X6_mixInto_L47_s (s : zS) (n : Nat) (a3 : Int64) (a5 : Int32) : D_X6_mixInto_L47 s (n + 1) a3 a5 = D_X6_mixInto_B47 s (D_X6_mixInto_L47 s n) a3 a5 := rfl
set_option maxRecDepth 100000 in
theorem ok_X6_mixInto_L47 {l : Launch} {D : va_G} {ad : Nat → Nat} {cA : Nat → ClassId} (hj : zInj ad) (r : Int64) (s : zS) : ∀ (n : Nat) (a3 : Int64) (a5 : Int32), D_X6_mixInto_L47 s n a3 a5 = some r → zOk l D ad cA (zJm jX6_mixInto) (zEnd D ad cA (some (.long r)) s) 47 [some (.ref 47), none, none, some (.long a3), none, some (.int a5)] [] s := by
  intro n
  induction n with
  | zero =>
    intro a3 a5 h
    have h0 : (none : Option Int64) = some r := h
    cases h0
  | succ n hr47 =>
    intro a3 a5 h
    have h : D_X6_mixInto_B47 s (D_X6_mixInto_L47 s n) a3 a5 = some r := h
    unfold D_X6_mixInto_B47 at h
    refine zk_iload dX6_mixInto_47 rfl ?_
    refine zk_aload_n dX6_mixInto_49 rfl rfl ?_
    refine zf_X6_25 rfl dX6_mixInto_50 ?_
    refine zk_icmp_ge (tgt := 86) dX6_mixInto_53 rfl (fun g53 => ?_) (fun g53 => ?_)
    · replace h := zpos g53 h
      refine zk_lload_n dX6_mixInto_86 rfl rfl ?_
      have e9 := Option.some.inj h
      subst e9
      exact zk_lret rfl ⟨rfl, rfl⟩ dX6_mixInto_87
    · replace h := zneg g53 h
      refine zk_lload_n dX6_mixInto_56 rfl rfl ?_
      refine zk_aload_n dX6_mixInto_57 rfl rfl ?_
      refine zf_X6_28 rfl dX6_mixInto_58 ?_
      refine zk_iload dX6_mixInto_61 rfl ?_
      obtain ⟨g63, h⟩ := zguard h
      refine zk_iald (zoI_of rfl g63) dX6_mixInto_63 ?_
      refine zk_i2l dX6_mixInto_64 ?_
      obtain ⟨p65, h65, h⟩ := zbind h
      refine zc_X6_69 [] (As := [.long _, .long _]) (ok_X8_mix hj _ _ _ h65) rfl ⟨Nat.le_of_ble_eq_true rfl, Nat.le_of_ble_eq_true rfl⟩ ⟨Nat.le_refl _, Nat.le_refl _⟩ rfl rfl (Nat.le_of_ble_eq_true rfl) dX6_mixInto_65 ?_
      refine zk_aload_n dX6_mixInto_68 rfl rfl ?_
      refine zf_X6_31 rfl dX6_mixInto_69 ?_
      refine zk_iload dX6_mixInto_72 rfl ?_
      obtain ⟨g74, h⟩ := zguard h
      refine zk_iald (zoI_of rfl g74) dX6_mixInto_74 ?_
      refine zk_i2l dX6_mixInto_75 ?_
      obtain ⟨p76, h76, h⟩ := zbind h
      refine zc_X6_69 [] (As := [.long _, .long _]) (ok_X8_mix hj _ _ _ h76) rfl ⟨Nat.le_of_ble_eq_true rfl, Nat.le_of_ble_eq_true rfl⟩ ⟨Nat.le_refl _, Nat.le_refl _⟩ rfl rfl (Nat.le_of_ble_eq_true rfl) dX6_mixInto_76 ?_
      refine zk_lstore_n (i := 3) dX6_mixInto_79 rfl (by decide) (zk_eq [_, _, _, _, _, _] rfl ?_)
      refine zk_iinc dX6_mixInto_80 rfl (zinc (m := 1) (by decide)) (by decide) (zk_eq [_, _, _, _, _, _] rfl ?_)
      refine zk_goto (tgt := 47) dX6_mixInto_83 rfl ?_
      exact hr47 _ _ h
def D_X6_mixInto_B5 (s : zS) (rec5 : Int64 → Int32 → Option Int64) (a3 : Int64) (a5 : Int32) : Option Int64 :=
    if (s.1 47 0) ≤ a5 then (
      D_X6_mixInto_L47 s zFU a3 (0 : Int32)
    ) else (
      zgd (zin a5 10 = true) <|
      (D_X8_mix a3 ((s.1 48 a5.toNatClampNeg).toInt64)).bind fun p23 =>
      zgd (zin a5 10 = true) <|
      (D_X8_mix p23 ((s.1 49 a5.toNatClampNeg).toInt64)).bind fun p34 =>
      rec5 p34 (a5 + 1)
    )
def D_X6_mixInto_L5 (s : zS) (n : Nat) (a3 : Int64) (a5 : Int32) : Option Int64 := zfx (fun (rec : Int64 × Int32 → Option Int64) q => D_X6_mixInto_B5 s (fun v0 v1 => rec (v0, v1)) q.1 q.2) n (a3, a5)
set_option maxRecDepth 100000 in
theorem D_X6_mixInto_L5_s (s : zS) (n : Nat) (a3 : Int64) (a5 : Int32) : D_X6_mixInto_L5 s (n + 1) a3 a5 = D_X6_mixInto_B5 s (D_X6_mixInto_L5 s n) a3 a5 := rfl
set_option maxRecDepth 100000 in
theorem ok_X6_mixInto_L5 {l : Launch} {D : va_G} {ad : Nat → Nat} {cA : Nat → ClassId} (hj : zInj ad) (r : Int64) (s : zS) : ∀ (n : Nat) (a3 : Int64) (a5 : Int32), D_X6_mixInto_L5 s n a3 a5 = some r → zOk l D ad cA (zJm jX6_mixInto) (zEnd D ad cA (some (.long r)) s) 5 [some (.ref 47), none, none, some (.long a3), none, some (.int a5)] [] s := by
  intro n
  induction n with
  | zero =>
    intro a3 a5 h
    have h0 : (none : Option Int64) = some r := h
    cases h0
  | succ n hr5 =>
    intro a3 a5 h
    have h : D_X6_mixInto_B5 s (D_X6_mixInto_L5 s n) a3 a5 = some r := h
    unfold D_X6_mixInto_B5 at h
    refine zk_iload dX6_mixInto_5 rfl ?_
    refine zk_aload_n dX6_mixInto_7 rfl rfl ?_
    refine zf_X6_9 rfl dX6_mixInto_8 ?_
    refine zk_icmp_ge (tgt := 44) dX6_mixInto_11 rfl (fun g11 => ?_) (fun g11 => ?_)
    · replace h := zpos g11 h
      refine zk_iconst (v := 0) dX6_mixInto_44 (by decide) ?_
      refine zk_istore (i := 5) dX6_mixInto_45 (by decide) (zk_eq [_, _, _, _, _, _] rfl ?_)
      exact ok_X6_mixInto_L47 hj r _ _ _ _ h
    · replace h := zneg g11 h
      refine zk_lload_n dX6_mixInto_14 rfl rfl ?_
      refine zk_aload_n dX6_mixInto_15 rfl rfl ?_
      refine zf_X6_15 rfl dX6_mixInto_16 ?_
      refine zk_iload dX6_mixInto_19 rfl ?_
      obtain ⟨g21, h⟩ := zguard h
      refine zk_iald (zoI_of rfl g21) dX6_mixInto_21 ?_
      refine zk_i2l dX6_mixInto_22 ?_
      obtain ⟨p23, h23, h⟩ := zbind h
      refine zc_X6_69 [] (As := [.long _, .long _]) (ok_X8_mix hj _ _ _ h23) rfl ⟨Nat.le_of_ble_eq_true rfl, Nat.le_of_ble_eq_true rfl⟩ ⟨Nat.le_refl _, Nat.le_refl _⟩ rfl rfl (Nat.le_of_ble_eq_true rfl) dX6_mixInto_23 ?_
      refine zk_aload_n dX6_mixInto_26 rfl rfl ?_
      refine zf_X6_19 rfl dX6_mixInto_27 ?_
      refine zk_iload dX6_mixInto_30 rfl ?_
      obtain ⟨g32, h⟩ := zguard h
      refine zk_iald (zoI_of rfl g32) dX6_mixInto_32 ?_
      refine zk_i2l dX6_mixInto_33 ?_
      obtain ⟨p34, h34, h⟩ := zbind h
      refine zc_X6_69 [] (As := [.long _, .long _]) (ok_X8_mix hj _ _ _ h34) rfl ⟨Nat.le_of_ble_eq_true rfl, Nat.le_of_ble_eq_true rfl⟩ ⟨Nat.le_refl _, Nat.le_refl _⟩ rfl rfl (Nat.le_of_ble_eq_true rfl) dX6_mixInto_34 ?_
      refine zk_lstore_n (i := 3) dX6_mixInto_37 rfl (by decide) (zk_eq [_, _, _, _, _, _] rfl ?_)
      refine zk_iinc dX6_mixInto_38 rfl (zinc (m := 1) (by decide)) (by decide) (zk_eq [_, _, _, _, _, _] rfl ?_)
      refine zk_goto (tgt := 5) dX6_mixInto_41 rfl ?_
      exact hr5 _ _ h
def D_X6_mixInto (s : zS) (a1 : Int64) : Option Int64 :=
  D_X6_mixInto_L5 s zFU a1 (1 : Int32)
set_option maxRecDepth 100000 in
theorem ok_X6_mixInto {l : Launch} {D : va_G} {ad : Nat → Nat} {cA : Nat → ClassId} (hj : zInj ad) (s : zS) (a1 : Int64) {r : Int64} (h : D_X6_mixInto s a1 = some r) : zMet l D ad cA jX6_mixInto [.ref 47, .long a1] s (some (.long r)) s := by
  refine zMet_of jX6_mixInto [some (.ref 47), some (.long a1), none, none, none, none] (by decide +kernel) (Nat.le_of_ble_eq_true rfl) rfl hj ?_
  unfold D_X6_mixInto at h
  refine zk_lload_n dX6_mixInto_0 rfl rfl ?_
  refine zk_lstore_n (i := 3) dX6_mixInto_1 rfl (by decide) (zk_eq [_, _, _, _, _, _] rfl ?_)
  refine zk_iconst (v := 1) dX6_mixInto_2 (by decide) ?_
  refine zk_istore (i := 5) dX6_mixInto_3 (by decide) (zk_eq [_, _, _, _, _, _] rfl ?_)
  refine zk_mask [true, false, false, true, false, true] ?_
  exact ok_X6_mixInto_L5 hj r _ _ _ _ h
def D_X6_usersOfWay_B4 (s : zS) (a1 : Int32) (rec4 : Int32 → Int32 → Option Int32) (a2 : Int32) (a3 : Int32) : Option Int32 :=
    if (s.1 47 4) ≤ a3 then (
      some a2
    ) else (
      (D_X6_waysOfUser s a3).bind fun p14 =>
      (D_X8_has p14 a1).bind fun p18 =>
      if p18 = 0 then (
        rec4 a2 (a3 + 1)
      ) else (
        rec4 (a2 + 1) (a3 + 1)
      )
    )
def D_X6_usersOfWay_L4 (s : zS) (a1 : Int32) (n : Nat) (a2 : Int32) (a3 : Int32) : Option Int32 := zfx (fun (rec : Int32 × Int32 → Option Int32) q => D_X6_usersOfWay_B4 s a1 (fun v0 v1 => rec (v0, v1)) q.1 q.2) n (a2, a3)
set_option maxRecDepth 100000 in
theorem D_X6_usersOfWay_L4_s (s : zS) (a1 : Int32) (n : Nat) (a2 : Int32) (a3 : Int32) : D_X6_usersOfWay_L4 s a1 (n + 1) a2 a3 = D_X6_usersOfWay_B4 s a1 (D_X6_usersOfWay_L4 s a1 n) a2 a3 := rfl
set_option maxRecDepth 100000 in
theorem ok_X6_usersOfWay_L4 {l : Launch} {D : va_G} {ad : Nat → Nat} {cA : Nat → ClassId} (hj : zInj ad) (r : Int32) (s : zS) (a1 : Int32) : ∀ (n : Nat) (a2 : Int32) (a3 : Int32), D_X6_usersOfWay_L4 s a1 n a2 a3 = some r → zOk l D ad cA (zJm jX6_usersOfWay) (zEnd D ad cA (some (.int r)) s) 4 [some (.ref 47), some (.int a1), some (.int a2), some (.int a3)] [] s := by
  intro n
  induction n with
  | zero =>
    intro a2 a3 h
    have h0 : (none : Option Int32) = some r := h
    cases h0
  | succ n hr4 =>
    intro a2 a3 h
    have h : D_X6_usersOfWay_B4 s a1 (D_X6_usersOfWay_L4 s a1 n) a2 a3 = some r := h
    unfold D_X6_usersOfWay_B4 at h
    refine zk_iload_n dX6_usersOfWay_4 rfl rfl ?_
    refine zk_aload_n dX6_usersOfWay_5 rfl rfl ?_
    refine zf_X6_25 rfl dX6_usersOfWay_6 ?_
    refine zk_icmp_ge (tgt := 33) dX6_usersOfWay_9 rfl (fun g9 => ?_) (fun g9 => ?_)
    · replace h := zpos g9 h
      refine zk_iload_n dX6_usersOfWay_33 rfl rfl ?_
      have e9 := Option.some.inj h
      subst e9
      exact zk_iret rfl ⟨rfl, rfl⟩ dX6_usersOfWay_34
    · replace h := zneg g9 h
      refine zk_aload_n dX6_usersOfWay_12 rfl rfl ?_
      refine zk_iload_n dX6_usersOfWay_13 rfl rfl ?_
      obtain ⟨p14, h14, h⟩ := zbind h
      refine zc_X6_46 [] (As := [.int _]) (ok_X6_waysOfUser hj _ _ h14) rfl ⟨Nat.le_of_ble_eq_true rfl, Nat.le_of_ble_eq_true rfl⟩ ⟨Nat.le_refl _, Nat.le_refl _⟩ rfl rfl (Nat.le_of_ble_eq_true rfl) dX6_usersOfWay_14 ?_
      refine zk_iload_n dX6_usersOfWay_17 rfl rfl ?_
      obtain ⟨p18, h18, h⟩ := zbind h
      refine zc_X6_42 [] (As := [.int _, .int _]) (ok_X8_has hj _ _ _ h18) rfl ⟨Nat.le_of_ble_eq_true rfl, Nat.le_of_ble_eq_true rfl⟩ ⟨Nat.le_refl _, Nat.le_refl _⟩ rfl rfl (Nat.le_of_ble_eq_true rfl) dX6_usersOfWay_18 ?_
      refine zk_if_eq (tgt := 27) dX6_usersOfWay_21 rfl (fun g21 => ?_) (fun g21 => ?_)
      · replace h := zpos g21 h
        refine zk_iinc dX6_usersOfWay_27 rfl (zinc (m := 1) (by decide)) (by decide) (zk_eq [_, _, _, _] rfl ?_)
        refine zk_goto (tgt := 4) dX6_usersOfWay_30 rfl ?_
        exact hr4 _ _ h
      · replace h := zneg g21 h
        refine zk_iinc dX6_usersOfWay_24 rfl (zinc (m := 1) (by decide)) (by decide) (zk_eq [_, _, _, _] rfl ?_)
        refine zk_iinc dX6_usersOfWay_27 rfl (zinc (m := 1) (by decide)) (by decide) (zk_eq [_, _, _, _] rfl ?_)
        refine zk_goto (tgt := 4) dX6_usersOfWay_30 rfl ?_
        exact hr4 _ _ h
def D_X6_usersOfWay (s : zS) (a1 : Int32) : Option Int32 :=
  D_X6_usersOfWay_L4 s a1 zFU (0 : Int32) (0 : Int32)
set_option maxRecDepth 100000 in
theorem ok_X6_usersOfWay {l : Launch} {D : va_G} {ad : Nat → Nat} {cA : Nat → ClassId} (hj : zInj ad) (s : zS) (a1 : Int32) {r : Int32} (h : D_X6_usersOfWay s a1 = some r) : zMet l D ad cA jX6_usersOfWay [.ref 47, .int a1] s (some (.int r)) s := by
  refine zMet_of jX6_usersOfWay [some (.ref 47), some (.int a1), none, none] (by decide +kernel) (Nat.le_of_ble_eq_true rfl) rfl hj ?_
  unfold D_X6_usersOfWay at h
  refine zk_iconst (v := 0) dX6_usersOfWay_0 (by decide) ?_
  refine zk_istore_n (i := 2) dX6_usersOfWay_1 rfl (by decide) (zk_eq [_, _, _, _] rfl ?_)
  refine zk_iconst (v := 0) dX6_usersOfWay_2 (by decide) ?_
  refine zk_istore_n (i := 3) dX6_usersOfWay_3 rfl (by decide) (zk_eq [_, _, _, _] rfl ?_)
  exact ok_X6_usersOfWay_L4 hj r _ _ _ _ _ h
def D_X6_partsOfWays_B4 (s : zS) (a1 : Int32) (rec4 : Int32 → Int32 → Option Int32) (a2 : Int32) (a3 : Int32) : Option Int32 :=
    if (s.1 47 0) ≤ a3 then (
      some a2
    ) else (
      (D_X6_waysOfUser s a1).bind fun p14 =>
      (D_X8_has p14 a3).bind fun p18 =>
      if p18 = 0 then (
        rec4 a2 (a3 + 1)
      ) else (
        zgd (zin a3 10 = true) <|
        (D_X6_usersOfWay s a3).bind fun p37 =>
        if (zmax (1 : Int32) p37) = 0 then none else
        rec4 (a2 + ((s.1 49 a3.toNatClampNeg) * ((840 : Int32) / (zmax (1 : Int32) p37)))) (a3 + 1)
      )
    )
def D_X6_partsOfWays_L4 (s : zS) (a1 : Int32) (n : Nat) (a2 : Int32) (a3 : Int32) : Option Int32 := zfx (fun (rec : Int32 × Int32 → Option Int32) q => D_X6_partsOfWays_B4 s a1 (fun v0 v1 => rec (v0, v1)) q.1 q.2) n (a2, a3)
set_option maxRecDepth 100000 in
theorem D_X6_partsOfWays_L4_s (s : zS) (a1 : Int32) (n : Nat) (a2 : Int32) (a3 : Int32) : D_X6_partsOfWays_L4 s a1 (n + 1) a2 a3 = D_X6_partsOfWays_B4 s a1 (D_X6_partsOfWays_L4 s a1 n) a2 a3 := rfl
set_option maxRecDepth 100000 in
theorem ok_X6_partsOfWays_L4 {l : Launch} {D : va_G} {ad : Nat → Nat} {cA : Nat → ClassId} (hj : zInj ad) (r : Int32) (s : zS) (a1 : Int32) : ∀ (n : Nat) (a2 : Int32) (a3 : Int32), D_X6_partsOfWays_L4 s a1 n a2 a3 = some r → zOk l D ad cA (zJm jX6_partsOfWays) (zEnd D ad cA (some (.int r)) s) 4 [some (.ref 47), some (.int a1), some (.int a2), some (.int a3)] [] s := by
  intro n
  induction n with
  | zero =>
    intro a2 a3 h
    have h0 : (none : Option Int32) = some r := h
    cases h0
  | succ n hr4 =>
    intro a2 a3 h
    have h : D_X6_partsOfWays_B4 s a1 (D_X6_partsOfWays_L4 s a1 n) a2 a3 = some r := h
    unfold D_X6_partsOfWays_B4 at h
    refine zk_iload_n dX6_partsOfWays_4 rfl rfl ?_
    refine zk_aload_n dX6_partsOfWays_5 rfl rfl ?_
    refine zf_X6_9 rfl dX6_partsOfWays_6 ?_
    refine zk_icmp_ge (tgt := 53) dX6_partsOfWays_9 rfl (fun g9 => ?_) (fun g9 => ?_)
    · replace h := zpos g9 h
      refine zk_iload_n dX6_partsOfWays_53 rfl rfl ?_
      have e9 := Option.some.inj h
      subst e9
      exact zk_iret rfl ⟨rfl, rfl⟩ dX6_partsOfWays_54
    · replace h := zneg g9 h
      refine zk_aload_n dX6_partsOfWays_12 rfl rfl ?_
      refine zk_iload_n dX6_partsOfWays_13 rfl rfl ?_
      obtain ⟨p14, h14, h⟩ := zbind h
      refine zc_X6_46 [] (As := [.int _]) (ok_X6_waysOfUser hj _ _ h14) rfl ⟨Nat.le_of_ble_eq_true rfl, Nat.le_of_ble_eq_true rfl⟩ ⟨Nat.le_refl _, Nat.le_refl _⟩ rfl rfl (Nat.le_of_ble_eq_true rfl) dX6_partsOfWays_14 ?_
      refine zk_iload_n dX6_partsOfWays_17 rfl rfl ?_
      obtain ⟨p18, h18, h⟩ := zbind h
      refine zc_X6_42 [] (As := [.int _, .int _]) (ok_X8_has hj _ _ _ h18) rfl ⟨Nat.le_of_ble_eq_true rfl, Nat.le_of_ble_eq_true rfl⟩ ⟨Nat.le_refl _, Nat.le_refl _⟩ rfl rfl (Nat.le_of_ble_eq_true rfl) dX6_partsOfWays_18 ?_
      refine zk_if_eq (tgt := 47) dX6_partsOfWays_21 rfl (fun g21 => ?_) (fun g21 => ?_)
      · replace h := zpos g21 h
        refine zk_iinc dX6_partsOfWays_47 rfl (zinc (m := 1) (by decide)) (by decide) (zk_eq [_, _, _, _] rfl ?_)
        refine zk_goto (tgt := 4) dX6_partsOfWays_50 rfl ?_
        exact hr4 _ _ h
      · replace h := zneg g21 h
        refine zk_iload_n dX6_partsOfWays_24 rfl rfl ?_
        refine zk_aload_n dX6_partsOfWays_25 rfl rfl ?_
        refine zf_X6_19 rfl dX6_partsOfWays_26 ?_
        refine zk_iload_n dX6_partsOfWays_29 rfl rfl ?_
        obtain ⟨g30, h⟩ := zguard h
        refine zk_iald (zoI_of rfl g30) dX6_partsOfWays_30 ?_
        refine zk_sipush (v := 840) dX6_partsOfWays_31 (by decide) ?_
        refine zk_iconst (v := 1) dX6_partsOfWays_34 (by decide) ?_
        refine zk_aload_n dX6_partsOfWays_35 rfl rfl ?_
        refine zk_iload_n dX6_partsOfWays_36 rfl rfl ?_
        obtain ⟨p37, h37, h⟩ := zbind h
        refine zc_X6_50 [.int _, .int _, .int _, .int _] (As := [.int _]) (ok_X6_usersOfWay hj _ _ h37) rfl ⟨Nat.le_of_ble_eq_true rfl, Nat.le_of_ble_eq_true rfl⟩ ⟨Nat.le_refl _, Nat.le_refl _⟩ rfl rfl (Nat.le_of_ble_eq_true rfl) dX6_partsOfWays_37 ?_
        refine zk_mmax zmw_X6_53 (Nat.le_of_ble_eq_true rfl) (Nat.le_of_ble_eq_true rfl) ⟨Nat.le_refl _, Nat.le_refl _⟩ dX6_partsOfWays_40 ?_
        obtain ⟨g43, h⟩ := zguardn h
        refine zk_idiv dX6_partsOfWays_43 g43 ?_
        refine zk_imul dX6_partsOfWays_44 ?_
        refine zk_iadd dX6_partsOfWays_45 ?_
        refine zk_istore_n (i := 2) dX6_partsOfWays_46 rfl (by decide) (zk_eq [_, _, _, _] rfl ?_)
        refine zk_iinc dX6_partsOfWays_47 rfl (zinc (m := 1) (by decide)) (by decide) (zk_eq [_, _, _, _] rfl ?_)
        refine zk_goto (tgt := 4) dX6_partsOfWays_50 rfl ?_
        exact hr4 _ _ h
def D_X6_partsOfWays (s : zS) (a1 : Int32) : Option Int32 :=
  D_X6_partsOfWays_L4 s a1 zFU (0 : Int32) (1 : Int32)
set_option maxRecDepth 100000 in
theorem ok_X6_partsOfWays {l : Launch} {D : va_G} {ad : Nat → Nat} {cA : Nat → ClassId} (hj : zInj ad) (s : zS) (a1 : Int32) {r : Int32} (h : D_X6_partsOfWays s a1 = some r) : zMet l D ad cA jX6_partsOfWays [.ref 47, .int a1] s (some (.int r)) s := by
  refine zMet_of jX6_partsOfWays [some (.ref 47), some (.int a1), none, none] (by decide +kernel) (Nat.le_of_ble_eq_true rfl) rfl hj ?_
  unfold D_X6_partsOfWays at h
  refine zk_iconst (v := 0) dX6_partsOfWays_0 (by decide) ?_
  refine zk_istore_n (i := 2) dX6_partsOfWays_1 rfl (by decide) (zk_eq [_, _, _, _] rfl ?_)
  refine zk_iconst (v := 1) dX6_partsOfWays_2 (by decide) ?_
  refine zk_istore_n (i := 3) dX6_partsOfWays_3 rfl (by decide) (zk_eq [_, _, _, _] rfl ?_)
  exact ok_X6_partsOfWays_L4 hj r _ _ _ _ _ h
def D_X6_replacePay (s : zS) (a1 : Int32) (a2 : Int32) : Option (Int32 × zS) :=
  zgd (zin a1 8 = true) <|
  zgd (zin a1 8 = true) <|
  let s13 : zS := zwI s 52 a1.toNatClampNeg a2
  some ((s.1 52 a1.toNatClampNeg), s13)
set_option maxRecDepth 100000 in
theorem ok_X6_replacePay {l : Launch} {D : va_G} {ad : Nat → Nat} {cA : Nat → ClassId} (hj : zInj ad) (s : zS) (a1 : Int32) (a2 : Int32) {r : (Int32 × zS)} (h : D_X6_replacePay s a1 a2 = some r) : zMet l D ad cA jX6_replacePay [.ref 47, .int a1, .int a2] s (some (.int r.1)) r.2 := by
  refine zMet_of jX6_replacePay [some (.ref 47), some (.int a1), some (.int a2), none] (by decide +kernel) (Nat.le_of_ble_eq_true rfl) rfl hj ?_
  unfold D_X6_replacePay at h
  refine zk_aload_n dX6_replacePay_0 rfl rfl ?_
  refine zf_X6_31 rfl dX6_replacePay_1 ?_
  refine zk_iload_n dX6_replacePay_4 rfl rfl ?_
  obtain ⟨g5, h⟩ := zguard h
  refine zk_iald (zoI_of rfl g5) dX6_replacePay_5 ?_
  refine zk_istore_n (i := 3) dX6_replacePay_6 rfl (by decide) (zk_eq [_, _, _, _] rfl ?_)
  refine zk_aload_n dX6_replacePay_7 rfl rfl ?_
  refine zf_X6_31 rfl dX6_replacePay_8 ?_
  refine zk_iload_n dX6_replacePay_11 rfl rfl ?_
  refine zk_iload_n dX6_replacePay_12 rfl rfl ?_
  obtain ⟨g13, h⟩ := zguard h
  refine zk_iast (zoI_of rfl g13) dX6_replacePay_13 ?_
  refine zk_iload_n dX6_replacePay_14 rfl rfl ?_
  have e9 := Option.some.inj h
  subst e9
  exact zk_iret rfl ⟨rfl, rfl⟩ dX6_replacePay_15
def D_X7_added (s : zS) (a1 : Int32) (a2 : Int32) : Option Int32 :=
  zgd (zin (a1 ||| ((1 : Int32) <<< (a2 &&& 31))) 16 = true) <|
  zgd (zin a1 16 = true) <|
  some ((s.1 3 (a1 ||| ((1 : Int32) <<< (a2 &&& 31))).toNatClampNeg) - (s.1 3 a1.toNatClampNeg))
set_option maxRecDepth 100000 in
theorem ok_X7_added {l : Launch} {D : va_G} {ad : Nat → Nat} {cA : Nat → ClassId} (hj : zInj ad) (s : zS) (a1 : Int32) (a2 : Int32) {r : Int32} (h : D_X7_added s a1 a2 = some r) : zMet l D ad cA jX7_added [.ref 2, .int a1, .int a2] s (some (.int r)) s := by
  refine zMet_of jX7_added [some (.ref 2), some (.int a1), some (.int a2)] (by decide +kernel) (Nat.le_of_ble_eq_true rfl) rfl hj ?_
  unfold D_X7_added at h
  refine zk_aload_n dX7_added_0 rfl rfl ?_
  refine zf_X7_15 rfl dX7_added_1 ?_
  refine zk_iload_n dX7_added_4 rfl rfl ?_
  refine zk_iconst (v := 1) dX7_added_5 (by decide) ?_
  refine zk_iload_n dX7_added_6 rfl rfl ?_
  refine zk_ishl dX7_added_7 ?_
  refine zk_ior dX7_added_8 ?_
  obtain ⟨g9, h⟩ := zguard h
  refine zk_iald (zoI_of rfl g9) dX7_added_9 ?_
  refine zk_aload_n dX7_added_10 rfl rfl ?_
  refine zf_X7_15 rfl dX7_added_11 ?_
  refine zk_iload_n dX7_added_14 rfl rfl ?_
  obtain ⟨g15, h⟩ := zguard h
  refine zk_iald (zoI_of rfl g15) dX7_added_15 ?_
  refine zk_isub dX7_added_16 ?_
  have e9 := Option.some.inj h
  subst e9
  exact zk_iret rfl ⟨rfl, rfl⟩ dX7_added_17
def D_X7_digitAt (s : zS) (a1 : Int32) (a2 : Int32) : Option Int32 :=
  some ((a1 >>> (((2 : Int32) * (((s.1 2 0) - (1 : Int32)) - a2)) &&& 31)) &&& (3 : Int32))
set_option maxRecDepth 100000 in
theorem ok_X7_digitAt {l : Launch} {D : va_G} {ad : Nat → Nat} {cA : Nat → ClassId} (hj : zInj ad) (s : zS) (a1 : Int32) (a2 : Int32) {r : Int32} (h : D_X7_digitAt s a1 a2 = some r) : zMet l D ad cA jX7_digitAt [.ref 2, .int a1, .int a2] s (some (.int r)) s := by
  refine zMet_of jX7_digitAt [some (.ref 2), some (.int a1), some (.int a2)] (by decide +kernel) (Nat.le_of_ble_eq_true rfl) rfl hj ?_
  unfold D_X7_digitAt at h
  refine zk_iload_n dX7_digitAt_0 rfl rfl ?_
  refine zk_iconst (v := 2) dX7_digitAt_1 (by decide) ?_
  refine zk_aload_n dX7_digitAt_2 rfl rfl ?_
  refine zf_X7_9 rfl dX7_digitAt_3 ?_
  refine zk_iconst (v := 1) dX7_digitAt_6 (by decide) ?_
  refine zk_isub dX7_digitAt_7 ?_
  refine zk_iload_n dX7_digitAt_8 rfl rfl ?_
  refine zk_isub dX7_digitAt_9 ?_
  refine zk_imul dX7_digitAt_10 ?_
  refine zk_ishr dX7_digitAt_11 ?_
  refine zk_iconst (v := 3) dX7_digitAt_12 (by decide) ?_
  refine zk_iand dX7_digitAt_13 ?_
  have e9 := Option.some.inj h
  subst e9
  exact zk_iret rfl ⟨rfl, rfl⟩ dX7_digitAt_14
def D_X7_partingWorth_B18 (rec4 : Int32 → Int32 → Option Int32) (s : zS) (a1 : Int32) (a2 : Int32) (a3 : Int32) (rec18 : Int32 → Int32 → Option Int32) (a4 : Int32) (a5 : Int32) : Option Int32 :=
    if (s.1 2 0) ≤ a5 then (
      zgd (zin a4 16 = true) <|
      rec4 (a2 + (s.1 3 a4.toNatClampNeg)) (a3 + 1)
    ) else (
      (D_X7_digitAt s a1 a5).bind fun p31 =>
      if p31 = a3 then (
        rec18 (a4 ||| ((1 : Int32) <<< (a5 &&& 31))) (a5 + 1)
      ) else (
        rec18 a4 (a5 + 1)
      )
    )
def D_X7_partingWorth_L18 (rec4 : Int32 → Int32 → Option Int32) (s : zS) (a1 : Int32) (a2 : Int32) (a3 : Int32) (n : Nat) (a4 : Int32) (a5 : Int32) : Option Int32 := zfx (fun (rec : Int32 × Int32 → Option Int32) q => D_X7_partingWorth_B18 rec4 s a1 a2 a3 (fun v0 v1 => rec (v0, v1)) q.1 q.2) n (a4, a5)
set_option maxRecDepth 100000 in
theorem D_X7_partingWorth_L18_s (rec4 : Int32 → Int32 → Option Int32) (s : zS) (a1 : Int32) (a2 : Int32) (a3 : Int32) (n : Nat) (a4 : Int32) (a5 : Int32) : D_X7_partingWorth_L18 rec4 s a1 a2 a3 (n + 1) a4 a5 = D_X7_partingWorth_B18 rec4 s a1 a2 a3 (D_X7_partingWorth_L18 rec4 s a1 a2 a3 n) a4 a5 := rfl
set_option maxRecDepth 100000 in
theorem ok_X7_partingWorth_L18 {l : Launch} {D : va_G} {ad : Nat → Nat} {cA : Nat → ClassId} (hj : zInj ad) (r : Int32) (s : zS) (a1 : Int32) (a2 : Int32) (a3 : Int32) (rec4 : Int32 → Int32 → Option Int32) (hr4 : ∀ (b2 : Int32) (b3 : Int32), rec4 b2 b3 = some r → zOk l D ad cA (zJm jX7_partingWorth) (zEnd D ad cA (some (.int r)) s) 4 [some (.ref 2), some (.int a1), some (.int b2), some (.int b3), none, none] [] s) : ∀ (n : Nat) (a4 : Int32) (a5 : Int32), D_X7_partingWorth_L18 rec4 s a1 a2 a3 n a4 a5 = some r → zOk l D ad cA (zJm jX7_partingWorth) (zEnd D ad cA (some (.int r)) s) 18 [some (.ref 2), some (.int a1), some (.int a2), some (.int a3), some (.int a4), some (.int a5)] [] s := by
  intro n
  induction n with
  | zero =>
    intro a4 a5 h
    have h0 : (none : Option Int32) = some r := h
    cases h0
  | succ n hr18 =>
    intro a4 a5 h
    have h : D_X7_partingWorth_B18 rec4 s a1 a2 a3 (D_X7_partingWorth_L18 rec4 s a1 a2 a3 n) a4 a5 = some r := h
    unfold D_X7_partingWorth_B18 at h
    refine zk_iload dX7_partingWorth_18 rfl ?_
    refine zk_aload_n dX7_partingWorth_20 rfl rfl ?_
    refine zf_X7_9 rfl dX7_partingWorth_21 ?_
    refine zk_icmp_ge (tgt := 53) dX7_partingWorth_24 rfl (fun g24 => ?_) (fun g24 => ?_)
    · replace h := zpos g24 h
      refine zk_iload_n dX7_partingWorth_53 rfl rfl ?_
      refine zk_aload_n dX7_partingWorth_54 rfl rfl ?_
      refine zf_X7_15 rfl dX7_partingWorth_55 ?_
      refine zk_iload dX7_partingWorth_58 rfl ?_
      obtain ⟨g60, h⟩ := zguard h
      refine zk_iald (zoI_of rfl g60) dX7_partingWorth_60 ?_
      refine zk_iadd dX7_partingWorth_61 ?_
      refine zk_istore_n (i := 2) dX7_partingWorth_62 rfl (by decide) (zk_eq [_, _, _, _, _, _] rfl ?_)
      refine zk_iinc dX7_partingWorth_63 rfl (zinc (m := 1) (by decide)) (by decide) (zk_eq [_, _, _, _, _, _] rfl ?_)
      refine zk_goto (tgt := 4) dX7_partingWorth_66 rfl ?_
      refine zk_mask [true, true, true, true, false, false] ?_
      exact hr4 _ _ h
    · replace h := zneg g24 h
      refine zk_aload_n dX7_partingWorth_27 rfl rfl ?_
      refine zk_iload_n dX7_partingWorth_28 rfl rfl ?_
      refine zk_iload dX7_partingWorth_29 rfl ?_
      obtain ⟨p31, h31, h⟩ := zbind h
      refine zc_X7_33 [] (As := [.int _, .int _]) (ok_X7_digitAt hj _ _ _ h31) rfl ⟨Nat.le_of_ble_eq_true rfl, Nat.le_of_ble_eq_true rfl⟩ ⟨Nat.le_refl _, Nat.le_refl _⟩ rfl rfl (Nat.le_of_ble_eq_true rfl) dX7_partingWorth_31 ?_
      refine zk_iload_n dX7_partingWorth_34 rfl rfl ?_
      refine zk_icmp_ne (tgt := 47) dX7_partingWorth_35 rfl (fun g35 => ?_) (fun g35 => ?_)
      · replace h := zneg g35 h
        refine zk_iinc dX7_partingWorth_47 rfl (zinc (m := 1) (by decide)) (by decide) (zk_eq [_, _, _, _, _, _] rfl ?_)
        refine zk_goto (tgt := 18) dX7_partingWorth_50 rfl ?_
        exact hr18 _ _ h
      · replace h := zpos g35 h
        refine zk_iload dX7_partingWorth_38 rfl ?_
        refine zk_iconst (v := 1) dX7_partingWorth_40 (by decide) ?_
        refine zk_iload dX7_partingWorth_41 rfl ?_
        refine zk_ishl dX7_partingWorth_43 ?_
        refine zk_ior dX7_partingWorth_44 ?_
        refine zk_istore (i := 4) dX7_partingWorth_45 (by decide) (zk_eq [_, _, _, _, _, _] rfl ?_)
        refine zk_iinc dX7_partingWorth_47 rfl (zinc (m := 1) (by decide)) (by decide) (zk_eq [_, _, _, _, _, _] rfl ?_)
        refine zk_goto (tgt := 18) dX7_partingWorth_50 rfl ?_
        exact hr18 _ _ h
def D_X7_partingWorth_B4 (s : zS) (a1 : Int32) (rec4 : Int32 → Int32 → Option Int32) (a2 : Int32) (a3 : Int32) : Option Int32 :=
    if (s.1 2 0) ≤ a3 then (
      some a2
    ) else (
      D_X7_partingWorth_L18 rec4 s a1 a2 a3 zFU (0 : Int32) (0 : Int32)
    )
def D_X7_partingWorth_L4 (s : zS) (a1 : Int32) (n : Nat) (a2 : Int32) (a3 : Int32) : Option Int32 := zfx (fun (rec : Int32 × Int32 → Option Int32) q => D_X7_partingWorth_B4 s a1 (fun v0 v1 => rec (v0, v1)) q.1 q.2) n (a2, a3)
set_option maxRecDepth 100000 in
theorem D_X7_partingWorth_L4_s (s : zS) (a1 : Int32) (n : Nat) (a2 : Int32) (a3 : Int32) : D_X7_partingWorth_L4 s a1 (n + 1) a2 a3 = D_X7_partingWorth_B4 s a1 (D_X7_partingWorth_L4 s a1 n) a2 a3 := rfl
set_option maxRecDepth 100000 in
theorem ok_X7_partingWorth_L4 {l : Launch} {D : va_G} {ad : Nat → Nat} {cA : Nat → ClassId} (hj : zInj ad) (r : Int32) (s : zS) (a1 : Int32) : ∀ (n : Nat) (a2 : Int32) (a3 : Int32), D_X7_partingWorth_L4 s a1 n a2 a3 = some r → zOk l D ad cA (zJm jX7_partingWorth) (zEnd D ad cA (some (.int r)) s) 4 [some (.ref 2), some (.int a1), some (.int a2), some (.int a3), none, none] [] s := by
  intro n
  induction n with
  | zero =>
    intro a2 a3 h
    have h0 : (none : Option Int32) = some r := h
    cases h0
  | succ n hr4 =>
    intro a2 a3 h
    have h : D_X7_partingWorth_B4 s a1 (D_X7_partingWorth_L4 s a1 n) a2 a3 = some r := h
    unfold D_X7_partingWorth_B4 at h
    refine zk_iload_n dX7_partingWorth_4 rfl rfl ?_
    refine zk_aload_n dX7_partingWorth_5 rfl rfl ?_
    refine zf_X7_9 rfl dX7_partingWorth_6 ?_
    refine zk_icmp_ge (tgt := 69) dX7_partingWorth_9 rfl (fun g9 => ?_) (fun g9 => ?_)
    · replace h := zpos g9 h
      refine zk_iload_n dX7_partingWorth_69 rfl rfl ?_
      have e9 := Option.some.inj h
      subst e9
      exact zk_iret rfl ⟨rfl, rfl⟩ dX7_partingWorth_70
    · replace h := zneg g9 h
      refine zk_iconst (v := 0) dX7_partingWorth_12 (by decide) ?_
      refine zk_istore (i := 4) dX7_partingWorth_13 (by decide) (zk_eq [_, _, _, _, _, _] rfl ?_)
      refine zk_iconst (v := 0) dX7_partingWorth_15 (by decide) ?_
      refine zk_istore (i := 5) dX7_partingWorth_16 (by decide) (zk_eq [_, _, _, _, _, _] rfl ?_)
      exact ok_X7_partingWorth_L18 hj r _ _ _ _ _ hr4 _ _ _ h
def D_X7_partingWorth (s : zS) (a1 : Int32) : Option Int32 :=
  D_X7_partingWorth_L4 s a1 zFU (0 : Int32) (0 : Int32)
set_option maxRecDepth 100000 in
theorem ok_X7_partingWorth {l : Launch} {D : va_G} {ad : Nat → Nat} {cA : Nat → ClassId} (hj : zInj ad) (s : zS) (a1 : Int32) {r : Int32} (h : D_X7_partingWorth s a1 = some r) : zMet l D ad cA jX7_partingWorth [.ref 2, .int a1] s (some (.int r)) s := by
  refine zMet_of jX7_partingWorth [some (.ref 2), some (.int a1), none, none, none, none] (by decide +kernel) (Nat.le_of_ble_eq_true rfl) rfl hj ?_
  unfold D_X7_partingWorth at h
  refine zk_iconst (v := 0) dX7_partingWorth_0 (by decide) ?_
  refine zk_istore_n (i := 2) dX7_partingWorth_1 rfl (by decide) (zk_eq [_, _, _, _, _, _] rfl ?_)
  refine zk_iconst (v := 0) dX7_partingWorth_2 (by decide) ?_
  refine zk_istore_n (i := 3) dX7_partingWorth_3 rfl (by decide) (zk_eq [_, _, _, _, _, _] rfl ?_)
  exact ok_X7_partingWorth_L4 hj r _ _ _ _ _ h
def D_X7_partingSets_B4 (s : zS) (a1 : Int32) (rec4 : Int32 → Int32 → Option Int32) (a2 : Int32) (a3 : Int32) : Option Int32 :=
    if (s.1 2 0) ≤ a3 then (
      some a2
    ) else (
      (D_X7_digitAt s a1 a3).bind fun p15 =>
      if p15 = a3 then (
        rec4 (a2 + 1) (a3 + 1)
      ) else (
        rec4 a2 (a3 + 1)
      )
    )
def D_X7_partingSets_L4 (s : zS) (a1 : Int32) (n : Nat) (a2 : Int32) (a3 : Int32) : Option Int32 := zfx (fun (rec : Int32 × Int32 → Option Int32) q => D_X7_partingSets_B4 s a1 (fun v0 v1 => rec (v0, v1)) q.1 q.2) n (a2, a3)
set_option maxRecDepth 100000 in
theorem D_X7_partingSets_L4_s (s : zS) (a1 : Int32) (n : Nat) (a2 : Int32) (a3 : Int32) : D_X7_partingSets_L4 s a1 (n + 1) a2 a3 = D_X7_partingSets_B4 s a1 (D_X7_partingSets_L4 s a1 n) a2 a3 := rfl
set_option maxRecDepth 100000 in
theorem ok_X7_partingSets_L4 {l : Launch} {D : va_G} {ad : Nat → Nat} {cA : Nat → ClassId} (hj : zInj ad) (r : Int32) (s : zS) (a1 : Int32) : ∀ (n : Nat) (a2 : Int32) (a3 : Int32), D_X7_partingSets_L4 s a1 n a2 a3 = some r → zOk l D ad cA (zJm jX7_partingSets) (zEnd D ad cA (some (.int r)) s) 4 [some (.ref 2), some (.int a1), some (.int a2), some (.int a3)] [] s := by
  intro n
  induction n with
  | zero =>
    intro a2 a3 h
    have h0 : (none : Option Int32) = some r := h
    cases h0
  | succ n hr4 =>
    intro a2 a3 h
    have h : D_X7_partingSets_B4 s a1 (D_X7_partingSets_L4 s a1 n) a2 a3 = some r := h
    unfold D_X7_partingSets_B4 at h
    refine zk_iload_n dX7_partingSets_4 rfl rfl ?_
    refine zk_aload_n dX7_partingSets_5 rfl rfl ?_
    refine zf_X7_9 rfl dX7_partingSets_6 ?_
    refine zk_icmp_ge (tgt := 31) dX7_partingSets_9 rfl (fun g9 => ?_) (fun g9 => ?_)
    · replace h := zpos g9 h
      refine zk_iload_n dX7_partingSets_31 rfl rfl ?_
      have e9 := Option.some.inj h
      subst e9
      exact zk_iret rfl ⟨rfl, rfl⟩ dX7_partingSets_32
    · replace h := zneg g9 h
      refine zk_aload_n dX7_partingSets_12 rfl rfl ?_
      refine zk_iload_n dX7_partingSets_13 rfl rfl ?_
      refine zk_iload_n dX7_partingSets_14 rfl rfl ?_
      obtain ⟨p15, h15, h⟩ := zbind h
      refine zc_X7_33 [] (As := [.int _, .int _]) (ok_X7_digitAt hj _ _ _ h15) rfl ⟨Nat.le_of_ble_eq_true rfl, Nat.le_of_ble_eq_true rfl⟩ ⟨Nat.le_refl _, Nat.le_refl _⟩ rfl rfl (Nat.le_of_ble_eq_true rfl) dX7_partingSets_15 ?_
      refine zk_iload_n dX7_partingSets_18 rfl rfl ?_
      refine zk_icmp_ne (tgt := 25) dX7_partingSets_19 rfl (fun g19 => ?_) (fun g19 => ?_)
      · replace h := zneg g19 h
        refine zk_iinc dX7_partingSets_25 rfl (zinc (m := 1) (by decide)) (by decide) (zk_eq [_, _, _, _] rfl ?_)
        refine zk_goto (tgt := 4) dX7_partingSets_28 rfl ?_
        exact hr4 _ _ h
      · replace h := zpos g19 h
        refine zk_iinc dX7_partingSets_22 rfl (zinc (m := 1) (by decide)) (by decide) (zk_eq [_, _, _, _] rfl ?_)
        refine zk_iinc dX7_partingSets_25 rfl (zinc (m := 1) (by decide)) (by decide) (zk_eq [_, _, _, _] rfl ?_)
        refine zk_goto (tgt := 4) dX7_partingSets_28 rfl ?_
        exact hr4 _ _ h
def D_X7_partingSets (s : zS) (a1 : Int32) : Option Int32 :=
  D_X7_partingSets_L4 s a1 zFU (0 : Int32) (0 : Int32)
set_option maxRecDepth 100000 in
theorem ok_X7_partingSets {l : Launch} {D : va_G} {ad : Nat → Nat} {cA : Nat → ClassId} (hj : zInj ad) (s : zS) (a1 : Int32) {r : Int32} (h : D_X7_partingSets s a1 = some r) : zMet l D ad cA jX7_partingSets [.ref 2, .int a1] s (some (.int r)) s := by
  refine zMet_of jX7_partingSets [some (.ref 2), some (.int a1), none, none] (by decide +kernel) (Nat.le_of_ble_eq_true rfl) rfl hj ?_
  unfold D_X7_partingSets at h
  refine zk_iconst (v := 0) dX7_partingSets_0 (by decide) ?_
  refine zk_istore_n (i := 2) dX7_partingSets_1 rfl (by decide) (zk_eq [_, _, _, _] rfl ?_)
  refine zk_iconst (v := 0) dX7_partingSets_2 (by decide) ?_
  refine zk_istore_n (i := 3) dX7_partingSets_3 rfl (by decide) (zk_eq [_, _, _, _] rfl ?_)
  exact ok_X7_partingSets_L4 hj r _ _ _ _ _ h
def D_X7_beats_J33 (s : zS) : Option Int32 :=
  some (1 : Int32)
set_option maxRecDepth 100000 in
theorem ok_X7_beats_J33 {l : Launch} {D : va_G} {ad : Nat → Nat} {cA : Nat → ClassId} (hj : zInj ad) (r : Int32) (s : zS) (h : D_X7_beats_J33 s = some r) : zOk l D ad cA (zJm jX7_beats) (zEnd D ad cA (some (.int r)) s) 33 [none, none, none, none] [] s := by
  unfold D_X7_beats_J33 at h
  refine zk_iconst (v := 1) dX7_beats_33 (by decide) ?_
  refine zk_goto (tgt := 38) dX7_beats_34 rfl ?_
  have e9 := Option.some.inj h
  subst e9
  exact zk_zret rfl (Or.inr rfl) ⟨rfl, rfl⟩ dX7_beats_38
def D_X7_beats_J37 (s : zS) : Option Int32 :=
  some (0 : Int32)
set_option maxRecDepth 100000 in
theorem ok_X7_beats_J37 {l : Launch} {D : va_G} {ad : Nat → Nat} {cA : Nat → ClassId} (hj : zInj ad) (r : Int32) (s : zS) (h : D_X7_beats_J37 s = some r) : zOk l D ad cA (zJm jX7_beats) (zEnd D ad cA (some (.int r)) s) 37 [none, none, none, none] [] s := by
  unfold D_X7_beats_J37 at h
  refine zk_iconst (v := 0) dX7_beats_37 (by decide) ?_
  have e9 := Option.some.inj h
  subst e9
  exact zk_zret rfl (Or.inl rfl) ⟨rfl, rfl⟩ dX7_beats_38
def D_X7_beats (s : zS) (a1 : Int32) (a2 : Int32) : Option Int32 :=
  (D_X7_partingWorth s a1).bind fun p2 =>
  (D_X7_partingWorth s a2).bind fun p7 =>
  if 0 < (p2 - p7) then (
    D_X7_beats_J33 s
  ) else (
    if (p2 - p7) = 0 then (
      (D_X7_partingSets s a1).bind fun p22 =>
      (D_X7_partingSets s a2).bind fun p27 =>
      if p27 ≤ p22 then (
        D_X7_beats_J37 s
      ) else (
        D_X7_beats_J33 s
      )
    ) else (
      D_X7_beats_J37 s
    )
  )
set_option maxRecDepth 100000 in
theorem ok_X7_beats {l : Launch} {D : va_G} {ad : Nat → Nat} {cA : Nat → ClassId} (hj : zInj ad) (s : zS) (a1 : Int32) (a2 : Int32) {r : Int32} (h : D_X7_beats s a1 a2 = some r) : zMet l D ad cA jX7_beats [.ref 2, .int a1, .int a2] s (some (.int r)) s := by
  refine zMet_of jX7_beats [some (.ref 2), some (.int a1), some (.int a2), none] (by decide +kernel) (Nat.le_of_ble_eq_true rfl) rfl hj ?_
  unfold D_X7_beats at h
  refine zk_aload_n dX7_beats_0 rfl rfl ?_
  refine zk_iload_n dX7_beats_1 rfl rfl ?_
  obtain ⟨p2, h2, h⟩ := zbind h
  refine zc_X7_54 [] (As := [.int _]) (ok_X7_partingWorth hj _ _ h2) rfl ⟨Nat.le_of_ble_eq_true rfl, Nat.le_of_ble_eq_true rfl⟩ ⟨Nat.le_refl _, Nat.le_refl _⟩ rfl rfl (Nat.le_of_ble_eq_true rfl) dX7_beats_2 ?_
  refine zk_aload_n dX7_beats_5 rfl rfl ?_
  refine zk_iload_n dX7_beats_6 rfl rfl ?_
  obtain ⟨p7, h7, h⟩ := zbind h
  refine zc_X7_54 [.int _] (As := [.int _]) (ok_X7_partingWorth hj _ _ h7) rfl ⟨Nat.le_of_ble_eq_true rfl, Nat.le_of_ble_eq_true rfl⟩ ⟨Nat.le_refl _, Nat.le_refl _⟩ rfl rfl (Nat.le_of_ble_eq_true rfl) dX7_beats_7 ?_
  refine zk_isub dX7_beats_10 ?_
  refine zk_istore_n (i := 3) dX7_beats_11 rfl (by decide) (zk_eq [_, _, _, _] rfl ?_)
  refine zk_iload_n dX7_beats_12 rfl rfl ?_
  refine zk_if_gt (tgt := 33) dX7_beats_13 rfl (fun g13 => ?_) (fun g13 => ?_)
  · replace h := zpos g13 h
    refine zk_mask [false, false, false, false] ?_
    exact ok_X7_beats_J33 hj r _ h
  · replace h := zneg g13 h
    refine zk_iload_n dX7_beats_16 rfl rfl ?_
    refine zk_if_ne (tgt := 37) dX7_beats_17 rfl (fun g17 => ?_) (fun g17 => ?_)
    · replace h := zneg g17 h
      refine zk_mask [false, false, false, false] ?_
      exact ok_X7_beats_J37 hj r _ h
    · replace h := zpos g17 h
      refine zk_aload_n dX7_beats_20 rfl rfl ?_
      refine zk_iload_n dX7_beats_21 rfl rfl ?_
      obtain ⟨p22, h22, h⟩ := zbind h
      refine zc_X7_57 [] (As := [.int _]) (ok_X7_partingSets hj _ _ h22) rfl ⟨Nat.le_of_ble_eq_true rfl, Nat.le_of_ble_eq_true rfl⟩ ⟨Nat.le_refl _, Nat.le_refl _⟩ rfl rfl (Nat.le_of_ble_eq_true rfl) dX7_beats_22 ?_
      refine zk_aload_n dX7_beats_25 rfl rfl ?_
      refine zk_iload_n dX7_beats_26 rfl rfl ?_
      obtain ⟨p27, h27, h⟩ := zbind h
      refine zc_X7_57 [.int _] (As := [.int _]) (ok_X7_partingSets hj _ _ h27) rfl ⟨Nat.le_of_ble_eq_true rfl, Nat.le_of_ble_eq_true rfl⟩ ⟨Nat.le_refl _, Nat.le_refl _⟩ rfl rfl (Nat.le_of_ble_eq_true rfl) dX7_beats_27 ?_
      refine zk_icmp_ge (tgt := 37) dX7_beats_30 rfl (fun g30 => ?_) (fun g30 => ?_)
      · replace h := zpos g30 h
        refine zk_mask [false, false, false, false] ?_
        exact ok_X7_beats_J37 hj r _ h
      · replace h := zneg g30 h
        refine zk_mask [false, false, false, false] ?_
        exact ok_X7_beats_J33 hj r _ h
def D_X7_isParting_B2 (s : zS) (a1 : Int32) (rec2 : Int32 → Option Int32) (a2 : Int32) : Option Int32 :=
    if (s.1 2 0) ≤ a2 then (
      some (1 : Int32)
    ) else (
      (D_X7_digitAt s a1 a2).bind fun p13 =>
      if a2 < p13 then (
        some (0 : Int32)
      ) else (
        (D_X7_digitAt s a1 p13).bind fun p25 =>
        if p25 = p13 then (
          rec2 (a2 + 1)
        ) else (
          some (0 : Int32)
        )
      )
    )
def D_X7_isParting_L2 (s : zS) (a1 : Int32) (n : Nat) (a2 : Int32) : Option Int32 := zfx (fun (rec : Int32 → Option Int32) q => D_X7_isParting_B2 s a1 (fun v0 => rec (v0)) q) n (a2)
set_option maxRecDepth 100000 in
theorem D_X7_isParting_L2_s (s : zS) (a1 : Int32) (n : Nat) (a2 : Int32) : D_X7_isParting_L2 s a1 (n + 1) a2 = D_X7_isParting_B2 s a1 (D_X7_isParting_L2 s a1 n) a2 := rfl
set_option maxRecDepth 100000 in
theorem ok_X7_isParting_L2 {l : Launch} {D : va_G} {ad : Nat → Nat} {cA : Nat → ClassId} (hj : zInj ad) (r : Int32) (s : zS) (a1 : Int32) : ∀ (n : Nat) (a2 : Int32), D_X7_isParting_L2 s a1 n a2 = some r → zOk l D ad cA (zJm jX7_isParting) (zEnd D ad cA (some (.int r)) s) 2 [some (.ref 2), some (.int a1), some (.int a2), none] [] s := by
  intro n
  induction n with
  | zero =>
    intro a2 h
    have h0 : (none : Option Int32) = some r := h
    cases h0
  | succ n hr2 =>
    intro a2 h
    have h : D_X7_isParting_B2 s a1 (D_X7_isParting_L2 s a1 n) a2 = some r := h
    unfold D_X7_isParting_B2 at h
    refine zk_iload_n dX7_isParting_2 rfl rfl ?_
    refine zk_aload_n dX7_isParting_3 rfl rfl ?_
    refine zf_X7_9 rfl dX7_isParting_4 ?_
    refine zk_icmp_ge (tgt := 40) dX7_isParting_7 rfl (fun g7 => ?_) (fun g7 => ?_)
    · replace h := zpos g7 h
      refine zk_iconst (v := 1) dX7_isParting_40 (by decide) ?_
      have e9 := Option.some.inj h
      subst e9
      exact zk_zret rfl (Or.inr rfl) ⟨rfl, rfl⟩ dX7_isParting_41
    · replace h := zneg g7 h
      refine zk_aload_n dX7_isParting_10 rfl rfl ?_
      refine zk_iload_n dX7_isParting_11 rfl rfl ?_
      refine zk_iload_n dX7_isParting_12 rfl rfl ?_
      obtain ⟨p13, h13, h⟩ := zbind h
      refine zc_X7_33 [] (As := [.int _, .int _]) (ok_X7_digitAt hj _ _ _ h13) rfl ⟨Nat.le_of_ble_eq_true rfl, Nat.le_of_ble_eq_true rfl⟩ ⟨Nat.le_refl _, Nat.le_refl _⟩ rfl rfl (Nat.le_of_ble_eq_true rfl) dX7_isParting_13 ?_
      refine zk_istore_n (i := 3) dX7_isParting_16 rfl (by decide) (zk_eq [_, _, _, _] rfl ?_)
      refine zk_iload_n dX7_isParting_17 rfl rfl ?_
      refine zk_iload_n dX7_isParting_18 rfl rfl ?_
      refine zk_icmp_gt (tgt := 32) dX7_isParting_19 rfl (fun g19 => ?_) (fun g19 => ?_)
      · replace h := zpos g19 h
        refine zk_iconst (v := 0) dX7_isParting_32 (by decide) ?_
        have e9 := Option.some.inj h
        subst e9
        exact zk_zret rfl (Or.inl rfl) ⟨rfl, rfl⟩ dX7_isParting_33
      · replace h := zneg g19 h
        refine zk_aload_n dX7_isParting_22 rfl rfl ?_
        refine zk_iload_n dX7_isParting_23 rfl rfl ?_
        refine zk_iload_n dX7_isParting_24 rfl rfl ?_
        obtain ⟨p25, h25, h⟩ := zbind h
        refine zc_X7_33 [] (As := [.int _, .int _]) (ok_X7_digitAt hj _ _ _ h25) rfl ⟨Nat.le_of_ble_eq_true rfl, Nat.le_of_ble_eq_true rfl⟩ ⟨Nat.le_refl _, Nat.le_refl _⟩ rfl rfl (Nat.le_of_ble_eq_true rfl) dX7_isParting_25 ?_
        refine zk_iload_n dX7_isParting_28 rfl rfl ?_
        refine zk_icmp_eq (tgt := 34) dX7_isParting_29 rfl (fun g29 => ?_) (fun g29 => ?_)
        · replace h := zpos g29 h
          refine zk_iinc dX7_isParting_34 rfl (zinc (m := 1) (by decide)) (by decide) (zk_eq [_, _, _, _] rfl ?_)
          refine zk_goto (tgt := 2) dX7_isParting_37 rfl ?_
          refine zk_mask [true, true, true, false] ?_
          exact hr2 _ h
        · replace h := zneg g29 h
          refine zk_iconst (v := 0) dX7_isParting_32 (by decide) ?_
          have e9 := Option.some.inj h
          subst e9
          exact zk_zret rfl (Or.inl rfl) ⟨rfl, rfl⟩ dX7_isParting_33
def D_X7_isParting (s : zS) (a1 : Int32) : Option Int32 :=
  D_X7_isParting_L2 s a1 zFU (0 : Int32)
set_option maxRecDepth 100000 in
theorem ok_X7_isParting {l : Launch} {D : va_G} {ad : Nat → Nat} {cA : Nat → ClassId} (hj : zInj ad) (s : zS) (a1 : Int32) {r : Int32} (h : D_X7_isParting s a1 = some r) : zMet l D ad cA jX7_isParting [.ref 2, .int a1] s (some (.int r)) s := by
  refine zMet_of jX7_isParting [some (.ref 2), some (.int a1), none, none] (by decide +kernel) (Nat.le_of_ble_eq_true rfl) rfl hj ?_
  unfold D_X7_isParting at h
  refine zk_iconst (v := 0) dX7_isParting_0 (by decide) ?_
  refine zk_istore_n (i := 2) dX7_isParting_1 rfl (by decide) (zk_eq [_, _, _, _] rfl ?_)
  exact ok_X7_isParting_L2 hj r _ _ _ _ h
def D_X7_bestParting_B4 (s : zS) (rec4 : Int32 → Int32 → Option Int32) (a1 : Int32) (a2 : Int32) : Option Int32 :=
    if ((1 : Int32) <<< (((2 : Int32) * (s.1 2 0)) &&& 31)) ≤ a2 then (
      some a1
    ) else (
      (D_X7_isParting s a2).bind fun p18 =>
      if p18 = 0 then (
        rec4 a1 (a2 + 1)
      ) else (
        (D_X7_beats s a2 a1).bind fun p27 =>
        if p27 = 0 then (
          rec4 a1 (a2 + 1)
        ) else (
          rec4 a2 (a2 + 1)
        )
      )
    )
def D_X7_bestParting_L4 (s : zS) (n : Nat) (a1 : Int32) (a2 : Int32) : Option Int32 := zfx (fun (rec : Int32 × Int32 → Option Int32) q => D_X7_bestParting_B4 s (fun v0 v1 => rec (v0, v1)) q.1 q.2) n (a1, a2)
set_option maxRecDepth 100000 in
theorem D_X7_bestParting_L4_s (s : zS) (n : Nat) (a1 : Int32) (a2 : Int32) : D_X7_bestParting_L4 s (n + 1) a1 a2 = D_X7_bestParting_B4 s (D_X7_bestParting_L4 s n) a1 a2 := rfl
set_option maxRecDepth 100000 in
theorem ok_X7_bestParting_L4 {l : Launch} {D : va_G} {ad : Nat → Nat} {cA : Nat → ClassId} (hj : zInj ad) (r : Int32) (s : zS) : ∀ (n : Nat) (a1 : Int32) (a2 : Int32), D_X7_bestParting_L4 s n a1 a2 = some r → zOk l D ad cA (zJm jX7_bestParting) (zEnd D ad cA (some (.int r)) s) 4 [some (.ref 2), some (.int a1), some (.int a2)] [] s := by
  intro n
  induction n with
  | zero =>
    intro a1 a2 h
    have h0 : (none : Option Int32) = some r := h
    cases h0
  | succ n hr4 =>
    intro a1 a2 h
    have h : D_X7_bestParting_B4 s (D_X7_bestParting_L4 s n) a1 a2 = some r := h
    unfold D_X7_bestParting_B4 at h
    refine zk_iload_n dX7_bestParting_4 rfl rfl ?_
    refine zk_iconst (v := 1) dX7_bestParting_5 (by decide) ?_
    refine zk_iconst (v := 2) dX7_bestParting_6 (by decide) ?_
    refine zk_aload_n dX7_bestParting_7 rfl rfl ?_
    refine zf_X7_9 rfl dX7_bestParting_8 ?_
    refine zk_imul dX7_bestParting_11 ?_
    refine zk_ishl dX7_bestParting_12 ?_
    refine zk_icmp_ge (tgt := 41) dX7_bestParting_13 rfl (fun g13 => ?_) (fun g13 => ?_)
    · replace h := zpos g13 h
      refine zk_iload_n dX7_bestParting_41 rfl rfl ?_
      have e9 := Option.some.inj h
      subst e9
      exact zk_iret rfl ⟨rfl, rfl⟩ dX7_bestParting_42
    · replace h := zneg g13 h
      refine zk_aload_n dX7_bestParting_16 rfl rfl ?_
      refine zk_iload_n dX7_bestParting_17 rfl rfl ?_
      obtain ⟨p18, h18, h⟩ := zbind h
      refine zc_X7_47 [] (As := [.int _]) (ok_X7_isParting hj _ _ h18) rfl ⟨Nat.le_of_ble_eq_true rfl, Nat.le_of_ble_eq_true rfl⟩ ⟨Nat.le_refl _, Nat.le_refl _⟩ rfl rfl (Nat.le_of_ble_eq_true rfl) dX7_bestParting_18 ?_
      refine zk_if_eq (tgt := 35) dX7_bestParting_21 rfl (fun g21 => ?_) (fun g21 => ?_)
      · replace h := zpos g21 h
        refine zk_iinc dX7_bestParting_35 rfl (zinc (m := 1) (by decide)) (by decide) (zk_eq [_, _, _] rfl ?_)
        refine zk_goto (tgt := 4) dX7_bestParting_38 rfl ?_
        exact hr4 _ _ h
      · replace h := zneg g21 h
        refine zk_aload_n dX7_bestParting_24 rfl rfl ?_
        refine zk_iload_n dX7_bestParting_25 rfl rfl ?_
        refine zk_iload_n dX7_bestParting_26 rfl rfl ?_
        obtain ⟨p27, h27, h⟩ := zbind h
        refine zc_X7_51 [] (As := [.int _, .int _]) (ok_X7_beats hj _ _ _ h27) rfl ⟨Nat.le_of_ble_eq_true rfl, Nat.le_of_ble_eq_true rfl⟩ ⟨Nat.le_refl _, Nat.le_refl _⟩ rfl rfl (Nat.le_of_ble_eq_true rfl) dX7_bestParting_27 ?_
        refine zk_if_eq (tgt := 35) dX7_bestParting_30 rfl (fun g30 => ?_) (fun g30 => ?_)
        · replace h := zpos g30 h
          refine zk_iinc dX7_bestParting_35 rfl (zinc (m := 1) (by decide)) (by decide) (zk_eq [_, _, _] rfl ?_)
          refine zk_goto (tgt := 4) dX7_bestParting_38 rfl ?_
          exact hr4 _ _ h
        · replace h := zneg g30 h
          refine zk_iload_n dX7_bestParting_33 rfl rfl ?_
          refine zk_istore_n (i := 1) dX7_bestParting_34 rfl (by decide) (zk_eq [_, _, _] rfl ?_)
          refine zk_iinc dX7_bestParting_35 rfl (zinc (m := 1) (by decide)) (by decide) (zk_eq [_, _, _] rfl ?_)
          refine zk_goto (tgt := 4) dX7_bestParting_38 rfl ?_
          exact hr4 _ _ h
def D_X7_bestParting (s : zS) : Option Int32 :=
  D_X7_bestParting_L4 s zFU (0 : Int32) (1 : Int32)
set_option maxRecDepth 100000 in
theorem ok_X7_bestParting {l : Launch} {D : va_G} {ad : Nat → Nat} {cA : Nat → ClassId} (hj : zInj ad) (s : zS)  {r : Int32} (h : D_X7_bestParting s = some r) : zMet l D ad cA jX7_bestParting [.ref 2] s (some (.int r)) s := by
  refine zMet_of jX7_bestParting [some (.ref 2), none, none] (by decide +kernel) (Nat.le_of_ble_eq_true rfl) rfl hj ?_
  unfold D_X7_bestParting at h
  refine zk_iconst (v := 0) dX7_bestParting_0 (by decide) ?_
  refine zk_istore_n (i := 1) dX7_bestParting_1 rfl (by decide) (zk_eq [_, _, _] rfl ?_)
  refine zk_iconst (v := 1) dX7_bestParting_2 (by decide) ?_
  refine zk_istore_n (i := 2) dX7_bestParting_3 rfl (by decide) (zk_eq [_, _, _] rfl ?_)
  exact ok_X7_bestParting_L4 hj r _ _ _ _ h
