def D_X7_dividendOf_J48 (rec4 : Int32 → Int32 → Option Int32) (s : zS) (a1 : Int32) (a3 : Int32) (k0 : Int32) (k1 : Int32) : Option Int32 :=
  rec4 (k0 + k1) (a3 + 1)
set_option maxRecDepth 100000 in
theorem ok_X7_dividendOf_J48 {l : Launch} {D : va_G} {ad : Nat → Nat} {cA : Nat → ClassId} (hj : zInj ad) (r : Int32) (s : zS) (a1 : Int32) (a3 : Int32) (k0 : Int32) (k1 : Int32) (rec4 : Int32 → Int32 → Option Int32) (hr4 : ∀ (b2 : Int32) (b3 : Int32), rec4 b2 b3 = some r → zOk l D ad cA (zJm jX7_dividendOf) (zEnd D ad cA (some (.int r)) s) 4 [some (.ref 2), some (.int a1), some (.int b2), some (.int b3), none] [] s) (h : D_X7_dividendOf_J48 rec4 s a1 a3 k0 k1 = some r) : zOk l D ad cA (zJm jX7_dividendOf) (zEnd D ad cA (some (.int r)) s) 48 [some (.ref 2), some (.int a1), none, some (.int a3), none] [.int k1, .int k0] s := by
  unfold D_X7_dividendOf_J48 at h
  refine zk_iadd dX7_dividendOf_48 ?_
  refine zk_istore_n (i := 2) dX7_dividendOf_49 rfl (by decide) (zk_eq [_, _, _, _, _] rfl ?_)
  refine zk_iinc dX7_dividendOf_50 rfl (zinc (m := 1) (by decide)) (by decide) (zk_eq [_, _, _, _, _] rfl ?_)
  refine zk_goto (tgt := 4) dX7_dividendOf_53 rfl ?_
  exact hr4 _ _ h
def D_X7_dividendOf_B4 (s : zS) (a1 : Int32) (rec4 : Int32 → Int32 → Option Int32) (a2 : Int32) (a3 : Int32) : Option Int32 :=
    if a1 < a3 then (
      some a2
    ) else (
      if (a3 &&& a1) = a3 then (
        (D_J6_bitCount_0f7a4 (a1 - a3)).bind fun p19 =>
        if (p19 - p19 / (2 : Int32) * (2 : Int32)) = 0 then (
          zgd (zin a3 16 = true) <|
          D_X7_dividendOf_J48 rec4 s a1 a3 a2 (s.1 3 a3.toNatClampNeg)
        ) else (
          zgd (zin a3 16 = true) <|
          D_X7_dividendOf_J48 rec4 s a1 a3 a2 (-(s.1 3 a3.toNatClampNeg))
        )
      ) else (
        rec4 a2 (a3 + 1)
      )
    )
def D_X7_dividendOf_L4 (s : zS) (a1 : Int32) (n : Nat) (a2 : Int32) (a3 : Int32) : Option Int32 := zfx (fun (rec : Int32 × Int32 → Option Int32) q => D_X7_dividendOf_B4 s a1 (fun v0 v1 => rec (v0, v1)) q.1 q.2) n (a2, a3)
set_option maxRecDepth 100000 in
theorem D_X7_dividendOf_L4_s (s : zS) (a1 : Int32) (n : Nat) (a2 : Int32) (a3 : Int32) : D_X7_dividendOf_L4 s a1 (n + 1) a2 a3 = D_X7_dividendOf_B4 s a1 (D_X7_dividendOf_L4 s a1 n) a2 a3 := rfl
set_option maxRecDepth 100000 in
theorem ok_X7_dividendOf_L4 {l : Launch} {D : va_G} {ad : Nat → Nat} {cA : Nat → ClassId} (hj : zInj ad) (r : Int32) (s : zS) (a1 : Int32) : ∀ (n : Nat) (a2 : Int32) (a3 : Int32), D_X7_dividendOf_L4 s a1 n a2 a3 = some r → zOk l D ad cA (zJm jX7_dividendOf) (zEnd D ad cA (some (.int r)) s) 4 [some (.ref 2), some (.int a1), some (.int a2), some (.int a3), none] [] s := by
  intro n
  induction n with
  | zero =>
    intro a2 a3 h
    have h0 : (none : Option Int32) = some r := h
    cases h0
  | succ n hr4 =>
    intro a2 a3 h
    have h : D_X7_dividendOf_B4 s a1 (D_X7_dividendOf_L4 s a1 n) a2 a3 = some r := h
    unfold D_X7_dividendOf_B4 at h
    refine zk_iload_n dX7_dividendOf_4 rfl rfl ?_
    refine zk_iload_n dX7_dividendOf_5 rfl rfl ?_
    refine zk_icmp_gt (tgt := 56) dX7_dividendOf_6 rfl (fun g6 => ?_) (fun g6 => ?_)
    · replace h := zpos g6 h
      refine zk_iload_n dX7_dividendOf_56 rfl rfl ?_
      have e9 := Option.some.inj h
      subst e9
      exact zk_iret rfl ⟨rfl, rfl⟩ dX7_dividendOf_57
    · replace h := zneg g6 h
      refine zk_iload_n dX7_dividendOf_9 rfl rfl ?_
      refine zk_iload_n dX7_dividendOf_10 rfl rfl ?_
      refine zk_iand dX7_dividendOf_11 ?_
      refine zk_iload_n dX7_dividendOf_12 rfl rfl ?_
      refine zk_icmp_ne (tgt := 50) dX7_dividendOf_13 rfl (fun g13 => ?_) (fun g13 => ?_)
      · replace h := zneg g13 h
        refine zk_iinc dX7_dividendOf_50 rfl (zinc (m := 1) (by decide)) (by decide) (zk_eq [_, _, _, _, _] rfl ?_)
        refine zk_goto (tgt := 4) dX7_dividendOf_53 rfl ?_
        exact hr4 _ _ h
      · replace h := zpos g13 h
        refine zk_iload_n dX7_dividendOf_16 rfl rfl ?_
        refine zk_iload_n dX7_dividendOf_17 rfl rfl ?_
        refine zk_isub dX7_dividendOf_18 ?_
        obtain ⟨p19, h19, h⟩ := zbind h
        refine zc_X7_27 [] (As := [.int _]) (ok_J6_bitCount_0f7a4 hj _ _ h19) rfl ⟨Nat.le_of_ble_eq_true rfl, Nat.le_of_ble_eq_true rfl⟩ ⟨Nat.le_refl _, Nat.le_refl _⟩ rfl rfl (Nat.le_of_ble_eq_true rfl) dX7_dividendOf_19 ?_
        refine zk_istore (i := 4) dX7_dividendOf_22 (by decide) (zk_eq [_, _, _, _, _] rfl ?_)
        refine zk_iload_n dX7_dividendOf_24 rfl rfl ?_
        refine zk_iload dX7_dividendOf_25 rfl ?_
        refine zk_iconst (v := 2) dX7_dividendOf_27 (by decide) ?_
        refine zk_irem dX7_dividendOf_28 (by decide) ?_
        refine zk_if_ne (tgt := 41) dX7_dividendOf_29 rfl (fun g29 => ?_) (fun g29 => ?_)
        · replace h := zneg g29 h
          refine zk_aload_n dX7_dividendOf_41 rfl rfl ?_
          refine zf_X7_15 rfl dX7_dividendOf_42 ?_
          refine zk_iload_n dX7_dividendOf_45 rfl rfl ?_
          obtain ⟨g46, h⟩ := zguard h
          refine zk_iald (zoI_of rfl g46) dX7_dividendOf_46 ?_
          refine zk_ineg dX7_dividendOf_47 ?_
          refine zk_mask [true, true, false, true, false] ?_
          exact ok_X7_dividendOf_J48 hj r _ _ _ _ _ _ hr4 h
        · replace h := zpos g29 h
          refine zk_aload_n dX7_dividendOf_32 rfl rfl ?_
          refine zf_X7_15 rfl dX7_dividendOf_33 ?_
          refine zk_iload_n dX7_dividendOf_36 rfl rfl ?_
          obtain ⟨g37, h⟩ := zguard h
          refine zk_iald (zoI_of rfl g37) dX7_dividendOf_37 ?_
          refine zk_goto (tgt := 48) dX7_dividendOf_38 rfl ?_
          refine zk_mask [true, true, false, true, false] ?_
          exact ok_X7_dividendOf_J48 hj r _ _ _ _ _ _ hr4 h
def D_X7_dividendOf (s : zS) (a1 : Int32) : Option Int32 :=
  D_X7_dividendOf_L4 s a1 zFU (0 : Int32) (1 : Int32)
set_option maxRecDepth 100000 in
theorem ok_X7_dividendOf {l : Launch} {D : va_G} {ad : Nat → Nat} {cA : Nat → ClassId} (hj : zInj ad) (s : zS) (a1 : Int32) {r : Int32} (h : D_X7_dividendOf s a1 = some r) : zMet l D ad cA jX7_dividendOf [.ref 2, .int a1] s (some (.int r)) s := by
  refine zMet_of jX7_dividendOf [some (.ref 2), some (.int a1), none, none, none] (by decide +kernel) (Nat.le_of_ble_eq_true rfl) rfl hj ?_
  unfold D_X7_dividendOf at h
  refine zk_iconst (v := 0) dX7_dividendOf_0 (by decide) ?_
  refine zk_istore_n (i := 2) dX7_dividendOf_1 rfl (by decide) (zk_eq [_, _, _, _, _] rfl ?_)
  refine zk_iconst (v := 1) dX7_dividendOf_2 (by decide) ?_
  refine zk_istore_n (i := 3) dX7_dividendOf_3 rfl (by decide) (zk_eq [_, _, _, _, _] rfl ?_)
  exact ok_X7_dividendOf_L4 hj r _ _ _ _ _ h
def D_X7_firstBetterApart_B14 (rec2 : Int32 → Option Int32) (s : zS) (a1 : Int32) (rec14 : Int32 → Option Int32) (a2 : Int32) : Option Int32 :=
    (D_X7_all s).bind fun p16 =>
    if p16 < a2 then (
      rec2 (a1 + 1)
    ) else (
      if (a1 &&& a2) = 0 then (
        zgd (zin a1 16 = true) <|
        zgd (zin a2 16 = true) <|
        zgd (zin (a1 ||| a2) 16 = true) <|
        if ((s.1 3 a1.toNatClampNeg) + (s.1 3 a2.toNatClampNeg)) ≤ (s.1 3 (a1 ||| a2).toNatClampNeg) then (
          rec14 (a2 + 1)
        ) else (
          some (((16 : Int32) * a1) + a2)
        )
      ) else (
        rec14 (a2 + 1)
      )
    )
def D_X7_firstBetterApart_L14 (rec2 : Int32 → Option Int32) (s : zS) (a1 : Int32) (n : Nat) (a2 : Int32) : Option Int32 := zfx (fun (rec : Int32 → Option Int32) q => D_X7_firstBetterApart_B14 rec2 s a1 (fun v0 => rec (v0)) q) n (a2)
set_option maxRecDepth 100000 in
theorem D_X7_firstBetterApart_L14_s (rec2 : Int32 → Option Int32) (s : zS) (a1 : Int32) (n : Nat) (a2 : Int32) : D_X7_firstBetterApart_L14 rec2 s a1 (n + 1) a2 = D_X7_firstBetterApart_B14 rec2 s a1 (D_X7_firstBetterApart_L14 rec2 s a1 n) a2 := rfl
set_option maxRecDepth 100000 in
theorem ok_X7_firstBetterApart_L14 {l : Launch} {D : va_G} {ad : Nat → Nat} {cA : Nat → ClassId} (hj : zInj ad) (r : Int32) (s : zS) (a1 : Int32) (rec2 : Int32 → Option Int32) (hr2 : ∀ (b1 : Int32), rec2 b1 = some r → zOk l D ad cA (zJm jX7_firstBetterApart) (zEnd D ad cA (some (.int r)) s) 2 [some (.ref 2), some (.int b1), none] [] s) : ∀ (n : Nat) (a2 : Int32), D_X7_firstBetterApart_L14 rec2 s a1 n a2 = some r → zOk l D ad cA (zJm jX7_firstBetterApart) (zEnd D ad cA (some (.int r)) s) 14 [some (.ref 2), some (.int a1), some (.int a2)] [] s := by
  intro n
  induction n with
  | zero =>
    intro a2 h
    have h0 : (none : Option Int32) = some r := h
    cases h0
  | succ n hr14 =>
    intro a2 h
    have h : D_X7_firstBetterApart_B14 rec2 s a1 (D_X7_firstBetterApart_L14 rec2 s a1 n) a2 = some r := h
    unfold D_X7_firstBetterApart_B14 at h
    refine zk_iload_n dX7_firstBetterApart_14 rfl rfl ?_
    refine zk_aload_n dX7_firstBetterApart_15 rfl rfl ?_
    obtain ⟨p16, h16, h⟩ := zbind h
    refine zc_X7_19 [.int _] (As := []) (ok_X7_all hj _ h16) rfl ⟨Nat.le_of_ble_eq_true rfl, Nat.le_of_ble_eq_true rfl⟩ ⟨Nat.le_refl _, Nat.le_refl _⟩ rfl rfl (Nat.le_of_ble_eq_true rfl) dX7_firstBetterApart_16 ?_
    refine zk_icmp_gt (tgt := 65) dX7_firstBetterApart_19 rfl (fun g19 => ?_) (fun g19 => ?_)
    · replace h := zpos g19 h
      refine zk_iinc dX7_firstBetterApart_65 rfl (zinc (m := 1) (by decide)) (by decide) (zk_eq [_, _, _] rfl ?_)
      refine zk_goto (tgt := 2) dX7_firstBetterApart_68 rfl ?_
      refine zk_mask [true, true, false] ?_
      exact hr2 _ h
    · replace h := zneg g19 h
      refine zk_iload_n dX7_firstBetterApart_22 rfl rfl ?_
      refine zk_iload_n dX7_firstBetterApart_23 rfl rfl ?_
      refine zk_iand dX7_firstBetterApart_24 ?_
      refine zk_if_ne (tgt := 59) dX7_firstBetterApart_25 rfl (fun g25 => ?_) (fun g25 => ?_)
      · replace h := zneg g25 h
        refine zk_iinc dX7_firstBetterApart_59 rfl (zinc (m := 1) (by decide)) (by decide) (zk_eq [_, _, _] rfl ?_)
        refine zk_goto (tgt := 14) dX7_firstBetterApart_62 rfl ?_
        exact hr14 _ h
      · replace h := zpos g25 h
        refine zk_aload_n dX7_firstBetterApart_28 rfl rfl ?_
        refine zf_X7_15 rfl dX7_firstBetterApart_29 ?_
        refine zk_iload_n dX7_firstBetterApart_32 rfl rfl ?_
        obtain ⟨g33, h⟩ := zguard h
        refine zk_iald (zoI_of rfl g33) dX7_firstBetterApart_33 ?_
        refine zk_aload_n dX7_firstBetterApart_34 rfl rfl ?_
        refine zf_X7_15 rfl dX7_firstBetterApart_35 ?_
        refine zk_iload_n dX7_firstBetterApart_38 rfl rfl ?_
        obtain ⟨g39, h⟩ := zguard h
        refine zk_iald (zoI_of rfl g39) dX7_firstBetterApart_39 ?_
        refine zk_iadd dX7_firstBetterApart_40 ?_
        refine zk_aload_n dX7_firstBetterApart_41 rfl rfl ?_
        refine zf_X7_15 rfl dX7_firstBetterApart_42 ?_
        refine zk_iload_n dX7_firstBetterApart_45 rfl rfl ?_
        refine zk_iload_n dX7_firstBetterApart_46 rfl rfl ?_
        refine zk_ior dX7_firstBetterApart_47 ?_
        obtain ⟨g48, h⟩ := zguard h
        refine zk_iald (zoI_of rfl g48) dX7_firstBetterApart_48 ?_
        refine zk_icmp_le (tgt := 59) dX7_firstBetterApart_49 rfl (fun g49 => ?_) (fun g49 => ?_)
        · replace h := zpos g49 h
          refine zk_iinc dX7_firstBetterApart_59 rfl (zinc (m := 1) (by decide)) (by decide) (zk_eq [_, _, _] rfl ?_)
          refine zk_goto (tgt := 14) dX7_firstBetterApart_62 rfl ?_
          exact hr14 _ h
        · replace h := zneg g49 h
          refine zk_bipush (v := 16) dX7_firstBetterApart_52 (by decide) ?_
          refine zk_iload_n dX7_firstBetterApart_54 rfl rfl ?_
          refine zk_imul dX7_firstBetterApart_55 ?_
          refine zk_iload_n dX7_firstBetterApart_56 rfl rfl ?_
          refine zk_iadd dX7_firstBetterApart_57 ?_
          have e9 := Option.some.inj h
          subst e9
          exact zk_iret rfl ⟨rfl, rfl⟩ dX7_firstBetterApart_58
def D_X7_firstBetterApart_B2 (s : zS) (rec2 : Int32 → Option Int32) (a1 : Int32) : Option Int32 :=
    (D_X7_all s).bind fun p4 =>
    if p4 < a1 then (
      some (-1 : Int32)
    ) else (
      D_X7_firstBetterApart_L14 rec2 s a1 zFU (a1 + (1 : Int32))
    )
def D_X7_firstBetterApart_L2 (s : zS) (n : Nat) (a1 : Int32) : Option Int32 := zfx (fun (rec : Int32 → Option Int32) q => D_X7_firstBetterApart_B2 s (fun v0 => rec (v0)) q) n (a1)
set_option maxRecDepth 100000 in
theorem D_X7_firstBetterApart_L2_s (s : zS) (n : Nat) (a1 : Int32) : D_X7_firstBetterApart_L2 s (n + 1) a1 = D_X7_firstBetterApart_B2 s (D_X7_firstBetterApart_L2 s n) a1 := rfl
set_option maxRecDepth 100000 in
theorem ok_X7_firstBetterApart_L2 {l : Launch} {D : va_G} {ad : Nat → Nat} {cA : Nat → ClassId} (hj : zInj ad) (r : Int32) (s : zS) : ∀ (n : Nat) (a1 : Int32), D_X7_firstBetterApart_L2 s n a1 = some r → zOk l D ad cA (zJm jX7_firstBetterApart) (zEnd D ad cA (some (.int r)) s) 2 [some (.ref 2), some (.int a1), none] [] s := by
  intro n
  induction n with
  | zero =>
    intro a1 h
    have h0 : (none : Option Int32) = some r := h
    cases h0
  | succ n hr2 =>
    intro a1 h
    have h : D_X7_firstBetterApart_B2 s (D_X7_firstBetterApart_L2 s n) a1 = some r := h
    unfold D_X7_firstBetterApart_B2 at h
    refine zk_iload_n dX7_firstBetterApart_2 rfl rfl ?_
    refine zk_aload_n dX7_firstBetterApart_3 rfl rfl ?_
    obtain ⟨p4, h4, h⟩ := zbind h
    refine zc_X7_19 [.int _] (As := []) (ok_X7_all hj _ h4) rfl ⟨Nat.le_of_ble_eq_true rfl, Nat.le_of_ble_eq_true rfl⟩ ⟨Nat.le_refl _, Nat.le_refl _⟩ rfl rfl (Nat.le_of_ble_eq_true rfl) dX7_firstBetterApart_4 ?_
    refine zk_icmp_gt (tgt := 71) dX7_firstBetterApart_7 rfl (fun g7 => ?_) (fun g7 => ?_)
    · replace h := zpos g7 h
      refine zk_iconst (v := -1) dX7_firstBetterApart_71 (by decide) ?_
      have e9 := Option.some.inj h
      subst e9
      exact zk_iret rfl ⟨rfl, rfl⟩ dX7_firstBetterApart_72
    · replace h := zneg g7 h
      refine zk_iload_n dX7_firstBetterApart_10 rfl rfl ?_
      refine zk_iconst (v := 1) dX7_firstBetterApart_11 (by decide) ?_
      refine zk_iadd dX7_firstBetterApart_12 ?_
      refine zk_istore_n (i := 2) dX7_firstBetterApart_13 rfl (by decide) (zk_eq [_, _, _] rfl ?_)
      exact ok_X7_firstBetterApart_L14 hj r _ _ _ hr2 _ _ h
def D_X7_firstBetterApart (s : zS) : Option Int32 :=
  D_X7_firstBetterApart_L2 s zFU (1 : Int32)
set_option maxRecDepth 100000 in
theorem ok_X7_firstBetterApart {l : Launch} {D : va_G} {ad : Nat → Nat} {cA : Nat → ClassId} (hj : zInj ad) (s : zS)  {r : Int32} (h : D_X7_firstBetterApart s = some r) : zMet l D ad cA jX7_firstBetterApart [.ref 2] s (some (.int r)) s := by
  refine zMet_of jX7_firstBetterApart [some (.ref 2), none, none] (by decide +kernel) (Nat.le_of_ble_eq_true rfl) rfl hj ?_
  unfold D_X7_firstBetterApart at h
  refine zk_iconst (v := 1) dX7_firstBetterApart_0 (by decide) ?_
  refine zk_istore_n (i := 1) dX7_firstBetterApart_1 rfl (by decide) (zk_eq [_, _, _] rfl ?_)
  exact ok_X7_firstBetterApart_L2 hj r _ _ _ h
def D_X7_firstLessByMore_B14 (rec2 : Int32 → Option Int32) (s : zS) (a1 : Int32) (rec14 : Int32 → Option Int32) (a2 : Int32) : Option Int32 :=
    (D_X7_all s).bind fun p16 =>
    if p16 < a2 then (
      rec2 (a1 + 1)
    ) else (
      zgd (zin a1 16 = true) <|
      zgd (zin a2 16 = true) <|
      zgd (zin (a1 ||| a2) 16 = true) <|
      zgd (zin (a1 &&& a2) 16 = true) <|
      if ((s.1 3 a1.toNatClampNeg) + (s.1 3 a2.toNatClampNeg)) ≤ ((s.1 3 (a1 ||| a2).toNatClampNeg) + (s.1 3 (a1 &&& a2).toNatClampNeg)) then (
        rec14 (a2 + 1)
      ) else (
        some (((16 : Int32) * a1) + a2)
      )
    )
def D_X7_firstLessByMore_L14 (rec2 : Int32 → Option Int32) (s : zS) (a1 : Int32) (n : Nat) (a2 : Int32) : Option Int32 := zfx (fun (rec : Int32 → Option Int32) q => D_X7_firstLessByMore_B14 rec2 s a1 (fun v0 => rec (v0)) q) n (a2)
set_option maxRecDepth 100000 in
theorem D_X7_firstLessByMore_L14_s (rec2 : Int32 → Option Int32) (s : zS) (a1 : Int32) (n : Nat) (a2 : Int32) : D_X7_firstLessByMore_L14 rec2 s a1 (n + 1) a2 = D_X7_firstLessByMore_B14 rec2 s a1 (D_X7_firstLessByMore_L14 rec2 s a1 n) a2 := rfl
set_option maxRecDepth 100000 in
theorem ok_X7_firstLessByMore_L14 {l : Launch} {D : va_G} {ad : Nat → Nat} {cA : Nat → ClassId} (hj : zInj ad) (r : Int32) (s : zS) (a1 : Int32) (rec2 : Int32 → Option Int32) (hr2 : ∀ (b1 : Int32), rec2 b1 = some r → zOk l D ad cA (zJm jX7_firstLessByMore) (zEnd D ad cA (some (.int r)) s) 2 [some (.ref 2), some (.int b1), none] [] s) : ∀ (n : Nat) (a2 : Int32), D_X7_firstLessByMore_L14 rec2 s a1 n a2 = some r → zOk l D ad cA (zJm jX7_firstLessByMore) (zEnd D ad cA (some (.int r)) s) 14 [some (.ref 2), some (.int a1), some (.int a2)] [] s := by
  intro n
  induction n with
  | zero =>
    intro a2 h
    have h0 : (none : Option Int32) = some r := h
    cases h0
  | succ n hr14 =>
    intro a2 h
    have h : D_X7_firstLessByMore_B14 rec2 s a1 (D_X7_firstLessByMore_L14 rec2 s a1 n) a2 = some r := h
    unfold D_X7_firstLessByMore_B14 at h
    refine zk_iload_n dX7_firstLessByMore_14 rfl rfl ?_
    refine zk_aload_n dX7_firstLessByMore_15 rfl rfl ?_
    obtain ⟨p16, h16, h⟩ := zbind h
    refine zc_X7_19 [.int _] (As := []) (ok_X7_all hj _ h16) rfl ⟨Nat.le_of_ble_eq_true rfl, Nat.le_of_ble_eq_true rfl⟩ ⟨Nat.le_refl _, Nat.le_refl _⟩ rfl rfl (Nat.le_of_ble_eq_true rfl) dX7_firstLessByMore_16 ?_
    refine zk_icmp_gt (tgt := 68) dX7_firstLessByMore_19 rfl (fun g19 => ?_) (fun g19 => ?_)
    · replace h := zpos g19 h
      refine zk_iinc dX7_firstLessByMore_68 rfl (zinc (m := 1) (by decide)) (by decide) (zk_eq [_, _, _] rfl ?_)
      refine zk_goto (tgt := 2) dX7_firstLessByMore_71 rfl ?_
      refine zk_mask [true, true, false] ?_
      exact hr2 _ h
    · replace h := zneg g19 h
      refine zk_aload_n dX7_firstLessByMore_22 rfl rfl ?_
      refine zf_X7_15 rfl dX7_firstLessByMore_23 ?_
      refine zk_iload_n dX7_firstLessByMore_26 rfl rfl ?_
      obtain ⟨g27, h⟩ := zguard h
      refine zk_iald (zoI_of rfl g27) dX7_firstLessByMore_27 ?_
      refine zk_aload_n dX7_firstLessByMore_28 rfl rfl ?_
      refine zf_X7_15 rfl dX7_firstLessByMore_29 ?_
      refine zk_iload_n dX7_firstLessByMore_32 rfl rfl ?_
      obtain ⟨g33, h⟩ := zguard h
      refine zk_iald (zoI_of rfl g33) dX7_firstLessByMore_33 ?_
      refine zk_iadd dX7_firstLessByMore_34 ?_
      refine zk_aload_n dX7_firstLessByMore_35 rfl rfl ?_
      refine zf_X7_15 rfl dX7_firstLessByMore_36 ?_
      refine zk_iload_n dX7_firstLessByMore_39 rfl rfl ?_
      refine zk_iload_n dX7_firstLessByMore_40 rfl rfl ?_
      refine zk_ior dX7_firstLessByMore_41 ?_
      obtain ⟨g42, h⟩ := zguard h
      refine zk_iald (zoI_of rfl g42) dX7_firstLessByMore_42 ?_
      refine zk_aload_n dX7_firstLessByMore_43 rfl rfl ?_
      refine zf_X7_15 rfl dX7_firstLessByMore_44 ?_
      refine zk_iload_n dX7_firstLessByMore_47 rfl rfl ?_
      refine zk_iload_n dX7_firstLessByMore_48 rfl rfl ?_
      refine zk_iand dX7_firstLessByMore_49 ?_
      obtain ⟨g50, h⟩ := zguard h
      refine zk_iald (zoI_of rfl g50) dX7_firstLessByMore_50 ?_
      refine zk_iadd dX7_firstLessByMore_51 ?_
      refine zk_icmp_le (tgt := 62) dX7_firstLessByMore_52 rfl (fun g52 => ?_) (fun g52 => ?_)
      · replace h := zpos g52 h
        refine zk_iinc dX7_firstLessByMore_62 rfl (zinc (m := 1) (by decide)) (by decide) (zk_eq [_, _, _] rfl ?_)
        refine zk_goto (tgt := 14) dX7_firstLessByMore_65 rfl ?_
        exact hr14 _ h
      · replace h := zneg g52 h
        refine zk_bipush (v := 16) dX7_firstLessByMore_55 (by decide) ?_
        refine zk_iload_n dX7_firstLessByMore_57 rfl rfl ?_
        refine zk_imul dX7_firstLessByMore_58 ?_
        refine zk_iload_n dX7_firstLessByMore_59 rfl rfl ?_
        refine zk_iadd dX7_firstLessByMore_60 ?_
        have e9 := Option.some.inj h
        subst e9
        exact zk_iret rfl ⟨rfl, rfl⟩ dX7_firstLessByMore_61
def D_X7_firstLessByMore_B2 (s : zS) (rec2 : Int32 → Option Int32) (a1 : Int32) : Option Int32 :=
    (D_X7_all s).bind fun p4 =>
    if p4 < a1 then (
      some (-1 : Int32)
    ) else (
      D_X7_firstLessByMore_L14 rec2 s a1 zFU (a1 + (1 : Int32))
    )
def D_X7_firstLessByMore_L2 (s : zS) (n : Nat) (a1 : Int32) : Option Int32 := zfx (fun (rec : Int32 → Option Int32) q => D_X7_firstLessByMore_B2 s (fun v0 => rec (v0)) q) n (a1)
set_option maxRecDepth 100000 in
theorem D_X7_firstLessByMore_L2_s (s : zS) (n : Nat) (a1 : Int32) : D_X7_firstLessByMore_L2 s (n + 1) a1 = D_X7_firstLessByMore_B2 s (D_X7_firstLessByMore_L2 s n) a1 := rfl
set_option maxRecDepth 100000 in
theorem ok_X7_firstLessByMore_L2 {l : Launch} {D : va_G} {ad : Nat → Nat} {cA : Nat → ClassId} (hj : zInj ad) (r : Int32) (s : zS) : ∀ (n : Nat) (a1 : Int32), D_X7_firstLessByMore_L2 s n a1 = some r → zOk l D ad cA (zJm jX7_firstLessByMore) (zEnd D ad cA (some (.int r)) s) 2 [some (.ref 2), some (.int a1), none] [] s := by
  intro n
  induction n with
  | zero =>
    intro a1 h
    have h0 : (none : Option Int32) = some r := h
    cases h0
  | succ n hr2 =>
    intro a1 h
    have h : D_X7_firstLessByMore_B2 s (D_X7_firstLessByMore_L2 s n) a1 = some r := h
    unfold D_X7_firstLessByMore_B2 at h
    refine zk_iload_n dX7_firstLessByMore_2 rfl rfl ?_
    refine zk_aload_n dX7_firstLessByMore_3 rfl rfl ?_
    obtain ⟨p4, h4, h⟩ := zbind h
    refine zc_X7_19 [.int _] (As := []) (ok_X7_all hj _ h4) rfl ⟨Nat.le_of_ble_eq_true rfl, Nat.le_of_ble_eq_true rfl⟩ ⟨Nat.le_refl _, Nat.le_refl _⟩ rfl rfl (Nat.le_of_ble_eq_true rfl) dX7_firstLessByMore_4 ?_
    refine zk_icmp_gt (tgt := 74) dX7_firstLessByMore_7 rfl (fun g7 => ?_) (fun g7 => ?_)
    · replace h := zpos g7 h
      refine zk_iconst (v := -1) dX7_firstLessByMore_74 (by decide) ?_
      have e9 := Option.some.inj h
      subst e9
      exact zk_iret rfl ⟨rfl, rfl⟩ dX7_firstLessByMore_75
    · replace h := zneg g7 h
      refine zk_iload_n dX7_firstLessByMore_10 rfl rfl ?_
      refine zk_iconst (v := 1) dX7_firstLessByMore_11 (by decide) ?_
      refine zk_iadd dX7_firstLessByMore_12 ?_
      refine zk_istore_n (i := 2) dX7_firstLessByMore_13 rfl (by decide) (zk_eq [_, _, _] rfl ?_)
      exact ok_X7_firstLessByMore_L14 hj r _ _ _ hr2 _ _ h
def D_X7_firstLessByMore (s : zS) : Option Int32 :=
  D_X7_firstLessByMore_L2 s zFU (1 : Int32)
set_option maxRecDepth 100000 in
theorem ok_X7_firstLessByMore {l : Launch} {D : va_G} {ad : Nat → Nat} {cA : Nat → ClassId} (hj : zInj ad) (s : zS)  {r : Int32} (h : D_X7_firstLessByMore s = some r) : zMet l D ad cA jX7_firstLessByMore [.ref 2] s (some (.int r)) s := by
  refine zMet_of jX7_firstLessByMore [some (.ref 2), none, none] (by decide +kernel) (Nat.le_of_ble_eq_true rfl) rfl hj ?_
  unfold D_X7_firstLessByMore at h
  refine zk_iconst (v := 1) dX7_firstLessByMore_0 (by decide) ?_
  refine zk_istore_n (i := 1) dX7_firstLessByMore_1 rfl (by decide) (zk_eq [_, _, _] rfl ?_)
  exact ok_X7_firstLessByMore_L2 hj r _ _ _ h
def D_X7_knowsOrder_B24 (s : zS) (a1 : Int32) (rec24 : Int32 → Int32 → Option Int32) (a2 : Int32) (a3 : Int32) : Option Int32 :=
    if (s.1 2 0) ≤ a3 then (
      (D_X7_all s).bind fun p51 =>
      if a2 = p51 then (
        some (1 : Int32)
      ) else (
        some (0 : Int32)
      )
    ) else (
      (D_X7_digitAt s a1 a3).bind fun p37 =>
      rec24 (a2 ||| ((1 : Int32) <<< (p37 &&& 31))) (a3 + 1)
    )
def D_X7_knowsOrder_L24 (s : zS) (a1 : Int32) (n : Nat) (a2 : Int32) (a3 : Int32) : Option Int32 := zfx (fun (rec : Int32 × Int32 → Option Int32) q => D_X7_knowsOrder_B24 s a1 (fun v0 v1 => rec (v0, v1)) q.1 q.2) n (a2, a3)
set_option maxRecDepth 100000 in
theorem D_X7_knowsOrder_L24_s (s : zS) (a1 : Int32) (n : Nat) (a2 : Int32) (a3 : Int32) : D_X7_knowsOrder_L24 s a1 (n + 1) a2 a3 = D_X7_knowsOrder_B24 s a1 (D_X7_knowsOrder_L24 s a1 n) a2 a3 := rfl
set_option maxRecDepth 100000 in
theorem ok_X7_knowsOrder_L24 {l : Launch} {D : va_G} {ad : Nat → Nat} {cA : Nat → ClassId} (hj : zInj ad) (r : Int32) (s : zS) (a1 : Int32) : ∀ (n : Nat) (a2 : Int32) (a3 : Int32), D_X7_knowsOrder_L24 s a1 n a2 a3 = some r → zOk l D ad cA (zJm jX7_knowsOrder) (zEnd D ad cA (some (.int r)) s) 24 [some (.ref 2), some (.int a1), some (.int a2), some (.int a3)] [] s := by
  intro n
  induction n with
  | zero =>
    intro a2 a3 h
    have h0 : (none : Option Int32) = some r := h
    cases h0
  | succ n hr24 =>
    intro a2 a3 h
    have h : D_X7_knowsOrder_B24 s a1 (D_X7_knowsOrder_L24 s a1 n) a2 a3 = some r := h
    unfold D_X7_knowsOrder_B24 at h
    refine zk_iload_n dX7_knowsOrder_24 rfl rfl ?_
    refine zk_aload_n dX7_knowsOrder_25 rfl rfl ?_
    refine zf_X7_9 rfl dX7_knowsOrder_26 ?_
    refine zk_icmp_ge (tgt := 49) dX7_knowsOrder_29 rfl (fun g29 => ?_) (fun g29 => ?_)
    · replace h := zpos g29 h
      refine zk_iload_n dX7_knowsOrder_49 rfl rfl ?_
      refine zk_aload_n dX7_knowsOrder_50 rfl rfl ?_
      obtain ⟨p51, h51, h⟩ := zbind h
      refine zc_X7_19 [.int _] (As := []) (ok_X7_all hj _ h51) rfl ⟨Nat.le_of_ble_eq_true rfl, Nat.le_of_ble_eq_true rfl⟩ ⟨Nat.le_refl _, Nat.le_refl _⟩ rfl rfl (Nat.le_of_ble_eq_true rfl) dX7_knowsOrder_51 ?_
      refine zk_icmp_ne (tgt := 61) dX7_knowsOrder_54 rfl (fun g54 => ?_) (fun g54 => ?_)
      · replace h := zneg g54 h
        refine zk_iconst (v := 0) dX7_knowsOrder_61 (by decide) ?_
        have e9 := Option.some.inj h
        subst e9
        exact zk_zret rfl (Or.inl rfl) ⟨rfl, rfl⟩ dX7_knowsOrder_62
      · replace h := zpos g54 h
        refine zk_iconst (v := 1) dX7_knowsOrder_57 (by decide) ?_
        refine zk_goto (tgt := 62) dX7_knowsOrder_58 rfl ?_
        have e9 := Option.some.inj h
        subst e9
        exact zk_zret rfl (Or.inr rfl) ⟨rfl, rfl⟩ dX7_knowsOrder_62
    · replace h := zneg g29 h
      refine zk_iload_n dX7_knowsOrder_32 rfl rfl ?_
      refine zk_iconst (v := 1) dX7_knowsOrder_33 (by decide) ?_
      refine zk_aload_n dX7_knowsOrder_34 rfl rfl ?_
      refine zk_iload_n dX7_knowsOrder_35 rfl rfl ?_
      refine zk_iload_n dX7_knowsOrder_36 rfl rfl ?_
      obtain ⟨p37, h37, h⟩ := zbind h
      refine zc_X7_33 [.int _, .int _] (As := [.int _, .int _]) (ok_X7_digitAt hj _ _ _ h37) rfl ⟨Nat.le_of_ble_eq_true rfl, Nat.le_of_ble_eq_true rfl⟩ ⟨Nat.le_refl _, Nat.le_refl _⟩ rfl rfl (Nat.le_of_ble_eq_true rfl) dX7_knowsOrder_37 ?_
      refine zk_ishl dX7_knowsOrder_40 ?_
      refine zk_ior dX7_knowsOrder_41 ?_
      refine zk_istore_n (i := 2) dX7_knowsOrder_42 rfl (by decide) (zk_eq [_, _, _, _] rfl ?_)
      refine zk_iinc dX7_knowsOrder_43 rfl (zinc (m := 1) (by decide)) (by decide) (zk_eq [_, _, _, _] rfl ?_)
      refine zk_goto (tgt := 24) dX7_knowsOrder_46 rfl ?_
      exact hr24 _ _ h
def D_X7_knowsOrder (s : zS) (a1 : Int32) : Option Int32 :=
  (D_X8_within a1 (0 : Int32) (((1 : Int32) <<< (((2 : Int32) * (s.1 2 0)) &&& 31)) - (1 : Int32))).bind fun p12 =>
  if p12 = 0 then (
    some (0 : Int32)
  ) else (
    D_X7_knowsOrder_L24 s a1 zFU (0 : Int32) (0 : Int32)
  )
set_option maxRecDepth 100000 in
theorem ok_X7_knowsOrder {l : Launch} {D : va_G} {ad : Nat → Nat} {cA : Nat → ClassId} (hj : zInj ad) (s : zS) (a1 : Int32) {r : Int32} (h : D_X7_knowsOrder s a1 = some r) : zMet l D ad cA jX7_knowsOrder [.ref 2, .int a1] s (some (.int r)) s := by
  refine zMet_of jX7_knowsOrder [some (.ref 2), some (.int a1), none, none] (by decide +kernel) (Nat.le_of_ble_eq_true rfl) rfl hj ?_
  unfold D_X7_knowsOrder at h
  refine zk_iload_n dX7_knowsOrder_0 rfl rfl ?_
  refine zk_iconst (v := 0) dX7_knowsOrder_1 (by decide) ?_
  refine zk_iconst (v := 1) dX7_knowsOrder_2 (by decide) ?_
  refine zk_iconst (v := 2) dX7_knowsOrder_3 (by decide) ?_
  refine zk_aload_n dX7_knowsOrder_4 rfl rfl ?_
  refine zf_X7_9 rfl dX7_knowsOrder_5 ?_
  refine zk_imul dX7_knowsOrder_8 ?_
  refine zk_ishl dX7_knowsOrder_9 ?_
  refine zk_iconst (v := 1) dX7_knowsOrder_10 (by decide) ?_
  refine zk_isub dX7_knowsOrder_11 ?_
  obtain ⟨p12, h12, h⟩ := zbind h
  refine zc_X7_23 [] (As := [.int _, .int _, .int _]) (ok_X8_within hj _ _ _ _ h12) rfl ⟨Nat.le_of_ble_eq_true rfl, Nat.le_of_ble_eq_true rfl⟩ ⟨Nat.le_refl _, Nat.le_refl _⟩ rfl rfl (Nat.le_of_ble_eq_true rfl) dX7_knowsOrder_12 ?_
  refine zk_if_ne (tgt := 20) dX7_knowsOrder_15 rfl (fun g15 => ?_) (fun g15 => ?_)
  · replace h := zneg g15 h
    refine zk_iconst (v := 0) dX7_knowsOrder_20 (by decide) ?_
    refine zk_istore_n (i := 2) dX7_knowsOrder_21 rfl (by decide) (zk_eq [_, _, _, _] rfl ?_)
    refine zk_iconst (v := 0) dX7_knowsOrder_22 (by decide) ?_
    refine zk_istore_n (i := 3) dX7_knowsOrder_23 rfl (by decide) (zk_eq [_, _, _, _] rfl ?_)
    exact ok_X7_knowsOrder_L24 hj r _ _ _ _ _ h
  · replace h := zpos g15 h
    refine zk_iconst (v := 0) dX7_knowsOrder_18 (by decide) ?_
    have e9 := Option.some.inj h
    subst e9
    exact zk_zret rfl (Or.inl rfl) ⟨rfl, rfl⟩ dX7_knowsOrder_19
def D_X7_knowsSet (s : zS) (a1 : Int32) : Option Int32 :=
  (D_X7_all s).bind fun p3 =>
  (D_X8_within a1 (1 : Int32) p3).bind fun p6 =>
  zgd (p6 = 0 ∨ p6 = 1) <|
  some p6
set_option maxRecDepth 100000 in
theorem ok_X7_knowsSet {l : Launch} {D : va_G} {ad : Nat → Nat} {cA : Nat → ClassId} (hj : zInj ad) (s : zS) (a1 : Int32) {r : Int32} (h : D_X7_knowsSet s a1 = some r) : zMet l D ad cA jX7_knowsSet [.ref 2, .int a1] s (some (.int r)) s := by
  refine zMet_of jX7_knowsSet [some (.ref 2), some (.int a1)] (by decide +kernel) (Nat.le_of_ble_eq_true rfl) rfl hj ?_
  unfold D_X7_knowsSet at h
  refine zk_iload_n dX7_knowsSet_0 rfl rfl ?_
  refine zk_iconst (v := 1) dX7_knowsSet_1 (by decide) ?_
  refine zk_aload_n dX7_knowsSet_2 rfl rfl ?_
  obtain ⟨p3, h3, h⟩ := zbind h
  refine zc_X7_19 [.int _, .int _] (As := []) (ok_X7_all hj _ h3) rfl ⟨Nat.le_of_ble_eq_true rfl, Nat.le_of_ble_eq_true rfl⟩ ⟨Nat.le_refl _, Nat.le_refl _⟩ rfl rfl (Nat.le_of_ble_eq_true rfl) dX7_knowsSet_3 ?_
  obtain ⟨p6, h6, h⟩ := zbind h
  refine zc_X7_23 [] (As := [.int _, .int _, .int _]) (ok_X8_within hj _ _ _ _ h6) rfl ⟨Nat.le_of_ble_eq_true rfl, Nat.le_of_ble_eq_true rfl⟩ ⟨Nat.le_refl _, Nat.le_refl _⟩ rfl rfl (Nat.le_of_ble_eq_true rfl) dX7_knowsSet_6 ?_
  obtain ⟨hx9, h⟩ := zguard h
  have e9 := Option.some.inj h
  subst e9
  exact zk_zret rfl hx9 ⟨rfl, rfl⟩ dX7_knowsSet_9
def D_X7_knowsSide (s : zS) (a1 : Int32) : Option Int32 :=
  (D_X8_within a1 (0 : Int32) ((s.1 2 0) - (1 : Int32))).bind fun p8 =>
  zgd (p8 = 0 ∨ p8 = 1) <|
  some p8
set_option maxRecDepth 100000 in
theorem ok_X7_knowsSide {l : Launch} {D : va_G} {ad : Nat → Nat} {cA : Nat → ClassId} (hj : zInj ad) (s : zS) (a1 : Int32) {r : Int32} (h : D_X7_knowsSide s a1 = some r) : zMet l D ad cA jX7_knowsSide [.ref 2, .int a1] s (some (.int r)) s := by
  refine zMet_of jX7_knowsSide [some (.ref 2), some (.int a1)] (by decide +kernel) (Nat.le_of_ble_eq_true rfl) rfl hj ?_
  unfold D_X7_knowsSide at h
  refine zk_iload_n dX7_knowsSide_0 rfl rfl ?_
  refine zk_iconst (v := 0) dX7_knowsSide_1 (by decide) ?_
  refine zk_aload_n dX7_knowsSide_2 rfl rfl ?_
  refine zf_X7_9 rfl dX7_knowsSide_3 ?_
  refine zk_iconst (v := 1) dX7_knowsSide_6 (by decide) ?_
  refine zk_isub dX7_knowsSide_7 ?_
  obtain ⟨p8, h8, h⟩ := zbind h
  refine zc_X7_23 [] (As := [.int _, .int _, .int _]) (ok_X8_within hj _ _ _ _ h8) rfl ⟨Nat.le_of_ble_eq_true rfl, Nat.le_of_ble_eq_true rfl⟩ ⟨Nat.le_refl _, Nat.le_refl _⟩ rfl rfl (Nat.le_of_ble_eq_true rfl) dX7_knowsSide_8 ?_
  obtain ⟨hx11, h⟩ := zguard h
  have e9 := Option.some.inj h
  subst e9
  exact zk_zret rfl hx11 ⟨rfl, rfl⟩ dX7_knowsSide_11
def D_X7_leastBeside (s : zS) (a1 : Int32) (a2 : Int32) : Option Int32 :=
  (D_X7_digitAt s a1 a2).bind fun p3 =>
  some p3
set_option maxRecDepth 100000 in
theorem ok_X7_leastBeside {l : Launch} {D : va_G} {ad : Nat → Nat} {cA : Nat → ClassId} (hj : zInj ad) (s : zS) (a1 : Int32) (a2 : Int32) {r : Int32} (h : D_X7_leastBeside s a1 a2 = some r) : zMet l D ad cA jX7_leastBeside [.ref 2, .int a1, .int a2] s (some (.int r)) s := by
  refine zMet_of jX7_leastBeside [some (.ref 2), some (.int a1), some (.int a2)] (by decide +kernel) (Nat.le_of_ble_eq_true rfl) rfl hj ?_
  unfold D_X7_leastBeside at h
  refine zk_aload_n dX7_leastBeside_0 rfl rfl ?_
  refine zk_iload_n dX7_leastBeside_1 rfl rfl ?_
  refine zk_iload_n dX7_leastBeside_2 rfl rfl ?_
  obtain ⟨p3, h3, h⟩ := zbind h
  refine zc_X7_33 [] (As := [.int _, .int _]) (ok_X7_digitAt hj _ _ _ h3) rfl ⟨Nat.le_of_ble_eq_true rfl, Nat.le_of_ble_eq_true rfl⟩ ⟨Nat.le_refl _, Nat.le_refl _⟩ rfl rfl (Nat.le_of_ble_eq_true rfl) dX7_leastBeside_3 ?_
  have e9 := Option.some.inj h
  subst e9
  exact zk_iret rfl ⟨rfl, rfl⟩ dX7_leastBeside_6
def D_X7_marginIn_J45 (s : zS) (a2 : Int32) (a3 : Int32) : Option Int32 :=
  (D_X7_added s a3 a2).bind fun p48 =>
  some p48
set_option maxRecDepth 100000 in
theorem ok_X7_marginIn_J45 {l : Launch} {D : va_G} {ad : Nat → Nat} {cA : Nat → ClassId} (hj : zInj ad) (r : Int32) (s : zS) (a2 : Int32) (a3 : Int32) (h : D_X7_marginIn_J45 s a2 a3 = some r) : zOk l D ad cA (zJm jX7_marginIn) (zEnd D ad cA (some (.int r)) s) 45 [some (.ref 2), none, some (.int a2), some (.int a3), none, none] [] s := by
  unfold D_X7_marginIn_J45 at h
  refine zk_aload_n dX7_marginIn_45 rfl rfl ?_
  refine zk_iload_n dX7_marginIn_46 rfl rfl ?_
  refine zk_iload_n dX7_marginIn_47 rfl rfl ?_
  obtain ⟨p48, h48, h⟩ := zbind h
  refine zc_X7_37 [] (As := [.int _, .int _]) (ok_X7_added hj _ _ _ h48) rfl ⟨Nat.le_of_ble_eq_true rfl, Nat.le_of_ble_eq_true rfl⟩ ⟨Nat.le_refl _, Nat.le_refl _⟩ rfl rfl (Nat.le_of_ble_eq_true rfl) dX7_marginIn_48 ?_
  have e9 := Option.some.inj h
  subst e9
  exact zk_iret rfl ⟨rfl, rfl⟩ dX7_marginIn_51
def D_X7_marginIn_B5 (s : zS) (a1 : Int32) (a2 : Int32) (rec5 : Int32 → Int32 → Option Int32) (a3 : Int32) (a4 : Int32) : Option Int32 :=
    if (s.1 2 0) ≤ a4 then (
      D_X7_marginIn_J45 s a2 a3
    ) else (
      (D_X7_digitAt s a1 a4).bind fun p18 =>
      if p18 = a2 then (
        D_X7_marginIn_J45 s a2 a3
      ) else (
        rec5 (a3 ||| ((1 : Int32) <<< (p18 &&& 31))) (a4 + 1)
      )
    )
def D_X7_marginIn_L5 (s : zS) (a1 : Int32) (a2 : Int32) (n : Nat) (a3 : Int32) (a4 : Int32) : Option Int32 := zfx (fun (rec : Int32 × Int32 → Option Int32) q => D_X7_marginIn_B5 s a1 a2 (fun v0 v1 => rec (v0, v1)) q.1 q.2) n (a3, a4)
set_option maxRecDepth 100000 in
theorem D_X7_marginIn_L5_s (s : zS) (a1 : Int32) (a2 : Int32) (n : Nat) (a3 : Int32) (a4 : Int32) : D_X7_marginIn_L5 s a1 a2 (n + 1) a3 a4 = D_X7_marginIn_B5 s a1 a2 (D_X7_marginIn_L5 s a1 a2 n) a3 a4 := rfl
set_option maxRecDepth 100000 in
theorem ok_X7_marginIn_L5 {l : Launch} {D : va_G} {ad : Nat → Nat} {cA : Nat → ClassId} (hj : zInj ad) (r : Int32) (s : zS) (a1 : Int32) (a2 : Int32) : ∀ (n : Nat) (a3 : Int32) (a4 : Int32), D_X7_marginIn_L5 s a1 a2 n a3 a4 = some r → zOk l D ad cA (zJm jX7_marginIn) (zEnd D ad cA (some (.int r)) s) 5 [some (.ref 2), some (.int a1), some (.int a2), some (.int a3), some (.int a4), none] [] s := by
  intro n
  induction n with
  | zero =>
    intro a3 a4 h
    have h0 : (none : Option Int32) = some r := h
    cases h0
  | succ n hr5 =>
    intro a3 a4 h
    have h : D_X7_marginIn_B5 s a1 a2 (D_X7_marginIn_L5 s a1 a2 n) a3 a4 = some r := h
    unfold D_X7_marginIn_B5 at h
    refine zk_iload dX7_marginIn_5 rfl ?_
    refine zk_aload_n dX7_marginIn_7 rfl rfl ?_
    refine zf_X7_9 rfl dX7_marginIn_8 ?_
    refine zk_icmp_ge (tgt := 45) dX7_marginIn_11 rfl (fun g11 => ?_) (fun g11 => ?_)
    · replace h := zpos g11 h
      refine zk_mask [true, false, true, true, false, false] ?_
      exact ok_X7_marginIn_J45 hj r _ _ _ h
    · replace h := zneg g11 h
      refine zk_aload_n dX7_marginIn_14 rfl rfl ?_
      refine zk_iload_n dX7_marginIn_15 rfl rfl ?_
      refine zk_iload dX7_marginIn_16 rfl ?_
      obtain ⟨p18, h18, h⟩ := zbind h
      refine zc_X7_33 [] (As := [.int _, .int _]) (ok_X7_digitAt hj _ _ _ h18) rfl ⟨Nat.le_of_ble_eq_true rfl, Nat.le_of_ble_eq_true rfl⟩ ⟨Nat.le_refl _, Nat.le_refl _⟩ rfl rfl (Nat.le_of_ble_eq_true rfl) dX7_marginIn_18 ?_
      refine zk_istore (i := 5) dX7_marginIn_21 (by decide) (zk_eq [_, _, _, _, _, _] rfl ?_)
      refine zk_iload dX7_marginIn_23 rfl ?_
      refine zk_iload_n dX7_marginIn_25 rfl rfl ?_
      refine zk_icmp_ne (tgt := 32) dX7_marginIn_26 rfl (fun g26 => ?_) (fun g26 => ?_)
      · replace h := zneg g26 h
        refine zk_iload_n dX7_marginIn_32 rfl rfl ?_
        refine zk_iconst (v := 1) dX7_marginIn_33 (by decide) ?_
        refine zk_iload dX7_marginIn_34 rfl ?_
        refine zk_ishl dX7_marginIn_36 ?_
        refine zk_ior dX7_marginIn_37 ?_
        refine zk_istore_n (i := 3) dX7_marginIn_38 rfl (by decide) (zk_eq [_, _, _, _, _, _] rfl ?_)
        refine zk_iinc dX7_marginIn_39 rfl (zinc (m := 1) (by decide)) (by decide) (zk_eq [_, _, _, _, _, _] rfl ?_)
        refine zk_goto (tgt := 5) dX7_marginIn_42 rfl ?_
        refine zk_mask [true, true, true, true, true, false] ?_
        exact hr5 _ _ h
      · replace h := zpos g26 h
        refine zk_goto (tgt := 45) dX7_marginIn_29 rfl ?_
        refine zk_mask [true, false, true, true, false, false] ?_
        exact ok_X7_marginIn_J45 hj r _ _ _ h
def D_X7_marginIn (s : zS) (a1 : Int32) (a2 : Int32) : Option Int32 :=
  D_X7_marginIn_L5 s a1 a2 zFU (0 : Int32) (0 : Int32)
set_option maxRecDepth 100000 in
theorem ok_X7_marginIn {l : Launch} {D : va_G} {ad : Nat → Nat} {cA : Nat → ClassId} (hj : zInj ad) (s : zS) (a1 : Int32) (a2 : Int32) {r : Int32} (h : D_X7_marginIn s a1 a2 = some r) : zMet l D ad cA jX7_marginIn [.ref 2, .int a1, .int a2] s (some (.int r)) s := by
  refine zMet_of jX7_marginIn [some (.ref 2), some (.int a1), some (.int a2), none, none, none] (by decide +kernel) (Nat.le_of_ble_eq_true rfl) rfl hj ?_
  unfold D_X7_marginIn at h
  refine zk_iconst (v := 0) dX7_marginIn_0 (by decide) ?_
  refine zk_istore_n (i := 3) dX7_marginIn_1 rfl (by decide) (zk_eq [_, _, _, _, _, _] rfl ?_)
  refine zk_iconst (v := 0) dX7_marginIn_2 (by decide) ?_
  refine zk_istore (i := 4) dX7_marginIn_3 (by decide) (zk_eq [_, _, _, _, _, _] rfl ?_)
  exact ok_X7_marginIn_L5 hj r _ _ _ _ _ _ h
def D_X7_marginsInOrders_B4 (s : zS) (a1 : Int32) (rec4 : Int32 → Int32 → Option Int32) (a2 : Int32) (a3 : Int32) : Option Int32 :=
    (D_X7_all s).bind fun p6 =>
    if p6 < a3 then (
      some a2
    ) else (
      (D_X8_has a3 a1).bind fun p14 =>
      if p14 = 0 then (
        (D_J6_bitCount_0f7a4 a3).bind fun p22 =>
        (D_X8_ordersBehind p22 (s.1 2 0)).bind fun p29 =>
        (D_X7_added s a3 a1).bind fun p35 =>
        rec4 (a2 + (p29 * p35)) (a3 + 1)
      ) else (
        rec4 a2 (a3 + 1)
      )
    )
def D_X7_marginsInOrders_L4 (s : zS) (a1 : Int32) (n : Nat) (a2 : Int32) (a3 : Int32) : Option Int32 := zfx (fun (rec : Int32 × Int32 → Option Int32) q => D_X7_marginsInOrders_B4 s a1 (fun v0 v1 => rec (v0, v1)) q.1 q.2) n (a2, a3)
set_option maxRecDepth 100000 in
theorem D_X7_marginsInOrders_L4_s (s : zS) (a1 : Int32) (n : Nat) (a2 : Int32) (a3 : Int32) : D_X7_marginsInOrders_L4 s a1 (n + 1) a2 a3 = D_X7_marginsInOrders_B4 s a1 (D_X7_marginsInOrders_L4 s a1 n) a2 a3 := rfl
set_option maxRecDepth 100000 in
theorem ok_X7_marginsInOrders_L4 {l : Launch} {D : va_G} {ad : Nat → Nat} {cA : Nat → ClassId} (hj : zInj ad) (r : Int32) (s : zS) (a1 : Int32) : ∀ (n : Nat) (a2 : Int32) (a3 : Int32), D_X7_marginsInOrders_L4 s a1 n a2 a3 = some r → zOk l D ad cA (zJm jX7_marginsInOrders) (zEnd D ad cA (some (.int r)) s) 4 [some (.ref 2), some (.int a1), some (.int a2), some (.int a3)] [] s := by
  intro n
  induction n with
  | zero =>
    intro a2 a3 h
    have h0 : (none : Option Int32) = some r := h
    cases h0
  | succ n hr4 =>
    intro a2 a3 h
    have h : D_X7_marginsInOrders_B4 s a1 (D_X7_marginsInOrders_L4 s a1 n) a2 a3 = some r := h
    unfold D_X7_marginsInOrders_B4 at h
    refine zk_iload_n dX7_marginsInOrders_4 rfl rfl ?_
    refine zk_aload_n dX7_marginsInOrders_5 rfl rfl ?_
    obtain ⟨p6, h6, h⟩ := zbind h
    refine zc_X7_19 [.int _] (As := []) (ok_X7_all hj _ h6) rfl ⟨Nat.le_of_ble_eq_true rfl, Nat.le_of_ble_eq_true rfl⟩ ⟨Nat.le_refl _, Nat.le_refl _⟩ rfl rfl (Nat.le_of_ble_eq_true rfl) dX7_marginsInOrders_6 ?_
    refine zk_icmp_gt (tgt := 47) dX7_marginsInOrders_9 rfl (fun g9 => ?_) (fun g9 => ?_)
    · replace h := zpos g9 h
      refine zk_iload_n dX7_marginsInOrders_47 rfl rfl ?_
      have e9 := Option.some.inj h
      subst e9
      exact zk_iret rfl ⟨rfl, rfl⟩ dX7_marginsInOrders_48
    · replace h := zneg g9 h
      refine zk_iload_n dX7_marginsInOrders_12 rfl rfl ?_
      refine zk_iload_n dX7_marginsInOrders_13 rfl rfl ?_
      obtain ⟨p14, h14, h⟩ := zbind h
      refine zc_X7_40 [] (As := [.int _, .int _]) (ok_X8_has hj _ _ _ h14) rfl ⟨Nat.le_of_ble_eq_true rfl, Nat.le_of_ble_eq_true rfl⟩ ⟨Nat.le_refl _, Nat.le_refl _⟩ rfl rfl (Nat.le_of_ble_eq_true rfl) dX7_marginsInOrders_14 ?_
      refine zk_if_ne (tgt := 41) dX7_marginsInOrders_17 rfl (fun g17 => ?_) (fun g17 => ?_)
      · replace h := zneg g17 h
        refine zk_iinc dX7_marginsInOrders_41 rfl (zinc (m := 1) (by decide)) (by decide) (zk_eq [_, _, _, _] rfl ?_)
        refine zk_goto (tgt := 4) dX7_marginsInOrders_44 rfl ?_
        exact hr4 _ _ h
      · replace h := zpos g17 h
        refine zk_iload_n dX7_marginsInOrders_20 rfl rfl ?_
        refine zk_iload_n dX7_marginsInOrders_21 rfl rfl ?_
        obtain ⟨p22, h22, h⟩ := zbind h
        refine zc_X7_27 [.int _] (As := [.int _]) (ok_J6_bitCount_0f7a4 hj _ _ h22) rfl ⟨Nat.le_of_ble_eq_true rfl, Nat.le_of_ble_eq_true rfl⟩ ⟨Nat.le_refl _, Nat.le_refl _⟩ rfl rfl (Nat.le_of_ble_eq_true rfl) dX7_marginsInOrders_22 ?_
        refine zk_aload_n dX7_marginsInOrders_25 rfl rfl ?_
        refine zf_X7_9 rfl dX7_marginsInOrders_26 ?_
        obtain ⟨p29, h29, h⟩ := zbind h
        refine zc_X7_44 [.int _] (As := [.int _, .int _]) (ok_X8_ordersBehind hj _ _ _ h29) rfl ⟨Nat.le_of_ble_eq_true rfl, Nat.le_of_ble_eq_true rfl⟩ ⟨Nat.le_refl _, Nat.le_refl _⟩ rfl rfl (Nat.le_of_ble_eq_true rfl) dX7_marginsInOrders_29 ?_
        refine zk_aload_n dX7_marginsInOrders_32 rfl rfl ?_
        refine zk_iload_n dX7_marginsInOrders_33 rfl rfl ?_
        refine zk_iload_n dX7_marginsInOrders_34 rfl rfl ?_
        obtain ⟨p35, h35, h⟩ := zbind h
        refine zc_X7_37 [.int _, .int _] (As := [.int _, .int _]) (ok_X7_added hj _ _ _ h35) rfl ⟨Nat.le_of_ble_eq_true rfl, Nat.le_of_ble_eq_true rfl⟩ ⟨Nat.le_refl _, Nat.le_refl _⟩ rfl rfl (Nat.le_of_ble_eq_true rfl) dX7_marginsInOrders_35 ?_
        refine zk_imul dX7_marginsInOrders_38 ?_
        refine zk_iadd dX7_marginsInOrders_39 ?_
        refine zk_istore_n (i := 2) dX7_marginsInOrders_40 rfl (by decide) (zk_eq [_, _, _, _] rfl ?_)
        refine zk_iinc dX7_marginsInOrders_41 rfl (zinc (m := 1) (by decide)) (by decide) (zk_eq [_, _, _, _] rfl ?_)
        refine zk_goto (tgt := 4) dX7_marginsInOrders_44 rfl ?_
        exact hr4 _ _ h
def D_X7_marginsInOrders (s : zS) (a1 : Int32) : Option Int32 :=
  D_X7_marginsInOrders_L4 s a1 zFU (0 : Int32) (0 : Int32)
set_option maxRecDepth 100000 in
theorem ok_X7_marginsInOrders {l : Launch} {D : va_G} {ad : Nat → Nat} {cA : Nat → ClassId} (hj : zInj ad) (s : zS) (a1 : Int32) {r : Int32} (h : D_X7_marginsInOrders s a1 = some r) : zMet l D ad cA jX7_marginsInOrders [.ref 2, .int a1] s (some (.int r)) s := by
  refine zMet_of jX7_marginsInOrders [some (.ref 2), some (.int a1), none, none] (by decide +kernel) (Nat.le_of_ble_eq_true rfl) rfl hj ?_
  unfold D_X7_marginsInOrders at h
  refine zk_iconst (v := 0) dX7_marginsInOrders_0 (by decide) ?_
  refine zk_istore_n (i := 2) dX7_marginsInOrders_1 rfl (by decide) (zk_eq [_, _, _, _] rfl ?_)
  refine zk_iconst (v := 0) dX7_marginsInOrders_2 (by decide) ?_
  refine zk_istore_n (i := 3) dX7_marginsInOrders_3 rfl (by decide) (zk_eq [_, _, _, _] rfl ?_)
  exact ok_X7_marginsInOrders_L4 hj r _ _ _ _ _ h
def D_X7_marginsOverSets_B4 (s : zS) (a1 : Int32) (rec4 : Int32 → Int32 → Option Int32) (a2 : Int32) (a3 : Int32) : Option Int32 :=
    (D_X7_all s).bind fun p6 =>
    if p6 < a3 then (
      some a2
    ) else (
      (D_X8_has a3 a1).bind fun p14 =>
      if p14 = 0 then (
        (D_X7_added s a3 a1).bind fun p24 =>
        rec4 (a2 + p24) (a3 + 1)
      ) else (
        rec4 a2 (a3 + 1)
      )
    )
def D_X7_marginsOverSets_L4 (s : zS) (a1 : Int32) (n : Nat) (a2 : Int32) (a3 : Int32) : Option Int32 := zfx (fun (rec : Int32 × Int32 → Option Int32) q => D_X7_marginsOverSets_B4 s a1 (fun v0 v1 => rec (v0, v1)) q.1 q.2) n (a2, a3)
set_option maxRecDepth 100000 in
theorem D_X7_marginsOverSets_L4_s (s : zS) (a1 : Int32) (n : Nat) (a2 : Int32) (a3 : Int32) : D_X7_marginsOverSets_L4 s a1 (n + 1) a2 a3 = D_X7_marginsOverSets_B4 s a1 (D_X7_marginsOverSets_L4 s a1 n) a2 a3 := rfl
set_option maxRecDepth 100000 in
theorem ok_X7_marginsOverSets_L4 {l : Launch} {D : va_G} {ad : Nat → Nat} {cA : Nat → ClassId} (hj : zInj ad) (r : Int32) (s : zS) (a1 : Int32) : ∀ (n : Nat) (a2 : Int32) (a3 : Int32), D_X7_marginsOverSets_L4 s a1 n a2 a3 = some r → zOk l D ad cA (zJm jX7_marginsOverSets) (zEnd D ad cA (some (.int r)) s) 4 [some (.ref 2), some (.int a1), some (.int a2), some (.int a3)] [] s := by
  intro n
  induction n with
  | zero =>
    intro a2 a3 h
    have h0 : (none : Option Int32) = some r := h
    cases h0
  | succ n hr4 =>
    intro a2 a3 h
    have h : D_X7_marginsOverSets_B4 s a1 (D_X7_marginsOverSets_L4 s a1 n) a2 a3 = some r := h
    unfold D_X7_marginsOverSets_B4 at h
    refine zk_iload_n dX7_marginsOverSets_4 rfl rfl ?_
    refine zk_aload_n dX7_marginsOverSets_5 rfl rfl ?_
    obtain ⟨p6, h6, h⟩ := zbind h
    refine zc_X7_19 [.int _] (As := []) (ok_X7_all hj _ h6) rfl ⟨Nat.le_of_ble_eq_true rfl, Nat.le_of_ble_eq_true rfl⟩ ⟨Nat.le_refl _, Nat.le_refl _⟩ rfl rfl (Nat.le_of_ble_eq_true rfl) dX7_marginsOverSets_6 ?_
    refine zk_icmp_gt (tgt := 35) dX7_marginsOverSets_9 rfl (fun g9 => ?_) (fun g9 => ?_)
    · replace h := zpos g9 h
      refine zk_iload_n dX7_marginsOverSets_35 rfl rfl ?_
      have e9 := Option.some.inj h
      subst e9
      exact zk_iret rfl ⟨rfl, rfl⟩ dX7_marginsOverSets_36
    · replace h := zneg g9 h
      refine zk_iload_n dX7_marginsOverSets_12 rfl rfl ?_
      refine zk_iload_n dX7_marginsOverSets_13 rfl rfl ?_
      obtain ⟨p14, h14, h⟩ := zbind h
      refine zc_X7_40 [] (As := [.int _, .int _]) (ok_X8_has hj _ _ _ h14) rfl ⟨Nat.le_of_ble_eq_true rfl, Nat.le_of_ble_eq_true rfl⟩ ⟨Nat.le_refl _, Nat.le_refl _⟩ rfl rfl (Nat.le_of_ble_eq_true rfl) dX7_marginsOverSets_14 ?_
      refine zk_if_ne (tgt := 29) dX7_marginsOverSets_17 rfl (fun g17 => ?_) (fun g17 => ?_)
      · replace h := zneg g17 h
        refine zk_iinc dX7_marginsOverSets_29 rfl (zinc (m := 1) (by decide)) (by decide) (zk_eq [_, _, _, _] rfl ?_)
        refine zk_goto (tgt := 4) dX7_marginsOverSets_32 rfl ?_
        exact hr4 _ _ h
      · replace h := zpos g17 h
        refine zk_iload_n dX7_marginsOverSets_20 rfl rfl ?_
        refine zk_aload_n dX7_marginsOverSets_21 rfl rfl ?_
        refine zk_iload_n dX7_marginsOverSets_22 rfl rfl ?_
        refine zk_iload_n dX7_marginsOverSets_23 rfl rfl ?_
        obtain ⟨p24, h24, h⟩ := zbind h
        refine zc_X7_37 [.int _] (As := [.int _, .int _]) (ok_X7_added hj _ _ _ h24) rfl ⟨Nat.le_of_ble_eq_true rfl, Nat.le_of_ble_eq_true rfl⟩ ⟨Nat.le_refl _, Nat.le_refl _⟩ rfl rfl (Nat.le_of_ble_eq_true rfl) dX7_marginsOverSets_24 ?_
        refine zk_iadd dX7_marginsOverSets_27 ?_
        refine zk_istore_n (i := 2) dX7_marginsOverSets_28 rfl (by decide) (zk_eq [_, _, _, _] rfl ?_)
        refine zk_iinc dX7_marginsOverSets_29 rfl (zinc (m := 1) (by decide)) (by decide) (zk_eq [_, _, _, _] rfl ?_)
        refine zk_goto (tgt := 4) dX7_marginsOverSets_32 rfl ?_
        exact hr4 _ _ h
def D_X7_marginsOverSets (s : zS) (a1 : Int32) : Option Int32 :=
  D_X7_marginsOverSets_L4 s a1 zFU (0 : Int32) (0 : Int32)
set_option maxRecDepth 100000 in
theorem ok_X7_marginsOverSets {l : Launch} {D : va_G} {ad : Nat → Nat} {cA : Nat → ClassId} (hj : zInj ad) (s : zS) (a1 : Int32) {r : Int32} (h : D_X7_marginsOverSets s a1 = some r) : zMet l D ad cA jX7_marginsOverSets [.ref 2, .int a1] s (some (.int r)) s := by
  refine zMet_of jX7_marginsOverSets [some (.ref 2), some (.int a1), none, none] (by decide +kernel) (Nat.le_of_ble_eq_true rfl) rfl hj ?_
  unfold D_X7_marginsOverSets at h
  refine zk_iconst (v := 0) dX7_marginsOverSets_0 (by decide) ?_
  refine zk_istore_n (i := 2) dX7_marginsOverSets_1 rfl (by decide) (zk_eq [_, _, _, _] rfl ?_)
  refine zk_iconst (v := 0) dX7_marginsOverSets_2 (by decide) ?_
  refine zk_istore_n (i := 3) dX7_marginsOverSets_3 rfl (by decide) (zk_eq [_, _, _, _] rfl ?_)
  exact ok_X7_marginsOverSets_L4 hj r _ _ _ _ _ h
def D_X7_mixInto_B5 (s : zS) (rec5 : Int64 → Int32 → Option Int64) (a3 : Int64) (a5 : Int32) : Option Int64 :=
    (D_X7_all s).bind fun p8 =>
    if p8 < a5 then (
      some a3
    ) else (
      zgd (zin a5 16 = true) <|
      (D_X8_mix a3 ((s.1 3 a5.toNatClampNeg).toInt64)).bind fun p23 =>
      rec5 p23 (a5 + 1)
    )
def D_X7_mixInto_L5 (s : zS) (n : Nat) (a3 : Int64) (a5 : Int32) : Option Int64 := zfx (fun (rec : Int64 × Int32 → Option Int64) q => D_X7_mixInto_B5 s (fun v0 v1 => rec (v0, v1)) q.1 q.2) n (a3, a5)
set_option maxRecDepth 100000 in
theorem D_X7_mixInto_L5_s (s : zS) (n : Nat) (a3 : Int64) (a5 : Int32) : D_X7_mixInto_L5 s (n + 1) a3 a5 = D_X7_mixInto_B5 s (D_X7_mixInto_L5 s n) a3 a5 := rfl
set_option maxRecDepth 100000 in
theorem ok_X7_mixInto_L5 {l : Launch} {D : va_G} {ad : Nat → Nat} {cA : Nat → ClassId} (hj : zInj ad) (r : Int64) (s : zS) : ∀ (n : Nat) (a3 : Int64) (a5 : Int32), D_X7_mixInto_L5 s n a3 a5 = some r → zOk l D ad cA (zJm jX7_mixInto) (zEnd D ad cA (some (.long r)) s) 5 [some (.ref 2), none, none, some (.long a3), none, some (.int a5)] [] s := by
  intro n
  induction n with
  | zero =>
    intro a3 a5 h
    have h0 : (none : Option Int64) = some r := h
    cases h0
  | succ n hr5 =>
    intro a3 a5 h
    have h : D_X7_mixInto_B5 s (D_X7_mixInto_L5 s n) a3 a5 = some r := h
    unfold D_X7_mixInto_B5 at h
    refine zk_iload dX7_mixInto_5 rfl ?_
    refine zk_aload_n dX7_mixInto_7 rfl rfl ?_
    obtain ⟨p8, h8, h⟩ := zbind h
    refine zc_X7_19 [.int _] (As := []) (ok_X7_all hj _ h8) rfl ⟨Nat.le_of_ble_eq_true rfl, Nat.le_of_ble_eq_true rfl⟩ ⟨Nat.le_refl _, Nat.le_refl _⟩ rfl rfl (Nat.le_of_ble_eq_true rfl) dX7_mixInto_8 ?_
    refine zk_icmp_gt (tgt := 33) dX7_mixInto_11 rfl (fun g11 => ?_) (fun g11 => ?_)
    · replace h := zpos g11 h
      refine zk_lload_n dX7_mixInto_33 rfl rfl ?_
      have e9 := Option.some.inj h
      subst e9
      exact zk_lret rfl ⟨rfl, rfl⟩ dX7_mixInto_34
    · replace h := zneg g11 h
      refine zk_lload_n dX7_mixInto_14 rfl rfl ?_
      refine zk_aload_n dX7_mixInto_15 rfl rfl ?_
      refine zf_X7_15 rfl dX7_mixInto_16 ?_
      refine zk_iload dX7_mixInto_19 rfl ?_
      obtain ⟨g21, h⟩ := zguard h
      refine zk_iald (zoI_of rfl g21) dX7_mixInto_21 ?_
      refine zk_i2l dX7_mixInto_22 ?_
      obtain ⟨p23, h23, h⟩ := zbind h
      refine zc_X7_60 [] (As := [.long _, .long _]) (ok_X8_mix hj _ _ _ h23) rfl ⟨Nat.le_of_ble_eq_true rfl, Nat.le_of_ble_eq_true rfl⟩ ⟨Nat.le_refl _, Nat.le_refl _⟩ rfl rfl (Nat.le_of_ble_eq_true rfl) dX7_mixInto_23 ?_
      refine zk_lstore_n (i := 3) dX7_mixInto_26 rfl (by decide) (zk_eq [_, _, _, _, _, _] rfl ?_)
      refine zk_iinc dX7_mixInto_27 rfl (zinc (m := 1) (by decide)) (by decide) (zk_eq [_, _, _, _, _, _] rfl ?_)
      refine zk_goto (tgt := 5) dX7_mixInto_30 rfl ?_
      exact hr5 _ _ h
def D_X7_mixInto (s : zS) (a1 : Int64) : Option Int64 :=
  D_X7_mixInto_L5 s zFU a1 (1 : Int32)
set_option maxRecDepth 100000 in
theorem ok_X7_mixInto {l : Launch} {D : va_G} {ad : Nat → Nat} {cA : Nat → ClassId} (hj : zInj ad) (s : zS) (a1 : Int64) {r : Int64} (h : D_X7_mixInto s a1 = some r) : zMet l D ad cA jX7_mixInto [.ref 2, .long a1] s (some (.long r)) s := by
  refine zMet_of jX7_mixInto [some (.ref 2), some (.long a1), none, none, none, none] (by decide +kernel) (Nat.le_of_ble_eq_true rfl) rfl hj ?_
  unfold D_X7_mixInto at h
  refine zk_lload_n dX7_mixInto_0 rfl rfl ?_
  refine zk_lstore_n (i := 3) dX7_mixInto_1 rfl (by decide) (zk_eq [_, _, _, _, _, _] rfl ?_)
  refine zk_iconst (v := 1) dX7_mixInto_2 (by decide) ?_
  refine zk_istore (i := 5) dX7_mixInto_3 (by decide) (zk_eq [_, _, _, _, _, _] rfl ?_)
  refine zk_mask [true, false, false, true, false, true] ?_
  exact ok_X7_mixInto_L5 hj r _ _ _ _ h
def D_X7_replaceWorth (s : zS) (a1 : Int32) (a2 : Int32) : Option (Int32 × zS) :=
  zgd (zin a1 16 = true) <|
  zgd (zin a1 16 = true) <|
  let s13 : zS := zwI s 3 a1.toNatClampNeg a2
  some ((s.1 3 a1.toNatClampNeg), s13)
set_option maxRecDepth 100000 in
theorem ok_X7_replaceWorth {l : Launch} {D : va_G} {ad : Nat → Nat} {cA : Nat → ClassId} (hj : zInj ad) (s : zS) (a1 : Int32) (a2 : Int32) {r : (Int32 × zS)} (h : D_X7_replaceWorth s a1 a2 = some r) : zMet l D ad cA jX7_replaceWorth [.ref 2, .int a1, .int a2] s (some (.int r.1)) r.2 := by
  refine zMet_of jX7_replaceWorth [some (.ref 2), some (.int a1), some (.int a2), none] (by decide +kernel) (Nat.le_of_ble_eq_true rfl) rfl hj ?_
  unfold D_X7_replaceWorth at h
  refine zk_aload_n dX7_replaceWorth_0 rfl rfl ?_
  refine zf_X7_15 rfl dX7_replaceWorth_1 ?_
  refine zk_iload_n dX7_replaceWorth_4 rfl rfl ?_
  obtain ⟨g5, h⟩ := zguard h
  refine zk_iald (zoI_of rfl g5) dX7_replaceWorth_5 ?_
  refine zk_istore_n (i := 3) dX7_replaceWorth_6 rfl (by decide) (zk_eq [_, _, _, _] rfl ?_)
  refine zk_aload_n dX7_replaceWorth_7 rfl rfl ?_
  refine zf_X7_15 rfl dX7_replaceWorth_8 ?_
  refine zk_iload_n dX7_replaceWorth_11 rfl rfl ?_
  refine zk_iload_n dX7_replaceWorth_12 rfl rfl ?_
  obtain ⟨g13, h⟩ := zguard h
  refine zk_iast (zoI_of rfl g13) dX7_replaceWorth_13 ?_
  refine zk_iload_n dX7_replaceWorth_14 rfl rfl ?_
  have e9 := Option.some.inj h
  subst e9
  exact zk_iret rfl ⟨rfl, rfl⟩ dX7_replaceWorth_15
def D_X7_restart_B7  (rec7 : Int32 → zS → Option zS) (a2 : Int32) (s : zS) : Option zS :=
    if (16 : Int32) ≤ a2 then (
      some s
    ) else (
      zgd (zin a2 16 = true) <|
      let s22 : zS := zwI s 3 a2.toNatClampNeg (0 : Int32)
      rec7 (a2 + 1) s22
    )
def D_X7_restart_L7 (n : Nat) (a2 : Int32) (s : zS) : Option zS := zfx (fun (rec : Int32 × zS → Option zS) q => D_X7_restart_B7 (fun v0 v1 => rec (v0, v1)) q.1 q.2) n (a2, s)
set_option maxRecDepth 100000 in
theorem D_X7_restart_L7_s (n : Nat) (a2 : Int32) (s : zS) : D_X7_restart_L7 (n + 1) a2 s = D_X7_restart_B7 (D_X7_restart_L7 n) a2 s := rfl
set_option maxRecDepth 100000 in
theorem ok_X7_restart_L7 {l : Launch} {D : va_G} {ad : Nat → Nat} {cA : Nat → ClassId} (hj : zInj ad) (r : zS)  : ∀ (n : Nat) (a2 : Int32) (s : zS), D_X7_restart_L7 n a2 s = some r → zOk l D ad cA (zJm jX7_restart) (zEnd D ad cA none r) 7 [some (.ref 2), none, some (.int a2)] [] s := by
  intro n
  induction n with
  | zero =>
    intro a2 s h
    have h0 : (none : Option zS) = some r := h
    cases h0
  | succ n hr7 =>
    intro a2 s h
    have h : D_X7_restart_B7 (D_X7_restart_L7 n) a2 s = some r := h
    unfold D_X7_restart_B7 at h
    refine zk_iload_n dX7_restart_7 rfl rfl ?_
    refine zk_aload_n dX7_restart_8 rfl rfl ?_
    refine zf_X7_15 rfl dX7_restart_9 ?_
    refine zk_alen (v := 16) (by decide) rfl dX7_restart_12 ?_
    refine zk_icmp_ge (tgt := 29) dX7_restart_13 rfl (fun g13 => ?_) (fun g13 => ?_)
    · replace h := zpos g13 h
      have e9 := Option.some.inj h
      subst e9
      exact zk_vret rfl ⟨rfl, rfl⟩ dX7_restart_29
    · replace h := zneg g13 h
      refine zk_aload_n dX7_restart_16 rfl rfl ?_
      refine zf_X7_15 rfl dX7_restart_17 ?_
      refine zk_iload_n dX7_restart_20 rfl rfl ?_
      refine zk_iconst (v := 0) dX7_restart_21 (by decide) ?_
      obtain ⟨g22, h⟩ := zguard h
      refine zk_iast (zoI_of rfl g22) dX7_restart_22 ?_
      refine zk_iinc dX7_restart_23 rfl (zinc (m := 1) (by decide)) (by decide) (zk_eq [_, _, _] rfl ?_)
      refine zk_goto (tgt := 7) dX7_restart_26 rfl ?_
      exact hr7 _ _ h
def D_X7_restart (s : zS) (a1 : Int32) : Option zS :=
  let s2 : zS := zwI s 2 0 a1
  D_X7_restart_L7 zFU (0 : Int32) s2
set_option maxRecDepth 100000 in
theorem ok_X7_restart {l : Launch} {D : va_G} {ad : Nat → Nat} {cA : Nat → ClassId} (hj : zInj ad) (s : zS) (a1 : Int32) {r : zS} (h : D_X7_restart s a1 = some r) : zMet l D ad cA jX7_restart [.ref 2, .int a1] s none r := by
  refine zMet_of jX7_restart [some (.ref 2), some (.int a1), none] (by decide +kernel) (Nat.le_of_ble_eq_true rfl) rfl hj ?_
  unfold D_X7_restart at h
  refine zk_aload_n dX7_restart_0 rfl rfl ?_
  refine zk_iload_n dX7_restart_1 rfl rfl ?_
  refine zp_X7_9 rfl dX7_restart_2 ?_
  refine zk_iconst (v := 0) dX7_restart_5 (by decide) ?_
  refine zk_istore_n (i := 2) dX7_restart_6 rfl (by decide) (zk_eq [_, _, _] rfl ?_)
  refine zk_mask [true, false, true] ?_
  exact ok_X7_restart_L7 hj r  _ _ _ h
def D_X8_alone (s : zS) (a1 : Int32) : Option Int32 :=
  (D_X6_allUsers s).bind fun p6 =>
  (D_X8_within a1 (0 : Int32) p6).bind fun p9 =>
  if p9 = 0 then (
    some (-2 : Int32)
  ) else (
    (D_X6_costOf s a1).bind fun p20 =>
    some p20
  )
set_option maxRecDepth 100000 in
theorem ok_X8_alone {l : Launch} {D : va_G} {ad : Nat → Nat} {cA : Nat → ClassId} (hj : zInj ad) (s : zS) (a1 : Int32) {r : Int32} (h : D_X8_alone s a1 = some r) : zMet l D ad cA jX8_alone [.ref 0, .int a1] s (some (.int r)) s := by
  refine zMet_of jX8_alone [some (.ref 0), some (.int a1)] (by decide +kernel) (Nat.le_of_ble_eq_true rfl) rfl hj ?_
  unfold D_X8_alone at h
  refine zk_iload_n dX8_alone_0 rfl rfl ?_
  refine zk_iconst (v := 0) dX8_alone_1 (by decide) ?_
  refine zk_aload_n dX8_alone_2 rfl rfl ?_
  refine zf_X8_47 rfl dX8_alone_3 ?_
  obtain ⟨p6, h6, h⟩ := zbind h
  refine zc_X8_259 [.int _, .int _] (As := []) (ok_X6_allUsers hj _ h6) rfl ⟨Nat.le_of_ble_eq_true rfl, Nat.le_of_ble_eq_true rfl⟩ ⟨Nat.le_refl _, Nat.le_refl _⟩ rfl rfl (Nat.le_of_ble_eq_true rfl) dX8_alone_6 ?_
  obtain ⟨p9, h9, h⟩ := zbind h
  refine zc_X8_58 [] (As := [.int _, .int _, .int _]) (ok_X8_within hj _ _ _ _ h9) rfl ⟨Nat.le_of_ble_eq_true rfl, Nat.le_of_ble_eq_true rfl⟩ ⟨Nat.le_refl _, Nat.le_refl _⟩ rfl rfl (Nat.le_of_ble_eq_true rfl) dX8_alone_9 ?_
  refine zk_if_eq (tgt := 26) dX8_alone_12 rfl (fun g12 => ?_) (fun g12 => ?_)
  · replace h := zpos g12 h
    refine zk_bipush (v := -2) dX8_alone_26 (by decide) ?_
    have e9 := Option.some.inj h
    subst e9
    exact zk_iret rfl ⟨rfl, rfl⟩ dX8_alone_28
  · replace h := zneg g12 h
    refine zk_aload_n dX8_alone_15 rfl rfl ?_
    refine zf_X8_47 rfl dX8_alone_16 ?_
    refine zk_iload_n dX8_alone_19 rfl rfl ?_
    obtain ⟨p20, h20, h⟩ := zbind h
    refine zc_X8_262 [] (As := [.int _]) (ok_X6_costOf hj _ _ h20) rfl ⟨Nat.le_of_ble_eq_true rfl, Nat.le_of_ble_eq_true rfl⟩ ⟨Nat.le_refl _, Nat.le_refl _⟩ rfl rfl (Nat.le_of_ble_eq_true rfl) dX8_alone_20 ?_
    refine zk_goto (tgt := 28) dX8_alone_23 rfl ?_
    have e9 := Option.some.inj h
    subst e9
    exact zk_iret rfl ⟨rfl, rfl⟩ dX8_alone_28
def D_X8_award (s : zS) (a1 : Int32) (a2 : Int32) : Option (Int32 × zS) :=
  (D_X8_within a1 (0 : Int32) ((s.1 45 0) - (1 : Int32))).bind fun p11 =>
  if p11 = 0 then (
    some ((-2 : Int32), s)
  ) else (
    (D_X8_within a2 (0 : Int32) (4 : Int32)).bind fun p20 =>
    if p20 = 0 then (
      some ((-2 : Int32), s)
    ) else (
      (D_X1_total s).bind fun p40 =>
      if (s.1 45 1) ≤ p40 then (
        (D_X1_tellAward s a1 a2).bind fun p59 =>
        some ((1 : Int32), p59)
      ) else (
        some ((-3 : Int32), s)
      )
    )
  )
set_option maxRecDepth 100000 in
theorem ok_X8_award {l : Launch} {D : va_G} {ad : Nat → Nat} {cA : Nat → ClassId} (hj : zInj ad) (s : zS) (a1 : Int32) (a2 : Int32) {r : (Int32 × zS)} (h : D_X8_award s a1 a2 = some r) : zMet l D ad cA jX8_award [.ref 0, .int a1, .int a2] s (some (.int r.1)) r.2 := by
  refine zMet_of jX8_award [some (.ref 0), some (.int a1), some (.int a2)] (by decide +kernel) (Nat.le_of_ble_eq_true rfl) rfl hj ?_
  unfold D_X8_award at h
  refine zk_iload_n dX8_award_0 rfl rfl ?_
  refine zk_iconst (v := 0) dX8_award_1 (by decide) ?_
  refine zk_aload_n dX8_award_2 rfl rfl ?_
  refine zf_X8_40 rfl dX8_award_3 ?_
  refine zf_X8_227 rfl dX8_award_6 ?_
  refine zk_iconst (v := 1) dX8_award_9 (by decide) ?_
  refine zk_isub dX8_award_10 ?_
  obtain ⟨p11, h11, h⟩ := zbind h
  refine zc_X8_58 [] (As := [.int _, .int _, .int _]) (ok_X8_within hj _ _ _ _ h11) rfl ⟨Nat.le_of_ble_eq_true rfl, Nat.le_of_ble_eq_true rfl⟩ ⟨Nat.le_refl _, Nat.le_refl _⟩ rfl rfl (Nat.le_of_ble_eq_true rfl) dX8_award_11 ?_
  refine zk_if_eq (tgt := 26) dX8_award_14 rfl (fun g14 => ?_) (fun g14 => ?_)
  · replace h := zpos g14 h
    refine zk_bipush (v := -2) dX8_award_26 (by decide) ?_
    have e9 := Option.some.inj h
    subst e9
    exact zk_iret rfl ⟨rfl, rfl⟩ dX8_award_28
  · replace h := zneg g14 h
    refine zk_iload_n dX8_award_17 rfl rfl ?_
    refine zk_iconst (v := 0) dX8_award_18 (by decide) ?_
    refine zk_iconst (v := 4) dX8_award_19 (by decide) ?_
    obtain ⟨p20, h20, h⟩ := zbind h
    refine zc_X8_58 [] (As := [.int _, .int _, .int _]) (ok_X8_within hj _ _ _ _ h20) rfl ⟨Nat.le_of_ble_eq_true rfl, Nat.le_of_ble_eq_true rfl⟩ ⟨Nat.le_refl _, Nat.le_refl _⟩ rfl rfl (Nat.le_of_ble_eq_true rfl) dX8_award_20 ?_
    refine zk_if_ne (tgt := 29) dX8_award_23 rfl (fun g23 => ?_) (fun g23 => ?_)
    · replace h := zneg g23 h
      refine zk_aload_n dX8_award_29 rfl rfl ?_
      refine zf_X8_40 rfl dX8_award_30 ?_
      refine zf_X8_234 rfl dX8_award_33 ?_
      refine zk_aload_n dX8_award_36 rfl rfl ?_
      refine zf_X8_40 rfl dX8_award_37 ?_
      obtain ⟨p40, h40, h⟩ := zbind h
      refine zc_X8_237 [.int _] (As := []) (ok_X1_total hj _ h40) rfl ⟨Nat.le_of_ble_eq_true rfl, Nat.le_of_ble_eq_true rfl⟩ ⟨Nat.le_refl _, Nat.le_refl _⟩ rfl rfl (Nat.le_of_ble_eq_true rfl) dX8_award_40 ?_
      refine zk_icmp_le (tgt := 49) dX8_award_43 rfl (fun g43 => ?_) (fun g43 => ?_)
      · replace h := zpos g43 h
        refine zk_aload_n dX8_award_49 rfl rfl ?_
        refine zf_X8_40 rfl dX8_award_50 ?_
        refine zk_iload_n dX8_award_53 rfl rfl ?_
        refine zk_iload_n dX8_award_54 rfl rfl ?_
        refine zk_aload_n dX8_award_55 rfl rfl ?_
        refine zf_X8_10 rfl dX8_award_56 ?_
        obtain ⟨p59, h59, h⟩ := zbind h
        refine zc_X8_240 [] (As := [.int _, .int _, .ref _]) (ok_X1_tellAward hj _ _ _ h59) rfl ⟨Nat.le_of_ble_eq_true rfl, Nat.le_of_ble_eq_true rfl⟩ ⟨Nat.le_refl _, Nat.le_refl _⟩ rfl rfl (Nat.le_of_ble_eq_true rfl) dX8_award_59 ?_
        refine zk_iconst (v := 1) dX8_award_62 (by decide) ?_
        have e9 := Option.some.inj h
        subst e9
        exact zk_iret rfl ⟨rfl, rfl⟩ dX8_award_63
      · replace h := zneg g43 h
        refine zk_bipush (v := -3) dX8_award_46 (by decide) ?_
        have e9 := Option.some.inj h
        subst e9
        exact zk_iret rfl ⟨rfl, rfl⟩ dX8_award_48
    · replace h := zpos g23 h
      refine zk_bipush (v := -2) dX8_award_26 (by decide) ?_
      have e9 := Option.some.inj h
      subst e9
      exact zk_iret rfl ⟨rfl, rfl⟩ dX8_award_28
def D_X8_better (s : zS) (a1 : Int32) : Option Int32 :=
  (D_X8_within a1 (0 : Int32) (1 : Int32)).bind fun p3 =>
  if p3 = 0 then (
    some (-2 : Int32)
  ) else (
    (D_X3_firstBetterSet s a1).bind fun p18 =>
    some p18
  )
set_option maxRecDepth 100000 in
theorem ok_X8_better {l : Launch} {D : va_G} {ad : Nat → Nat} {cA : Nat → ClassId} (hj : zInj ad) (s : zS) (a1 : Int32) {r : Int32} (h : D_X8_better s a1 = some r) : zMet l D ad cA jX8_better [.ref 0, .int a1] s (some (.int r)) s := by
  refine zMet_of jX8_better [some (.ref 0), some (.int a1)] (by decide +kernel) (Nat.le_of_ble_eq_true rfl) rfl hj ?_
  unfold D_X8_better at h
  refine zk_iload_n dX8_better_0 rfl rfl ?_
  refine zk_iconst (v := 0) dX8_better_1 (by decide) ?_
  refine zk_iconst (v := 1) dX8_better_2 (by decide) ?_
  obtain ⟨p3, h3, h⟩ := zbind h
  refine zc_X8_58 [] (As := [.int _, .int _, .int _]) (ok_X8_within hj _ _ _ _ h3) rfl ⟨Nat.le_of_ble_eq_true rfl, Nat.le_of_ble_eq_true rfl⟩ ⟨Nat.le_refl _, Nat.le_refl _⟩ rfl rfl (Nat.le_of_ble_eq_true rfl) dX8_better_3 ?_
  refine zk_if_eq (tgt := 24) dX8_better_6 rfl (fun g6 => ?_) (fun g6 => ?_)
  · replace h := zpos g6 h
    refine zk_bipush (v := -2) dX8_better_24 (by decide) ?_
    have e9 := Option.some.inj h
    subst e9
    exact zk_iret rfl ⟨rfl, rfl⟩ dX8_better_26
  · replace h := zneg g6 h
    refine zk_aload_n dX8_better_9 rfl rfl ?_
    refine zf_X8_26 rfl dX8_better_10 ?_
    refine zk_aload_n dX8_better_13 rfl rfl ?_
    refine zf_X8_19 rfl dX8_better_14 ?_
    refine zk_iload_n dX8_better_17 rfl rfl ?_
    obtain ⟨p18, h18, h⟩ := zbind h
    refine zc_X8_178 [] (As := [.ref _, .int _]) (ok_X3_firstBetterSet hj _ _ h18) rfl ⟨Nat.le_of_ble_eq_true rfl, Nat.le_of_ble_eq_true rfl⟩ ⟨Nat.le_refl _, Nat.le_refl _⟩ rfl rfl (Nat.le_of_ble_eq_true rfl) dX8_better_18 ?_
    refine zk_goto (tgt := 26) dX8_better_21 rfl ?_
    have e9 := Option.some.inj h
    subst e9
    exact zk_iret rfl ⟨rfl, rfl⟩ dX8_better_26
def D_X8_calm (s : zS) (a1 : Int32) : Option (Int32 × zS) :=
  (D_X7_knowsSide s a1).bind fun p5 =>
  if p5 = 0 then (
    some ((-2 : Int32), s)
  ) else (
    (D_X3_findCalm s).bind fun p22 =>
    (D_X3_tellCalm p22 a1).bind fun p34 =>
    some ((1 : Int32), p34)
  )
set_option maxRecDepth 100000 in
theorem ok_X8_calm {l : Launch} {D : va_G} {ad : Nat → Nat} {cA : Nat → ClassId} (hj : zInj ad) (s : zS) (a1 : Int32) {r : (Int32 × zS)} (h : D_X8_calm s a1 = some r) : zMet l D ad cA jX8_calm [.ref 0, .int a1] s (some (.int r.1)) r.2 := by
  refine zMet_of jX8_calm [some (.ref 0), some (.int a1)] (by decide +kernel) (Nat.le_of_ble_eq_true rfl) rfl hj ?_
  unfold D_X8_calm at h
  refine zk_aload_n dX8_calm_0 rfl rfl ?_
  refine zf_X8_19 rfl dX8_calm_1 ?_
  refine zk_iload_n dX8_calm_4 rfl rfl ?_
  obtain ⟨p5, h5, h⟩ := zbind h
  refine zc_X8_84 [] (As := [.int _]) (ok_X7_knowsSide hj _ _ h5) rfl ⟨Nat.le_of_ble_eq_true rfl, Nat.le_of_ble_eq_true rfl⟩ ⟨Nat.le_refl _, Nat.le_refl _⟩ rfl rfl (Nat.le_of_ble_eq_true rfl) dX8_calm_5 ?_
  refine zk_if_ne (tgt := 14) dX8_calm_8 rfl (fun g8 => ?_) (fun g8 => ?_)
  · replace h := zneg g8 h
    refine zk_aload_n dX8_calm_14 rfl rfl ?_
    refine zf_X8_26 rfl dX8_calm_15 ?_
    refine zk_aload_n dX8_calm_18 rfl rfl ?_
    refine zf_X8_19 rfl dX8_calm_19 ?_
    obtain ⟨p22, h22, h⟩ := zbind h
    refine zc_X8_143 [] (As := [.ref _]) (ok_X3_findCalm hj _ h22) rfl ⟨Nat.le_of_ble_eq_true rfl, Nat.le_of_ble_eq_true rfl⟩ ⟨Nat.le_refl _, Nat.le_refl _⟩ rfl rfl (Nat.le_of_ble_eq_true rfl) dX8_calm_22 ?_
    refine zk_aload_n dX8_calm_25 rfl rfl ?_
    refine zf_X8_26 rfl dX8_calm_26 ?_
    refine zk_iload_n dX8_calm_29 rfl rfl ?_
    refine zk_aload_n dX8_calm_30 rfl rfl ?_
    refine zf_X8_10 rfl dX8_calm_31 ?_
    obtain ⟨p34, h34, h⟩ := zbind h
    refine zc_X8_158 [] (As := [.int _, .ref _]) (ok_X3_tellCalm hj _ _ h34) rfl ⟨Nat.le_of_ble_eq_true rfl, Nat.le_of_ble_eq_true rfl⟩ ⟨Nat.le_refl _, Nat.le_refl _⟩ rfl rfl (Nat.le_of_ble_eq_true rfl) dX8_calm_34 ?_
    refine zk_iconst (v := 1) dX8_calm_37 (by decide) ?_
    have e9 := Option.some.inj h
    subst e9
    exact zk_iret rfl ⟨rfl, rfl⟩ dX8_calm_38
  · replace h := zpos g8 h
    refine zk_bipush (v := -2) dX8_calm_11 (by decide) ?_
    have e9 := Option.some.inj h
    subst e9
    exact zk_iret rfl ⟨rfl, rfl⟩ dX8_calm_13
def D_X8_claim (s : zS) (a1 : Int32) : Option (Int32 × zS) :=
  (D_X8_within a1 (0 : Int32) (1000 : Int32)).bind fun p5 =>
  if p5 = 0 then (
    some ((-2 : Int32), s)
  ) else (
    if (6 : Int32) ≤ (s.1 45 0) then (
      some ((-4 : Int32), s)
    ) else (
      (D_X1_addClaim s a1).bind fun p31 =>
      some (p31.1, p31.2)
    )
  )
set_option maxRecDepth 100000 in
theorem ok_X8_claim {l : Launch} {D : va_G} {ad : Nat → Nat} {cA : Nat → ClassId} (hj : zInj ad) (s : zS) (a1 : Int32) {r : (Int32 × zS)} (h : D_X8_claim s a1 = some r) : zMet l D ad cA jX8_claim [.ref 0, .int a1] s (some (.int r.1)) r.2 := by
  refine zMet_of jX8_claim [some (.ref 0), some (.int a1)] (by decide +kernel) (Nat.le_of_ble_eq_true rfl) rfl hj ?_
  unfold D_X8_claim at h
  refine zk_iload_n dX8_claim_0 rfl rfl ?_
  refine zk_iconst (v := 0) dX8_claim_1 (by decide) ?_
  refine zk_sipush (v := 1000) dX8_claim_2 (by decide) ?_
  obtain ⟨p5, h5, h⟩ := zbind h
  refine zc_X8_58 [] (As := [.int _, .int _, .int _]) (ok_X8_within hj _ _ _ _ h5) rfl ⟨Nat.le_of_ble_eq_true rfl, Nat.le_of_ble_eq_true rfl⟩ ⟨Nat.le_refl _, Nat.le_refl _⟩ rfl rfl (Nat.le_of_ble_eq_true rfl) dX8_claim_5 ?_
  refine zk_if_ne (tgt := 14) dX8_claim_8 rfl (fun g8 => ?_) (fun g8 => ?_)
  · replace h := zneg g8 h
    refine zk_aload_n dX8_claim_14 rfl rfl ?_
    refine zf_X8_40 rfl dX8_claim_15 ?_
    refine zf_X8_227 rfl dX8_claim_18 ?_
    refine zk_bipush (v := 6) dX8_claim_21 (by decide) ?_
    refine zk_icmp_ge (tgt := 37) dX8_claim_23 rfl (fun g23 => ?_) (fun g23 => ?_)
    · replace h := zpos g23 h
      refine zk_bipush (v := -4) dX8_claim_37 (by decide) ?_
      have e9 := Option.some.inj h
      subst e9
      exact zk_iret rfl ⟨rfl, rfl⟩ dX8_claim_39
    · replace h := zneg g23 h
      refine zk_aload_n dX8_claim_26 rfl rfl ?_
      refine zf_X8_40 rfl dX8_claim_27 ?_
      refine zk_iload_n dX8_claim_30 rfl rfl ?_
      obtain ⟨p31, h31, h⟩ := zbind h
      refine zc_X8_228 [] (As := [.int _]) (ok_X1_addClaim hj _ _ h31) rfl ⟨Nat.le_of_ble_eq_true rfl, Nat.le_of_ble_eq_true rfl⟩ ⟨Nat.le_refl _, Nat.le_refl _⟩ rfl rfl (Nat.le_of_ble_eq_true rfl) dX8_claim_31 ?_
      refine zk_goto (tgt := 39) dX8_claim_34 rfl ?_
      have e9 := Option.some.inj h
      subst e9
      exact zk_iret rfl ⟨rfl, rfl⟩ dX8_claim_39
  · replace h := zpos g8 h
    refine zk_bipush (v := -2) dX8_claim_11 (by decide) ?_
    have e9 := Option.some.inj h
    subst e9
    exact zk_iret rfl ⟨rfl, rfl⟩ dX8_claim_13
def D_X8_clear (s : zS) : Option (Int32 × zS) :=
  (D_X4_pricesFit s).bind fun p4 =>
  if p4.1 = 0 then (
    some ((0 : Int32), p4.2)
  ) else (
    some ((1 : Int32), p4.2)
  )
set_option maxRecDepth 100000 in
theorem ok_X8_clear {l : Launch} {D : va_G} {ad : Nat → Nat} {cA : Nat → ClassId} (hj : zInj ad) (s : zS)  {r : (Int32 × zS)} (h : D_X8_clear s = some r) : zMet l D ad cA jX8_clear [.ref 0] s (some (.int r.1)) r.2 := by
  refine zMet_of jX8_clear [some (.ref 0)] (by decide +kernel) (Nat.le_of_ble_eq_true rfl) rfl hj ?_
  unfold D_X8_clear at h
  refine zk_aload_n dX8_clear_0 rfl rfl ?_
  refine zf_X8_54 rfl dX8_clear_1 ?_
  obtain ⟨p4, h4, h⟩ := zbind h
  refine zc_X8_304 [] (As := []) (ok_X4_pricesFit hj _ h4) rfl ⟨Nat.le_of_ble_eq_true rfl, Nat.le_of_ble_eq_true rfl⟩ ⟨Nat.le_refl _, Nat.le_refl _⟩ rfl rfl (Nat.le_of_ble_eq_true rfl) dX8_clear_4 ?_
  refine zk_if_eq (tgt := 14) dX8_clear_7 rfl (fun g7 => ?_) (fun g7 => ?_)
  · replace h := zpos g7 h
    refine zk_iconst (v := 0) dX8_clear_14 (by decide) ?_
    have e9 := Option.some.inj h
    subst e9
    exact zk_iret rfl ⟨rfl, rfl⟩ dX8_clear_15
  · replace h := zneg g7 h
    refine zk_iconst (v := 1) dX8_clear_10 (by decide) ?_
    refine zk_goto (tgt := 15) dX8_clear_11 rfl ?_
    have e9 := Option.some.inj h
    subst e9
    exact zk_iret rfl ⟨rfl, rfl⟩ dX8_clear_15
def D_X8_complaint (s : zS) (a1 : Int32) (a2 : Int32) : Option Int32 :=
  (D_X8_within a1 (0 : Int32) (1 : Int32)).bind fun p3 =>
  if p3 = 0 then (
    some (-1000000 : Int32)
  ) else (
    (D_X7_knowsSet s a2).bind fun p14 =>
    if p14 = 0 then (
      some (-1000000 : Int32)
    ) else (
      (D_X3_complaintOf s a1 a2).bind fun p33 =>
      some p33
    )
  )
set_option maxRecDepth 100000 in
theorem ok_X8_complaint {l : Launch} {D : va_G} {ad : Nat → Nat} {cA : Nat → ClassId} (hj : zInj ad) (s : zS) (a1 : Int32) (a2 : Int32) {r : Int32} (h : D_X8_complaint s a1 a2 = some r) : zMet l D ad cA jX8_complaint [.ref 0, .int a1, .int a2] s (some (.int r)) s := by
  refine zMet_of jX8_complaint [some (.ref 0), some (.int a1), some (.int a2)] (by decide +kernel) (Nat.le_of_ble_eq_true rfl) rfl hj ?_
  unfold D_X8_complaint at h
  refine zk_iload_n dX8_complaint_0 rfl rfl ?_
  refine zk_iconst (v := 0) dX8_complaint_1 (by decide) ?_
  refine zk_iconst (v := 1) dX8_complaint_2 (by decide) ?_
  obtain ⟨p3, h3, h⟩ := zbind h
  refine zc_X8_58 [] (As := [.int _, .int _, .int _]) (ok_X8_within hj _ _ _ _ h3) rfl ⟨Nat.le_of_ble_eq_true rfl, Nat.le_of_ble_eq_true rfl⟩ ⟨Nat.le_refl _, Nat.le_refl _⟩ rfl rfl (Nat.le_of_ble_eq_true rfl) dX8_complaint_3 ?_
  refine zk_if_eq (tgt := 20) dX8_complaint_6 rfl (fun g6 => ?_) (fun g6 => ?_)
  · replace h := zpos g6 h
    refine zk_ldc dX8_complaint_20 zw_X8_165 ?_
    have e9 := Option.some.inj h
    subst e9
    exact zk_iret rfl ⟨rfl, rfl⟩ dX8_complaint_22
  · replace h := zneg g6 h
    refine zk_aload_n dX8_complaint_9 rfl rfl ?_
    refine zf_X8_19 rfl dX8_complaint_10 ?_
    refine zk_iload_n dX8_complaint_13 rfl rfl ?_
    obtain ⟨p14, h14, h⟩ := zbind h
    refine zc_X8_68 [] (As := [.int _]) (ok_X7_knowsSet hj _ _ h14) rfl ⟨Nat.le_of_ble_eq_true rfl, Nat.le_of_ble_eq_true rfl⟩ ⟨Nat.le_refl _, Nat.le_refl _⟩ rfl rfl (Nat.le_of_ble_eq_true rfl) dX8_complaint_14 ?_
    refine zk_if_ne (tgt := 23) dX8_complaint_17 rfl (fun g17 => ?_) (fun g17 => ?_)
    · replace h := zneg g17 h
      refine zk_aload_n dX8_complaint_23 rfl rfl ?_
      refine zf_X8_26 rfl dX8_complaint_24 ?_
      refine zk_aload_n dX8_complaint_27 rfl rfl ?_
      refine zf_X8_19 rfl dX8_complaint_28 ?_
      refine zk_iload_n dX8_complaint_31 rfl rfl ?_
      refine zk_iload_n dX8_complaint_32 rfl rfl ?_
      obtain ⟨p33, h33, h⟩ := zbind h
      refine zc_X8_166 [] (As := [.ref _, .int _, .int _]) (ok_X3_complaintOf hj _ _ _ h33) rfl ⟨Nat.le_of_ble_eq_true rfl, Nat.le_of_ble_eq_true rfl⟩ ⟨Nat.le_refl _, Nat.le_refl _⟩ rfl rfl (Nat.le_of_ble_eq_true rfl) dX8_complaint_33 ?_
      have e9 := Option.some.inj h
      subst e9
      exact zk_iret rfl ⟨rfl, rfl⟩ dX8_complaint_36
    · replace h := zpos g17 h
      refine zk_ldc dX8_complaint_20 zw_X8_165 ?_
      have e9 := Option.some.inj h
      subst e9
      exact zk_iret rfl ⟨rfl, rfl⟩ dX8_complaint_22
def D_X8_core (s : zS) : Option (Int32 × zS) :=
  (D_X3_layLeastPay s).bind fun p8 =>
  (D_X3_isWhole p8).bind fun p19 =>
  if p19 = 0 then (
    some ((0 : Int32), p8)
  ) else (
    some ((1 : Int32), p8)
  )
set_option maxRecDepth 100000 in
theorem ok_X8_core {l : Launch} {D : va_G} {ad : Nat → Nat} {cA : Nat → ClassId} (hj : zInj ad) (s : zS)  {r : (Int32 × zS)} (h : D_X8_core s = some r) : zMet l D ad cA jX8_core [.ref 0] s (some (.int r.1)) r.2 := by
  refine zMet_of jX8_core [some (.ref 0)] (by decide +kernel) (Nat.le_of_ble_eq_true rfl) rfl hj ?_
  unfold D_X8_core at h
  refine zk_aload_n dX8_core_0 rfl rfl ?_
  refine zf_X8_26 rfl dX8_core_1 ?_
  refine zk_aload_n dX8_core_4 rfl rfl ?_
  refine zf_X8_19 rfl dX8_core_5 ?_
  obtain ⟨p8, h8, h⟩ := zbind h
  refine zc_X8_135 [] (As := [.ref _]) (ok_X3_layLeastPay hj _ h8) rfl ⟨Nat.le_of_ble_eq_true rfl, Nat.le_of_ble_eq_true rfl⟩ ⟨Nat.le_refl _, Nat.le_refl _⟩ rfl rfl (Nat.le_of_ble_eq_true rfl) dX8_core_8 ?_
  refine zk_aload_n dX8_core_11 rfl rfl ?_
  refine zf_X8_26 rfl dX8_core_12 ?_
  refine zk_aload_n dX8_core_15 rfl rfl ?_
  refine zf_X8_19 rfl dX8_core_16 ?_
  obtain ⟨p19, h19, h⟩ := zbind h
  refine zc_X8_150 [] (As := [.ref _]) (ok_X3_isWhole hj _ h19) rfl ⟨Nat.le_of_ble_eq_true rfl, Nat.le_of_ble_eq_true rfl⟩ ⟨Nat.le_refl _, Nat.le_refl _⟩ rfl rfl (Nat.le_of_ble_eq_true rfl) dX8_core_19 ?_
  refine zk_if_eq (tgt := 29) dX8_core_22 rfl (fun g22 => ?_) (fun g22 => ?_)
  · replace h := zpos g22 h
    refine zk_iconst (v := 0) dX8_core_29 (by decide) ?_
    have e9 := Option.some.inj h
    subst e9
    exact zk_iret rfl ⟨rfl, rfl⟩ dX8_core_30
  · replace h := zneg g22 h
    refine zk_iconst (v := 1) dX8_core_25 (by decide) ?_
    refine zk_goto (tgt := 30) dX8_core_26 rfl ?_
    have e9 := Option.some.inj h
    subst e9
    exact zk_iret rfl ⟨rfl, rfl⟩ dX8_core_30
def D_X8_count (s : zS) (a1 : Int32) : Option Int32 :=
  if a1 = 0 then (
    some (s.1 2 0)
  ) else (
  if a1 = 1 then (
    some (s.1 38 0)
  ) else (
  if a1 = 2 then (
    some (s.1 45 0)
  ) else (
  if a1 = 3 then (
    some (s.1 47 0)
  ) else (
  if a1 = 4 then (
    some (s.1 47 4)
  ) else (
  if a1 = 5 then (
    some (s.1 53 0)
  ) else (
  if a1 = 6 then (
    some (s.1 53 1)
  ) else (
  some (-2 : Int32)
  )))))))
set_option maxRecDepth 100000 in
theorem ok_X8_count {l : Launch} {D : va_G} {ad : Nat → Nat} {cA : Nat → ClassId} (hj : zInj ad) (s : zS) (a1 : Int32) {r : Int32} (h : D_X8_count s a1 = some r) : zMet l D ad cA jX8_count [.ref 0, .int a1] s (some (.int r)) s := by
  refine zMet_of jX8_count [some (.ref 0), some (.int a1)] (by decide +kernel) (Nat.le_of_ble_eq_true rfl) rfl hj ?_
  unfold D_X8_count at h
  refine zk_iload_n dX8_count_0 rfl rfl ?_
  by_cases g1_0 : a1 = 0
  · replace h := zpos g1_0 h
    refine zk_tableIn (tgt := 44) (off := 43) dX8_count_1 (by rw [g1_0]; decide) (by rw [g1_0]; decide) (by rw [g1_0]; rfl) rfl ?_
    refine zk_aload_n dX8_count_44 rfl rfl ?_
    refine zf_X8_19 rfl dX8_count_45 ?_
    refine zf_X8_96 rfl dX8_count_48 ?_
    have e9 := Option.some.inj h
    subst e9
    exact zk_iret rfl ⟨rfl, rfl⟩ dX8_count_51
  replace h := zneg g1_0 h
  by_cases g1_1 : a1 = 1
  · replace h := zpos g1_1 h
    refine zk_tableIn (tgt := 52) (off := 51) dX8_count_1 (by rw [g1_1]; decide) (by rw [g1_1]; decide) (by rw [g1_1]; rfl) rfl ?_
    refine zk_aload_n dX8_count_52 rfl rfl ?_
    refine zf_X8_33 rfl dX8_count_53 ?_
    refine zf_X8_182 rfl dX8_count_56 ?_
    have e9 := Option.some.inj h
    subst e9
    exact zk_iret rfl ⟨rfl, rfl⟩ dX8_count_59
  replace h := zneg g1_1 h
  by_cases g1_2 : a1 = 2
  · replace h := zpos g1_2 h
    refine zk_tableIn (tgt := 60) (off := 59) dX8_count_1 (by rw [g1_2]; decide) (by rw [g1_2]; decide) (by rw [g1_2]; rfl) rfl ?_
    refine zk_aload_n dX8_count_60 rfl rfl ?_
    refine zf_X8_40 rfl dX8_count_61 ?_
    refine zf_X8_227 rfl dX8_count_64 ?_
    have e9 := Option.some.inj h
    subst e9
    exact zk_iret rfl ⟨rfl, rfl⟩ dX8_count_67
  replace h := zneg g1_2 h
  by_cases g1_3 : a1 = 3
  · replace h := zpos g1_3 h
    refine zk_tableIn (tgt := 68) (off := 67) dX8_count_1 (by rw [g1_3]; decide) (by rw [g1_3]; decide) (by rw [g1_3]; rfl) rfl ?_
    refine zk_aload_n dX8_count_68 rfl rfl ?_
    refine zf_X8_47 rfl dX8_count_69 ?_
    refine zf_X8_247 rfl dX8_count_72 ?_
    have e9 := Option.some.inj h
    subst e9
    exact zk_iret rfl ⟨rfl, rfl⟩ dX8_count_75
  replace h := zneg g1_3 h
  by_cases g1_4 : a1 = 4
  · replace h := zpos g1_4 h
    refine zk_tableIn (tgt := 76) (off := 75) dX8_count_1 (by rw [g1_4]; decide) (by rw [g1_4]; decide) (by rw [g1_4]; rfl) rfl ?_
    refine zk_aload_n dX8_count_76 rfl rfl ?_
    refine zf_X8_47 rfl dX8_count_77 ?_
    refine zf_X8_253 rfl dX8_count_80 ?_
    have e9 := Option.some.inj h
    subst e9
    exact zk_iret rfl ⟨rfl, rfl⟩ dX8_count_83
  replace h := zneg g1_4 h
  by_cases g1_5 : a1 = 5
  · replace h := zpos g1_5 h
    refine zk_tableIn (tgt := 84) (off := 83) dX8_count_1 (by rw [g1_5]; decide) (by rw [g1_5]; decide) (by rw [g1_5]; rfl) rfl ?_
    refine zk_aload_n dX8_count_84 rfl rfl ?_
    refine zf_X8_54 rfl dX8_count_85 ?_
    refine zf_X8_308 rfl dX8_count_88 ?_
    have e9 := Option.some.inj h
    subst e9
    exact zk_iret rfl ⟨rfl, rfl⟩ dX8_count_91
  replace h := zneg g1_5 h
  by_cases g1_6 : a1 = 6
  · replace h := zpos g1_6 h
    refine zk_tableIn (tgt := 92) (off := 91) dX8_count_1 (by rw [g1_6]; decide) (by rw [g1_6]; decide) (by rw [g1_6]; rfl) rfl ?_
    refine zk_aload_n dX8_count_92 rfl rfl ?_
    refine zf_X8_54 rfl dX8_count_93 ?_
    refine zf_X8_311 rfl dX8_count_96 ?_
    have e9 := Option.some.inj h
    subst e9
    exact zk_iret rfl ⟨rfl, rfl⟩ dX8_count_99
  replace h := zneg g1_6 h
  refine zk_tableOut (tgt := 100) dX8_count_1 (zsw_s (k := 6) (zsw_s (k := 5) (zsw_s (k := 4) (zsw_s (k := 3) (zsw_s (k := 2) (zsw_s (k := 1) (zsw_s (k := 0) (zsw0 _) g1_0) g1_1) g1_2) g1_3) g1_4) g1_5) g1_6) rfl ?_
  refine zk_bipush (v := -2) dX8_count_100 (by decide) ?_
  have e9 := Option.some.inj h
  subst e9
  exact zk_iret rfl ⟨rfl, rfl⟩ dX8_count_102
def D_X8_deegan (s : zS) (a1 : Int32) : Option (Int32 × zS) :=
  (D_X5_knowsVoter s a1).bind fun p5 =>
  if p5 = 0 then (
    some ((-2 : Int32), s)
  ) else (
    (D_X5_leastSets s).bind fun p18 =>
    if p18 = 0 then (
      some ((0 : Int32), s)
    ) else (
      (D_X5_partsOfLeastSets s a1).bind fun p37 =>
      (D_X2_put s 1 p37.toInt64 ((840 : Int64) * p18.toInt64)).bind fun p47 =>
      some ((1 : Int32), p47)
    )
  )
set_option maxRecDepth 100000 in
theorem ok_X8_deegan {l : Launch} {D : va_G} {ad : Nat → Nat} {cA : Nat → ClassId} (hj : zInj ad) (s : zS) (a1 : Int32) {r : (Int32 × zS)} (h : D_X8_deegan s a1 = some r) : zMet l D ad cA jX8_deegan [.ref 0, .int a1] s (some (.int r.1)) r.2 := by
  refine zMet_of jX8_deegan [some (.ref 0), some (.int a1), none] (by decide +kernel) (Nat.le_of_ble_eq_true rfl) rfl hj ?_
  unfold D_X8_deegan at h
  refine zk_aload_n dX8_deegan_0 rfl rfl ?_
  refine zf_X8_33 rfl dX8_deegan_1 ?_
  refine zk_iload_n dX8_deegan_4 rfl rfl ?_
  obtain ⟨p5, h5, h⟩ := zbind h
  refine zc_X8_186 [] (As := [.int _]) (ok_X5_knowsVoter hj _ _ h5) rfl ⟨Nat.le_of_ble_eq_true rfl, Nat.le_of_ble_eq_true rfl⟩ ⟨Nat.le_refl _, Nat.le_refl _⟩ rfl rfl (Nat.le_of_ble_eq_true rfl) dX8_deegan_5 ?_
  refine zk_if_ne (tgt := 14) dX8_deegan_8 rfl (fun g8 => ?_) (fun g8 => ?_)
  · replace h := zneg g8 h
    refine zk_aload_n dX8_deegan_14 rfl rfl ?_
    refine zf_X8_33 rfl dX8_deegan_15 ?_
    obtain ⟨p18, h18, h⟩ := zbind h
    refine zc_X8_201 [] (As := []) (ok_X5_leastSets hj _ h18) rfl ⟨Nat.le_of_ble_eq_true rfl, Nat.le_of_ble_eq_true rfl⟩ ⟨Nat.le_refl _, Nat.le_refl _⟩ rfl rfl (Nat.le_of_ble_eq_true rfl) dX8_deegan_18 ?_
    refine zk_istore_n (i := 2) dX8_deegan_21 rfl (by decide) (zk_eq [_, _, _] rfl ?_)
    refine zk_iload_n dX8_deegan_22 rfl rfl ?_
    refine zk_if_ne (tgt := 28) dX8_deegan_23 rfl (fun g23 => ?_) (fun g23 => ?_)
    · replace h := zneg g23 h
      refine zk_aload_n dX8_deegan_28 rfl rfl ?_
      refine zf_X8_10 rfl dX8_deegan_29 ?_
      refine zk_aload_n dX8_deegan_32 rfl rfl ?_
      refine zf_X8_33 rfl dX8_deegan_33 ?_
      refine zk_iload_n dX8_deegan_36 rfl rfl ?_
      obtain ⟨p37, h37, h⟩ := zbind h
      refine zc_X8_219 [.ref _] (As := [.int _]) (ok_X5_partsOfLeastSets hj _ _ h37) rfl ⟨Nat.le_of_ble_eq_true rfl, Nat.le_of_ble_eq_true rfl⟩ ⟨Nat.le_refl _, Nat.le_refl _⟩ rfl rfl (Nat.le_of_ble_eq_true rfl) dX8_deegan_37 ?_
      refine zk_i2l dX8_deegan_40 ?_
      refine zk_ldc2 dX8_deegan_41 zw_X8_222 ?_
      refine zk_iload_n dX8_deegan_44 rfl rfl ?_
      refine zk_i2l dX8_deegan_45 ?_
      refine zk_lmul dX8_deegan_46 ?_
      obtain ⟨p47, h47, h⟩ := zbind h
      refine zc_X8_103 [] (hs := rfl) (As := [.long _, .long _]) (ok_X2_put hj _ _ _ _ h47) rfl ⟨Nat.le_of_ble_eq_true rfl, Nat.le_of_ble_eq_true rfl⟩ ⟨Nat.le_refl _, Nat.le_refl _⟩ rfl rfl (Nat.le_of_ble_eq_true rfl) dX8_deegan_47 ?_
      refine zk_iconst (v := 1) dX8_deegan_50 (by decide) ?_
      have e9 := Option.some.inj h
      subst e9
      exact zk_iret rfl ⟨rfl, rfl⟩ dX8_deegan_51
    · replace h := zpos g23 h
      refine zk_iconst (v := 0) dX8_deegan_26 (by decide) ?_
      have e9 := Option.some.inj h
      subst e9
      exact zk_iret rfl ⟨rfl, rfl⟩ dX8_deegan_27
  · replace h := zpos g8 h
    refine zk_bipush (v := -2) dX8_deegan_11 (by decide) ?_
    have e9 := Option.some.inj h
    subst e9
    exact zk_iret rfl ⟨rfl, rfl⟩ dX8_deegan_13
def D_X8_digest_B6 (s : zS) (rec6 : Int64 → Int32 → Option Int64) (a1 : Int64) (a3 : Int32) : Option Int64 :=
    if (6 : Int32) < a3 then (
      (D_X7_mixInto s a1).bind fun p34 =>
      (D_X3_mixInto s p34 (s.1 2 0)).bind fun p50 =>
      (D_X5_mixInto s p50).bind fun p59 =>
      (D_X1_mixInto s p59).bind fun p68 =>
      (D_X6_mixInto s p68).bind fun p77 =>
      (D_X4_mixInto s p77).bind fun p86 =>
      (D_X8_mix p86 (s.2 1 0)).bind fun p98 =>
      (D_X8_mix p98 (s.2 1 1)).bind fun p108 =>
      some p108
    ) else (
      (D_X8_count s a3).bind fun p15 =>
      (D_X8_mix a1 p15.toInt64).bind fun p19 =>
      rec6 p19 (a3 + 1)
    )
def D_X8_digest_L6 (s : zS) (n : Nat) (a1 : Int64) (a3 : Int32) : Option Int64 := zfx (fun (rec : Int64 × Int32 → Option Int64) q => D_X8_digest_B6 s (fun v0 v1 => rec (v0, v1)) q.1 q.2) n (a1, a3)
set_option maxRecDepth 100000 in
theorem D_X8_digest_L6_s (s : zS) (n : Nat) (a1 : Int64) (a3 : Int32) : D_X8_digest_L6 s (n + 1) a1 a3 = D_X8_digest_B6 s (D_X8_digest_L6 s n) a1 a3 := rfl
set_option maxRecDepth 100000 in
theorem ok_X8_digest_L6 {l : Launch} {D : va_G} {ad : Nat → Nat} {cA : Nat → ClassId} (hj : zInj ad) (r : Int64) (s : zS) : ∀ (n : Nat) (a1 : Int64) (a3 : Int32), D_X8_digest_L6 s n a1 a3 = some r → zOk l D ad cA (zJm jX8_digest) (zEnd D ad cA (some (.long r)) s) 6 [some (.ref 0), some (.long a1), none, some (.int a3)] [] s := by
  intro n
  induction n with
  | zero =>
    intro a1 a3 h
    have h0 : (none : Option Int64) = some r := h
    cases h0
  | succ n hr6 =>
    intro a1 a3 h
    have h : D_X8_digest_B6 s (D_X8_digest_L6 s n) a1 a3 = some r := h
    unfold D_X8_digest_B6 at h
    refine zk_iload_n dX8_digest_6 rfl rfl ?_
    refine zk_bipush (v := 6) dX8_digest_7 (by decide) ?_
    refine zk_icmp_gt (tgt := 29) dX8_digest_9 rfl (fun g9 => ?_) (fun g9 => ?_)
    · replace h := zpos g9 h
      refine zk_aload_n dX8_digest_29 rfl rfl ?_
      refine zf_X8_19 rfl dX8_digest_30 ?_
      refine zk_lload_n dX8_digest_33 rfl rfl ?_
      obtain ⟨p34, h34, h⟩ := zbind h
      refine zc_X8_323 [] (As := [.long _]) (ok_X7_mixInto hj _ _ h34) rfl ⟨Nat.le_of_ble_eq_true rfl, Nat.le_of_ble_eq_true rfl⟩ ⟨Nat.le_refl _, Nat.le_refl _⟩ rfl rfl (Nat.le_of_ble_eq_true rfl) dX8_digest_34 ?_
      refine zk_lstore_n (i := 1) dX8_digest_37 rfl (by decide) (zk_eq [_, _, _, _] rfl ?_)
      refine zk_aload_n dX8_digest_38 rfl rfl ?_
      refine zf_X8_26 rfl dX8_digest_39 ?_
      refine zk_lload_n dX8_digest_42 rfl rfl ?_
      refine zk_aload_n dX8_digest_43 rfl rfl ?_
      refine zf_X8_19 rfl dX8_digest_44 ?_
      refine zf_X8_96 rfl dX8_digest_47 ?_
      obtain ⟨p50, h50, h⟩ := zbind h
      refine zc_X8_327 [] (As := [.long _, .int _]) (ok_X3_mixInto hj _ _ _ h50) rfl ⟨Nat.le_of_ble_eq_true rfl, Nat.le_of_ble_eq_true rfl⟩ ⟨Nat.le_refl _, Nat.le_refl _⟩ rfl rfl (Nat.le_of_ble_eq_true rfl) dX8_digest_50 ?_
      refine zk_lstore_n (i := 1) dX8_digest_53 rfl (by decide) (zk_eq [_, _, _, _] rfl ?_)
      refine zk_aload_n dX8_digest_54 rfl rfl ?_
      refine zf_X8_33 rfl dX8_digest_55 ?_
      refine zk_lload_n dX8_digest_58 rfl rfl ?_
      obtain ⟨p59, h59, h⟩ := zbind h
      refine zc_X8_330 [] (As := [.long _]) (ok_X5_mixInto hj _ _ h59) rfl ⟨Nat.le_of_ble_eq_true rfl, Nat.le_of_ble_eq_true rfl⟩ ⟨Nat.le_refl _, Nat.le_refl _⟩ rfl rfl (Nat.le_of_ble_eq_true rfl) dX8_digest_59 ?_
      refine zk_lstore_n (i := 1) dX8_digest_62 rfl (by decide) (zk_eq [_, _, _, _] rfl ?_)
      refine zk_aload_n dX8_digest_63 rfl rfl ?_
      refine zf_X8_40 rfl dX8_digest_64 ?_
      refine zk_lload_n dX8_digest_67 rfl rfl ?_
      obtain ⟨p68, h68, h⟩ := zbind h
      refine zc_X8_331 [] (As := [.long _]) (ok_X1_mixInto hj _ _ h68) rfl ⟨Nat.le_of_ble_eq_true rfl, Nat.le_of_ble_eq_true rfl⟩ ⟨Nat.le_refl _, Nat.le_refl _⟩ rfl rfl (Nat.le_of_ble_eq_true rfl) dX8_digest_68 ?_
      refine zk_lstore_n (i := 1) dX8_digest_71 rfl (by decide) (zk_eq [_, _, _, _] rfl ?_)
      refine zk_aload_n dX8_digest_72 rfl rfl ?_
      refine zf_X8_47 rfl dX8_digest_73 ?_
      refine zk_lload_n dX8_digest_76 rfl rfl ?_
      obtain ⟨p77, h77, h⟩ := zbind h
      refine zc_X8_332 [] (As := [.long _]) (ok_X6_mixInto hj _ _ h77) rfl ⟨Nat.le_of_ble_eq_true rfl, Nat.le_of_ble_eq_true rfl⟩ ⟨Nat.le_refl _, Nat.le_refl _⟩ rfl rfl (Nat.le_of_ble_eq_true rfl) dX8_digest_77 ?_
      refine zk_lstore_n (i := 1) dX8_digest_80 rfl (by decide) (zk_eq [_, _, _, _] rfl ?_)
      refine zk_aload_n dX8_digest_81 rfl rfl ?_
      refine zf_X8_54 rfl dX8_digest_82 ?_
      refine zk_lload_n dX8_digest_85 rfl rfl ?_
      obtain ⟨p86, h86, h⟩ := zbind h
      refine zc_X8_333 [] (As := [.long _]) (ok_X4_mixInto hj _ _ h86) rfl ⟨Nat.le_of_ble_eq_true rfl, Nat.le_of_ble_eq_true rfl⟩ ⟨Nat.le_refl _, Nat.le_refl _⟩ rfl rfl (Nat.le_of_ble_eq_true rfl) dX8_digest_86 ?_
      refine zk_lstore_n (i := 1) dX8_digest_89 rfl (by decide) (zk_eq [_, _, _, _] rfl ?_)
      refine zk_lload_n dX8_digest_90 rfl rfl ?_
      refine zk_aload_n dX8_digest_91 rfl rfl ?_
      refine zf_X8_10 rfl dX8_digest_92 ?_
      refine zf_X8_128 (hs := rfl) rfl dX8_digest_95 ?_
      obtain ⟨p98, h98, h⟩ := zbind h
      refine zc_X8_319 [] (As := [.long _, .long _]) (ok_X8_mix hj _ _ _ h98) rfl ⟨Nat.le_of_ble_eq_true rfl, Nat.le_of_ble_eq_true rfl⟩ ⟨Nat.le_refl _, Nat.le_refl _⟩ rfl rfl (Nat.le_of_ble_eq_true rfl) dX8_digest_98 ?_
      refine zk_aload_n dX8_digest_101 rfl rfl ?_
      refine zf_X8_10 rfl dX8_digest_102 ?_
      refine zf_X8_132 (hs := rfl) rfl dX8_digest_105 ?_
      obtain ⟨p108, h108, h⟩ := zbind h
      refine zc_X8_319 [] (As := [.long _, .long _]) (ok_X8_mix hj _ _ _ h108) rfl ⟨Nat.le_of_ble_eq_true rfl, Nat.le_of_ble_eq_true rfl⟩ ⟨Nat.le_refl _, Nat.le_refl _⟩ rfl rfl (Nat.le_of_ble_eq_true rfl) dX8_digest_108 ?_
      have e9 := Option.some.inj h
      subst e9
      exact zk_lret rfl ⟨rfl, rfl⟩ dX8_digest_111
    · replace h := zneg g9 h
      refine zk_lload_n dX8_digest_12 rfl rfl ?_
      refine zk_aload_n dX8_digest_13 rfl rfl ?_
      refine zk_iload_n dX8_digest_14 rfl rfl ?_
      obtain ⟨p15, h15, h⟩ := zbind h
      refine zc_X8_316 [.long _] (As := [.int _]) (ok_X8_count hj _ _ h15) rfl ⟨Nat.le_of_ble_eq_true rfl, Nat.le_of_ble_eq_true rfl⟩ ⟨Nat.le_refl _, Nat.le_refl _⟩ rfl rfl (Nat.le_of_ble_eq_true rfl) dX8_digest_15 ?_
      refine zk_i2l dX8_digest_18 ?_
      obtain ⟨p19, h19, h⟩ := zbind h
      refine zc_X8_319 [] (As := [.long _, .long _]) (ok_X8_mix hj _ _ _ h19) rfl ⟨Nat.le_of_ble_eq_true rfl, Nat.le_of_ble_eq_true rfl⟩ ⟨Nat.le_refl _, Nat.le_refl _⟩ rfl rfl (Nat.le_of_ble_eq_true rfl) dX8_digest_19 ?_
      refine zk_lstore_n (i := 1) dX8_digest_22 rfl (by decide) (zk_eq [_, _, _, _] rfl ?_)
      refine zk_iinc dX8_digest_23 rfl (zinc (m := 1) (by decide)) (by decide) (zk_eq [_, _, _, _] rfl ?_)
      refine zk_goto (tgt := 6) dX8_digest_26 rfl ?_
      exact hr6 _ _ h
def D_X8_digest (s : zS) : Option Int64 :=
  D_X8_digest_L6 s zFU (353 : Int64) (0 : Int32)
set_option maxRecDepth 100000 in
theorem ok_X8_digest {l : Launch} {D : va_G} {ad : Nat → Nat} {cA : Nat → ClassId} (hj : zInj ad) (s : zS)  {r : Int64} (h : D_X8_digest s = some r) : zMet l D ad cA jX8_digest [.ref 0] s (some (.long r)) s := by
  refine zMet_of jX8_digest [some (.ref 0), none, none, none] (by decide +kernel) (Nat.le_of_ble_eq_true rfl) rfl hj ?_
  unfold D_X8_digest at h
  refine zk_ldc2 dX8_digest_0 zw_X8_314 ?_
  refine zk_lstore_n (i := 1) dX8_digest_3 rfl (by decide) (zk_eq [_, _, _, _] rfl ?_)
  refine zk_iconst (v := 0) dX8_digest_4 (by decide) ?_
  refine zk_istore_n (i := 3) dX8_digest_5 rfl (by decide) (zk_eq [_, _, _, _] rfl ?_)
  exact ok_X8_digest_L6 hj r _ _ _ _ h
