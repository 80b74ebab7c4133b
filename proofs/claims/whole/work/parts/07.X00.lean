def D_X0_belowOf_J23 (s : zS) : Option Int64 :=
  some (1 : Int64)
set_option maxRecDepth 100000 in
theorem ok_X0_belowOf_J23 {l : Launch} {D : va_G} {ad : Nat → Nat} {cA : Nat → ClassId} (hj : zInj ad) (r : Int64) (s : zS) (h : D_X0_belowOf_J23 s = some r) : zOk l D ad cA (zJm jX0_belowOf) (zEnd D ad cA (some (.long r)) s) 23 [none, none] [] s := by
  unfold D_X0_belowOf_J23 at h
  refine zk_lconst (v := 1) dX0_belowOf_23 (by decide) ?_
  have e9 := Option.some.inj h
  subst e9
  exact zk_lret rfl ⟨rfl, rfl⟩ dX0_belowOf_24
def D_X0_belowOf (s : zS) (a1 : Int32) : Option Int64 :=
  if a1 < 0 then (
    D_X0_belowOf_J23 s
  ) else (
    if (s.1 8 3) ≤ a1 then (
      D_X0_belowOf_J23 s
    ) else (
      zgd (zin a1 20 = true) <|
      zgd (zoL (zT 9 a1) (0 : Int32) = true) <|
      some (s.2 (zT 9 a1) (0 : Int32).toNatClampNeg)
    )
  )
set_option maxRecDepth 100000 in
theorem ok_X0_belowOf {l : Launch} {D : va_G} {ad : Nat → Nat} {cA : Nat → ClassId} (hj : zInj ad) (s : zS) (a1 : Int32) {r : Int64} (h : D_X0_belowOf s a1 = some r) : zMet l D ad cA jX0_belowOf [.ref 8, .int a1] s (some (.long r)) s := by
  refine zMet_of jX0_belowOf [some (.ref 8), some (.int a1)] (by decide +kernel) (Nat.le_of_ble_eq_true rfl) rfl hj ?_
  unfold D_X0_belowOf at h
  refine zk_iload_n dX0_belowOf_0 rfl rfl ?_
  refine zk_if_lt (tgt := 23) dX0_belowOf_1 rfl (fun g1 => ?_) (fun g1 => ?_)
  · replace h := zpos g1 h
    refine zk_mask [false, false] ?_
    exact ok_X0_belowOf_J23 hj r _ h
  · replace h := zneg g1 h
    refine zk_iload_n dX0_belowOf_4 rfl rfl ?_
    refine zk_aload_n dX0_belowOf_5 rfl rfl ?_
    refine zf_X0_23 rfl dX0_belowOf_6 ?_
    refine zk_icmp_ge (tgt := 23) dX0_belowOf_9 rfl (fun g9 => ?_) (fun g9 => ?_)
    · replace h := zpos g9 h
      refine zk_mask [false, false] ?_
      exact ok_X0_belowOf_J23 hj r _ h
    · replace h := zneg g9 h
      refine zk_aload_n dX0_belowOf_12 rfl rfl ?_
      refine zf_X0_13 rfl dX0_belowOf_13 ?_
      refine zk_iload_n dX0_belowOf_16 rfl rfl ?_
      obtain ⟨g17, h⟩ := zguard h
      refine zk_aald (zoR_of ⟨rfl, rfl, by decide, by decide⟩ g17) dX0_belowOf_17 ?_
      refine zk_iconst (v := 0) dX0_belowOf_18 (by decide) ?_
      obtain ⟨g19, h⟩ := zguard h
      refine zk_lald g19 dX0_belowOf_19 ?_
      refine zk_goto (tgt := 24) dX0_belowOf_20 rfl ?_
      have e9 := Option.some.inj h
      subst e9
      exact zk_lret rfl ⟨rfl, rfl⟩ dX0_belowOf_24
def D_X0_factorOf_J24 (s : zS) : Option Int64 :=
  some (0 : Int64)
set_option maxRecDepth 100000 in
theorem ok_X0_factorOf_J24 {l : Launch} {D : va_G} {ad : Nat → Nat} {cA : Nat → ClassId} (hj : zInj ad) (r : Int64) (s : zS) (h : D_X0_factorOf_J24 s = some r) : zOk l D ad cA (zJm jX0_factorOf) (zEnd D ad cA (some (.long r)) s) 24 [none, none, none] [] s := by
  unfold D_X0_factorOf_J24 at h
  refine zk_lconst (v := 0) dX0_factorOf_24 (by decide) ?_
  have e9 := Option.some.inj h
  subst e9
  exact zk_lret rfl ⟨rfl, rfl⟩ dX0_factorOf_25
def D_X0_factorOf (s : zS) (a1 : Int32) (a2 : Int32) : Option Int64 :=
  if a1 < 0 then (
    D_X0_factorOf_J24 s
  ) else (
    if (s.1 8 3) ≤ a1 then (
      D_X0_factorOf_J24 s
    ) else (
      if a2 < 0 then (
        D_X0_factorOf_J24 s
      ) else (
        if a2 < (s.1 8 4) then (
          zgd (zin a1 20 = true) <|
          zgd (zoL (zT 9 a1) ((2 : Int32) + a2) = true) <|
          some (s.2 (zT 9 a1) ((2 : Int32) + a2).toNatClampNeg)
        ) else (
          D_X0_factorOf_J24 s
        )
      )
    )
  )
set_option maxRecDepth 100000 in
theorem ok_X0_factorOf {l : Launch} {D : va_G} {ad : Nat → Nat} {cA : Nat → ClassId} (hj : zInj ad) (s : zS) (a1 : Int32) (a2 : Int32) {r : Int64} (h : D_X0_factorOf s a1 a2 = some r) : zMet l D ad cA jX0_factorOf [.ref 8, .int a1, .int a2] s (some (.long r)) s := by
  refine zMet_of jX0_factorOf [some (.ref 8), some (.int a1), some (.int a2)] (by decide +kernel) (Nat.le_of_ble_eq_true rfl) rfl hj ?_
  unfold D_X0_factorOf at h
  refine zk_iload_n dX0_factorOf_0 rfl rfl ?_
  refine zk_if_lt (tgt := 24) dX0_factorOf_1 rfl (fun g1 => ?_) (fun g1 => ?_)
  · replace h := zpos g1 h
    refine zk_mask [false, false, false] ?_
    exact ok_X0_factorOf_J24 hj r _ h
  · replace h := zneg g1 h
    refine zk_iload_n dX0_factorOf_4 rfl rfl ?_
    refine zk_aload_n dX0_factorOf_5 rfl rfl ?_
    refine zf_X0_23 rfl dX0_factorOf_6 ?_
    refine zk_icmp_ge (tgt := 24) dX0_factorOf_9 rfl (fun g9 => ?_) (fun g9 => ?_)
    · replace h := zpos g9 h
      refine zk_mask [false, false, false] ?_
      exact ok_X0_factorOf_J24 hj r _ h
    · replace h := zneg g9 h
      refine zk_iload_n dX0_factorOf_12 rfl rfl ?_
      refine zk_if_lt (tgt := 24) dX0_factorOf_13 rfl (fun g13 => ?_) (fun g13 => ?_)
      · replace h := zpos g13 h
        refine zk_mask [false, false, false] ?_
        exact ok_X0_factorOf_J24 hj r _ h
      · replace h := zneg g13 h
        refine zk_iload_n dX0_factorOf_16 rfl rfl ?_
        refine zk_aload_n dX0_factorOf_17 rfl rfl ?_
        refine zf_X0_27 rfl dX0_factorOf_18 ?_
        refine zk_icmp_lt (tgt := 26) dX0_factorOf_21 rfl (fun g21 => ?_) (fun g21 => ?_)
        · replace h := zpos g21 h
          refine zk_aload_n dX0_factorOf_26 rfl rfl ?_
          refine zf_X0_13 rfl dX0_factorOf_27 ?_
          refine zk_iload_n dX0_factorOf_30 rfl rfl ?_
          obtain ⟨g31, h⟩ := zguard h
          refine zk_aald (zoR_of ⟨rfl, rfl, by decide, by decide⟩ g31) dX0_factorOf_31 ?_
          refine zk_iconst (v := 2) dX0_factorOf_32 (by decide) ?_
          refine zk_iload_n dX0_factorOf_33 rfl rfl ?_
          refine zk_iadd dX0_factorOf_34 ?_
          obtain ⟨g35, h⟩ := zguard h
          refine zk_lald g35 dX0_factorOf_35 ?_
          have e9 := Option.some.inj h
          subst e9
          exact zk_lret rfl ⟨rfl, rfl⟩ dX0_factorOf_36
        · replace h := zneg g21 h
          refine zk_mask [false, false, false] ?_
          exact ok_X0_factorOf_J24 hj r _ h
def D_X0_addDrawingIn_B43 (rec12 : Int32 → zS → Option (Int32 × zS)) (s : zS) (a1 : Int32) (rec43 : Int64 → Int32 → Option (Int32 × zS)) (a2 : Int64) (a4 : Int32) : Option (Int32 × zS) :=
    if (s.1 8 4) ≤ a4 then (
      zgd (zin a1 20 = true) <|
      zgd (zoL (zT 9 a1) ((2 : Int32) + (s.1 8 4)) = true) <|
      let s81 : zS := zwL s (zT 9 a1) ((2 : Int32) + (s.1 8 4)).toNatClampNeg a2
      rec12 (a1 + 1) s81
    ) else (
      (D_X0_factorOf s a1 a4).bind fun p57 =>
      rec43 (a2 + p57) (a4 + 1)
    )
def D_X0_addDrawingIn_L43 (rec12 : Int32 → zS → Option (Int32 × zS)) (s : zS) (a1 : Int32) (n : Nat) (a2 : Int64) (a4 : Int32) : Option (Int32 × zS) := zfx (fun (rec : Int64 × Int32 → Option (Int32 × zS)) q => D_X0_addDrawingIn_B43 rec12 s a1 (fun v0 v1 => rec (v0, v1)) q.1 q.2) n (a2, a4)
set_option maxRecDepth 100000 in
theorem D_X0_addDrawingIn_L43_s (rec12 : Int32 → zS → Option (Int32 × zS)) (s : zS) (a1 : Int32) (n : Nat) (a2 : Int64) (a4 : Int32) : D_X0_addDrawingIn_L43 rec12 s a1 (n + 1) a2 a4 = D_X0_addDrawingIn_B43 rec12 s a1 (D_X0_addDrawingIn_L43 rec12 s a1 n) a2 a4 := rfl
set_option maxRecDepth 100000 in
theorem ok_X0_addDrawingIn_L43 {l : Launch} {D : va_G} {ad : Nat → Nat} {cA : Nat → ClassId} (hj : zInj ad) (r : (Int32 × zS)) (s : zS) (a1 : Int32) (rec12 : Int32 → zS → Option (Int32 × zS)) (hr12 : ∀ (b1 : Int32) (s : zS), rec12 b1 s = some r → zOk l D ad cA (zJm jX0_addDrawingIn) (zEnd D ad cA (some (.int r.1)) r.2) 12 [some (.ref 8), some (.int b1), none, none, none] [] s) : ∀ (n : Nat) (a2 : Int64) (a4 : Int32), D_X0_addDrawingIn_L43 rec12 s a1 n a2 a4 = some r → zOk l D ad cA (zJm jX0_addDrawingIn) (zEnd D ad cA (some (.int r.1)) r.2) 43 [some (.ref 8), some (.int a1), some (.long a2), none, some (.int a4)] [] s := by
  intro n
  induction n with
  | zero =>
    intro a2 a4 h
    have h0 : (none : Option (Int32 × zS)) = some r := h
    cases h0
  | succ n hr43 =>
    intro a2 a4 h
    have h : D_X0_addDrawingIn_B43 rec12 s a1 (D_X0_addDrawingIn_L43 rec12 s a1 n) a2 a4 = some r := h
    unfold D_X0_addDrawingIn_B43 at h
    refine zk_iload dX0_addDrawingIn_43 rfl ?_
    refine zk_aload_n dX0_addDrawingIn_45 rfl rfl ?_
    refine zf_X0_27 rfl dX0_addDrawingIn_46 ?_
    refine zk_icmp_ge (tgt := 68) dX0_addDrawingIn_49 rfl (fun g49 => ?_) (fun g49 => ?_)
    · replace h := zpos g49 h
      refine zk_aload_n dX0_addDrawingIn_68 rfl rfl ?_
      refine zf_X0_13 rfl dX0_addDrawingIn_69 ?_
      refine zk_iload_n dX0_addDrawingIn_72 rfl rfl ?_
      obtain ⟨g73, h⟩ := zguard h
      refine zk_aald (zoR_of ⟨rfl, rfl, by decide, by decide⟩ g73) dX0_addDrawingIn_73 ?_
      refine zk_iconst (v := 2) dX0_addDrawingIn_74 (by decide) ?_
      refine zk_aload_n dX0_addDrawingIn_75 rfl rfl ?_
      refine zf_X0_27 rfl dX0_addDrawingIn_76 ?_
      refine zk_iadd dX0_addDrawingIn_79 ?_
      refine zk_lload_n dX0_addDrawingIn_80 rfl rfl ?_
      obtain ⟨g81, h⟩ := zguard h
      refine zk_last g81 dX0_addDrawingIn_81 ?_
      refine zk_iinc dX0_addDrawingIn_82 rfl (zinc (m := 1) (by decide)) (by decide) (zk_eq [_, _, _, _, _] rfl ?_)
      refine zk_goto (tgt := 12) dX0_addDrawingIn_85 rfl ?_
      refine zk_mask [true, true, false, false, false] ?_
      exact hr12 _ _ h
    · replace h := zneg g49 h
      refine zk_lload_n dX0_addDrawingIn_52 rfl rfl ?_
      refine zk_aload_n dX0_addDrawingIn_53 rfl rfl ?_
      refine zk_iload_n dX0_addDrawingIn_54 rfl rfl ?_
      refine zk_iload dX0_addDrawingIn_55 rfl ?_
      obtain ⟨p57, h57, h⟩ := zbind h
      refine zc_X0_51 [.long _] (As := [.int _, .int _]) (ok_X0_factorOf hj _ _ _ h57) rfl ⟨Nat.le_of_ble_eq_true rfl, Nat.le_of_ble_eq_true rfl⟩ ⟨Nat.le_refl _, Nat.le_refl _⟩ rfl rfl (Nat.le_of_ble_eq_true rfl) dX0_addDrawingIn_57 ?_
      refine zk_ladd dX0_addDrawingIn_60 ?_
      refine zk_lstore_n (i := 2) dX0_addDrawingIn_61 rfl (by decide) (zk_eq [_, _, _, _, _] rfl ?_)
      refine zk_iinc dX0_addDrawingIn_62 rfl (zinc (m := 1) (by decide)) (by decide) (zk_eq [_, _, _, _, _] rfl ?_)
      refine zk_goto (tgt := 43) dX0_addDrawingIn_65 rfl ?_
      exact hr43 _ _ h
def D_X0_addDrawingIn_J39 (rec12 : Int32 → zS → Option (Int32 × zS)) (s : zS) (a1 : Int32) (k0 : Int64) : Option (Int32 × zS) :=
  D_X0_addDrawingIn_L43 rec12 s a1 zFU k0 (0 : Int32)
set_option maxRecDepth 100000 in
theorem ok_X0_addDrawingIn_J39 {l : Launch} {D : va_G} {ad : Nat → Nat} {cA : Nat → ClassId} (hj : zInj ad) (r : (Int32 × zS)) (s : zS) (a1 : Int32) (k0 : Int64) (rec12 : Int32 → zS → Option (Int32 × zS)) (hr12 : ∀ (b1 : Int32) (s : zS), rec12 b1 s = some r → zOk l D ad cA (zJm jX0_addDrawingIn) (zEnd D ad cA (some (.int r.1)) r.2) 12 [some (.ref 8), some (.int b1), none, none, none] [] s) (h : D_X0_addDrawingIn_J39 rec12 s a1 k0 = some r) : zOk l D ad cA (zJm jX0_addDrawingIn) (zEnd D ad cA (some (.int r.1)) r.2) 39 [some (.ref 8), some (.int a1), none, none, none] [.long k0] s := by
  unfold D_X0_addDrawingIn_J39 at h
  refine zk_lstore_n (i := 2) dX0_addDrawingIn_39 rfl (by decide) (zk_eq [_, _, _, _, _] rfl ?_)
  refine zk_iconst (v := 0) dX0_addDrawingIn_40 (by decide) ?_
  refine zk_istore (i := 4) dX0_addDrawingIn_41 (by decide) (zk_eq [_, _, _, _, _] rfl ?_)
  exact ok_X0_addDrawingIn_L43 hj r _ _ _ hr12 _ _ _ h
def D_X0_addDrawingIn_B12  (rec12 : Int32 → zS → Option (Int32 × zS)) (a1 : Int32) (s : zS) : Option (Int32 × zS) :=
    if (s.1 8 3) ≤ a1 then (
      zgd (zin (s.1 8 4) 4 = true) <|
      let s97 : zS := zwI s 31 (s.1 8 4).toNatClampNeg (0 : Int32)
      let s105 : zS := zwI s97 8 4 ((s97.1 8 4) + (1 : Int32))
      some (((s105.1 8 4) - (1 : Int32)), s105)
    ) else (
      zgd (zin a1 20 = true) <|
      if (s.1 30 a1.toNatClampNeg) ≤ 0 then (
        D_X0_addDrawingIn_J39 rec12 s a1 (0 : Int64)
      ) else (
        (D_X0_belowOf s a1).bind fun p31 =>
        D_X0_addDrawingIn_J39 rec12 s a1 (-p31)
      )
    )
def D_X0_addDrawingIn_L12 (n : Nat) (a1 : Int32) (s : zS) : Option (Int32 × zS) := zfx (fun (rec : Int32 × zS → Option (Int32 × zS)) q => D_X0_addDrawingIn_B12 (fun v0 v1 => rec (v0, v1)) q.1 q.2) n (a1, s)
set_option maxRecDepth 100000 in
theorem D_X0_addDrawingIn_L12_s (n : Nat) (a1 : Int32) (s : zS) : D_X0_addDrawingIn_L12 (n + 1) a1 s = D_X0_addDrawingIn_B12 (D_X0_addDrawingIn_L12 n) a1 s := rfl
set_option maxRecDepth 100000 in
theorem ok_X0_addDrawingIn_L12 {l : Launch} {D : va_G} {ad : Nat → Nat} {cA : Nat → ClassId} (hj : zInj ad) (r : (Int32 × zS))  : ∀ (n : Nat) (a1 : Int32) (s : zS), D_X0_addDrawingIn_L12 n a1 s = some r → zOk l D ad cA (zJm jX0_addDrawingIn) (zEnd D ad cA (some (.int r.1)) r.2) 12 [some (.ref 8), some (.int a1), none, none, none] [] s := by
  intro n
  induction n with
  | zero =>
    intro a1 s h
    have h0 : (none : Option (Int32 × zS)) = some r := h
    cases h0
  | succ n hr12 =>
    intro a1 s h
    have h : D_X0_addDrawingIn_B12 (D_X0_addDrawingIn_L12 n) a1 s = some r := h
    unfold D_X0_addDrawingIn_B12 at h
    refine zk_iload_n dX0_addDrawingIn_12 rfl rfl ?_
    refine zk_aload_n dX0_addDrawingIn_13 rfl rfl ?_
    refine zf_X0_23 rfl dX0_addDrawingIn_14 ?_
    refine zk_icmp_ge (tgt := 88) dX0_addDrawingIn_17 rfl (fun g17 => ?_) (fun g17 => ?_)
    · replace h := zpos g17 h
      refine zk_aload_n dX0_addDrawingIn_88 rfl rfl ?_
      refine zf_X0_20 rfl dX0_addDrawingIn_89 ?_
      refine zk_aload_n dX0_addDrawingIn_92 rfl rfl ?_
      refine zf_X0_27 rfl dX0_addDrawingIn_93 ?_
      refine zk_iconst (v := 0) dX0_addDrawingIn_96 (by decide) ?_
      obtain ⟨g97, h⟩ := zguard h
      refine zk_iast (zoI_of rfl g97) dX0_addDrawingIn_97 ?_
      refine zk_aload_n dX0_addDrawingIn_98 rfl rfl ?_
      refine zk_dup dX0_addDrawingIn_99 rfl ?_
      refine zf_X0_27 rfl dX0_addDrawingIn_100 ?_
      refine zk_iconst (v := 1) dX0_addDrawingIn_103 (by decide) ?_
      refine zk_iadd dX0_addDrawingIn_104 ?_
      refine zp_X0_27 rfl dX0_addDrawingIn_105 ?_
      refine zk_aload_n dX0_addDrawingIn_108 rfl rfl ?_
      refine zf_X0_27 rfl dX0_addDrawingIn_109 ?_
      refine zk_iconst (v := 1) dX0_addDrawingIn_112 (by decide) ?_
      refine zk_isub dX0_addDrawingIn_113 ?_
      have e9 := Option.some.inj h
      subst e9
      exact zk_iret rfl ⟨rfl, rfl⟩ dX0_addDrawingIn_114
    · replace h := zneg g17 h
      refine zk_aload_n dX0_addDrawingIn_20 rfl rfl ?_
      refine zf_X0_16 rfl dX0_addDrawingIn_21 ?_
      refine zk_iload_n dX0_addDrawingIn_24 rfl rfl ?_
      obtain ⟨g25, h⟩ := zguard h
      refine zk_iald (zoI_of rfl g25) dX0_addDrawingIn_25 ?_
      refine zk_if_le (tgt := 38) dX0_addDrawingIn_26 rfl (fun g26 => ?_) (fun g26 => ?_)
      · replace h := zpos g26 h
        refine zk_lconst (v := 0) dX0_addDrawingIn_38 (by decide) ?_
        exact ok_X0_addDrawingIn_J39 hj r _ _ _ _ hr12 h
      · replace h := zneg g26 h
        refine zk_aload_n dX0_addDrawingIn_29 rfl rfl ?_
        refine zk_iload_n dX0_addDrawingIn_30 rfl rfl ?_
        obtain ⟨p31, h31, h⟩ := zbind h
        refine zc_X0_83 [] (As := [.int _]) (ok_X0_belowOf hj _ _ h31) rfl ⟨Nat.le_of_ble_eq_true rfl, Nat.le_of_ble_eq_true rfl⟩ ⟨Nat.le_refl _, Nat.le_refl _⟩ rfl rfl (Nat.le_of_ble_eq_true rfl) dX0_addDrawingIn_31 ?_
        refine zk_lneg dX0_addDrawingIn_34 ?_
        refine zk_goto (tgt := 39) dX0_addDrawingIn_35 rfl ?_
        exact ok_X0_addDrawingIn_J39 hj r _ _ _ _ hr12 h
def D_X0_addDrawingIn (s : zS) : Option (Int32 × zS) :=
  if (s.1 8 4) < (4 : Int32) then (
    D_X0_addDrawingIn_L12 zFU (0 : Int32) s
  ) else (
    some ((-1 : Int32), s)
  )
set_option maxRecDepth 100000 in
theorem ok_X0_addDrawingIn {l : Launch} {D : va_G} {ad : Nat → Nat} {cA : Nat → ClassId} (hj : zInj ad) (s : zS)  {r : (Int32 × zS)} (h : D_X0_addDrawingIn s = some r) : zMet l D ad cA jX0_addDrawingIn [.ref 8] s (some (.int r.1)) r.2 := by
  refine zMet_of jX0_addDrawingIn [some (.ref 8), none, none, none, none] (by decide +kernel) (Nat.le_of_ble_eq_true rfl) rfl hj ?_
  unfold D_X0_addDrawingIn at h
  refine zk_aload_n dX0_addDrawingIn_0 rfl rfl ?_
  refine zf_X0_27 rfl dX0_addDrawingIn_1 ?_
  refine zk_iconst (v := 4) dX0_addDrawingIn_4 (by decide) ?_
  refine zk_icmp_lt (tgt := 10) dX0_addDrawingIn_5 rfl (fun g5 => ?_) (fun g5 => ?_)
  · replace h := zpos g5 h
    refine zk_iconst (v := 0) dX0_addDrawingIn_10 (by decide) ?_
    refine zk_istore_n (i := 1) dX0_addDrawingIn_11 rfl (by decide) (zk_eq [_, _, _, _, _] rfl ?_)
    exact ok_X0_addDrawingIn_L12 hj r  _ _ _ h
  · replace h := zneg g5 h
    refine zk_iconst (v := -1) dX0_addDrawingIn_8 (by decide) ?_
    have e9 := Option.some.inj h
    subst e9
    exact zk_iret rfl ⟨rfl, rfl⟩ dX0_addDrawingIn_9
def D_X0_addRow_B25 (a1 : Int32) (a2 : Int64) (a4 : Nat) (rec25 : Int32 → zS → Option (Int32 × zS)) (a5 : Int32) (s : zS) : Option (Int32 × zS) :=
    zgd (1 ≤ (zshp a4).1 ∧ (zshp a4).1 ≤ 5) <|
    if (Int32.ofNat (zlen a4)) ≤ a5 then (
      zgd (zoL a4 (0 : Int32) = true) <|
      let s49 : zS := zwL s a4 (0 : Int32).toNatClampNeg (1 : Int64)
      zgd (zoL a4 (1 : Int32) = true) <|
      let s54 : zS := zwL s49 a4 (1 : Int32).toNatClampNeg a2
      zgd (zin (s54.1 8 3) 20 = true) <|
      let s64 : zS := zwI s54 30 (s54.1 8 3).toNatClampNeg a1
      let s72 : zS := zwI s64 8 3 ((s64.1 8 3) + (1 : Int32))
      some (((s72.1 8 3) - (1 : Int32)), s72)
    ) else (
      zgd (zoL a4 a5 = true) <|
      let s38 : zS := zwL s a4 a5.toNatClampNeg (0 : Int64)
      rec25 (a5 + 1) s38
    )
def D_X0_addRow_L25 (a1 : Int32) (a2 : Int64) (a4 : Nat) (n : Nat) (a5 : Int32) (s : zS) : Option (Int32 × zS) := zfx (fun (rec : Int32 × zS → Option (Int32 × zS)) q => D_X0_addRow_B25 a1 a2 a4 (fun v0 v1 => rec (v0, v1)) q.1 q.2) n (a5, s)
set_option maxRecDepth 100000 in
theorem D_X0_addRow_L25_s (a1 : Int32) (a2 : Int64) (a4 : Nat) (n : Nat) (a5 : Int32) (s : zS) : D_X0_addRow_L25 a1 a2 a4 (n + 1) a5 s = D_X0_addRow_B25 a1 a2 a4 (D_X0_addRow_L25 a1 a2 a4 n) a5 s := rfl
set_option maxRecDepth 100000 in
theorem ok_X0_addRow_L25 {l : Launch} {D : va_G} {ad : Nat → Nat} {cA : Nat → ClassId} (hj : zInj ad) (r : (Int32 × zS)) (a1 : Int32) (a2 : Int64) (a4 : Nat) : ∀ (n : Nat) (a5 : Int32) (s : zS), D_X0_addRow_L25 a1 a2 a4 n a5 s = some r → zOk l D ad cA (zJm jX0_addRow) (zEnd D ad cA (some (.int r.1)) r.2) 25 [some (.ref 8), some (.int a1), some (.long a2), none, some (.ref a4), some (.int a5)] [] s := by
  intro n
  induction n with
  | zero =>
    intro a5 s h
    have h0 : (none : Option (Int32 × zS)) = some r := h
    cases h0
  | succ n hr25 =>
    intro a5 s h
    have h : D_X0_addRow_B25 a1 a2 a4 (D_X0_addRow_L25 a1 a2 a4 n) a5 s = some r := h
    unfold D_X0_addRow_B25 at h
    refine zk_iload dX0_addRow_25 rfl ?_
    refine zk_aload dX0_addRow_27 rfl ?_
    obtain ⟨g29, h⟩ := zguard h
    refine zk_alen g29 rfl dX0_addRow_29 ?_
    refine zk_icmp_ge (tgt := 45) dX0_addRow_30 rfl (fun g30 => ?_) (fun g30 => ?_)
    · replace h := zpos g30 h
      refine zk_aload dX0_addRow_45 rfl ?_
      refine zk_iconst (v := 0) dX0_addRow_47 (by decide) ?_
      refine zk_lconst (v := 1) dX0_addRow_48 (by decide) ?_
      obtain ⟨g49, h⟩ := zguard h
      refine zk_last g49 dX0_addRow_49 ?_
      refine zk_aload dX0_addRow_50 rfl ?_
      refine zk_iconst (v := 1) dX0_addRow_52 (by decide) ?_
      refine zk_lload_n dX0_addRow_53 rfl rfl ?_
      obtain ⟨g54, h⟩ := zguard h
      refine zk_last g54 dX0_addRow_54 ?_
      refine zk_aload_n dX0_addRow_55 rfl rfl ?_
      refine zf_X0_16 rfl dX0_addRow_56 ?_
      refine zk_aload_n dX0_addRow_59 rfl rfl ?_
      refine zf_X0_23 rfl dX0_addRow_60 ?_
      refine zk_iload_n dX0_addRow_63 rfl rfl ?_
      obtain ⟨g64, h⟩ := zguard h
      refine zk_iast (zoI_of rfl g64) dX0_addRow_64 ?_
      refine zk_aload_n dX0_addRow_65 rfl rfl ?_
      refine zk_dup dX0_addRow_66 rfl ?_
      refine zf_X0_23 rfl dX0_addRow_67 ?_
      refine zk_iconst (v := 1) dX0_addRow_70 (by decide) ?_
      refine zk_iadd dX0_addRow_71 ?_
      refine zp_X0_23 rfl dX0_addRow_72 ?_
      refine zk_aload_n dX0_addRow_75 rfl rfl ?_
      refine zf_X0_23 rfl dX0_addRow_76 ?_
      refine zk_iconst (v := 1) dX0_addRow_79 (by decide) ?_
      refine zk_isub dX0_addRow_80 ?_
      have e9 := Option.some.inj h
      subst e9
      exact zk_iret rfl ⟨rfl, rfl⟩ dX0_addRow_81
    · replace h := zneg g30 h
      refine zk_aload dX0_addRow_33 rfl ?_
      refine zk_iload dX0_addRow_35 rfl ?_
      refine zk_lconst (v := 0) dX0_addRow_37 (by decide) ?_
      obtain ⟨g38, h⟩ := zguard h
      refine zk_last g38 dX0_addRow_38 ?_
      refine zk_iinc dX0_addRow_39 rfl (zinc (m := 1) (by decide)) (by decide) (zk_eq [_, _, _, _, _, _] rfl ?_)
      refine zk_goto (tgt := 25) dX0_addRow_42 rfl ?_
      exact hr25 _ _ h
def D_X0_addRow (s : zS) (a1 : Int32) (a2 : Int64) : Option (Int32 × zS) :=
  if (s.1 8 3) < (20 : Int32) then (
    zgd (zin (s.1 8 3) 20 = true) <|
    D_X0_addRow_L25 a1 a2 (zT 9 (s.1 8 3)) zFU (0 : Int32) s
  ) else (
    some ((-1 : Int32), s)
  )
set_option maxRecDepth 100000 in
theorem ok_X0_addRow {l : Launch} {D : va_G} {ad : Nat → Nat} {cA : Nat → ClassId} (hj : zInj ad) (s : zS) (a1 : Int32) (a2 : Int64) {r : (Int32 × zS)} (h : D_X0_addRow s a1 a2 = some r) : zMet l D ad cA jX0_addRow [.ref 8, .int a1, .long a2] s (some (.int r.1)) r.2 := by
  refine zMet_of jX0_addRow [some (.ref 8), some (.int a1), some (.long a2), none, none, none] (by decide +kernel) (Nat.le_of_ble_eq_true rfl) rfl hj ?_
  unfold D_X0_addRow at h
  refine zk_aload_n dX0_addRow_0 rfl rfl ?_
  refine zf_X0_23 rfl dX0_addRow_1 ?_
  refine zk_bipush (v := 20) dX0_addRow_4 (by decide) ?_
  refine zk_icmp_lt (tgt := 11) dX0_addRow_6 rfl (fun g6 => ?_) (fun g6 => ?_)
  · replace h := zpos g6 h
    refine zk_aload_n dX0_addRow_11 rfl rfl ?_
    refine zf_X0_13 rfl dX0_addRow_12 ?_
    refine zk_aload_n dX0_addRow_15 rfl rfl ?_
    refine zf_X0_23 rfl dX0_addRow_16 ?_
    obtain ⟨g19, h⟩ := zguard h
    refine zk_aald (zoR_of ⟨rfl, rfl, by decide, by decide⟩ g19) dX0_addRow_19 ?_
    refine zk_astore (i := 4) dX0_addRow_20 (by decide) (zk_eq [_, _, _, _, _, _] rfl ?_)
    refine zk_iconst (v := 0) dX0_addRow_22 (by decide) ?_
    refine zk_istore (i := 5) dX0_addRow_23 (by decide) (zk_eq [_, _, _, _, _, _] rfl ?_)
    exact ok_X0_addRow_L25 hj r _ _ _ _ _ _ h
  · replace h := zneg g6 h
    refine zk_iconst (v := -1) dX0_addRow_9 (by decide) ?_
    have e9 := Option.some.inj h
    subst e9
    exact zk_iret rfl ⟨rfl, rfl⟩ dX0_addRow_10
def D_X0_constantOf_J23 (s : zS) : Option Int64 :=
  some (0 : Int64)
set_option maxRecDepth 100000 in
theorem ok_X0_constantOf_J23 {l : Launch} {D : va_G} {ad : Nat → Nat} {cA : Nat → ClassId} (hj : zInj ad) (r : Int64) (s : zS) (h : D_X0_constantOf_J23 s = some r) : zOk l D ad cA (zJm jX0_constantOf) (zEnd D ad cA (some (.long r)) s) 23 [none, none] [] s := by
  unfold D_X0_constantOf_J23 at h
  refine zk_lconst (v := 0) dX0_constantOf_23 (by decide) ?_
  have e9 := Option.some.inj h
  subst e9
  exact zk_lret rfl ⟨rfl, rfl⟩ dX0_constantOf_24
def D_X0_constantOf (s : zS) (a1 : Int32) : Option Int64 :=
  if a1 < 0 then (
    D_X0_constantOf_J23 s
  ) else (
    if (s.1 8 3) ≤ a1 then (
      D_X0_constantOf_J23 s
    ) else (
      zgd (zin a1 20 = true) <|
      zgd (zoL (zT 9 a1) (1 : Int32) = true) <|
      some (s.2 (zT 9 a1) (1 : Int32).toNatClampNeg)
    )
  )
set_option maxRecDepth 100000 in
theorem ok_X0_constantOf {l : Launch} {D : va_G} {ad : Nat → Nat} {cA : Nat → ClassId} (hj : zInj ad) (s : zS) (a1 : Int32) {r : Int64} (h : D_X0_constantOf s a1 = some r) : zMet l D ad cA jX0_constantOf [.ref 8, .int a1] s (some (.long r)) s := by
  refine zMet_of jX0_constantOf [some (.ref 8), some (.int a1)] (by decide +kernel) (Nat.le_of_ble_eq_true rfl) rfl hj ?_
  unfold D_X0_constantOf at h
  refine zk_iload_n dX0_constantOf_0 rfl rfl ?_
  refine zk_if_lt (tgt := 23) dX0_constantOf_1 rfl (fun g1 => ?_) (fun g1 => ?_)
  · replace h := zpos g1 h
    refine zk_mask [false, false] ?_
    exact ok_X0_constantOf_J23 hj r _ h
  · replace h := zneg g1 h
    refine zk_iload_n dX0_constantOf_4 rfl rfl ?_
    refine zk_aload_n dX0_constantOf_5 rfl rfl ?_
    refine zf_X0_23 rfl dX0_constantOf_6 ?_
    refine zk_icmp_ge (tgt := 23) dX0_constantOf_9 rfl (fun g9 => ?_) (fun g9 => ?_)
    · replace h := zpos g9 h
      refine zk_mask [false, false] ?_
      exact ok_X0_constantOf_J23 hj r _ h
    · replace h := zneg g9 h
      refine zk_aload_n dX0_constantOf_12 rfl rfl ?_
      refine zf_X0_13 rfl dX0_constantOf_13 ?_
      refine zk_iload_n dX0_constantOf_16 rfl rfl ?_
      obtain ⟨g17, h⟩ := zguard h
      refine zk_aald (zoR_of ⟨rfl, rfl, by decide, by decide⟩ g17) dX0_constantOf_17 ?_
      refine zk_iconst (v := 1) dX0_constantOf_18 (by decide) ?_
      obtain ⟨g19, h⟩ := zguard h
      refine zk_lald g19 dX0_constantOf_19 ?_
      refine zk_goto (tgt := 24) dX0_constantOf_20 rfl ?_
      have e9 := Option.some.inj h
      subst e9
      exact zk_lret rfl ⟨rfl, rfl⟩ dX0_constantOf_24
def D_X0_firstDriving_J50 (rec5 : Int32 → Int32 → Option Int32) (s : zS) (a1 : Int32) (a2 : Int32) (a4 : Int32) : Option Int32 :=
  rec5 a4 (a4 + 1)
set_option maxRecDepth 100000 in
theorem ok_X0_firstDriving_J50 {l : Launch} {D : va_G} {ad : Nat → Nat} {cA : Nat → ClassId} (hj : zInj ad) (r : Int32) (s : zS) (a1 : Int32) (a2 : Int32) (a4 : Int32) (rec5 : Int32 → Int32 → Option Int32) (hr5 : ∀ (b3 : Int32) (b4 : Int32), rec5 b3 b4 = some r → zOk l D ad cA (zJm jX0_firstDriving) (zEnd D ad cA (some (.int r)) s) 5 [some (.ref 8), some (.int a1), some (.int a2), some (.int b3), some (.int b4)] [] s) (h : D_X0_firstDriving_J50 rec5 s a1 a2 a4 = some r) : zOk l D ad cA (zJm jX0_firstDriving) (zEnd D ad cA (some (.int r)) s) 50 [some (.ref 8), some (.int a1), some (.int a2), none, some (.int a4)] [] s := by
  unfold D_X0_firstDriving_J50 at h
  refine zk_iload dX0_firstDriving_50 rfl ?_
  refine zk_istore_n (i := 3) dX0_firstDriving_52 rfl (by decide) (zk_eq [_, _, _, _, _] rfl ?_)
  refine zk_iinc dX0_firstDriving_53 rfl (zinc (m := 1) (by decide)) (by decide) (zk_eq [_, _, _, _, _] rfl ?_)
  refine zk_goto (tgt := 5) dX0_firstDriving_56 rfl ?_
  exact hr5 _ _ h
def D_X0_firstDriving_B5 (s : zS) (a1 : Int32) (a2 : Int32) (rec5 : Int32 → Int32 → Option Int32) (a3 : Int32) (a4 : Int32) : Option Int32 :=
    if (s.1 8 4) ≤ a4 then (
      some a3
    ) else (
      (D_X0_factorOf s a1 a4).bind fun p20 =>
      if (lg_cmp (a2.toInt64 * p20) (0 : Int64)) ≤ 0 then (
        rec5 a3 (a4 + 1)
      ) else (
        if a3 = (-1 : Int32) then (
          D_X0_firstDriving_J50 rec5 s a1 a2 a4
        ) else (
          zgd (zin a4 4 = true) <|
          zgd (zin a3 4 = true) <|
          if (s.1 31 a3.toNatClampNeg) ≤ (s.1 31 a4.toNatClampNeg) then (
            rec5 a3 (a4 + 1)
          ) else (
            D_X0_firstDriving_J50 rec5 s a1 a2 a4
          )
        )
      )
    )
def D_X0_firstDriving_L5 (s : zS) (a1 : Int32) (a2 : Int32) (n : Nat) (a3 : Int32) (a4 : Int32) : Option Int32 := zfx (fun (rec : Int32 × Int32 → Option Int32) q => D_X0_firstDriving_B5 s a1 a2 (fun v0 v1 => rec (v0, v1)) q.1 q.2) n (a3, a4)
set_option maxRecDepth 100000 in
theorem D_X0_firstDriving_L5_s (s : zS) (a1 : Int32) (a2 : Int32) (n : Nat) (a3 : Int32) (a4 : Int32) : D_X0_firstDriving_L5 s a1 a2 (n + 1) a3 a4 = D_X0_firstDriving_B5 s a1 a2 (D_X0_firstDriving_L5 s a1 a2 n) a3 a4 := rfl
set_option maxRecDepth 100000 in
theorem ok_X0_firstDriving_L5 {l : Launch} {D : va_G} {ad : Nat → Nat} {cA : Nat → ClassId} (hj : zInj ad) (r : Int32) (s : zS) (a1 : Int32) (a2 : Int32) : ∀ (n : Nat) (a3 : Int32) (a4 : Int32), D_X0_firstDriving_L5 s a1 a2 n a3 a4 = some r → zOk l D ad cA (zJm jX0_firstDriving) (zEnd D ad cA (some (.int r)) s) 5 [some (.ref 8), some (.int a1), some (.int a2), some (.int a3), some (.int a4)] [] s := by
  intro n
  induction n with
  | zero =>
    intro a3 a4 h
    have h0 : (none : Option Int32) = some r := h
    cases h0
  | succ n hr5 =>
    intro a3 a4 h
    have h : D_X0_firstDriving_B5 s a1 a2 (D_X0_firstDriving_L5 s a1 a2 n) a3 a4 = some r := h
    unfold D_X0_firstDriving_B5 at h
    refine zk_iload dX0_firstDriving_5 rfl ?_
    refine zk_aload_n dX0_firstDriving_7 rfl rfl ?_
    refine zf_X0_27 rfl dX0_firstDriving_8 ?_
    refine zk_icmp_ge (tgt := 59) dX0_firstDriving_11 rfl (fun g11 => ?_) (fun g11 => ?_)
    · replace h := zpos g11 h
      refine zk_iload_n dX0_firstDriving_59 rfl rfl ?_
      have e9 := Option.some.inj h
      subst e9
      exact zk_iret rfl ⟨rfl, rfl⟩ dX0_firstDriving_60
    · replace h := zneg g11 h
      refine zk_iload_n dX0_firstDriving_14 rfl rfl ?_
      refine zk_i2l dX0_firstDriving_15 ?_
      refine zk_aload_n dX0_firstDriving_16 rfl rfl ?_
      refine zk_iload_n dX0_firstDriving_17 rfl rfl ?_
      refine zk_iload dX0_firstDriving_18 rfl ?_
      obtain ⟨p20, h20, h⟩ := zbind h
      refine zc_X0_51 [.long _] (As := [.int _, .int _]) (ok_X0_factorOf hj _ _ _ h20) rfl ⟨Nat.le_of_ble_eq_true rfl, Nat.le_of_ble_eq_true rfl⟩ ⟨Nat.le_refl _, Nat.le_refl _⟩ rfl rfl (Nat.le_of_ble_eq_true rfl) dX0_firstDriving_20 ?_
      refine zk_lmul dX0_firstDriving_23 ?_
      refine zk_lconst (v := 0) dX0_firstDriving_24 (by decide) ?_
      refine zk_lcmp dX0_firstDriving_25 ?_
      refine zk_if_le (tgt := 53) dX0_firstDriving_26 rfl (fun g26 => ?_) (fun g26 => ?_)
      · replace h := zpos g26 h
        refine zk_iinc dX0_firstDriving_53 rfl (zinc (m := 1) (by decide)) (by decide) (zk_eq [_, _, _, _, _] rfl ?_)
        refine zk_goto (tgt := 5) dX0_firstDriving_56 rfl ?_
        exact hr5 _ _ h
      · replace h := zneg g26 h
        refine zk_iload_n dX0_firstDriving_29 rfl rfl ?_
        refine zk_iconst (v := -1) dX0_firstDriving_30 (by decide) ?_
        refine zk_icmp_eq (tgt := 50) dX0_firstDriving_31 rfl (fun g31 => ?_) (fun g31 => ?_)
        · replace h := zpos g31 h
          refine zk_mask [true, true, true, false, true] ?_
          exact ok_X0_firstDriving_J50 hj r _ _ _ _ _ hr5 h
        · replace h := zneg g31 h
          refine zk_aload_n dX0_firstDriving_34 rfl rfl ?_
          refine zf_X0_20 rfl dX0_firstDriving_35 ?_
          refine zk_iload dX0_firstDriving_38 rfl ?_
          obtain ⟨g40, h⟩ := zguard h
          refine zk_iald (zoI_of rfl g40) dX0_firstDriving_40 ?_
          refine zk_aload_n dX0_firstDriving_41 rfl rfl ?_
          refine zf_X0_20 rfl dX0_firstDriving_42 ?_
          refine zk_iload_n dX0_firstDriving_45 rfl rfl ?_
          obtain ⟨g46, h⟩ := zguard h
          refine zk_iald (zoI_of rfl g46) dX0_firstDriving_46 ?_
          refine zk_icmp_ge (tgt := 53) dX0_firstDriving_47 rfl (fun g47 => ?_) (fun g47 => ?_)
          · replace h := zpos g47 h
            refine zk_iinc dX0_firstDriving_53 rfl (zinc (m := 1) (by decide)) (by decide) (zk_eq [_, _, _, _, _] rfl ?_)
            refine zk_goto (tgt := 5) dX0_firstDriving_56 rfl ?_
            exact hr5 _ _ h
          · replace h := zneg g47 h
            refine zk_mask [true, true, true, false, true] ?_
            exact ok_X0_firstDriving_J50 hj r _ _ _ _ _ hr5 h
def D_X0_firstDriving (s : zS) (a1 : Int32) (a2 : Int32) : Option Int32 :=
  D_X0_firstDriving_L5 s a1 a2 zFU (-1 : Int32) (0 : Int32)
set_option maxRecDepth 100000 in
theorem ok_X0_firstDriving {l : Launch} {D : va_G} {ad : Nat → Nat} {cA : Nat → ClassId} (hj : zInj ad) (s : zS) (a1 : Int32) (a2 : Int32) {r : Int32} (h : D_X0_firstDriving s a1 a2 = some r) : zMet l D ad cA jX0_firstDriving [.ref 8, .int a1, .int a2] s (some (.int r)) s := by
  refine zMet_of jX0_firstDriving [some (.ref 8), some (.int a1), some (.int a2), none, none] (by decide +kernel) (Nat.le_of_ble_eq_true rfl) rfl hj ?_
  unfold D_X0_firstDriving at h
  refine zk_iconst (v := -1) dX0_firstDriving_0 (by decide) ?_
  refine zk_istore_n (i := 3) dX0_firstDriving_1 rfl (by decide) (zk_eq [_, _, _, _, _] rfl ?_)
  refine zk_iconst (v := 0) dX0_firstDriving_2 (by decide) ?_
  refine zk_istore (i := 4) dX0_firstDriving_3 (by decide) (zk_eq [_, _, _, _, _] rfl ?_)
  exact ok_X0_firstDriving_L5 hj r _ _ _ _ _ _ h
def D_X0_stopsAhead_J61 (s : zS) : Option Int32 :=
  some (1 : Int32)
set_option maxRecDepth 100000 in
theorem ok_X0_stopsAhead_J61 {l : Launch} {D : va_G} {ad : Nat → Nat} {cA : Nat → ClassId} (hj : zInj ad) (r : Int32) (s : zS) (h : D_X0_stopsAhead_J61 s = some r) : zOk l D ad cA (zJm jX0_stopsAhead) (zEnd D ad cA (some (.int r)) s) 61 [none, none, none, none, none, none, none, none] [] s := by
  unfold D_X0_stopsAhead_J61 at h
  refine zk_iconst (v := 1) dX0_stopsAhead_61 (by decide) ?_
  refine zk_goto (tgt := 66) dX0_stopsAhead_62 rfl ?_
  have e9 := Option.some.inj h
  subst e9
  exact zk_zret rfl (Or.inr rfl) ⟨rfl, rfl⟩ dX0_stopsAhead_66
def D_X0_stopsAhead_J65 (s : zS) : Option Int32 :=
  some (0 : Int32)
set_option maxRecDepth 100000 in
theorem ok_X0_stopsAhead_J65 {l : Launch} {D : va_G} {ad : Nat → Nat} {cA : Nat → ClassId} (hj : zInj ad) (r : Int32) (s : zS) (h : D_X0_stopsAhead_J65 s = some r) : zOk l D ad cA (zJm jX0_stopsAhead) (zEnd D ad cA (some (.int r)) s) 65 [none, none, none, none, none, none, none, none] [] s := by
  unfold D_X0_stopsAhead_J65 at h
  refine zk_iconst (v := 0) dX0_stopsAhead_65 (by decide) ?_
  have e9 := Option.some.inj h
  subst e9
  exact zk_zret rfl (Or.inl rfl) ⟨rfl, rfl⟩ dX0_stopsAhead_66
def D_X0_stopsAhead (s : zS) (a1 : Int32) (a2 : Int32) (a3 : Int32) : Option Int32 :=
  (D_X0_constantOf s a1).bind fun p2 =>
  (D_X0_factorOf s a2 a3).bind fun p8 =>
  (D_X0_constantOf s a2).bind fun p17 =>
  (D_X0_factorOf s a1 a3).bind fun p23 =>
  if (lg_cmp (p2 * (-p8)) (p17 * (-p23))) < 0 then (
    D_X0_stopsAhead_J61 s
  ) else (
    if (lg_cmp (p2 * (-p8)) (p17 * (-p23))) = 0 then (
      zgd (zin a1 20 = true) <|
      zgd (zin a2 20 = true) <|
      if (s.1 30 a2.toNatClampNeg) ≤ (s.1 30 a1.toNatClampNeg) then (
        D_X0_stopsAhead_J65 s
      ) else (
        D_X0_stopsAhead_J61 s
      )
    ) else (
      D_X0_stopsAhead_J65 s
    )
  )
set_option maxRecDepth 100000 in
theorem ok_X0_stopsAhead {l : Launch} {D : va_G} {ad : Nat → Nat} {cA : Nat → ClassId} (hj : zInj ad) (s : zS) (a1 : Int32) (a2 : Int32) (a3 : Int32) {r : Int32} (h : D_X0_stopsAhead s a1 a2 a3 = some r) : zMet l D ad cA jX0_stopsAhead [.ref 8, .int a1, .int a2, .int a3] s (some (.int r)) s := by
  refine zMet_of jX0_stopsAhead [some (.ref 8), some (.int a1), some (.int a2), some (.int a3), none, none, none, none] (by decide +kernel) (Nat.le_of_ble_eq_true rfl) rfl hj ?_
  unfold D_X0_stopsAhead at h
  refine zk_aload_n dX0_stopsAhead_0 rfl rfl ?_
  refine zk_iload_n dX0_stopsAhead_1 rfl rfl ?_
  obtain ⟨p2, h2, h⟩ := zbind h
  refine zc_X0_59 [] (As := [.int _]) (ok_X0_constantOf hj _ _ h2) rfl ⟨Nat.le_of_ble_eq_true rfl, Nat.le_of_ble_eq_true rfl⟩ ⟨Nat.le_refl _, Nat.le_refl _⟩ rfl rfl (Nat.le_of_ble_eq_true rfl) dX0_stopsAhead_2 ?_
  refine zk_aload_n dX0_stopsAhead_5 rfl rfl ?_
  refine zk_iload_n dX0_stopsAhead_6 rfl rfl ?_
  refine zk_iload_n dX0_stopsAhead_7 rfl rfl ?_
  obtain ⟨p8, h8, h⟩ := zbind h
  refine zc_X0_51 [.long _] (As := [.int _, .int _]) (ok_X0_factorOf hj _ _ _ h8) rfl ⟨Nat.le_of_ble_eq_true rfl, Nat.le_of_ble_eq_true rfl⟩ ⟨Nat.le_refl _, Nat.le_refl _⟩ rfl rfl (Nat.le_of_ble_eq_true rfl) dX0_stopsAhead_8 ?_
  refine zk_lneg dX0_stopsAhead_11 ?_
  refine zk_lmul dX0_stopsAhead_12 ?_
  refine zk_lstore (i := 4) dX0_stopsAhead_13 (by decide) (zk_eq [_, _, _, _, _, _, _, _] rfl ?_)
  refine zk_aload_n dX0_stopsAhead_15 rfl rfl ?_
  refine zk_iload_n dX0_stopsAhead_16 rfl rfl ?_
  obtain ⟨p17, h17, h⟩ := zbind h
  refine zc_X0_59 [] (As := [.int _]) (ok_X0_constantOf hj _ _ h17) rfl ⟨Nat.le_of_ble_eq_true rfl, Nat.le_of_ble_eq_true rfl⟩ ⟨Nat.le_refl _, Nat.le_refl _⟩ rfl rfl (Nat.le_of_ble_eq_true rfl) dX0_stopsAhead_17 ?_
  refine zk_aload_n dX0_stopsAhead_20 rfl rfl ?_
  refine zk_iload_n dX0_stopsAhead_21 rfl rfl ?_
  refine zk_iload_n dX0_stopsAhead_22 rfl rfl ?_
  obtain ⟨p23, h23, h⟩ := zbind h
  refine zc_X0_51 [.long _] (As := [.int _, .int _]) (ok_X0_factorOf hj _ _ _ h23) rfl ⟨Nat.le_of_ble_eq_true rfl, Nat.le_of_ble_eq_true rfl⟩ ⟨Nat.le_refl _, Nat.le_refl _⟩ rfl rfl (Nat.le_of_ble_eq_true rfl) dX0_stopsAhead_23 ?_
  refine zk_lneg dX0_stopsAhead_26 ?_
  refine zk_lmul dX0_stopsAhead_27 ?_
  refine zk_lstore (i := 6) dX0_stopsAhead_28 (by decide) (zk_eq [_, _, _, _, _, _, _, _] rfl ?_)
  refine zk_lload dX0_stopsAhead_30 rfl ?_
  refine zk_lload dX0_stopsAhead_32 rfl ?_
  refine zk_lcmp dX0_stopsAhead_34 ?_
  refine zk_if_lt (tgt := 61) dX0_stopsAhead_35 rfl (fun g35 => ?_) (fun g35 => ?_)
  · replace h := zpos g35 h
    refine zk_mask [false, false, false, false, false, false, false, false] ?_
    exact ok_X0_stopsAhead_J61 hj r _ h
  · replace h := zneg g35 h
    refine zk_lload dX0_stopsAhead_38 rfl ?_
    refine zk_lload dX0_stopsAhead_40 rfl ?_
    refine zk_lcmp dX0_stopsAhead_42 ?_
    refine zk_if_ne (tgt := 65) dX0_stopsAhead_43 rfl (fun g43 => ?_) (fun g43 => ?_)
    · replace h := zneg g43 h
      refine zk_mask [false, false, false, false, false, false, false, false] ?_
      exact ok_X0_stopsAhead_J65 hj r _ h
    · replace h := zpos g43 h
      refine zk_aload_n dX0_stopsAhead_46 rfl rfl ?_
      refine zf_X0_16 rfl dX0_stopsAhead_47 ?_
      refine zk_iload_n dX0_stopsAhead_50 rfl rfl ?_
      obtain ⟨g51, h⟩ := zguard h
      refine zk_iald (zoI_of rfl g51) dX0_stopsAhead_51 ?_
      refine zk_aload_n dX0_stopsAhead_52 rfl rfl ?_
      refine zf_X0_16 rfl dX0_stopsAhead_53 ?_
      refine zk_iload_n dX0_stopsAhead_56 rfl rfl ?_
      obtain ⟨g57, h⟩ := zguard h
      refine zk_iald (zoI_of rfl g57) dX0_stopsAhead_57 ?_
      refine zk_icmp_ge (tgt := 65) dX0_stopsAhead_58 rfl (fun g58 => ?_) (fun g58 => ?_)
      · replace h := zpos g58 h
        refine zk_mask [false, false, false, false, false, false, false, false] ?_
        exact ok_X0_stopsAhead_J65 hj r _ h
      · replace h := zneg g58 h
        refine zk_mask [false, false, false, false, false, false, false, false] ?_
        exact ok_X0_stopsAhead_J61 hj r _ h
def D_X0_firstStopping_J47 (rec4 : Int32 → Int32 → Option Int32) (s : zS) (a1 : Int32) (a3 : Int32) : Option Int32 :=
  rec4 a3 (a3 + 1)
set_option maxRecDepth 100000 in
theorem ok_X0_firstStopping_J47 {l : Launch} {D : va_G} {ad : Nat → Nat} {cA : Nat → ClassId} (hj : zInj ad) (r : Int32) (s : zS) (a1 : Int32) (a3 : Int32) (rec4 : Int32 → Int32 → Option Int32) (hr4 : ∀ (b2 : Int32) (b3 : Int32), rec4 b2 b3 = some r → zOk l D ad cA (zJm jX0_firstStopping) (zEnd D ad cA (some (.int r)) s) 4 [some (.ref 8), some (.int a1), some (.int b2), some (.int b3)] [] s) (h : D_X0_firstStopping_J47 rec4 s a1 a3 = some r) : zOk l D ad cA (zJm jX0_firstStopping) (zEnd D ad cA (some (.int r)) s) 47 [some (.ref 8), some (.int a1), none, some (.int a3)] [] s := by
  unfold D_X0_firstStopping_J47 at h
  refine zk_iload_n dX0_firstStopping_47 rfl rfl ?_
  refine zk_istore_n (i := 2) dX0_firstStopping_48 rfl (by decide) (zk_eq [_, _, _, _] rfl ?_)
  refine zk_iinc dX0_firstStopping_49 rfl (zinc (m := 1) (by decide)) (by decide) (zk_eq [_, _, _, _] rfl ?_)
  refine zk_goto (tgt := 4) dX0_firstStopping_52 rfl ?_
  exact hr4 _ _ h
def D_X0_firstStopping_B4 (s : zS) (a1 : Int32) (rec4 : Int32 → Int32 → Option Int32) (a2 : Int32) (a3 : Int32) : Option Int32 :=
    if (s.1 8 3) ≤ a3 then (
      some a2
    ) else (
      zgd (zin a3 20 = true) <|
      if (s.1 30 a3.toNatClampNeg) ≤ 0 then (
        rec4 a2 (a3 + 1)
      ) else (
        (D_X0_factorOf s a3 a1).bind fun p24 =>
        if 0 ≤ (lg_cmp p24 (0 : Int64)) then (
          rec4 a2 (a3 + 1)
        ) else (
          if a2 = (-1 : Int32) then (
            D_X0_firstStopping_J47 rec4 s a1 a3
          ) else (
            (D_X0_stopsAhead s a3 a2 a1).bind fun p41 =>
            if p41 = 0 then (
              rec4 a2 (a3 + 1)
            ) else (
              D_X0_firstStopping_J47 rec4 s a1 a3
            )
          )
        )
      )
    )
def D_X0_firstStopping_L4 (s : zS) (a1 : Int32) (n : Nat) (a2 : Int32) (a3 : Int32) : Option Int32 := zfx (fun (rec : Int32 × Int32 → Option Int32) q => D_X0_firstStopping_B4 s a1 (fun v0 v1 => rec (v0, v1)) q.1 q.2) n (a2, a3)
set_option maxRecDepth 100000 in
theorem D_X0_firstStopping_L4_s (s : zS) (a1 : Int32) (n : Nat) (a2 : Int32) (a3 : Int32) : D_X0_firstStopping_L4 s a1 (n + 1) a2 a3 = D_X0_firstStopping_B4 s a1 (D_X0_firstStopping_L4 s a1 n) a2 a3 := rfl
set_option maxRecDepth 100000 in
theorem ok_X0_firstStopping_L4 {l : Launch} {D : va_G} {ad : Nat → Nat} {cA : Nat → ClassId} (hj : zInj ad) (r : Int32) (s : zS) (a1 : Int32) : ∀ (n : Nat) (a2 : Int32) (a3 : Int32), D_X0_firstStopping_L4 s a1 n a2 a3 = some r → zOk l D ad cA (zJm jX0_firstStopping) (zEnd D ad cA (some (.int r)) s) 4 [some (.ref 8), some (.int a1), some (.int a2), some (.int a3)] [] s := by
  intro n
  induction n with
  | zero =>
    intro a2 a3 h
    have h0 : (none : Option Int32) = some r := h
    cases h0
  | succ n hr4 =>
    intro a2 a3 h
    have h : D_X0_firstStopping_B4 s a1 (D_X0_firstStopping_L4 s a1 n) a2 a3 = some r := h
    unfold D_X0_firstStopping_B4 at h
    refine zk_iload_n dX0_firstStopping_4 rfl rfl ?_
    refine zk_aload_n dX0_firstStopping_5 rfl rfl ?_
    refine zf_X0_23 rfl dX0_firstStopping_6 ?_
    refine zk_icmp_ge (tgt := 55) dX0_firstStopping_9 rfl (fun g9 => ?_) (fun g9 => ?_)
    · replace h := zpos g9 h
      refine zk_iload_n dX0_firstStopping_55 rfl rfl ?_
      have e9 := Option.some.inj h
      subst e9
      exact zk_iret rfl ⟨rfl, rfl⟩ dX0_firstStopping_56
    · replace h := zneg g9 h
      refine zk_aload_n dX0_firstStopping_12 rfl rfl ?_
      refine zf_X0_16 rfl dX0_firstStopping_13 ?_
      refine zk_iload_n dX0_firstStopping_16 rfl rfl ?_
      obtain ⟨g17, h⟩ := zguard h
      refine zk_iald (zoI_of rfl g17) dX0_firstStopping_17 ?_
      refine zk_if_le (tgt := 49) dX0_firstStopping_18 rfl (fun g18 => ?_) (fun g18 => ?_)
      · replace h := zpos g18 h
        refine zk_iinc dX0_firstStopping_49 rfl (zinc (m := 1) (by decide)) (by decide) (zk_eq [_, _, _, _] rfl ?_)
        refine zk_goto (tgt := 4) dX0_firstStopping_52 rfl ?_
        exact hr4 _ _ h
      · replace h := zneg g18 h
        refine zk_aload_n dX0_firstStopping_21 rfl rfl ?_
        refine zk_iload_n dX0_firstStopping_22 rfl rfl ?_
        refine zk_iload_n dX0_firstStopping_23 rfl rfl ?_
        obtain ⟨p24, h24, h⟩ := zbind h
        refine zc_X0_51 [] (As := [.int _, .int _]) (ok_X0_factorOf hj _ _ _ h24) rfl ⟨Nat.le_of_ble_eq_true rfl, Nat.le_of_ble_eq_true rfl⟩ ⟨Nat.le_refl _, Nat.le_refl _⟩ rfl rfl (Nat.le_of_ble_eq_true rfl) dX0_firstStopping_24 ?_
        refine zk_lconst (v := 0) dX0_firstStopping_27 (by decide) ?_
        refine zk_lcmp dX0_firstStopping_28 ?_
        refine zk_if_ge (tgt := 49) dX0_firstStopping_29 rfl (fun g29 => ?_) (fun g29 => ?_)
        · replace h := zpos g29 h
          refine zk_iinc dX0_firstStopping_49 rfl (zinc (m := 1) (by decide)) (by decide) (zk_eq [_, _, _, _] rfl ?_)
          refine zk_goto (tgt := 4) dX0_firstStopping_52 rfl ?_
          exact hr4 _ _ h
        · replace h := zneg g29 h
          refine zk_iload_n dX0_firstStopping_32 rfl rfl ?_
          refine zk_iconst (v := -1) dX0_firstStopping_33 (by decide) ?_
          refine zk_icmp_eq (tgt := 47) dX0_firstStopping_34 rfl (fun g34 => ?_) (fun g34 => ?_)
          · replace h := zpos g34 h
            refine zk_mask [true, true, false, true] ?_
            exact ok_X0_firstStopping_J47 hj r _ _ _ _ hr4 h
          · replace h := zneg g34 h
            refine zk_aload_n dX0_firstStopping_37 rfl rfl ?_
            refine zk_iload_n dX0_firstStopping_38 rfl rfl ?_
            refine zk_iload_n dX0_firstStopping_39 rfl rfl ?_
            refine zk_iload_n dX0_firstStopping_40 rfl rfl ?_
            obtain ⟨p41, h41, h⟩ := zbind h
            refine zc_X0_55 [] (As := [.int _, .int _, .int _]) (ok_X0_stopsAhead hj _ _ _ _ h41) rfl ⟨Nat.le_of_ble_eq_true rfl, Nat.le_of_ble_eq_true rfl⟩ ⟨Nat.le_refl _, Nat.le_refl _⟩ rfl rfl (Nat.le_of_ble_eq_true rfl) dX0_firstStopping_41 ?_
            refine zk_if_eq (tgt := 49) dX0_firstStopping_44 rfl (fun g44 => ?_) (fun g44 => ?_)
            · replace h := zpos g44 h
              refine zk_iinc dX0_firstStopping_49 rfl (zinc (m := 1) (by decide)) (by decide) (zk_eq [_, _, _, _] rfl ?_)
              refine zk_goto (tgt := 4) dX0_firstStopping_52 rfl ?_
              exact hr4 _ _ h
            · replace h := zneg g44 h
              refine zk_mask [true, true, false, true] ?_
              exact ok_X0_firstStopping_J47 hj r _ _ _ _ hr4 h
def D_X0_firstStopping (s : zS) (a1 : Int32) : Option Int32 :=
  D_X0_firstStopping_L4 s a1 zFU (-1 : Int32) (0 : Int32)
set_option maxRecDepth 100000 in
theorem ok_X0_firstStopping {l : Launch} {D : va_G} {ad : Nat → Nat} {cA : Nat → ClassId} (hj : zInj ad) (s : zS) (a1 : Int32) {r : Int32} (h : D_X0_firstStopping s a1 = some r) : zMet l D ad cA jX0_firstStopping [.ref 8, .int a1] s (some (.int r)) s := by
  refine zMet_of jX0_firstStopping [some (.ref 8), some (.int a1), none, none] (by decide +kernel) (Nat.le_of_ble_eq_true rfl) rfl hj ?_
  unfold D_X0_firstStopping at h
  refine zk_iconst (v := -1) dX0_firstStopping_0 (by decide) ?_
  refine zk_istore_n (i := 2) dX0_firstStopping_1 rfl (by decide) (zk_eq [_, _, _, _] rfl ?_)
  refine zk_iconst (v := 0) dX0_firstStopping_2 (by decide) ?_
  refine zk_istore_n (i := 3) dX0_firstStopping_3 rfl (by decide) (zk_eq [_, _, _, _] rfl ?_)
  exact ok_X0_firstStopping_L4 hj r _ _ _ _ _ h
def D_X0_turnRow (s : zS) (a1 : Nat) (a2 : Int32) : Option zS :=
  zgd (zoL a1 (0 : Int32) = true) <|
  zgd (zoL a1 a2 = true) <|
  zgd (zoL a1 (0 : Int32) = true) <|
  let s10 : zS := zwL s a1 (0 : Int32).toNatClampNeg (-(s.2 a1 a2.toNatClampNeg))
  zgd (zoL a1 a2 = true) <|
  let s15 : zS := zwL s10 a1 a2.toNatClampNeg (-(s.2 a1 (0 : Int32).toNatClampNeg))
  some s15
set_option maxRecDepth 100000 in
theorem ok_X0_turnRow {l : Launch} {D : va_G} {ad : Nat → Nat} {cA : Nat → ClassId} (hj : zInj ad) (s : zS) (a1 : Nat) (a2 : Int32) {r : zS} (h : D_X0_turnRow s a1 a2 = some r) : zMet l D ad cA jX0_turnRow [.ref 8, .ref a1, .int a2] s none r := by
  refine zMet_of jX0_turnRow [some (.ref 8), some (.ref a1), some (.int a2), none, none] (by decide +kernel) (Nat.le_of_ble_eq_true rfl) rfl hj ?_
  unfold D_X0_turnRow at h
  refine zk_aload_n dX0_turnRow_0 rfl rfl ?_
  refine zk_iconst (v := 0) dX0_turnRow_1 (by decide) ?_
  obtain ⟨g2, h⟩ := zguard h
  refine zk_lald g2 dX0_turnRow_2 ?_
  refine zk_lstore_n (i := 3) dX0_turnRow_3 rfl (by decide) (zk_eq [_, _, _, _, _] rfl ?_)
  refine zk_aload_n dX0_turnRow_4 rfl rfl ?_
  refine zk_iconst (v := 0) dX0_turnRow_5 (by decide) ?_
  refine zk_aload_n dX0_turnRow_6 rfl rfl ?_
  refine zk_iload_n dX0_turnRow_7 rfl rfl ?_
  obtain ⟨g8, h⟩ := zguard h
  refine zk_lald g8 dX0_turnRow_8 ?_
  refine zk_lneg dX0_turnRow_9 ?_
  obtain ⟨g10, h⟩ := zguard h
  refine zk_last g10 dX0_turnRow_10 ?_
  refine zk_aload_n dX0_turnRow_11 rfl rfl ?_
  refine zk_iload_n dX0_turnRow_12 rfl rfl ?_
  refine zk_lload_n dX0_turnRow_13 rfl rfl ?_
  refine zk_lneg dX0_turnRow_14 ?_
  obtain ⟨g15, h⟩ := zguard h
  refine zk_last g15 dX0_turnRow_15 ?_
  have e9 := Option.some.inj h
  subst e9
  exact zk_vret rfl ⟨rfl, rfl⟩ dX0_turnRow_16
def D_X8_commonFactor_B31  (rec31 : Int64 → Int64 → Int32 → Option Int64) (a4 : Int64) (a6 : Int64) (a8 : Int32) : Option Int64 :=
    if (1000000 : Int32) ≤ a8 then (
      some a4
    ) else (
      if (lg_cmp a6 (0 : Int64)) = 0 then (
        some a4
      ) else (
        if a6 = 0 then none else
        rec31 a6 (a4 - a4 / a6 * a6) (a8 + 1)
      )
    )
def D_X8_commonFactor_L31 (n : Nat) (a4 : Int64) (a6 : Int64) (a8 : Int32) : Option Int64 := zfx (fun (rec : Int64 × Int64 × Int32 → Option Int64) q => D_X8_commonFactor_B31 (fun v0 v1 v2 => rec (v0, v1, v2)) q.1 q.2.1 q.2.2) n (a4, a6, a8)
set_option maxRecDepth 100000 in
theorem D_X8_commonFactor_L31_s (n : Nat) (a4 : Int64) (a6 : Int64) (a8 : Int32) : D_X8_commonFactor_L31 (n + 1) a4 a6 a8 = D_X8_commonFactor_B31 (D_X8_commonFactor_L31 n) a4 a6 a8 := rfl
set_option maxRecDepth 100000 in
theorem ok_X8_commonFactor_L31 {l : Launch} {D : va_G} {ad : Nat → Nat} {cA : Nat → ClassId} (hj : zInj ad) (r : Int64) (s : zS) : ∀ (n : Nat) (a4 : Int64) (a6 : Int64) (a8 : Int32), D_X8_commonFactor_L31 n a4 a6 a8 = some r → zOk l D ad cA (zJm jX8_commonFactor) (zEnd D ad cA (some (.long r)) s) 31 [none, none, none, none, some (.long a4), none, some (.long a6), none, some (.int a8), none, none] [] s := by
  intro n
  induction n with
  | zero =>
    intro a4 a6 a8 h
    have h0 : (none : Option Int64) = some r := h
    cases h0
  | succ n hr31 =>
    intro a4 a6 a8 h
    have h : D_X8_commonFactor_B31 (D_X8_commonFactor_L31 n) a4 a6 a8 = some r := h
    unfold D_X8_commonFactor_B31 at h
    refine zk_iload dX8_commonFactor_31 rfl ?_
    refine zk_ldcw dX8_commonFactor_33 zw_X8_336 ?_
    refine zk_icmp_ge (tgt := 67) dX8_commonFactor_36 rfl (fun g36 => ?_) (fun g36 => ?_)
    · replace h := zpos g36 h
      refine zk_lload dX8_commonFactor_67 rfl ?_
      have e9 := Option.some.inj h
      subst e9
      exact zk_lret rfl ⟨rfl, rfl⟩ dX8_commonFactor_69
    · replace h := zneg g36 h
      refine zk_lload dX8_commonFactor_39 rfl ?_
      refine zk_lconst (v := 0) dX8_commonFactor_41 (by decide) ?_
      refine zk_lcmp dX8_commonFactor_42 ?_
      refine zk_if_eq (tgt := 67) dX8_commonFactor_43 rfl (fun g43 => ?_) (fun g43 => ?_)
      · replace h := zpos g43 h
        refine zk_lload dX8_commonFactor_67 rfl ?_
        have e9 := Option.some.inj h
        subst e9
        exact zk_lret rfl ⟨rfl, rfl⟩ dX8_commonFactor_69
      · replace h := zneg g43 h
        refine zk_lload dX8_commonFactor_46 rfl ?_
        refine zk_lload dX8_commonFactor_48 rfl ?_
        obtain ⟨g50, h⟩ := zguardn h
        refine zk_lrem dX8_commonFactor_50 g50 ?_
        refine zk_lstore (i := 9) dX8_commonFactor_51 (by decide) (zk_eq [_, _, _, _, _, _, _, _, _, _, _] rfl ?_)
        refine zk_lload dX8_commonFactor_53 rfl ?_
        refine zk_lstore (i := 4) dX8_commonFactor_55 (by decide) (zk_eq [_, _, _, _, _, _, _, _, _, _, _] rfl ?_)
        refine zk_lload dX8_commonFactor_57 rfl ?_
        refine zk_lstore (i := 6) dX8_commonFactor_59 (by decide) (zk_eq [_, _, _, _, _, _, _, _, _, _, _] rfl ?_)
        refine zk_iinc dX8_commonFactor_61 rfl (zinc (m := 1) (by decide)) (by decide) (zk_eq [_, _, _, _, _, _, _, _, _, _, _] rfl ?_)
        refine zk_goto (tgt := 31) dX8_commonFactor_64 rfl ?_
        refine zk_mask [false, false, false, false, true, false, true, false, true, false, false] ?_
        exact hr31 _ _ _ h
def D_X8_commonFactor_J26 (a4 : Int64) (k0 : Int64) : Option Int64 :=
  D_X8_commonFactor_L31 zFU a4 k0 (0 : Int32)
set_option maxRecDepth 100000 in
theorem ok_X8_commonFactor_J26 {l : Launch} {D : va_G} {ad : Nat → Nat} {cA : Nat → ClassId} (hj : zInj ad) (r : Int64) (s : zS) (a4 : Int64) (k0 : Int64) (h : D_X8_commonFactor_J26 a4 k0 = some r) : zOk l D ad cA (zJm jX8_commonFactor) (zEnd D ad cA (some (.long r)) s) 26 [none, none, none, none, some (.long a4), none, none, none, none, none, none] [.long k0] s := by
  unfold D_X8_commonFactor_J26 at h
  refine zk_lstore (i := 6) dX8_commonFactor_26 (by decide) (zk_eq [_, _, _, _, _, _, _, _, _, _, _] rfl ?_)
  refine zk_iconst (v := 0) dX8_commonFactor_28 (by decide) ?_
  refine zk_istore (i := 8) dX8_commonFactor_29 (by decide) (zk_eq [_, _, _, _, _, _, _, _, _, _, _] rfl ?_)
  exact ok_X8_commonFactor_L31 hj r _ _ _ _ _ h
def D_X8_commonFactor_J12 (a2 : Int64) (k0 : Int64) : Option Int64 :=
  if 0 ≤ (lg_cmp a2 (0 : Int64)) then (
    D_X8_commonFactor_J26 k0 a2
  ) else (
    D_X8_commonFactor_J26 k0 (-a2)
  )
set_option maxRecDepth 100000 in
theorem ok_X8_commonFactor_J12 {l : Launch} {D : va_G} {ad : Nat → Nat} {cA : Nat → ClassId} (hj : zInj ad) (r : Int64) (s : zS) (a2 : Int64) (k0 : Int64) (h : D_X8_commonFactor_J12 a2 k0 = some r) : zOk l D ad cA (zJm jX8_commonFactor) (zEnd D ad cA (some (.long r)) s) 12 [none, none, some (.long a2), none, none, none, none, none, none, none, none] [.long k0] s := by
  unfold D_X8_commonFactor_J12 at h
  refine zk_lstore (i := 4) dX8_commonFactor_12 (by decide) (zk_eq [_, _, _, _, _, _, _, _, _, _, _] rfl ?_)
  refine zk_lload_n dX8_commonFactor_14 rfl rfl ?_
  refine zk_lconst (v := 0) dX8_commonFactor_15 (by decide) ?_
  refine zk_lcmp dX8_commonFactor_16 ?_
  refine zk_if_ge (tgt := 25) dX8_commonFactor_17 rfl (fun g17 => ?_) (fun g17 => ?_)
  · replace h := zpos g17 h
    refine zk_lload_n dX8_commonFactor_25 rfl rfl ?_
    refine zk_mask [false, false, false, false, true, false, false, false, false, false, false] ?_
    exact ok_X8_commonFactor_J26 hj r _ _ _ h
  · replace h := zneg g17 h
    refine zk_lload_n dX8_commonFactor_20 rfl rfl ?_
    refine zk_lneg dX8_commonFactor_21 ?_
    refine zk_goto (tgt := 26) dX8_commonFactor_22 rfl ?_
    refine zk_mask [false, false, false, false, true, false, false, false, false, false, false] ?_
    exact ok_X8_commonFactor_J26 hj r _ _ _ h
def D_X8_commonFactor (a0 : Int64) (a2 : Int64) : Option Int64 :=
  if 0 ≤ (lg_cmp a0 (0 : Int64)) then (
    D_X8_commonFactor_J12 a2 a0
  ) else (
    D_X8_commonFactor_J12 a2 (-a0)
  )
set_option maxRecDepth 100000 in
theorem ok_X8_commonFactor {l : Launch} {D : va_G} {ad : Nat → Nat} {cA : Nat → ClassId} (hj : zInj ad) (s : zS) (a0 : Int64) (a2 : Int64) {r : Int64} (h : D_X8_commonFactor a0 a2 = some r) : zMet l D ad cA jX8_commonFactor [.long a0, .long a2] s (some (.long r)) s := by
  refine zMet_of jX8_commonFactor [some (.long a0), none, some (.long a2), none, none, none, none, none, none, none, none] (by decide +kernel) (Nat.le_of_ble_eq_true rfl) rfl hj ?_
  unfold D_X8_commonFactor at h
  refine zk_lload_n dX8_commonFactor_0 rfl rfl ?_
  refine zk_lconst (v := 0) dX8_commonFactor_1 (by decide) ?_
  refine zk_lcmp dX8_commonFactor_2 ?_
  refine zk_if_ge (tgt := 11) dX8_commonFactor_3 rfl (fun g3 => ?_) (fun g3 => ?_)
  · replace h := zpos g3 h
    refine zk_lload_n dX8_commonFactor_11 rfl rfl ?_
    refine zk_mask [false, false, true, false, false, false, false, false, false, false, false] ?_
    exact ok_X8_commonFactor_J12 hj r _ _ _ h
  · replace h := zneg g3 h
    refine zk_lload_n dX8_commonFactor_6 rfl rfl ?_
    refine zk_lneg dX8_commonFactor_7 ?_
    refine zk_goto (tgt := 12) dX8_commonFactor_8 rfl ?_
    refine zk_mask [false, false, true, false, false, false, false, false, false, false, false] ?_
    exact ok_X8_commonFactor_J12 hj r _ _ _ h
def D_X0_shorten_B48 (a1 : Nat) (a2 : Int64) (rec48 : Int32 → zS → Option zS) (a4 : Int32) (s : zS) : Option zS :=
    if ((2 : Int32) + (s.1 8 4)) ≤ a4 then (
      some s
    ) else (
      zgd (zoL a1 a4 = true) <|
      if a2 = 0 then none else
      zgd (zoL a1 a4 = true) <|
      let s66 : zS := zwL s a1 a4.toNatClampNeg ((s.2 a1 a4.toNatClampNeg) / a2)
      rec48 (a4 + 1) s66
    )
def D_X0_shorten_L48 (a1 : Nat) (a2 : Int64) (n : Nat) (a4 : Int32) (s : zS) : Option zS := zfx (fun (rec : Int32 × zS → Option zS) q => D_X0_shorten_B48 a1 a2 (fun v0 v1 => rec (v0, v1)) q.1 q.2) n (a4, s)
set_option maxRecDepth 100000 in
theorem D_X0_shorten_L48_s (a1 : Nat) (a2 : Int64) (n : Nat) (a4 : Int32) (s : zS) : D_X0_shorten_L48 a1 a2 (n + 1) a4 s = D_X0_shorten_B48 a1 a2 (D_X0_shorten_L48 a1 a2 n) a4 s := rfl
set_option maxRecDepth 100000 in
theorem ok_X0_shorten_L48 {l : Launch} {D : va_G} {ad : Nat → Nat} {cA : Nat → ClassId} (hj : zInj ad) (r : zS) (a1 : Nat) (a2 : Int64) : ∀ (n : Nat) (a4 : Int32) (s : zS), D_X0_shorten_L48 a1 a2 n a4 s = some r → zOk l D ad cA (zJm jX0_shorten) (zEnd D ad cA none r) 48 [some (.ref 8), some (.ref a1), some (.long a2), none, some (.int a4)] [] s := by
  intro n
  induction n with
  | zero =>
    intro a4 s h
    have h0 : (none : Option zS) = some r := h
    cases h0
  | succ n hr48 =>
    intro a4 s h
    have h : D_X0_shorten_B48 a1 a2 (D_X0_shorten_L48 a1 a2 n) a4 s = some r := h
    unfold D_X0_shorten_B48 at h
    refine zk_iload dX0_shorten_48 rfl ?_
    refine zk_iconst (v := 2) dX0_shorten_50 (by decide) ?_
    refine zk_aload_n dX0_shorten_51 rfl rfl ?_
    refine zf_X0_27 rfl dX0_shorten_52 ?_
    refine zk_iadd dX0_shorten_55 ?_
    refine zk_icmp_ge (tgt := 73) dX0_shorten_56 rfl (fun g56 => ?_) (fun g56 => ?_)
    · replace h := zpos g56 h
      have e9 := Option.some.inj h
      subst e9
      exact zk_vret rfl ⟨rfl, rfl⟩ dX0_shorten_73
    · replace h := zneg g56 h
      refine zk_aload_n dX0_shorten_59 rfl rfl ?_
      refine zk_iload dX0_shorten_60 rfl ?_
      refine zk_dup2 dX0_shorten_62 rfl rfl ?_
      obtain ⟨g63, h⟩ := zguard h
      refine zk_lald g63 dX0_shorten_63 ?_
      refine zk_lload_n dX0_shorten_64 rfl rfl ?_
      obtain ⟨g65, h⟩ := zguardn h
      refine zk_ldiv dX0_shorten_65 g65 ?_
      obtain ⟨g66, h⟩ := zguard h
      refine zk_last g66 dX0_shorten_66 ?_
      refine zk_iinc dX0_shorten_67 rfl (zinc (m := 1) (by decide)) (by decide) (zk_eq [_, _, _, _, _] rfl ?_)
      refine zk_goto (tgt := 48) dX0_shorten_70 rfl ?_
      exact hr48 _ _ h
def D_X0_shorten_J39 (s : zS) (a1 : Nat) (a2 : Int64) : Option zS :=
  if (lg_cmp a2 (1 : Int64)) ≤ 0 then (
    some s
  ) else (
    D_X0_shorten_L48 a1 a2 zFU (0 : Int32) s
  )
set_option maxRecDepth 100000 in
theorem ok_X0_shorten_J39 {l : Launch} {D : va_G} {ad : Nat → Nat} {cA : Nat → ClassId} (hj : zInj ad) (r : zS) (s : zS) (a1 : Nat) (a2 : Int64) (h : D_X0_shorten_J39 s a1 a2 = some r) : zOk l D ad cA (zJm jX0_shorten) (zEnd D ad cA none r) 39 [some (.ref 8), some (.ref a1), some (.long a2), none, none] [] s := by
  unfold D_X0_shorten_J39 at h
  refine zk_lload_n dX0_shorten_39 rfl rfl ?_
  refine zk_lconst (v := 1) dX0_shorten_40 (by decide) ?_
  refine zk_lcmp dX0_shorten_41 ?_
  refine zk_if_le (tgt := 73) dX0_shorten_42 rfl (fun g42 => ?_) (fun g42 => ?_)
  · replace h := zpos g42 h
    have e9 := Option.some.inj h
    subst e9
    exact zk_vret rfl ⟨rfl, rfl⟩ dX0_shorten_73
  · replace h := zneg g42 h
    refine zk_iconst (v := 0) dX0_shorten_45 (by decide) ?_
    refine zk_istore (i := 4) dX0_shorten_46 (by decide) (zk_eq [_, _, _, _, _] rfl ?_)
    exact ok_X0_shorten_L48 hj r _ _ _ _ _ h
def D_X0_shorten_B7 (s : zS) (a1 : Nat) (rec7 : Int64 → Int32 → Option zS) (a2 : Int64) (a4 : Int32) : Option zS :=
    if ((2 : Int32) + (s.1 8 4)) ≤ a4 then (
      D_X0_shorten_J39 s a1 a2
    ) else (
      if (lg_cmp a2 (1 : Int64)) = 0 then (
        D_X0_shorten_J39 s a1 a2
      ) else (
        zgd (zoL a1 a4 = true) <|
        (D_X8_commonFactor a2 (s.2 a1 a4.toNatClampNeg)).bind fun p29 =>
        rec7 p29 (a4 + 1)
      )
    )
def D_X0_shorten_L7 (s : zS) (a1 : Nat) (n : Nat) (a2 : Int64) (a4 : Int32) : Option zS := zfx (fun (rec : Int64 × Int32 → Option zS) q => D_X0_shorten_B7 s a1 (fun v0 v1 => rec (v0, v1)) q.1 q.2) n (a2, a4)
set_option maxRecDepth 100000 in
theorem D_X0_shorten_L7_s (s : zS) (a1 : Nat) (n : Nat) (a2 : Int64) (a4 : Int32) : D_X0_shorten_L7 s a1 (n + 1) a2 a4 = D_X0_shorten_B7 s a1 (D_X0_shorten_L7 s a1 n) a2 a4 := rfl
set_option maxRecDepth 100000 in
theorem ok_X0_shorten_L7 {l : Launch} {D : va_G} {ad : Nat → Nat} {cA : Nat → ClassId} (hj : zInj ad) (r : zS) (s : zS) (a1 : Nat) : ∀ (n : Nat) (a2 : Int64) (a4 : Int32), D_X0_shorten_L7 s a1 n a2 a4 = some r → zOk l D ad cA (zJm jX0_shorten) (zEnd D ad cA none r) 7 [some (.ref 8), some (.ref a1), some (.long a2), none, some (.int a4)] [] s := by
  intro n
  induction n with
  | zero =>
    intro a2 a4 h
    have h0 : (none : Option zS) = some r := h
    cases h0
  | succ n hr7 =>
    intro a2 a4 h
    have h : D_X0_shorten_B7 s a1 (D_X0_shorten_L7 s a1 n) a2 a4 = some r := h
    unfold D_X0_shorten_B7 at h
    refine zk_iload dX0_shorten_7 rfl ?_
    refine zk_iconst (v := 2) dX0_shorten_9 (by decide) ?_
    refine zk_aload_n dX0_shorten_10 rfl rfl ?_
    refine zf_X0_27 rfl dX0_shorten_11 ?_
    refine zk_iadd dX0_shorten_14 ?_
    refine zk_icmp_ge (tgt := 39) dX0_shorten_15 rfl (fun g15 => ?_) (fun g15 => ?_)
    · replace h := zpos g15 h
      refine zk_mask [true, true, true, false, false] ?_
      exact ok_X0_shorten_J39 hj r _ _ _ h
    · replace h := zneg g15 h
      refine zk_lload_n dX0_shorten_18 rfl rfl ?_
      refine zk_lconst (v := 1) dX0_shorten_19 (by decide) ?_
      refine zk_lcmp dX0_shorten_20 ?_
      refine zk_if_eq (tgt := 39) dX0_shorten_21 rfl (fun g21 => ?_) (fun g21 => ?_)
      · replace h := zpos g21 h
        refine zk_mask [true, true, true, false, false] ?_
        exact ok_X0_shorten_J39 hj r _ _ _ h
      · replace h := zneg g21 h
        refine zk_lload_n dX0_shorten_24 rfl rfl ?_
        refine zk_aload_n dX0_shorten_25 rfl rfl ?_
        refine zk_iload dX0_shorten_26 rfl ?_
        obtain ⟨g28, h⟩ := zguard h
        refine zk_lald g28 dX0_shorten_28 ?_
        obtain ⟨p29, h29, h⟩ := zbind h
        refine zc_X0_75 [] (As := [.long _, .long _]) (ok_X8_commonFactor hj _ _ _ h29) rfl ⟨Nat.le_of_ble_eq_true rfl, Nat.le_of_ble_eq_true rfl⟩ ⟨Nat.le_refl _, Nat.le_refl _⟩ rfl rfl (Nat.le_of_ble_eq_true rfl) dX0_shorten_29 ?_
        refine zk_lstore_n (i := 2) dX0_shorten_32 rfl (by decide) (zk_eq [_, _, _, _, _] rfl ?_)
        refine zk_iinc dX0_shorten_33 rfl (zinc (m := 1) (by decide)) (by decide) (zk_eq [_, _, _, _, _] rfl ?_)
        refine zk_goto (tgt := 7) dX0_shorten_36 rfl ?_
        exact hr7 _ _ h
def D_X0_shorten (s : zS) (a1 : Nat) : Option zS :=
  zgd (zoL a1 (0 : Int32) = true) <|
  D_X0_shorten_L7 s a1 zFU (s.2 a1 (0 : Int32).toNatClampNeg) (1 : Int32)
set_option maxRecDepth 100000 in
theorem ok_X0_shorten {l : Launch} {D : va_G} {ad : Nat → Nat} {cA : Nat → ClassId} (hj : zInj ad) (s : zS) (a1 : Nat) {r : zS} (h : D_X0_shorten s a1 = some r) : zMet l D ad cA jX0_shorten [.ref 8, .ref a1] s none r := by
  refine zMet_of jX0_shorten [some (.ref 8), some (.ref a1), none, none, none] (by decide +kernel) (Nat.le_of_ble_eq_true rfl) rfl hj ?_
  unfold D_X0_shorten at h
  refine zk_aload_n dX0_shorten_0 rfl rfl ?_
  refine zk_iconst (v := 0) dX0_shorten_1 (by decide) ?_
  obtain ⟨g2, h⟩ := zguard h
  refine zk_lald g2 dX0_shorten_2 ?_
  refine zk_lstore_n (i := 2) dX0_shorten_3 rfl (by decide) (zk_eq [_, _, _, _, _] rfl ?_)
  refine zk_iconst (v := 1) dX0_shorten_4 (by decide) ?_
  refine zk_istore (i := 4) dX0_shorten_5 (by decide) (zk_eq [_, _, _, _, _] rfl ?_)
  exact ok_X0_shorten_L7 hj r _ _ _ _ _ h
def D_X0_replaceColumn_B21 (a1 : Nat) (a2 : Nat) (a4 : Int64) (rec21 : Int32 → zS → Option zS) (a6 : Int32) (s : zS) : Option zS :=
    if ((2 : Int32) + (s.1 8 4)) ≤ a6 then (
      some s
    ) else (
      zgd (zoL a1 a6 = true) <|
      zgd (zoL a2 (0 : Int32) = true) <|
      zgd (zoL a2 a6 = true) <|
      zgd (zoL a1 a6 = true) <|
      let s51 : zS := zwL s a1 a6.toNatClampNeg (((s.2 a1 a6.toNatClampNeg) * (s.2 a2 (0 : Int32).toNatClampNeg)) + (a4 * (s.2 a2 a6.toNatClampNeg)))
      rec21 (a6 + 1) s51
    )
def D_X0_replaceColumn_L21 (a1 : Nat) (a2 : Nat) (a4 : Int64) (n : Nat) (a6 : Int32) (s : zS) : Option zS := zfx (fun (rec : Int32 × zS → Option zS) q => D_X0_replaceColumn_B21 a1 a2 a4 (fun v0 v1 => rec (v0, v1)) q.1 q.2) n (a6, s)
set_option maxRecDepth 100000 in
theorem D_X0_replaceColumn_L21_s (a1 : Nat) (a2 : Nat) (a4 : Int64) (n : Nat) (a6 : Int32) (s : zS) : D_X0_replaceColumn_L21 a1 a2 a4 (n + 1) a6 s = D_X0_replaceColumn_B21 a1 a2 a4 (D_X0_replaceColumn_L21 a1 a2 a4 n) a6 s := rfl
set_option maxRecDepth 100000 in
theorem ok_X0_replaceColumn_L21 {l : Launch} {D : va_G} {ad : Nat → Nat} {cA : Nat → ClassId} (hj : zInj ad) (r : zS) (a1 : Nat) (a2 : Nat) (a4 : Int64) : ∀ (n : Nat) (a6 : Int32) (s : zS), D_X0_replaceColumn_L21 a1 a2 a4 n a6 s = some r → zOk l D ad cA (zJm jX0_replaceColumn) (zEnd D ad cA none r) 21 [some (.ref 8), some (.ref a1), some (.ref a2), none, some (.long a4), none, some (.int a6)] [] s := by
  intro n
  induction n with
  | zero =>
    intro a6 s h
    have h0 : (none : Option zS) = some r := h
    cases h0
  | succ n hr21 =>
    intro a6 s h
    have h : D_X0_replaceColumn_B21 a1 a2 a4 (D_X0_replaceColumn_L21 a1 a2 a4 n) a6 s = some r := h
    unfold D_X0_replaceColumn_B21 at h
    refine zk_iload dX0_replaceColumn_21 rfl ?_
    refine zk_iconst (v := 2) dX0_replaceColumn_23 (by decide) ?_
    refine zk_aload_n dX0_replaceColumn_24 rfl rfl ?_
    refine zf_X0_27 rfl dX0_replaceColumn_25 ?_
    refine zk_iadd dX0_replaceColumn_28 ?_
    refine zk_icmp_ge (tgt := 58) dX0_replaceColumn_29 rfl (fun g29 => ?_) (fun g29 => ?_)
    · replace h := zpos g29 h
      have e9 := Option.some.inj h
      subst e9
      exact zk_vret rfl ⟨rfl, rfl⟩ dX0_replaceColumn_58
    · replace h := zneg g29 h
      refine zk_aload_n dX0_replaceColumn_32 rfl rfl ?_
      refine zk_iload dX0_replaceColumn_33 rfl ?_
      refine zk_aload_n dX0_replaceColumn_35 rfl rfl ?_
      refine zk_iload dX0_replaceColumn_36 rfl ?_
      obtain ⟨g38, h⟩ := zguard h
      refine zk_lald g38 dX0_replaceColumn_38 ?_
      refine zk_aload_n dX0_replaceColumn_39 rfl rfl ?_
      refine zk_iconst (v := 0) dX0_replaceColumn_40 (by decide) ?_
      obtain ⟨g41, h⟩ := zguard h
      refine zk_lald g41 dX0_replaceColumn_41 ?_
      refine zk_lmul dX0_replaceColumn_42 ?_
      refine zk_lload dX0_replaceColumn_43 rfl ?_
      refine zk_aload_n dX0_replaceColumn_45 rfl rfl ?_
      refine zk_iload dX0_replaceColumn_46 rfl ?_
      obtain ⟨g48, h⟩ := zguard h
      refine zk_lald g48 dX0_replaceColumn_48 ?_
      refine zk_lmul dX0_replaceColumn_49 ?_
      refine zk_ladd dX0_replaceColumn_50 ?_
      obtain ⟨g51, h⟩ := zguard h
      refine zk_last g51 dX0_replaceColumn_51 ?_
      refine zk_iinc dX0_replaceColumn_52 rfl (zinc (m := 1) (by decide)) (by decide) (zk_eq [_, _, _, _, _, _, _] rfl ?_)
      refine zk_goto (tgt := 21) dX0_replaceColumn_55 rfl ?_
      exact hr21 _ _ h
def D_X0_replaceColumn (s : zS) (a1 : Nat) (a2 : Nat) (a3 : Int32) : Option zS :=
  zgd (zoL a1 a3 = true) <|
  zgd (zoL a1 a3 = true) <|
  let s8 : zS := zwL s a1 a3.toNatClampNeg (0 : Int64)
  zgd (zoL a1 (0 : Int32) = true) <|
  zgd (zoL a2 (0 : Int32) = true) <|
  zgd (zoL a1 (0 : Int32) = true) <|
  let s17 : zS := zwL s8 a1 (0 : Int32).toNatClampNeg ((s8.2 a1 (0 : Int32).toNatClampNeg) * (s8.2 a2 (0 : Int32).toNatClampNeg))
  D_X0_replaceColumn_L21 a1 a2 (s.2 a1 a3.toNatClampNeg) zFU (1 : Int32) s17
set_option maxRecDepth 100000 in
theorem ok_X0_replaceColumn {l : Launch} {D : va_G} {ad : Nat → Nat} {cA : Nat → ClassId} (hj : zInj ad) (s : zS) (a1 : Nat) (a2 : Nat) (a3 : Int32) {r : zS} (h : D_X0_replaceColumn s a1 a2 a3 = some r) : zMet l D ad cA jX0_replaceColumn [.ref 8, .ref a1, .ref a2, .int a3] s none r := by
  refine zMet_of jX0_replaceColumn [some (.ref 8), some (.ref a1), some (.ref a2), some (.int a3), none, none, none] (by decide +kernel) (Nat.le_of_ble_eq_true rfl) rfl hj ?_
  unfold D_X0_replaceColumn at h
  refine zk_aload_n dX0_replaceColumn_0 rfl rfl ?_
  refine zk_iload_n dX0_replaceColumn_1 rfl rfl ?_
  obtain ⟨g2, h⟩ := zguard h
  refine zk_lald g2 dX0_replaceColumn_2 ?_
  refine zk_lstore (i := 4) dX0_replaceColumn_3 (by decide) (zk_eq [_, _, _, _, _, _, _] rfl ?_)
  refine zk_aload_n dX0_replaceColumn_5 rfl rfl ?_
  refine zk_iload_n dX0_replaceColumn_6 rfl rfl ?_
  refine zk_lconst (v := 0) dX0_replaceColumn_7 (by decide) ?_
  obtain ⟨g8, h⟩ := zguard h
  refine zk_last g8 dX0_replaceColumn_8 ?_
  refine zk_aload_n dX0_replaceColumn_9 rfl rfl ?_
  refine zk_iconst (v := 0) dX0_replaceColumn_10 (by decide) ?_
  refine zk_dup2 dX0_replaceColumn_11 rfl rfl ?_
  obtain ⟨g12, h⟩ := zguard h
  refine zk_lald g12 dX0_replaceColumn_12 ?_
  refine zk_aload_n dX0_replaceColumn_13 rfl rfl ?_
  refine zk_iconst (v := 0) dX0_replaceColumn_14 (by decide) ?_
  obtain ⟨g15, h⟩ := zguard h
  refine zk_lald g15 dX0_replaceColumn_15 ?_
  refine zk_lmul dX0_replaceColumn_16 ?_
  obtain ⟨g17, h⟩ := zguard h
  refine zk_last g17 dX0_replaceColumn_17 ?_
  refine zk_iconst (v := 1) dX0_replaceColumn_18 (by decide) ?_
  refine zk_istore (i := 6) dX0_replaceColumn_19 (by decide) (zk_eq [_, _, _, _, _, _, _] rfl ?_)
  refine zk_mask [true, true, true, false, true, false, true] ?_
  exact ok_X0_replaceColumn_L21 hj r _ _ _ _ _ _ h
def D_X0_exchange_B37 (a1 : Int32) (a2 : Int32) (rec37 : Int32 → zS → Option zS) (a3 : Int32) (s : zS) : Option zS :=
    if (s.1 8 3) ≤ a3 then (
      zgd (zin a1 20 = true) <|
      zgd (zin a2 4 = true) <|
      zgd (zin a1 20 = true) <|
      let s114 : zS := zwI s 30 a1.toNatClampNeg (s.1 31 a2.toNatClampNeg)
      zgd (zin a2 4 = true) <|
      let s121 : zS := zwI s114 31 a2.toNatClampNeg (s.1 30 a1.toNatClampNeg)
      some s121
    ) else (
      if a3 = a1 then (
        rec37 (a3 + 1) s
      ) else (
        (D_X0_factorOf s a3 a2).bind fun p53 =>
        if (lg_cmp p53 (0 : Int64)) = 0 then (
          rec37 (a3 + 1) s
        ) else (
          zgd (zin a3 20 = true) <|
          zgd (zin a1 20 = true) <|
          (D_X0_replaceColumn s (zT 9 a3) (zT 9 a1) ((2 : Int32) + a2)).bind fun p77 =>
          zgd (zin a3 20 = true) <|
          (D_X0_shorten p77 (zT 9 a3)).bind fun p87 =>
          rec37 (a3 + 1) p87
        )
      )
    )
def D_X0_exchange_L37 (a1 : Int32) (a2 : Int32) (n : Nat) (a3 : Int32) (s : zS) : Option zS := zfx (fun (rec : Int32 × zS → Option zS) q => D_X0_exchange_B37 a1 a2 (fun v0 v1 => rec (v0, v1)) q.1 q.2) n (a3, s)
set_option maxRecDepth 100000 in
theorem D_X0_exchange_L37_s (a1 : Int32) (a2 : Int32) (n : Nat) (a3 : Int32) (s : zS) : D_X0_exchange_L37 a1 a2 (n + 1) a3 s = D_X0_exchange_B37 a1 a2 (D_X0_exchange_L37 a1 a2 n) a3 s := rfl
set_option maxRecDepth 100000 in
theorem ok_X0_exchange_L37 {l : Launch} {D : va_G} {ad : Nat → Nat} {cA : Nat → ClassId} (hj : zInj ad) (r : zS) (a1 : Int32) (a2 : Int32) : ∀ (n : Nat) (a3 : Int32) (s : zS), D_X0_exchange_L37 a1 a2 n a3 s = some r → zOk l D ad cA (zJm jX0_exchange) (zEnd D ad cA none r) 37 [some (.ref 8), some (.int a1), some (.int a2), some (.int a3)] [] s := by
  intro n
  induction n with
  | zero =>
    intro a3 s h
    have h0 : (none : Option zS) = some r := h
    cases h0
  | succ n hr37 =>
    intro a3 s h
    have h : D_X0_exchange_B37 a1 a2 (D_X0_exchange_L37 a1 a2 n) a3 s = some r := h
    unfold D_X0_exchange_B37 at h
    refine zk_iload_n dX0_exchange_37 rfl rfl ?_
    refine zk_aload_n dX0_exchange_38 rfl rfl ?_
    refine zf_X0_23 rfl dX0_exchange_39 ?_
    refine zk_icmp_ge (tgt := 96) dX0_exchange_42 rfl (fun g42 => ?_) (fun g42 => ?_)
    · replace h := zpos g42 h
      refine zk_aload_n dX0_exchange_96 rfl rfl ?_
      refine zf_X0_16 rfl dX0_exchange_97 ?_
      refine zk_iload_n dX0_exchange_100 rfl rfl ?_
      obtain ⟨g101, h⟩ := zguard h
      refine zk_iald (zoI_of rfl g101) dX0_exchange_101 ?_
      refine zk_istore_n (i := 3) dX0_exchange_102 rfl (by decide) (zk_eq [_, _, _, _] rfl ?_)
      refine zk_aload_n dX0_exchange_103 rfl rfl ?_
      refine zf_X0_16 rfl dX0_exchange_104 ?_
      refine zk_iload_n dX0_exchange_107 rfl rfl ?_
      refine zk_aload_n dX0_exchange_108 rfl rfl ?_
      refine zf_X0_20 rfl dX0_exchange_109 ?_
      refine zk_iload_n dX0_exchange_112 rfl rfl ?_
      obtain ⟨g113, h⟩ := zguard h
      refine zk_iald (zoI_of rfl g113) dX0_exchange_113 ?_
      obtain ⟨g114, h⟩ := zguard h
      refine zk_iast (zoI_of rfl g114) dX0_exchange_114 ?_
      refine zk_aload_n dX0_exchange_115 rfl rfl ?_
      refine zf_X0_20 rfl dX0_exchange_116 ?_
      refine zk_iload_n dX0_exchange_119 rfl rfl ?_
      refine zk_iload_n dX0_exchange_120 rfl rfl ?_
      obtain ⟨g121, h⟩ := zguard h
      refine zk_iast (zoI_of rfl g121) dX0_exchange_121 ?_
      have e9 := Option.some.inj h
      subst e9
      exact zk_vret rfl ⟨rfl, rfl⟩ dX0_exchange_122
    · replace h := zneg g42 h
      refine zk_iload_n dX0_exchange_45 rfl rfl ?_
      refine zk_iload_n dX0_exchange_46 rfl rfl ?_
      refine zk_icmp_eq (tgt := 90) dX0_exchange_47 rfl (fun g47 => ?_) (fun g47 => ?_)
      · replace h := zpos g47 h
        refine zk_iinc dX0_exchange_90 rfl (zinc (m := 1) (by decide)) (by decide) (zk_eq [_, _, _, _] rfl ?_)
        refine zk_goto (tgt := 37) dX0_exchange_93 rfl ?_
        exact hr37 _ _ h
      · replace h := zneg g47 h
        refine zk_aload_n dX0_exchange_50 rfl rfl ?_
        refine zk_iload_n dX0_exchange_51 rfl rfl ?_
        refine zk_iload_n dX0_exchange_52 rfl rfl ?_
        obtain ⟨p53, h53, h⟩ := zbind h
        refine zc_X0_51 [] (As := [.int _, .int _]) (ok_X0_factorOf hj _ _ _ h53) rfl ⟨Nat.le_of_ble_eq_true rfl, Nat.le_of_ble_eq_true rfl⟩ ⟨Nat.le_refl _, Nat.le_refl _⟩ rfl rfl (Nat.le_of_ble_eq_true rfl) dX0_exchange_53 ?_
        refine zk_lconst (v := 0) dX0_exchange_56 (by decide) ?_
        refine zk_lcmp dX0_exchange_57 ?_
        refine zk_if_eq (tgt := 90) dX0_exchange_58 rfl (fun g58 => ?_) (fun g58 => ?_)
        · replace h := zpos g58 h
          refine zk_iinc dX0_exchange_90 rfl (zinc (m := 1) (by decide)) (by decide) (zk_eq [_, _, _, _] rfl ?_)
          refine zk_goto (tgt := 37) dX0_exchange_93 rfl ?_
          exact hr37 _ _ h
        · replace h := zneg g58 h
          refine zk_aload_n dX0_exchange_61 rfl rfl ?_
          refine zk_aload_n dX0_exchange_62 rfl rfl ?_
          refine zf_X0_13 rfl dX0_exchange_63 ?_
          refine zk_iload_n dX0_exchange_66 rfl rfl ?_
          obtain ⟨g67, h⟩ := zguard h
          refine zk_aald (zoR_of ⟨rfl, rfl, by decide, by decide⟩ g67) dX0_exchange_67 ?_
          refine zk_aload_n dX0_exchange_68 rfl rfl ?_
          refine zf_X0_13 rfl dX0_exchange_69 ?_
          refine zk_iload_n dX0_exchange_72 rfl rfl ?_
          obtain ⟨g73, h⟩ := zguard h
          refine zk_aald (zoR_of ⟨rfl, rfl, by decide, by decide⟩ g73) dX0_exchange_73 ?_
          refine zk_iconst (v := 2) dX0_exchange_74 (by decide) ?_
          refine zk_iload_n dX0_exchange_75 rfl rfl ?_
          refine zk_iadd dX0_exchange_76 ?_
          obtain ⟨p77, h77, h⟩ := zbind h
          refine zc_X0_71 [] (As := [.ref _, .ref _, .int _]) (ok_X0_replaceColumn hj _ _ _ _ h77) rfl ⟨Nat.le_of_ble_eq_true rfl, Nat.le_of_ble_eq_true rfl⟩ ⟨Nat.le_refl _, Nat.le_refl _⟩ rfl rfl (Nat.le_of_ble_eq_true rfl) dX0_exchange_77 ?_
          refine zk_aload_n dX0_exchange_80 rfl rfl ?_
          refine zk_aload_n dX0_exchange_81 rfl rfl ?_
          refine zf_X0_13 rfl dX0_exchange_82 ?_
          refine zk_iload_n dX0_exchange_85 rfl rfl ?_
          obtain ⟨g86, h⟩ := zguard h
          refine zk_aald (zoR_of ⟨rfl, rfl, by decide, by decide⟩ g86) dX0_exchange_86 ?_
          obtain ⟨p87, h87, h⟩ := zbind h
          refine zc_X0_67 [] (As := [.ref _]) (ok_X0_shorten hj _ _ h87) rfl ⟨Nat.le_of_ble_eq_true rfl, Nat.le_of_ble_eq_true rfl⟩ ⟨Nat.le_refl _, Nat.le_refl _⟩ rfl rfl (Nat.le_of_ble_eq_true rfl) dX0_exchange_87 ?_
          refine zk_iinc dX0_exchange_90 rfl (zinc (m := 1) (by decide)) (by decide) (zk_eq [_, _, _, _] rfl ?_)
          refine zk_goto (tgt := 37) dX0_exchange_93 rfl ?_
          exact hr37 _ _ h
def D_X0_exchange (s : zS) (a1 : Int32) (a2 : Int32) : Option zS :=
  (D_X0_factorOf s a1 a2).bind fun p3 =>
  if (lg_cmp p3 (0 : Int64)) < 0 then (
    zgd (zin a1 20 = true) <|
    (D_X0_turnRow s (zT 9 a1) ((2 : Int32) + a2)).bind fun p22 =>
    zgd (zin a1 20 = true) <|
    (D_X0_shorten p22 (zT 9 a1)).bind fun p32 =>
    D_X0_exchange_L37 a1 a2 zFU (0 : Int32) p32
  ) else (
    some s
  )
set_option maxRecDepth 100000 in
theorem ok_X0_exchange {l : Launch} {D : va_G} {ad : Nat → Nat} {cA : Nat → ClassId} (hj : zInj ad) (s : zS) (a1 : Int32) (a2 : Int32) {r : zS} (h : D_X0_exchange s a1 a2 = some r) : zMet l D ad cA jX0_exchange [.ref 8, .int a1, .int a2] s none r := by
  refine zMet_of jX0_exchange [some (.ref 8), some (.int a1), some (.int a2), none] (by decide +kernel) (Nat.le_of_ble_eq_true rfl) rfl hj ?_
  unfold D_X0_exchange at h
  refine zk_aload_n dX0_exchange_0 rfl rfl ?_
  refine zk_iload_n dX0_exchange_1 rfl rfl ?_
  refine zk_iload_n dX0_exchange_2 rfl rfl ?_
  obtain ⟨p3, h3, h⟩ := zbind h
  refine zc_X0_51 [] (As := [.int _, .int _]) (ok_X0_factorOf hj _ _ _ h3) rfl ⟨Nat.le_of_ble_eq_true rfl, Nat.le_of_ble_eq_true rfl⟩ ⟨Nat.le_refl _, Nat.le_refl _⟩ rfl rfl (Nat.le_of_ble_eq_true rfl) dX0_exchange_3 ?_
  refine zk_lconst (v := 0) dX0_exchange_6 (by decide) ?_
  refine zk_lcmp dX0_exchange_7 ?_
  refine zk_if_lt (tgt := 12) dX0_exchange_8 rfl (fun g8 => ?_) (fun g8 => ?_)
  · replace h := zpos g8 h
    refine zk_aload_n dX0_exchange_12 rfl rfl ?_
    refine zk_aload_n dX0_exchange_13 rfl rfl ?_
    refine zf_X0_13 rfl dX0_exchange_14 ?_
    refine zk_iload_n dX0_exchange_17 rfl rfl ?_
    obtain ⟨g18, h⟩ := zguard h
    refine zk_aald (zoR_of ⟨rfl, rfl, by decide, by decide⟩ g18) dX0_exchange_18 ?_
    refine zk_iconst (v := 2) dX0_exchange_19 (by decide) ?_
    refine zk_iload_n dX0_exchange_20 rfl rfl ?_
    refine zk_iadd dX0_exchange_21 ?_
    obtain ⟨p22, h22, h⟩ := zbind h
    refine zc_X0_63 [] (As := [.ref _, .int _]) (ok_X0_turnRow hj _ _ _ h22) rfl ⟨Nat.le_of_ble_eq_true rfl, Nat.le_of_ble_eq_true rfl⟩ ⟨Nat.le_refl _, Nat.le_refl _⟩ rfl rfl (Nat.le_of_ble_eq_true rfl) dX0_exchange_22 ?_
    refine zk_aload_n dX0_exchange_25 rfl rfl ?_
    refine zk_aload_n dX0_exchange_26 rfl rfl ?_
    refine zf_X0_13 rfl dX0_exchange_27 ?_
    refine zk_iload_n dX0_exchange_30 rfl rfl ?_
    obtain ⟨g31, h⟩ := zguard h
    refine zk_aald (zoR_of ⟨rfl, rfl, by decide, by decide⟩ g31) dX0_exchange_31 ?_
    obtain ⟨p32, h32, h⟩ := zbind h
    refine zc_X0_67 [] (As := [.ref _]) (ok_X0_shorten hj _ _ h32) rfl ⟨Nat.le_of_ble_eq_true rfl, Nat.le_of_ble_eq_true rfl⟩ ⟨Nat.le_refl _, Nat.le_refl _⟩ rfl rfl (Nat.le_of_ble_eq_true rfl) dX0_exchange_32 ?_
    refine zk_iconst (v := 0) dX0_exchange_35 (by decide) ?_
    refine zk_istore_n (i := 3) dX0_exchange_36 rfl (by decide) (zk_eq [_, _, _, _] rfl ?_)
    exact ok_X0_exchange_L37 hj r _ _ _ _ _ h
  · replace h := zneg g8 h
    have e9 := Option.some.inj h
    subst e9
    exact zk_vret rfl ⟨rfl, rfl⟩ dX0_exchange_11
def D_X0_enter (s : zS) (a1 : Int32) : Option (Int32 × zS) :=
  (D_X0_firstStopping s a1).bind fun p2 =>
  if p2 = (-1 : Int32) then (
    some (p2, s)
  ) else (
    (D_X0_exchange s p2 a1).bind fun p14 =>
    some (p2, p14)
  )
set_option maxRecDepth 100000 in
theorem ok_X0_enter {l : Launch} {D : va_G} {ad : Nat → Nat} {cA : Nat → ClassId} (hj : zInj ad) (s : zS) (a1 : Int32) {r : (Int32 × zS)} (h : D_X0_enter s a1 = some r) : zMet l D ad cA jX0_enter [.ref 8, .int a1] s (some (.int r.1)) r.2 := by
  refine zMet_of jX0_enter [some (.ref 8), some (.int a1), none] (by decide +kernel) (Nat.le_of_ble_eq_true rfl) rfl hj ?_
  unfold D_X0_enter at h
  refine zk_aload_n dX0_enter_0 rfl rfl ?_
  refine zk_iload_n dX0_enter_1 rfl rfl ?_
  obtain ⟨p2, h2, h⟩ := zbind h
  refine zc_X0_40 [] (As := [.int _]) (ok_X0_firstStopping hj _ _ h2) rfl ⟨Nat.le_of_ble_eq_true rfl, Nat.le_of_ble_eq_true rfl⟩ ⟨Nat.le_refl _, Nat.le_refl _⟩ rfl rfl (Nat.le_of_ble_eq_true rfl) dX0_enter_2 ?_
  refine zk_istore_n (i := 2) dX0_enter_5 rfl (by decide) (zk_eq [_, _, _] rfl ?_)
  refine zk_iload_n dX0_enter_6 rfl rfl ?_
  refine zk_iconst (v := -1) dX0_enter_7 (by decide) ?_
  refine zk_icmp_eq (tgt := 17) dX0_enter_8 rfl (fun g8 => ?_) (fun g8 => ?_)
  · replace h := zpos g8 h
    refine zk_iload_n dX0_enter_17 rfl rfl ?_
    have e9 := Option.some.inj h
    subst e9
    exact zk_iret rfl ⟨rfl, rfl⟩ dX0_enter_18
  · replace h := zneg g8 h
    refine zk_aload_n dX0_enter_11 rfl rfl ?_
    refine zk_iload_n dX0_enter_12 rfl rfl ?_
    refine zk_iload_n dX0_enter_13 rfl rfl ?_
    obtain ⟨p14, h14, h⟩ := zbind h
    refine zc_X0_43 [] (As := [.int _, .int _]) (ok_X0_exchange hj _ _ _ h14) rfl ⟨Nat.le_of_ble_eq_true rfl, Nat.le_of_ble_eq_true rfl⟩ ⟨Nat.le_refl _, Nat.le_refl _⟩ rfl rfl (Nat.le_of_ble_eq_true rfl) dX0_enter_14 ?_
    refine zk_iload_n dX0_enter_17 rfl rfl ?_
    have e9 := Option.some.inj h
    subst e9
    exact zk_iret rfl ⟨rfl, rfl⟩ dX0_enter_18
def D_X0_drive_B2 (a1 : Int32) (a2 : Int32) (rec2 : Int32 → zS → Option zS) (a3 : Int32) (s : zS) : Option zS :=
    if (1000000 : Int32) ≤ a3 then (
      some s
    ) else (
      (D_X0_firstDriving s a1 a2).bind fun p11 =>
      if p11 = (-1 : Int32) then (
        some s
      ) else (
        (D_X0_enter s p11).bind fun p25 =>
        if p25.1 = (-1 : Int32) then (
          some p25.2
        ) else (
          rec2 (a3 + 1) p25.2
        )
      )
    )
def D_X0_drive_L2 (a1 : Int32) (a2 : Int32) (n : Nat) (a3 : Int32) (s : zS) : Option zS := zfx (fun (rec : Int32 × zS → Option zS) q => D_X0_drive_B2 a1 a2 (fun v0 v1 => rec (v0, v1)) q.1 q.2) n (a3, s)
set_option maxRecDepth 100000 in
theorem D_X0_drive_L2_s (a1 : Int32) (a2 : Int32) (n : Nat) (a3 : Int32) (s : zS) : D_X0_drive_L2 a1 a2 (n + 1) a3 s = D_X0_drive_B2 a1 a2 (D_X0_drive_L2 a1 a2 n) a3 s := rfl
set_option maxRecDepth 100000 in
theorem ok_X0_drive_L2 {l : Launch} {D : va_G} {ad : Nat → Nat} {cA : Nat → ClassId} (hj : zInj ad) (r : zS) (a1 : Int32) (a2 : Int32) : ∀ (n : Nat) (a3 : Int32) (s : zS), D_X0_drive_L2 a1 a2 n a3 s = some r → zOk l D ad cA (zJm jX0_drive) (zEnd D ad cA none r) 2 [some (.ref 8), some (.int a1), some (.int a2), some (.int a3), none] [] s := by
  intro n
  induction n with
  | zero =>
    intro a3 s h
    have h0 : (none : Option zS) = some r := h
    cases h0
  | succ n hr2 =>
    intro a3 s h
    have h : D_X0_drive_B2 a1 a2 (D_X0_drive_L2 a1 a2 n) a3 s = some r := h
    unfold D_X0_drive_B2 at h
    refine zk_iload_n dX0_drive_2 rfl rfl ?_
    refine zk_ldc dX0_drive_3 zw_X0_47 ?_
    refine zk_icmp_ge (tgt := 39) dX0_drive_5 rfl (fun g5 => ?_) (fun g5 => ?_)
    · replace h := zpos g5 h
      have e9 := Option.some.inj h
      subst e9
      exact zk_vret rfl ⟨rfl, rfl⟩ dX0_drive_39
    · replace h := zneg g5 h
      refine zk_aload_n dX0_drive_8 rfl rfl ?_
      refine zk_iload_n dX0_drive_9 rfl rfl ?_
      refine zk_iload_n dX0_drive_10 rfl rfl ?_
      obtain ⟨p11, h11, h⟩ := zbind h
      refine zc_X0_48 [] (As := [.int _, .int _]) (ok_X0_firstDriving hj _ _ _ h11) rfl ⟨Nat.le_of_ble_eq_true rfl, Nat.le_of_ble_eq_true rfl⟩ ⟨Nat.le_refl _, Nat.le_refl _⟩ rfl rfl (Nat.le_of_ble_eq_true rfl) dX0_drive_11 ?_
      refine zk_istore (i := 4) dX0_drive_14 (by decide) (zk_eq [_, _, _, _, _] rfl ?_)
      refine zk_iload dX0_drive_16 rfl ?_
      refine zk_iconst (v := -1) dX0_drive_18 (by decide) ?_
      refine zk_icmp_eq (tgt := 32) dX0_drive_19 rfl (fun g19 => ?_) (fun g19 => ?_)
      · replace h := zpos g19 h
        have e9 := Option.some.inj h
        subst e9
        exact zk_vret rfl ⟨rfl, rfl⟩ dX0_drive_32
      · replace h := zneg g19 h
        refine zk_aload_n dX0_drive_22 rfl rfl ?_
        refine zk_iload dX0_drive_23 rfl ?_
        obtain ⟨p25, h25, h⟩ := zbind h
        refine zc_X0_36 [] (As := [.int _]) (ok_X0_enter hj _ _ h25) rfl ⟨Nat.le_of_ble_eq_true rfl, Nat.le_of_ble_eq_true rfl⟩ ⟨Nat.le_refl _, Nat.le_refl _⟩ rfl rfl (Nat.le_of_ble_eq_true rfl) dX0_drive_25 ?_
        refine zk_iconst (v := -1) dX0_drive_28 (by decide) ?_
        refine zk_icmp_ne (tgt := 33) dX0_drive_29 rfl (fun g29 => ?_) (fun g29 => ?_)
        · replace h := zneg g29 h
          refine zk_iinc dX0_drive_33 rfl (zinc (m := 1) (by decide)) (by decide) (zk_eq [_, _, _, _, _] rfl ?_)
          refine zk_goto (tgt := 2) dX0_drive_36 rfl ?_
          refine zk_mask [true, true, true, true, false] ?_
          exact hr2 _ _ h
        · replace h := zpos g29 h
          have e9 := Option.some.inj h
          subst e9
          exact zk_vret rfl ⟨rfl, rfl⟩ dX0_drive_32
def D_X0_drive (s : zS) (a1 : Int32) (a2 : Int32) : Option zS :=
  D_X0_drive_L2 a1 a2 zFU (0 : Int32) s
set_option maxRecDepth 100000 in
theorem ok_X0_drive {l : Launch} {D : va_G} {ad : Nat → Nat} {cA : Nat → ClassId} (hj : zInj ad) (s : zS) (a1 : Int32) (a2 : Int32) {r : zS} (h : D_X0_drive s a1 a2 = some r) : zMet l D ad cA jX0_drive [.ref 8, .int a1, .int a2] s none r := by
  refine zMet_of jX0_drive [some (.ref 8), some (.int a1), some (.int a2), none, none] (by decide +kernel) (Nat.le_of_ble_eq_true rfl) rfl hj ?_
  unfold D_X0_drive at h
  refine zk_iconst (v := 0) dX0_drive_0 (by decide) ?_
  refine zk_istore_n (i := 3) dX0_drive_1 rfl (by decide) (zk_eq [_, _, _, _, _] rfl ?_)
  exact ok_X0_drive_L2 hj r _ _ _ _ _ h
def D_X0_enterAll_B2  (rec2 : Int32 → zS → Option zS) (a1 : Int32) (s : zS) : Option zS :=
    if (s.1 8 4) ≤ a1 then (
      some s
    ) else (
      (D_X0_enter s a1).bind fun p12 =>
      rec2 (a1 + 1) p12.2
    )
def D_X0_enterAll_L2 (n : Nat) (a1 : Int32) (s : zS) : Option zS := zfx (fun (rec : Int32 × zS → Option zS) q => D_X0_enterAll_B2 (fun v0 v1 => rec (v0, v1)) q.1 q.2) n (a1, s)
set_option maxRecDepth 100000 in
theorem D_X0_enterAll_L2_s (n : Nat) (a1 : Int32) (s : zS) : D_X0_enterAll_L2 (n + 1) a1 s = D_X0_enterAll_B2 (D_X0_enterAll_L2 n) a1 s := rfl
set_option maxRecDepth 100000 in
theorem ok_X0_enterAll_L2 {l : Launch} {D : va_G} {ad : Nat → Nat} {cA : Nat → ClassId} (hj : zInj ad) (r : zS)  : ∀ (n : Nat) (a1 : Int32) (s : zS), D_X0_enterAll_L2 n a1 s = some r → zOk l D ad cA (zJm jX0_enterAll) (zEnd D ad cA none r) 2 [some (.ref 8), some (.int a1)] [] s := by
  intro n
  induction n with
  | zero =>
    intro a1 s h
    have h0 : (none : Option zS) = some r := h
    cases h0
  | succ n hr2 =>
    intro a1 s h
    have h : D_X0_enterAll_B2 (D_X0_enterAll_L2 n) a1 s = some r := h
    unfold D_X0_enterAll_B2 at h
    refine zk_iload_n dX0_enterAll_2 rfl rfl ?_
    refine zk_aload_n dX0_enterAll_3 rfl rfl ?_
    refine zf_X0_27 rfl dX0_enterAll_4 ?_
    refine zk_icmp_ge (tgt := 22) dX0_enterAll_7 rfl (fun g7 => ?_) (fun g7 => ?_)
    · replace h := zpos g7 h
      have e9 := Option.some.inj h
      subst e9
      exact zk_vret rfl ⟨rfl, rfl⟩ dX0_enterAll_22
    · replace h := zneg g7 h
      refine zk_aload_n dX0_enterAll_10 rfl rfl ?_
      refine zk_iload_n dX0_enterAll_11 rfl rfl ?_
      obtain ⟨p12, h12, h⟩ := zbind h
      refine zc_X0_36 [] (As := [.int _]) (ok_X0_enter hj _ _ h12) rfl ⟨Nat.le_of_ble_eq_true rfl, Nat.le_of_ble_eq_true rfl⟩ ⟨Nat.le_refl _, Nat.le_refl _⟩ rfl rfl (Nat.le_of_ble_eq_true rfl) dX0_enterAll_12 ?_
      refine zk_pop dX0_enterAll_15 rfl ?_
      refine zk_iinc dX0_enterAll_16 rfl (zinc (m := 1) (by decide)) (by decide) (zk_eq [_, _] rfl ?_)
      refine zk_goto (tgt := 2) dX0_enterAll_19 rfl ?_
      exact hr2 _ _ h
def D_X0_enterAll (s : zS) : Option zS :=
  D_X0_enterAll_L2 zFU (0 : Int32) s
set_option maxRecDepth 100000 in
theorem ok_X0_enterAll {l : Launch} {D : va_G} {ad : Nat → Nat} {cA : Nat → ClassId} (hj : zInj ad) (s : zS)  {r : zS} (h : D_X0_enterAll s = some r) : zMet l D ad cA jX0_enterAll [.ref 8] s none r := by
  refine zMet_of jX0_enterAll [some (.ref 8), none] (by decide +kernel) (Nat.le_of_ble_eq_true rfl) rfl hj ?_
  unfold D_X0_enterAll at h
  refine zk_iconst (v := 0) dX0_enterAll_0 (by decide) ?_
  refine zk_istore_n (i := 1) dX0_enterAll_1 rfl (by decide) (zk_eq [_, _] rfl ?_)
  exact ok_X0_enterAll_L2 hj r  _ _ _ h
