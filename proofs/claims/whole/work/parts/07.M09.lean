def D_X9_power_J105 (rec44 : Int32 → Int32 → Int32 → Int32 → Int32 → Option Int32) (s : zS) (a1 : Int32) (a2 : Int32) (a3 : Int32) (a4 : Int32) (a6 : Int32) (a7 : Int32) (k0 : Int32) : Option Int32 :=
  (D_X9_doesWin s a7).bind fun p110 =>
  if p110 = 0 then (
    (D_X9_doesWin s (a7 ||| ((1 : Int32) <<< (a1 &&& 31)))).bind fun p123 =>
    if p123 = 0 then (
      rec44 a3 a4 k0 a6 (a7 + 1)
    ) else (
      (D_X9_bits a7).bind fun p136 =>
      (D_X9_factorial p136).bind fun p139 =>
      (D_X9_bits a7).bind fun p150 =>
      (D_X9_factorial (((s.1 66 5) - (1 : Int32)) - p150)).bind fun p154 =>
      rec44 (a3 + 1) (a4 + (p139 * p154)) k0 a6 (a7 + 1)
    )
  ) else (
    rec44 a3 a4 k0 a6 (a7 + 1)
  )
set_option maxRecDepth 100000 in
theorem ok_X9_power_J105 {l : Launch} {D : va_G} {ad : Nat → Nat} {cA : Nat → ClassId} (hj : zInj ad) (r : Int32) (s : zS) (a1 : Int32) (a2 : Int32) (a3 : Int32) (a4 : Int32) (a6 : Int32) (a7 : Int32) (k0 : Int32) (rec44 : Int32 → Int32 → Int32 → Int32 → Int32 → Option Int32) (hr44 : ∀ (b3 : Int32) (b4 : Int32) (b5 : Int32) (b6 : Int32) (b7 : Int32), rec44 b3 b4 b5 b6 b7 = some r → zOk l D ad cA (zJm jX9_power) (zEnd D ad cA (some (.int r)) s) 44 [some (.ref 66), some (.int a1), some (.int a2), some (.int b3), some (.int b4), some (.int b5), some (.int b6), some (.int b7)] [] s) (h : D_X9_power_J105 rec44 s a1 a2 a3 a4 a6 a7 k0 = some r) : zOk l D ad cA (zJm jX9_power) (zEnd D ad cA (some (.int r)) s) 105 [some (.ref 66), some (.int a1), some (.int a2), some (.int a3), some (.int a4), none, some (.int a6), some (.int a7)] [.int k0] s := by
  unfold D_X9_power_J105 at h
  refine zk_istore (i := 5) dX9_power_105 (by decide) (zk_eq [_, _, _, _, _, _, _, _] rfl ?_)
  refine zk_aload_n dX9_power_107 rfl rfl ?_
  refine zk_iload dX9_power_108 rfl ?_
  obtain ⟨p110, h110, h⟩ := zbind h
  refine zc_X9_226 [] (As := [.int _]) (ok_X9_doesWin hj _ _ h110) rfl ⟨Nat.le_of_ble_eq_true rfl, Nat.le_of_ble_eq_true rfl⟩ ⟨Nat.le_refl _, Nat.le_refl _⟩ rfl rfl (Nat.le_of_ble_eq_true rfl) dX9_power_110 ?_
  refine zk_if_ne (tgt := 161) dX9_power_113 rfl (fun g113 => ?_) (fun g113 => ?_)
  · replace h := zneg g113 h
    refine zk_iinc dX9_power_161 rfl (zinc (m := 1) (by decide)) (by decide) (zk_eq [_, _, _, _, _, _, _, _] rfl ?_)
    refine zk_goto (tgt := 44) dX9_power_164 rfl ?_
    exact hr44 _ _ _ _ _ h
  · replace h := zpos g113 h
    refine zk_aload_n dX9_power_116 rfl rfl ?_
    refine zk_iload dX9_power_117 rfl ?_
    refine zk_iconst (v := 1) dX9_power_119 (by decide) ?_
    refine zk_iload_n dX9_power_120 rfl rfl ?_
    refine zk_ishl dX9_power_121 ?_
    refine zk_ior dX9_power_122 ?_
    obtain ⟨p123, h123, h⟩ := zbind h
    refine zc_X9_226 [] (As := [.int _]) (ok_X9_doesWin hj _ _ h123) rfl ⟨Nat.le_of_ble_eq_true rfl, Nat.le_of_ble_eq_true rfl⟩ ⟨Nat.le_refl _, Nat.le_refl _⟩ rfl rfl (Nat.le_of_ble_eq_true rfl) dX9_power_123 ?_
    refine zk_if_eq (tgt := 161) dX9_power_126 rfl (fun g126 => ?_) (fun g126 => ?_)
    · replace h := zpos g126 h
      refine zk_iinc dX9_power_161 rfl (zinc (m := 1) (by decide)) (by decide) (zk_eq [_, _, _, _, _, _, _, _] rfl ?_)
      refine zk_goto (tgt := 44) dX9_power_164 rfl ?_
      exact hr44 _ _ _ _ _ h
    · replace h := zneg g126 h
      refine zk_iinc dX9_power_129 rfl (zinc (m := 1) (by decide)) (by decide) (zk_eq [_, _, _, _, _, _, _, _] rfl ?_)
      refine zk_iload dX9_power_132 rfl ?_
      refine zk_iload dX9_power_134 rfl ?_
      obtain ⟨p136, h136, h⟩ := zbind h
      refine zc_X9_114 [.int _] (As := [.int _]) (ok_X9_bits hj _ _ h136) rfl ⟨Nat.le_of_ble_eq_true rfl, Nat.le_of_ble_eq_true rfl⟩ ⟨Nat.le_refl _, Nat.le_refl _⟩ rfl rfl (Nat.le_of_ble_eq_true rfl) dX9_power_136 ?_
      obtain ⟨p139, h139, h⟩ := zbind h
      refine zc_X9_125 [.int _] (As := [.int _]) (ok_X9_factorial hj _ _ h139) rfl ⟨Nat.le_of_ble_eq_true rfl, Nat.le_of_ble_eq_true rfl⟩ ⟨Nat.le_refl _, Nat.le_refl _⟩ rfl rfl (Nat.le_of_ble_eq_true rfl) dX9_power_139 ?_
      refine zk_aload_n dX9_power_142 rfl rfl ?_
      refine zf_X9_215 rfl dX9_power_143 ?_
      refine zk_iconst (v := 1) dX9_power_146 (by decide) ?_
      refine zk_isub dX9_power_147 ?_
      refine zk_iload dX9_power_148 rfl ?_
      obtain ⟨p150, h150, h⟩ := zbind h
      refine zc_X9_114 [.int _, .int _, .int _] (As := [.int _]) (ok_X9_bits hj _ _ h150) rfl ⟨Nat.le_of_ble_eq_true rfl, Nat.le_of_ble_eq_true rfl⟩ ⟨Nat.le_refl _, Nat.le_refl _⟩ rfl rfl (Nat.le_of_ble_eq_true rfl) dX9_power_150 ?_
      refine zk_isub dX9_power_153 ?_
      obtain ⟨p154, h154, h⟩ := zbind h
      refine zc_X9_125 [.int _, .int _] (As := [.int _]) (ok_X9_factorial hj _ _ h154) rfl ⟨Nat.le_of_ble_eq_true rfl, Nat.le_of_ble_eq_true rfl⟩ ⟨Nat.le_refl _, Nat.le_refl _⟩ rfl rfl (Nat.le_of_ble_eq_true rfl) dX9_power_154 ?_
      refine zk_imul dX9_power_157 ?_
      refine zk_iadd dX9_power_158 ?_
      refine zk_istore (i := 4) dX9_power_159 (by decide) (zk_eq [_, _, _, _, _, _, _, _] rfl ?_)
      refine zk_iinc dX9_power_161 rfl (zinc (m := 1) (by decide)) (by decide) (zk_eq [_, _, _, _, _, _, _, _] rfl ?_)
      refine zk_goto (tgt := 44) dX9_power_164 rfl ?_
      exact hr44 _ _ _ _ _ h
def D_X9_power_J104 (rec44 : Int32 → Int32 → Int32 → Int32 → Int32 → Option Int32) (s : zS) (a1 : Int32) (a2 : Int32) (a3 : Int32) (a4 : Int32) (a6 : Int32) (a7 : Int32) : Option Int32 :=
  D_X9_power_J105 rec44 s a1 a2 a3 a4 a6 a7 (0 : Int32)
set_option maxRecDepth 100000 in
theorem ok_X9_power_J104 {l : Launch} {D : va_G} {ad : Nat → Nat} {cA : Nat → ClassId} (hj : zInj ad) (r : Int32) (s : zS) (a1 : Int32) (a2 : Int32) (a3 : Int32) (a4 : Int32) (a6 : Int32) (a7 : Int32) (rec44 : Int32 → Int32 → Int32 → Int32 → Int32 → Option Int32) (hr44 : ∀ (b3 : Int32) (b4 : Int32) (b5 : Int32) (b6 : Int32) (b7 : Int32), rec44 b3 b4 b5 b6 b7 = some r → zOk l D ad cA (zJm jX9_power) (zEnd D ad cA (some (.int r)) s) 44 [some (.ref 66), some (.int a1), some (.int a2), some (.int b3), some (.int b4), some (.int b5), some (.int b6), some (.int b7)] [] s) (h : D_X9_power_J104 rec44 s a1 a2 a3 a4 a6 a7 = some r) : zOk l D ad cA (zJm jX9_power) (zEnd D ad cA (some (.int r)) s) 104 [some (.ref 66), some (.int a1), some (.int a2), some (.int a3), some (.int a4), none, some (.int a6), some (.int a7)] [] s := by
  unfold D_X9_power_J104 at h
  refine zk_iconst (v := 0) dX9_power_104 (by decide) ?_
  exact ok_X9_power_J105 hj r _ _ _ _ _ _ _ _ _ hr44 h
def D_X9_power_J81 (rec44 : Int32 → Int32 → Int32 → Int32 → Int32 → Option Int32) (s : zS) (a1 : Int32) (a2 : Int32) (a3 : Int32) (a4 : Int32) (a5 : Int32) (a7 : Int32) (k0 : Int32) : Option Int32 :=
  rec44 a3 a4 a5 k0 (a7 + 1)
set_option maxRecDepth 100000 in
theorem ok_X9_power_J81 {l : Launch} {D : va_G} {ad : Nat → Nat} {cA : Nat → ClassId} (hj : zInj ad) (r : Int32) (s : zS) (a1 : Int32) (a2 : Int32) (a3 : Int32) (a4 : Int32) (a5 : Int32) (a7 : Int32) (k0 : Int32) (rec44 : Int32 → Int32 → Int32 → Int32 → Int32 → Option Int32) (hr44 : ∀ (b3 : Int32) (b4 : Int32) (b5 : Int32) (b6 : Int32) (b7 : Int32), rec44 b3 b4 b5 b6 b7 = some r → zOk l D ad cA (zJm jX9_power) (zEnd D ad cA (some (.int r)) s) 44 [some (.ref 66), some (.int a1), some (.int a2), some (.int b3), some (.int b4), some (.int b5), some (.int b6), some (.int b7)] [] s) (h : D_X9_power_J81 rec44 s a1 a2 a3 a4 a5 a7 k0 = some r) : zOk l D ad cA (zJm jX9_power) (zEnd D ad cA (some (.int r)) s) 81 [some (.ref 66), some (.int a1), some (.int a2), some (.int a3), some (.int a4), some (.int a5), none, some (.int a7)] [.int k0] s := by
  unfold D_X9_power_J81 at h
  refine zk_istore (i := 6) dX9_power_81 (by decide) (zk_eq [_, _, _, _, _, _, _, _] rfl ?_)
  refine zk_goto (tgt := 161) dX9_power_83 rfl ?_
  refine zk_iinc dX9_power_161 rfl (zinc (m := 1) (by decide)) (by decide) (zk_eq [_, _, _, _, _, _, _, _] rfl ?_)
  refine zk_goto (tgt := 44) dX9_power_164 rfl ?_
  exact hr44 _ _ _ _ _ h
def D_X9_power_J80 (rec44 : Int32 → Int32 → Int32 → Int32 → Int32 → Option Int32) (s : zS) (a1 : Int32) (a2 : Int32) (a3 : Int32) (a4 : Int32) (a5 : Int32) (a7 : Int32) : Option Int32 :=
  D_X9_power_J81 rec44 s a1 a2 a3 a4 a5 a7 (0 : Int32)
set_option maxRecDepth 100000 in
theorem ok_X9_power_J80 {l : Launch} {D : va_G} {ad : Nat → Nat} {cA : Nat → ClassId} (hj : zInj ad) (r : Int32) (s : zS) (a1 : Int32) (a2 : Int32) (a3 : Int32) (a4 : Int32) (a5 : Int32) (a7 : Int32) (rec44 : Int32 → Int32 → Int32 → Int32 → Int32 → Option Int32) (hr44 : ∀ (b3 : Int32) (b4 : Int32) (b5 : Int32) (b6 : Int32) (b7 : Int32), rec44 b3 b4 b5 b6 b7 = some r → zOk l D ad cA (zJm jX9_power) (zEnd D ad cA (some (.int r)) s) 44 [some (.ref 66), some (.int a1), some (.int a2), some (.int b3), some (.int b4), some (.int b5), some (.int b6), some (.int b7)] [] s) (h : D_X9_power_J80 rec44 s a1 a2 a3 a4 a5 a7 = some r) : zOk l D ad cA (zJm jX9_power) (zEnd D ad cA (some (.int r)) s) 80 [some (.ref 66), some (.int a1), some (.int a2), some (.int a3), some (.int a4), some (.int a5), none, some (.int a7)] [] s := by
  unfold D_X9_power_J80 at h
  refine zk_iconst (v := 0) dX9_power_80 (by decide) ?_
  exact ok_X9_power_J81 hj r _ _ _ _ _ _ _ _ _ hr44 h
def D_X9_power_B44 (s : zS) (a1 : Int32) (a2 : Int32) (rec44 : Int32 → Int32 → Int32 → Int32 → Int32 → Option Int32) (a3 : Int32) (a4 : Int32) (a5 : Int32) (a6 : Int32) (a7 : Int32) : Option Int32 :=
    (D_X9_allVoters s).bind fun p47 =>
    if p47 < a7 then (
      if a2 = 0 then (
        some a3
      ) else (
        if a2 = (1 : Int32) then (
          some a4
        ) else (
          if a2 = (2 : Int32) then (
            if a5 = 0 then (
              some (0 : Int32)
            ) else (
              some (1 : Int32)
            )
          ) else (
            if a6 = 0 then (
              some (0 : Int32)
            ) else (
              some (1 : Int32)
            )
          )
        )
      )
    ) else (
      (D_X9_has a7 a1).bind fun p56 =>
      if p56 = 0 then (
        if a5 = 0 then (
          D_X9_power_J104 rec44 s a1 a2 a3 a4 a6 a7
        ) else (
          (D_X9_doesWin s a7).bind fun p94 =>
          if p94 = 0 then (
            D_X9_power_J105 rec44 s a1 a2 a3 a4 a6 a7 (1 : Int32)
          ) else (
            D_X9_power_J104 rec44 s a1 a2 a3 a4 a6 a7
          )
        )
      ) else (
        if a6 = 0 then (
          D_X9_power_J80 rec44 s a1 a2 a3 a4 a5 a7
        ) else (
          (D_X9_isLeast s a7).bind fun p70 =>
          if p70 = 0 then (
            D_X9_power_J81 rec44 s a1 a2 a3 a4 a5 a7 (1 : Int32)
          ) else (
            D_X9_power_J80 rec44 s a1 a2 a3 a4 a5 a7
          )
        )
      )
    )
def D_X9_power_L44 (s : zS) (a1 : Int32) (a2 : Int32) (n : Nat) (a3 : Int32) (a4 : Int32) (a5 : Int32) (a6 : Int32) (a7 : Int32) : Option Int32 := zfx (fun (rec : Int32 × Int32 × Int32 × Int32 × Int32 → Option Int32) q => D_X9_power_B44 s a1 a2 (fun v0 v1 v2 v3 v4 => rec (v0, v1, v2, v3, v4)) q.1 q.2.1 q.2.2.1 q.2.2.2.1 q.2.2.2.2) n (a3, a4, a5, a6, a7)
set_option maxRecDepth 100000 in
theorem D_X9_power_L44_s (s : zS) (a1 : Int32) (a2 : Int32) (n : Nat) (a3 : Int32) (a4 : Int32) (a5 : Int32) (a6 : Int32) (a7 : Int32) : D_X9_power_L44 s a1 a2 (n + 1) a3 a4 a5 a6 a7 = D_X9_power_B44 s a1 a2 (D_X9_power_L44 s a1 a2 n) a3 a4 a5 a6 a7 := rfl
set_option maxRecDepth 100000 in
theorem ok_X9_power_L44 {l : Launch} {D : va_G} {ad : Nat → Nat} {cA : Nat → ClassId} (hj : zInj ad) (r : Int32) (s : zS) (a1 : Int32) (a2 : Int32) : ∀ (n : Nat) (a3 : Int32) (a4 : Int32) (a5 : Int32) (a6 : Int32) (a7 : Int32), D_X9_power_L44 s a1 a2 n a3 a4 a5 a6 a7 = some r → zOk l D ad cA (zJm jX9_power) (zEnd D ad cA (some (.int r)) s) 44 [some (.ref 66), some (.int a1), some (.int a2), some (.int a3), some (.int a4), some (.int a5), some (.int a6), some (.int a7)] [] s := by
  intro n
  induction n with
  | zero =>
    intro a3 a4 a5 a6 a7 h
    have h0 : (none : Option Int32) = some r := h
    cases h0
  | succ n hr44 =>
    intro a3 a4 a5 a6 a7 h
    have h : D_X9_power_B44 s a1 a2 (D_X9_power_L44 s a1 a2 n) a3 a4 a5 a6 a7 = some r := h
    unfold D_X9_power_B44 at h
    refine zk_iload dX9_power_44 rfl ?_
    refine zk_aload_n dX9_power_46 rfl rfl ?_
    obtain ⟨p47, h47, h⟩ := zbind h
    refine zc_X9_223 [.int _] (As := []) (ok_X9_allVoters hj _ h47) rfl ⟨Nat.le_of_ble_eq_true rfl, Nat.le_of_ble_eq_true rfl⟩ ⟨Nat.le_refl _, Nat.le_refl _⟩ rfl rfl (Nat.le_of_ble_eq_true rfl) dX9_power_47 ?_
    refine zk_icmp_gt (tgt := 167) dX9_power_50 rfl (fun g50 => ?_) (fun g50 => ?_)
    · replace h := zpos g50 h
      refine zk_iload_n dX9_power_167 rfl rfl ?_
      refine zk_if_ne (tgt := 175) dX9_power_168 rfl (fun g168 => ?_) (fun g168 => ?_)
      · replace h := zneg g168 h
        refine zk_iload_n dX9_power_175 rfl rfl ?_
        refine zk_iconst (v := 1) dX9_power_176 (by decide) ?_
        refine zk_icmp_ne (tgt := 185) dX9_power_177 rfl (fun g177 => ?_) (fun g177 => ?_)
        · replace h := zneg g177 h
          refine zk_iload_n dX9_power_185 rfl rfl ?_
          refine zk_iconst (v := 2) dX9_power_186 (by decide) ?_
          refine zk_icmp_ne (tgt := 203) dX9_power_187 rfl (fun g187 => ?_) (fun g187 => ?_)
          · replace h := zneg g187 h
            refine zk_iload dX9_power_203 rfl ?_
            refine zk_if_eq (tgt := 212) dX9_power_205 rfl (fun g205 => ?_) (fun g205 => ?_)
            · replace h := zpos g205 h
              refine zk_iconst (v := 0) dX9_power_212 (by decide) ?_
              have e9 := Option.some.inj h
              subst e9
              exact zk_iret rfl ⟨rfl, rfl⟩ dX9_power_213
            · replace h := zneg g205 h
              refine zk_iconst (v := 1) dX9_power_208 (by decide) ?_
              refine zk_goto (tgt := 213) dX9_power_209 rfl ?_
              have e9 := Option.some.inj h
              subst e9
              exact zk_iret rfl ⟨rfl, rfl⟩ dX9_power_213
          · replace h := zpos g187 h
            refine zk_iload dX9_power_190 rfl ?_
            refine zk_if_eq (tgt := 199) dX9_power_192 rfl (fun g192 => ?_) (fun g192 => ?_)
            · replace h := zpos g192 h
              refine zk_iconst (v := 0) dX9_power_199 (by decide) ?_
              refine zk_goto (tgt := 213) dX9_power_200 rfl ?_
              have e9 := Option.some.inj h
              subst e9
              exact zk_iret rfl ⟨rfl, rfl⟩ dX9_power_213
            · replace h := zneg g192 h
              refine zk_iconst (v := 1) dX9_power_195 (by decide) ?_
              refine zk_goto (tgt := 213) dX9_power_196 rfl ?_
              have e9 := Option.some.inj h
              subst e9
              exact zk_iret rfl ⟨rfl, rfl⟩ dX9_power_213
        · replace h := zpos g177 h
          refine zk_iload dX9_power_180 rfl ?_
          refine zk_goto (tgt := 213) dX9_power_182 rfl ?_
          have e9 := Option.some.inj h
          subst e9
          exact zk_iret rfl ⟨rfl, rfl⟩ dX9_power_213
      · replace h := zpos g168 h
        refine zk_iload_n dX9_power_171 rfl rfl ?_
        refine zk_goto (tgt := 213) dX9_power_172 rfl ?_
        have e9 := Option.some.inj h
        subst e9
        exact zk_iret rfl ⟨rfl, rfl⟩ dX9_power_213
    · replace h := zneg g50 h
      refine zk_iload dX9_power_53 rfl ?_
      refine zk_iload_n dX9_power_55 rfl rfl ?_
      obtain ⟨p56, h56, h⟩ := zbind h
      refine zc_X9_121 [] (As := [.int _, .int _]) (ok_X9_has hj _ _ _ h56) rfl ⟨Nat.le_of_ble_eq_true rfl, Nat.le_of_ble_eq_true rfl⟩ ⟨Nat.le_refl _, Nat.le_refl _⟩ rfl rfl (Nat.le_of_ble_eq_true rfl) dX9_power_56 ?_
      refine zk_if_eq (tgt := 86) dX9_power_59 rfl (fun g59 => ?_) (fun g59 => ?_)
      · replace h := zpos g59 h
        refine zk_iload dX9_power_86 rfl ?_
        refine zk_if_eq (tgt := 104) dX9_power_88 rfl (fun g88 => ?_) (fun g88 => ?_)
        · replace h := zpos g88 h
          refine zk_mask [true, true, true, true, true, false, true, true] ?_
          exact ok_X9_power_J104 hj r _ _ _ _ _ _ _ _ hr44 h
        · replace h := zneg g88 h
          refine zk_aload_n dX9_power_91 rfl rfl ?_
          refine zk_iload dX9_power_92 rfl ?_
          obtain ⟨p94, h94, h⟩ := zbind h
          refine zc_X9_226 [] (As := [.int _]) (ok_X9_doesWin hj _ _ h94) rfl ⟨Nat.le_of_ble_eq_true rfl, Nat.le_of_ble_eq_true rfl⟩ ⟨Nat.le_refl _, Nat.le_refl _⟩ rfl rfl (Nat.le_of_ble_eq_true rfl) dX9_power_94 ?_
          refine zk_if_ne (tgt := 104) dX9_power_97 rfl (fun g97 => ?_) (fun g97 => ?_)
          · replace h := zneg g97 h
            refine zk_mask [true, true, true, true, true, false, true, true] ?_
            exact ok_X9_power_J104 hj r _ _ _ _ _ _ _ _ hr44 h
          · replace h := zpos g97 h
            refine zk_iconst (v := 1) dX9_power_100 (by decide) ?_
            refine zk_goto (tgt := 105) dX9_power_101 rfl ?_
            refine zk_mask [true, true, true, true, true, false, true, true] ?_
            exact ok_X9_power_J105 hj r _ _ _ _ _ _ _ _ _ hr44 h
      · replace h := zneg g59 h
        refine zk_iload dX9_power_62 rfl ?_
        refine zk_if_eq (tgt := 80) dX9_power_64 rfl (fun g64 => ?_) (fun g64 => ?_)
        · replace h := zpos g64 h
          refine zk_mask [true, true, true, true, true, true, false, true] ?_
          exact ok_X9_power_J80 hj r _ _ _ _ _ _ _ _ hr44 h
        · replace h := zneg g64 h
          refine zk_aload_n dX9_power_67 rfl rfl ?_
          refine zk_iload dX9_power_68 rfl ?_
          obtain ⟨p70, h70, h⟩ := zbind h
          refine zc_X9_229 [] (As := [.int _]) (ok_X9_isLeast hj _ _ h70) rfl ⟨Nat.le_of_ble_eq_true rfl, Nat.le_of_ble_eq_true rfl⟩ ⟨Nat.le_refl _, Nat.le_refl _⟩ rfl rfl (Nat.le_of_ble_eq_true rfl) dX9_power_70 ?_
          refine zk_if_ne (tgt := 80) dX9_power_73 rfl (fun g73 => ?_) (fun g73 => ?_)
          · replace h := zneg g73 h
            refine zk_mask [true, true, true, true, true, true, false, true] ?_
            exact ok_X9_power_J80 hj r _ _ _ _ _ _ _ _ hr44 h
          · replace h := zpos g73 h
            refine zk_iconst (v := 1) dX9_power_76 (by decide) ?_
            refine zk_goto (tgt := 81) dX9_power_77 rfl ?_
            refine zk_mask [true, true, true, true, true, true, false, true] ?_
            exact ok_X9_power_J81 hj r _ _ _ _ _ _ _ _ _ hr44 h
def D_X9_power (s : zS) (a1 : Int32) (a2 : Int32) : Option Int32 :=
  (D_X9_isVoter s a1).bind fun p2 =>
  if p2 = 0 then (
    some (-2 : Int32)
  ) else (
    (D_X9_in a2.toInt64 (0 : Int64) (3 : Int64)).bind fun p14 =>
    if p14 = 0 then (
      some (-2 : Int32)
    ) else (
      (D_X9_allVoters s).bind fun p30 =>
      (D_X9_doesWin s p30).bind fun p33 =>
      D_X9_power_L44 s a1 a2 zFU (0 : Int32) (0 : Int32) p33 (1 : Int32) (0 : Int32)
    )
  )
set_option maxRecDepth 100000 in
theorem ok_X9_power {l : Launch} {D : va_G} {ad : Nat → Nat} {cA : Nat → ClassId} (hj : zInj ad) (s : zS) (a1 : Int32) (a2 : Int32) {r : Int32} (h : D_X9_power s a1 a2 = some r) : zMet l D ad cA jX9_power [.ref 66, .int a1, .int a2] s (some (.int r)) s := by
  refine zMet_of jX9_power [some (.ref 66), some (.int a1), some (.int a2), none, none, none, none, none] (by decide +kernel) (Nat.le_of_ble_eq_true rfl) rfl hj ?_
  unfold D_X9_power at h
  refine zk_aload_n dX9_power_0 rfl rfl ?_
  refine zk_iload_n dX9_power_1 rfl rfl ?_
  obtain ⟨p2, h2, h⟩ := zbind h
  refine zc_X9_218 [] (As := [.int _]) (ok_X9_isVoter hj _ _ h2) rfl ⟨Nat.le_of_ble_eq_true rfl, Nat.le_of_ble_eq_true rfl⟩ ⟨Nat.le_refl _, Nat.le_refl _⟩ rfl rfl (Nat.le_of_ble_eq_true rfl) dX9_power_2 ?_
  refine zk_if_eq (tgt := 20) dX9_power_5 rfl (fun g5 => ?_) (fun g5 => ?_)
  · replace h := zpos g5 h
    refine zk_bipush (v := -2) dX9_power_20 (by decide) ?_
    have e9 := Option.some.inj h
    subst e9
    exact zk_iret rfl ⟨rfl, rfl⟩ dX9_power_22
  · replace h := zneg g5 h
    refine zk_iload_n dX9_power_8 rfl rfl ?_
    refine zk_i2l dX9_power_9 ?_
    refine zk_lconst (v := 0) dX9_power_10 (by decide) ?_
    refine zk_ldc2 dX9_power_11 zw_X9_232 ?_
    obtain ⟨p14, h14, h⟩ := zbind h
    refine zc_X9_92 [] (As := [.long _, .long _, .long _]) (ok_X9_in hj _ _ _ _ h14) rfl ⟨Nat.le_of_ble_eq_true rfl, Nat.le_of_ble_eq_true rfl⟩ ⟨Nat.le_refl _, Nat.le_refl _⟩ rfl rfl (Nat.le_of_ble_eq_true rfl) dX9_power_14 ?_
    refine zk_if_ne (tgt := 23) dX9_power_17 rfl (fun g17 => ?_) (fun g17 => ?_)
    · replace h := zneg g17 h
      refine zk_iconst (v := 0) dX9_power_23 (by decide) ?_
      refine zk_istore_n (i := 3) dX9_power_24 rfl (by decide) (zk_eq [_, _, _, _, _, _, _, _] rfl ?_)
      refine zk_iconst (v := 0) dX9_power_25 (by decide) ?_
      refine zk_istore (i := 4) dX9_power_26 (by decide) (zk_eq [_, _, _, _, _, _, _, _] rfl ?_)
      refine zk_aload_n dX9_power_28 rfl rfl ?_
      refine zk_aload_n dX9_power_29 rfl rfl ?_
      obtain ⟨p30, h30, h⟩ := zbind h
      refine zc_X9_223 [.ref _] (As := []) (ok_X9_allVoters hj _ h30) rfl ⟨Nat.le_of_ble_eq_true rfl, Nat.le_of_ble_eq_true rfl⟩ ⟨Nat.le_refl _, Nat.le_refl _⟩ rfl rfl (Nat.le_of_ble_eq_true rfl) dX9_power_30 ?_
      obtain ⟨p33, h33, h⟩ := zbind h
      refine zc_X9_226 [] (As := [.int _]) (ok_X9_doesWin hj _ _ h33) rfl ⟨Nat.le_of_ble_eq_true rfl, Nat.le_of_ble_eq_true rfl⟩ ⟨Nat.le_refl _, Nat.le_refl _⟩ rfl rfl (Nat.le_of_ble_eq_true rfl) dX9_power_33 ?_
      refine zk_istore (i := 5) dX9_power_36 (by decide) (zk_eq [_, _, _, _, _, _, _, _] rfl ?_)
      refine zk_iconst (v := 1) dX9_power_38 (by decide) ?_
      refine zk_istore (i := 6) dX9_power_39 (by decide) (zk_eq [_, _, _, _, _, _, _, _] rfl ?_)
      refine zk_iconst (v := 0) dX9_power_41 (by decide) ?_
      refine zk_istore (i := 7) dX9_power_42 (by decide) (zk_eq [_, _, _, _, _, _, _, _] rfl ?_)
      exact ok_X9_power_L44 hj r _ _ _ _ _ _ _ _ _ h
    · replace h := zpos g17 h
      refine zk_bipush (v := -2) dX9_power_20 (by decide) ?_
      have e9 := Option.some.inj h
      subst e9
      exact zk_iret rfl ⟨rfl, rfl⟩ dX9_power_22
def D_X9_price (s : zS) (a1 : Int32) (a2 : Int32) : Option (Int32 × zS) :=
  (D_X9_in a1.toInt64 (0 : Int64) (((s.1 66 18) - (1 : Int32)).toInt64)).bind fun p10 =>
  if p10 = 0 then (
    some ((-2 : Int32), s)
  ) else (
    (D_X9_in a2.toInt64 (0 : Int64) (1 : Int64)).bind fun p20 =>
    if p20 = 0 then (
      some ((-2 : Int32), s)
    ) else (
      (D_X9_mostOf s (-1 : Int32) (0 : Int32)).bind fun p32 =>
      if a2 = 0 then (
        (D_X9_mostOf p32.2 a1 (1 : Int32)).bind fun p43 =>
        some ((p43.1 - p32.1), p43.2)
      ) else (
        (D_X9_mostOf p32.2 a1 (-1 : Int32)).bind fun p55 =>
        some ((p32.1 - p55.1), p55.2)
      )
    )
  )
set_option maxRecDepth 100000 in
theorem ok_X9_price {l : Launch} {D : va_G} {ad : Nat → Nat} {cA : Nat → ClassId} (hj : zInj ad) (s : zS) (a1 : Int32) (a2 : Int32) {r : (Int32 × zS)} (h : D_X9_price s a1 a2 = some r) : zMet l D ad cA jX9_price [.ref 66, .int a1, .int a2] s (some (.int r.1)) r.2 := by
  refine zMet_of jX9_price [some (.ref 66), some (.int a1), some (.int a2), none] (by decide +kernel) (Nat.le_of_ble_eq_true rfl) rfl hj ?_
  unfold D_X9_price at h
  refine zk_iload_n dX9_price_0 rfl rfl ?_
  refine zk_i2l dX9_price_1 ?_
  refine zk_lconst (v := 0) dX9_price_2 (by decide) ?_
  refine zk_aload_n dX9_price_3 rfl rfl ?_
  refine zf_X9_289 rfl dX9_price_4 ?_
  refine zk_iconst (v := 1) dX9_price_7 (by decide) ?_
  refine zk_isub dX9_price_8 ?_
  refine zk_i2l dX9_price_9 ?_
  obtain ⟨p10, h10, h⟩ := zbind h
  refine zc_X9_92 [] (As := [.long _, .long _, .long _]) (ok_X9_in hj _ _ _ _ h10) rfl ⟨Nat.le_of_ble_eq_true rfl, Nat.le_of_ble_eq_true rfl⟩ ⟨Nat.le_refl _, Nat.le_refl _⟩ rfl rfl (Nat.le_of_ble_eq_true rfl) dX9_price_10 ?_
  refine zk_if_eq (tgt := 26) dX9_price_13 rfl (fun g13 => ?_) (fun g13 => ?_)
  · replace h := zpos g13 h
    refine zk_bipush (v := -2) dX9_price_26 (by decide) ?_
    have e9 := Option.some.inj h
    subst e9
    exact zk_iret rfl ⟨rfl, rfl⟩ dX9_price_28
  · replace h := zneg g13 h
    refine zk_iload_n dX9_price_16 rfl rfl ?_
    refine zk_i2l dX9_price_17 ?_
    refine zk_lconst (v := 0) dX9_price_18 (by decide) ?_
    refine zk_lconst (v := 1) dX9_price_19 (by decide) ?_
    obtain ⟨p20, h20, h⟩ := zbind h
    refine zc_X9_92 [] (As := [.long _, .long _, .long _]) (ok_X9_in hj _ _ _ _ h20) rfl ⟨Nat.le_of_ble_eq_true rfl, Nat.le_of_ble_eq_true rfl⟩ ⟨Nat.le_refl _, Nat.le_refl _⟩ rfl rfl (Nat.le_of_ble_eq_true rfl) dX9_price_20 ?_
    refine zk_if_ne (tgt := 29) dX9_price_23 rfl (fun g23 => ?_) (fun g23 => ?_)
    · replace h := zneg g23 h
      refine zk_aload_n dX9_price_29 rfl rfl ?_
      refine zk_iconst (v := -1) dX9_price_30 (by decide) ?_
      refine zk_iconst (v := 0) dX9_price_31 (by decide) ?_
      obtain ⟨p32, h32, h⟩ := zbind h
      refine zc_X9_295 [] (As := [.int _, .int _]) (ok_X9_mostOf hj _ _ _ h32) rfl ⟨Nat.le_of_ble_eq_true rfl, Nat.le_of_ble_eq_true rfl⟩ ⟨Nat.le_refl _, Nat.le_refl _⟩ rfl rfl (Nat.le_of_ble_eq_true rfl) dX9_price_32 ?_
      refine zk_istore_n (i := 3) dX9_price_35 rfl (by decide) (zk_eq [_, _, _, _] rfl ?_)
      refine zk_iload_n dX9_price_36 rfl rfl ?_
      refine zk_if_ne (tgt := 51) dX9_price_37 rfl (fun g37 => ?_) (fun g37 => ?_)
      · replace h := zneg g37 h
        refine zk_iload_n dX9_price_51 rfl rfl ?_
        refine zk_aload_n dX9_price_52 rfl rfl ?_
        refine zk_iload_n dX9_price_53 rfl rfl ?_
        refine zk_iconst (v := -1) dX9_price_54 (by decide) ?_
        obtain ⟨p55, h55, h⟩ := zbind h
        refine zc_X9_295 [.int _] (As := [.int _, .int _]) (ok_X9_mostOf hj _ _ _ h55) rfl ⟨Nat.le_of_ble_eq_true rfl, Nat.le_of_ble_eq_true rfl⟩ ⟨Nat.le_refl _, Nat.le_refl _⟩ rfl rfl (Nat.le_of_ble_eq_true rfl) dX9_price_55 ?_
        refine zk_isub dX9_price_58 ?_
        have e9 := Option.some.inj h
        subst e9
        exact zk_iret rfl ⟨rfl, rfl⟩ dX9_price_59
      · replace h := zpos g37 h
        refine zk_aload_n dX9_price_40 rfl rfl ?_
        refine zk_iload_n dX9_price_41 rfl rfl ?_
        refine zk_iconst (v := 1) dX9_price_42 (by decide) ?_
        obtain ⟨p43, h43, h⟩ := zbind h
        refine zc_X9_295 [] (As := [.int _, .int _]) (ok_X9_mostOf hj _ _ _ h43) rfl ⟨Nat.le_of_ble_eq_true rfl, Nat.le_of_ble_eq_true rfl⟩ ⟨Nat.le_refl _, Nat.le_refl _⟩ rfl rfl (Nat.le_of_ble_eq_true rfl) dX9_price_43 ?_
        refine zk_iload_n dX9_price_46 rfl rfl ?_
        refine zk_isub dX9_price_47 ?_
        refine zk_goto (tgt := 59) dX9_price_48 rfl ?_
        have e9 := Option.some.inj h
        subst e9
        exact zk_iret rfl ⟨rfl, rfl⟩ dX9_price_59
    · replace h := zpos g23 h
      refine zk_bipush (v := -2) dX9_price_26 (by decide) ?_
      have e9 := Option.some.inj h
      subst e9
      exact zk_iret rfl ⟨rfl, rfl⟩ dX9_price_28
def D_X9_quota (s : zS) (a1 : Int32) : Option (Int32 × zS) :=
  (D_X9_in a1.toInt64 (1 : Int64) (400 : Int64)).bind fun p6 =>
  if p6 = 0 then (
    some ((-2 : Int32), s)
  ) else (
    let s22 : zS := zwI s 66 7 a1
    some ((s.1 66 7), s22)
  )
set_option maxRecDepth 100000 in
theorem ok_X9_quota {l : Launch} {D : va_G} {ad : Nat → Nat} {cA : Nat → ClassId} (hj : zInj ad) (s : zS) (a1 : Int32) {r : (Int32 × zS)} (h : D_X9_quota s a1 = some r) : zMet l D ad cA jX9_quota [.ref 66, .int a1] s (some (.int r.1)) r.2 := by
  refine zMet_of jX9_quota [some (.ref 66), some (.int a1), none] (by decide +kernel) (Nat.le_of_ble_eq_true rfl) rfl hj ?_
  unfold D_X9_quota at h
  refine zk_iload_n dX9_quota_0 rfl rfl ?_
  refine zk_i2l dX9_quota_1 ?_
  refine zk_lconst (v := 1) dX9_quota_2 (by decide) ?_
  refine zk_ldc2 dX9_quota_3 zw_X9_221 ?_
  obtain ⟨p6, h6, h⟩ := zbind h
  refine zc_X9_92 [] (As := [.long _, .long _, .long _]) (ok_X9_in hj _ _ _ _ h6) rfl ⟨Nat.le_of_ble_eq_true rfl, Nat.le_of_ble_eq_true rfl⟩ ⟨Nat.le_refl _, Nat.le_refl _⟩ rfl rfl (Nat.le_of_ble_eq_true rfl) dX9_quota_6 ?_
  refine zk_if_ne (tgt := 15) dX9_quota_9 rfl (fun g9 => ?_) (fun g9 => ?_)
  · replace h := zneg g9 h
    refine zk_aload_n dX9_quota_15 rfl rfl ?_
    refine zf_X9_27 rfl dX9_quota_16 ?_
    refine zk_istore_n (i := 2) dX9_quota_19 rfl (by decide) (zk_eq [_, _, _] rfl ?_)
    refine zk_aload_n dX9_quota_20 rfl rfl ?_
    refine zk_iload_n dX9_quota_21 rfl rfl ?_
    refine zp_X9_27 rfl dX9_quota_22 ?_
    refine zk_iload_n dX9_quota_25 rfl rfl ?_
    have e9 := Option.some.inj h
    subst e9
    exact zk_iret rfl ⟨rfl, rfl⟩ dX9_quota_26
  · replace h := zpos g9 h
    refine zk_bipush (v := -2) dX9_quota_12 (by decide) ?_
    have e9 := Option.some.inj h
    subst e9
    exact zk_iret rfl ⟨rfl, rfl⟩ dX9_quota_14
def D_X9_same_B103 (rec41 : Int32 → zS → Option (Int32 × zS)) (rec84 : Int32 → Int32 → Int32 → zS → Option (Int32 × zS)) (s : zS) (a1 : Int32) (a2 : Int32) (a3 : Int32) (a6 : Int32) (rec103 : Int32 → Int32 → Int32 → Option (Int32 × zS)) (a4 : Int32) (a5 : Int32) (a7 : Int32) : Option (Int32 × zS) :=
    if (a2 + (1 : Int32)) < a7 then (
      rec84 a4 a5 (a6 + 1) s
    ) else (
      if a4 ≤ a7 then (
        rec84 a4 a5 (a6 + 1) s
      ) else (
        (D_X9_isSame s a7).bind fun p121 =>
        if p121 = 0 then (
          rec103 a4 a5 (a7 + 1)
        ) else (
          rec103 a7 a6 (a7 + 1)
        )
      )
    )
def D_X9_same_L103 (rec41 : Int32 → zS → Option (Int32 × zS)) (rec84 : Int32 → Int32 → Int32 → zS → Option (Int32 × zS)) (s : zS) (a1 : Int32) (a2 : Int32) (a3 : Int32) (a6 : Int32) (n : Nat) (a4 : Int32) (a5 : Int32) (a7 : Int32) : Option (Int32 × zS) := zfx (fun (rec : Int32 × Int32 × Int32 → Option (Int32 × zS)) q => D_X9_same_B103 rec41 rec84 s a1 a2 a3 a6 (fun v0 v1 v2 => rec (v0, v1, v2)) q.1 q.2.1 q.2.2) n (a4, a5, a7)
set_option maxRecDepth 100000 in
theorem D_X9_same_L103_s (rec41 : Int32 → zS → Option (Int32 × zS)) (rec84 : Int32 → Int32 → Int32 → zS → Option (Int32 × zS)) (s : zS) (a1 : Int32) (a2 : Int32) (a3 : Int32) (a6 : Int32) (n : Nat) (a4 : Int32) (a5 : Int32) (a7 : Int32) : D_X9_same_L103 rec41 rec84 s a1 a2 a3 a6 (n + 1) a4 a5 a7 = D_X9_same_B103 rec41 rec84 s a1 a2 a3 a6 (D_X9_same_L103 rec41 rec84 s a1 a2 a3 a6 n) a4 a5 a7 := rfl
set_option maxRecDepth 100000 in
theorem ok_X9_same_L103 {l : Launch} {D : va_G} {ad : Nat → Nat} {cA : Nat → ClassId} (hj : zInj ad) (r : (Int32 × zS)) (s : zS) (a1 : Int32) (a2 : Int32) (a3 : Int32) (a6 : Int32) (rec41 : Int32 → zS → Option (Int32 × zS)) (hr41 : ∀ (b2 : Int32) (s : zS), rec41 b2 s = some r → zOk l D ad cA (zJm jX9_same) (zEnd D ad cA (some (.int r.1)) r.2) 41 [some (.ref 66), some (.int a1), some (.int b2), none, none, none, none, none] [] s) (rec84 : Int32 → Int32 → Int32 → zS → Option (Int32 × zS)) (hr84 : ∀ (b4 : Int32) (b5 : Int32) (b6 : Int32) (s : zS), rec84 b4 b5 b6 s = some r → zOk l D ad cA (zJm jX9_same) (zEnd D ad cA (some (.int r.1)) r.2) 84 [some (.ref 66), some (.int a1), some (.int a2), some (.int a3), some (.int b4), some (.int b5), some (.int b6), none] [] s) : ∀ (n : Nat) (a4 : Int32) (a5 : Int32) (a7 : Int32), D_X9_same_L103 rec41 rec84 s a1 a2 a3 a6 n a4 a5 a7 = some r → zOk l D ad cA (zJm jX9_same) (zEnd D ad cA (some (.int r.1)) r.2) 103 [some (.ref 66), some (.int a1), some (.int a2), some (.int a3), some (.int a4), some (.int a5), some (.int a6), some (.int a7)] [] s := by
  intro n
  induction n with
  | zero =>
    intro a4 a5 a7 h
    have h0 : (none : Option (Int32 × zS)) = some r := h
    cases h0
  | succ n hr103 =>
    intro a4 a5 a7 h
    have h : D_X9_same_B103 rec41 rec84 s a1 a2 a3 a6 (D_X9_same_L103 rec41 rec84 s a1 a2 a3 a6 n) a4 a5 a7 = some r := h
    unfold D_X9_same_B103 at h
    refine zk_iload dX9_same_103 rfl ?_
    refine zk_iload_n dX9_same_105 rfl rfl ?_
    refine zk_iconst (v := 1) dX9_same_106 (by decide) ?_
    refine zk_iadd dX9_same_107 ?_
    refine zk_icmp_gt (tgt := 141) dX9_same_108 rfl (fun g108 => ?_) (fun g108 => ?_)
    · replace h := zpos g108 h
      refine zk_iinc dX9_same_141 rfl (zinc (m := 1) (by decide)) (by decide) (zk_eq [_, _, _, _, _, _, _, _] rfl ?_)
      refine zk_goto (tgt := 84) dX9_same_144 rfl ?_
      refine zk_mask [true, true, true, true, true, true, true, false] ?_
      exact hr84 _ _ _ _ h
    · replace h := zneg g108 h
      refine zk_iload dX9_same_111 rfl ?_
      refine zk_iload dX9_same_113 rfl ?_
      refine zk_icmp_ge (tgt := 141) dX9_same_115 rfl (fun g115 => ?_) (fun g115 => ?_)
      · replace h := zpos g115 h
        refine zk_iinc dX9_same_141 rfl (zinc (m := 1) (by decide)) (by decide) (zk_eq [_, _, _, _, _, _, _, _] rfl ?_)
        refine zk_goto (tgt := 84) dX9_same_144 rfl ?_
        refine zk_mask [true, true, true, true, true, true, true, false] ?_
        exact hr84 _ _ _ _ h
      · replace h := zneg g115 h
        refine zk_aload_n dX9_same_118 rfl rfl ?_
        refine zk_iload dX9_same_119 rfl ?_
        obtain ⟨p121, h121, h⟩ := zbind h
        refine zc_X9_241 [] (As := [.int _]) (ok_X9_isSame hj _ _ h121) rfl ⟨Nat.le_of_ble_eq_true rfl, Nat.le_of_ble_eq_true rfl⟩ ⟨Nat.le_refl _, Nat.le_refl _⟩ rfl rfl (Nat.le_of_ble_eq_true rfl) dX9_same_121 ?_
        refine zk_if_eq (tgt := 135) dX9_same_124 rfl (fun g124 => ?_) (fun g124 => ?_)
        · replace h := zpos g124 h
          refine zk_iinc dX9_same_135 rfl (zinc (m := 1) (by decide)) (by decide) (zk_eq [_, _, _, _, _, _, _, _] rfl ?_)
          refine zk_goto (tgt := 103) dX9_same_138 rfl ?_
          exact hr103 _ _ _ h
        · replace h := zneg g124 h
          refine zk_iload dX9_same_127 rfl ?_
          refine zk_istore (i := 4) dX9_same_129 (by decide) (zk_eq [_, _, _, _, _, _, _, _] rfl ?_)
          refine zk_iload dX9_same_131 rfl ?_
          refine zk_istore (i := 5) dX9_same_133 (by decide) (zk_eq [_, _, _, _, _, _, _, _] rfl ?_)
          refine zk_iinc dX9_same_135 rfl (zinc (m := 1) (by decide)) (by decide) (zk_eq [_, _, _, _, _, _, _, _] rfl ?_)
          refine zk_goto (tgt := 103) dX9_same_138 rfl ?_
          exact hr103 _ _ _ h
def D_X9_same_B84 (rec41 : Int32 → zS → Option (Int32 × zS)) (a1 : Int32) (a2 : Int32) (a3 : Int32) (rec84 : Int32 → Int32 → Int32 → zS → Option (Int32 × zS)) (a4 : Int32) (a5 : Int32) (a6 : Int32) (s : zS) : Option (Int32 × zS) :=
    if a3 ≤ a6 then (
      if (1000 : Int32) ≤ a4 then (
        rec41 (a2 + 1) s
      ) else (
        (D_X9_layRow s a5 a2).bind fun p159 =>
        if a1 = (-1 : Int32) then (
          some (a4, p159.2)
        ) else (
          zgd (zin a1 5 = true) <|
          some ((p159.2.1 86 a1.toNatClampNeg), p159.2)
        )
      )
    ) else (
      (D_X9_layRow s a6 a2).bind fun p94 =>
      if p94.1 = 0 then (
        rec84 a4 a5 (a6 + 1) p94.2
      ) else (
        D_X9_same_L103 rec41 rec84 p94.2 a1 a2 a3 a6 zFU a4 a5 (1 : Int32)
      )
    )
def D_X9_same_L84 (rec41 : Int32 → zS → Option (Int32 × zS)) (a1 : Int32) (a2 : Int32) (a3 : Int32) (n : Nat) (a4 : Int32) (a5 : Int32) (a6 : Int32) (s : zS) : Option (Int32 × zS) := zfx (fun (rec : Int32 × Int32 × Int32 × zS → Option (Int32 × zS)) q => D_X9_same_B84 rec41 a1 a2 a3 (fun v0 v1 v2 v3 => rec (v0, v1, v2, v3)) q.1 q.2.1 q.2.2.1 q.2.2.2) n (a4, a5, a6, s)
set_option maxRecDepth 100000 in
theorem D_X9_same_L84_s (rec41 : Int32 → zS → Option (Int32 × zS)) (a1 : Int32) (a2 : Int32) (a3 : Int32) (n : Nat) (a4 : Int32) (a5 : Int32) (a6 : Int32) (s : zS) : D_X9_same_L84 rec41 a1 a2 a3 (n + 1) a4 a5 a6 s = D_X9_same_B84 rec41 a1 a2 a3 (D_X9_same_L84 rec41 a1 a2 a3 n) a4 a5 a6 s := rfl
set_option maxRecDepth 100000 in
theorem ok_X9_same_L84 {l : Launch} {D : va_G} {ad : Nat → Nat} {cA : Nat → ClassId} (hj : zInj ad) (r : (Int32 × zS)) (a1 : Int32) (a2 : Int32) (a3 : Int32) (rec41 : Int32 → zS → Option (Int32 × zS)) (hr41 : ∀ (b2 : Int32) (s : zS), rec41 b2 s = some r → zOk l D ad cA (zJm jX9_same) (zEnd D ad cA (some (.int r.1)) r.2) 41 [some (.ref 66), some (.int a1), some (.int b2), none, none, none, none, none] [] s) : ∀ (n : Nat) (a4 : Int32) (a5 : Int32) (a6 : Int32) (s : zS), D_X9_same_L84 rec41 a1 a2 a3 n a4 a5 a6 s = some r → zOk l D ad cA (zJm jX9_same) (zEnd D ad cA (some (.int r.1)) r.2) 84 [some (.ref 66), some (.int a1), some (.int a2), some (.int a3), some (.int a4), some (.int a5), some (.int a6), none] [] s := by
  intro n
  induction n with
  | zero =>
    intro a4 a5 a6 s h
    have h0 : (none : Option (Int32 × zS)) = some r := h
    cases h0
  | succ n hr84 =>
    intro a4 a5 a6 s h
    have h : D_X9_same_B84 rec41 a1 a2 a3 (D_X9_same_L84 rec41 a1 a2 a3 n) a4 a5 a6 s = some r := h
    unfold D_X9_same_B84 at h
    refine zk_iload dX9_same_84 rfl ?_
    refine zk_iload_n dX9_same_86 rfl rfl ?_
    refine zk_icmp_ge (tgt := 147) dX9_same_87 rfl (fun g87 => ?_) (fun g87 => ?_)
    · replace h := zpos g87 h
      refine zk_iload dX9_same_147 rfl ?_
      refine zk_sipush (v := 1000) dX9_same_149 (by decide) ?_
      refine zk_icmp_ge (tgt := 180) dX9_same_152 rfl (fun g152 => ?_) (fun g152 => ?_)
      · replace h := zpos g152 h
        refine zk_iinc dX9_same_180 rfl (zinc (m := 1) (by decide)) (by decide) (zk_eq [_, _, _, _, _, _, _, _] rfl ?_)
        refine zk_goto (tgt := 41) dX9_same_183 rfl ?_
        refine zk_mask [true, true, true, false, false, false, false, false] ?_
        exact hr41 _ _ h
      · replace h := zneg g152 h
        refine zk_aload_n dX9_same_155 rfl rfl ?_
        refine zk_iload dX9_same_156 rfl ?_
        refine zk_iload_n dX9_same_158 rfl rfl ?_
        obtain ⟨p159, h159, h⟩ := zbind h
        refine zc_X9_238 [] (As := [.int _, .int _]) (ok_X9_layRow hj _ _ _ h159) rfl ⟨Nat.le_of_ble_eq_true rfl, Nat.le_of_ble_eq_true rfl⟩ ⟨Nat.le_refl _, Nat.le_refl _⟩ rfl rfl (Nat.le_of_ble_eq_true rfl) dX9_same_159 ?_
        refine zk_pop dX9_same_162 rfl ?_
        refine zk_iload_n dX9_same_163 rfl rfl ?_
        refine zk_iconst (v := -1) dX9_same_164 (by decide) ?_
        refine zk_icmp_ne (tgt := 173) dX9_same_165 rfl (fun g165 => ?_) (fun g165 => ?_)
        · replace h := zneg g165 h
          refine zk_aload_n dX9_same_173 rfl rfl ?_
          refine zf_X9_82 rfl dX9_same_174 ?_
          refine zk_iload_n dX9_same_177 rfl rfl ?_
          obtain ⟨g178, h⟩ := zguard h
          refine zk_iald (zoI_of rfl g178) dX9_same_178 ?_
          have e9 := Option.some.inj h
          subst e9
          exact zk_iret rfl ⟨rfl, rfl⟩ dX9_same_179
        · replace h := zpos g165 h
          refine zk_iload dX9_same_168 rfl ?_
          refine zk_goto (tgt := 179) dX9_same_170 rfl ?_
          have e9 := Option.some.inj h
          subst e9
          exact zk_iret rfl ⟨rfl, rfl⟩ dX9_same_179
    · replace h := zneg g87 h
      refine zk_aload_n dX9_same_90 rfl rfl ?_
      refine zk_iload dX9_same_91 rfl ?_
      refine zk_iload_n dX9_same_93 rfl rfl ?_
      obtain ⟨p94, h94, h⟩ := zbind h
      refine zc_X9_238 [] (As := [.int _, .int _]) (ok_X9_layRow hj _ _ _ h94) rfl ⟨Nat.le_of_ble_eq_true rfl, Nat.le_of_ble_eq_true rfl⟩ ⟨Nat.le_refl _, Nat.le_refl _⟩ rfl rfl (Nat.le_of_ble_eq_true rfl) dX9_same_94 ?_
      refine zk_if_eq (tgt := 141) dX9_same_97 rfl (fun g97 => ?_) (fun g97 => ?_)
      · replace h := zpos g97 h
        refine zk_iinc dX9_same_141 rfl (zinc (m := 1) (by decide)) (by decide) (zk_eq [_, _, _, _, _, _, _, _] rfl ?_)
        refine zk_goto (tgt := 84) dX9_same_144 rfl ?_
        exact hr84 _ _ _ _ h
      · replace h := zneg g97 h
        refine zk_iconst (v := 1) dX9_same_100 (by decide) ?_
        refine zk_istore (i := 7) dX9_same_101 (by decide) (zk_eq [_, _, _, _, _, _, _, _] rfl ?_)
        exact ok_X9_same_L103 hj r _ _ _ _ _ _ hr41 _ hr84 _ _ _ _ h
def D_X9_same_B52 (rec41 : Int32 → zS → Option (Int32 × zS)) (s : zS) (a1 : Int32) (a2 : Int32) (rec52 : Int32 → Int32 → Option (Int32 × zS)) (a3 : Int32) (a4 : Int32) : Option (Int32 × zS) :=
    if (s.1 66 5) ≤ a4 then (
      D_X9_same_L84 rec41 a1 a2 a3 zFU (1000 : Int32) (0 : Int32) (0 : Int32) s
    ) else (
      rec52 (a3 * (a2 + (1 : Int32))) (a4 + 1)
    )
def D_X9_same_L52 (rec41 : Int32 → zS → Option (Int32 × zS)) (s : zS) (a1 : Int32) (a2 : Int32) (n : Nat) (a3 : Int32) (a4 : Int32) : Option (Int32 × zS) := zfx (fun (rec : Int32 × Int32 → Option (Int32 × zS)) q => D_X9_same_B52 rec41 s a1 a2 (fun v0 v1 => rec (v0, v1)) q.1 q.2) n (a3, a4)
set_option maxRecDepth 100000 in
theorem D_X9_same_L52_s (rec41 : Int32 → zS → Option (Int32 × zS)) (s : zS) (a1 : Int32) (a2 : Int32) (n : Nat) (a3 : Int32) (a4 : Int32) : D_X9_same_L52 rec41 s a1 a2 (n + 1) a3 a4 = D_X9_same_B52 rec41 s a1 a2 (D_X9_same_L52 rec41 s a1 a2 n) a3 a4 := rfl
set_option maxRecDepth 100000 in
theorem ok_X9_same_L52 {l : Launch} {D : va_G} {ad : Nat → Nat} {cA : Nat → ClassId} (hj : zInj ad) (r : (Int32 × zS)) (s : zS) (a1 : Int32) (a2 : Int32) (rec41 : Int32 → zS → Option (Int32 × zS)) (hr41 : ∀ (b2 : Int32) (s : zS), rec41 b2 s = some r → zOk l D ad cA (zJm jX9_same) (zEnd D ad cA (some (.int r.1)) r.2) 41 [some (.ref 66), some (.int a1), some (.int b2), none, none, none, none, none] [] s) : ∀ (n : Nat) (a3 : Int32) (a4 : Int32), D_X9_same_L52 rec41 s a1 a2 n a3 a4 = some r → zOk l D ad cA (zJm jX9_same) (zEnd D ad cA (some (.int r.1)) r.2) 52 [some (.ref 66), some (.int a1), some (.int a2), some (.int a3), some (.int a4), none, none, none] [] s := by
  intro n
  induction n with
  | zero =>
    intro a3 a4 h
    have h0 : (none : Option (Int32 × zS)) = some r := h
    cases h0
  | succ n hr52 =>
    intro a3 a4 h
    have h : D_X9_same_B52 rec41 s a1 a2 (D_X9_same_L52 rec41 s a1 a2 n) a3 a4 = some r := h
    unfold D_X9_same_B52 at h
    refine zk_iload dX9_same_52 rfl ?_
    refine zk_aload_n dX9_same_54 rfl rfl ?_
    refine zf_X9_215 rfl dX9_same_55 ?_
    refine zk_icmp_ge (tgt := 73) dX9_same_58 rfl (fun g58 => ?_) (fun g58 => ?_)
    · replace h := zpos g58 h
      refine zk_sipush (v := 1000) dX9_same_73 (by decide) ?_
      refine zk_istore (i := 4) dX9_same_76 (by decide) (zk_eq [_, _, _, _, _, _, _, _] rfl ?_)
      refine zk_iconst (v := 0) dX9_same_78 (by decide) ?_
      refine zk_istore (i := 5) dX9_same_79 (by decide) (zk_eq [_, _, _, _, _, _, _, _] rfl ?_)
      refine zk_iconst (v := 0) dX9_same_81 (by decide) ?_
      refine zk_istore (i := 6) dX9_same_82 (by decide) (zk_eq [_, _, _, _, _, _, _, _] rfl ?_)
      exact ok_X9_same_L84 hj r _ _ _ _ hr41 _ _ _ _ _ h
    · replace h := zneg g58 h
      refine zk_iload_n dX9_same_61 rfl rfl ?_
      refine zk_iload_n dX9_same_62 rfl rfl ?_
      refine zk_iconst (v := 1) dX9_same_63 (by decide) ?_
      refine zk_iadd dX9_same_64 ?_
      refine zk_imul dX9_same_65 ?_
      refine zk_istore_n (i := 3) dX9_same_66 rfl (by decide) (zk_eq [_, _, _, _, _, _, _, _] rfl ?_)
      refine zk_iinc dX9_same_67 rfl (zinc (m := 1) (by decide)) (by decide) (zk_eq [_, _, _, _, _, _, _, _] rfl ?_)
      refine zk_goto (tgt := 52) dX9_same_70 rfl ?_
      exact hr52 _ _ h
def D_X9_same_B41 (a1 : Int32) (rec41 : Int32 → zS → Option (Int32 × zS)) (a2 : Int32) (s : zS) : Option (Int32 × zS) :=
    if (12 : Int32) < a2 then (
      some ((-5 : Int32), s)
    ) else (
      D_X9_same_L52 rec41 s a1 a2 zFU (1 : Int32) (0 : Int32)
    )
def D_X9_same_L41 (a1 : Int32) (n : Nat) (a2 : Int32) (s : zS) : Option (Int32 × zS) := zfx (fun (rec : Int32 × zS → Option (Int32 × zS)) q => D_X9_same_B41 a1 (fun v0 v1 => rec (v0, v1)) q.1 q.2) n (a2, s)
set_option maxRecDepth 100000 in
theorem D_X9_same_L41_s (a1 : Int32) (n : Nat) (a2 : Int32) (s : zS) : D_X9_same_L41 a1 (n + 1) a2 s = D_X9_same_B41 a1 (D_X9_same_L41 a1 n) a2 s := rfl
set_option maxRecDepth 100000 in
theorem ok_X9_same_L41 {l : Launch} {D : va_G} {ad : Nat → Nat} {cA : Nat → ClassId} (hj : zInj ad) (r : (Int32 × zS)) (a1 : Int32) : ∀ (n : Nat) (a2 : Int32) (s : zS), D_X9_same_L41 a1 n a2 s = some r → zOk l D ad cA (zJm jX9_same) (zEnd D ad cA (some (.int r.1)) r.2) 41 [some (.ref 66), some (.int a1), some (.int a2), none, none, none, none, none] [] s := by
  intro n
  induction n with
  | zero =>
    intro a2 s h
    have h0 : (none : Option (Int32 × zS)) = some r := h
    cases h0
  | succ n hr41 =>
    intro a2 s h
    have h : D_X9_same_B41 a1 (D_X9_same_L41 a1 n) a2 s = some r := h
    unfold D_X9_same_B41 at h
    refine zk_iload_n dX9_same_41 rfl rfl ?_
    refine zk_bipush (v := 12) dX9_same_42 (by decide) ?_
    refine zk_icmp_gt (tgt := 186) dX9_same_44 rfl (fun g44 => ?_) (fun g44 => ?_)
    · replace h := zpos g44 h
      refine zk_bipush (v := -5) dX9_same_186 (by decide) ?_
      have e9 := Option.some.inj h
      subst e9
      exact zk_iret rfl ⟨rfl, rfl⟩ dX9_same_188
    · replace h := zneg g44 h
      refine zk_iconst (v := 1) dX9_same_47 (by decide) ?_
      refine zk_istore_n (i := 3) dX9_same_48 rfl (by decide) (zk_eq [_, _, _, _, _, _, _, _] rfl ?_)
      refine zk_iconst (v := 0) dX9_same_49 (by decide) ?_
      refine zk_istore (i := 4) dX9_same_50 (by decide) (zk_eq [_, _, _, _, _, _, _, _] rfl ?_)
      exact ok_X9_same_L52 hj r _ _ _ _ hr41 _ _ _ h
def D_X9_same_J21 (s : zS) (a1 : Int32) : Option (Int32 × zS) :=
  (D_X9_in ((s.1 66 5).toInt64) (1 : Int64) (5 : Int64)).bind fun p30 =>
  if p30 = 0 then (
    some ((-3 : Int32), s)
  ) else (
    D_X9_same_L41 a1 zFU (0 : Int32) s
  )
set_option maxRecDepth 100000 in
theorem ok_X9_same_J21 {l : Launch} {D : va_G} {ad : Nat → Nat} {cA : Nat → ClassId} (hj : zInj ad) (r : (Int32 × zS)) (s : zS) (a1 : Int32) (h : D_X9_same_J21 s a1 = some r) : zOk l D ad cA (zJm jX9_same) (zEnd D ad cA (some (.int r.1)) r.2) 21 [some (.ref 66), some (.int a1), none, none, none, none, none, none] [] s := by
  unfold D_X9_same_J21 at h
  refine zk_aload_n dX9_same_21 rfl rfl ?_
  refine zf_X9_215 rfl dX9_same_22 ?_
  refine zk_i2l dX9_same_25 ?_
  refine zk_lconst (v := 1) dX9_same_26 (by decide) ?_
  refine zk_ldc2 dX9_same_27 zw_X9_236 ?_
  obtain ⟨p30, h30, h⟩ := zbind h
  refine zc_X9_92 [] (As := [.long _, .long _, .long _]) (ok_X9_in hj _ _ _ _ h30) rfl ⟨Nat.le_of_ble_eq_true rfl, Nat.le_of_ble_eq_true rfl⟩ ⟨Nat.le_refl _, Nat.le_refl _⟩ rfl rfl (Nat.le_of_ble_eq_true rfl) dX9_same_30 ?_
  refine zk_if_ne (tgt := 39) dX9_same_33 rfl (fun g33 => ?_) (fun g33 => ?_)
  · replace h := zneg g33 h
    refine zk_iconst (v := 0) dX9_same_39 (by decide) ?_
    refine zk_istore_n (i := 2) dX9_same_40 rfl (by decide) (zk_eq [_, _, _, _, _, _, _, _] rfl ?_)
    exact ok_X9_same_L41 hj r _ _ _ _ h
  · replace h := zpos g33 h
    refine zk_bipush (v := -3) dX9_same_36 (by decide) ?_
    have e9 := Option.some.inj h
    subst e9
    exact zk_iret rfl ⟨rfl, rfl⟩ dX9_same_38
def D_X9_same (s : zS) (a1 : Int32) : Option (Int32 × zS) :=
  if a1 < (-1 : Int32) then (
    some ((-2 : Int32), s)
  ) else (
    if a1 ≤ (-1 : Int32) then (
      D_X9_same_J21 s a1
    ) else (
      (D_X9_isVoter s a1).bind fun p12 =>
      if p12 = 0 then (
        some ((-2 : Int32), s)
      ) else (
        D_X9_same_J21 s a1
      )
    )
  )
set_option maxRecDepth 100000 in
theorem ok_X9_same {l : Launch} {D : va_G} {ad : Nat → Nat} {cA : Nat → ClassId} (hj : zInj ad) (s : zS) (a1 : Int32) {r : (Int32 × zS)} (h : D_X9_same s a1 = some r) : zMet l D ad cA jX9_same [.ref 66, .int a1] s (some (.int r.1)) r.2 := by
  refine zMet_of jX9_same [some (.ref 66), some (.int a1), none, none, none, none, none, none] (by decide +kernel) (Nat.le_of_ble_eq_true rfl) rfl hj ?_
  unfold D_X9_same at h
  refine zk_iload_n dX9_same_0 rfl rfl ?_
  refine zk_iconst (v := -1) dX9_same_1 (by decide) ?_
  refine zk_icmp_lt (tgt := 18) dX9_same_2 rfl (fun g2 => ?_) (fun g2 => ?_)
  · replace h := zpos g2 h
    refine zk_bipush (v := -2) dX9_same_18 (by decide) ?_
    have e9 := Option.some.inj h
    subst e9
    exact zk_iret rfl ⟨rfl, rfl⟩ dX9_same_20
  · replace h := zneg g2 h
    refine zk_iload_n dX9_same_5 rfl rfl ?_
    refine zk_iconst (v := -1) dX9_same_6 (by decide) ?_
    refine zk_icmp_le (tgt := 21) dX9_same_7 rfl (fun g7 => ?_) (fun g7 => ?_)
    · replace h := zpos g7 h
      exact ok_X9_same_J21 hj r _ _ h
    · replace h := zneg g7 h
      refine zk_aload_n dX9_same_10 rfl rfl ?_
      refine zk_iload_n dX9_same_11 rfl rfl ?_
      obtain ⟨p12, h12, h⟩ := zbind h
      refine zc_X9_218 [] (As := [.int _]) (ok_X9_isVoter hj _ _ h12) rfl ⟨Nat.le_of_ble_eq_true rfl, Nat.le_of_ble_eq_true rfl⟩ ⟨Nat.le_refl _, Nat.le_refl _⟩ rfl rfl (Nat.le_of_ble_eq_true rfl) dX9_same_12 ?_
      refine zk_if_ne (tgt := 21) dX9_same_15 rfl (fun g15 => ?_) (fun g15 => ?_)
      · replace h := zneg g15 h
        exact ok_X9_same_J21 hj r _ _ h
      · replace h := zpos g15 h
        refine zk_bipush (v := -2) dX9_same_18 (by decide) ?_
        have e9 := Option.some.inj h
        subst e9
        exact zk_iret rfl ⟨rfl, rfl⟩ dX9_same_20
def D_X9_sides_B43  (rec43 : Int32 → zS → Option (Int32 × zS)) (a2 : Int32) (s : zS) : Option (Int32 × zS) :=
    if (8 : Int32) ≤ a2 then (
      some ((1 : Int32), s)
    ) else (
      zgd (zin a2 8 = true) <|
      let s55 : zS := zwI s 68 a2.toNatClampNeg (0 : Int32)
      rec43 (a2 + 1) s55
    )
def D_X9_sides_L43 (n : Nat) (a2 : Int32) (s : zS) : Option (Int32 × zS) := zfx (fun (rec : Int32 × zS → Option (Int32 × zS)) q => D_X9_sides_B43 (fun v0 v1 => rec (v0, v1)) q.1 q.2) n (a2, s)
set_option maxRecDepth 100000 in
theorem D_X9_sides_L43_s (n : Nat) (a2 : Int32) (s : zS) : D_X9_sides_L43 (n + 1) a2 s = D_X9_sides_B43 (D_X9_sides_L43 n) a2 s := rfl
set_option maxRecDepth 100000 in
theorem ok_X9_sides_L43 {l : Launch} {D : va_G} {ad : Nat → Nat} {cA : Nat → ClassId} (hj : zInj ad) (r : (Int32 × zS))  : ∀ (n : Nat) (a2 : Int32) (s : zS), D_X9_sides_L43 n a2 s = some r → zOk l D ad cA (zJm jX9_sides) (zEnd D ad cA (some (.int r.1)) r.2) 43 [some (.ref 66), none, some (.int a2)] [] s := by
  intro n
  induction n with
  | zero =>
    intro a2 s h
    have h0 : (none : Option (Int32 × zS)) = some r := h
    cases h0
  | succ n hr43 =>
    intro a2 s h
    have h : D_X9_sides_B43 (D_X9_sides_L43 n) a2 s = some r := h
    unfold D_X9_sides_B43 at h
    refine zk_iload_n dX9_sides_43 rfl rfl ?_
    refine zk_bipush (v := 8) dX9_sides_44 (by decide) ?_
    refine zk_icmp_ge (tgt := 62) dX9_sides_46 rfl (fun g46 => ?_) (fun g46 => ?_)
    · replace h := zpos g46 h
      refine zk_iconst (v := 1) dX9_sides_62 (by decide) ?_
      have e9 := Option.some.inj h
      subst e9
      exact zk_iret rfl ⟨rfl, rfl⟩ dX9_sides_63
    · replace h := zneg g46 h
      refine zk_aload_n dX9_sides_49 rfl rfl ?_
      refine zf_X9_17 rfl dX9_sides_50 ?_
      refine zk_iload_n dX9_sides_53 rfl rfl ?_
      refine zk_iconst (v := 0) dX9_sides_54 (by decide) ?_
      obtain ⟨g55, h⟩ := zguard h
      refine zk_iast (zoI_of rfl g55) dX9_sides_55 ?_
      refine zk_iinc dX9_sides_56 rfl (zinc (m := 1) (by decide)) (by decide) (zk_eq [_, _, _] rfl ?_)
      refine zk_goto (tgt := 43) dX9_sides_59 rfl ?_
      exact hr43 _ _ h
def D_X9_sides_B22  (rec22 : Int32 → zS → Option (Int32 × zS)) (a2 : Int32) (s : zS) : Option (Int32 × zS) :=
    if (16 : Int32) ≤ a2 then (
      D_X9_sides_L43 zFU (0 : Int32) s
    ) else (
      zgd (zin a2 16 = true) <|
      let s34 : zS := zwI s 67 a2.toNatClampNeg (0 : Int32)
      rec22 (a2 + 1) s34
    )
def D_X9_sides_L22 (n : Nat) (a2 : Int32) (s : zS) : Option (Int32 × zS) := zfx (fun (rec : Int32 × zS → Option (Int32 × zS)) q => D_X9_sides_B22 (fun v0 v1 => rec (v0, v1)) q.1 q.2) n (a2, s)
set_option maxRecDepth 100000 in
theorem D_X9_sides_L22_s (n : Nat) (a2 : Int32) (s : zS) : D_X9_sides_L22 (n + 1) a2 s = D_X9_sides_B22 (D_X9_sides_L22 n) a2 s := rfl
set_option maxRecDepth 100000 in
theorem ok_X9_sides_L22 {l : Launch} {D : va_G} {ad : Nat → Nat} {cA : Nat → ClassId} (hj : zInj ad) (r : (Int32 × zS))  : ∀ (n : Nat) (a2 : Int32) (s : zS), D_X9_sides_L22 n a2 s = some r → zOk l D ad cA (zJm jX9_sides) (zEnd D ad cA (some (.int r.1)) r.2) 22 [some (.ref 66), none, some (.int a2)] [] s := by
  intro n
  induction n with
  | zero =>
    intro a2 s h
    have h0 : (none : Option (Int32 × zS)) = some r := h
    cases h0
  | succ n hr22 =>
    intro a2 s h
    have h : D_X9_sides_B22 (D_X9_sides_L22 n) a2 s = some r := h
    unfold D_X9_sides_B22 at h
    refine zk_iload_n dX9_sides_22 rfl rfl ?_
    refine zk_bipush (v := 16) dX9_sides_23 (by decide) ?_
    refine zk_icmp_ge (tgt := 41) dX9_sides_25 rfl (fun g25 => ?_) (fun g25 => ?_)
    · replace h := zpos g25 h
      refine zk_iconst (v := 0) dX9_sides_41 (by decide) ?_
      refine zk_istore_n (i := 2) dX9_sides_42 rfl (by decide) (zk_eq [_, _, _] rfl ?_)
      exact ok_X9_sides_L43 hj r  _ _ _ h
    · replace h := zneg g25 h
      refine zk_aload_n dX9_sides_28 rfl rfl ?_
      refine zf_X9_13 rfl dX9_sides_29 ?_
      refine zk_iload_n dX9_sides_32 rfl rfl ?_
      refine zk_iconst (v := 0) dX9_sides_33 (by decide) ?_
      obtain ⟨g34, h⟩ := zguard h
      refine zk_iast (zoI_of rfl g34) dX9_sides_34 ?_
      refine zk_iinc dX9_sides_35 rfl (zinc (m := 1) (by decide)) (by decide) (zk_eq [_, _, _] rfl ?_)
      refine zk_goto (tgt := 22) dX9_sides_38 rfl ?_
      exact hr22 _ _ h
def D_X9_sides (s : zS) (a1 : Int32) : Option (Int32 × zS) :=
  (D_X9_in a1.toInt64 (1 : Int64) (4 : Int64)).bind fun p6 =>
  if p6 = 0 then (
    some ((-2 : Int32), s)
  ) else (
    let s17 : zS := zwI s 66 0 a1
    D_X9_sides_L22 zFU (0 : Int32) s17
  )
set_option maxRecDepth 100000 in
theorem ok_X9_sides {l : Launch} {D : va_G} {ad : Nat → Nat} {cA : Nat → ClassId} (hj : zInj ad) (s : zS) (a1 : Int32) {r : (Int32 × zS)} (h : D_X9_sides s a1 = some r) : zMet l D ad cA jX9_sides [.ref 66, .int a1] s (some (.int r.1)) r.2 := by
  refine zMet_of jX9_sides [some (.ref 66), some (.int a1), none] (by decide +kernel) (Nat.le_of_ble_eq_true rfl) rfl hj ?_
  unfold D_X9_sides at h
  refine zk_iload_n dX9_sides_0 rfl rfl ?_
  refine zk_i2l dX9_sides_1 ?_
  refine zk_lconst (v := 1) dX9_sides_2 (by decide) ?_
  refine zk_ldc2 dX9_sides_3 zw_X9_103 ?_
  obtain ⟨p6, h6, h⟩ := zbind h
  refine zc_X9_92 [] (As := [.long _, .long _, .long _]) (ok_X9_in hj _ _ _ _ h6) rfl ⟨Nat.le_of_ble_eq_true rfl, Nat.le_of_ble_eq_true rfl⟩ ⟨Nat.le_refl _, Nat.le_refl _⟩ rfl rfl (Nat.le_of_ble_eq_true rfl) dX9_sides_6 ?_
  refine zk_if_ne (tgt := 15) dX9_sides_9 rfl (fun g9 => ?_) (fun g9 => ?_)
  · replace h := zneg g9 h
    refine zk_aload_n dX9_sides_15 rfl rfl ?_
    refine zk_iload_n dX9_sides_16 rfl rfl ?_
    refine zp_X9_7 rfl dX9_sides_17 ?_
    refine zk_iconst (v := 0) dX9_sides_20 (by decide) ?_
    refine zk_istore_n (i := 2) dX9_sides_21 rfl (by decide) (zk_eq [_, _, _] rfl ?_)
    refine zk_mask [true, false, true] ?_
    exact ok_X9_sides_L22 hj r  _ _ _ h
  · replace h := zpos g9 h
    refine zk_bipush (v := -2) dX9_sides_12 (by decide) ?_
    have e9 := Option.some.inj h
    subst e9
    exact zk_iret rfl ⟨rfl, rfl⟩ dX9_sides_14
def D_X9_surplus_J38 (s : zS) : Option Int32 :=
  some (-1000000 : Int32)
set_option maxRecDepth 100000 in
theorem ok_X9_surplus_J38 {l : Launch} {D : va_G} {ad : Nat → Nat} {cA : Nat → ClassId} (hj : zInj ad) (r : Int32) (s : zS) (h : D_X9_surplus_J38 s = some r) : zOk l D ad cA (zJm jX9_surplus) (zEnd D ad cA (some (.int r)) s) 38 [none, none, none, none] [] s := by
  unfold D_X9_surplus_J38 at h
  refine zk_ldc dX9_surplus_38 zw_X9_207 ?_
  have e9 := Option.some.inj h
  subst e9
  exact zk_iret rfl ⟨rfl, rfl⟩ dX9_surplus_40
def D_X9_surplus (s : zS) (a1 : Int32) (a2 : Int32) (a3 : Int32) : Option Int32 :=
  (D_X9_isShare a1).bind fun p1 =>
  if p1 = 0 then (
    D_X9_surplus_J38 s
  ) else (
    (D_X9_isSide s a2).bind fun p9 =>
    if p9 = 0 then (
      D_X9_surplus_J38 s
    ) else (
      (D_X9_isSide s a3).bind fun p17 =>
      if p17 = 0 then (
        D_X9_surplus_J38 s
      ) else (
        if a2 = a3 then (
          D_X9_surplus_J38 s
        ) else (
          (D_X9_surplusOf s a1 a2 a3).bind fun p32 =>
          some p32
        )
      )
    )
  )
set_option maxRecDepth 100000 in
theorem ok_X9_surplus {l : Launch} {D : va_G} {ad : Nat → Nat} {cA : Nat → ClassId} (hj : zInj ad) (s : zS) (a1 : Int32) (a2 : Int32) (a3 : Int32) {r : Int32} (h : D_X9_surplus s a1 a2 a3 = some r) : zMet l D ad cA jX9_surplus [.ref 66, .int a1, .int a2, .int a3] s (some (.int r)) s := by
  refine zMet_of jX9_surplus [some (.ref 66), some (.int a1), some (.int a2), some (.int a3)] (by decide +kernel) (Nat.le_of_ble_eq_true rfl) rfl hj ?_
  unfold D_X9_surplus at h
  refine zk_iload_n dX9_surplus_0 rfl rfl ?_
  obtain ⟨p1, h1, h⟩ := zbind h
  refine zc_X9_196 [] (As := [.int _]) (ok_X9_isShare hj _ _ h1) rfl ⟨Nat.le_of_ble_eq_true rfl, Nat.le_of_ble_eq_true rfl⟩ ⟨Nat.le_refl _, Nat.le_refl _⟩ rfl rfl (Nat.le_of_ble_eq_true rfl) dX9_surplus_1 ?_
  refine zk_if_eq (tgt := 38) dX9_surplus_4 rfl (fun g4 => ?_) (fun g4 => ?_)
  · replace h := zpos g4 h
    refine zk_mask [false, false, false, false] ?_
    exact ok_X9_surplus_J38 hj r _ h
  · replace h := zneg g4 h
    refine zk_aload_n dX9_surplus_7 rfl rfl ?_
    refine zk_iload_n dX9_surplus_8 rfl rfl ?_
    obtain ⟨p9, h9, h⟩ := zbind h
    refine zc_X9_118 [] (As := [.int _]) (ok_X9_isSide hj _ _ h9) rfl ⟨Nat.le_of_ble_eq_true rfl, Nat.le_of_ble_eq_true rfl⟩ ⟨Nat.le_refl _, Nat.le_refl _⟩ rfl rfl (Nat.le_of_ble_eq_true rfl) dX9_surplus_9 ?_
    refine zk_if_eq (tgt := 38) dX9_surplus_12 rfl (fun g12 => ?_) (fun g12 => ?_)
    · replace h := zpos g12 h
      refine zk_mask [false, false, false, false] ?_
      exact ok_X9_surplus_J38 hj r _ h
    · replace h := zneg g12 h
      refine zk_aload_n dX9_surplus_15 rfl rfl ?_
      refine zk_iload_n dX9_surplus_16 rfl rfl ?_
      obtain ⟨p17, h17, h⟩ := zbind h
      refine zc_X9_118 [] (As := [.int _]) (ok_X9_isSide hj _ _ h17) rfl ⟨Nat.le_of_ble_eq_true rfl, Nat.le_of_ble_eq_true rfl⟩ ⟨Nat.le_refl _, Nat.le_refl _⟩ rfl rfl (Nat.le_of_ble_eq_true rfl) dX9_surplus_17 ?_
      refine zk_if_eq (tgt := 38) dX9_surplus_20 rfl (fun g20 => ?_) (fun g20 => ?_)
      · replace h := zpos g20 h
        refine zk_mask [false, false, false, false] ?_
        exact ok_X9_surplus_J38 hj r _ h
      · replace h := zneg g20 h
        refine zk_iload_n dX9_surplus_23 rfl rfl ?_
        refine zk_iload_n dX9_surplus_24 rfl rfl ?_
        refine zk_icmp_eq (tgt := 38) dX9_surplus_25 rfl (fun g25 => ?_) (fun g25 => ?_)
        · replace h := zpos g25 h
          refine zk_mask [false, false, false, false] ?_
          exact ok_X9_surplus_J38 hj r _ h
        · replace h := zneg g25 h
          refine zk_aload_n dX9_surplus_28 rfl rfl ?_
          refine zk_iload_n dX9_surplus_29 rfl rfl ?_
          refine zk_iload_n dX9_surplus_30 rfl rfl ?_
          refine zk_iload_n dX9_surplus_31 rfl rfl ?_
          obtain ⟨p32, h32, h⟩ := zbind h
          refine zc_X9_209 [] (As := [.int _, .int _, .int _]) (ok_X9_surplusOf hj _ _ _ _ h32) rfl ⟨Nat.le_of_ble_eq_true rfl, Nat.le_of_ble_eq_true rfl⟩ ⟨Nat.le_refl _, Nat.le_refl _⟩ rfl rfl (Nat.le_of_ble_eq_true rfl) dX9_surplus_32 ?_
          refine zk_goto (tgt := 40) dX9_surplus_35 rfl ?_
          have e9 := Option.some.inj h
          subst e9
          exact zk_iret rfl ⟨rfl, rfl⟩ dX9_surplus_40
def D_X9_tell (s : zS) (a1 : Int32) (a2 : Int32) : Option (Int32 × zS) :=
  (D_X9_in a1.toInt64 (0 : Int64) (((s.1 66 18) - (1 : Int32)).toInt64)).bind fun p10 =>
  if p10 = 0 then (
    some ((-2 : Int32), s)
  ) else (
    (D_X9_in a2.toInt64 (0 : Int64) (1000 : Int64)).bind fun p22 =>
    if p22 = 0 then (
      some ((-2 : Int32), s)
    ) else (
      zgd (zin a1 4 = true) <|
      zgd (zin a1 4 = true) <|
      let s44 : zS := zwI s 76 a1.toNatClampNeg a2
      some ((s.1 76 a1.toNatClampNeg), s44)
    )
  )
set_option maxRecDepth 100000 in
theorem ok_X9_tell {l : Launch} {D : va_G} {ad : Nat → Nat} {cA : Nat → ClassId} (hj : zInj ad) (s : zS) (a1 : Int32) (a2 : Int32) {r : (Int32 × zS)} (h : D_X9_tell s a1 a2 = some r) : zMet l D ad cA jX9_tell [.ref 66, .int a1, .int a2] s (some (.int r.1)) r.2 := by
  refine zMet_of jX9_tell [some (.ref 66), some (.int a1), some (.int a2), none] (by decide +kernel) (Nat.le_of_ble_eq_true rfl) rfl hj ?_
  unfold D_X9_tell at h
  refine zk_iload_n dX9_tell_0 rfl rfl ?_
  refine zk_i2l dX9_tell_1 ?_
  refine zk_lconst (v := 0) dX9_tell_2 (by decide) ?_
  refine zk_aload_n dX9_tell_3 rfl rfl ?_
  refine zf_X9_289 rfl dX9_tell_4 ?_
  refine zk_iconst (v := 1) dX9_tell_7 (by decide) ?_
  refine zk_isub dX9_tell_8 ?_
  refine zk_i2l dX9_tell_9 ?_
  obtain ⟨p10, h10, h⟩ := zbind h
  refine zc_X9_92 [] (As := [.long _, .long _, .long _]) (ok_X9_in hj _ _ _ _ h10) rfl ⟨Nat.le_of_ble_eq_true rfl, Nat.le_of_ble_eq_true rfl⟩ ⟨Nat.le_refl _, Nat.le_refl _⟩ rfl rfl (Nat.le_of_ble_eq_true rfl) dX9_tell_10 ?_
  refine zk_if_eq (tgt := 28) dX9_tell_13 rfl (fun g13 => ?_) (fun g13 => ?_)
  · replace h := zpos g13 h
    refine zk_bipush (v := -2) dX9_tell_28 (by decide) ?_
    have e9 := Option.some.inj h
    subst e9
    exact zk_iret rfl ⟨rfl, rfl⟩ dX9_tell_30
  · replace h := zneg g13 h
    refine zk_iload_n dX9_tell_16 rfl rfl ?_
    refine zk_i2l dX9_tell_17 ?_
    refine zk_lconst (v := 0) dX9_tell_18 (by decide) ?_
    refine zk_ldc2 dX9_tell_19 zw_X9_111 ?_
    obtain ⟨p22, h22, h⟩ := zbind h
    refine zc_X9_92 [] (As := [.long _, .long _, .long _]) (ok_X9_in hj _ _ _ _ h22) rfl ⟨Nat.le_of_ble_eq_true rfl, Nat.le_of_ble_eq_true rfl⟩ ⟨Nat.le_refl _, Nat.le_refl _⟩ rfl rfl (Nat.le_of_ble_eq_true rfl) dX9_tell_22 ?_
    refine zk_if_ne (tgt := 31) dX9_tell_25 rfl (fun g25 => ?_) (fun g25 => ?_)
    · replace h := zneg g25 h
      refine zk_aload_n dX9_tell_31 rfl rfl ?_
      refine zf_X9_51 rfl dX9_tell_32 ?_
      refine zk_iload_n dX9_tell_35 rfl rfl ?_
      obtain ⟨g36, h⟩ := zguard h
      refine zk_iald (zoI_of rfl g36) dX9_tell_36 ?_
      refine zk_istore_n (i := 3) dX9_tell_37 rfl (by decide) (zk_eq [_, _, _, _] rfl ?_)
      refine zk_aload_n dX9_tell_38 rfl rfl ?_
      refine zf_X9_51 rfl dX9_tell_39 ?_
      refine zk_iload_n dX9_tell_42 rfl rfl ?_
      refine zk_iload_n dX9_tell_43 rfl rfl ?_
      obtain ⟨g44, h⟩ := zguard h
      refine zk_iast (zoI_of rfl g44) dX9_tell_44 ?_
      refine zk_iload_n dX9_tell_45 rfl rfl ?_
      have e9 := Option.some.inj h
      subst e9
      exact zk_iret rfl ⟨rfl, rfl⟩ dX9_tell_46
    · replace h := zpos g25 h
      refine zk_bipush (v := -2) dX9_tell_28 (by decide) ?_
      have e9 := Option.some.inj h
      subst e9
      exact zk_iret rfl ⟨rfl, rfl⟩ dX9_tell_30
def D_X9_user (s : zS) (a1 : Int32) : Option (Int32 × zS) :=
  (D_X9_in a1.toInt64 (0 : Int64) (((s.1 66 11) - (1 : Int32)).toInt64)).bind fun p10 =>
  if p10 = 0 then (
    some ((-2 : Int32), s)
  ) else (
    if (s.1 66 14) = (8 : Int32) then (
      some ((-4 : Int32), s)
    ) else (
      zgd (zin (s.1 66 14) 8 = true) <|
      let s40 : zS := zwI s 73 (s.1 66 14).toNatClampNeg a1
      zgd (zin (s40.1 66 14) 8 = true) <|
      let s50 : zS := zwI s40 74 (s40.1 66 14).toNatClampNeg (0 : Int32)
      let s58 : zS := zwI s50 66 14 ((s50.1 66 14) + (1 : Int32))
      some (((s58.1 66 14) - (1 : Int32)), s58)
    )
  )
set_option maxRecDepth 100000 in
theorem ok_X9_user {l : Launch} {D : va_G} {ad : Nat → Nat} {cA : Nat → ClassId} (hj : zInj ad) (s : zS) (a1 : Int32) {r : (Int32 × zS)} (h : D_X9_user s a1 = some r) : zMet l D ad cA jX9_user [.ref 66, .int a1] s (some (.int r.1)) r.2 := by
  refine zMet_of jX9_user [some (.ref 66), some (.int a1)] (by decide +kernel) (Nat.le_of_ble_eq_true rfl) rfl hj ?_
  unfold D_X9_user at h
  refine zk_iload_n dX9_user_0 rfl rfl ?_
  refine zk_i2l dX9_user_1 ?_
  refine zk_lconst (v := 0) dX9_user_2 (by decide) ?_
  refine zk_aload_n dX9_user_3 rfl rfl ?_
  refine zf_X9_33 rfl dX9_user_4 ?_
  refine zk_iconst (v := 1) dX9_user_7 (by decide) ?_
  refine zk_isub dX9_user_8 ?_
  refine zk_i2l dX9_user_9 ?_
  obtain ⟨p10, h10, h⟩ := zbind h
  refine zc_X9_92 [] (As := [.long _, .long _, .long _]) (ok_X9_in hj _ _ _ _ h10) rfl ⟨Nat.le_of_ble_eq_true rfl, Nat.le_of_ble_eq_true rfl⟩ ⟨Nat.le_refl _, Nat.le_refl _⟩ rfl rfl (Nat.le_of_ble_eq_true rfl) dX9_user_10 ?_
  refine zk_if_ne (tgt := 19) dX9_user_13 rfl (fun g13 => ?_) (fun g13 => ?_)
  · replace h := zneg g13 h
    refine zk_aload_n dX9_user_19 rfl rfl ?_
    refine zf_X9_274 rfl dX9_user_20 ?_
    refine zk_bipush (v := 8) dX9_user_23 (by decide) ?_
    refine zk_icmp_ne (tgt := 31) dX9_user_25 rfl (fun g25 => ?_) (fun g25 => ?_)
    · replace h := zneg g25 h
      refine zk_aload_n dX9_user_31 rfl rfl ?_
      refine zf_X9_42 rfl dX9_user_32 ?_
      refine zk_aload_n dX9_user_35 rfl rfl ?_
      refine zf_X9_274 rfl dX9_user_36 ?_
      refine zk_iload_n dX9_user_39 rfl rfl ?_
      obtain ⟨g40, h⟩ := zguard h
      refine zk_iast (zoI_of rfl g40) dX9_user_40 ?_
      refine zk_aload_n dX9_user_41 rfl rfl ?_
      refine zf_X9_45 rfl dX9_user_42 ?_
      refine zk_aload_n dX9_user_45 rfl rfl ?_
      refine zf_X9_274 rfl dX9_user_46 ?_
      refine zk_iconst (v := 0) dX9_user_49 (by decide) ?_
      obtain ⟨g50, h⟩ := zguard h
      refine zk_iast (zoI_of rfl g50) dX9_user_50 ?_
      refine zk_aload_n dX9_user_51 rfl rfl ?_
      refine zk_dup dX9_user_52 rfl ?_
      refine zf_X9_274 rfl dX9_user_53 ?_
      refine zk_iconst (v := 1) dX9_user_56 (by decide) ?_
      refine zk_iadd dX9_user_57 ?_
      refine zp_X9_274 rfl dX9_user_58 ?_
      refine zk_aload_n dX9_user_61 rfl rfl ?_
      refine zf_X9_274 rfl dX9_user_62 ?_
      refine zk_iconst (v := 1) dX9_user_65 (by decide) ?_
      refine zk_isub dX9_user_66 ?_
      have e9 := Option.some.inj h
      subst e9
      exact zk_iret rfl ⟨rfl, rfl⟩ dX9_user_67
    · replace h := zpos g25 h
      refine zk_bipush (v := -4) dX9_user_28 (by decide) ?_
      have e9 := Option.some.inj h
      subst e9
      exact zk_iret rfl ⟨rfl, rfl⟩ dX9_user_30
  · replace h := zpos g13 h
    refine zk_bipush (v := -2) dX9_user_16 (by decide) ?_
    have e9 := Option.some.inj h
    subst e9
    exact zk_iret rfl ⟨rfl, rfl⟩ dX9_user_18
def D_X9_value_J139 (s : zS) (k1 : Int64) (k2 : Int64) : Option (Int32 × zS) :=
  (D_X9_fraction s k1 k2).bind fun p139 =>
  some (p139.1, p139.2)
set_option maxRecDepth 100000 in
theorem ok_X9_value_J139 {l : Launch} {D : va_G} {ad : Nat → Nat} {cA : Nat → ClassId} (hj : zInj ad) (r : (Int32 × zS)) (s : zS) (k1 : Int64) (k2 : Int64) (h : D_X9_value_J139 s k1 k2 = some r) : zOk l D ad cA (zJm jX9_value) (zEnd D ad cA (some (.int r.1)) r.2) 139 [none, none, none, none, none, none, none, none, none] [.long k2, .long k1, .ref 66] s := by
  unfold D_X9_value_J139 at h
  obtain ⟨p139, h139, h⟩ := zbind h
  refine zc_X9_128 [] (As := [.long _, .long _]) (ok_X9_fraction hj _ _ _ h139) rfl ⟨Nat.le_of_ble_eq_true rfl, Nat.le_of_ble_eq_true rfl⟩ ⟨Nat.le_refl _, Nat.le_refl _⟩ rfl rfl (Nat.le_of_ble_eq_true rfl) dX9_value_139 ?_
  have e9 := Option.some.inj h
  subst e9
  exact zk_iret rfl ⟨rfl, rfl⟩ dX9_value_142
def D_X9_value_J79 (rec26 : Int64 → Int32 → Option (Int32 × zS)) (s : zS) (a1 : Int32) (a2 : Int32) (a3 : Int64) (a5 : Int32) (k0 : Int64) : Option (Int32 × zS) :=
  zgd (zin (a5 ||| ((1 : Int32) <<< (a1 &&& 31))) 16 = true) <|
  zgd (zin a5 16 = true) <|
  rec26 (a3 + (k0 * ((s.1 67 (a5 ||| ((1 : Int32) <<< (a1 &&& 31))).toNatClampNeg) - (s.1 67 a5.toNatClampNeg)).toInt64)) (a5 + 1)
set_option maxRecDepth 100000 in
theorem ok_X9_value_J79 {l : Launch} {D : va_G} {ad : Nat → Nat} {cA : Nat → ClassId} (hj : zInj ad) (r : (Int32 × zS)) (s : zS) (a1 : Int32) (a2 : Int32) (a3 : Int64) (a5 : Int32) (k0 : Int64) (rec26 : Int64 → Int32 → Option (Int32 × zS)) (hr26 : ∀ (b3 : Int64) (b5 : Int32), rec26 b3 b5 = some r → zOk l D ad cA (zJm jX9_value) (zEnd D ad cA (some (.int r.1)) r.2) 26 [some (.ref 66), some (.int a1), some (.int a2), some (.long b3), none, some (.int b5), none, none, none] [] s) (h : D_X9_value_J79 rec26 s a1 a2 a3 a5 k0 = some r) : zOk l D ad cA (zJm jX9_value) (zEnd D ad cA (some (.int r.1)) r.2) 79 [some (.ref 66), some (.int a1), some (.int a2), some (.long a3), none, some (.int a5), none, none, none] [.long k0] s := by
  unfold D_X9_value_J79 at h
  refine zk_lstore (i := 7) dX9_value_79 (by decide) (zk_eq [_, _, _, _, _, _, _, _, _] rfl ?_)
  refine zk_lload_n dX9_value_81 rfl rfl ?_
  refine zk_lload dX9_value_82 rfl ?_
  refine zk_aload_n dX9_value_84 rfl rfl ?_
  refine zf_X9_13 rfl dX9_value_85 ?_
  refine zk_iload dX9_value_88 rfl ?_
  refine zk_iconst (v := 1) dX9_value_90 (by decide) ?_
  refine zk_iload_n dX9_value_91 rfl rfl ?_
  refine zk_ishl dX9_value_92 ?_
  refine zk_ior dX9_value_93 ?_
  obtain ⟨g94, h⟩ := zguard h
  refine zk_iald (zoI_of rfl g94) dX9_value_94 ?_
  refine zk_aload_n dX9_value_95 rfl rfl ?_
  refine zf_X9_13 rfl dX9_value_96 ?_
  refine zk_iload dX9_value_99 rfl ?_
  obtain ⟨g101, h⟩ := zguard h
  refine zk_iald (zoI_of rfl g101) dX9_value_101 ?_
  refine zk_isub dX9_value_102 ?_
  refine zk_i2l dX9_value_103 ?_
  refine zk_lmul dX9_value_104 ?_
  refine zk_ladd dX9_value_105 ?_
  refine zk_lstore_n (i := 3) dX9_value_106 rfl (by decide) (zk_eq [_, _, _, _, _, _, _, _, _] rfl ?_)
  refine zk_iinc dX9_value_107 rfl (zinc (m := 1) (by decide)) (by decide) (zk_eq [_, _, _, _, _, _, _, _, _] rfl ?_)
  refine zk_goto (tgt := 26) dX9_value_110 rfl ?_
  refine zk_mask [true, true, true, true, false, true, false, false, false] ?_
  exact hr26 _ _ h
def D_X9_value_B26 (s : zS) (a1 : Int32) (a2 : Int32) (rec26 : Int64 → Int32 → Option (Int32 × zS)) (a3 : Int64) (a5 : Int32) : Option (Int32 × zS) :=
    (D_X9_all s).bind fun p29 =>
    if p29 < a5 then (
      if a2 = 0 then (
        (D_X9_factorial (s.1 66 0)).bind fun p123 =>
        D_X9_value_J139 s a3 p123.toInt64
      ) else (
        D_X9_value_J139 s a3 (((1 : Int32) <<< (((s.1 66 0) - (1 : Int32)) &&& 31)).toInt64)
      )
    ) else (
      (D_X9_has a5 a1).bind fun p38 =>
      if p38 = 0 then (
        (D_X9_bits a5).bind fun p46 =>
        if a2 = 0 then (
          (D_X9_factorial p46).bind fun p57 =>
          (D_X9_factorial (((s.1 66 0) - (1 : Int32)) - p46)).bind fun p70 =>
          D_X9_value_J79 rec26 s a1 a2 a3 a5 (p57.toInt64 * p70.toInt64)
        ) else (
          D_X9_value_J79 rec26 s a1 a2 a3 a5 (1 : Int64)
        )
      ) else (
        rec26 a3 (a5 + 1)
      )
    )
def D_X9_value_L26 (s : zS) (a1 : Int32) (a2 : Int32) (n : Nat) (a3 : Int64) (a5 : Int32) : Option (Int32 × zS) := zfx (fun (rec : Int64 × Int32 → Option (Int32 × zS)) q => D_X9_value_B26 s a1 a2 (fun v0 v1 => rec (v0, v1)) q.1 q.2) n (a3, a5)
set_option maxRecDepth 100000 in
theorem D_X9_value_L26_s (s : zS) (a1 : Int32) (a2 : Int32) (n : Nat) (a3 : Int64) (a5 : Int32) : D_X9_value_L26 s a1 a2 (n + 1) a3 a5 = D_X9_value_B26 s a1 a2 (D_X9_value_L26 s a1 a2 n) a3 a5 := rfl
set_option maxRecDepth 100000 in
theorem ok_X9_value_L26 {l : Launch} {D : va_G} {ad : Nat → Nat} {cA : Nat → ClassId} (hj : zInj ad) (r : (Int32 × zS)) (s : zS) (a1 : Int32) (a2 : Int32) : ∀ (n : Nat) (a3 : Int64) (a5 : Int32), D_X9_value_L26 s a1 a2 n a3 a5 = some r → zOk l D ad cA (zJm jX9_value) (zEnd D ad cA (some (.int r.1)) r.2) 26 [some (.ref 66), some (.int a1), some (.int a2), some (.long a3), none, some (.int a5), none, none, none] [] s := by
  intro n
  induction n with
  | zero =>
    intro a3 a5 h
    have h0 : (none : Option (Int32 × zS)) = some r := h
    cases h0
  | succ n hr26 =>
    intro a3 a5 h
    have h : D_X9_value_B26 s a1 a2 (D_X9_value_L26 s a1 a2 n) a3 a5 = some r := h
    unfold D_X9_value_B26 at h
    refine zk_iload dX9_value_26 rfl ?_
    refine zk_aload_n dX9_value_28 rfl rfl ?_
    obtain ⟨p29, h29, h⟩ := zbind h
    refine zc_X9_88 [.int _] (As := []) (ok_X9_all hj _ h29) rfl ⟨Nat.le_of_ble_eq_true rfl, Nat.le_of_ble_eq_true rfl⟩ ⟨Nat.le_refl _, Nat.le_refl _⟩ rfl rfl (Nat.le_of_ble_eq_true rfl) dX9_value_29 ?_
    refine zk_icmp_gt (tgt := 113) dX9_value_32 rfl (fun g32 => ?_) (fun g32 => ?_)
    · replace h := zpos g32 h
      refine zk_aload_n dX9_value_113 rfl rfl ?_
      refine zk_lload_n dX9_value_114 rfl rfl ?_
      refine zk_iload_n dX9_value_115 rfl rfl ?_
      refine zk_if_ne (tgt := 130) dX9_value_116 rfl (fun g116 => ?_) (fun g116 => ?_)
      · replace h := zneg g116 h
        refine zk_iconst (v := 1) dX9_value_130 (by decide) ?_
        refine zk_aload_n dX9_value_131 rfl rfl ?_
        refine zf_X9_7 rfl dX9_value_132 ?_
        refine zk_iconst (v := 1) dX9_value_135 (by decide) ?_
        refine zk_isub dX9_value_136 ?_
        refine zk_ishl dX9_value_137 ?_
        refine zk_i2l dX9_value_138 ?_
        refine zk_mask [false, false, false, false, false, false, false, false, false] ?_
        exact ok_X9_value_J139 hj r _ _ _ h
      · replace h := zpos g116 h
        refine zk_aload_n dX9_value_119 rfl rfl ?_
        refine zf_X9_7 rfl dX9_value_120 ?_
        obtain ⟨p123, h123, h⟩ := zbind h
        refine zc_X9_125 [.long _, .ref _] (As := [.int _]) (ok_X9_factorial hj _ _ h123) rfl ⟨Nat.le_of_ble_eq_true rfl, Nat.le_of_ble_eq_true rfl⟩ ⟨Nat.le_refl _, Nat.le_refl _⟩ rfl rfl (Nat.le_of_ble_eq_true rfl) dX9_value_123 ?_
        refine zk_i2l dX9_value_126 ?_
        refine zk_goto (tgt := 139) dX9_value_127 rfl ?_
        refine zk_mask [false, false, false, false, false, false, false, false, false] ?_
        exact ok_X9_value_J139 hj r _ _ _ h
    · replace h := zneg g32 h
      refine zk_iload dX9_value_35 rfl ?_
      refine zk_iload_n dX9_value_37 rfl rfl ?_
      obtain ⟨p38, h38, h⟩ := zbind h
      refine zc_X9_121 [] (As := [.int _, .int _]) (ok_X9_has hj _ _ _ h38) rfl ⟨Nat.le_of_ble_eq_true rfl, Nat.le_of_ble_eq_true rfl⟩ ⟨Nat.le_refl _, Nat.le_refl _⟩ rfl rfl (Nat.le_of_ble_eq_true rfl) dX9_value_38 ?_
      refine zk_if_ne (tgt := 107) dX9_value_41 rfl (fun g41 => ?_) (fun g41 => ?_)
      · replace h := zneg g41 h
        refine zk_iinc dX9_value_107 rfl (zinc (m := 1) (by decide)) (by decide) (zk_eq [_, _, _, _, _, _, _, _, _] rfl ?_)
        refine zk_goto (tgt := 26) dX9_value_110 rfl ?_
        exact hr26 _ _ h
      · replace h := zpos g41 h
        refine zk_iload dX9_value_44 rfl ?_
        obtain ⟨p46, h46, h⟩ := zbind h
        refine zc_X9_114 [] (As := [.int _]) (ok_X9_bits hj _ _ h46) rfl ⟨Nat.le_of_ble_eq_true rfl, Nat.le_of_ble_eq_true rfl⟩ ⟨Nat.le_refl _, Nat.le_refl _⟩ rfl rfl (Nat.le_of_ble_eq_true rfl) dX9_value_46 ?_
        refine zk_istore (i := 6) dX9_value_49 (by decide) (zk_eq [_, _, _, _, _, _, _, _, _] rfl ?_)
        refine zk_iload_n dX9_value_51 rfl rfl ?_
        refine zk_if_ne (tgt := 78) dX9_value_52 rfl (fun g52 => ?_) (fun g52 => ?_)
        · replace h := zneg g52 h
          refine zk_lconst (v := 1) dX9_value_78 (by decide) ?_
          refine zk_mask [true, true, true, true, false, true, false, false, false] ?_
          exact ok_X9_value_J79 hj r _ _ _ _ _ _ _ hr26 h
        · replace h := zpos g52 h
          refine zk_iload dX9_value_55 rfl ?_
          obtain ⟨p57, h57, h⟩ := zbind h
          refine zc_X9_125 [] (As := [.int _]) (ok_X9_factorial hj _ _ h57) rfl ⟨Nat.le_of_ble_eq_true rfl, Nat.le_of_ble_eq_true rfl⟩ ⟨Nat.le_refl _, Nat.le_refl _⟩ rfl rfl (Nat.le_of_ble_eq_true rfl) dX9_value_57 ?_
          refine zk_i2l dX9_value_60 ?_
          refine zk_aload_n dX9_value_61 rfl rfl ?_
          refine zf_X9_7 rfl dX9_value_62 ?_
          refine zk_iconst (v := 1) dX9_value_65 (by decide) ?_
          refine zk_isub dX9_value_66 ?_
          refine zk_iload dX9_value_67 rfl ?_
          refine zk_isub dX9_value_69 ?_
          obtain ⟨p70, h70, h⟩ := zbind h
          refine zc_X9_125 [.long _] (As := [.int _]) (ok_X9_factorial hj _ _ h70) rfl ⟨Nat.le_of_ble_eq_true rfl, Nat.le_of_ble_eq_true rfl⟩ ⟨Nat.le_refl _, Nat.le_refl _⟩ rfl rfl (Nat.le_of_ble_eq_true rfl) dX9_value_70 ?_
          refine zk_i2l dX9_value_73 ?_
          refine zk_lmul dX9_value_74 ?_
          refine zk_goto (tgt := 79) dX9_value_75 rfl ?_
          refine zk_mask [true, true, true, true, false, true, false, false, false] ?_
          exact ok_X9_value_J79 hj r _ _ _ _ _ _ _ hr26 h
def D_X9_value (s : zS) (a1 : Int32) (a2 : Int32) : Option (Int32 × zS) :=
  (D_X9_isSide s a1).bind fun p2 =>
  if p2 = 0 then (
    some ((-2 : Int32), s)
  ) else (
    (D_X9_in a2.toInt64 (0 : Int64) (1 : Int64)).bind fun p12 =>
    if p12 = 0 then (
      some ((-2 : Int32), s)
    ) else (
      D_X9_value_L26 s a1 a2 zFU (0 : Int64) (0 : Int32)
    )
  )
set_option maxRecDepth 100000 in
theorem ok_X9_value {l : Launch} {D : va_G} {ad : Nat → Nat} {cA : Nat → ClassId} (hj : zInj ad) (s : zS) (a1 : Int32) (a2 : Int32) {r : (Int32 × zS)} (h : D_X9_value s a1 a2 = some r) : zMet l D ad cA jX9_value [.ref 66, .int a1, .int a2] s (some (.int r.1)) r.2 := by
  refine zMet_of jX9_value [some (.ref 66), some (.int a1), some (.int a2), none, none, none, none, none, none] (by decide +kernel) (Nat.le_of_ble_eq_true rfl) rfl hj ?_
  unfold D_X9_value at h
  refine zk_aload_n dX9_value_0 rfl rfl ?_
  refine zk_iload_n dX9_value_1 rfl rfl ?_
  obtain ⟨p2, h2, h⟩ := zbind h
  refine zc_X9_118 [] (As := [.int _]) (ok_X9_isSide hj _ _ h2) rfl ⟨Nat.le_of_ble_eq_true rfl, Nat.le_of_ble_eq_true rfl⟩ ⟨Nat.le_refl _, Nat.le_refl _⟩ rfl rfl (Nat.le_of_ble_eq_true rfl) dX9_value_2 ?_
  refine zk_if_eq (tgt := 18) dX9_value_5 rfl (fun g5 => ?_) (fun g5 => ?_)
  · replace h := zpos g5 h
    refine zk_bipush (v := -2) dX9_value_18 (by decide) ?_
    have e9 := Option.some.inj h
    subst e9
    exact zk_iret rfl ⟨rfl, rfl⟩ dX9_value_20
  · replace h := zneg g5 h
    refine zk_iload_n dX9_value_8 rfl rfl ?_
    refine zk_i2l dX9_value_9 ?_
    refine zk_lconst (v := 0) dX9_value_10 (by decide) ?_
    refine zk_lconst (v := 1) dX9_value_11 (by decide) ?_
    obtain ⟨p12, h12, h⟩ := zbind h
    refine zc_X9_92 [] (As := [.long _, .long _, .long _]) (ok_X9_in hj _ _ _ _ h12) rfl ⟨Nat.le_of_ble_eq_true rfl, Nat.le_of_ble_eq_true rfl⟩ ⟨Nat.le_refl _, Nat.le_refl _⟩ rfl rfl (Nat.le_of_ble_eq_true rfl) dX9_value_12 ?_
    refine zk_if_ne (tgt := 21) dX9_value_15 rfl (fun g15 => ?_) (fun g15 => ?_)
    · replace h := zneg g15 h
      refine zk_lconst (v := 0) dX9_value_21 (by decide) ?_
      refine zk_lstore_n (i := 3) dX9_value_22 rfl (by decide) (zk_eq [_, _, _, _, _, _, _, _, _] rfl ?_)
      refine zk_iconst (v := 0) dX9_value_23 (by decide) ?_
      refine zk_istore (i := 5) dX9_value_24 (by decide) (zk_eq [_, _, _, _, _, _, _, _, _] rfl ?_)
      exact ok_X9_value_L26 hj r _ _ _ _ _ _ h
    · replace h := zpos g15 h
      refine zk_bipush (v := -2) dX9_value_18 (by decide) ?_
      have e9 := Option.some.inj h
      subst e9
      exact zk_iret rfl ⟨rfl, rfl⟩ dX9_value_20
def D_X9_voter (s : zS) (a1 : Int32) : Option (Int32 × zS) :=
  (D_X9_in a1.toInt64 (0 : Int64) (50 : Int64)).bind fun p6 =>
  if p6 = 0 then (
    some ((-2 : Int32), s)
  ) else (
    if (s.1 66 5) = (8 : Int32) then (
      some ((-4 : Int32), s)
    ) else (
      zgd (zin (s.1 66 5) 8 = true) <|
      let s36 : zS := zwI s 69 (s.1 66 5).toNatClampNeg a1
      let s44 : zS := zwI s36 66 5 ((s36.1 66 5) + (1 : Int32))
      some (((s44.1 66 5) - (1 : Int32)), s44)
    )
  )
set_option maxRecDepth 100000 in
theorem ok_X9_voter {l : Launch} {D : va_G} {ad : Nat → Nat} {cA : Nat → ClassId} (hj : zInj ad) (s : zS) (a1 : Int32) {r : (Int32 × zS)} (h : D_X9_voter s a1 = some r) : zMet l D ad cA jX9_voter [.ref 66, .int a1] s (some (.int r.1)) r.2 := by
  refine zMet_of jX9_voter [some (.ref 66), some (.int a1)] (by decide +kernel) (Nat.le_of_ble_eq_true rfl) rfl hj ?_
  unfold D_X9_voter at h
  refine zk_iload_n dX9_voter_0 rfl rfl ?_
  refine zk_i2l dX9_voter_1 ?_
  refine zk_lconst (v := 0) dX9_voter_2 (by decide) ?_
  refine zk_ldc2 dX9_voter_3 zw_X9_213 ?_
  obtain ⟨p6, h6, h⟩ := zbind h
  refine zc_X9_92 [] (As := [.long _, .long _, .long _]) (ok_X9_in hj _ _ _ _ h6) rfl ⟨Nat.le_of_ble_eq_true rfl, Nat.le_of_ble_eq_true rfl⟩ ⟨Nat.le_refl _, Nat.le_refl _⟩ rfl rfl (Nat.le_of_ble_eq_true rfl) dX9_voter_6 ?_
  refine zk_if_ne (tgt := 15) dX9_voter_9 rfl (fun g9 => ?_) (fun g9 => ?_)
  · replace h := zneg g9 h
    refine zk_aload_n dX9_voter_15 rfl rfl ?_
    refine zf_X9_215 rfl dX9_voter_16 ?_
    refine zk_bipush (v := 8) dX9_voter_19 (by decide) ?_
    refine zk_icmp_ne (tgt := 27) dX9_voter_21 rfl (fun g21 => ?_) (fun g21 => ?_)
    · replace h := zneg g21 h
      refine zk_aload_n dX9_voter_27 rfl rfl ?_
      refine zf_X9_24 rfl dX9_voter_28 ?_
      refine zk_aload_n dX9_voter_31 rfl rfl ?_
      refine zf_X9_215 rfl dX9_voter_32 ?_
      refine zk_iload_n dX9_voter_35 rfl rfl ?_
      obtain ⟨g36, h⟩ := zguard h
      refine zk_iast (zoI_of rfl g36) dX9_voter_36 ?_
      refine zk_aload_n dX9_voter_37 rfl rfl ?_
      refine zk_dup dX9_voter_38 rfl ?_
      refine zf_X9_215 rfl dX9_voter_39 ?_
      refine zk_iconst (v := 1) dX9_voter_42 (by decide) ?_
      refine zk_iadd dX9_voter_43 ?_
      refine zp_X9_215 rfl dX9_voter_44 ?_
      refine zk_aload_n dX9_voter_47 rfl rfl ?_
      refine zf_X9_215 rfl dX9_voter_48 ?_
      refine zk_iconst (v := 1) dX9_voter_51 (by decide) ?_
      refine zk_isub dX9_voter_52 ?_
      have e9 := Option.some.inj h
      subst e9
      exact zk_iret rfl ⟨rfl, rfl⟩ dX9_voter_53
    · replace h := zpos g21 h
      refine zk_bipush (v := -4) dX9_voter_24 (by decide) ?_
      have e9 := Option.some.inj h
      subst e9
      exact zk_iret rfl ⟨rfl, rfl⟩ dX9_voter_26
  · replace h := zpos g9 h
    refine zk_bipush (v := -2) dX9_voter_12 (by decide) ?_
    have e9 := Option.some.inj h
    subst e9
    exact zk_iret rfl ⟨rfl, rfl⟩ dX9_voter_14
def D_X9_weight (s : zS) (a1 : Int32) (a2 : Int32) : Option (Int32 × zS) :=
  (D_X9_isVoter s a1).bind fun p2 =>
  if p2 = 0 then (
    some ((-2 : Int32), s)
  ) else (
    (D_X9_in a2.toInt64 (0 : Int64) (50 : Int64)).bind fun p14 =>
    if p14 = 0 then (
      some ((-2 : Int32), s)
    ) else (
      zgd (zin a1 8 = true) <|
      zgd (zin a1 8 = true) <|
      let s36 : zS := zwI s 69 a1.toNatClampNeg a2
      some ((s.1 69 a1.toNatClampNeg), s36)
    )
  )
set_option maxRecDepth 100000 in
theorem ok_X9_weight {l : Launch} {D : va_G} {ad : Nat → Nat} {cA : Nat → ClassId} (hj : zInj ad) (s : zS) (a1 : Int32) (a2 : Int32) {r : (Int32 × zS)} (h : D_X9_weight s a1 a2 = some r) : zMet l D ad cA jX9_weight [.ref 66, .int a1, .int a2] s (some (.int r.1)) r.2 := by
  refine zMet_of jX9_weight [some (.ref 66), some (.int a1), some (.int a2), none] (by decide +kernel) (Nat.le_of_ble_eq_true rfl) rfl hj ?_
  unfold D_X9_weight at h
  refine zk_aload_n dX9_weight_0 rfl rfl ?_
  refine zk_iload_n dX9_weight_1 rfl rfl ?_
  obtain ⟨p2, h2, h⟩ := zbind h
  refine zc_X9_218 [] (As := [.int _]) (ok_X9_isVoter hj _ _ h2) rfl ⟨Nat.le_of_ble_eq_true rfl, Nat.le_of_ble_eq_true rfl⟩ ⟨Nat.le_refl _, Nat.le_refl _⟩ rfl rfl (Nat.le_of_ble_eq_true rfl) dX9_weight_2 ?_
  refine zk_if_eq (tgt := 20) dX9_weight_5 rfl (fun g5 => ?_) (fun g5 => ?_)
  · replace h := zpos g5 h
    refine zk_bipush (v := -2) dX9_weight_20 (by decide) ?_
    have e9 := Option.some.inj h
    subst e9
    exact zk_iret rfl ⟨rfl, rfl⟩ dX9_weight_22
  · replace h := zneg g5 h
    refine zk_iload_n dX9_weight_8 rfl rfl ?_
    refine zk_i2l dX9_weight_9 ?_
    refine zk_lconst (v := 0) dX9_weight_10 (by decide) ?_
    refine zk_ldc2 dX9_weight_11 zw_X9_213 ?_
    obtain ⟨p14, h14, h⟩ := zbind h
    refine zc_X9_92 [] (As := [.long _, .long _, .long _]) (ok_X9_in hj _ _ _ _ h14) rfl ⟨Nat.le_of_ble_eq_true rfl, Nat.le_of_ble_eq_true rfl⟩ ⟨Nat.le_refl _, Nat.le_refl _⟩ rfl rfl (Nat.le_of_ble_eq_true rfl) dX9_weight_14 ?_
    refine zk_if_ne (tgt := 23) dX9_weight_17 rfl (fun g17 => ?_) (fun g17 => ?_)
    · replace h := zneg g17 h
      refine zk_aload_n dX9_weight_23 rfl rfl ?_
      refine zf_X9_24 rfl dX9_weight_24 ?_
      refine zk_iload_n dX9_weight_27 rfl rfl ?_
      obtain ⟨g28, h⟩ := zguard h
      refine zk_iald (zoI_of rfl g28) dX9_weight_28 ?_
      refine zk_istore_n (i := 3) dX9_weight_29 rfl (by decide) (zk_eq [_, _, _, _] rfl ?_)
      refine zk_aload_n dX9_weight_30 rfl rfl ?_
      refine zf_X9_24 rfl dX9_weight_31 ?_
      refine zk_iload_n dX9_weight_34 rfl rfl ?_
      refine zk_iload_n dX9_weight_35 rfl rfl ?_
      obtain ⟨g36, h⟩ := zguard h
      refine zk_iast (zoI_of rfl g36) dX9_weight_36 ?_
      refine zk_iload_n dX9_weight_37 rfl rfl ?_
      have e9 := Option.some.inj h
      subst e9
      exact zk_iret rfl ⟨rfl, rfl⟩ dX9_weight_38
    · replace h := zpos g17 h
      refine zk_bipush (v := -2) dX9_weight_20 (by decide) ?_
      have e9 := Option.some.inj h
      subst e9
      exact zk_iret rfl ⟨rfl, rfl⟩ dX9_weight_22
def D_X9_wins (s : zS) (a1 : Int32) : Option Int32 :=
  (D_X9_allVoters s).bind fun p4 =>
  (D_X9_in a1.toInt64 (0 : Int64) p4.toInt64).bind fun p8 =>
  if p8 = 0 then (
    some (-2 : Int32)
  ) else (
    (D_X9_doesWin s a1).bind fun p21 =>
    if p21 = 0 then (
      some (0 : Int32)
    ) else (
      some (1 : Int32)
    )
  )
set_option maxRecDepth 100000 in
theorem ok_X9_wins {l : Launch} {D : va_G} {ad : Nat → Nat} {cA : Nat → ClassId} (hj : zInj ad) (s : zS) (a1 : Int32) {r : Int32} (h : D_X9_wins s a1 = some r) : zMet l D ad cA jX9_wins [.ref 66, .int a1] s (some (.int r)) s := by
  refine zMet_of jX9_wins [some (.ref 66), some (.int a1)] (by decide +kernel) (Nat.le_of_ble_eq_true rfl) rfl hj ?_
  unfold D_X9_wins at h
  refine zk_iload_n dX9_wins_0 rfl rfl ?_
  refine zk_i2l dX9_wins_1 ?_
  refine zk_lconst (v := 0) dX9_wins_2 (by decide) ?_
  refine zk_aload_n dX9_wins_3 rfl rfl ?_
  obtain ⟨p4, h4, h⟩ := zbind h
  refine zc_X9_223 [.long _, .long _] (As := []) (ok_X9_allVoters hj _ h4) rfl ⟨Nat.le_of_ble_eq_true rfl, Nat.le_of_ble_eq_true rfl⟩ ⟨Nat.le_refl _, Nat.le_refl _⟩ rfl rfl (Nat.le_of_ble_eq_true rfl) dX9_wins_4 ?_
  refine zk_i2l dX9_wins_7 ?_
  obtain ⟨p8, h8, h⟩ := zbind h
  refine zc_X9_92 [] (As := [.long _, .long _, .long _]) (ok_X9_in hj _ _ _ _ h8) rfl ⟨Nat.le_of_ble_eq_true rfl, Nat.le_of_ble_eq_true rfl⟩ ⟨Nat.le_refl _, Nat.le_refl _⟩ rfl rfl (Nat.le_of_ble_eq_true rfl) dX9_wins_8 ?_
  refine zk_if_ne (tgt := 19) dX9_wins_11 rfl (fun g11 => ?_) (fun g11 => ?_)
  · replace h := zneg g11 h
    refine zk_aload_n dX9_wins_19 rfl rfl ?_
    refine zk_iload_n dX9_wins_20 rfl rfl ?_
    obtain ⟨p21, h21, h⟩ := zbind h
    refine zc_X9_226 [] (As := [.int _]) (ok_X9_doesWin hj _ _ h21) rfl ⟨Nat.le_of_ble_eq_true rfl, Nat.le_of_ble_eq_true rfl⟩ ⟨Nat.le_refl _, Nat.le_refl _⟩ rfl rfl (Nat.le_of_ble_eq_true rfl) dX9_wins_21 ?_
    refine zk_if_eq (tgt := 31) dX9_wins_24 rfl (fun g24 => ?_) (fun g24 => ?_)
    · replace h := zpos g24 h
      refine zk_iconst (v := 0) dX9_wins_31 (by decide) ?_
      have e9 := Option.some.inj h
      subst e9
      exact zk_iret rfl ⟨rfl, rfl⟩ dX9_wins_32
    · replace h := zneg g24 h
      refine zk_iconst (v := 1) dX9_wins_27 (by decide) ?_
      refine zk_goto (tgt := 32) dX9_wins_28 rfl ?_
      have e9 := Option.some.inj h
      subst e9
      exact zk_iret rfl ⟨rfl, rfl⟩ dX9_wins_32
  · replace h := zpos g11 h
    refine zk_bipush (v := -2) dX9_wins_14 (by decide) ?_
    refine zk_goto (tgt := 32) dX9_wins_16 rfl ?_
    have e9 := Option.some.inj h
    subst e9
    exact zk_iret rfl ⟨rfl, rfl⟩ dX9_wins_32
def D_X9_worth (s : zS) (a1 : Int32) (a2 : Int32) : Option (Int32 × zS) :=
  (D_X9_isSet s a1).bind fun p2 =>
  if p2 = 0 then (
    some ((-100000 : Int32), s)
  ) else (
    (D_X9_in a2.toInt64 (-1000 : Int64) (1000 : Int64)).bind fun p16 =>
    if p16 = 0 then (
      some ((-100000 : Int32), s)
    ) else (
      zgd (zin a1 16 = true) <|
      zgd (zin a1 16 = true) <|
      let s38 : zS := zwI s 67 a1.toNatClampNeg a2
      some ((s.1 67 a1.toNatClampNeg), s38)
    )
  )
set_option maxRecDepth 100000 in
theorem ok_X9_worth {l : Launch} {D : va_G} {ad : Nat → Nat} {cA : Nat → ClassId} (hj : zInj ad) (s : zS) (a1 : Int32) (a2 : Int32) {r : (Int32 × zS)} (h : D_X9_worth s a1 a2 = some r) : zMet l D ad cA jX9_worth [.ref 66, .int a1, .int a2] s (some (.int r.1)) r.2 := by
  refine zMet_of jX9_worth [some (.ref 66), some (.int a1), some (.int a2), none] (by decide +kernel) (Nat.le_of_ble_eq_true rfl) rfl hj ?_
  unfold D_X9_worth at h
  refine zk_aload_n dX9_worth_0 rfl rfl ?_
  refine zk_iload_n dX9_worth_1 rfl rfl ?_
  obtain ⟨p2, h2, h⟩ := zbind h
  refine zc_X9_105 [] (As := [.int _]) (ok_X9_isSet hj _ _ h2) rfl ⟨Nat.le_of_ble_eq_true rfl, Nat.le_of_ble_eq_true rfl⟩ ⟨Nat.le_refl _, Nat.le_refl _⟩ rfl rfl (Nat.le_of_ble_eq_true rfl) dX9_worth_2 ?_
  refine zk_if_eq (tgt := 22) dX9_worth_5 rfl (fun g5 => ?_) (fun g5 => ?_)
  · replace h := zpos g5 h
    refine zk_ldc dX9_worth_22 zw_X9_113 ?_
    have e9 := Option.some.inj h
    subst e9
    exact zk_iret rfl ⟨rfl, rfl⟩ dX9_worth_24
  · replace h := zneg g5 h
    refine zk_iload_n dX9_worth_8 rfl rfl ?_
    refine zk_i2l dX9_worth_9 ?_
    refine zk_ldc2 dX9_worth_10 zw_X9_109 ?_
    refine zk_ldc2 dX9_worth_13 zw_X9_111 ?_
    obtain ⟨p16, h16, h⟩ := zbind h
    refine zc_X9_92 [] (As := [.long _, .long _, .long _]) (ok_X9_in hj _ _ _ _ h16) rfl ⟨Nat.le_of_ble_eq_true rfl, Nat.le_of_ble_eq_true rfl⟩ ⟨Nat.le_refl _, Nat.le_refl _⟩ rfl rfl (Nat.le_of_ble_eq_true rfl) dX9_worth_16 ?_
    refine zk_if_ne (tgt := 25) dX9_worth_19 rfl (fun g19 => ?_) (fun g19 => ?_)
    · replace h := zneg g19 h
      refine zk_aload_n dX9_worth_25 rfl rfl ?_
      refine zf_X9_13 rfl dX9_worth_26 ?_
      refine zk_iload_n dX9_worth_29 rfl rfl ?_
      obtain ⟨g30, h⟩ := zguard h
      refine zk_iald (zoI_of rfl g30) dX9_worth_30 ?_
      refine zk_istore_n (i := 3) dX9_worth_31 rfl (by decide) (zk_eq [_, _, _, _] rfl ?_)
      refine zk_aload_n dX9_worth_32 rfl rfl ?_
      refine zf_X9_13 rfl dX9_worth_33 ?_
      refine zk_iload_n dX9_worth_36 rfl rfl ?_
      refine zk_iload_n dX9_worth_37 rfl rfl ?_
      obtain ⟨g38, h⟩ := zguard h
      refine zk_iast (zoI_of rfl g38) dX9_worth_38 ?_
      refine zk_iload_n dX9_worth_39 rfl rfl ?_
      have e9 := Option.some.inj h
      subst e9
      exact zk_iret rfl ⟨rfl, rfl⟩ dX9_worth_40
    · replace h := zpos g19 h
      refine zk_ldc dX9_worth_22 zw_X9_113 ?_
      have e9 := Option.some.inj h
      subst e9
      exact zk_iret rfl ⟨rfl, rfl⟩ dX9_worth_24
