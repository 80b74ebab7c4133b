def D_X9_comes_J196 (rec35 : Int64 → Int32 → zS → Option (Int64 × zS)) (rec125 : Int64 → Int32 → Int32 → Option (Int64 × zS)) (s : zS) (a1 : Int32) (a4 : Int32) (a5 : Int32) (a8 : Int32) (a9 : Int32) (k0 : Int64) (k1 : Int64) : Option (Int64 × zS) :=
  rec125 (k0 + k1) a8 (a9 + 1)
set_option maxRecDepth 100000 in
theorem ok_X9_comes_J196 {l : Launch} {D : va_G} {ad : Nat → Nat} {cA : Nat → ClassId} (hj : zInj ad) (r : (Int64 × zS)) (s : zS) (a1 : Int32) (a4 : Int32) (a5 : Int32) (a8 : Int32) (a9 : Int32) (k0 : Int64) (k1 : Int64) (rec35 : Int64 → Int32 → zS → Option (Int64 × zS)) (hr35 : ∀ (b2 : Int64) (b5 : Int32) (s : zS), rec35 b2 b5 s = some r → zOk l D ad cA (zJm jX9_comes) (zEnd D ad cA (some (.long r.1)) r.2) 35 [some (.ref 66), some (.int a1), some (.long b2), none, some (.int a4), some (.int b5), none, none, none, none, none] [] s) (rec125 : Int64 → Int32 → Int32 → Option (Int64 × zS)) (hr125 : ∀ (b2 : Int64) (b8 : Int32) (b9 : Int32), rec125 b2 b8 b9 = some r → zOk l D ad cA (zJm jX9_comes) (zEnd D ad cA (some (.long r.1)) r.2) 125 [some (.ref 66), some (.int a1), some (.long b2), none, some (.int a4), some (.int a5), none, none, some (.int b8), some (.int b9), none] [] s) (h : D_X9_comes_J196 rec35 rec125 s a1 a4 a5 a8 a9 k0 k1 = some r) : zOk l D ad cA (zJm jX9_comes) (zEnd D ad cA (some (.long r.1)) r.2) 196 [some (.ref 66), some (.int a1), none, none, some (.int a4), some (.int a5), none, none, some (.int a8), some (.int a9), none] [.long k1, .long k0] s := by
  unfold D_X9_comes_J196 at h
  refine zk_ladd dX9_comes_196 ?_
  refine zk_lstore_n (i := 2) dX9_comes_197 rfl (by decide) (zk_eq [_, _, _, _, _, _, _, _, _, _, _] rfl ?_)
  refine zk_iinc dX9_comes_198 rfl (zinc (m := 1) (by decide)) (by decide) (zk_eq [_, _, _, _, _, _, _, _, _, _, _] rfl ?_)
  refine zk_goto (tgt := 125) dX9_comes_201 rfl ?_
  exact hr125 _ _ _ h
def D_X9_comes_J168 (rec35 : Int64 → Int32 → zS → Option (Int64 × zS)) (rec125 : Int64 → Int32 → Int32 → Option (Int64 × zS)) (s : zS) (a1 : Int32) (a2 : Int64) (a4 : Int32) (a5 : Int32) (a8 : Int32) (a9 : Int32) (k0 : Int32) : Option (Int64 × zS) :=
  zgd (zin a9 6 = true) <|
  if (s.1 87 a9.toNatClampNeg) = a1 then (
    D_X9_comes_J196 rec35 rec125 s a1 a4 a5 (a8 - k0) a9 a2 k0.toInt64
  ) else (
    D_X9_comes_J196 rec35 rec125 s a1 a4 a5 (a8 - k0) a9 a2 (0 : Int64)
  )
set_option maxRecDepth 100000 in
theorem ok_X9_comes_J168 {l : Launch} {D : va_G} {ad : Nat → Nat} {cA : Nat → ClassId} (hj : zInj ad) (r : (Int64 × zS)) (s : zS) (a1 : Int32) (a2 : Int64) (a4 : Int32) (a5 : Int32) (a8 : Int32) (a9 : Int32) (k0 : Int32) (rec35 : Int64 → Int32 → zS → Option (Int64 × zS)) (hr35 : ∀ (b2 : Int64) (b5 : Int32) (s : zS), rec35 b2 b5 s = some r → zOk l D ad cA (zJm jX9_comes) (zEnd D ad cA (some (.long r.1)) r.2) 35 [some (.ref 66), some (.int a1), some (.long b2), none, some (.int a4), some (.int b5), none, none, none, none, none] [] s) (rec125 : Int64 → Int32 → Int32 → Option (Int64 × zS)) (hr125 : ∀ (b2 : Int64) (b8 : Int32) (b9 : Int32), rec125 b2 b8 b9 = some r → zOk l D ad cA (zJm jX9_comes) (zEnd D ad cA (some (.long r.1)) r.2) 125 [some (.ref 66), some (.int a1), some (.long b2), none, some (.int a4), some (.int a5), none, none, some (.int b8), some (.int b9), none] [] s) (h : D_X9_comes_J168 rec35 rec125 s a1 a2 a4 a5 a8 a9 k0 = some r) : zOk l D ad cA (zJm jX9_comes) (zEnd D ad cA (some (.long r.1)) r.2) 168 [some (.ref 66), some (.int a1), some (.long a2), none, some (.int a4), some (.int a5), none, none, some (.int a8), some (.int a9), none] [.int k0] s := by
  unfold D_X9_comes_J168 at h
  refine zk_istore (i := 10) dX9_comes_168 (by decide) (zk_eq [_, _, _, _, _, _, _, _, _, _, _] rfl ?_)
  refine zk_iload dX9_comes_170 rfl ?_
  refine zk_iload dX9_comes_172 rfl ?_
  refine zk_isub dX9_comes_174 ?_
  refine zk_istore (i := 8) dX9_comes_175 (by decide) (zk_eq [_, _, _, _, _, _, _, _, _, _, _] rfl ?_)
  refine zk_lload_n dX9_comes_177 rfl rfl ?_
  refine zk_aload_n dX9_comes_178 rfl rfl ?_
  refine zf_X9_85 rfl dX9_comes_179 ?_
  refine zk_iload dX9_comes_182 rfl ?_
  obtain ⟨g184, h⟩ := zguard h
  refine zk_iald (zoI_of rfl g184) dX9_comes_184 ?_
  refine zk_iload_n dX9_comes_185 rfl rfl ?_
  refine zk_icmp_ne (tgt := 195) dX9_comes_186 rfl (fun g186 => ?_) (fun g186 => ?_)
  · replace h := zneg g186 h
    refine zk_lconst (v := 0) dX9_comes_195 (by decide) ?_
    refine zk_mask [true, true, false, false, true, true, false, false, true, true, false] ?_
    exact ok_X9_comes_J196 hj r _ _ _ _ _ _ _ _ _ hr35 _ hr125 h
  · replace h := zpos g186 h
    refine zk_iload dX9_comes_189 rfl ?_
    refine zk_i2l dX9_comes_191 ?_
    refine zk_goto (tgt := 196) dX9_comes_192 rfl ?_
    refine zk_mask [true, true, false, false, true, true, false, false, true, true, false] ?_
    exact ok_X9_comes_J196 hj r _ _ _ _ _ _ _ _ _ hr35 _ hr125 h
def D_X9_comes_B125 (rec35 : Int64 → Int32 → zS → Option (Int64 × zS)) (s : zS) (a1 : Int32) (a4 : Int32) (a5 : Int32) (rec125 : Int64 → Int32 → Int32 → Option (Int64 × zS)) (a2 : Int64) (a8 : Int32) (a9 : Int32) : Option (Int64 × zS) :=
    if (s.1 66 8) ≤ a9 then (
      rec35 a2 (a5 + 1) s
    ) else (
      zgd (zin a9 6 = true) <|
      zgd (zin (s.1 87 a9.toNatClampNeg) 6 = true) <|
      if a8 ≤ (s.1 70 (s.1 87 a9.toNatClampNeg).toNatClampNeg) then (
        D_X9_comes_J168 rec35 rec125 s a1 a2 a4 a5 a8 a9 a8
      ) else (
        zgd (zin a9 6 = true) <|
        zgd (zin (s.1 87 a9.toNatClampNeg) 6 = true) <|
        D_X9_comes_J168 rec35 rec125 s a1 a2 a4 a5 a8 a9 (s.1 70 (s.1 87 a9.toNatClampNeg).toNatClampNeg)
      )
    )
def D_X9_comes_L125 (rec35 : Int64 → Int32 → zS → Option (Int64 × zS)) (s : zS) (a1 : Int32) (a4 : Int32) (a5 : Int32) (n : Nat) (a2 : Int64) (a8 : Int32) (a9 : Int32) : Option (Int64 × zS) := zfx (fun (rec : Int64 × Int32 × Int32 → Option (Int64 × zS)) q => D_X9_comes_B125 rec35 s a1 a4 a5 (fun v0 v1 v2 => rec (v0, v1, v2)) q.1 q.2.1 q.2.2) n (a2, a8, a9)
set_option maxRecDepth 100000 in
theorem D_X9_comes_L125_s (rec35 : Int64 → Int32 → zS → Option (Int64 × zS)) (s : zS) (a1 : Int32) (a4 : Int32) (a5 : Int32) (n : Nat) (a2 : Int64) (a8 : Int32) (a9 : Int32) : D_X9_comes_L125 rec35 s a1 a4 a5 (n + 1) a2 a8 a9 = D_X9_comes_B125 rec35 s a1 a4 a5 (D_X9_comes_L125 rec35 s a1 a4 a5 n) a2 a8 a9 := rfl
set_option maxRecDepth 100000 in
theorem ok_X9_comes_L125 {l : Launch} {D : va_G} {ad : Nat → Nat} {cA : Nat → ClassId} (hj : zInj ad) (r : (Int64 × zS)) (s : zS) (a1 : Int32) (a4 : Int32) (a5 : Int32) (rec35 : Int64 → Int32 → zS → Option (Int64 × zS)) (hr35 : ∀ (b2 : Int64) (b5 : Int32) (s : zS), rec35 b2 b5 s = some r → zOk l D ad cA (zJm jX9_comes) (zEnd D ad cA (some (.long r.1)) r.2) 35 [some (.ref 66), some (.int a1), some (.long b2), none, some (.int a4), some (.int b5), none, none, none, none, none] [] s) : ∀ (n : Nat) (a2 : Int64) (a8 : Int32) (a9 : Int32), D_X9_comes_L125 rec35 s a1 a4 a5 n a2 a8 a9 = some r → zOk l D ad cA (zJm jX9_comes) (zEnd D ad cA (some (.long r.1)) r.2) 125 [some (.ref 66), some (.int a1), some (.long a2), none, some (.int a4), some (.int a5), none, none, some (.int a8), some (.int a9), none] [] s := by
  intro n
  induction n with
  | zero =>
    intro a2 a8 a9 h
    have h0 : (none : Option (Int64 × zS)) = some r := h
    cases h0
  | succ n hr125 =>
    intro a2 a8 a9 h
    have h : D_X9_comes_B125 rec35 s a1 a4 a5 (D_X9_comes_L125 rec35 s a1 a4 a5 n) a2 a8 a9 = some r := h
    unfold D_X9_comes_B125 at h
    refine zk_iload dX9_comes_125 rfl ?_
    refine zk_aload_n dX9_comes_127 rfl rfl ?_
    refine zf_X9_244 rfl dX9_comes_128 ?_
    refine zk_icmp_ge (tgt := 204) dX9_comes_131 rfl (fun g131 => ?_) (fun g131 => ?_)
    · replace h := zpos g131 h
      refine zk_iinc dX9_comes_204 rfl (zinc (m := 1) (by decide)) (by decide) (zk_eq [_, _, _, _, _, _, _, _, _, _, _] rfl ?_)
      refine zk_goto (tgt := 35) dX9_comes_207 rfl ?_
      refine zk_mask [true, true, true, false, true, true, false, false, false, false, false] ?_
      exact hr35 _ _ _ h
    · replace h := zneg g131 h
      refine zk_aload_n dX9_comes_134 rfl rfl ?_
      refine zf_X9_30 rfl dX9_comes_135 ?_
      refine zk_aload_n dX9_comes_138 rfl rfl ?_
      refine zf_X9_85 rfl dX9_comes_139 ?_
      refine zk_iload dX9_comes_142 rfl ?_
      obtain ⟨g144, h⟩ := zguard h
      refine zk_iald (zoI_of rfl g144) dX9_comes_144 ?_
      obtain ⟨g145, h⟩ := zguard h
      refine zk_iald (zoI_of rfl g145) dX9_comes_145 ?_
      refine zk_iload dX9_comes_146 rfl ?_
      refine zk_icmp_ge (tgt := 166) dX9_comes_148 rfl (fun g148 => ?_) (fun g148 => ?_)
      · replace h := zpos g148 h
        refine zk_iload dX9_comes_166 rfl ?_
        exact ok_X9_comes_J168 hj r _ _ _ _ _ _ _ _ _ hr35 _ hr125 h
      · replace h := zneg g148 h
        refine zk_aload_n dX9_comes_151 rfl rfl ?_
        refine zf_X9_30 rfl dX9_comes_152 ?_
        refine zk_aload_n dX9_comes_155 rfl rfl ?_
        refine zf_X9_85 rfl dX9_comes_156 ?_
        refine zk_iload dX9_comes_159 rfl ?_
        obtain ⟨g161, h⟩ := zguard h
        refine zk_iald (zoI_of rfl g161) dX9_comes_161 ?_
        obtain ⟨g162, h⟩ := zguard h
        refine zk_iald (zoI_of rfl g162) dX9_comes_162 ?_
        refine zk_goto (tgt := 168) dX9_comes_163 rfl ?_
        exact ok_X9_comes_J168 hj r _ _ _ _ _ _ _ _ _ hr35 _ hr125 h
def D_X9_comes_B52 (rec35 : Int64 → Int32 → zS → Option (Int64 × zS)) (a1 : Int32) (a2 : Int64) (a4 : Int32) (a5 : Int32) (rec52 : Int32 → Int32 → Int32 → zS → Option (Int64 × zS)) (a6 : Int32) (a7 : Int32) (a8 : Int32) (s : zS) : Option (Int64 × zS) :=
    if (s.1 66 8) ≤ a8 then (
      (D_X9_bits a7).bind fun p106 =>
      if p106 = (s.1 66 8) then (
        D_X9_comes_L125 rec35 s a1 a4 a5 zFU a2 (s.1 66 10) (0 : Int32)
      ) else (
        rec35 a2 (a5 + 1) s
      )
    ) else (
      if (s.1 66 8) = 0 then none else
      zgd (zin a8 6 = true) <|
      let s74 : zS := zwI s 87 a8.toNatClampNeg (a6 - a6 / (s.1 66 8) * (s.1 66 8))
      if (s74.1 66 8) = 0 then none else
      zgd (zin a8 6 = true) <|
      rec52 (a6 / (s74.1 66 8)) (a7 ||| ((1 : Int32) <<< ((s74.1 87 a8.toNatClampNeg) &&& 31))) (a8 + 1) s74
    )
def D_X9_comes_L52 (rec35 : Int64 → Int32 → zS → Option (Int64 × zS)) (a1 : Int32) (a2 : Int64) (a4 : Int32) (a5 : Int32) (n : Nat) (a6 : Int32) (a7 : Int32) (a8 : Int32) (s : zS) : Option (Int64 × zS) := zfx (fun (rec : Int32 × Int32 × Int32 × zS → Option (Int64 × zS)) q => D_X9_comes_B52 rec35 a1 a2 a4 a5 (fun v0 v1 v2 v3 => rec (v0, v1, v2, v3)) q.1 q.2.1 q.2.2.1 q.2.2.2) n (a6, a7, a8, s)
set_option maxRecDepth 100000 in
theorem D_X9_comes_L52_s (rec35 : Int64 → Int32 → zS → Option (Int64 × zS)) (a1 : Int32) (a2 : Int64) (a4 : Int32) (a5 : Int32) (n : Nat) (a6 : Int32) (a7 : Int32) (a8 : Int32) (s : zS) : D_X9_comes_L52 rec35 a1 a2 a4 a5 (n + 1) a6 a7 a8 s = D_X9_comes_B52 rec35 a1 a2 a4 a5 (D_X9_comes_L52 rec35 a1 a2 a4 a5 n) a6 a7 a8 s := rfl
set_option maxRecDepth 100000 in
theorem ok_X9_comes_L52 {l : Launch} {D : va_G} {ad : Nat → Nat} {cA : Nat → ClassId} (hj : zInj ad) (r : (Int64 × zS)) (a1 : Int32) (a2 : Int64) (a4 : Int32) (a5 : Int32) (rec35 : Int64 → Int32 → zS → Option (Int64 × zS)) (hr35 : ∀ (b2 : Int64) (b5 : Int32) (s : zS), rec35 b2 b5 s = some r → zOk l D ad cA (zJm jX9_comes) (zEnd D ad cA (some (.long r.1)) r.2) 35 [some (.ref 66), some (.int a1), some (.long b2), none, some (.int a4), some (.int b5), none, none, none, none, none] [] s) : ∀ (n : Nat) (a6 : Int32) (a7 : Int32) (a8 : Int32) (s : zS), D_X9_comes_L52 rec35 a1 a2 a4 a5 n a6 a7 a8 s = some r → zOk l D ad cA (zJm jX9_comes) (zEnd D ad cA (some (.long r.1)) r.2) 52 [some (.ref 66), some (.int a1), some (.long a2), none, some (.int a4), some (.int a5), some (.int a6), some (.int a7), some (.int a8), none, none] [] s := by
  intro n
  induction n with
  | zero =>
    intro a6 a7 a8 s h
    have h0 : (none : Option (Int64 × zS)) = some r := h
    cases h0
  | succ n hr52 =>
    intro a6 a7 a8 s h
    have h : D_X9_comes_B52 rec35 a1 a2 a4 a5 (D_X9_comes_L52 rec35 a1 a2 a4 a5 n) a6 a7 a8 s = some r := h
    unfold D_X9_comes_B52 at h
    refine zk_iload dX9_comes_52 rfl ?_
    refine zk_aload_n dX9_comes_54 rfl rfl ?_
    refine zf_X9_244 rfl dX9_comes_55 ?_
    refine zk_icmp_ge (tgt := 104) dX9_comes_58 rfl (fun g58 => ?_) (fun g58 => ?_)
    · replace h := zpos g58 h
      refine zk_iload dX9_comes_104 rfl ?_
      obtain ⟨p106, h106, h⟩ := zbind h
      refine zc_X9_114 [] (As := [.int _]) (ok_X9_bits hj _ _ h106) rfl ⟨Nat.le_of_ble_eq_true rfl, Nat.le_of_ble_eq_true rfl⟩ ⟨Nat.le_refl _, Nat.le_refl _⟩ rfl rfl (Nat.le_of_ble_eq_true rfl) dX9_comes_106 ?_
      refine zk_aload_n dX9_comes_109 rfl rfl ?_
      refine zf_X9_244 rfl dX9_comes_110 ?_
      refine zk_icmp_ne (tgt := 204) dX9_comes_113 rfl (fun g113 => ?_) (fun g113 => ?_)
      · replace h := zneg g113 h
        refine zk_iinc dX9_comes_204 rfl (zinc (m := 1) (by decide)) (by decide) (zk_eq [_, _, _, _, _, _, _, _, _, _, _] rfl ?_)
        refine zk_goto (tgt := 35) dX9_comes_207 rfl ?_
        refine zk_mask [true, true, true, false, true, true, false, false, false, false, false] ?_
        exact hr35 _ _ _ h
      · replace h := zpos g113 h
        refine zk_aload_n dX9_comes_116 rfl rfl ?_
        refine zf_X9_249 rfl dX9_comes_117 ?_
        refine zk_istore (i := 8) dX9_comes_120 (by decide) (zk_eq [_, _, _, _, _, _, _, _, _, _, _] rfl ?_)
        refine zk_iconst (v := 0) dX9_comes_122 (by decide) ?_
        refine zk_istore (i := 9) dX9_comes_123 (by decide) (zk_eq [_, _, _, _, _, _, _, _, _, _, _] rfl ?_)
        refine zk_mask [true, true, true, false, true, true, false, false, true, true, false] ?_
        exact ok_X9_comes_L125 hj r _ _ _ _ _ hr35 _ _ _ _ h
    · replace h := zneg g58 h
      refine zk_aload_n dX9_comes_61 rfl rfl ?_
      refine zf_X9_85 rfl dX9_comes_62 ?_
      refine zk_iload dX9_comes_65 rfl ?_
      refine zk_iload dX9_comes_67 rfl ?_
      refine zk_aload_n dX9_comes_69 rfl rfl ?_
      refine zf_X9_244 rfl dX9_comes_70 ?_
      obtain ⟨g73, h⟩ := zguardn h
      refine zk_irem dX9_comes_73 g73 ?_
      obtain ⟨g74, h⟩ := zguard h
      refine zk_iast (zoI_of rfl g74) dX9_comes_74 ?_
      refine zk_iload dX9_comes_75 rfl ?_
      refine zk_aload_n dX9_comes_77 rfl rfl ?_
      refine zf_X9_244 rfl dX9_comes_78 ?_
      obtain ⟨g81, h⟩ := zguardn h
      refine zk_idiv dX9_comes_81 g81 ?_
      refine zk_istore (i := 6) dX9_comes_82 (by decide) (zk_eq [_, _, _, _, _, _, _, _, _, _, _] rfl ?_)
      refine zk_iload dX9_comes_84 rfl ?_
      refine zk_iconst (v := 1) dX9_comes_86 (by decide) ?_
      refine zk_aload_n dX9_comes_87 rfl rfl ?_
      refine zf_X9_85 rfl dX9_comes_88 ?_
      refine zk_iload dX9_comes_91 rfl ?_
      obtain ⟨g93, h⟩ := zguard h
      refine zk_iald (zoI_of rfl g93) dX9_comes_93 ?_
      refine zk_ishl dX9_comes_94 ?_
      refine zk_ior dX9_comes_95 ?_
      refine zk_istore (i := 7) dX9_comes_96 (by decide) (zk_eq [_, _, _, _, _, _, _, _, _, _, _] rfl ?_)
      refine zk_iinc dX9_comes_98 rfl (zinc (m := 1) (by decide)) (by decide) (zk_eq [_, _, _, _, _, _, _, _, _, _, _] rfl ?_)
      refine zk_goto (tgt := 52) dX9_comes_101 rfl ?_
      exact hr52 _ _ _ _ h
def D_X9_comes_B35 (a1 : Int32) (a4 : Int32) (rec35 : Int64 → Int32 → zS → Option (Int64 × zS)) (a2 : Int64) (a5 : Int32) (s : zS) : Option (Int64 × zS) :=
    if a4 ≤ a5 then (
      some (a2, s)
    ) else (
      D_X9_comes_L52 rec35 a1 a2 a4 a5 zFU a5 (0 : Int32) (0 : Int32) s
    )
def D_X9_comes_L35 (a1 : Int32) (a4 : Int32) (n : Nat) (a2 : Int64) (a5 : Int32) (s : zS) : Option (Int64 × zS) := zfx (fun (rec : Int64 × Int32 × zS → Option (Int64 × zS)) q => D_X9_comes_B35 a1 a4 (fun v0 v1 v2 => rec (v0, v1, v2)) q.1 q.2.1 q.2.2) n (a2, a5, s)
set_option maxRecDepth 100000 in
theorem D_X9_comes_L35_s (a1 : Int32) (a4 : Int32) (n : Nat) (a2 : Int64) (a5 : Int32) (s : zS) : D_X9_comes_L35 a1 a4 (n + 1) a2 a5 s = D_X9_comes_B35 a1 a4 (D_X9_comes_L35 a1 a4 n) a2 a5 s := rfl
set_option maxRecDepth 100000 in
theorem ok_X9_comes_L35 {l : Launch} {D : va_G} {ad : Nat → Nat} {cA : Nat → ClassId} (hj : zInj ad) (r : (Int64 × zS)) (a1 : Int32) (a4 : Int32) : ∀ (n : Nat) (a2 : Int64) (a5 : Int32) (s : zS), D_X9_comes_L35 a1 a4 n a2 a5 s = some r → zOk l D ad cA (zJm jX9_comes) (zEnd D ad cA (some (.long r.1)) r.2) 35 [some (.ref 66), some (.int a1), some (.long a2), none, some (.int a4), some (.int a5), none, none, none, none, none] [] s := by
  intro n
  induction n with
  | zero =>
    intro a2 a5 s h
    have h0 : (none : Option (Int64 × zS)) = some r := h
    cases h0
  | succ n hr35 =>
    intro a2 a5 s h
    have h : D_X9_comes_B35 a1 a4 (D_X9_comes_L35 a1 a4 n) a2 a5 s = some r := h
    unfold D_X9_comes_B35 at h
    refine zk_iload dX9_comes_35 rfl ?_
    refine zk_iload dX9_comes_37 rfl ?_
    refine zk_icmp_ge (tgt := 210) dX9_comes_39 rfl (fun g39 => ?_) (fun g39 => ?_)
    · replace h := zpos g39 h
      refine zk_lload_n dX9_comes_210 rfl rfl ?_
      have e9 := Option.some.inj h
      subst e9
      exact zk_lret rfl ⟨rfl, rfl⟩ dX9_comes_211
    · replace h := zneg g39 h
      refine zk_iload dX9_comes_42 rfl ?_
      refine zk_istore (i := 6) dX9_comes_44 (by decide) (zk_eq [_, _, _, _, _, _, _, _, _, _, _] rfl ?_)
      refine zk_iconst (v := 0) dX9_comes_46 (by decide) ?_
      refine zk_istore (i := 7) dX9_comes_47 (by decide) (zk_eq [_, _, _, _, _, _, _, _, _, _, _] rfl ?_)
      refine zk_iconst (v := 0) dX9_comes_49 (by decide) ?_
      refine zk_istore (i := 8) dX9_comes_50 (by decide) (zk_eq [_, _, _, _, _, _, _, _, _, _, _] rfl ?_)
      exact ok_X9_comes_L52 hj r _ _ _ _ _ hr35 _ _ _ _ _ h
def D_X9_comes_B8 (s : zS) (a1 : Int32) (a2 : Int64) (rec8 : Int32 → Int32 → Option (Int64 × zS)) (a4 : Int32) (a5 : Int32) : Option (Int64 × zS) :=
    if (s.1 66 8) ≤ a5 then (
      D_X9_comes_L35 a1 a4 zFU a2 (0 : Int32) s
    ) else (
      rec8 (a4 * (s.1 66 8)) (a5 + 1)
    )
def D_X9_comes_L8 (s : zS) (a1 : Int32) (a2 : Int64) (n : Nat) (a4 : Int32) (a5 : Int32) : Option (Int64 × zS) := zfx (fun (rec : Int32 × Int32 → Option (Int64 × zS)) q => D_X9_comes_B8 s a1 a2 (fun v0 v1 => rec (v0, v1)) q.1 q.2) n (a4, a5)
set_option maxRecDepth 100000 in
theorem D_X9_comes_L8_s (s : zS) (a1 : Int32) (a2 : Int64) (n : Nat) (a4 : Int32) (a5 : Int32) : D_X9_comes_L8 s a1 a2 (n + 1) a4 a5 = D_X9_comes_B8 s a1 a2 (D_X9_comes_L8 s a1 a2 n) a4 a5 := rfl
set_option maxRecDepth 100000 in
theorem ok_X9_comes_L8 {l : Launch} {D : va_G} {ad : Nat → Nat} {cA : Nat → ClassId} (hj : zInj ad) (r : (Int64 × zS)) (s : zS) (a1 : Int32) (a2 : Int64) : ∀ (n : Nat) (a4 : Int32) (a5 : Int32), D_X9_comes_L8 s a1 a2 n a4 a5 = some r → zOk l D ad cA (zJm jX9_comes) (zEnd D ad cA (some (.long r.1)) r.2) 8 [some (.ref 66), some (.int a1), some (.long a2), none, some (.int a4), some (.int a5), none, none, none, none, none] [] s := by
  intro n
  induction n with
  | zero =>
    intro a4 a5 h
    have h0 : (none : Option (Int64 × zS)) = some r := h
    cases h0
  | succ n hr8 =>
    intro a4 a5 h
    have h : D_X9_comes_B8 s a1 a2 (D_X9_comes_L8 s a1 a2 n) a4 a5 = some r := h
    unfold D_X9_comes_B8 at h
    refine zk_iload dX9_comes_8 rfl ?_
    refine zk_aload_n dX9_comes_10 rfl rfl ?_
    refine zf_X9_244 rfl dX9_comes_11 ?_
    refine zk_icmp_ge (tgt := 32) dX9_comes_14 rfl (fun g14 => ?_) (fun g14 => ?_)
    · replace h := zpos g14 h
      refine zk_iconst (v := 0) dX9_comes_32 (by decide) ?_
      refine zk_istore (i := 5) dX9_comes_33 (by decide) (zk_eq [_, _, _, _, _, _, _, _, _, _, _] rfl ?_)
      exact ok_X9_comes_L35 hj r _ _ _ _ _ _ h
    · replace h := zneg g14 h
      refine zk_iload dX9_comes_17 rfl ?_
      refine zk_aload_n dX9_comes_19 rfl rfl ?_
      refine zf_X9_244 rfl dX9_comes_20 ?_
      refine zk_imul dX9_comes_23 ?_
      refine zk_istore (i := 4) dX9_comes_24 (by decide) (zk_eq [_, _, _, _, _, _, _, _, _, _, _] rfl ?_)
      refine zk_iinc dX9_comes_26 rfl (zinc (m := 1) (by decide)) (by decide) (zk_eq [_, _, _, _, _, _, _, _, _, _, _] rfl ?_)
      refine zk_goto (tgt := 8) dX9_comes_29 rfl ?_
      exact hr8 _ _ h
def D_X9_comes (s : zS) (a1 : Int32) : Option (Int64 × zS) :=
  D_X9_comes_L8 s a1 (0 : Int64) zFU (1 : Int32) (0 : Int32)
set_option maxRecDepth 100000 in
theorem ok_X9_comes {l : Launch} {D : va_G} {ad : Nat → Nat} {cA : Nat → ClassId} (hj : zInj ad) (s : zS) (a1 : Int32) {r : (Int64 × zS)} (h : D_X9_comes s a1 = some r) : zMet l D ad cA jX9_comes [.ref 66, .int a1] s (some (.long r.1)) r.2 := by
  refine zMet_of jX9_comes [some (.ref 66), some (.int a1), none, none, none, none, none, none, none, none, none] (by decide +kernel) (Nat.le_of_ble_eq_true rfl) rfl hj ?_
  unfold D_X9_comes at h
  refine zk_lconst (v := 0) dX9_comes_0 (by decide) ?_
  refine zk_lstore_n (i := 2) dX9_comes_1 rfl (by decide) (zk_eq [_, _, _, _, _, _, _, _, _, _, _] rfl ?_)
  refine zk_iconst (v := 1) dX9_comes_2 (by decide) ?_
  refine zk_istore (i := 4) dX9_comes_3 (by decide) (zk_eq [_, _, _, _, _, _, _, _, _, _, _] rfl ?_)
  refine zk_iconst (v := 0) dX9_comes_5 (by decide) ?_
  refine zk_istore (i := 5) dX9_comes_6 (by decide) (zk_eq [_, _, _, _, _, _, _, _, _, _, _] rfl ?_)
  exact ok_X9_comes_L8 hj r _ _ _ _ _ _ h
def D_X9_factorial_B4 (a0 : Int32) (rec4 : Int32 → Int32 → Option Int32) (a1 : Int32) (a2 : Int32) : Option Int32 :=
    if a0 < a2 then (
      some a1
    ) else (
      rec4 (a1 * a2) (a2 + 1)
    )
def D_X9_factorial_L4 (a0 : Int32) (n : Nat) (a1 : Int32) (a2 : Int32) : Option Int32 := zfx (fun (rec : Int32 × Int32 → Option Int32) q => D_X9_factorial_B4 a0 (fun v0 v1 => rec (v0, v1)) q.1 q.2) n (a1, a2)
set_option maxRecDepth 100000 in
theorem D_X9_factorial_L4_s (a0 : Int32) (n : Nat) (a1 : Int32) (a2 : Int32) : D_X9_factorial_L4 a0 (n + 1) a1 a2 = D_X9_factorial_B4 a0 (D_X9_factorial_L4 a0 n) a1 a2 := rfl
set_option maxRecDepth 100000 in
theorem ok_X9_factorial_L4 {l : Launch} {D : va_G} {ad : Nat → Nat} {cA : Nat → ClassId} (hj : zInj ad) (r : Int32) (s : zS) (a0 : Int32) : ∀ (n : Nat) (a1 : Int32) (a2 : Int32), D_X9_factorial_L4 a0 n a1 a2 = some r → zOk l D ad cA (zJm jX9_factorial) (zEnd D ad cA (some (.int r)) s) 4 [some (.int a0), some (.int a1), some (.int a2)] [] s := by
  intro n
  induction n with
  | zero =>
    intro a1 a2 h
    have h0 : (none : Option Int32) = some r := h
    cases h0
  | succ n hr4 =>
    intro a1 a2 h
    have h : D_X9_factorial_B4 a0 (D_X9_factorial_L4 a0 n) a1 a2 = some r := h
    unfold D_X9_factorial_B4 at h
    refine zk_iload_n dX9_factorial_4 rfl rfl ?_
    refine zk_iload_n dX9_factorial_5 rfl rfl ?_
    refine zk_icmp_gt (tgt := 19) dX9_factorial_6 rfl (fun g6 => ?_) (fun g6 => ?_)
    · replace h := zpos g6 h
      refine zk_iload_n dX9_factorial_19 rfl rfl ?_
      have e9 := Option.some.inj h
      subst e9
      exact zk_iret rfl ⟨rfl, rfl⟩ dX9_factorial_20
    · replace h := zneg g6 h
      refine zk_iload_n dX9_factorial_9 rfl rfl ?_
      refine zk_iload_n dX9_factorial_10 rfl rfl ?_
      refine zk_imul dX9_factorial_11 ?_
      refine zk_istore_n (i := 1) dX9_factorial_12 rfl (by decide) (zk_eq [_, _, _] rfl ?_)
      refine zk_iinc dX9_factorial_13 rfl (zinc (m := 1) (by decide)) (by decide) (zk_eq [_, _, _] rfl ?_)
      refine zk_goto (tgt := 4) dX9_factorial_16 rfl ?_
      exact hr4 _ _ h
def D_X9_factorial (a0 : Int32) : Option Int32 :=
  D_X9_factorial_L4 a0 zFU (1 : Int32) (2 : Int32)
set_option maxRecDepth 100000 in
theorem ok_X9_factorial {l : Launch} {D : va_G} {ad : Nat → Nat} {cA : Nat → ClassId} (hj : zInj ad) (s : zS) (a0 : Int32) {r : Int32} (h : D_X9_factorial a0 = some r) : zMet l D ad cA jX9_factorial [.int a0] s (some (.int r)) s := by
  refine zMet_of jX9_factorial [some (.int a0), none, none] (by decide +kernel) (Nat.le_of_ble_eq_true rfl) rfl hj ?_
  unfold D_X9_factorial at h
  refine zk_iconst (v := 1) dX9_factorial_0 (by decide) ?_
  refine zk_istore_n (i := 1) dX9_factorial_1 rfl (by decide) (zk_eq [_, _, _] rfl ?_)
  refine zk_iconst (v := 2) dX9_factorial_2 (by decide) ?_
  refine zk_istore_n (i := 2) dX9_factorial_3 rfl (by decide) (zk_eq [_, _, _] rfl ?_)
  exact ok_X9_factorial_L4 hj r _ _ _ _ _ h
def D_X9_award (s : zS) (a1 : Int32) (a2 : Int32) : Option (Int32 × zS) :=
  (D_X9_in a1.toInt64 (0 : Int64) (((s.1 66 8) - (1 : Int32)).toInt64)).bind fun p10 =>
  if p10 = 0 then (
    some ((-2 : Int32), s)
  ) else (
    (D_X9_in a2.toInt64 (0 : Int64) (4 : Int64)).bind fun p22 =>
    if p22 = 0 then (
      some ((-2 : Int32), s)
    ) else (
      (D_X9_allClaims s).bind fun p32 =>
      if (s.1 66 10) ≤ p32 then (
        if p32 = 0 then (
          (D_X9_fraction s (0 : Int64) (1 : Int64)).bind fun p54 =>
          some (p54.1, p54.2)
        ) else (
          if a2 = 0 then (
            zgd (zin a1 6 = true) <|
            (D_X9_fraction s ((s.1 66 10).toInt64 * (s.1 70 a1.toNatClampNeg).toInt64) p32.toInt64).bind fun p104 =>
            some (p104.1, p104.2)
          ) else (
          if a2 = 1 then (
            (D_X9_giveEvenly s a1 ((s.1 66 10).toInt64)).bind fun p115 =>
            (D_X9_fraction p115 (p115.2 66 38) (p115.2 66 39)).bind fun p127 =>
            some (p127.1, p127.2)
          ) else (
          if a2 = 2 then (
            (D_X9_loseEvenly s a1 ((s.1 66 10).toInt64)).bind fun p138 =>
            (D_X9_fraction p138 (p138.2 66 38) (p138.2 66 39)).bind fun p150 =>
            some (p150.1, p150.2)
          ) else (
          if a2 = 3 then (
            if p32 < ((2 : Int32) * (s.1 66 10)) then (
              (D_X9_giveEvenly s a1 ((2 : Int64) * (p32 - (s.1 66 10)).toInt64)).bind fun p208 =>
              zgd (zin a1 6 = true) <|
              (D_X9_fraction p208 ((((2 : Int64) * (p208.1 70 a1.toNatClampNeg).toInt64) * (p208.2 66 39)) - (p208.2 66 38)) ((2 : Int64) * (p208.2 66 39))).bind fun p241 =>
              some (p241.1, p241.2)
            ) else (
              (D_X9_giveEvenly s a1 ((2 : Int64) * (s.1 66 10).toInt64)).bind fun p175 =>
              (D_X9_fraction p175 (p175.2 66 38) ((2 : Int64) * (p175.2 66 39))).bind fun p191 =>
              some (p191.1, p191.2)
            )
          ) else (
          (D_X9_comes s a1).bind fun p248 =>
          (D_X9_factorial (p248.2.1 66 8)).bind fun p255 =>
          (D_X9_fraction p248.2 p248.1 p255.toInt64).bind fun p259 =>
          some (p259.1, p259.2)
          ))))
        )
      ) else (
        some ((-3 : Int32), s)
      )
    )
  )
set_option maxRecDepth 100000 in
theorem ok_X9_award {l : Launch} {D : va_G} {ad : Nat → Nat} {cA : Nat → ClassId} (hj : zInj ad) (s : zS) (a1 : Int32) (a2 : Int32) {r : (Int32 × zS)} (h : D_X9_award s a1 a2 = some r) : zMet l D ad cA jX9_award [.ref 66, .int a1, .int a2] s (some (.int r.1)) r.2 := by
  refine zMet_of jX9_award [some (.ref 66), some (.int a1), some (.int a2), none] (by decide +kernel) (Nat.le_of_ble_eq_true rfl) rfl hj ?_
  unfold D_X9_award at h
  refine zk_iload_n dX9_award_0 rfl rfl ?_
  refine zk_i2l dX9_award_1 ?_
  refine zk_lconst (v := 0) dX9_award_2 (by decide) ?_
  refine zk_aload_n dX9_award_3 rfl rfl ?_
  refine zf_X9_244 rfl dX9_award_4 ?_
  refine zk_iconst (v := 1) dX9_award_7 (by decide) ?_
  refine zk_isub dX9_award_8 ?_
  refine zk_i2l dX9_award_9 ?_
  obtain ⟨p10, h10, h⟩ := zbind h
  refine zc_X9_92 [] (As := [.long _, .long _, .long _]) (ok_X9_in hj _ _ _ _ h10) rfl ⟨Nat.le_of_ble_eq_true rfl, Nat.le_of_ble_eq_true rfl⟩ ⟨Nat.le_refl _, Nat.le_refl _⟩ rfl rfl (Nat.le_of_ble_eq_true rfl) dX9_award_10 ?_
  refine zk_if_eq (tgt := 28) dX9_award_13 rfl (fun g13 => ?_) (fun g13 => ?_)
  · replace h := zpos g13 h
    refine zk_bipush (v := -2) dX9_award_28 (by decide) ?_
    have e9 := Option.some.inj h
    subst e9
    exact zk_iret rfl ⟨rfl, rfl⟩ dX9_award_30
  · replace h := zneg g13 h
    refine zk_iload_n dX9_award_16 rfl rfl ?_
    refine zk_i2l dX9_award_17 ?_
    refine zk_lconst (v := 0) dX9_award_18 (by decide) ?_
    refine zk_ldc2 dX9_award_19 zw_X9_103 ?_
    obtain ⟨p22, h22, h⟩ := zbind h
    refine zc_X9_92 [] (As := [.long _, .long _, .long _]) (ok_X9_in hj _ _ _ _ h22) rfl ⟨Nat.le_of_ble_eq_true rfl, Nat.le_of_ble_eq_true rfl⟩ ⟨Nat.le_refl _, Nat.le_refl _⟩ rfl rfl (Nat.le_of_ble_eq_true rfl) dX9_award_22 ?_
    refine zk_if_ne (tgt := 31) dX9_award_25 rfl (fun g25 => ?_) (fun g25 => ?_)
    · replace h := zneg g25 h
      refine zk_aload_n dX9_award_31 rfl rfl ?_
      obtain ⟨p32, h32, h⟩ := zbind h
      refine zc_X9_258 [] (As := []) (ok_X9_allClaims hj _ h32) rfl ⟨Nat.le_of_ble_eq_true rfl, Nat.le_of_ble_eq_true rfl⟩ ⟨Nat.le_refl _, Nat.le_refl _⟩ rfl rfl (Nat.le_of_ble_eq_true rfl) dX9_award_32 ?_
      refine zk_istore_n (i := 3) dX9_award_35 rfl (by decide) (zk_eq [_, _, _, _] rfl ?_)
      refine zk_aload_n dX9_award_36 rfl rfl ?_
      refine zf_X9_249 rfl dX9_award_37 ?_
      refine zk_iload_n dX9_award_40 rfl rfl ?_
      refine zk_icmp_le (tgt := 47) dX9_award_41 rfl (fun g41 => ?_) (fun g41 => ?_)
      · replace h := zpos g41 h
        refine zk_iload_n dX9_award_47 rfl rfl ?_
        refine zk_if_ne (tgt := 58) dX9_award_48 rfl (fun g48 => ?_) (fun g48 => ?_)
        · replace h := zneg g48 h
          refine zk_iload_n dX9_award_58 rfl rfl ?_
          by_cases g59_0 : a2 = 0
          · replace h := zpos g59_0 h
            refine zk_tableIn (tgt := 88) (off := 29) dX9_award_59 (by rw [g59_0]; decide) (by rw [g59_0]; decide) (by rw [g59_0]; rfl) rfl ?_
            refine zk_aload_n dX9_award_88 rfl rfl ?_
            refine zk_aload_n dX9_award_89 rfl rfl ?_
            refine zf_X9_249 rfl dX9_award_90 ?_
            refine zk_i2l dX9_award_93 ?_
            refine zk_aload_n dX9_award_94 rfl rfl ?_
            refine zf_X9_30 rfl dX9_award_95 ?_
            refine zk_iload_n dX9_award_98 rfl rfl ?_
            obtain ⟨g99, h⟩ := zguard h
            refine zk_iald (zoI_of rfl g99) dX9_award_99 ?_
            refine zk_i2l dX9_award_100 ?_
            refine zk_lmul dX9_award_101 ?_
            refine zk_iload_n dX9_award_102 rfl rfl ?_
            refine zk_i2l dX9_award_103 ?_
            obtain ⟨p104, h104, h⟩ := zbind h
            refine zc_X9_128 [] (As := [.long _, .long _]) (ok_X9_fraction hj _ _ _ h104) rfl ⟨Nat.le_of_ble_eq_true rfl, Nat.le_of_ble_eq_true rfl⟩ ⟨Nat.le_refl _, Nat.le_refl _⟩ rfl rfl (Nat.le_of_ble_eq_true rfl) dX9_award_104 ?_
            have e9 := Option.some.inj h
            subst e9
            exact zk_iret rfl ⟨rfl, rfl⟩ dX9_award_107
          replace h := zneg g59_0 h
          by_cases g59_1 : a2 = 1
          · replace h := zpos g59_1 h
            refine zk_tableIn (tgt := 108) (off := 49) dX9_award_59 (by rw [g59_1]; decide) (by rw [g59_1]; decide) (by rw [g59_1]; rfl) rfl ?_
            refine zk_aload_n dX9_award_108 rfl rfl ?_
            refine zk_iload_n dX9_award_109 rfl rfl ?_
            refine zk_aload_n dX9_award_110 rfl rfl ?_
            refine zf_X9_249 rfl dX9_award_111 ?_
            refine zk_i2l dX9_award_114 ?_
            obtain ⟨p115, h115, h⟩ := zbind h
            refine zc_X9_261 [] (As := [.int _, .long _]) (ok_X9_giveEvenly hj _ _ _ h115) rfl ⟨Nat.le_of_ble_eq_true rfl, Nat.le_of_ble_eq_true rfl⟩ ⟨Nat.le_refl _, Nat.le_refl _⟩ rfl rfl (Nat.le_of_ble_eq_true rfl) dX9_award_115 ?_
            refine zk_aload_n dX9_award_118 rfl rfl ?_
            refine zk_aload_n dX9_award_119 rfl rfl ?_
            refine zf_X9_252 rfl dX9_award_120 ?_
            refine zk_aload_n dX9_award_123 rfl rfl ?_
            refine zf_X9_255 rfl dX9_award_124 ?_
            obtain ⟨p127, h127, h⟩ := zbind h
            refine zc_X9_128 [] (As := [.long _, .long _]) (ok_X9_fraction hj _ _ _ h127) rfl ⟨Nat.le_of_ble_eq_true rfl, Nat.le_of_ble_eq_true rfl⟩ ⟨Nat.le_refl _, Nat.le_refl _⟩ rfl rfl (Nat.le_of_ble_eq_true rfl) dX9_award_127 ?_
            have e9 := Option.some.inj h
            subst e9
            exact zk_iret rfl ⟨rfl, rfl⟩ dX9_award_130
          replace h := zneg g59_1 h
          by_cases g59_2 : a2 = 2
          · replace h := zpos g59_2 h
            refine zk_tableIn (tgt := 131) (off := 72) dX9_award_59 (by rw [g59_2]; decide) (by rw [g59_2]; decide) (by rw [g59_2]; rfl) rfl ?_
            refine zk_aload_n dX9_award_131 rfl rfl ?_
            refine zk_iload_n dX9_award_132 rfl rfl ?_
            refine zk_aload_n dX9_award_133 rfl rfl ?_
            refine zf_X9_249 rfl dX9_award_134 ?_
            refine zk_i2l dX9_award_137 ?_
            obtain ⟨p138, h138, h⟩ := zbind h
            refine zc_X9_265 [] (As := [.int _, .long _]) (ok_X9_loseEvenly hj _ _ _ h138) rfl ⟨Nat.le_of_ble_eq_true rfl, Nat.le_of_ble_eq_true rfl⟩ ⟨Nat.le_refl _, Nat.le_refl _⟩ rfl rfl (Nat.le_of_ble_eq_true rfl) dX9_award_138 ?_
            refine zk_aload_n dX9_award_141 rfl rfl ?_
            refine zk_aload_n dX9_award_142 rfl rfl ?_
            refine zf_X9_252 rfl dX9_award_143 ?_
            refine zk_aload_n dX9_award_146 rfl rfl ?_
            refine zf_X9_255 rfl dX9_award_147 ?_
            obtain ⟨p150, h150, h⟩ := zbind h
            refine zc_X9_128 [] (As := [.long _, .long _]) (ok_X9_fraction hj _ _ _ h150) rfl ⟨Nat.le_of_ble_eq_true rfl, Nat.le_of_ble_eq_true rfl⟩ ⟨Nat.le_refl _, Nat.le_refl _⟩ rfl rfl (Nat.le_of_ble_eq_true rfl) dX9_award_150 ?_
            have e9 := Option.some.inj h
            subst e9
            exact zk_iret rfl ⟨rfl, rfl⟩ dX9_award_153
          replace h := zneg g59_2 h
          by_cases g59_3 : a2 = 3
          · replace h := zpos g59_3 h
            refine zk_tableIn (tgt := 154) (off := 95) dX9_award_59 (by rw [g59_3]; decide) (by rw [g59_3]; decide) (by rw [g59_3]; rfl) rfl ?_
            refine zk_iconst (v := 2) dX9_award_154 (by decide) ?_
            refine zk_aload_n dX9_award_155 rfl rfl ?_
            refine zf_X9_249 rfl dX9_award_156 ?_
            refine zk_imul dX9_award_159 ?_
            refine zk_iload_n dX9_award_160 rfl rfl ?_
            refine zk_icmp_gt (tgt := 195) dX9_award_161 rfl (fun g161 => ?_) (fun g161 => ?_)
            · replace h := zpos g161 h
              refine zk_aload_n dX9_award_195 rfl rfl ?_
              refine zk_iload_n dX9_award_196 rfl rfl ?_
              refine zk_ldc2 dX9_award_197 zw_X9_268 ?_
              refine zk_iload_n dX9_award_200 rfl rfl ?_
              refine zk_aload_n dX9_award_201 rfl rfl ?_
              refine zf_X9_249 rfl dX9_award_202 ?_
              refine zk_isub dX9_award_205 ?_
              refine zk_i2l dX9_award_206 ?_
              refine zk_lmul dX9_award_207 ?_
              obtain ⟨p208, h208, h⟩ := zbind h
              refine zc_X9_261 [] (As := [.int _, .long _]) (ok_X9_giveEvenly hj _ _ _ h208) rfl ⟨Nat.le_of_ble_eq_true rfl, Nat.le_of_ble_eq_true rfl⟩ ⟨Nat.le_refl _, Nat.le_refl _⟩ rfl rfl (Nat.le_of_ble_eq_true rfl) dX9_award_208 ?_
              refine zk_aload_n dX9_award_211 rfl rfl ?_
              refine zk_ldc2 dX9_award_212 zw_X9_268 ?_
              refine zk_aload_n dX9_award_215 rfl rfl ?_
              refine zf_X9_30 rfl dX9_award_216 ?_
              refine zk_iload_n dX9_award_219 rfl rfl ?_
              obtain ⟨g220, h⟩ := zguard h
              refine zk_iald (zoI_of rfl g220) dX9_award_220 ?_
              refine zk_i2l dX9_award_221 ?_
              refine zk_lmul dX9_award_222 ?_
              refine zk_aload_n dX9_award_223 rfl rfl ?_
              refine zf_X9_255 rfl dX9_award_224 ?_
              refine zk_lmul dX9_award_227 ?_
              refine zk_aload_n dX9_award_228 rfl rfl ?_
              refine zf_X9_252 rfl dX9_award_229 ?_
              refine zk_lsub dX9_award_232 ?_
              refine zk_ldc2 dX9_award_233 zw_X9_268 ?_
              refine zk_aload_n dX9_award_236 rfl rfl ?_
              refine zf_X9_255 rfl dX9_award_237 ?_
              refine zk_lmul dX9_award_240 ?_
              obtain ⟨p241, h241, h⟩ := zbind h
              refine zc_X9_128 [] (As := [.long _, .long _]) (ok_X9_fraction hj _ _ _ h241) rfl ⟨Nat.le_of_ble_eq_true rfl, Nat.le_of_ble_eq_true rfl⟩ ⟨Nat.le_refl _, Nat.le_refl _⟩ rfl rfl (Nat.le_of_ble_eq_true rfl) dX9_award_241 ?_
              have e9 := Option.some.inj h
              subst e9
              exact zk_iret rfl ⟨rfl, rfl⟩ dX9_award_244
            · replace h := zneg g161 h
              refine zk_aload_n dX9_award_164 rfl rfl ?_
              refine zk_iload_n dX9_award_165 rfl rfl ?_
              refine zk_ldc2 dX9_award_166 zw_X9_268 ?_
              refine zk_aload_n dX9_award_169 rfl rfl ?_
              refine zf_X9_249 rfl dX9_award_170 ?_
              refine zk_i2l dX9_award_173 ?_
              refine zk_lmul dX9_award_174 ?_
              obtain ⟨p175, h175, h⟩ := zbind h
              refine zc_X9_261 [] (As := [.int _, .long _]) (ok_X9_giveEvenly hj _ _ _ h175) rfl ⟨Nat.le_of_ble_eq_true rfl, Nat.le_of_ble_eq_true rfl⟩ ⟨Nat.le_refl _, Nat.le_refl _⟩ rfl rfl (Nat.le_of_ble_eq_true rfl) dX9_award_175 ?_
              refine zk_aload_n dX9_award_178 rfl rfl ?_
              refine zk_aload_n dX9_award_179 rfl rfl ?_
              refine zf_X9_252 rfl dX9_award_180 ?_
              refine zk_ldc2 dX9_award_183 zw_X9_268 ?_
              refine zk_aload_n dX9_award_186 rfl rfl ?_
              refine zf_X9_255 rfl dX9_award_187 ?_
              refine zk_lmul dX9_award_190 ?_
              obtain ⟨p191, h191, h⟩ := zbind h
              refine zc_X9_128 [] (As := [.long _, .long _]) (ok_X9_fraction hj _ _ _ h191) rfl ⟨Nat.le_of_ble_eq_true rfl, Nat.le_of_ble_eq_true rfl⟩ ⟨Nat.le_refl _, Nat.le_refl _⟩ rfl rfl (Nat.le_of_ble_eq_true rfl) dX9_award_191 ?_
              have e9 := Option.some.inj h
              subst e9
              exact zk_iret rfl ⟨rfl, rfl⟩ dX9_award_194
          replace h := zneg g59_3 h
          refine zk_tableOut (tgt := 245) dX9_award_59 (zsw_s (k := 3) (zsw_s (k := 2) (zsw_s (k := 1) (zsw_s (k := 0) (zsw0 _) g59_0) g59_1) g59_2) g59_3) rfl ?_
          refine zk_aload_n dX9_award_245 rfl rfl ?_
          refine zk_aload_n dX9_award_246 rfl rfl ?_
          refine zk_iload_n dX9_award_247 rfl rfl ?_
          obtain ⟨p248, h248, h⟩ := zbind h
          refine zc_X9_270 [.ref _] (As := [.int _]) (ok_X9_comes hj _ _ h248) rfl ⟨Nat.le_of_ble_eq_true rfl, Nat.le_of_ble_eq_true rfl⟩ ⟨Nat.le_refl _, Nat.le_refl _⟩ rfl rfl (Nat.le_of_ble_eq_true rfl) dX9_award_248 ?_
          refine zk_aload_n dX9_award_251 rfl rfl ?_
          refine zf_X9_244 rfl dX9_award_252 ?_
          obtain ⟨p255, h255, h⟩ := zbind h
          refine zc_X9_125 [.long _, .ref _] (As := [.int _]) (ok_X9_factorial hj _ _ h255) rfl ⟨Nat.le_of_ble_eq_true rfl, Nat.le_of_ble_eq_true rfl⟩ ⟨Nat.le_refl _, Nat.le_refl _⟩ rfl rfl (Nat.le_of_ble_eq_true rfl) dX9_award_255 ?_
          refine zk_i2l dX9_award_258 ?_
          obtain ⟨p259, h259, h⟩ := zbind h
          refine zc_X9_128 [] (As := [.long _, .long _]) (ok_X9_fraction hj _ _ _ h259) rfl ⟨Nat.le_of_ble_eq_true rfl, Nat.le_of_ble_eq_true rfl⟩ ⟨Nat.le_refl _, Nat.le_refl _⟩ rfl rfl (Nat.le_of_ble_eq_true rfl) dX9_award_259 ?_
          have e9 := Option.some.inj h
          subst e9
          exact zk_iret rfl ⟨rfl, rfl⟩ dX9_award_262
        · replace h := zpos g48 h
          refine zk_aload_n dX9_award_51 rfl rfl ?_
          refine zk_lconst (v := 0) dX9_award_52 (by decide) ?_
          refine zk_lconst (v := 1) dX9_award_53 (by decide) ?_
          obtain ⟨p54, h54, h⟩ := zbind h
          refine zc_X9_128 [] (As := [.long _, .long _]) (ok_X9_fraction hj _ _ _ h54) rfl ⟨Nat.le_of_ble_eq_true rfl, Nat.le_of_ble_eq_true rfl⟩ ⟨Nat.le_refl _, Nat.le_refl _⟩ rfl rfl (Nat.le_of_ble_eq_true rfl) dX9_award_54 ?_
          have e9 := Option.some.inj h
          subst e9
          exact zk_iret rfl ⟨rfl, rfl⟩ dX9_award_57
      · replace h := zneg g41 h
        refine zk_bipush (v := -3) dX9_award_44 (by decide) ?_
        have e9 := Option.some.inj h
        subst e9
        exact zk_iret rfl ⟨rfl, rfl⟩ dX9_award_46
    · replace h := zpos g25 h
      refine zk_bipush (v := -2) dX9_award_28 (by decide) ?_
      have e9 := Option.some.inj h
      subst e9
      exact zk_iret rfl ⟨rfl, rfl⟩ dX9_award_30
def D_X9_noRows_B2  (rec2 : Int32 → zS → Option zS) (a1 : Int32) (s : zS) : Option zS :=
    if (30 : Int32) ≤ a1 then (
      some s
    ) else (
      zgd (zin a1 30 = true) <|
      let s14 : zS := zwL s 77 a1.toNatClampNeg (0 : Int64)
      zgd (zin a1 30 = true) <|
      let s21 : zS := zwL s14 78 a1.toNatClampNeg (1 : Int64)
      rec2 (a1 + 1) s21
    )
def D_X9_noRows_L2 (n : Nat) (a1 : Int32) (s : zS) : Option zS := zfx (fun (rec : Int32 × zS → Option zS) q => D_X9_noRows_B2 (fun v0 v1 => rec (v0, v1)) q.1 q.2) n (a1, s)
set_option maxRecDepth 100000 in
theorem D_X9_noRows_L2_s (n : Nat) (a1 : Int32) (s : zS) : D_X9_noRows_L2 (n + 1) a1 s = D_X9_noRows_B2 (D_X9_noRows_L2 n) a1 s := rfl
set_option maxRecDepth 100000 in
theorem ok_X9_noRows_L2 {l : Launch} {D : va_G} {ad : Nat → Nat} {cA : Nat → ClassId} (hj : zInj ad) (r : zS)  : ∀ (n : Nat) (a1 : Int32) (s : zS), D_X9_noRows_L2 n a1 s = some r → zOk l D ad cA (zJm jX9_noRows) (zEnd D ad cA none r) 2 [some (.ref 66), some (.int a1)] [] s := by
  intro n
  induction n with
  | zero =>
    intro a1 s h
    have h0 : (none : Option zS) = some r := h
    cases h0
  | succ n hr2 =>
    intro a1 s h
    have h : D_X9_noRows_B2 (D_X9_noRows_L2 n) a1 s = some r := h
    unfold D_X9_noRows_B2 at h
    refine zk_iload_n dX9_noRows_2 rfl rfl ?_
    refine zk_bipush (v := 30) dX9_noRows_3 (by decide) ?_
    refine zk_icmp_ge (tgt := 28) dX9_noRows_5 rfl (fun g5 => ?_) (fun g5 => ?_)
    · replace h := zpos g5 h
      have e9 := Option.some.inj h
      subst e9
      exact zk_vret rfl ⟨rfl, rfl⟩ dX9_noRows_28
    · replace h := zneg g5 h
      refine zk_aload_n dX9_noRows_8 rfl rfl ?_
      refine zf_X9_54 rfl dX9_noRows_9 ?_
      refine zk_iload_n dX9_noRows_12 rfl rfl ?_
      refine zk_lconst (v := 0) dX9_noRows_13 (by decide) ?_
      obtain ⟨g14, h⟩ := zguard h
      refine zk_last (zoL_of rfl g14) dX9_noRows_14 ?_
      refine zk_aload_n dX9_noRows_15 rfl rfl ?_
      refine zf_X9_58 rfl dX9_noRows_16 ?_
      refine zk_iload_n dX9_noRows_19 rfl rfl ?_
      refine zk_lconst (v := 1) dX9_noRows_20 (by decide) ?_
      obtain ⟨g21, h⟩ := zguard h
      refine zk_last (zoL_of rfl g21) dX9_noRows_21 ?_
      refine zk_iinc dX9_noRows_22 rfl (zinc (m := 1) (by decide)) (by decide) (zk_eq [_, _] rfl ?_)
      refine zk_goto (tgt := 2) dX9_noRows_25 rfl ?_
      exact hr2 _ _ h
def D_X9_noRows (s : zS) : Option zS :=
  D_X9_noRows_L2 zFU (0 : Int32) s
set_option maxRecDepth 100000 in
theorem ok_X9_noRows {l : Launch} {D : va_G} {ad : Nat → Nat} {cA : Nat → ClassId} (hj : zInj ad) (s : zS)  {r : zS} (h : D_X9_noRows s = some r) : zMet l D ad cA jX9_noRows [.ref 66] s none r := by
  refine zMet_of jX9_noRows [some (.ref 66), none] (by decide +kernel) (Nat.le_of_ble_eq_true rfl) rfl hj ?_
  unfold D_X9_noRows at h
  refine zk_iconst (v := 0) dX9_noRows_0 (by decide) ?_
  refine zk_istore_n (i := 1) dX9_noRows_1 rfl (by decide) (zk_eq [_, _] rfl ?_)
  exact ok_X9_noRows_L2 hj r  _ _ _ h
def D_X9_put_J69 (s : zS) (k1 : Int32) (k2 : Int64) : Option zS :=
  zgd (zin k1 30 = true) <|
  let s69 : zS := zwL s 78 k1.toNatClampNeg k2
  some s69
set_option maxRecDepth 100000 in
theorem ok_X9_put_J69 {l : Launch} {D : va_G} {ad : Nat → Nat} {cA : Nat → ClassId} (hj : zInj ad) (r : zS) (s : zS) (k1 : Int32) (k2 : Int64) (h : D_X9_put_J69 s k1 k2 = some r) : zOk l D ad cA (zJm jX9_put) (zEnd D ad cA none r) 69 [none, none, none, none, none, none, none, none, none] [.long k2, .int k1, .ref 78] s := by
  unfold D_X9_put_J69 at h
  obtain ⟨g69, h⟩ := zguard h
  refine zk_last (zoL_of rfl g69) dX9_put_69 ?_
  have e9 := Option.some.inj h
  subst e9
  exact zk_vret rfl ⟨rfl, rfl⟩ dX9_put_70
def D_X9_put_J37 (s : zS) (a1 : Int32) (a2 : Int32) (a5 : Int64) (a7 : Int64) (k1 : Int32) (k2 : Int64) : Option zS :=
  zgd (zin k1 30 = true) <|
  let s37 : zS := zwL s 77 k1.toNatClampNeg k2
  if 0 ≤ (lg_cmp a5 (0 : Int64)) then (
    if a7 = 0 then none else
    D_X9_put_J69 s37 (((6 : Int32) * a1) + a2) (a5 / a7)
  ) else (
    if a7 = 0 then none else
    D_X9_put_J69 s37 (((6 : Int32) * a1) + a2) ((-a5) / a7)
  )
set_option maxRecDepth 100000 in
theorem ok_X9_put_J37 {l : Launch} {D : va_G} {ad : Nat → Nat} {cA : Nat → ClassId} (hj : zInj ad) (r : zS) (s : zS) (a1 : Int32) (a2 : Int32) (a5 : Int64) (a7 : Int64) (k1 : Int32) (k2 : Int64) (h : D_X9_put_J37 s a1 a2 a5 a7 k1 k2 = some r) : zOk l D ad cA (zJm jX9_put) (zEnd D ad cA none r) 37 [some (.ref 66), some (.int a1), some (.int a2), none, none, some (.long a5), none, some (.long a7), none] [.long k2, .int k1, .ref 77] s := by
  unfold D_X9_put_J37 at h
  obtain ⟨g37, h⟩ := zguard h
  refine zk_last (zoL_of rfl g37) dX9_put_37 ?_
  refine zk_aload_n dX9_put_38 rfl rfl ?_
  refine zf_X9_58 rfl dX9_put_39 ?_
  refine zk_bipush (v := 6) dX9_put_42 (by decide) ?_
  refine zk_iload_n dX9_put_44 rfl rfl ?_
  refine zk_imul dX9_put_45 ?_
  refine zk_iload_n dX9_put_46 rfl rfl ?_
  refine zk_iadd dX9_put_47 ?_
  refine zk_lload dX9_put_48 rfl ?_
  refine zk_lconst (v := 0) dX9_put_50 (by decide) ?_
  refine zk_lcmp dX9_put_51 ?_
  refine zk_if_ge (tgt := 64) dX9_put_52 rfl (fun g52 => ?_) (fun g52 => ?_)
  · replace h := zpos g52 h
    refine zk_lload dX9_put_64 rfl ?_
    refine zk_lload dX9_put_66 rfl ?_
    obtain ⟨g68, h⟩ := zguardn h
    refine zk_ldiv dX9_put_68 g68 ?_
    refine zk_mask [false, false, false, false, false, false, false, false, false] ?_
    exact ok_X9_put_J69 hj r _ _ _ h
  · replace h := zneg g52 h
    refine zk_lload dX9_put_55 rfl ?_
    refine zk_lneg dX9_put_57 ?_
    refine zk_lload dX9_put_58 rfl ?_
    obtain ⟨g60, h⟩ := zguardn h
    refine zk_ldiv dX9_put_60 g60 ?_
    refine zk_goto (tgt := 69) dX9_put_61 rfl ?_
    refine zk_mask [false, false, false, false, false, false, false, false, false] ?_
    exact ok_X9_put_J69 hj r _ _ _ h
def D_X9_put (s : zS) (a1 : Int32) (a2 : Int32) (a3 : Int64) (a5 : Int64) : Option zS :=
  (D_X9_common a3 a5).bind fun p3 =>
  if 0 ≤ (lg_cmp a5 (0 : Int64)) then (
    if p3 = 0 then none else
    D_X9_put_J37 s a1 a2 a5 p3 (((6 : Int32) * a1) + a2) (a3 / p3)
  ) else (
    if p3 = 0 then none else
    D_X9_put_J37 s a1 a2 a5 p3 (((6 : Int32) * a1) + a2) ((-a3) / p3)
  )
set_option maxRecDepth 100000 in
theorem ok_X9_put {l : Launch} {D : va_G} {ad : Nat → Nat} {cA : Nat → ClassId} (hj : zInj ad) (s : zS) (a1 : Int32) (a2 : Int32) (a3 : Int64) (a5 : Int64) {r : zS} (h : D_X9_put s a1 a2 a3 a5 = some r) : zMet l D ad cA jX9_put [.ref 66, .int a1, .int a2, .long a3, .long a5] s none r := by
  refine zMet_of jX9_put [some (.ref 66), some (.int a1), some (.int a2), some (.long a3), none, some (.long a5), none, none, none] (by decide +kernel) (Nat.le_of_ble_eq_true rfl) rfl hj ?_
  unfold D_X9_put at h
  refine zk_lload_n dX9_put_0 rfl rfl ?_
  refine zk_lload dX9_put_1 rfl ?_
  obtain ⟨p3, h3, h⟩ := zbind h
  refine zc_X9_96 [] (As := [.long _, .long _]) (ok_X9_common hj _ _ _ h3) rfl ⟨Nat.le_of_ble_eq_true rfl, Nat.le_of_ble_eq_true rfl⟩ ⟨Nat.le_refl _, Nat.le_refl _⟩ rfl rfl (Nat.le_of_ble_eq_true rfl) dX9_put_3 ?_
  refine zk_lstore (i := 7) dX9_put_6 (by decide) (zk_eq [_, _, _, _, _, _, _, _, _] rfl ?_)
  refine zk_aload_n dX9_put_8 rfl rfl ?_
  refine zf_X9_54 rfl dX9_put_9 ?_
  refine zk_bipush (v := 6) dX9_put_12 (by decide) ?_
  refine zk_iload_n dX9_put_14 rfl rfl ?_
  refine zk_imul dX9_put_15 ?_
  refine zk_iload_n dX9_put_16 rfl rfl ?_
  refine zk_iadd dX9_put_17 ?_
  refine zk_lload dX9_put_18 rfl ?_
  refine zk_lconst (v := 0) dX9_put_20 (by decide) ?_
  refine zk_lcmp dX9_put_21 ?_
  refine zk_if_ge (tgt := 33) dX9_put_22 rfl (fun g22 => ?_) (fun g22 => ?_)
  · replace h := zpos g22 h
    refine zk_lload_n dX9_put_33 rfl rfl ?_
    refine zk_lload dX9_put_34 rfl ?_
    obtain ⟨g36, h⟩ := zguardn h
    refine zk_ldiv dX9_put_36 g36 ?_
    refine zk_mask [true, true, true, false, false, true, false, true, false] ?_
    exact ok_X9_put_J37 hj r _ _ _ _ _ _ _ h
  · replace h := zneg g22 h
    refine zk_lload_n dX9_put_25 rfl rfl ?_
    refine zk_lneg dX9_put_26 ?_
    refine zk_lload dX9_put_27 rfl ?_
    obtain ⟨g29, h⟩ := zguardn h
    refine zk_ldiv dX9_put_29 g29 ?_
    refine zk_goto (tgt := 37) dX9_put_30 rfl ?_
    refine zk_mask [true, true, true, false, false, true, false, true, false] ?_
    exact ok_X9_put_J37 hj r _ _ _ _ _ _ _ h
def D_X9_solve_B282 (rec2 : Int32 → zS → Option (Int32 × zS)) (rec245 : Int32 → zS → Option (Int32 × zS)) (a1 : Int32) (a2 : Int32) (a8 : Int32) (a9 : Int64) (a11 : Int64) (rec282 : Int32 → zS → Option (Int32 × zS)) (a13 : Int32) (s : zS) : Option (Int32 × zS) :=
    if (6 : Int32) ≤ a13 then (
      rec245 (a8 + 1) s
    ) else (
      if a8 = a2 then (
        rec245 (a8 + 1) s
      ) else (
        if (lg_cmp a9 (0 : Int64)) = 0 then (
          rec245 (a8 + 1) s
        ) else (
          zgd (zin (((6 : Int32) * a2) + a13) 30 = true) <|
          zgd (zin (((6 : Int32) * a2) + a13) 30 = true) <|
          zgd (zin (((6 : Int32) * a8) + a13) 30 = true) <|
          zgd (zin (((6 : Int32) * a8) + a13) 30 = true) <|
          zgd (zin (((6 : Int32) * a8) + a13) 30 = true) <|
          (D_X9_put s a8 a13 (((s.2 77 (((6 : Int32) * a8) + a13).toNatClampNeg) * ((s.2 78 (((6 : Int32) * a2) + a13).toNatClampNeg) * a11)) - (((s.2 77 (((6 : Int32) * a2) + a13).toNatClampNeg) * a9) * (s.2 78 (((6 : Int32) * a8) + a13).toNatClampNeg))) ((s.2 78 (((6 : Int32) * a8) + a13).toNatClampNeg) * ((s.2 78 (((6 : Int32) * a2) + a13).toNatClampNeg) * a11))).bind fun p390 =>
          rec282 (a13 + 1) p390
        )
      )
    )
def D_X9_solve_L282 (rec2 : Int32 → zS → Option (Int32 × zS)) (rec245 : Int32 → zS → Option (Int32 × zS)) (a1 : Int32) (a2 : Int32) (a8 : Int32) (a9 : Int64) (a11 : Int64) (n : Nat) (a13 : Int32) (s : zS) : Option (Int32 × zS) := zfx (fun (rec : Int32 × zS → Option (Int32 × zS)) q => D_X9_solve_B282 rec2 rec245 a1 a2 a8 a9 a11 (fun v0 v1 => rec (v0, v1)) q.1 q.2) n (a13, s)
set_option maxRecDepth 100000 in
theorem D_X9_solve_L282_s (rec2 : Int32 → zS → Option (Int32 × zS)) (rec245 : Int32 → zS → Option (Int32 × zS)) (a1 : Int32) (a2 : Int32) (a8 : Int32) (a9 : Int64) (a11 : Int64) (n : Nat) (a13 : Int32) (s : zS) : D_X9_solve_L282 rec2 rec245 a1 a2 a8 a9 a11 (n + 1) a13 s = D_X9_solve_B282 rec2 rec245 a1 a2 a8 a9 a11 (D_X9_solve_L282 rec2 rec245 a1 a2 a8 a9 a11 n) a13 s := rfl
set_option maxRecDepth 100000 in
theorem ok_X9_solve_L282 {l : Launch} {D : va_G} {ad : Nat → Nat} {cA : Nat → ClassId} (hj : zInj ad) (r : (Int32 × zS)) (a1 : Int32) (a2 : Int32) (a8 : Int32) (a9 : Int64) (a11 : Int64) (rec2 : Int32 → zS → Option (Int32 × zS)) (hr2 : ∀ (b2 : Int32) (s : zS), rec2 b2 s = some r → zOk l D ad cA (zJm jX9_solve) (zEnd D ad cA (some (.int r.1)) r.2) 2 [some (.ref 66), some (.int a1), some (.int b2), none, none, none, none, none, none, none, none, none, none, none, none, none, none, none] [] s) (rec245 : Int32 → zS → Option (Int32 × zS)) (hr245 : ∀ (b8 : Int32) (s : zS), rec245 b8 s = some r → zOk l D ad cA (zJm jX9_solve) (zEnd D ad cA (some (.int r.1)) r.2) 245 [some (.ref 66), some (.int a1), some (.int a2), none, none, none, none, none, some (.int b8), none, none, none, none, none, none, none, none, none] [] s) : ∀ (n : Nat) (a13 : Int32) (s : zS), D_X9_solve_L282 rec2 rec245 a1 a2 a8 a9 a11 n a13 s = some r → zOk l D ad cA (zJm jX9_solve) (zEnd D ad cA (some (.int r.1)) r.2) 282 [some (.ref 66), some (.int a1), some (.int a2), none, none, none, none, none, some (.int a8), some (.long a9), none, some (.long a11), none, some (.int a13), none, none, none, none] [] s := by
  intro n
  induction n with
  | zero =>
    intro a13 s h
    have h0 : (none : Option (Int32 × zS)) = some r := h
    cases h0
  | succ n hr282 =>
    intro a13 s h
    have h : D_X9_solve_B282 rec2 rec245 a1 a2 a8 a9 a11 (D_X9_solve_L282 rec2 rec245 a1 a2 a8 a9 a11 n) a13 s = some r := h
    unfold D_X9_solve_B282 at h
    refine zk_iload dX9_solve_282 rfl ?_
    refine zk_bipush (v := 6) dX9_solve_284 (by decide) ?_
    refine zk_icmp_ge (tgt := 399) dX9_solve_286 rfl (fun g286 => ?_) (fun g286 => ?_)
    · replace h := zpos g286 h
      refine zk_iinc dX9_solve_399 rfl (zinc (m := 1) (by decide)) (by decide) (zk_eq [_, _, _, _, _, _, _, _, _, _, _, _, _, _, _, _, _, _] rfl ?_)
      refine zk_goto (tgt := 245) dX9_solve_402 rfl ?_
      refine zk_mask [true, true, true, false, false, false, false, false, true, false, false, false, false, false, false, false, false, false] ?_
      exact hr245 _ _ h
    · replace h := zneg g286 h
      refine zk_iload dX9_solve_289 rfl ?_
      refine zk_iload_n dX9_solve_291 rfl rfl ?_
      refine zk_icmp_eq (tgt := 399) dX9_solve_292 rfl (fun g292 => ?_) (fun g292 => ?_)
      · replace h := zpos g292 h
        refine zk_iinc dX9_solve_399 rfl (zinc (m := 1) (by decide)) (by decide) (zk_eq [_, _, _, _, _, _, _, _, _, _, _, _, _, _, _, _, _, _] rfl ?_)
        refine zk_goto (tgt := 245) dX9_solve_402 rfl ?_
        refine zk_mask [true, true, true, false, false, false, false, false, true, false, false, false, false, false, false, false, false, false] ?_
        exact hr245 _ _ h
      · replace h := zneg g292 h
        refine zk_lload dX9_solve_295 rfl ?_
        refine zk_lconst (v := 0) dX9_solve_297 (by decide) ?_
        refine zk_lcmp dX9_solve_298 ?_
        refine zk_if_eq (tgt := 399) dX9_solve_299 rfl (fun g299 => ?_) (fun g299 => ?_)
        · replace h := zpos g299 h
          refine zk_iinc dX9_solve_399 rfl (zinc (m := 1) (by decide)) (by decide) (zk_eq [_, _, _, _, _, _, _, _, _, _, _, _, _, _, _, _, _, _] rfl ?_)
          refine zk_goto (tgt := 245) dX9_solve_402 rfl ?_
          refine zk_mask [true, true, true, false, false, false, false, false, true, false, false, false, false, false, false, false, false, false] ?_
          exact hr245 _ _ h
        · replace h := zneg g299 h
          refine zk_aload_n dX9_solve_302 rfl rfl ?_
          refine zf_X9_54 rfl dX9_solve_303 ?_
          refine zk_bipush (v := 6) dX9_solve_306 (by decide) ?_
          refine zk_iload_n dX9_solve_308 rfl rfl ?_
          refine zk_imul dX9_solve_309 ?_
          refine zk_iload dX9_solve_310 rfl ?_
          refine zk_iadd dX9_solve_312 ?_
          obtain ⟨g313, h⟩ := zguard h
          refine zk_lald (zoL_of rfl g313) dX9_solve_313 ?_
          refine zk_lload dX9_solve_314 rfl ?_
          refine zk_lmul dX9_solve_316 ?_
          refine zk_lstore (i := 14) dX9_solve_317 (by decide) (zk_eq [_, _, _, _, _, _, _, _, _, _, _, _, _, _, _, _, _, _] rfl ?_)
          refine zk_aload_n dX9_solve_319 rfl rfl ?_
          refine zf_X9_58 rfl dX9_solve_320 ?_
          refine zk_bipush (v := 6) dX9_solve_323 (by decide) ?_
          refine zk_iload_n dX9_solve_325 rfl rfl ?_
          refine zk_imul dX9_solve_326 ?_
          refine zk_iload dX9_solve_327 rfl ?_
          refine zk_iadd dX9_solve_329 ?_
          obtain ⟨g330, h⟩ := zguard h
          refine zk_lald (zoL_of rfl g330) dX9_solve_330 ?_
          refine zk_lload dX9_solve_331 rfl ?_
          refine zk_lmul dX9_solve_333 ?_
          refine zk_lstore (i := 16) dX9_solve_334 (by decide) (zk_eq [_, _, _, _, _, _, _, _, _, _, _, _, _, _, _, _, _, _] rfl ?_)
          refine zk_aload_n dX9_solve_336 rfl rfl ?_
          refine zk_iload dX9_solve_337 rfl ?_
          refine zk_iload dX9_solve_339 rfl ?_
          refine zk_aload_n dX9_solve_341 rfl rfl ?_
          refine zf_X9_54 rfl dX9_solve_342 ?_
          refine zk_bipush (v := 6) dX9_solve_345 (by decide) ?_
          refine zk_iload dX9_solve_347 rfl ?_
          refine zk_imul dX9_solve_349 ?_
          refine zk_iload dX9_solve_350 rfl ?_
          refine zk_iadd dX9_solve_352 ?_
          obtain ⟨g353, h⟩ := zguard h
          refine zk_lald (zoL_of rfl g353) dX9_solve_353 ?_
          refine zk_lload dX9_solve_354 rfl ?_
          refine zk_lmul dX9_solve_356 ?_
          refine zk_lload dX9_solve_357 rfl ?_
          refine zk_aload_n dX9_solve_359 rfl rfl ?_
          refine zf_X9_58 rfl dX9_solve_360 ?_
          refine zk_bipush (v := 6) dX9_solve_363 (by decide) ?_
          refine zk_iload dX9_solve_365 rfl ?_
          refine zk_imul dX9_solve_367 ?_
          refine zk_iload dX9_solve_368 rfl ?_
          refine zk_iadd dX9_solve_370 ?_
          obtain ⟨g371, h⟩ := zguard h
          refine zk_lald (zoL_of rfl g371) dX9_solve_371 ?_
          refine zk_lmul dX9_solve_372 ?_
          refine zk_lsub dX9_solve_373 ?_
          refine zk_aload_n dX9_solve_374 rfl rfl ?_
          refine zf_X9_58 rfl dX9_solve_375 ?_
          refine zk_bipush (v := 6) dX9_solve_378 (by decide) ?_
          refine zk_iload dX9_solve_380 rfl ?_
          refine zk_imul dX9_solve_382 ?_
          refine zk_iload dX9_solve_383 rfl ?_
          refine zk_iadd dX9_solve_385 ?_
          obtain ⟨g386, h⟩ := zguard h
          refine zk_lald (zoL_of rfl g386) dX9_solve_386 ?_
          refine zk_lload dX9_solve_387 rfl ?_
          refine zk_lmul dX9_solve_389 ?_
          obtain ⟨p390, h390, h⟩ := zbind h
          refine zc_X9_134 [] (As := [.int _, .int _, .long _, .long _]) (ok_X9_put hj _ _ _ _ _ h390) rfl ⟨Nat.le_of_ble_eq_true rfl, Nat.le_of_ble_eq_true rfl⟩ ⟨Nat.le_refl _, Nat.le_refl _⟩ rfl rfl (Nat.le_of_ble_eq_true rfl) dX9_solve_390 ?_
          refine zk_iinc dX9_solve_393 rfl (zinc (m := 1) (by decide)) (by decide) (zk_eq [_, _, _, _, _, _, _, _, _, _, _, _, _, _, _, _, _, _] rfl ?_)
          refine zk_goto (tgt := 282) dX9_solve_396 rfl ?_
          refine zk_mask [true, true, true, false, false, false, false, false, true, true, false, true, false, true, false, false, false, false] ?_
          exact hr282 _ _ h
def D_X9_solve_B245 (rec2 : Int32 → zS → Option (Int32 × zS)) (a1 : Int32) (a2 : Int32) (rec245 : Int32 → zS → Option (Int32 × zS)) (a8 : Int32) (s : zS) : Option (Int32 × zS) :=
    if a1 ≤ a8 then (
      rec2 (a2 + 1) s
    ) else (
      zgd (zin (((6 : Int32) * a8) + a2) 30 = true) <|
      zgd (zin (((6 : Int32) * a8) + a2) 30 = true) <|
      D_X9_solve_L282 rec2 rec245 a1 a2 a8 (s.2 77 (((6 : Int32) * a8) + a2).toNatClampNeg) (s.2 78 (((6 : Int32) * a8) + a2).toNatClampNeg) zFU a2 s
    )
def D_X9_solve_L245 (rec2 : Int32 → zS → Option (Int32 × zS)) (a1 : Int32) (a2 : Int32) (n : Nat) (a8 : Int32) (s : zS) : Option (Int32 × zS) := zfx (fun (rec : Int32 × zS → Option (Int32 × zS)) q => D_X9_solve_B245 rec2 a1 a2 (fun v0 v1 => rec (v0, v1)) q.1 q.2) n (a8, s)
set_option maxRecDepth 100000 in
theorem D_X9_solve_L245_s (rec2 : Int32 → zS → Option (Int32 × zS)) (a1 : Int32) (a2 : Int32) (n : Nat) (a8 : Int32) (s : zS) : D_X9_solve_L245 rec2 a1 a2 (n + 1) a8 s = D_X9_solve_B245 rec2 a1 a2 (D_X9_solve_L245 rec2 a1 a2 n) a8 s := rfl
set_option maxRecDepth 100000 in
theorem ok_X9_solve_L245 {l : Launch} {D : va_G} {ad : Nat → Nat} {cA : Nat → ClassId} (hj : zInj ad) (r : (Int32 × zS)) (a1 : Int32) (a2 : Int32) (rec2 : Int32 → zS → Option (Int32 × zS)) (hr2 : ∀ (b2 : Int32) (s : zS), rec2 b2 s = some r → zOk l D ad cA (zJm jX9_solve) (zEnd D ad cA (some (.int r.1)) r.2) 2 [some (.ref 66), some (.int a1), some (.int b2), none, none, none, none, none, none, none, none, none, none, none, none, none, none, none] [] s) : ∀ (n : Nat) (a8 : Int32) (s : zS), D_X9_solve_L245 rec2 a1 a2 n a8 s = some r → zOk l D ad cA (zJm jX9_solve) (zEnd D ad cA (some (.int r.1)) r.2) 245 [some (.ref 66), some (.int a1), some (.int a2), none, none, none, none, none, some (.int a8), none, none, none, none, none, none, none, none, none] [] s := by
  intro n
  induction n with
  | zero =>
    intro a8 s h
    have h0 : (none : Option (Int32 × zS)) = some r := h
    cases h0
  | succ n hr245 =>
    intro a8 s h
    have h : D_X9_solve_B245 rec2 a1 a2 (D_X9_solve_L245 rec2 a1 a2 n) a8 s = some r := h
    unfold D_X9_solve_B245 at h
    refine zk_iload dX9_solve_245 rfl ?_
    refine zk_iload_n dX9_solve_247 rfl rfl ?_
    refine zk_icmp_ge (tgt := 405) dX9_solve_248 rfl (fun g248 => ?_) (fun g248 => ?_)
    · replace h := zpos g248 h
      refine zk_iinc dX9_solve_405 rfl (zinc (m := 1) (by decide)) (by decide) (zk_eq [_, _, _, _, _, _, _, _, _, _, _, _, _, _, _, _, _, _] rfl ?_)
      refine zk_goto (tgt := 2) dX9_solve_408 rfl ?_
      refine zk_mask [true, true, true, false, false, false, false, false, false, false, false, false, false, false, false, false, false, false] ?_
      exact hr2 _ _ h
    · replace h := zneg g248 h
      refine zk_aload_n dX9_solve_251 rfl rfl ?_
      refine zf_X9_54 rfl dX9_solve_252 ?_
      refine zk_bipush (v := 6) dX9_solve_255 (by decide) ?_
      refine zk_iload dX9_solve_257 rfl ?_
      refine zk_imul dX9_solve_259 ?_
      refine zk_iload_n dX9_solve_260 rfl rfl ?_
      refine zk_iadd dX9_solve_261 ?_
      obtain ⟨g262, h⟩ := zguard h
      refine zk_lald (zoL_of rfl g262) dX9_solve_262 ?_
      refine zk_lstore (i := 9) dX9_solve_263 (by decide) (zk_eq [_, _, _, _, _, _, _, _, _, _, _, _, _, _, _, _, _, _] rfl ?_)
      refine zk_aload_n dX9_solve_265 rfl rfl ?_
      refine zf_X9_58 rfl dX9_solve_266 ?_
      refine zk_bipush (v := 6) dX9_solve_269 (by decide) ?_
      refine zk_iload dX9_solve_271 rfl ?_
      refine zk_imul dX9_solve_273 ?_
      refine zk_iload_n dX9_solve_274 rfl rfl ?_
      refine zk_iadd dX9_solve_275 ?_
      obtain ⟨g276, h⟩ := zguard h
      refine zk_lald (zoL_of rfl g276) dX9_solve_276 ?_
      refine zk_lstore (i := 11) dX9_solve_277 (by decide) (zk_eq [_, _, _, _, _, _, _, _, _, _, _, _, _, _, _, _, _, _] rfl ?_)
      refine zk_iload_n dX9_solve_279 rfl rfl ?_
      refine zk_istore (i := 13) dX9_solve_280 (by decide) (zk_eq [_, _, _, _, _, _, _, _, _, _, _, _, _, _, _, _, _, _] rfl ?_)
      exact ok_X9_solve_L282 hj r _ _ _ _ _ _ hr2 _ hr245 _ _ _ h
def D_X9_solve_B192 (rec2 : Int32 → zS → Option (Int32 × zS)) (a1 : Int32) (a2 : Int32) (a4 : Int64) (a6 : Int64) (rec192 : Int32 → zS → Option (Int32 × zS)) (a8 : Int32) (s : zS) : Option (Int32 × zS) :=
    if (6 : Int32) ≤ a8 then (
      D_X9_solve_L245 rec2 a1 a2 zFU (0 : Int32) s
    ) else (
      zgd (zin (((6 : Int32) * a2) + a8) 30 = true) <|
      zgd (zin (((6 : Int32) * a2) + a8) 30 = true) <|
      (D_X9_put s a2 a8 ((s.2 77 (((6 : Int32) * a2) + a8).toNatClampNeg) * a6) ((s.2 78 (((6 : Int32) * a2) + a8).toNatClampNeg) * a4)).bind fun p233 =>
      rec192 (a8 + 1) p233
    )
def D_X9_solve_L192 (rec2 : Int32 → zS → Option (Int32 × zS)) (a1 : Int32) (a2 : Int32) (a4 : Int64) (a6 : Int64) (n : Nat) (a8 : Int32) (s : zS) : Option (Int32 × zS) := zfx (fun (rec : Int32 × zS → Option (Int32 × zS)) q => D_X9_solve_B192 rec2 a1 a2 a4 a6 (fun v0 v1 => rec (v0, v1)) q.1 q.2) n (a8, s)
set_option maxRecDepth 100000 in
theorem D_X9_solve_L192_s (rec2 : Int32 → zS → Option (Int32 × zS)) (a1 : Int32) (a2 : Int32) (a4 : Int64) (a6 : Int64) (n : Nat) (a8 : Int32) (s : zS) : D_X9_solve_L192 rec2 a1 a2 a4 a6 (n + 1) a8 s = D_X9_solve_B192 rec2 a1 a2 a4 a6 (D_X9_solve_L192 rec2 a1 a2 a4 a6 n) a8 s := rfl
set_option maxRecDepth 100000 in
theorem ok_X9_solve_L192 {l : Launch} {D : va_G} {ad : Nat → Nat} {cA : Nat → ClassId} (hj : zInj ad) (r : (Int32 × zS)) (a1 : Int32) (a2 : Int32) (a4 : Int64) (a6 : Int64) (rec2 : Int32 → zS → Option (Int32 × zS)) (hr2 : ∀ (b2 : Int32) (s : zS), rec2 b2 s = some r → zOk l D ad cA (zJm jX9_solve) (zEnd D ad cA (some (.int r.1)) r.2) 2 [some (.ref 66), some (.int a1), some (.int b2), none, none, none, none, none, none, none, none, none, none, none, none, none, none, none] [] s) : ∀ (n : Nat) (a8 : Int32) (s : zS), D_X9_solve_L192 rec2 a1 a2 a4 a6 n a8 s = some r → zOk l D ad cA (zJm jX9_solve) (zEnd D ad cA (some (.int r.1)) r.2) 192 [some (.ref 66), some (.int a1), some (.int a2), none, some (.long a4), none, some (.long a6), none, some (.int a8), none, none, none, none, none, none, none, none, none] [] s := by
  intro n
  induction n with
  | zero =>
    intro a8 s h
    have h0 : (none : Option (Int32 × zS)) = some r := h
    cases h0
  | succ n hr192 =>
    intro a8 s h
    have h : D_X9_solve_B192 rec2 a1 a2 a4 a6 (D_X9_solve_L192 rec2 a1 a2 a4 a6 n) a8 s = some r := h
    unfold D_X9_solve_B192 at h
    refine zk_iload dX9_solve_192 rfl ?_
    refine zk_bipush (v := 6) dX9_solve_194 (by decide) ?_
    refine zk_icmp_ge (tgt := 242) dX9_solve_196 rfl (fun g196 => ?_) (fun g196 => ?_)
    · replace h := zpos g196 h
      refine zk_iconst (v := 0) dX9_solve_242 (by decide) ?_
      refine zk_istore (i := 8) dX9_solve_243 (by decide) (zk_eq [_, _, _, _, _, _, _, _, _, _, _, _, _, _, _, _, _, _] rfl ?_)
      refine zk_mask [true, true, true, false, false, false, false, false, true, false, false, false, false, false, false, false, false, false] ?_
      exact ok_X9_solve_L245 hj r _ _ _ hr2 _ _ _ h
    · replace h := zneg g196 h
      refine zk_aload_n dX9_solve_199 rfl rfl ?_
      refine zk_iload_n dX9_solve_200 rfl rfl ?_
      refine zk_iload dX9_solve_201 rfl ?_
      refine zk_aload_n dX9_solve_203 rfl rfl ?_
      refine zf_X9_54 rfl dX9_solve_204 ?_
      refine zk_bipush (v := 6) dX9_solve_207 (by decide) ?_
      refine zk_iload_n dX9_solve_209 rfl rfl ?_
      refine zk_imul dX9_solve_210 ?_
      refine zk_iload dX9_solve_211 rfl ?_
      refine zk_iadd dX9_solve_213 ?_
      obtain ⟨g214, h⟩ := zguard h
      refine zk_lald (zoL_of rfl g214) dX9_solve_214 ?_
      refine zk_lload dX9_solve_215 rfl ?_
      refine zk_lmul dX9_solve_217 ?_
      refine zk_aload_n dX9_solve_218 rfl rfl ?_
      refine zf_X9_58 rfl dX9_solve_219 ?_
      refine zk_bipush (v := 6) dX9_solve_222 (by decide) ?_
      refine zk_iload_n dX9_solve_224 rfl rfl ?_
      refine zk_imul dX9_solve_225 ?_
      refine zk_iload dX9_solve_226 rfl ?_
      refine zk_iadd dX9_solve_228 ?_
      obtain ⟨g229, h⟩ := zguard h
      refine zk_lald (zoL_of rfl g229) dX9_solve_229 ?_
      refine zk_lload dX9_solve_230 rfl ?_
      refine zk_lmul dX9_solve_232 ?_
      obtain ⟨p233, h233, h⟩ := zbind h
      refine zc_X9_134 [] (As := [.int _, .int _, .long _, .long _]) (ok_X9_put hj _ _ _ _ _ h233) rfl ⟨Nat.le_of_ble_eq_true rfl, Nat.le_of_ble_eq_true rfl⟩ ⟨Nat.le_refl _, Nat.le_refl _⟩ rfl rfl (Nat.le_of_ble_eq_true rfl) dX9_solve_233 ?_
      refine zk_iinc dX9_solve_236 rfl (zinc (m := 1) (by decide)) (by decide) (zk_eq [_, _, _, _, _, _, _, _, _, _, _, _, _, _, _, _, _, _] rfl ?_)
      refine zk_goto (tgt := 192) dX9_solve_239 rfl ?_
      exact hr192 _ _ h
def D_X9_solve_B46 (rec2 : Int32 → zS → Option (Int32 × zS)) (a1 : Int32) (a2 : Int32) (a3 : Int32) (rec46 : Int32 → zS → Option (Int32 × zS)) (a4 : Int32) (s : zS) : Option (Int32 × zS) :=
    if (6 : Int32) ≤ a4 then (
      zgd (zin (((6 : Int32) * a2) + a2) 30 = true) <|
      zgd (zin (((6 : Int32) * a2) + a2) 30 = true) <|
      D_X9_solve_L192 rec2 a1 a2 (s.2 77 (((6 : Int32) * a2) + a2).toNatClampNeg) (s.2 78 (((6 : Int32) * a2) + a2).toNatClampNeg) zFU a2 s
    ) else (
      zgd (zin (((6 : Int32) * a3) + a4) 30 = true) <|
      zgd (zin (((6 : Int32) * a3) + a4) 30 = true) <|
      zgd (zin (((6 : Int32) * a2) + a4) 30 = true) <|
      zgd (zin (((6 : Int32) * a3) + a4) 30 = true) <|
      let s104 : zS := zwL s 77 (((6 : Int32) * a3) + a4).toNatClampNeg (s.2 77 (((6 : Int32) * a2) + a4).toNatClampNeg)
      zgd (zin (((6 : Int32) * a2) + a4) 30 = true) <|
      zgd (zin (((6 : Int32) * a3) + a4) 30 = true) <|
      let s128 : zS := zwL s104 78 (((6 : Int32) * a3) + a4).toNatClampNeg (s104.2 78 (((6 : Int32) * a2) + a4).toNatClampNeg)
      zgd (zin (((6 : Int32) * a2) + a4) 30 = true) <|
      let s142 : zS := zwL s128 77 (((6 : Int32) * a2) + a4).toNatClampNeg (s.2 77 (((6 : Int32) * a3) + a4).toNatClampNeg)
      zgd (zin (((6 : Int32) * a2) + a4) 30 = true) <|
      let s156 : zS := zwL s142 78 (((6 : Int32) * a2) + a4).toNatClampNeg (s.2 78 (((6 : Int32) * a3) + a4).toNatClampNeg)
      rec46 (a4 + 1) s156
    )
def D_X9_solve_L46 (rec2 : Int32 → zS → Option (Int32 × zS)) (a1 : Int32) (a2 : Int32) (a3 : Int32) (n : Nat) (a4 : Int32) (s : zS) : Option (Int32 × zS) := zfx (fun (rec : Int32 × zS → Option (Int32 × zS)) q => D_X9_solve_B46 rec2 a1 a2 a3 (fun v0 v1 => rec (v0, v1)) q.1 q.2) n (a4, s)
set_option maxRecDepth 100000 in
theorem D_X9_solve_L46_s (rec2 : Int32 → zS → Option (Int32 × zS)) (a1 : Int32) (a2 : Int32) (a3 : Int32) (n : Nat) (a4 : Int32) (s : zS) : D_X9_solve_L46 rec2 a1 a2 a3 (n + 1) a4 s = D_X9_solve_B46 rec2 a1 a2 a3 (D_X9_solve_L46 rec2 a1 a2 a3 n) a4 s := rfl
set_option maxRecDepth 100000 in
theorem ok_X9_solve_L46 {l : Launch} {D : va_G} {ad : Nat → Nat} {cA : Nat → ClassId} (hj : zInj ad) (r : (Int32 × zS)) (a1 : Int32) (a2 : Int32) (a3 : Int32) (rec2 : Int32 → zS → Option (Int32 × zS)) (hr2 : ∀ (b2 : Int32) (s : zS), rec2 b2 s = some r → zOk l D ad cA (zJm jX9_solve) (zEnd D ad cA (some (.int r.1)) r.2) 2 [some (.ref 66), some (.int a1), some (.int b2), none, none, none, none, none, none, none, none, none, none, none, none, none, none, none] [] s) : ∀ (n : Nat) (a4 : Int32) (s : zS), D_X9_solve_L46 rec2 a1 a2 a3 n a4 s = some r → zOk l D ad cA (zJm jX9_solve) (zEnd D ad cA (some (.int r.1)) r.2) 46 [some (.ref 66), some (.int a1), some (.int a2), some (.int a3), some (.int a4), none, none, none, none, none, none, none, none, none, none, none, none, none] [] s := by
  intro n
  induction n with
  | zero =>
    intro a4 s h
    have h0 : (none : Option (Int32 × zS)) = some r := h
    cases h0
  | succ n hr46 =>
    intro a4 s h
    have h : D_X9_solve_B46 rec2 a1 a2 a3 (D_X9_solve_L46 rec2 a1 a2 a3 n) a4 s = some r := h
    unfold D_X9_solve_B46 at h
    refine zk_iload dX9_solve_46 rfl ?_
    refine zk_bipush (v := 6) dX9_solve_48 (by decide) ?_
    refine zk_icmp_ge (tgt := 163) dX9_solve_50 rfl (fun g50 => ?_) (fun g50 => ?_)
    · replace h := zpos g50 h
      refine zk_aload_n dX9_solve_163 rfl rfl ?_
      refine zf_X9_54 rfl dX9_solve_164 ?_
      refine zk_bipush (v := 6) dX9_solve_167 (by decide) ?_
      refine zk_iload_n dX9_solve_169 rfl rfl ?_
      refine zk_imul dX9_solve_170 ?_
      refine zk_iload_n dX9_solve_171 rfl rfl ?_
      refine zk_iadd dX9_solve_172 ?_
      obtain ⟨g173, h⟩ := zguard h
      refine zk_lald (zoL_of rfl g173) dX9_solve_173 ?_
      refine zk_lstore (i := 4) dX9_solve_174 (by decide) (zk_eq [_, _, _, _, _, _, _, _, _, _, _, _, _, _, _, _, _, _] rfl ?_)
      refine zk_aload_n dX9_solve_176 rfl rfl ?_
      refine zf_X9_58 rfl dX9_solve_177 ?_
      refine zk_bipush (v := 6) dX9_solve_180 (by decide) ?_
      refine zk_iload_n dX9_solve_182 rfl rfl ?_
      refine zk_imul dX9_solve_183 ?_
      refine zk_iload_n dX9_solve_184 rfl rfl ?_
      refine zk_iadd dX9_solve_185 ?_
      obtain ⟨g186, h⟩ := zguard h
      refine zk_lald (zoL_of rfl g186) dX9_solve_186 ?_
      refine zk_lstore (i := 6) dX9_solve_187 (by decide) (zk_eq [_, _, _, _, _, _, _, _, _, _, _, _, _, _, _, _, _, _] rfl ?_)
      refine zk_iload_n dX9_solve_189 rfl rfl ?_
      refine zk_istore (i := 8) dX9_solve_190 (by decide) (zk_eq [_, _, _, _, _, _, _, _, _, _, _, _, _, _, _, _, _, _] rfl ?_)
      refine zk_mask [true, true, true, false, true, false, true, false, true, false, false, false, false, false, false, false, false, false] ?_
      exact ok_X9_solve_L192 hj r _ _ _ _ _ hr2 _ _ _ h
    · replace h := zneg g50 h
      refine zk_aload_n dX9_solve_53 rfl rfl ?_
      refine zf_X9_54 rfl dX9_solve_54 ?_
      refine zk_bipush (v := 6) dX9_solve_57 (by decide) ?_
      refine zk_iload_n dX9_solve_59 rfl rfl ?_
      refine zk_imul dX9_solve_60 ?_
      refine zk_iload dX9_solve_61 rfl ?_
      refine zk_iadd dX9_solve_63 ?_
      obtain ⟨g64, h⟩ := zguard h
      refine zk_lald (zoL_of rfl g64) dX9_solve_64 ?_
      refine zk_lstore (i := 5) dX9_solve_65 (by decide) (zk_eq [_, _, _, _, _, _, _, _, _, _, _, _, _, _, _, _, _, _] rfl ?_)
      refine zk_aload_n dX9_solve_67 rfl rfl ?_
      refine zf_X9_58 rfl dX9_solve_68 ?_
      refine zk_bipush (v := 6) dX9_solve_71 (by decide) ?_
      refine zk_iload_n dX9_solve_73 rfl rfl ?_
      refine zk_imul dX9_solve_74 ?_
      refine zk_iload dX9_solve_75 rfl ?_
      refine zk_iadd dX9_solve_77 ?_
      obtain ⟨g78, h⟩ := zguard h
      refine zk_lald (zoL_of rfl g78) dX9_solve_78 ?_
      refine zk_lstore (i := 7) dX9_solve_79 (by decide) (zk_eq [_, _, _, _, _, _, _, _, _, _, _, _, _, _, _, _, _, _] rfl ?_)
      refine zk_aload_n dX9_solve_81 rfl rfl ?_
      refine zf_X9_54 rfl dX9_solve_82 ?_
      refine zk_bipush (v := 6) dX9_solve_85 (by decide) ?_
      refine zk_iload_n dX9_solve_87 rfl rfl ?_
      refine zk_imul dX9_solve_88 ?_
      refine zk_iload dX9_solve_89 rfl ?_
      refine zk_iadd dX9_solve_91 ?_
      refine zk_aload_n dX9_solve_92 rfl rfl ?_
      refine zf_X9_54 rfl dX9_solve_93 ?_
      refine zk_bipush (v := 6) dX9_solve_96 (by decide) ?_
      refine zk_iload_n dX9_solve_98 rfl rfl ?_
      refine zk_imul dX9_solve_99 ?_
      refine zk_iload dX9_solve_100 rfl ?_
      refine zk_iadd dX9_solve_102 ?_
      obtain ⟨g103, h⟩ := zguard h
      refine zk_lald (zoL_of rfl g103) dX9_solve_103 ?_
      obtain ⟨g104, h⟩ := zguard h
      refine zk_last (zoL_of rfl g104) dX9_solve_104 ?_
      refine zk_aload_n dX9_solve_105 rfl rfl ?_
      refine zf_X9_58 rfl dX9_solve_106 ?_
      refine zk_bipush (v := 6) dX9_solve_109 (by decide) ?_
      refine zk_iload_n dX9_solve_111 rfl rfl ?_
      refine zk_imul dX9_solve_112 ?_
      refine zk_iload dX9_solve_113 rfl ?_
      refine zk_iadd dX9_solve_115 ?_
      refine zk_aload_n dX9_solve_116 rfl rfl ?_
      refine zf_X9_58 rfl dX9_solve_117 ?_
      refine zk_bipush (v := 6) dX9_solve_120 (by decide) ?_
      refine zk_iload_n dX9_solve_122 rfl rfl ?_
      refine zk_imul dX9_solve_123 ?_
      refine zk_iload dX9_solve_124 rfl ?_
      refine zk_iadd dX9_solve_126 ?_
      obtain ⟨g127, h⟩ := zguard h
      refine zk_lald (zoL_of rfl g127) dX9_solve_127 ?_
      obtain ⟨g128, h⟩ := zguard h
      refine zk_last (zoL_of rfl g128) dX9_solve_128 ?_
      refine zk_aload_n dX9_solve_129 rfl rfl ?_
      refine zf_X9_54 rfl dX9_solve_130 ?_
      refine zk_bipush (v := 6) dX9_solve_133 (by decide) ?_
      refine zk_iload_n dX9_solve_135 rfl rfl ?_
      refine zk_imul dX9_solve_136 ?_
      refine zk_iload dX9_solve_137 rfl ?_
      refine zk_iadd dX9_solve_139 ?_
      refine zk_lload dX9_solve_140 rfl ?_
      obtain ⟨g142, h⟩ := zguard h
      refine zk_last (zoL_of rfl g142) dX9_solve_142 ?_
      refine zk_aload_n dX9_solve_143 rfl rfl ?_
      refine zf_X9_58 rfl dX9_solve_144 ?_
      refine zk_bipush (v := 6) dX9_solve_147 (by decide) ?_
      refine zk_iload_n dX9_solve_149 rfl rfl ?_
      refine zk_imul dX9_solve_150 ?_
      refine zk_iload dX9_solve_151 rfl ?_
      refine zk_iadd dX9_solve_153 ?_
      refine zk_lload dX9_solve_154 rfl ?_
      obtain ⟨g156, h⟩ := zguard h
      refine zk_last (zoL_of rfl g156) dX9_solve_156 ?_
      refine zk_iinc dX9_solve_157 rfl (zinc (m := 1) (by decide)) (by decide) (zk_eq [_, _, _, _, _, _, _, _, _, _, _, _, _, _, _, _, _, _] rfl ?_)
      refine zk_goto (tgt := 46) dX9_solve_160 rfl ?_
      refine zk_mask [true, true, true, true, true, false, false, false, false, false, false, false, false, false, false, false, false, false] ?_
      exact hr46 _ _ h
def D_X9_solve_J36 (rec2 : Int32 → zS → Option (Int32 × zS)) (s : zS) (a1 : Int32) (a2 : Int32) (a3 : Int32) : Option (Int32 × zS) :=
  if a3 = a1 then (
    some ((0 : Int32), s)
  ) else (
    D_X9_solve_L46 rec2 a1 a2 a3 zFU (0 : Int32) s
  )
set_option maxRecDepth 100000 in
theorem ok_X9_solve_J36 {l : Launch} {D : va_G} {ad : Nat → Nat} {cA : Nat → ClassId} (hj : zInj ad) (r : (Int32 × zS)) (s : zS) (a1 : Int32) (a2 : Int32) (a3 : Int32) (rec2 : Int32 → zS → Option (Int32 × zS)) (hr2 : ∀ (b2 : Int32) (s : zS), rec2 b2 s = some r → zOk l D ad cA (zJm jX9_solve) (zEnd D ad cA (some (.int r.1)) r.2) 2 [some (.ref 66), some (.int a1), some (.int b2), none, none, none, none, none, none, none, none, none, none, none, none, none, none, none] [] s) (h : D_X9_solve_J36 rec2 s a1 a2 a3 = some r) : zOk l D ad cA (zJm jX9_solve) (zEnd D ad cA (some (.int r.1)) r.2) 36 [some (.ref 66), some (.int a1), some (.int a2), some (.int a3), none, none, none, none, none, none, none, none, none, none, none, none, none, none] [] s := by
  unfold D_X9_solve_J36 at h
  refine zk_iload_n dX9_solve_36 rfl rfl ?_
  refine zk_iload_n dX9_solve_37 rfl rfl ?_
  refine zk_icmp_ne (tgt := 43) dX9_solve_38 rfl (fun g38 => ?_) (fun g38 => ?_)
  · replace h := zneg g38 h
    refine zk_iconst (v := 0) dX9_solve_43 (by decide) ?_
    refine zk_istore (i := 4) dX9_solve_44 (by decide) (zk_eq [_, _, _, _, _, _, _, _, _, _, _, _, _, _, _, _, _, _] rfl ?_)
    exact ok_X9_solve_L46 hj r _ _ _ _ hr2 _ _ _ h
  · replace h := zpos g38 h
    refine zk_iconst (v := 0) dX9_solve_41 (by decide) ?_
    have e9 := Option.some.inj h
    subst e9
    exact zk_zret rfl (Or.inl rfl) ⟨rfl, rfl⟩ dX9_solve_42
def D_X9_solve_B9 (rec2 : Int32 → zS → Option (Int32 × zS)) (s : zS) (a1 : Int32) (a2 : Int32) (rec9 : Int32 → Option (Int32 × zS)) (a3 : Int32) : Option (Int32 × zS) :=
    if a1 ≤ a3 then (
      D_X9_solve_J36 rec2 s a1 a2 a3
    ) else (
      zgd (zin (((6 : Int32) * a3) + a2) 30 = true) <|
      if (lg_cmp (s.2 77 (((6 : Int32) * a3) + a2).toNatClampNeg) (0 : Int64)) = 0 then (
        rec9 (a3 + 1)
      ) else (
        D_X9_solve_J36 rec2 s a1 a2 a3
      )
    )
def D_X9_solve_L9 (rec2 : Int32 → zS → Option (Int32 × zS)) (s : zS) (a1 : Int32) (a2 : Int32) (n : Nat) (a3 : Int32) : Option (Int32 × zS) := zfx (fun (rec : Int32 → Option (Int32 × zS)) q => D_X9_solve_B9 rec2 s a1 a2 (fun v0 => rec (v0)) q) n (a3)
set_option maxRecDepth 100000 in
theorem D_X9_solve_L9_s (rec2 : Int32 → zS → Option (Int32 × zS)) (s : zS) (a1 : Int32) (a2 : Int32) (n : Nat) (a3 : Int32) : D_X9_solve_L9 rec2 s a1 a2 (n + 1) a3 = D_X9_solve_B9 rec2 s a1 a2 (D_X9_solve_L9 rec2 s a1 a2 n) a3 := rfl
set_option maxRecDepth 100000 in
theorem ok_X9_solve_L9 {l : Launch} {D : va_G} {ad : Nat → Nat} {cA : Nat → ClassId} (hj : zInj ad) (r : (Int32 × zS)) (s : zS) (a1 : Int32) (a2 : Int32) (rec2 : Int32 → zS → Option (Int32 × zS)) (hr2 : ∀ (b2 : Int32) (s : zS), rec2 b2 s = some r → zOk l D ad cA (zJm jX9_solve) (zEnd D ad cA (some (.int r.1)) r.2) 2 [some (.ref 66), some (.int a1), some (.int b2), none, none, none, none, none, none, none, none, none, none, none, none, none, none, none] [] s) : ∀ (n : Nat) (a3 : Int32), D_X9_solve_L9 rec2 s a1 a2 n a3 = some r → zOk l D ad cA (zJm jX9_solve) (zEnd D ad cA (some (.int r.1)) r.2) 9 [some (.ref 66), some (.int a1), some (.int a2), some (.int a3), none, none, none, none, none, none, none, none, none, none, none, none, none, none] [] s := by
  intro n
  induction n with
  | zero =>
    intro a3 h
    have h0 : (none : Option (Int32 × zS)) = some r := h
    cases h0
  | succ n hr9 =>
    intro a3 h
    have h : D_X9_solve_B9 rec2 s a1 a2 (D_X9_solve_L9 rec2 s a1 a2 n) a3 = some r := h
    unfold D_X9_solve_B9 at h
    refine zk_iload_n dX9_solve_9 rfl rfl ?_
    refine zk_iload_n dX9_solve_10 rfl rfl ?_
    refine zk_icmp_ge (tgt := 36) dX9_solve_11 rfl (fun g11 => ?_) (fun g11 => ?_)
    · replace h := zpos g11 h
      exact ok_X9_solve_J36 hj r _ _ _ _ _ hr2 h
    · replace h := zneg g11 h
      refine zk_aload_n dX9_solve_14 rfl rfl ?_
      refine zf_X9_54 rfl dX9_solve_15 ?_
      refine zk_bipush (v := 6) dX9_solve_18 (by decide) ?_
      refine zk_iload_n dX9_solve_20 rfl rfl ?_
      refine zk_imul dX9_solve_21 ?_
      refine zk_iload_n dX9_solve_22 rfl rfl ?_
      refine zk_iadd dX9_solve_23 ?_
      obtain ⟨g24, h⟩ := zguard h
      refine zk_lald (zoL_of rfl g24) dX9_solve_24 ?_
      refine zk_lconst (v := 0) dX9_solve_25 (by decide) ?_
      refine zk_lcmp dX9_solve_26 ?_
      refine zk_if_ne (tgt := 36) dX9_solve_27 rfl (fun g27 => ?_) (fun g27 => ?_)
      · replace h := zneg g27 h
        exact ok_X9_solve_J36 hj r _ _ _ _ _ hr2 h
      · replace h := zpos g27 h
        refine zk_iinc dX9_solve_30 rfl (zinc (m := 1) (by decide)) (by decide) (zk_eq [_, _, _, _, _, _, _, _, _, _, _, _, _, _, _, _, _, _] rfl ?_)
        refine zk_goto (tgt := 9) dX9_solve_33 rfl ?_
        exact hr9 _ h
def D_X9_solve_B2 (a1 : Int32) (rec2 : Int32 → zS → Option (Int32 × zS)) (a2 : Int32) (s : zS) : Option (Int32 × zS) :=
    if a1 ≤ a2 then (
      some ((1 : Int32), s)
    ) else (
      D_X9_solve_L9 rec2 s a1 a2 zFU a2
    )
def D_X9_solve_L2 (a1 : Int32) (n : Nat) (a2 : Int32) (s : zS) : Option (Int32 × zS) := zfx (fun (rec : Int32 × zS → Option (Int32 × zS)) q => D_X9_solve_B2 a1 (fun v0 v1 => rec (v0, v1)) q.1 q.2) n (a2, s)
set_option maxRecDepth 100000 in
theorem D_X9_solve_L2_s (a1 : Int32) (n : Nat) (a2 : Int32) (s : zS) : D_X9_solve_L2 a1 (n + 1) a2 s = D_X9_solve_B2 a1 (D_X9_solve_L2 a1 n) a2 s := rfl
set_option maxRecDepth 100000 in
theorem ok_X9_solve_L2 {l : Launch} {D : va_G} {ad : Nat → Nat} {cA : Nat → ClassId} (hj : zInj ad) (r : (Int32 × zS)) (a1 : Int32) : ∀ (n : Nat) (a2 : Int32) (s : zS), D_X9_solve_L2 a1 n a2 s = some r → zOk l D ad cA (zJm jX9_solve) (zEnd D ad cA (some (.int r.1)) r.2) 2 [some (.ref 66), some (.int a1), some (.int a2), none, none, none, none, none, none, none, none, none, none, none, none, none, none, none] [] s := by
  intro n
  induction n with
  | zero =>
    intro a2 s h
    have h0 : (none : Option (Int32 × zS)) = some r := h
    cases h0
  | succ n hr2 =>
    intro a2 s h
    have h : D_X9_solve_B2 a1 (D_X9_solve_L2 a1 n) a2 s = some r := h
    unfold D_X9_solve_B2 at h
    refine zk_iload_n dX9_solve_2 rfl rfl ?_
    refine zk_iload_n dX9_solve_3 rfl rfl ?_
    refine zk_icmp_ge (tgt := 411) dX9_solve_4 rfl (fun g4 => ?_) (fun g4 => ?_)
    · replace h := zpos g4 h
      refine zk_iconst (v := 1) dX9_solve_411 (by decide) ?_
      have e9 := Option.some.inj h
      subst e9
      exact zk_zret rfl (Or.inr rfl) ⟨rfl, rfl⟩ dX9_solve_412
    · replace h := zneg g4 h
      refine zk_iload_n dX9_solve_7 rfl rfl ?_
      refine zk_istore_n (i := 3) dX9_solve_8 rfl (by decide) (zk_eq [_, _, _, _, _, _, _, _, _, _, _, _, _, _, _, _, _, _] rfl ?_)
      exact ok_X9_solve_L9 hj r _ _ _ _ hr2 _ _ h
def D_X9_solve (s : zS) (a1 : Int32) : Option (Int32 × zS) :=
  D_X9_solve_L2 a1 zFU (0 : Int32) s
set_option maxRecDepth 100000 in
theorem ok_X9_solve {l : Launch} {D : va_G} {ad : Nat → Nat} {cA : Nat → ClassId} (hj : zInj ad) (s : zS) (a1 : Int32) {r : (Int32 × zS)} (h : D_X9_solve s a1 = some r) : zMet l D ad cA jX9_solve [.ref 66, .int a1] s (some (.int r.1)) r.2 := by
  refine zMet_of jX9_solve [some (.ref 66), some (.int a1), none, none, none, none, none, none, none, none, none, none, none, none, none, none, none, none] (by decide +kernel) (Nat.le_of_ble_eq_true rfl) rfl hj ?_
  unfold D_X9_solve at h
  refine zk_iconst (v := 0) dX9_solve_0 (by decide) ?_
  refine zk_istore_n (i := 2) dX9_solve_1 rfl (by decide) (zk_eq [_, _, _, _, _, _, _, _, _, _, _, _, _, _, _, _, _, _] rfl ?_)
  exact ok_X9_solve_L2 hj r _ _ _ _ h
