def D_X9_mostOf_J217 (rec32 : Int32 → Int32 → zS → Option (Int32 × zS)) (rec63 : Int32 → Int32 → Int32 → Int32 → Int32 → Int32 → Option (Int32 × zS)) (s : zS) (a1 : Int32) (a2 : Int32) (a3 : Int32) (a4 : Int32) (a5 : Int32) (a6 : Int32) (a8 : Int32) (a9 : Int32) (a10 : Int32) (a11 : Int32) (k0 : Int32) (k1 : Int32) : Option (Int32 × zS) :=
  rec63 a6 (k0 + k1) a8 a9 a10 (a11 + -1)
set_option maxRecDepth 100000 in
theorem ok_X9_mostOf_J217 {l : Launch} {D : va_G} {ad : Nat → Nat} {cA : Nat → ClassId} (hj : zInj ad) (r : (Int32 × zS)) (s : zS) (a1 : Int32) (a2 : Int32) (a3 : Int32) (a4 : Int32) (a5 : Int32) (a6 : Int32) (a8 : Int32) (a9 : Int32) (a10 : Int32) (a11 : Int32) (k0 : Int32) (k1 : Int32) (rec32 : Int32 → Int32 → zS → Option (Int32 × zS)) (hr32 : ∀ (b3 : Int32) (b5 : Int32) (s : zS), rec32 b3 b5 s = some r → zOk l D ad cA (zJm jX9_mostOf) (zEnd D ad cA (some (.int r.1)) r.2) 32 [some (.ref 66), some (.int a1), some (.int a2), some (.int b3), some (.int a4), some (.int b5), none, none, none, none, none, none, none, none] [] s) (rec63 : Int32 → Int32 → Int32 → Int32 → Int32 → Int32 → Option (Int32 × zS)) (hr63 : ∀ (b6 : Int32) (b7 : Int32) (b8 : Int32) (b9 : Int32) (b10 : Int32) (b11 : Int32), rec63 b6 b7 b8 b9 b10 b11 = some r → zOk l D ad cA (zJm jX9_mostOf) (zEnd D ad cA (some (.int r.1)) r.2) 63 [some (.ref 66), some (.int a1), some (.int a2), some (.int a3), some (.int a4), some (.int a5), some (.int b6), some (.int b7), some (.int b8), some (.int b9), some (.int b10), some (.int b11), none, none] [] s) (h : D_X9_mostOf_J217 rec32 rec63 s a1 a2 a3 a4 a5 a6 a8 a9 a10 a11 k0 k1 = some r) : zOk l D ad cA (zJm jX9_mostOf) (zEnd D ad cA (some (.int r.1)) r.2) 217 [some (.ref 66), some (.int a1), some (.int a2), some (.int a3), some (.int a4), some (.int a5), some (.int a6), none, some (.int a8), some (.int a9), some (.int a10), some (.int a11), none, none] [.int k1, .int k0] s := by
  unfold D_X9_mostOf_J217 at h
  refine zk_iadd dX9_mostOf_217 ?_
  refine zk_istore (i := 7) dX9_mostOf_218 (by decide) (zk_eq [_, _, _, _, _, _, _, _, _, _, _, _, _, _] rfl ?_)
  refine zk_iinc dX9_mostOf_220 rfl (zinc (m := -1) (by decide)) (by decide) (zk_eq [_, _, _, _, _, _, _, _, _, _, _, _, _, _] rfl ?_)
  refine zk_goto (tgt := 63) dX9_mostOf_223 rfl ?_
  exact hr63 _ _ _ _ _ _ h
def D_X9_mostOf_J182 (rec32 : Int32 → Int32 → zS → Option (Int32 × zS)) (rec63 : Int32 → Int32 → Int32 → Int32 → Int32 → Int32 → Option (Int32 × zS)) (s : zS) (a1 : Int32) (a2 : Int32) (a3 : Int32) (a4 : Int32) (a5 : Int32) (a6 : Int32) (a7 : Int32) (a8 : Int32) (a10 : Int32) (a11 : Int32) (a12 : Int32) (k0 : Int32) (k1 : Int32) : Option (Int32 × zS) :=
  if a10 = 0 then (
    D_X9_mostOf_J217 rec32 rec63 s a1 a2 a3 a4 a5 a6 (a8 ||| ((1 : Int32) <<< (a12 &&& 31))) (k0 ||| k1) a10 a11 a7 (0 : Int32)
  ) else (
    zgd (zin (((4 : Int32) * a11) + a12) 16 = true) <|
    D_X9_mostOf_J217 rec32 rec63 s a1 a2 a3 a4 a5 a6 (a8 ||| ((1 : Int32) <<< (a12 &&& 31))) (k0 ||| k1) a10 a11 a7 (s.1 75 (((4 : Int32) * a11) + a12).toNatClampNeg)
  )
set_option maxRecDepth 100000 in
theorem ok_X9_mostOf_J182 {l : Launch} {D : va_G} {ad : Nat → Nat} {cA : Nat → ClassId} (hj : zInj ad) (r : (Int32 × zS)) (s : zS) (a1 : Int32) (a2 : Int32) (a3 : Int32) (a4 : Int32) (a5 : Int32) (a6 : Int32) (a7 : Int32) (a8 : Int32) (a10 : Int32) (a11 : Int32) (a12 : Int32) (k0 : Int32) (k1 : Int32) (rec32 : Int32 → Int32 → zS → Option (Int32 × zS)) (hr32 : ∀ (b3 : Int32) (b5 : Int32) (s : zS), rec32 b3 b5 s = some r → zOk l D ad cA (zJm jX9_mostOf) (zEnd D ad cA (some (.int r.1)) r.2) 32 [some (.ref 66), some (.int a1), some (.int a2), some (.int b3), some (.int a4), some (.int b5), none, none, none, none, none, none, none, none] [] s) (rec63 : Int32 → Int32 → Int32 → Int32 → Int32 → Int32 → Option (Int32 × zS)) (hr63 : ∀ (b6 : Int32) (b7 : Int32) (b8 : Int32) (b9 : Int32) (b10 : Int32) (b11 : Int32), rec63 b6 b7 b8 b9 b10 b11 = some r → zOk l D ad cA (zJm jX9_mostOf) (zEnd D ad cA (some (.int r.1)) r.2) 63 [some (.ref 66), some (.int a1), some (.int a2), some (.int a3), some (.int a4), some (.int a5), some (.int b6), some (.int b7), some (.int b8), some (.int b9), some (.int b10), some (.int b11), none, none] [] s) (h : D_X9_mostOf_J182 rec32 rec63 s a1 a2 a3 a4 a5 a6 a7 a8 a10 a11 a12 k0 k1 = some r) : zOk l D ad cA (zJm jX9_mostOf) (zEnd D ad cA (some (.int r.1)) r.2) 182 [some (.ref 66), some (.int a1), some (.int a2), some (.int a3), some (.int a4), some (.int a5), some (.int a6), some (.int a7), some (.int a8), none, some (.int a10), some (.int a11), some (.int a12), none] [.int k1, .int k0] s := by
  unfold D_X9_mostOf_J182 at h
  refine zk_ior dX9_mostOf_182 ?_
  refine zk_istore (i := 9) dX9_mostOf_183 (by decide) (zk_eq [_, _, _, _, _, _, _, _, _, _, _, _, _, _] rfl ?_)
  refine zk_iload dX9_mostOf_185 rfl ?_
  refine zk_iconst (v := 1) dX9_mostOf_187 (by decide) ?_
  refine zk_iload dX9_mostOf_188 rfl ?_
  refine zk_ishl dX9_mostOf_190 ?_
  refine zk_ior dX9_mostOf_191 ?_
  refine zk_istore (i := 8) dX9_mostOf_192 (by decide) (zk_eq [_, _, _, _, _, _, _, _, _, _, _, _, _, _] rfl ?_)
  refine zk_iload dX9_mostOf_194 rfl ?_
  refine zk_iload dX9_mostOf_196 rfl ?_
  refine zk_if_eq (tgt := 216) dX9_mostOf_198 rfl (fun g198 => ?_) (fun g198 => ?_)
  · replace h := zpos g198 h
    refine zk_iconst (v := 0) dX9_mostOf_216 (by decide) ?_
    refine zk_mask [true, true, true, true, true, true, true, false, true, true, true, true, false, false] ?_
    exact ok_X9_mostOf_J217 hj r _ _ _ _ _ _ _ _ _ _ _ _ _ _ hr32 _ hr63 h
  · replace h := zneg g198 h
    refine zk_aload_n dX9_mostOf_201 rfl rfl ?_
    refine zf_X9_48 rfl dX9_mostOf_202 ?_
    refine zk_iconst (v := 4) dX9_mostOf_205 (by decide) ?_
    refine zk_iload dX9_mostOf_206 rfl ?_
    refine zk_imul dX9_mostOf_208 ?_
    refine zk_iload dX9_mostOf_209 rfl ?_
    refine zk_iadd dX9_mostOf_211 ?_
    obtain ⟨g212, h⟩ := zguard h
    refine zk_iald (zoI_of rfl g212) dX9_mostOf_212 ?_
    refine zk_goto (tgt := 217) dX9_mostOf_213 rfl ?_
    refine zk_mask [true, true, true, true, true, true, true, false, true, true, true, true, false, false] ?_
    exact ok_X9_mostOf_J217 hj r _ _ _ _ _ _ _ _ _ _ _ _ _ _ hr32 _ hr63 h
def D_X9_mostOf_J160 (rec32 : Int32 → Int32 → zS → Option (Int32 × zS)) (rec63 : Int32 → Int32 → Int32 → Int32 → Int32 → Int32 → Option (Int32 × zS)) (s : zS) (a1 : Int32) (a2 : Int32) (a3 : Int32) (a4 : Int32) (a5 : Int32) (a6 : Int32) (a7 : Int32) (a8 : Int32) (a9 : Int32) (a11 : Int32) (a12 : Int32) (k0 : Int32) : Option (Int32 × zS) :=
  (D_X9_has a8 a12).bind fun p168 =>
  if p168 = 0 then (
    D_X9_mostOf_J182 rec32 rec63 s a1 a2 a3 a4 a5 a6 a7 a8 k0 a11 a12 a9 (0 : Int32)
  ) else (
    D_X9_mostOf_J182 rec32 rec63 s a1 a2 a3 a4 a5 a6 a7 a8 k0 a11 a12 a9 ((1 : Int32) <<< (a12 &&& 31))
  )
set_option maxRecDepth 100000 in
theorem ok_X9_mostOf_J160 {l : Launch} {D : va_G} {ad : Nat → Nat} {cA : Nat → ClassId} (hj : zInj ad) (r : (Int32 × zS)) (s : zS) (a1 : Int32) (a2 : Int32) (a3 : Int32) (a4 : Int32) (a5 : Int32) (a6 : Int32) (a7 : Int32) (a8 : Int32) (a9 : Int32) (a11 : Int32) (a12 : Int32) (k0 : Int32) (rec32 : Int32 → Int32 → zS → Option (Int32 × zS)) (hr32 : ∀ (b3 : Int32) (b5 : Int32) (s : zS), rec32 b3 b5 s = some r → zOk l D ad cA (zJm jX9_mostOf) (zEnd D ad cA (some (.int r.1)) r.2) 32 [some (.ref 66), some (.int a1), some (.int a2), some (.int b3), some (.int a4), some (.int b5), none, none, none, none, none, none, none, none] [] s) (rec63 : Int32 → Int32 → Int32 → Int32 → Int32 → Int32 → Option (Int32 × zS)) (hr63 : ∀ (b6 : Int32) (b7 : Int32) (b8 : Int32) (b9 : Int32) (b10 : Int32) (b11 : Int32), rec63 b6 b7 b8 b9 b10 b11 = some r → zOk l D ad cA (zJm jX9_mostOf) (zEnd D ad cA (some (.int r.1)) r.2) 63 [some (.ref 66), some (.int a1), some (.int a2), some (.int a3), some (.int a4), some (.int a5), some (.int b6), some (.int b7), some (.int b8), some (.int b9), some (.int b10), some (.int b11), none, none] [] s) (h : D_X9_mostOf_J160 rec32 rec63 s a1 a2 a3 a4 a5 a6 a7 a8 a9 a11 a12 k0 = some r) : zOk l D ad cA (zJm jX9_mostOf) (zEnd D ad cA (some (.int r.1)) r.2) 160 [some (.ref 66), some (.int a1), some (.int a2), some (.int a3), some (.int a4), some (.int a5), some (.int a6), some (.int a7), some (.int a8), some (.int a9), none, some (.int a11), some (.int a12), none] [.int k0] s := by
  unfold D_X9_mostOf_J160 at h
  refine zk_istore (i := 10) dX9_mostOf_160 (by decide) (zk_eq [_, _, _, _, _, _, _, _, _, _, _, _, _, _] rfl ?_)
  refine zk_iload dX9_mostOf_162 rfl ?_
  refine zk_iload dX9_mostOf_164 rfl ?_
  refine zk_iload dX9_mostOf_166 rfl ?_
  obtain ⟨p168, h168, h⟩ := zbind h
  refine zc_X9_121 [.int _] (As := [.int _, .int _]) (ok_X9_has hj _ _ _ h168) rfl ⟨Nat.le_of_ble_eq_true rfl, Nat.le_of_ble_eq_true rfl⟩ ⟨Nat.le_refl _, Nat.le_refl _⟩ rfl rfl (Nat.le_of_ble_eq_true rfl) dX9_mostOf_168 ?_
  refine zk_if_eq (tgt := 181) dX9_mostOf_171 rfl (fun g171 => ?_) (fun g171 => ?_)
  · replace h := zpos g171 h
    refine zk_iconst (v := 0) dX9_mostOf_181 (by decide) ?_
    refine zk_mask [true, true, true, true, true, true, true, true, true, false, true, true, true, false] ?_
    exact ok_X9_mostOf_J182 hj r _ _ _ _ _ _ _ _ _ _ _ _ _ _ _ hr32 _ hr63 h
  · replace h := zneg g171 h
    refine zk_iconst (v := 1) dX9_mostOf_174 (by decide) ?_
    refine zk_iload dX9_mostOf_175 rfl ?_
    refine zk_ishl dX9_mostOf_177 ?_
    refine zk_goto (tgt := 182) dX9_mostOf_178 rfl ?_
    refine zk_mask [true, true, true, true, true, true, true, true, true, false, true, true, true, false] ?_
    exact ok_X9_mostOf_J182 hj r _ _ _ _ _ _ _ _ _ _ _ _ _ _ _ hr32 _ hr63 h
def D_X9_mostOf_J159 (rec32 : Int32 → Int32 → zS → Option (Int32 × zS)) (rec63 : Int32 → Int32 → Int32 → Int32 → Int32 → Int32 → Option (Int32 × zS)) (s : zS) (a1 : Int32) (a2 : Int32) (a3 : Int32) (a4 : Int32) (a5 : Int32) (a6 : Int32) (a7 : Int32) (a8 : Int32) (a9 : Int32) (a11 : Int32) (a12 : Int32) : Option (Int32 × zS) :=
  D_X9_mostOf_J160 rec32 rec63 s a1 a2 a3 a4 a5 a6 a7 a8 a9 a11 a12 (0 : Int32)
set_option maxRecDepth 100000 in
theorem ok_X9_mostOf_J159 {l : Launch} {D : va_G} {ad : Nat → Nat} {cA : Nat → ClassId} (hj : zInj ad) (r : (Int32 × zS)) (s : zS) (a1 : Int32) (a2 : Int32) (a3 : Int32) (a4 : Int32) (a5 : Int32) (a6 : Int32) (a7 : Int32) (a8 : Int32) (a9 : Int32) (a11 : Int32) (a12 : Int32) (rec32 : Int32 → Int32 → zS → Option (Int32 × zS)) (hr32 : ∀ (b3 : Int32) (b5 : Int32) (s : zS), rec32 b3 b5 s = some r → zOk l D ad cA (zJm jX9_mostOf) (zEnd D ad cA (some (.int r.1)) r.2) 32 [some (.ref 66), some (.int a1), some (.int a2), some (.int b3), some (.int a4), some (.int b5), none, none, none, none, none, none, none, none] [] s) (rec63 : Int32 → Int32 → Int32 → Int32 → Int32 → Int32 → Option (Int32 × zS)) (hr63 : ∀ (b6 : Int32) (b7 : Int32) (b8 : Int32) (b9 : Int32) (b10 : Int32) (b11 : Int32), rec63 b6 b7 b8 b9 b10 b11 = some r → zOk l D ad cA (zJm jX9_mostOf) (zEnd D ad cA (some (.int r.1)) r.2) 63 [some (.ref 66), some (.int a1), some (.int a2), some (.int a3), some (.int a4), some (.int a5), some (.int b6), some (.int b7), some (.int b8), some (.int b9), some (.int b10), some (.int b11), none, none] [] s) (h : D_X9_mostOf_J159 rec32 rec63 s a1 a2 a3 a4 a5 a6 a7 a8 a9 a11 a12 = some r) : zOk l D ad cA (zJm jX9_mostOf) (zEnd D ad cA (some (.int r.1)) r.2) 159 [some (.ref 66), some (.int a1), some (.int a2), some (.int a3), some (.int a4), some (.int a5), some (.int a6), some (.int a7), some (.int a8), some (.int a9), none, some (.int a11), some (.int a12), none] [] s := by
  unfold D_X9_mostOf_J159 at h
  refine zk_iconst (v := 0) dX9_mostOf_159 (by decide) ?_
  exact ok_X9_mostOf_J160 hj r _ _ _ _ _ _ _ _ _ _ _ _ _ _ hr32 _ hr63 h
def D_X9_mostOf_J155 (rec32 : Int32 → Int32 → zS → Option (Int32 × zS)) (rec63 : Int32 → Int32 → Int32 → Int32 → Int32 → Int32 → Option (Int32 × zS)) (s : zS) (a1 : Int32) (a2 : Int32) (a3 : Int32) (a4 : Int32) (a5 : Int32) (a6 : Int32) (a7 : Int32) (a8 : Int32) (a9 : Int32) (a11 : Int32) (a12 : Int32) : Option (Int32 × zS) :=
  D_X9_mostOf_J160 rec32 rec63 s a1 a2 a3 a4 a5 a6 a7 a8 a9 a11 a12 (1 : Int32)
set_option maxRecDepth 100000 in
theorem ok_X9_mostOf_J155 {l : Launch} {D : va_G} {ad : Nat → Nat} {cA : Nat → ClassId} (hj : zInj ad) (r : (Int32 × zS)) (s : zS) (a1 : Int32) (a2 : Int32) (a3 : Int32) (a4 : Int32) (a5 : Int32) (a6 : Int32) (a7 : Int32) (a8 : Int32) (a9 : Int32) (a11 : Int32) (a12 : Int32) (rec32 : Int32 → Int32 → zS → Option (Int32 × zS)) (hr32 : ∀ (b3 : Int32) (b5 : Int32) (s : zS), rec32 b3 b5 s = some r → zOk l D ad cA (zJm jX9_mostOf) (zEnd D ad cA (some (.int r.1)) r.2) 32 [some (.ref 66), some (.int a1), some (.int a2), some (.int b3), some (.int a4), some (.int b5), none, none, none, none, none, none, none, none] [] s) (rec63 : Int32 → Int32 → Int32 → Int32 → Int32 → Int32 → Option (Int32 × zS)) (hr63 : ∀ (b6 : Int32) (b7 : Int32) (b8 : Int32) (b9 : Int32) (b10 : Int32) (b11 : Int32), rec63 b6 b7 b8 b9 b10 b11 = some r → zOk l D ad cA (zJm jX9_mostOf) (zEnd D ad cA (some (.int r.1)) r.2) 63 [some (.ref 66), some (.int a1), some (.int a2), some (.int a3), some (.int a4), some (.int a5), some (.int b6), some (.int b7), some (.int b8), some (.int b9), some (.int b10), some (.int b11), none, none] [] s) (h : D_X9_mostOf_J155 rec32 rec63 s a1 a2 a3 a4 a5 a6 a7 a8 a9 a11 a12 = some r) : zOk l D ad cA (zJm jX9_mostOf) (zEnd D ad cA (some (.int r.1)) r.2) 155 [some (.ref 66), some (.int a1), some (.int a2), some (.int a3), some (.int a4), some (.int a5), some (.int a6), some (.int a7), some (.int a8), some (.int a9), none, some (.int a11), some (.int a12), none] [] s := by
  unfold D_X9_mostOf_J155 at h
  refine zk_iconst (v := 1) dX9_mostOf_155 (by decide) ?_
  refine zk_goto (tgt := 160) dX9_mostOf_156 rfl ?_
  exact ok_X9_mostOf_J160 hj r _ _ _ _ _ _ _ _ _ _ _ _ _ _ hr32 _ hr63 h
def D_X9_mostOf_J130 (rec32 : Int32 → Int32 → zS → Option (Int32 × zS)) (rec63 : Int32 → Int32 → Int32 → Int32 → Int32 → Int32 → Option (Int32 × zS)) (s : zS) (a1 : Int32) (a2 : Int32) (a3 : Int32) (a4 : Int32) (a5 : Int32) (a6 : Int32) (a7 : Int32) (a8 : Int32) (a9 : Int32) (a11 : Int32) (a12 : Int32) (a13 : Int32) : Option (Int32 × zS) :=
  (D_X9_has a8 a12).bind fun p134 =>
  if p134 = 0 then (
    D_X9_mostOf_J155 rec32 rec63 s a1 a2 a3 a4 a5 a6 a7 a8 a9 a11 a12
  ) else (
    if a13 = 0 then (
      D_X9_mostOf_J159 rec32 rec63 s a1 a2 a3 a4 a5 a6 a7 a8 a9 a11 a12
    ) else (
      (D_X9_has a9 a12).bind fun p149 =>
      if p149 = 0 then (
        D_X9_mostOf_J155 rec32 rec63 s a1 a2 a3 a4 a5 a6 a7 a8 a9 a11 a12
      ) else (
        D_X9_mostOf_J159 rec32 rec63 s a1 a2 a3 a4 a5 a6 a7 a8 a9 a11 a12
      )
    )
  )
set_option maxRecDepth 100000 in
theorem ok_X9_mostOf_J130 {l : Launch} {D : va_G} {ad : Nat → Nat} {cA : Nat → ClassId} (hj : zInj ad) (r : (Int32 × zS)) (s : zS) (a1 : Int32) (a2 : Int32) (a3 : Int32) (a4 : Int32) (a5 : Int32) (a6 : Int32) (a7 : Int32) (a8 : Int32) (a9 : Int32) (a11 : Int32) (a12 : Int32) (a13 : Int32) (rec32 : Int32 → Int32 → zS → Option (Int32 × zS)) (hr32 : ∀ (b3 : Int32) (b5 : Int32) (s : zS), rec32 b3 b5 s = some r → zOk l D ad cA (zJm jX9_mostOf) (zEnd D ad cA (some (.int r.1)) r.2) 32 [some (.ref 66), some (.int a1), some (.int a2), some (.int b3), some (.int a4), some (.int b5), none, none, none, none, none, none, none, none] [] s) (rec63 : Int32 → Int32 → Int32 → Int32 → Int32 → Int32 → Option (Int32 × zS)) (hr63 : ∀ (b6 : Int32) (b7 : Int32) (b8 : Int32) (b9 : Int32) (b10 : Int32) (b11 : Int32), rec63 b6 b7 b8 b9 b10 b11 = some r → zOk l D ad cA (zJm jX9_mostOf) (zEnd D ad cA (some (.int r.1)) r.2) 63 [some (.ref 66), some (.int a1), some (.int a2), some (.int a3), some (.int a4), some (.int a5), some (.int b6), some (.int b7), some (.int b8), some (.int b9), some (.int b10), some (.int b11), none, none] [] s) (h : D_X9_mostOf_J130 rec32 rec63 s a1 a2 a3 a4 a5 a6 a7 a8 a9 a11 a12 a13 = some r) : zOk l D ad cA (zJm jX9_mostOf) (zEnd D ad cA (some (.int r.1)) r.2) 130 [some (.ref 66), some (.int a1), some (.int a2), some (.int a3), some (.int a4), some (.int a5), some (.int a6), some (.int a7), some (.int a8), some (.int a9), none, some (.int a11), some (.int a12), some (.int a13)] [] s := by
  unfold D_X9_mostOf_J130 at h
  refine zk_iload dX9_mostOf_130 rfl ?_
  refine zk_iload dX9_mostOf_132 rfl ?_
  obtain ⟨p134, h134, h⟩ := zbind h
  refine zc_X9_121 [] (As := [.int _, .int _]) (ok_X9_has hj _ _ _ h134) rfl ⟨Nat.le_of_ble_eq_true rfl, Nat.le_of_ble_eq_true rfl⟩ ⟨Nat.le_refl _, Nat.le_refl _⟩ rfl rfl (Nat.le_of_ble_eq_true rfl) dX9_mostOf_134 ?_
  refine zk_if_eq (tgt := 155) dX9_mostOf_137 rfl (fun g137 => ?_) (fun g137 => ?_)
  · replace h := zpos g137 h
    refine zk_mask [true, true, true, true, true, true, true, true, true, true, false, true, true, false] ?_
    exact ok_X9_mostOf_J155 hj r _ _ _ _ _ _ _ _ _ _ _ _ _ hr32 _ hr63 h
  · replace h := zneg g137 h
    refine zk_iload dX9_mostOf_140 rfl ?_
    refine zk_if_eq (tgt := 159) dX9_mostOf_142 rfl (fun g142 => ?_) (fun g142 => ?_)
    · replace h := zpos g142 h
      refine zk_mask [true, true, true, true, true, true, true, true, true, true, false, true, true, false] ?_
      exact ok_X9_mostOf_J159 hj r _ _ _ _ _ _ _ _ _ _ _ _ _ hr32 _ hr63 h
    · replace h := zneg g142 h
      refine zk_iload dX9_mostOf_145 rfl ?_
      refine zk_iload dX9_mostOf_147 rfl ?_
      obtain ⟨p149, h149, h⟩ := zbind h
      refine zc_X9_121 [] (As := [.int _, .int _]) (ok_X9_has hj _ _ _ h149) rfl ⟨Nat.le_of_ble_eq_true rfl, Nat.le_of_ble_eq_true rfl⟩ ⟨Nat.le_refl _, Nat.le_refl _⟩ rfl rfl (Nat.le_of_ble_eq_true rfl) dX9_mostOf_149 ?_
      refine zk_if_ne (tgt := 159) dX9_mostOf_152 rfl (fun g152 => ?_) (fun g152 => ?_)
      · replace h := zneg g152 h
        refine zk_mask [true, true, true, true, true, true, true, true, true, true, false, true, true, false] ?_
        exact ok_X9_mostOf_J159 hj r _ _ _ _ _ _ _ _ _ _ _ _ _ hr32 _ hr63 h
      · replace h := zpos g152 h
        refine zk_mask [true, true, true, true, true, true, true, true, true, true, false, true, true, false] ?_
        exact ok_X9_mostOf_J155 hj r _ _ _ _ _ _ _ _ _ _ _ _ _ hr32 _ hr63 h
def D_X9_mostOf_J103 (rec32 : Int32 → Int32 → zS → Option (Int32 × zS)) (rec63 : Int32 → Int32 → Int32 → Int32 → Int32 → Int32 → Option (Int32 × zS)) (s : zS) (a1 : Int32) (a2 : Int32) (a3 : Int32) (a4 : Int32) (a5 : Int32) (a6 : Int32) (a7 : Int32) (a8 : Int32) (a9 : Int32) (a10 : Int32) (a11 : Int32) (a12 : Int32) (k0 : Int32) : Option (Int32 × zS) :=
  if a10 = 0 then (
    D_X9_mostOf_J159 rec32 rec63 s a1 a2 a3 a4 a5 a6 a7 a8 a9 a11 a12
  ) else (
    if (s.1 66 18) ≤ a12 then (
      D_X9_mostOf_J159 rec32 rec63 s a1 a2 a3 a4 a5 a6 a7 a8 a9 a11 a12
    ) else (
      if a12 = a1 then (
        if a2 = (-1 : Int32) then (
          D_X9_mostOf_J159 rec32 rec63 s a1 a2 a3 a4 a5 a6 a7 a8 a9 a11 a12
        ) else (
          D_X9_mostOf_J130 rec32 rec63 s a1 a2 a3 a4 a5 a6 a7 a8 a9 a11 a12 k0
        )
      ) else (
        D_X9_mostOf_J130 rec32 rec63 s a1 a2 a3 a4 a5 a6 a7 a8 a9 a11 a12 k0
      )
    )
  )
set_option maxRecDepth 100000 in
theorem ok_X9_mostOf_J103 {l : Launch} {D : va_G} {ad : Nat → Nat} {cA : Nat → ClassId} (hj : zInj ad) (r : (Int32 × zS)) (s : zS) (a1 : Int32) (a2 : Int32) (a3 : Int32) (a4 : Int32) (a5 : Int32) (a6 : Int32) (a7 : Int32) (a8 : Int32) (a9 : Int32) (a10 : Int32) (a11 : Int32) (a12 : Int32) (k0 : Int32) (rec32 : Int32 → Int32 → zS → Option (Int32 × zS)) (hr32 : ∀ (b3 : Int32) (b5 : Int32) (s : zS), rec32 b3 b5 s = some r → zOk l D ad cA (zJm jX9_mostOf) (zEnd D ad cA (some (.int r.1)) r.2) 32 [some (.ref 66), some (.int a1), some (.int a2), some (.int b3), some (.int a4), some (.int b5), none, none, none, none, none, none, none, none] [] s) (rec63 : Int32 → Int32 → Int32 → Int32 → Int32 → Int32 → Option (Int32 × zS)) (hr63 : ∀ (b6 : Int32) (b7 : Int32) (b8 : Int32) (b9 : Int32) (b10 : Int32) (b11 : Int32), rec63 b6 b7 b8 b9 b10 b11 = some r → zOk l D ad cA (zJm jX9_mostOf) (zEnd D ad cA (some (.int r.1)) r.2) 63 [some (.ref 66), some (.int a1), some (.int a2), some (.int a3), some (.int a4), some (.int a5), some (.int b6), some (.int b7), some (.int b8), some (.int b9), some (.int b10), some (.int b11), none, none] [] s) (h : D_X9_mostOf_J103 rec32 rec63 s a1 a2 a3 a4 a5 a6 a7 a8 a9 a10 a11 a12 k0 = some r) : zOk l D ad cA (zJm jX9_mostOf) (zEnd D ad cA (some (.int r.1)) r.2) 103 [some (.ref 66), some (.int a1), some (.int a2), some (.int a3), some (.int a4), some (.int a5), some (.int a6), some (.int a7), some (.int a8), some (.int a9), some (.int a10), some (.int a11), some (.int a12), none] [.int k0] s := by
  unfold D_X9_mostOf_J103 at h
  refine zk_istore (i := 13) dX9_mostOf_103 (by decide) (zk_eq [_, _, _, _, _, _, _, _, _, _, _, _, _, _] rfl ?_)
  refine zk_iload dX9_mostOf_105 rfl ?_
  refine zk_if_eq (tgt := 159) dX9_mostOf_107 rfl (fun g107 => ?_) (fun g107 => ?_)
  · replace h := zpos g107 h
    refine zk_mask [true, true, true, true, true, true, true, true, true, true, false, true, true, false] ?_
    exact ok_X9_mostOf_J159 hj r _ _ _ _ _ _ _ _ _ _ _ _ _ hr32 _ hr63 h
  · replace h := zneg g107 h
    refine zk_iload dX9_mostOf_110 rfl ?_
    refine zk_aload_n dX9_mostOf_112 rfl rfl ?_
    refine zf_X9_289 rfl dX9_mostOf_113 ?_
    refine zk_icmp_ge (tgt := 159) dX9_mostOf_116 rfl (fun g116 => ?_) (fun g116 => ?_)
    · replace h := zpos g116 h
      refine zk_mask [true, true, true, true, true, true, true, true, true, true, false, true, true, false] ?_
      exact ok_X9_mostOf_J159 hj r _ _ _ _ _ _ _ _ _ _ _ _ _ hr32 _ hr63 h
    · replace h := zneg g116 h
      refine zk_iload dX9_mostOf_119 rfl ?_
      refine zk_iload_n dX9_mostOf_121 rfl rfl ?_
      refine zk_icmp_ne (tgt := 130) dX9_mostOf_122 rfl (fun g122 => ?_) (fun g122 => ?_)
      · replace h := zneg g122 h
        refine zk_mask [true, true, true, true, true, true, true, true, true, true, false, true, true, true] ?_
        exact ok_X9_mostOf_J130 hj r _ _ _ _ _ _ _ _ _ _ _ _ _ _ hr32 _ hr63 h
      · replace h := zpos g122 h
        refine zk_iload_n dX9_mostOf_125 rfl rfl ?_
        refine zk_iconst (v := -1) dX9_mostOf_126 (by decide) ?_
        refine zk_icmp_eq (tgt := 159) dX9_mostOf_127 rfl (fun g127 => ?_) (fun g127 => ?_)
        · replace h := zpos g127 h
          refine zk_mask [true, true, true, true, true, true, true, true, true, true, false, true, true, false] ?_
          exact ok_X9_mostOf_J159 hj r _ _ _ _ _ _ _ _ _ _ _ _ _ hr32 _ hr63 h
        · replace h := zneg g127 h
          refine zk_mask [true, true, true, true, true, true, true, true, true, true, false, true, true, true] ?_
          exact ok_X9_mostOf_J130 hj r _ _ _ _ _ _ _ _ _ _ _ _ _ _ hr32 _ hr63 h
def D_X9_mostOf_J102 (rec32 : Int32 → Int32 → zS → Option (Int32 × zS)) (rec63 : Int32 → Int32 → Int32 → Int32 → Int32 → Int32 → Option (Int32 × zS)) (s : zS) (a1 : Int32) (a2 : Int32) (a3 : Int32) (a4 : Int32) (a5 : Int32) (a6 : Int32) (a7 : Int32) (a8 : Int32) (a9 : Int32) (a10 : Int32) (a11 : Int32) (a12 : Int32) : Option (Int32 × zS) :=
  D_X9_mostOf_J103 rec32 rec63 s a1 a2 a3 a4 a5 a6 a7 a8 a9 a10 a11 a12 (0 : Int32)
set_option maxRecDepth 100000 in
theorem ok_X9_mostOf_J102 {l : Launch} {D : va_G} {ad : Nat → Nat} {cA : Nat → ClassId} (hj : zInj ad) (r : (Int32 × zS)) (s : zS) (a1 : Int32) (a2 : Int32) (a3 : Int32) (a4 : Int32) (a5 : Int32) (a6 : Int32) (a7 : Int32) (a8 : Int32) (a9 : Int32) (a10 : Int32) (a11 : Int32) (a12 : Int32) (rec32 : Int32 → Int32 → zS → Option (Int32 × zS)) (hr32 : ∀ (b3 : Int32) (b5 : Int32) (s : zS), rec32 b3 b5 s = some r → zOk l D ad cA (zJm jX9_mostOf) (zEnd D ad cA (some (.int r.1)) r.2) 32 [some (.ref 66), some (.int a1), some (.int a2), some (.int b3), some (.int a4), some (.int b5), none, none, none, none, none, none, none, none] [] s) (rec63 : Int32 → Int32 → Int32 → Int32 → Int32 → Int32 → Option (Int32 × zS)) (hr63 : ∀ (b6 : Int32) (b7 : Int32) (b8 : Int32) (b9 : Int32) (b10 : Int32) (b11 : Int32), rec63 b6 b7 b8 b9 b10 b11 = some r → zOk l D ad cA (zJm jX9_mostOf) (zEnd D ad cA (some (.int r.1)) r.2) 63 [some (.ref 66), some (.int a1), some (.int a2), some (.int a3), some (.int a4), some (.int a5), some (.int b6), some (.int b7), some (.int b8), some (.int b9), some (.int b10), some (.int b11), none, none] [] s) (h : D_X9_mostOf_J102 rec32 rec63 s a1 a2 a3 a4 a5 a6 a7 a8 a9 a10 a11 a12 = some r) : zOk l D ad cA (zJm jX9_mostOf) (zEnd D ad cA (some (.int r.1)) r.2) 102 [some (.ref 66), some (.int a1), some (.int a2), some (.int a3), some (.int a4), some (.int a5), some (.int a6), some (.int a7), some (.int a8), some (.int a9), some (.int a10), some (.int a11), some (.int a12), none] [] s := by
  unfold D_X9_mostOf_J102 at h
  refine zk_iconst (v := 0) dX9_mostOf_102 (by decide) ?_
  exact ok_X9_mostOf_J103 hj r _ _ _ _ _ _ _ _ _ _ _ _ _ _ _ hr32 _ hr63 h
def D_X9_mostOf_B63 (rec32 : Int32 → Int32 → zS → Option (Int32 × zS)) (s : zS) (a1 : Int32) (a2 : Int32) (a3 : Int32) (a4 : Int32) (a5 : Int32) (rec63 : Int32 → Int32 → Int32 → Int32 → Int32 → Int32 → Option (Int32 × zS)) (a6 : Int32) (a7 : Int32) (a8 : Int32) (a9 : Int32) (a10 : Int32) (a11 : Int32) : Option (Int32 × zS) :=
    if a11 < 0 then (
      if a10 = 0 then (
        rec32 a3 (a5 + 1) s
      ) else (
        if a7 ≤ a3 then (
          rec32 a3 (a5 + 1) s
        ) else (
          let s243 : zS := zwI s 66 41 a5
          rec32 a7 (a5 + 1) s243
        )
      )
    ) else (
      if ((a6 - a6 / (5 : Int32) * (5 : Int32)) - (1 : Int32)) < 0 then (
        rec63 (a6 / (5 : Int32)) a7 a8 a9 a10 (a11 + -1)
      ) else (
        if ((a6 - a6 / (5 : Int32) * (5 : Int32)) - (1 : Int32)) = a1 then (
          if a2 = (1 : Int32) then (
            D_X9_mostOf_J103 rec32 rec63 s a1 a2 a3 a4 a5 (a6 / (5 : Int32)) a7 a8 a9 a10 a11 ((a6 - a6 / (5 : Int32) * (5 : Int32)) - (1 : Int32)) (1 : Int32)
          ) else (
            D_X9_mostOf_J102 rec32 rec63 s a1 a2 a3 a4 a5 (a6 / (5 : Int32)) a7 a8 a9 a10 a11 ((a6 - a6 / (5 : Int32) * (5 : Int32)) - (1 : Int32))
          )
        ) else (
          D_X9_mostOf_J102 rec32 rec63 s a1 a2 a3 a4 a5 (a6 / (5 : Int32)) a7 a8 a9 a10 a11 ((a6 - a6 / (5 : Int32) * (5 : Int32)) - (1 : Int32))
        )
      )
    )
def D_X9_mostOf_L63 (rec32 : Int32 → Int32 → zS → Option (Int32 × zS)) (s : zS) (a1 : Int32) (a2 : Int32) (a3 : Int32) (a4 : Int32) (a5 : Int32) (n : Nat) (a6 : Int32) (a7 : Int32) (a8 : Int32) (a9 : Int32) (a10 : Int32) (a11 : Int32) : Option (Int32 × zS) := zfx (fun (rec : Int32 × Int32 × Int32 × Int32 × Int32 × Int32 → Option (Int32 × zS)) q => D_X9_mostOf_B63 rec32 s a1 a2 a3 a4 a5 (fun v0 v1 v2 v3 v4 v5 => rec (v0, v1, v2, v3, v4, v5)) q.1 q.2.1 q.2.2.1 q.2.2.2.1 q.2.2.2.2.1 q.2.2.2.2.2) n (a6, a7, a8, a9, a10, a11)
set_option maxRecDepth 100000 in
theorem D_X9_mostOf_L63_s (rec32 : Int32 → Int32 → zS → Option (Int32 × zS)) (s : zS) (a1 : Int32) (a2 : Int32) (a3 : Int32) (a4 : Int32) (a5 : Int32) (n : Nat) (a6 : Int32) (a7 : Int32) (a8 : Int32) (a9 : Int32) (a10 : Int32) (a11 : Int32) : D_X9_mostOf_L63 rec32 s a1 a2 a3 a4 a5 (n + 1) a6 a7 a8 a9 a10 a11 = D_X9_mostOf_B63 rec32 s a1 a2 a3 a4 a5 (D_X9_mostOf_L63 rec32 s a1 a2 a3 a4 a5 n) a6 a7 a8 a9 a10 a11 := rfl
set_option maxRecDepth 100000 in
theorem ok_X9_mostOf_L63 {l : Launch} {D : va_G} {ad : Nat → Nat} {cA : Nat → ClassId} (hj : zInj ad) (r : (Int32 × zS)) (s : zS) (a1 : Int32) (a2 : Int32) (a3 : Int32) (a4 : Int32) (a5 : Int32) (rec32 : Int32 → Int32 → zS → Option (Int32 × zS)) (hr32 : ∀ (b3 : Int32) (b5 : Int32) (s : zS), rec32 b3 b5 s = some r → zOk l D ad cA (zJm jX9_mostOf) (zEnd D ad cA (some (.int r.1)) r.2) 32 [some (.ref 66), some (.int a1), some (.int a2), some (.int b3), some (.int a4), some (.int b5), none, none, none, none, none, none, none, none] [] s) : ∀ (n : Nat) (a6 : Int32) (a7 : Int32) (a8 : Int32) (a9 : Int32) (a10 : Int32) (a11 : Int32), D_X9_mostOf_L63 rec32 s a1 a2 a3 a4 a5 n a6 a7 a8 a9 a10 a11 = some r → zOk l D ad cA (zJm jX9_mostOf) (zEnd D ad cA (some (.int r.1)) r.2) 63 [some (.ref 66), some (.int a1), some (.int a2), some (.int a3), some (.int a4), some (.int a5), some (.int a6), some (.int a7), some (.int a8), some (.int a9), some (.int a10), some (.int a11), none, none] [] s := by
  intro n
  induction n with
  | zero =>
    intro a6 a7 a8 a9 a10 a11 h
    have h0 : (none : Option (Int32 × zS)) = some r := h
    cases h0
  | succ n hr63 =>
    intro a6 a7 a8 a9 a10 a11 h
    have h : D_X9_mostOf_B63 rec32 s a1 a2 a3 a4 a5 (D_X9_mostOf_L63 rec32 s a1 a2 a3 a4 a5 n) a6 a7 a8 a9 a10 a11 = some r := h
    unfold D_X9_mostOf_B63 at h
    refine zk_iload dX9_mostOf_63 rfl ?_
    refine zk_if_lt (tgt := 226) dX9_mostOf_65 rfl (fun g65 => ?_) (fun g65 => ?_)
    · replace h := zpos g65 h
      refine zk_iload dX9_mostOf_226 rfl ?_
      refine zk_if_eq (tgt := 246) dX9_mostOf_228 rfl (fun g228 => ?_) (fun g228 => ?_)
      · replace h := zpos g228 h
        refine zk_iinc dX9_mostOf_246 rfl (zinc (m := 1) (by decide)) (by decide) (zk_eq [_, _, _, _, _, _, _, _, _, _, _, _, _, _] rfl ?_)
        refine zk_goto (tgt := 32) dX9_mostOf_249 rfl ?_
        refine zk_mask [true, true, true, true, true, true, false, false, false, false, false, false, false, false] ?_
        exact hr32 _ _ _ h
      · replace h := zneg g228 h
        refine zk_iload dX9_mostOf_231 rfl ?_
        refine zk_iload_n dX9_mostOf_233 rfl rfl ?_
        refine zk_icmp_le (tgt := 246) dX9_mostOf_234 rfl (fun g234 => ?_) (fun g234 => ?_)
        · replace h := zpos g234 h
          refine zk_iinc dX9_mostOf_246 rfl (zinc (m := 1) (by decide)) (by decide) (zk_eq [_, _, _, _, _, _, _, _, _, _, _, _, _, _] rfl ?_)
          refine zk_goto (tgt := 32) dX9_mostOf_249 rfl ?_
          refine zk_mask [true, true, true, true, true, true, false, false, false, false, false, false, false, false] ?_
          exact hr32 _ _ _ h
        · replace h := zneg g234 h
          refine zk_iload dX9_mostOf_237 rfl ?_
          refine zk_istore_n (i := 3) dX9_mostOf_239 rfl (by decide) (zk_eq [_, _, _, _, _, _, _, _, _, _, _, _, _, _] rfl ?_)
          refine zk_aload_n dX9_mostOf_240 rfl rfl ?_
          refine zk_iload dX9_mostOf_241 rfl ?_
          refine zp_X9_292 rfl dX9_mostOf_243 ?_
          refine zk_iinc dX9_mostOf_246 rfl (zinc (m := 1) (by decide)) (by decide) (zk_eq [_, _, _, _, _, _, _, _, _, _, _, _, _, _] rfl ?_)
          refine zk_goto (tgt := 32) dX9_mostOf_249 rfl ?_
          refine zk_mask [true, true, true, true, true, true, false, false, false, false, false, false, false, false] ?_
          exact hr32 _ _ _ h
    · replace h := zneg g65 h
      refine zk_iload dX9_mostOf_68 rfl ?_
      refine zk_iconst (v := 5) dX9_mostOf_70 (by decide) ?_
      refine zk_irem dX9_mostOf_71 (by decide) ?_
      refine zk_iconst (v := 1) dX9_mostOf_72 (by decide) ?_
      refine zk_isub dX9_mostOf_73 ?_
      refine zk_istore (i := 12) dX9_mostOf_74 (by decide) (zk_eq [_, _, _, _, _, _, _, _, _, _, _, _, _, _] rfl ?_)
      refine zk_iload dX9_mostOf_76 rfl ?_
      refine zk_iconst (v := 5) dX9_mostOf_78 (by decide) ?_
      refine zk_idiv dX9_mostOf_79 (by decide) ?_
      refine zk_istore (i := 6) dX9_mostOf_80 (by decide) (zk_eq [_, _, _, _, _, _, _, _, _, _, _, _, _, _] rfl ?_)
      refine zk_iload dX9_mostOf_82 rfl ?_
      refine zk_if_lt (tgt := 220) dX9_mostOf_84 rfl (fun g84 => ?_) (fun g84 => ?_)
      · replace h := zpos g84 h
        refine zk_iinc dX9_mostOf_220 rfl (zinc (m := -1) (by decide)) (by decide) (zk_eq [_, _, _, _, _, _, _, _, _, _, _, _, _, _] rfl ?_)
        refine zk_goto (tgt := 63) dX9_mostOf_223 rfl ?_
        refine zk_mask [true, true, true, true, true, true, true, true, true, true, true, true, false, false] ?_
        exact hr63 _ _ _ _ _ _ h
      · replace h := zneg g84 h
        refine zk_iload dX9_mostOf_87 rfl ?_
        refine zk_iload_n dX9_mostOf_89 rfl rfl ?_
        refine zk_icmp_ne (tgt := 102) dX9_mostOf_90 rfl (fun g90 => ?_) (fun g90 => ?_)
        · replace h := zneg g90 h
          exact ok_X9_mostOf_J102 hj r _ _ _ _ _ _ _ _ _ _ _ _ _ _ hr32 _ hr63 h
        · replace h := zpos g90 h
          refine zk_iload_n dX9_mostOf_93 rfl rfl ?_
          refine zk_iconst (v := 1) dX9_mostOf_94 (by decide) ?_
          refine zk_icmp_ne (tgt := 102) dX9_mostOf_95 rfl (fun g95 => ?_) (fun g95 => ?_)
          · replace h := zneg g95 h
            exact ok_X9_mostOf_J102 hj r _ _ _ _ _ _ _ _ _ _ _ _ _ _ hr32 _ hr63 h
          · replace h := zpos g95 h
            refine zk_iconst (v := 1) dX9_mostOf_98 (by decide) ?_
            refine zk_goto (tgt := 103) dX9_mostOf_99 rfl ?_
            exact ok_X9_mostOf_J103 hj r _ _ _ _ _ _ _ _ _ _ _ _ _ _ _ hr32 _ hr63 h
def D_X9_mostOf_B32 (a1 : Int32) (a2 : Int32) (a4 : Int32) (rec32 : Int32 → Int32 → zS → Option (Int32 × zS)) (a3 : Int32) (a5 : Int32) (s : zS) : Option (Int32 × zS) :=
    if a4 ≤ a5 then (
      some (a3, s)
    ) else (
      D_X9_mostOf_L63 rec32 s a1 a2 a3 a4 a5 zFU a5 (0 : Int32) (0 : Int32) (0 : Int32) (1 : Int32) ((s.1 66 17) - (1 : Int32))
    )
def D_X9_mostOf_L32 (a1 : Int32) (a2 : Int32) (a4 : Int32) (n : Nat) (a3 : Int32) (a5 : Int32) (s : zS) : Option (Int32 × zS) := zfx (fun (rec : Int32 × Int32 × zS → Option (Int32 × zS)) q => D_X9_mostOf_B32 a1 a2 a4 (fun v0 v1 v2 => rec (v0, v1, v2)) q.1 q.2.1 q.2.2) n (a3, a5, s)
set_option maxRecDepth 100000 in
theorem D_X9_mostOf_L32_s (a1 : Int32) (a2 : Int32) (a4 : Int32) (n : Nat) (a3 : Int32) (a5 : Int32) (s : zS) : D_X9_mostOf_L32 a1 a2 a4 (n + 1) a3 a5 s = D_X9_mostOf_B32 a1 a2 a4 (D_X9_mostOf_L32 a1 a2 a4 n) a3 a5 s := rfl
set_option maxRecDepth 100000 in
theorem ok_X9_mostOf_L32 {l : Launch} {D : va_G} {ad : Nat → Nat} {cA : Nat → ClassId} (hj : zInj ad) (r : (Int32 × zS)) (a1 : Int32) (a2 : Int32) (a4 : Int32) : ∀ (n : Nat) (a3 : Int32) (a5 : Int32) (s : zS), D_X9_mostOf_L32 a1 a2 a4 n a3 a5 s = some r → zOk l D ad cA (zJm jX9_mostOf) (zEnd D ad cA (some (.int r.1)) r.2) 32 [some (.ref 66), some (.int a1), some (.int a2), some (.int a3), some (.int a4), some (.int a5), none, none, none, none, none, none, none, none] [] s := by
  intro n
  induction n with
  | zero =>
    intro a3 a5 s h
    have h0 : (none : Option (Int32 × zS)) = some r := h
    cases h0
  | succ n hr32 =>
    intro a3 a5 s h
    have h : D_X9_mostOf_B32 a1 a2 a4 (D_X9_mostOf_L32 a1 a2 a4 n) a3 a5 s = some r := h
    unfold D_X9_mostOf_B32 at h
    refine zk_iload dX9_mostOf_32 rfl ?_
    refine zk_iload dX9_mostOf_34 rfl ?_
    refine zk_icmp_ge (tgt := 252) dX9_mostOf_36 rfl (fun g36 => ?_) (fun g36 => ?_)
    · replace h := zpos g36 h
      refine zk_iload_n dX9_mostOf_252 rfl rfl ?_
      have e9 := Option.some.inj h
      subst e9
      exact zk_iret rfl ⟨rfl, rfl⟩ dX9_mostOf_253
    · replace h := zneg g36 h
      refine zk_iload dX9_mostOf_39 rfl ?_
      refine zk_istore (i := 6) dX9_mostOf_41 (by decide) (zk_eq [_, _, _, _, _, _, _, _, _, _, _, _, _, _] rfl ?_)
      refine zk_iconst (v := 0) dX9_mostOf_43 (by decide) ?_
      refine zk_istore (i := 7) dX9_mostOf_44 (by decide) (zk_eq [_, _, _, _, _, _, _, _, _, _, _, _, _, _] rfl ?_)
      refine zk_iconst (v := 0) dX9_mostOf_46 (by decide) ?_
      refine zk_istore (i := 8) dX9_mostOf_47 (by decide) (zk_eq [_, _, _, _, _, _, _, _, _, _, _, _, _, _] rfl ?_)
      refine zk_iconst (v := 0) dX9_mostOf_49 (by decide) ?_
      refine zk_istore (i := 9) dX9_mostOf_50 (by decide) (zk_eq [_, _, _, _, _, _, _, _, _, _, _, _, _, _] rfl ?_)
      refine zk_iconst (v := 1) dX9_mostOf_52 (by decide) ?_
      refine zk_istore (i := 10) dX9_mostOf_53 (by decide) (zk_eq [_, _, _, _, _, _, _, _, _, _, _, _, _, _] rfl ?_)
      refine zk_aload_n dX9_mostOf_55 rfl rfl ?_
      refine zf_X9_286 rfl dX9_mostOf_56 ?_
      refine zk_iconst (v := 1) dX9_mostOf_59 (by decide) ?_
      refine zk_isub dX9_mostOf_60 ?_
      refine zk_istore (i := 11) dX9_mostOf_61 (by decide) (zk_eq [_, _, _, _, _, _, _, _, _, _, _, _, _, _] rfl ?_)
      exact ok_X9_mostOf_L63 hj r _ _ _ _ _ _ _ hr32 _ _ _ _ _ _ _ h
def D_X9_mostOf_B8 (s : zS) (a1 : Int32) (a2 : Int32) (a3 : Int32) (rec8 : Int32 → Int32 → Option (Int32 × zS)) (a4 : Int32) (a5 : Int32) : Option (Int32 × zS) :=
    if (s.1 66 17) ≤ a5 then (
      D_X9_mostOf_L32 a1 a2 a4 zFU a3 (0 : Int32) s
    ) else (
      rec8 (a4 * (5 : Int32)) (a5 + 1)
    )
def D_X9_mostOf_L8 (s : zS) (a1 : Int32) (a2 : Int32) (a3 : Int32) (n : Nat) (a4 : Int32) (a5 : Int32) : Option (Int32 × zS) := zfx (fun (rec : Int32 × Int32 → Option (Int32 × zS)) q => D_X9_mostOf_B8 s a1 a2 a3 (fun v0 v1 => rec (v0, v1)) q.1 q.2) n (a4, a5)
set_option maxRecDepth 100000 in
theorem D_X9_mostOf_L8_s (s : zS) (a1 : Int32) (a2 : Int32) (a3 : Int32) (n : Nat) (a4 : Int32) (a5 : Int32) : D_X9_mostOf_L8 s a1 a2 a3 (n + 1) a4 a5 = D_X9_mostOf_B8 s a1 a2 a3 (D_X9_mostOf_L8 s a1 a2 a3 n) a4 a5 := rfl
set_option maxRecDepth 100000 in
theorem ok_X9_mostOf_L8 {l : Launch} {D : va_G} {ad : Nat → Nat} {cA : Nat → ClassId} (hj : zInj ad) (r : (Int32 × zS)) (s : zS) (a1 : Int32) (a2 : Int32) (a3 : Int32) : ∀ (n : Nat) (a4 : Int32) (a5 : Int32), D_X9_mostOf_L8 s a1 a2 a3 n a4 a5 = some r → zOk l D ad cA (zJm jX9_mostOf) (zEnd D ad cA (some (.int r.1)) r.2) 8 [some (.ref 66), some (.int a1), some (.int a2), some (.int a3), some (.int a4), some (.int a5), none, none, none, none, none, none, none, none] [] s := by
  intro n
  induction n with
  | zero =>
    intro a4 a5 h
    have h0 : (none : Option (Int32 × zS)) = some r := h
    cases h0
  | succ n hr8 =>
    intro a4 a5 h
    have h : D_X9_mostOf_B8 s a1 a2 a3 (D_X9_mostOf_L8 s a1 a2 a3 n) a4 a5 = some r := h
    unfold D_X9_mostOf_B8 at h
    refine zk_iload dX9_mostOf_8 rfl ?_
    refine zk_aload_n dX9_mostOf_10 rfl rfl ?_
    refine zf_X9_286 rfl dX9_mostOf_11 ?_
    refine zk_icmp_ge (tgt := 29) dX9_mostOf_14 rfl (fun g14 => ?_) (fun g14 => ?_)
    · replace h := zpos g14 h
      refine zk_iconst (v := 0) dX9_mostOf_29 (by decide) ?_
      refine zk_istore (i := 5) dX9_mostOf_30 (by decide) (zk_eq [_, _, _, _, _, _, _, _, _, _, _, _, _, _] rfl ?_)
      exact ok_X9_mostOf_L32 hj r _ _ _ _ _ _ _ h
    · replace h := zneg g14 h
      refine zk_iload dX9_mostOf_17 rfl ?_
      refine zk_iconst (v := 5) dX9_mostOf_19 (by decide) ?_
      refine zk_imul dX9_mostOf_20 ?_
      refine zk_istore (i := 4) dX9_mostOf_21 (by decide) (zk_eq [_, _, _, _, _, _, _, _, _, _, _, _, _, _] rfl ?_)
      refine zk_iinc dX9_mostOf_23 rfl (zinc (m := 1) (by decide)) (by decide) (zk_eq [_, _, _, _, _, _, _, _, _, _, _, _, _, _] rfl ?_)
      refine zk_goto (tgt := 8) dX9_mostOf_26 rfl ?_
      exact hr8 _ _ h
def D_X9_mostOf (s : zS) (a1 : Int32) (a2 : Int32) : Option (Int32 × zS) :=
  D_X9_mostOf_L8 s a1 a2 (-1 : Int32) zFU (1 : Int32) (0 : Int32)
set_option maxRecDepth 100000 in
theorem ok_X9_mostOf {l : Launch} {D : va_G} {ad : Nat → Nat} {cA : Nat → ClassId} (hj : zInj ad) (s : zS) (a1 : Int32) (a2 : Int32) {r : (Int32 × zS)} (h : D_X9_mostOf s a1 a2 = some r) : zMet l D ad cA jX9_mostOf [.ref 66, .int a1, .int a2] s (some (.int r.1)) r.2 := by
  refine zMet_of jX9_mostOf [some (.ref 66), some (.int a1), some (.int a2), none, none, none, none, none, none, none, none, none, none, none] (by decide +kernel) (Nat.le_of_ble_eq_true rfl) rfl hj ?_
  unfold D_X9_mostOf at h
  refine zk_iconst (v := -1) dX9_mostOf_0 (by decide) ?_
  refine zk_istore_n (i := 3) dX9_mostOf_1 rfl (by decide) (zk_eq [_, _, _, _, _, _, _, _, _, _, _, _, _, _] rfl ?_)
  refine zk_iconst (v := 1) dX9_mostOf_2 (by decide) ?_
  refine zk_istore (i := 4) dX9_mostOf_3 (by decide) (zk_eq [_, _, _, _, _, _, _, _, _, _, _, _, _, _] rfl ?_)
  refine zk_iconst (v := 0) dX9_mostOf_5 (by decide) ?_
  refine zk_istore (i := 5) dX9_mostOf_6 (by decide) (zk_eq [_, _, _, _, _, _, _, _, _, _, _, _, _, _] rfl ?_)
  exact ok_X9_mostOf_L8 hj r _ _ _ _ _ _ _ h
def D_X9_clear_B42 (rec29 : Int32 → Int32 → Option (Int32 × zS)) (s : zS) (a1 : Int32) (a2 : Int32) (rec42 : Int32 → Int32 → Option (Int32 × zS)) (a3 : Int32) (a4 : Int32) : Option (Int32 × zS) :=
    if (s.1 66 18) ≤ a4 then (
      rec29 (a1 + a3) (a2 + 1)
    ) else (
      zgd (zin (((4 : Int32) * a2) + a4) 16 = true) <|
      zgd (zin a4 4 = true) <|
      if ((s.1 75 (((4 : Int32) * a2) + a4).toNatClampNeg) - (s.1 76 a4.toNatClampNeg)) ≤ a3 then (
        rec42 a3 (a4 + 1)
      ) else (
        rec42 ((s.1 75 (((4 : Int32) * a2) + a4).toNatClampNeg) - (s.1 76 a4.toNatClampNeg)) (a4 + 1)
      )
    )
def D_X9_clear_L42 (rec29 : Int32 → Int32 → Option (Int32 × zS)) (s : zS) (a1 : Int32) (a2 : Int32) (n : Nat) (a3 : Int32) (a4 : Int32) : Option (Int32 × zS) := zfx (fun (rec : Int32 × Int32 → Option (Int32 × zS)) q => D_X9_clear_B42 rec29 s a1 a2 (fun v0 v1 => rec (v0, v1)) q.1 q.2) n (a3, a4)
set_option maxRecDepth 100000 in
theorem D_X9_clear_L42_s (rec29 : Int32 → Int32 → Option (Int32 × zS)) (s : zS) (a1 : Int32) (a2 : Int32) (n : Nat) (a3 : Int32) (a4 : Int32) : D_X9_clear_L42 rec29 s a1 a2 (n + 1) a3 a4 = D_X9_clear_B42 rec29 s a1 a2 (D_X9_clear_L42 rec29 s a1 a2 n) a3 a4 := rfl
set_option maxRecDepth 100000 in
theorem ok_X9_clear_L42 {l : Launch} {D : va_G} {ad : Nat → Nat} {cA : Nat → ClassId} (hj : zInj ad) (r : (Int32 × zS)) (s : zS) (a1 : Int32) (a2 : Int32) (rec29 : Int32 → Int32 → Option (Int32 × zS)) (hr29 : ∀ (b1 : Int32) (b2 : Int32), rec29 b1 b2 = some r → zOk l D ad cA (zJm jX9_clear) (zEnd D ad cA (some (.int r.1)) r.2) 29 [some (.ref 66), some (.int b1), some (.int b2), none, none, none] [] s) : ∀ (n : Nat) (a3 : Int32) (a4 : Int32), D_X9_clear_L42 rec29 s a1 a2 n a3 a4 = some r → zOk l D ad cA (zJm jX9_clear) (zEnd D ad cA (some (.int r.1)) r.2) 42 [some (.ref 66), some (.int a1), some (.int a2), some (.int a3), some (.int a4), none] [] s := by
  intro n
  induction n with
  | zero =>
    intro a3 a4 h
    have h0 : (none : Option (Int32 × zS)) = some r := h
    cases h0
  | succ n hr42 =>
    intro a3 a4 h
    have h : D_X9_clear_B42 rec29 s a1 a2 (D_X9_clear_L42 rec29 s a1 a2 n) a3 a4 = some r := h
    unfold D_X9_clear_B42 at h
    refine zk_iload dX9_clear_42 rfl ?_
    refine zk_aload_n dX9_clear_44 rfl rfl ?_
    refine zf_X9_289 rfl dX9_clear_45 ?_
    refine zk_icmp_ge (tgt := 91) dX9_clear_48 rfl (fun g48 => ?_) (fun g48 => ?_)
    · replace h := zpos g48 h
      refine zk_iload_n dX9_clear_91 rfl rfl ?_
      refine zk_iload_n dX9_clear_92 rfl rfl ?_
      refine zk_iadd dX9_clear_93 ?_
      refine zk_istore_n (i := 1) dX9_clear_94 rfl (by decide) (zk_eq [_, _, _, _, _, _] rfl ?_)
      refine zk_iinc dX9_clear_95 rfl (zinc (m := 1) (by decide)) (by decide) (zk_eq [_, _, _, _, _, _] rfl ?_)
      refine zk_goto (tgt := 29) dX9_clear_98 rfl ?_
      refine zk_mask [true, true, true, false, false, false] ?_
      exact hr29 _ _ h
    · replace h := zneg g48 h
      refine zk_aload_n dX9_clear_51 rfl rfl ?_
      refine zf_X9_48 rfl dX9_clear_52 ?_
      refine zk_iconst (v := 4) dX9_clear_55 (by decide) ?_
      refine zk_iload_n dX9_clear_56 rfl rfl ?_
      refine zk_imul dX9_clear_57 ?_
      refine zk_iload dX9_clear_58 rfl ?_
      refine zk_iadd dX9_clear_60 ?_
      obtain ⟨g61, h⟩ := zguard h
      refine zk_iald (zoI_of rfl g61) dX9_clear_61 ?_
      refine zk_aload_n dX9_clear_62 rfl rfl ?_
      refine zf_X9_51 rfl dX9_clear_63 ?_
      refine zk_iload dX9_clear_66 rfl ?_
      obtain ⟨g68, h⟩ := zguard h
      refine zk_iald (zoI_of rfl g68) dX9_clear_68 ?_
      refine zk_isub dX9_clear_69 ?_
      refine zk_istore (i := 5) dX9_clear_70 (by decide) (zk_eq [_, _, _, _, _, _] rfl ?_)
      refine zk_iload dX9_clear_72 rfl ?_
      refine zk_iload_n dX9_clear_74 rfl rfl ?_
      refine zk_icmp_le (tgt := 83) dX9_clear_75 rfl (fun g75 => ?_) (fun g75 => ?_)
      · replace h := zpos g75 h
        refine zk_iload_n dX9_clear_83 rfl rfl ?_
        refine zk_istore_n (i := 3) dX9_clear_84 rfl (by decide) (zk_eq [_, _, _, _, _, _] rfl ?_)
        refine zk_iinc dX9_clear_85 rfl (zinc (m := 1) (by decide)) (by decide) (zk_eq [_, _, _, _, _, _] rfl ?_)
        refine zk_goto (tgt := 42) dX9_clear_88 rfl ?_
        refine zk_mask [true, true, true, true, true, false] ?_
        exact hr42 _ _ h
      · replace h := zneg g75 h
        refine zk_iload dX9_clear_78 rfl ?_
        refine zk_goto (tgt := 84) dX9_clear_80 rfl ?_
        refine zk_istore_n (i := 3) dX9_clear_84 rfl (by decide) (zk_eq [_, _, _, _, _, _] rfl ?_)
        refine zk_iinc dX9_clear_85 rfl (zinc (m := 1) (by decide)) (by decide) (zk_eq [_, _, _, _, _, _] rfl ?_)
        refine zk_goto (tgt := 42) dX9_clear_88 rfl ?_
        refine zk_mask [true, true, true, true, true, false] ?_
        exact hr42 _ _ h
def D_X9_clear_B29 (s : zS) (rec29 : Int32 → Int32 → Option (Int32 × zS)) (a1 : Int32) (a2 : Int32) : Option (Int32 × zS) :=
    if (s.1 66 17) ≤ a2 then (
      (D_X9_mostOf s (-1 : Int32) (0 : Int32)).bind fun p105 =>
      if a1 = p105.1 then (
        some ((1 : Int32), p105.2)
      ) else (
        some ((0 : Int32), p105.2)
      )
    ) else (
      D_X9_clear_L42 rec29 s a1 a2 zFU (0 : Int32) (0 : Int32)
    )
def D_X9_clear_L29 (s : zS) (n : Nat) (a1 : Int32) (a2 : Int32) : Option (Int32 × zS) := zfx (fun (rec : Int32 × Int32 → Option (Int32 × zS)) q => D_X9_clear_B29 s (fun v0 v1 => rec (v0, v1)) q.1 q.2) n (a1, a2)
set_option maxRecDepth 100000 in
theorem D_X9_clear_L29_s (s : zS) (n : Nat) (a1 : Int32) (a2 : Int32) : D_X9_clear_L29 s (n + 1) a1 a2 = D_X9_clear_B29 s (D_X9_clear_L29 s n) a1 a2 := rfl
set_option maxRecDepth 100000 in
theorem ok_X9_clear_L29 {l : Launch} {D : va_G} {ad : Nat → Nat} {cA : Nat → ClassId} (hj : zInj ad) (r : (Int32 × zS)) (s : zS) : ∀ (n : Nat) (a1 : Int32) (a2 : Int32), D_X9_clear_L29 s n a1 a2 = some r → zOk l D ad cA (zJm jX9_clear) (zEnd D ad cA (some (.int r.1)) r.2) 29 [some (.ref 66), some (.int a1), some (.int a2), none, none, none] [] s := by
  intro n
  induction n with
  | zero =>
    intro a1 a2 h
    have h0 : (none : Option (Int32 × zS)) = some r := h
    cases h0
  | succ n hr29 =>
    intro a1 a2 h
    have h : D_X9_clear_B29 s (D_X9_clear_L29 s n) a1 a2 = some r := h
    unfold D_X9_clear_B29 at h
    refine zk_iload_n dX9_clear_29 rfl rfl ?_
    refine zk_aload_n dX9_clear_30 rfl rfl ?_
    refine zf_X9_286 rfl dX9_clear_31 ?_
    refine zk_icmp_ge (tgt := 101) dX9_clear_34 rfl (fun g34 => ?_) (fun g34 => ?_)
    · replace h := zpos g34 h
      refine zk_iload_n dX9_clear_101 rfl rfl ?_
      refine zk_aload_n dX9_clear_102 rfl rfl ?_
      refine zk_iconst (v := -1) dX9_clear_103 (by decide) ?_
      refine zk_iconst (v := 0) dX9_clear_104 (by decide) ?_
      obtain ⟨p105, h105, h⟩ := zbind h
      refine zc_X9_295 [.int _] (As := [.int _, .int _]) (ok_X9_mostOf hj _ _ _ h105) rfl ⟨Nat.le_of_ble_eq_true rfl, Nat.le_of_ble_eq_true rfl⟩ ⟨Nat.le_refl _, Nat.le_refl _⟩ rfl rfl (Nat.le_of_ble_eq_true rfl) dX9_clear_105 ?_
      refine zk_icmp_ne (tgt := 115) dX9_clear_108 rfl (fun g108 => ?_) (fun g108 => ?_)
      · replace h := zneg g108 h
        refine zk_iconst (v := 0) dX9_clear_115 (by decide) ?_
        have e9 := Option.some.inj h
        subst e9
        exact zk_iret rfl ⟨rfl, rfl⟩ dX9_clear_116
      · replace h := zpos g108 h
        refine zk_iconst (v := 1) dX9_clear_111 (by decide) ?_
        refine zk_goto (tgt := 116) dX9_clear_112 rfl ?_
        have e9 := Option.some.inj h
        subst e9
        exact zk_iret rfl ⟨rfl, rfl⟩ dX9_clear_116
    · replace h := zneg g34 h
      refine zk_iconst (v := 0) dX9_clear_37 (by decide) ?_
      refine zk_istore_n (i := 3) dX9_clear_38 rfl (by decide) (zk_eq [_, _, _, _, _, _] rfl ?_)
      refine zk_iconst (v := 0) dX9_clear_39 (by decide) ?_
      refine zk_istore (i := 4) dX9_clear_40 (by decide) (zk_eq [_, _, _, _, _, _] rfl ?_)
      exact ok_X9_clear_L42 hj r _ _ _ _ hr29 _ _ _ h
def D_X9_clear_B4 (s : zS) (rec4 : Int32 → Int32 → Option (Int32 × zS)) (a1 : Int32) (a2 : Int32) : Option (Int32 × zS) :=
    if (s.1 66 18) ≤ a2 then (
      D_X9_clear_L29 s zFU a1 (0 : Int32)
    ) else (
      zgd (zin a2 4 = true) <|
      rec4 (a1 + (s.1 76 a2.toNatClampNeg)) (a2 + 1)
    )
def D_X9_clear_L4 (s : zS) (n : Nat) (a1 : Int32) (a2 : Int32) : Option (Int32 × zS) := zfx (fun (rec : Int32 × Int32 → Option (Int32 × zS)) q => D_X9_clear_B4 s (fun v0 v1 => rec (v0, v1)) q.1 q.2) n (a1, a2)
set_option maxRecDepth 100000 in
theorem D_X9_clear_L4_s (s : zS) (n : Nat) (a1 : Int32) (a2 : Int32) : D_X9_clear_L4 s (n + 1) a1 a2 = D_X9_clear_B4 s (D_X9_clear_L4 s n) a1 a2 := rfl
set_option maxRecDepth 100000 in
theorem ok_X9_clear_L4 {l : Launch} {D : va_G} {ad : Nat → Nat} {cA : Nat → ClassId} (hj : zInj ad) (r : (Int32 × zS)) (s : zS) : ∀ (n : Nat) (a1 : Int32) (a2 : Int32), D_X9_clear_L4 s n a1 a2 = some r → zOk l D ad cA (zJm jX9_clear) (zEnd D ad cA (some (.int r.1)) r.2) 4 [some (.ref 66), some (.int a1), some (.int a2), none, none, none] [] s := by
  intro n
  induction n with
  | zero =>
    intro a1 a2 h
    have h0 : (none : Option (Int32 × zS)) = some r := h
    cases h0
  | succ n hr4 =>
    intro a1 a2 h
    have h : D_X9_clear_B4 s (D_X9_clear_L4 s n) a1 a2 = some r := h
    unfold D_X9_clear_B4 at h
    refine zk_iload_n dX9_clear_4 rfl rfl ?_
    refine zk_aload_n dX9_clear_5 rfl rfl ?_
    refine zf_X9_289 rfl dX9_clear_6 ?_
    refine zk_icmp_ge (tgt := 27) dX9_clear_9 rfl (fun g9 => ?_) (fun g9 => ?_)
    · replace h := zpos g9 h
      refine zk_iconst (v := 0) dX9_clear_27 (by decide) ?_
      refine zk_istore_n (i := 2) dX9_clear_28 rfl (by decide) (zk_eq [_, _, _, _, _, _] rfl ?_)
      exact ok_X9_clear_L29 hj r _ _ _ _ h
    · replace h := zneg g9 h
      refine zk_iload_n dX9_clear_12 rfl rfl ?_
      refine zk_aload_n dX9_clear_13 rfl rfl ?_
      refine zf_X9_51 rfl dX9_clear_14 ?_
      refine zk_iload_n dX9_clear_17 rfl rfl ?_
      obtain ⟨g18, h⟩ := zguard h
      refine zk_iald (zoI_of rfl g18) dX9_clear_18 ?_
      refine zk_iadd dX9_clear_19 ?_
      refine zk_istore_n (i := 1) dX9_clear_20 rfl (by decide) (zk_eq [_, _, _, _, _, _] rfl ?_)
      refine zk_iinc dX9_clear_21 rfl (zinc (m := 1) (by decide)) (by decide) (zk_eq [_, _, _, _, _, _] rfl ?_)
      refine zk_goto (tgt := 4) dX9_clear_24 rfl ?_
      exact hr4 _ _ h
def D_X9_clear (s : zS) : Option (Int32 × zS) :=
  D_X9_clear_L4 s zFU (0 : Int32) (0 : Int32)
set_option maxRecDepth 100000 in
theorem ok_X9_clear {l : Launch} {D : va_G} {ad : Nat → Nat} {cA : Nat → ClassId} (hj : zInj ad) (s : zS)  {r : (Int32 × zS)} (h : D_X9_clear s = some r) : zMet l D ad cA jX9_clear [.ref 66] s (some (.int r.1)) r.2 := by
  refine zMet_of jX9_clear [some (.ref 66), none, none, none, none, none] (by decide +kernel) (Nat.le_of_ble_eq_true rfl) rfl hj ?_
  unfold D_X9_clear at h
  refine zk_iconst (v := 0) dX9_clear_0 (by decide) ?_
  refine zk_istore_n (i := 1) dX9_clear_1 rfl (by decide) (zk_eq [_, _, _, _, _, _] rfl ?_)
  refine zk_iconst (v := 0) dX9_clear_2 (by decide) ?_
  refine zk_istore_n (i := 2) dX9_clear_3 rfl (by decide) (zk_eq [_, _, _, _, _, _] rfl ?_)
  exact ok_X9_clear_L4 hj r _ _ _ _ h
def D_X9_isSet (s : zS) (a1 : Int32) : Option Int32 :=
  (D_X9_all s).bind fun p4 =>
  (D_X9_in a1.toInt64 (1 : Int64) p4.toInt64).bind fun p8 =>
  zgd (p8 = 0 ∨ p8 = 1) <|
  some p8
set_option maxRecDepth 100000 in
theorem ok_X9_isSet {l : Launch} {D : va_G} {ad : Nat → Nat} {cA : Nat → ClassId} (hj : zInj ad) (s : zS) (a1 : Int32) {r : Int32} (h : D_X9_isSet s a1 = some r) : zMet l D ad cA jX9_isSet [.ref 66, .int a1] s (some (.int r)) s := by
  refine zMet_of jX9_isSet [some (.ref 66), some (.int a1)] (by decide +kernel) (Nat.le_of_ble_eq_true rfl) rfl hj ?_
  unfold D_X9_isSet at h
  refine zk_iload_n dX9_isSet_0 rfl rfl ?_
  refine zk_i2l dX9_isSet_1 ?_
  refine zk_lconst (v := 1) dX9_isSet_2 (by decide) ?_
  refine zk_aload_n dX9_isSet_3 rfl rfl ?_
  obtain ⟨p4, h4, h⟩ := zbind h
  refine zc_X9_88 [.long _, .long _] (As := []) (ok_X9_all hj _ h4) rfl ⟨Nat.le_of_ble_eq_true rfl, Nat.le_of_ble_eq_true rfl⟩ ⟨Nat.le_refl _, Nat.le_refl _⟩ rfl rfl (Nat.le_of_ble_eq_true rfl) dX9_isSet_4 ?_
  refine zk_i2l dX9_isSet_7 ?_
  obtain ⟨p8, h8, h⟩ := zbind h
  refine zc_X9_92 [] (As := [.long _, .long _, .long _]) (ok_X9_in hj _ _ _ _ h8) rfl ⟨Nat.le_of_ble_eq_true rfl, Nat.le_of_ble_eq_true rfl⟩ ⟨Nat.le_refl _, Nat.le_refl _⟩ rfl rfl (Nat.le_of_ble_eq_true rfl) dX9_isSet_8 ?_
  obtain ⟨hx11, h⟩ := zguard h
  have e9 := Option.some.inj h
  subst e9
  exact zk_zret rfl hx11 ⟨rfl, rfl⟩ dX9_isSet_11
def D_X9_complaint_J31 (s : zS) : Option Int32 :=
  some (-1000000 : Int32)
set_option maxRecDepth 100000 in
theorem ok_X9_complaint_J31 {l : Launch} {D : va_G} {ad : Nat → Nat} {cA : Nat → ClassId} (hj : zInj ad) (r : Int32) (s : zS) (h : D_X9_complaint_J31 s = some r) : zOk l D ad cA (zJm jX9_complaint) (zEnd D ad cA (some (.int r)) s) 31 [none, none, none] [] s := by
  unfold D_X9_complaint_J31 at h
  refine zk_ldc dX9_complaint_31 zw_X9_207 ?_
  have e9 := Option.some.inj h
  subst e9
  exact zk_iret rfl ⟨rfl, rfl⟩ dX9_complaint_33
def D_X9_complaint (s : zS) (a1 : Int32) (a2 : Int32) : Option Int32 :=
  (D_X9_isShare a1).bind fun p1 =>
  if p1 = 0 then (
    D_X9_complaint_J31 s
  ) else (
    (D_X9_isSet s a2).bind fun p9 =>
    if p9 = 0 then (
      D_X9_complaint_J31 s
    ) else (
      zgd (zin a2 16 = true) <|
      (D_X9_sumOf s a1 a2).bind fun p24 =>
      some ((s.1 67 a2.toNatClampNeg) - p24)
    )
  )
set_option maxRecDepth 100000 in
theorem ok_X9_complaint {l : Launch} {D : va_G} {ad : Nat → Nat} {cA : Nat → ClassId} (hj : zInj ad) (s : zS) (a1 : Int32) (a2 : Int32) {r : Int32} (h : D_X9_complaint s a1 a2 = some r) : zMet l D ad cA jX9_complaint [.ref 66, .int a1, .int a2] s (some (.int r)) s := by
  refine zMet_of jX9_complaint [some (.ref 66), some (.int a1), some (.int a2)] (by decide +kernel) (Nat.le_of_ble_eq_true rfl) rfl hj ?_
  unfold D_X9_complaint at h
  refine zk_iload_n dX9_complaint_0 rfl rfl ?_
  obtain ⟨p1, h1, h⟩ := zbind h
  refine zc_X9_196 [] (As := [.int _]) (ok_X9_isShare hj _ _ h1) rfl ⟨Nat.le_of_ble_eq_true rfl, Nat.le_of_ble_eq_true rfl⟩ ⟨Nat.le_refl _, Nat.le_refl _⟩ rfl rfl (Nat.le_of_ble_eq_true rfl) dX9_complaint_1 ?_
  refine zk_if_eq (tgt := 31) dX9_complaint_4 rfl (fun g4 => ?_) (fun g4 => ?_)
  · replace h := zpos g4 h
    refine zk_mask [false, false, false] ?_
    exact ok_X9_complaint_J31 hj r _ h
  · replace h := zneg g4 h
    refine zk_aload_n dX9_complaint_7 rfl rfl ?_
    refine zk_iload_n dX9_complaint_8 rfl rfl ?_
    obtain ⟨p9, h9, h⟩ := zbind h
    refine zc_X9_105 [] (As := [.int _]) (ok_X9_isSet hj _ _ h9) rfl ⟨Nat.le_of_ble_eq_true rfl, Nat.le_of_ble_eq_true rfl⟩ ⟨Nat.le_refl _, Nat.le_refl _⟩ rfl rfl (Nat.le_of_ble_eq_true rfl) dX9_complaint_9 ?_
    refine zk_if_eq (tgt := 31) dX9_complaint_12 rfl (fun g12 => ?_) (fun g12 => ?_)
    · replace h := zpos g12 h
      refine zk_mask [false, false, false] ?_
      exact ok_X9_complaint_J31 hj r _ h
    · replace h := zneg g12 h
      refine zk_aload_n dX9_complaint_15 rfl rfl ?_
      refine zf_X9_13 rfl dX9_complaint_16 ?_
      refine zk_iload_n dX9_complaint_19 rfl rfl ?_
      obtain ⟨g20, h⟩ := zguard h
      refine zk_iald (zoI_of rfl g20) dX9_complaint_20 ?_
      refine zk_aload_n dX9_complaint_21 rfl rfl ?_
      refine zk_iload_n dX9_complaint_22 rfl rfl ?_
      refine zk_iload_n dX9_complaint_23 rfl rfl ?_
      obtain ⟨p24, h24, h⟩ := zbind h
      refine zc_X9_203 [.int _] (As := [.int _, .int _]) (ok_X9_sumOf hj _ _ _ h24) rfl ⟨Nat.le_of_ble_eq_true rfl, Nat.le_of_ble_eq_true rfl⟩ ⟨Nat.le_refl _, Nat.le_refl _⟩ rfl rfl (Nat.le_of_ble_eq_true rfl) dX9_complaint_24 ?_
      refine zk_isub dX9_complaint_27 ?_
      refine zk_goto (tgt := 33) dX9_complaint_28 rfl ?_
      have e9 := Option.some.inj h
      subst e9
      exact zk_iret rfl ⟨rfl, rfl⟩ dX9_complaint_33
def D_X9_hasCore (s : zS) : Option (Int32 × zS) :=
  if (s.1 66 0) = (1 : Int32) then (
    some ((1 : Int32), s)
  ) else (
    (D_X9_beginShares s).bind fun p11 =>
    (D_X9_layStrain p11).bind fun p15 =>
    if 0 < (lg_cmp (p15.2 66 33) (0 : Int64)) then (
      some ((0 : Int32), p15)
    ) else (
      some ((1 : Int32), p15)
    )
  )
set_option maxRecDepth 100000 in
theorem ok_X9_hasCore {l : Launch} {D : va_G} {ad : Nat → Nat} {cA : Nat → ClassId} (hj : zInj ad) (s : zS)  {r : (Int32 × zS)} (h : D_X9_hasCore s = some r) : zMet l D ad cA jX9_hasCore [.ref 66] s (some (.int r.1)) r.2 := by
  refine zMet_of jX9_hasCore [some (.ref 66)] (by decide +kernel) (Nat.le_of_ble_eq_true rfl) rfl hj ?_
  unfold D_X9_hasCore at h
  refine zk_aload_n dX9_hasCore_0 rfl rfl ?_
  refine zf_X9_7 rfl dX9_hasCore_1 ?_
  refine zk_iconst (v := 1) dX9_hasCore_4 (by decide) ?_
  refine zk_icmp_ne (tgt := 10) dX9_hasCore_5 rfl (fun g5 => ?_) (fun g5 => ?_)
  · replace h := zneg g5 h
    refine zk_aload_n dX9_hasCore_10 rfl rfl ?_
    obtain ⟨p11, h11, h⟩ := zbind h
    refine zc_X9_183 [] (As := []) (ok_X9_beginShares hj _ h11) rfl ⟨Nat.le_of_ble_eq_true rfl, Nat.le_of_ble_eq_true rfl⟩ ⟨Nat.le_refl _, Nat.le_refl _⟩ rfl rfl (Nat.le_of_ble_eq_true rfl) dX9_hasCore_11 ?_
    refine zk_aload_n dX9_hasCore_14 rfl rfl ?_
    obtain ⟨p15, h15, h⟩ := zbind h
    refine zc_X9_186 [] (As := []) (ok_X9_layStrain hj _ h15) rfl ⟨Nat.le_of_ble_eq_true rfl, Nat.le_of_ble_eq_true rfl⟩ ⟨Nat.le_refl _, Nat.le_refl _⟩ rfl rfl (Nat.le_of_ble_eq_true rfl) dX9_hasCore_15 ?_
    refine zk_aload_n dX9_hasCore_18 rfl rfl ?_
    refine zf_X9_173 rfl dX9_hasCore_19 ?_
    refine zk_lconst (v := 0) dX9_hasCore_22 (by decide) ?_
    refine zk_lcmp dX9_hasCore_23 ?_
    refine zk_if_gt (tgt := 31) dX9_hasCore_24 rfl (fun g24 => ?_) (fun g24 => ?_)
    · replace h := zpos g24 h
      refine zk_iconst (v := 0) dX9_hasCore_31 (by decide) ?_
      have e9 := Option.some.inj h
      subst e9
      exact zk_zret rfl (Or.inl rfl) ⟨rfl, rfl⟩ dX9_hasCore_32
    · replace h := zneg g24 h
      refine zk_iconst (v := 1) dX9_hasCore_27 (by decide) ?_
      refine zk_goto (tgt := 32) dX9_hasCore_28 rfl ?_
      have e9 := Option.some.inj h
      subst e9
      exact zk_zret rfl (Or.inr rfl) ⟨rfl, rfl⟩ dX9_hasCore_32
  · replace h := zpos g5 h
    refine zk_iconst (v := 1) dX9_hasCore_8 (by decide) ?_
    have e9 := Option.some.inj h
    subst e9
    exact zk_zret rfl (Or.inr rfl) ⟨rfl, rfl⟩ dX9_hasCore_9
def D_X9_core (s : zS) : Option (Int32 × zS) :=
  (D_X9_hasCore s).bind fun p1 =>
  if p1.1 = 0 then (
    some ((0 : Int32), p1.2)
  ) else (
    some ((1 : Int32), p1.2)
  )
set_option maxRecDepth 100000 in
theorem ok_X9_core {l : Launch} {D : va_G} {ad : Nat → Nat} {cA : Nat → ClassId} (hj : zInj ad) (s : zS)  {r : (Int32 × zS)} (h : D_X9_core s = some r) : zMet l D ad cA jX9_core [.ref 66] s (some (.int r.1)) r.2 := by
  refine zMet_of jX9_core [some (.ref 66)] (by decide +kernel) (Nat.le_of_ble_eq_true rfl) rfl hj ?_
  unfold D_X9_core at h
  refine zk_aload_n dX9_core_0 rfl rfl ?_
  obtain ⟨p1, h1, h⟩ := zbind h
  refine zc_X9_189 [] (As := []) (ok_X9_hasCore hj _ h1) rfl ⟨Nat.le_of_ble_eq_true rfl, Nat.le_of_ble_eq_true rfl⟩ ⟨Nat.le_refl _, Nat.le_refl _⟩ rfl rfl (Nat.le_of_ble_eq_true rfl) dX9_core_1 ?_
  refine zk_if_eq (tgt := 11) dX9_core_4 rfl (fun g4 => ?_) (fun g4 => ?_)
  · replace h := zpos g4 h
    refine zk_iconst (v := 0) dX9_core_11 (by decide) ?_
    have e9 := Option.some.inj h
    subst e9
    exact zk_iret rfl ⟨rfl, rfl⟩ dX9_core_12
  · replace h := zneg g4 h
    refine zk_iconst (v := 1) dX9_core_7 (by decide) ?_
    refine zk_goto (tgt := 12) dX9_core_8 rfl ?_
    have e9 := Option.some.inj h
    subst e9
    exact zk_iret rfl ⟨rfl, rfl⟩ dX9_core_12
def D_X9_count (s : zS) (a1 : Int32) : Option Int32 :=
  if a1 = 0 then (
    some (s.1 66 0)
  ) else (
  if a1 = 1 then (
    some (s.1 66 5)
  ) else (
  if a1 = 2 then (
    some (s.1 66 8)
  ) else (
  if a1 = 3 then (
    some (s.1 66 11)
  ) else (
  if a1 = 4 then (
    some (s.1 66 14)
  ) else (
  if a1 = 5 then (
    some (s.1 66 17)
  ) else (
  if a1 = 6 then (
    some (s.1 66 18)
  ) else (
  some (-2 : Int32)
  )))))))
set_option maxRecDepth 100000 in
theorem ok_X9_count {l : Launch} {D : va_G} {ad : Nat → Nat} {cA : Nat → ClassId} (hj : zInj ad) (s : zS) (a1 : Int32) {r : Int32} (h : D_X9_count s a1 = some r) : zMet l D ad cA jX9_count [.ref 66, .int a1] s (some (.int r)) s := by
  refine zMet_of jX9_count [some (.ref 66), some (.int a1)] (by decide +kernel) (Nat.le_of_ble_eq_true rfl) rfl hj ?_
  unfold D_X9_count at h
  refine zk_iload_n dX9_count_0 rfl rfl ?_
  by_cases g1_0 : a1 = 0
  · replace h := zpos g1_0 h
    refine zk_tableIn (tgt := 44) (off := 43) dX9_count_1 (by rw [g1_0]; decide) (by rw [g1_0]; decide) (by rw [g1_0]; rfl) rfl ?_
    refine zk_aload_n dX9_count_44 rfl rfl ?_
    refine zf_X9_7 rfl dX9_count_45 ?_
    have e9 := Option.some.inj h
    subst e9
    exact zk_iret rfl ⟨rfl, rfl⟩ dX9_count_48
  replace h := zneg g1_0 h
  by_cases g1_1 : a1 = 1
  · replace h := zpos g1_1 h
    refine zk_tableIn (tgt := 49) (off := 48) dX9_count_1 (by rw [g1_1]; decide) (by rw [g1_1]; decide) (by rw [g1_1]; rfl) rfl ?_
    refine zk_aload_n dX9_count_49 rfl rfl ?_
    refine zf_X9_215 rfl dX9_count_50 ?_
    have e9 := Option.some.inj h
    subst e9
    exact zk_iret rfl ⟨rfl, rfl⟩ dX9_count_53
  replace h := zneg g1_1 h
  by_cases g1_2 : a1 = 2
  · replace h := zpos g1_2 h
    refine zk_tableIn (tgt := 54) (off := 53) dX9_count_1 (by rw [g1_2]; decide) (by rw [g1_2]; decide) (by rw [g1_2]; rfl) rfl ?_
    refine zk_aload_n dX9_count_54 rfl rfl ?_
    refine zf_X9_244 rfl dX9_count_55 ?_
    have e9 := Option.some.inj h
    subst e9
    exact zk_iret rfl ⟨rfl, rfl⟩ dX9_count_58
  replace h := zneg g1_2 h
  by_cases g1_3 : a1 = 3
  · replace h := zpos g1_3 h
    refine zk_tableIn (tgt := 59) (off := 58) dX9_count_1 (by rw [g1_3]; decide) (by rw [g1_3]; decide) (by rw [g1_3]; rfl) rfl ?_
    refine zk_aload_n dX9_count_59 rfl rfl ?_
    refine zf_X9_33 rfl dX9_count_60 ?_
    have e9 := Option.some.inj h
    subst e9
    exact zk_iret rfl ⟨rfl, rfl⟩ dX9_count_63
  replace h := zneg g1_3 h
  by_cases g1_4 : a1 = 4
  · replace h := zpos g1_4 h
    refine zk_tableIn (tgt := 64) (off := 63) dX9_count_1 (by rw [g1_4]; decide) (by rw [g1_4]; decide) (by rw [g1_4]; rfl) rfl ?_
    refine zk_aload_n dX9_count_64 rfl rfl ?_
    refine zf_X9_274 rfl dX9_count_65 ?_
    have e9 := Option.some.inj h
    subst e9
    exact zk_iret rfl ⟨rfl, rfl⟩ dX9_count_68
  replace h := zneg g1_4 h
  by_cases g1_5 : a1 = 5
  · replace h := zpos g1_5 h
    refine zk_tableIn (tgt := 69) (off := 68) dX9_count_1 (by rw [g1_5]; decide) (by rw [g1_5]; decide) (by rw [g1_5]; rfl) rfl ?_
    refine zk_aload_n dX9_count_69 rfl rfl ?_
    refine zf_X9_286 rfl dX9_count_70 ?_
    have e9 := Option.some.inj h
    subst e9
    exact zk_iret rfl ⟨rfl, rfl⟩ dX9_count_73
  replace h := zneg g1_5 h
  by_cases g1_6 : a1 = 6
  · replace h := zpos g1_6 h
    refine zk_tableIn (tgt := 74) (off := 73) dX9_count_1 (by rw [g1_6]; decide) (by rw [g1_6]; decide) (by rw [g1_6]; rfl) rfl ?_
    refine zk_aload_n dX9_count_74 rfl rfl ?_
    refine zf_X9_289 rfl dX9_count_75 ?_
    have e9 := Option.some.inj h
    subst e9
    exact zk_iret rfl ⟨rfl, rfl⟩ dX9_count_78
  replace h := zneg g1_6 h
  refine zk_tableOut (tgt := 79) dX9_count_1 (zsw_s (k := 6) (zsw_s (k := 5) (zsw_s (k := 4) (zsw_s (k := 3) (zsw_s (k := 2) (zsw_s (k := 1) (zsw_s (k := 0) (zsw0 _) g1_0) g1_1) g1_2) g1_3) g1_4) g1_5) g1_6) rfl ?_
  refine zk_bipush (v := -2) dX9_count_79 (by decide) ?_
  have e9 := Option.some.inj h
  subst e9
  exact zk_iret rfl ⟨rfl, rfl⟩ dX9_count_81
def D_X9_isVoter (s : zS) (a1 : Int32) : Option Int32 :=
  (D_X9_in a1.toInt64 (0 : Int64) (((s.1 66 5) - (1 : Int32)).toInt64)).bind fun p10 =>
  zgd (p10 = 0 ∨ p10 = 1) <|
  some p10
set_option maxRecDepth 100000 in
theorem ok_X9_isVoter {l : Launch} {D : va_G} {ad : Nat → Nat} {cA : Nat → ClassId} (hj : zInj ad) (s : zS) (a1 : Int32) {r : Int32} (h : D_X9_isVoter s a1 = some r) : zMet l D ad cA jX9_isVoter [.ref 66, .int a1] s (some (.int r)) s := by
  refine zMet_of jX9_isVoter [some (.ref 66), some (.int a1)] (by decide +kernel) (Nat.le_of_ble_eq_true rfl) rfl hj ?_
  unfold D_X9_isVoter at h
  refine zk_iload_n dX9_isVoter_0 rfl rfl ?_
  refine zk_i2l dX9_isVoter_1 ?_
  refine zk_lconst (v := 0) dX9_isVoter_2 (by decide) ?_
  refine zk_aload_n dX9_isVoter_3 rfl rfl ?_
  refine zf_X9_215 rfl dX9_isVoter_4 ?_
  refine zk_iconst (v := 1) dX9_isVoter_7 (by decide) ?_
  refine zk_isub dX9_isVoter_8 ?_
  refine zk_i2l dX9_isVoter_9 ?_
  obtain ⟨p10, h10, h⟩ := zbind h
  refine zc_X9_92 [] (As := [.long _, .long _, .long _]) (ok_X9_in hj _ _ _ _ h10) rfl ⟨Nat.le_of_ble_eq_true rfl, Nat.le_of_ble_eq_true rfl⟩ ⟨Nat.le_refl _, Nat.le_refl _⟩ rfl rfl (Nat.le_of_ble_eq_true rfl) dX9_isVoter_10 ?_
  obtain ⟨hx13, h⟩ := zguard h
  have e9 := Option.some.inj h
  subst e9
  exact zk_zret rfl hx13 ⟨rfl, rfl⟩ dX9_isVoter_13
def D_X9_doesWin_J31 (rec4 : Int32 → Int32 → Option Int32) (s : zS) (a1 : Int32) (a3 : Int32) (k0 : Int32) (k1 : Int32) : Option Int32 :=
  rec4 (k0 + k1) (a3 + 1)
set_option maxRecDepth 100000 in
theorem ok_X9_doesWin_J31 {l : Launch} {D : va_G} {ad : Nat → Nat} {cA : Nat → ClassId} (hj : zInj ad) (r : Int32) (s : zS) (a1 : Int32) (a3 : Int32) (k0 : Int32) (k1 : Int32) (rec4 : Int32 → Int32 → Option Int32) (hr4 : ∀ (b2 : Int32) (b3 : Int32), rec4 b2 b3 = some r → zOk l D ad cA (zJm jX9_doesWin) (zEnd D ad cA (some (.int r)) s) 4 [some (.ref 66), some (.int a1), some (.int b2), some (.int b3)] [] s) (h : D_X9_doesWin_J31 rec4 s a1 a3 k0 k1 = some r) : zOk l D ad cA (zJm jX9_doesWin) (zEnd D ad cA (some (.int r)) s) 31 [some (.ref 66), some (.int a1), none, some (.int a3)] [.int k1, .int k0] s := by
  unfold D_X9_doesWin_J31 at h
  refine zk_iadd dX9_doesWin_31 ?_
  refine zk_istore_n (i := 2) dX9_doesWin_32 rfl (by decide) (zk_eq [_, _, _, _] rfl ?_)
  refine zk_iinc dX9_doesWin_33 rfl (zinc (m := 1) (by decide)) (by decide) (zk_eq [_, _, _, _] rfl ?_)
  refine zk_goto (tgt := 4) dX9_doesWin_36 rfl ?_
  exact hr4 _ _ h
def D_X9_doesWin_B4 (s : zS) (a1 : Int32) (rec4 : Int32 → Int32 → Option Int32) (a2 : Int32) (a3 : Int32) : Option Int32 :=
    if (s.1 66 5) ≤ a3 then (
      if a2 < (s.1 66 7) then (
        some (0 : Int32)
      ) else (
        some (1 : Int32)
      )
    ) else (
      (D_X9_has a1 a3).bind fun p15 =>
      if p15 = 0 then (
        D_X9_doesWin_J31 rec4 s a1 a3 a2 (0 : Int32)
      ) else (
        zgd (zin a3 8 = true) <|
        D_X9_doesWin_J31 rec4 s a1 a3 a2 (s.1 69 a3.toNatClampNeg)
      )
    )
def D_X9_doesWin_L4 (s : zS) (a1 : Int32) (n : Nat) (a2 : Int32) (a3 : Int32) : Option Int32 := zfx (fun (rec : Int32 × Int32 → Option Int32) q => D_X9_doesWin_B4 s a1 (fun v0 v1 => rec (v0, v1)) q.1 q.2) n (a2, a3)
set_option maxRecDepth 100000 in
theorem D_X9_doesWin_L4_s (s : zS) (a1 : Int32) (n : Nat) (a2 : Int32) (a3 : Int32) : D_X9_doesWin_L4 s a1 (n + 1) a2 a3 = D_X9_doesWin_B4 s a1 (D_X9_doesWin_L4 s a1 n) a2 a3 := rfl
set_option maxRecDepth 100000 in
theorem ok_X9_doesWin_L4 {l : Launch} {D : va_G} {ad : Nat → Nat} {cA : Nat → ClassId} (hj : zInj ad) (r : Int32) (s : zS) (a1 : Int32) : ∀ (n : Nat) (a2 : Int32) (a3 : Int32), D_X9_doesWin_L4 s a1 n a2 a3 = some r → zOk l D ad cA (zJm jX9_doesWin) (zEnd D ad cA (some (.int r)) s) 4 [some (.ref 66), some (.int a1), some (.int a2), some (.int a3)] [] s := by
  intro n
  induction n with
  | zero =>
    intro a2 a3 h
    have h0 : (none : Option Int32) = some r := h
    cases h0
  | succ n hr4 =>
    intro a2 a3 h
    have h : D_X9_doesWin_B4 s a1 (D_X9_doesWin_L4 s a1 n) a2 a3 = some r := h
    unfold D_X9_doesWin_B4 at h
    refine zk_iload_n dX9_doesWin_4 rfl rfl ?_
    refine zk_aload_n dX9_doesWin_5 rfl rfl ?_
    refine zf_X9_215 rfl dX9_doesWin_6 ?_
    refine zk_icmp_ge (tgt := 39) dX9_doesWin_9 rfl (fun g9 => ?_) (fun g9 => ?_)
    · replace h := zpos g9 h
      refine zk_iload_n dX9_doesWin_39 rfl rfl ?_
      refine zk_aload_n dX9_doesWin_40 rfl rfl ?_
      refine zf_X9_27 rfl dX9_doesWin_41 ?_
      refine zk_icmp_lt (tgt := 51) dX9_doesWin_44 rfl (fun g44 => ?_) (fun g44 => ?_)
      · replace h := zpos g44 h
        refine zk_iconst (v := 0) dX9_doesWin_51 (by decide) ?_
        have e9 := Option.some.inj h
        subst e9
        exact zk_zret rfl (Or.inl rfl) ⟨rfl, rfl⟩ dX9_doesWin_52
      · replace h := zneg g44 h
        refine zk_iconst (v := 1) dX9_doesWin_47 (by decide) ?_
        refine zk_goto (tgt := 52) dX9_doesWin_48 rfl ?_
        have e9 := Option.some.inj h
        subst e9
        exact zk_zret rfl (Or.inr rfl) ⟨rfl, rfl⟩ dX9_doesWin_52
    · replace h := zneg g9 h
      refine zk_iload_n dX9_doesWin_12 rfl rfl ?_
      refine zk_iload_n dX9_doesWin_13 rfl rfl ?_
      refine zk_iload_n dX9_doesWin_14 rfl rfl ?_
      obtain ⟨p15, h15, h⟩ := zbind h
      refine zc_X9_121 [.int _] (As := [.int _, .int _]) (ok_X9_has hj _ _ _ h15) rfl ⟨Nat.le_of_ble_eq_true rfl, Nat.le_of_ble_eq_true rfl⟩ ⟨Nat.le_refl _, Nat.le_refl _⟩ rfl rfl (Nat.le_of_ble_eq_true rfl) dX9_doesWin_15 ?_
      refine zk_if_eq (tgt := 30) dX9_doesWin_18 rfl (fun g18 => ?_) (fun g18 => ?_)
      · replace h := zpos g18 h
        refine zk_iconst (v := 0) dX9_doesWin_30 (by decide) ?_
        refine zk_mask [true, true, false, true] ?_
        exact ok_X9_doesWin_J31 hj r _ _ _ _ _ _ hr4 h
      · replace h := zneg g18 h
        refine zk_aload_n dX9_doesWin_21 rfl rfl ?_
        refine zf_X9_24 rfl dX9_doesWin_22 ?_
        refine zk_iload_n dX9_doesWin_25 rfl rfl ?_
        obtain ⟨g26, h⟩ := zguard h
        refine zk_iald (zoI_of rfl g26) dX9_doesWin_26 ?_
        refine zk_goto (tgt := 31) dX9_doesWin_27 rfl ?_
        refine zk_mask [true, true, false, true] ?_
        exact ok_X9_doesWin_J31 hj r _ _ _ _ _ _ hr4 h
def D_X9_doesWin (s : zS) (a1 : Int32) : Option Int32 :=
  D_X9_doesWin_L4 s a1 zFU (0 : Int32) (0 : Int32)
set_option maxRecDepth 100000 in
theorem ok_X9_doesWin {l : Launch} {D : va_G} {ad : Nat → Nat} {cA : Nat → ClassId} (hj : zInj ad) (s : zS) (a1 : Int32) {r : Int32} (h : D_X9_doesWin s a1 = some r) : zMet l D ad cA jX9_doesWin [.ref 66, .int a1] s (some (.int r)) s := by
  refine zMet_of jX9_doesWin [some (.ref 66), some (.int a1), none, none] (by decide +kernel) (Nat.le_of_ble_eq_true rfl) rfl hj ?_
  unfold D_X9_doesWin at h
  refine zk_iconst (v := 0) dX9_doesWin_0 (by decide) ?_
  refine zk_istore_n (i := 2) dX9_doesWin_1 rfl (by decide) (zk_eq [_, _, _, _] rfl ?_)
  refine zk_iconst (v := 0) dX9_doesWin_2 (by decide) ?_
  refine zk_istore_n (i := 3) dX9_doesWin_3 rfl (by decide) (zk_eq [_, _, _, _] rfl ?_)
  exact ok_X9_doesWin_L4 hj r _ _ _ _ _ h
def D_X9_isLeast_J46 (rec8 : Int32 → Int32 → Option Int32) (s : zS) (a1 : Int32) (a3 : Int32) : Option Int32 :=
  rec8 (0 : Int32) (a3 + 1)
set_option maxRecDepth 100000 in
theorem ok_X9_isLeast_J46 {l : Launch} {D : va_G} {ad : Nat → Nat} {cA : Nat → ClassId} (hj : zInj ad) (r : Int32) (s : zS) (a1 : Int32) (a3 : Int32) (rec8 : Int32 → Int32 → Option Int32) (hr8 : ∀ (b2 : Int32) (b3 : Int32), rec8 b2 b3 = some r → zOk l D ad cA (zJm jX9_isLeast) (zEnd D ad cA (some (.int r)) s) 8 [some (.ref 66), some (.int a1), some (.int b2), some (.int b3)] [] s) (h : D_X9_isLeast_J46 rec8 s a1 a3 = some r) : zOk l D ad cA (zJm jX9_isLeast) (zEnd D ad cA (some (.int r)) s) 46 [some (.ref 66), some (.int a1), none, some (.int a3)] [] s := by
  unfold D_X9_isLeast_J46 at h
  refine zk_iconst (v := 0) dX9_isLeast_46 (by decide) ?_
  refine zk_istore_n (i := 2) dX9_isLeast_47 rfl (by decide) (zk_eq [_, _, _, _] rfl ?_)
  refine zk_iinc dX9_isLeast_48 rfl (zinc (m := 1) (by decide)) (by decide) (zk_eq [_, _, _, _] rfl ?_)
  refine zk_goto (tgt := 8) dX9_isLeast_51 rfl ?_
  exact hr8 _ _ h
def D_X9_isLeast_J42 (rec8 : Int32 → Int32 → Option Int32) (s : zS) (a1 : Int32) (a3 : Int32) : Option Int32 :=
  rec8 (1 : Int32) (a3 + 1)
set_option maxRecDepth 100000 in
theorem ok_X9_isLeast_J42 {l : Launch} {D : va_G} {ad : Nat → Nat} {cA : Nat → ClassId} (hj : zInj ad) (r : Int32) (s : zS) (a1 : Int32) (a3 : Int32) (rec8 : Int32 → Int32 → Option Int32) (hr8 : ∀ (b2 : Int32) (b3 : Int32), rec8 b2 b3 = some r → zOk l D ad cA (zJm jX9_isLeast) (zEnd D ad cA (some (.int r)) s) 8 [some (.ref 66), some (.int a1), some (.int b2), some (.int b3)] [] s) (h : D_X9_isLeast_J42 rec8 s a1 a3 = some r) : zOk l D ad cA (zJm jX9_isLeast) (zEnd D ad cA (some (.int r)) s) 42 [some (.ref 66), some (.int a1), none, some (.int a3)] [] s := by
  unfold D_X9_isLeast_J42 at h
  refine zk_iconst (v := 1) dX9_isLeast_42 (by decide) ?_
  refine zk_goto (tgt := 47) dX9_isLeast_43 rfl ?_
  refine zk_istore_n (i := 2) dX9_isLeast_47 rfl (by decide) (zk_eq [_, _, _, _] rfl ?_)
  refine zk_iinc dX9_isLeast_48 rfl (zinc (m := 1) (by decide)) (by decide) (zk_eq [_, _, _, _] rfl ?_)
  refine zk_goto (tgt := 8) dX9_isLeast_51 rfl ?_
  exact hr8 _ _ h
def D_X9_isLeast_B8 (s : zS) (a1 : Int32) (rec8 : Int32 → Int32 → Option Int32) (a2 : Int32) (a3 : Int32) : Option Int32 :=
    if (s.1 66 5) ≤ a3 then (
      zgd (a2 = 0 ∨ a2 = 1) <|
      some a2
    ) else (
      if a2 = 0 then (
        D_X9_isLeast_J46 rec8 s a1 a3
      ) else (
        (D_X9_has a1 a3).bind fun p22 =>
        if p22 = 0 then (
          D_X9_isLeast_J42 rec8 s a1 a3
        ) else (
          (D_X9_doesWin s (a1 &&& (((1 : Int32) <<< (a3 &&& 31)) ^^^ (-1 : Int32)))).bind fun p36 =>
          if p36 = 0 then (
            D_X9_isLeast_J42 rec8 s a1 a3
          ) else (
            D_X9_isLeast_J46 rec8 s a1 a3
          )
        )
      )
    )
def D_X9_isLeast_L8 (s : zS) (a1 : Int32) (n : Nat) (a2 : Int32) (a3 : Int32) : Option Int32 := zfx (fun (rec : Int32 × Int32 → Option Int32) q => D_X9_isLeast_B8 s a1 (fun v0 v1 => rec (v0, v1)) q.1 q.2) n (a2, a3)
set_option maxRecDepth 100000 in
theorem D_X9_isLeast_L8_s (s : zS) (a1 : Int32) (n : Nat) (a2 : Int32) (a3 : Int32) : D_X9_isLeast_L8 s a1 (n + 1) a2 a3 = D_X9_isLeast_B8 s a1 (D_X9_isLeast_L8 s a1 n) a2 a3 := rfl
set_option maxRecDepth 100000 in
theorem ok_X9_isLeast_L8 {l : Launch} {D : va_G} {ad : Nat → Nat} {cA : Nat → ClassId} (hj : zInj ad) (r : Int32) (s : zS) (a1 : Int32) : ∀ (n : Nat) (a2 : Int32) (a3 : Int32), D_X9_isLeast_L8 s a1 n a2 a3 = some r → zOk l D ad cA (zJm jX9_isLeast) (zEnd D ad cA (some (.int r)) s) 8 [some (.ref 66), some (.int a1), some (.int a2), some (.int a3)] [] s := by
  intro n
  induction n with
  | zero =>
    intro a2 a3 h
    have h0 : (none : Option Int32) = some r := h
    cases h0
  | succ n hr8 =>
    intro a2 a3 h
    have h : D_X9_isLeast_B8 s a1 (D_X9_isLeast_L8 s a1 n) a2 a3 = some r := h
    unfold D_X9_isLeast_B8 at h
    refine zk_iload_n dX9_isLeast_8 rfl rfl ?_
    refine zk_aload_n dX9_isLeast_9 rfl rfl ?_
    refine zf_X9_215 rfl dX9_isLeast_10 ?_
    refine zk_icmp_ge (tgt := 54) dX9_isLeast_13 rfl (fun g13 => ?_) (fun g13 => ?_)
    · replace h := zpos g13 h
      refine zk_iload_n dX9_isLeast_54 rfl rfl ?_
      obtain ⟨hx55, h⟩ := zguard h
      have e9 := Option.some.inj h
      subst e9
      exact zk_zret rfl hx55 ⟨rfl, rfl⟩ dX9_isLeast_55
    · replace h := zneg g13 h
      refine zk_iload_n dX9_isLeast_16 rfl rfl ?_
      refine zk_if_eq (tgt := 46) dX9_isLeast_17 rfl (fun g17 => ?_) (fun g17 => ?_)
      · replace h := zpos g17 h
        refine zk_mask [true, true, false, true] ?_
        exact ok_X9_isLeast_J46 hj r _ _ _ _ hr8 h
      · replace h := zneg g17 h
        refine zk_iload_n dX9_isLeast_20 rfl rfl ?_
        refine zk_iload_n dX9_isLeast_21 rfl rfl ?_
        obtain ⟨p22, h22, h⟩ := zbind h
        refine zc_X9_121 [] (As := [.int _, .int _]) (ok_X9_has hj _ _ _ h22) rfl ⟨Nat.le_of_ble_eq_true rfl, Nat.le_of_ble_eq_true rfl⟩ ⟨Nat.le_refl _, Nat.le_refl _⟩ rfl rfl (Nat.le_of_ble_eq_true rfl) dX9_isLeast_22 ?_
        refine zk_if_eq (tgt := 42) dX9_isLeast_25 rfl (fun g25 => ?_) (fun g25 => ?_)
        · replace h := zpos g25 h
          refine zk_mask [true, true, false, true] ?_
          exact ok_X9_isLeast_J42 hj r _ _ _ _ hr8 h
        · replace h := zneg g25 h
          refine zk_aload_n dX9_isLeast_28 rfl rfl ?_
          refine zk_iload_n dX9_isLeast_29 rfl rfl ?_
          refine zk_iconst (v := 1) dX9_isLeast_30 (by decide) ?_
          refine zk_iload_n dX9_isLeast_31 rfl rfl ?_
          refine zk_ishl dX9_isLeast_32 ?_
          refine zk_iconst (v := -1) dX9_isLeast_33 (by decide) ?_
          refine zk_ixor dX9_isLeast_34 ?_
          refine zk_iand dX9_isLeast_35 ?_
          obtain ⟨p36, h36, h⟩ := zbind h
          refine zc_X9_226 [] (As := [.int _]) (ok_X9_doesWin hj _ _ h36) rfl ⟨Nat.le_of_ble_eq_true rfl, Nat.le_of_ble_eq_true rfl⟩ ⟨Nat.le_refl _, Nat.le_refl _⟩ rfl rfl (Nat.le_of_ble_eq_true rfl) dX9_isLeast_36 ?_
          refine zk_if_ne (tgt := 46) dX9_isLeast_39 rfl (fun g39 => ?_) (fun g39 => ?_)
          · replace h := zneg g39 h
            refine zk_mask [true, true, false, true] ?_
            exact ok_X9_isLeast_J46 hj r _ _ _ _ hr8 h
          · replace h := zpos g39 h
            refine zk_mask [true, true, false, true] ?_
            exact ok_X9_isLeast_J42 hj r _ _ _ _ hr8 h
def D_X9_isLeast (s : zS) (a1 : Int32) : Option Int32 :=
  (D_X9_doesWin s a1).bind fun p2 =>
  D_X9_isLeast_L8 s a1 zFU p2 (0 : Int32)
set_option maxRecDepth 100000 in
theorem ok_X9_isLeast {l : Launch} {D : va_G} {ad : Nat → Nat} {cA : Nat → ClassId} (hj : zInj ad) (s : zS) (a1 : Int32) {r : Int32} (h : D_X9_isLeast s a1 = some r) : zMet l D ad cA jX9_isLeast [.ref 66, .int a1] s (some (.int r)) s := by
  refine zMet_of jX9_isLeast [some (.ref 66), some (.int a1), none, none] (by decide +kernel) (Nat.le_of_ble_eq_true rfl) rfl hj ?_
  unfold D_X9_isLeast at h
  refine zk_aload_n dX9_isLeast_0 rfl rfl ?_
  refine zk_iload_n dX9_isLeast_1 rfl rfl ?_
  obtain ⟨p2, h2, h⟩ := zbind h
  refine zc_X9_226 [] (As := [.int _]) (ok_X9_doesWin hj _ _ h2) rfl ⟨Nat.le_of_ble_eq_true rfl, Nat.le_of_ble_eq_true rfl⟩ ⟨Nat.le_refl _, Nat.le_refl _⟩ rfl rfl (Nat.le_of_ble_eq_true rfl) dX9_isLeast_2 ?_
  refine zk_istore_n (i := 2) dX9_isLeast_5 rfl (by decide) (zk_eq [_, _, _, _] rfl ?_)
  refine zk_iconst (v := 0) dX9_isLeast_6 (by decide) ?_
  refine zk_istore_n (i := 3) dX9_isLeast_7 rfl (by decide) (zk_eq [_, _, _, _] rfl ?_)
  exact ok_X9_isLeast_L8 hj r _ _ _ _ _ h
def D_X9_deegan_J64 (rec19 : Int64 → Int32 → Int32 → Option (Int32 × zS)) (s : zS) (a1 : Int32) (a4 : Int32) (a5 : Int32) (k0 : Int64) (k1 : Int64) : Option (Int32 × zS) :=
  rec19 (k0 + k1) a4 (a5 + 1)
set_option maxRecDepth 100000 in
theorem ok_X9_deegan_J64 {l : Launch} {D : va_G} {ad : Nat → Nat} {cA : Nat → ClassId} (hj : zInj ad) (r : (Int32 × zS)) (s : zS) (a1 : Int32) (a4 : Int32) (a5 : Int32) (k0 : Int64) (k1 : Int64) (rec19 : Int64 → Int32 → Int32 → Option (Int32 × zS)) (hr19 : ∀ (b2 : Int64) (b4 : Int32) (b5 : Int32), rec19 b2 b4 b5 = some r → zOk l D ad cA (zJm jX9_deegan) (zEnd D ad cA (some (.int r.1)) r.2) 19 [some (.ref 66), some (.int a1), some (.long b2), none, some (.int b4), some (.int b5)] [] s) (h : D_X9_deegan_J64 rec19 s a1 a4 a5 k0 k1 = some r) : zOk l D ad cA (zJm jX9_deegan) (zEnd D ad cA (some (.int r.1)) r.2) 64 [some (.ref 66), some (.int a1), none, none, some (.int a4), some (.int a5)] [.long k1, .long k0] s := by
  unfold D_X9_deegan_J64 at h
  refine zk_ladd dX9_deegan_64 ?_
  refine zk_lstore_n (i := 2) dX9_deegan_65 rfl (by decide) (zk_eq [_, _, _, _, _, _] rfl ?_)
  refine zk_iinc dX9_deegan_66 rfl (zinc (m := 1) (by decide)) (by decide) (zk_eq [_, _, _, _, _, _] rfl ?_)
  refine zk_goto (tgt := 19) dX9_deegan_69 rfl ?_
  exact hr19 _ _ _ h
def D_X9_deegan_B19 (s : zS) (a1 : Int32) (rec19 : Int64 → Int32 → Int32 → Option (Int32 × zS)) (a2 : Int64) (a4 : Int32) (a5 : Int32) : Option (Int32 × zS) :=
    (D_X9_allVoters s).bind fun p22 =>
    if p22 < a5 then (
      if a4 = 0 then (
        some ((0 : Int32), s)
      ) else (
        (D_X9_fraction s a2 ((840 : Int64) * a4.toInt64)).bind fun p90 =>
        some (p90.1, p90.2)
      )
    ) else (
      (D_X9_isLeast s a5).bind fun p31 =>
      if p31 = 0 then (
        rec19 a2 a4 (a5 + 1)
      ) else (
        (D_X9_has a5 a1).bind fun p44 =>
        if p44 = 0 then (
          D_X9_deegan_J64 rec19 s a1 (a4 + 1) a5 a2 (0 : Int64)
        ) else (
          (D_X9_bits a5).bind fun p55 =>
          if p55 = 0 then none else
          D_X9_deegan_J64 rec19 s a1 (a4 + 1) a5 a2 (((840 : Int32) / p55).toInt64)
        )
      )
    )
def D_X9_deegan_L19 (s : zS) (a1 : Int32) (n : Nat) (a2 : Int64) (a4 : Int32) (a5 : Int32) : Option (Int32 × zS) := zfx (fun (rec : Int64 × Int32 × Int32 → Option (Int32 × zS)) q => D_X9_deegan_B19 s a1 (fun v0 v1 v2 => rec (v0, v1, v2)) q.1 q.2.1 q.2.2) n (a2, a4, a5)
set_option maxRecDepth 100000 in
theorem D_X9_deegan_L19_s (s : zS) (a1 : Int32) (n : Nat) (a2 : Int64) (a4 : Int32) (a5 : Int32) : D_X9_deegan_L19 s a1 (n + 1) a2 a4 a5 = D_X9_deegan_B19 s a1 (D_X9_deegan_L19 s a1 n) a2 a4 a5 := rfl
set_option maxRecDepth 100000 in
theorem ok_X9_deegan_L19 {l : Launch} {D : va_G} {ad : Nat → Nat} {cA : Nat → ClassId} (hj : zInj ad) (r : (Int32 × zS)) (s : zS) (a1 : Int32) : ∀ (n : Nat) (a2 : Int64) (a4 : Int32) (a5 : Int32), D_X9_deegan_L19 s a1 n a2 a4 a5 = some r → zOk l D ad cA (zJm jX9_deegan) (zEnd D ad cA (some (.int r.1)) r.2) 19 [some (.ref 66), some (.int a1), some (.long a2), none, some (.int a4), some (.int a5)] [] s := by
  intro n
  induction n with
  | zero =>
    intro a2 a4 a5 h
    have h0 : (none : Option (Int32 × zS)) = some r := h
    cases h0
  | succ n hr19 =>
    intro a2 a4 a5 h
    have h : D_X9_deegan_B19 s a1 (D_X9_deegan_L19 s a1 n) a2 a4 a5 = some r := h
    unfold D_X9_deegan_B19 at h
    refine zk_iload dX9_deegan_19 rfl ?_
    refine zk_aload_n dX9_deegan_21 rfl rfl ?_
    obtain ⟨p22, h22, h⟩ := zbind h
    refine zc_X9_223 [.int _] (As := []) (ok_X9_allVoters hj _ h22) rfl ⟨Nat.le_of_ble_eq_true rfl, Nat.le_of_ble_eq_true rfl⟩ ⟨Nat.le_refl _, Nat.le_refl _⟩ rfl rfl (Nat.le_of_ble_eq_true rfl) dX9_deegan_22 ?_
    refine zk_icmp_gt (tgt := 72) dX9_deegan_25 rfl (fun g25 => ?_) (fun g25 => ?_)
    · replace h := zpos g25 h
      refine zk_iload dX9_deegan_72 rfl ?_
      refine zk_if_ne (tgt := 81) dX9_deegan_74 rfl (fun g74 => ?_) (fun g74 => ?_)
      · replace h := zneg g74 h
        refine zk_aload_n dX9_deegan_81 rfl rfl ?_
        refine zk_lload_n dX9_deegan_82 rfl rfl ?_
        refine zk_ldc2 dX9_deegan_83 zw_X9_234 ?_
        refine zk_iload dX9_deegan_86 rfl ?_
        refine zk_i2l dX9_deegan_88 ?_
        refine zk_lmul dX9_deegan_89 ?_
        obtain ⟨p90, h90, h⟩ := zbind h
        refine zc_X9_128 [] (As := [.long _, .long _]) (ok_X9_fraction hj _ _ _ h90) rfl ⟨Nat.le_of_ble_eq_true rfl, Nat.le_of_ble_eq_true rfl⟩ ⟨Nat.le_refl _, Nat.le_refl _⟩ rfl rfl (Nat.le_of_ble_eq_true rfl) dX9_deegan_90 ?_
        have e9 := Option.some.inj h
        subst e9
        exact zk_iret rfl ⟨rfl, rfl⟩ dX9_deegan_93
      · replace h := zpos g74 h
        refine zk_iconst (v := 0) dX9_deegan_77 (by decide) ?_
        refine zk_goto (tgt := 93) dX9_deegan_78 rfl ?_
        have e9 := Option.some.inj h
        subst e9
        exact zk_iret rfl ⟨rfl, rfl⟩ dX9_deegan_93
    · replace h := zneg g25 h
      refine zk_aload_n dX9_deegan_28 rfl rfl ?_
      refine zk_iload dX9_deegan_29 rfl ?_
      obtain ⟨p31, h31, h⟩ := zbind h
      refine zc_X9_229 [] (As := [.int _]) (ok_X9_isLeast hj _ _ h31) rfl ⟨Nat.le_of_ble_eq_true rfl, Nat.le_of_ble_eq_true rfl⟩ ⟨Nat.le_refl _, Nat.le_refl _⟩ rfl rfl (Nat.le_of_ble_eq_true rfl) dX9_deegan_31 ?_
      refine zk_if_eq (tgt := 66) dX9_deegan_34 rfl (fun g34 => ?_) (fun g34 => ?_)
      · replace h := zpos g34 h
        refine zk_iinc dX9_deegan_66 rfl (zinc (m := 1) (by decide)) (by decide) (zk_eq [_, _, _, _, _, _] rfl ?_)
        refine zk_goto (tgt := 19) dX9_deegan_69 rfl ?_
        exact hr19 _ _ _ h
      · replace h := zneg g34 h
        refine zk_iinc dX9_deegan_37 rfl (zinc (m := 1) (by decide)) (by decide) (zk_eq [_, _, _, _, _, _] rfl ?_)
        refine zk_lload_n dX9_deegan_40 rfl rfl ?_
        refine zk_iload dX9_deegan_41 rfl ?_
        refine zk_iload_n dX9_deegan_43 rfl rfl ?_
        obtain ⟨p44, h44, h⟩ := zbind h
        refine zc_X9_121 [.long _] (As := [.int _, .int _]) (ok_X9_has hj _ _ _ h44) rfl ⟨Nat.le_of_ble_eq_true rfl, Nat.le_of_ble_eq_true rfl⟩ ⟨Nat.le_refl _, Nat.le_refl _⟩ rfl rfl (Nat.le_of_ble_eq_true rfl) dX9_deegan_44 ?_
        refine zk_if_eq (tgt := 63) dX9_deegan_47 rfl (fun g47 => ?_) (fun g47 => ?_)
        · replace h := zpos g47 h
          refine zk_lconst (v := 0) dX9_deegan_63 (by decide) ?_
          refine zk_mask [true, true, false, false, true, true] ?_
          exact ok_X9_deegan_J64 hj r _ _ _ _ _ _ _ hr19 h
        · replace h := zneg g47 h
          refine zk_sipush (v := 840) dX9_deegan_50 (by decide) ?_
          refine zk_iload dX9_deegan_53 rfl ?_
          obtain ⟨p55, h55, h⟩ := zbind h
          refine zc_X9_114 [.int _, .long _] (As := [.int _]) (ok_X9_bits hj _ _ h55) rfl ⟨Nat.le_of_ble_eq_true rfl, Nat.le_of_ble_eq_true rfl⟩ ⟨Nat.le_refl _, Nat.le_refl _⟩ rfl rfl (Nat.le_of_ble_eq_true rfl) dX9_deegan_55 ?_
          obtain ⟨g58, h⟩ := zguardn h
          refine zk_idiv dX9_deegan_58 g58 ?_
          refine zk_i2l dX9_deegan_59 ?_
          refine zk_goto (tgt := 64) dX9_deegan_60 rfl ?_
          refine zk_mask [true, true, false, false, true, true] ?_
          exact ok_X9_deegan_J64 hj r _ _ _ _ _ _ _ hr19 h
def D_X9_deegan (s : zS) (a1 : Int32) : Option (Int32 × zS) :=
  (D_X9_isVoter s a1).bind fun p2 =>
  if p2 = 0 then (
    some ((-2 : Int32), s)
  ) else (
    D_X9_deegan_L19 s a1 zFU (0 : Int64) (0 : Int32) (0 : Int32)
  )
set_option maxRecDepth 100000 in
theorem ok_X9_deegan {l : Launch} {D : va_G} {ad : Nat → Nat} {cA : Nat → ClassId} (hj : zInj ad) (s : zS) (a1 : Int32) {r : (Int32 × zS)} (h : D_X9_deegan s a1 = some r) : zMet l D ad cA jX9_deegan [.ref 66, .int a1] s (some (.int r.1)) r.2 := by
  refine zMet_of jX9_deegan [some (.ref 66), some (.int a1), none, none, none, none] (by decide +kernel) (Nat.le_of_ble_eq_true rfl) rfl hj ?_
  unfold D_X9_deegan at h
  refine zk_aload_n dX9_deegan_0 rfl rfl ?_
  refine zk_iload_n dX9_deegan_1 rfl rfl ?_
  obtain ⟨p2, h2, h⟩ := zbind h
  refine zc_X9_218 [] (As := [.int _]) (ok_X9_isVoter hj _ _ h2) rfl ⟨Nat.le_of_ble_eq_true rfl, Nat.le_of_ble_eq_true rfl⟩ ⟨Nat.le_refl _, Nat.le_refl _⟩ rfl rfl (Nat.le_of_ble_eq_true rfl) dX9_deegan_2 ?_
  refine zk_if_ne (tgt := 11) dX9_deegan_5 rfl (fun g5 => ?_) (fun g5 => ?_)
  · replace h := zneg g5 h
    refine zk_lconst (v := 0) dX9_deegan_11 (by decide) ?_
    refine zk_lstore_n (i := 2) dX9_deegan_12 rfl (by decide) (zk_eq [_, _, _, _, _, _] rfl ?_)
    refine zk_iconst (v := 0) dX9_deegan_13 (by decide) ?_
    refine zk_istore (i := 4) dX9_deegan_14 (by decide) (zk_eq [_, _, _, _, _, _] rfl ?_)
    refine zk_iconst (v := 0) dX9_deegan_16 (by decide) ?_
    refine zk_istore (i := 5) dX9_deegan_17 (by decide) (zk_eq [_, _, _, _, _, _] rfl ?_)
    exact ok_X9_deegan_L19 hj r _ _ _ _ _ _ h
  · replace h := zpos g5 h
    refine zk_bipush (v := -2) dX9_deegan_8 (by decide) ?_
    have e9 := Option.some.inj h
    subst e9
    exact zk_iret rfl ⟨rfl, rfl⟩ dX9_deegan_10
