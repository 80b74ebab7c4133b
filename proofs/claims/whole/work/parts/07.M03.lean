def D_X9_isFree_B237 (rec79 : Int32 → Int32 → zS → Option (Int32 × zS)) (rec200 : Int32 → zS → Option (Int32 × zS)) (a2 : Int32) (a3 : Int32) (a5 : Int32) (a6 : Int64) (a8 : Int64) (rec237 : Int32 → zS → Option (Int32 × zS)) (a10 : Int32) (s : zS) : Option (Int32 × zS) :=
    if (4 : Int32) ≤ a10 then (
      rec200 (a5 + 1) s
    ) else (
      zgd (zin (((4 : Int32) * a5) + a10) 20 = true) <|
      zgd (zin (((4 : Int32) * a2) + a10) 20 = true) <|
      zgd (zin (((4 : Int32) * a5) + a10) 20 = true) <|
      let s284 : zS := zwL s 82 (((4 : Int32) * a5) + a10).toNatClampNeg (((s.2 82 (((4 : Int32) * a5) + a10).toNatClampNeg) * a8) - ((s.2 82 (((4 : Int32) * a2) + a10).toNatClampNeg) * a6))
      rec237 (a10 + 1) s284
    )
def D_X9_isFree_L237 (rec79 : Int32 → Int32 → zS → Option (Int32 × zS)) (rec200 : Int32 → zS → Option (Int32 × zS)) (a2 : Int32) (a3 : Int32) (a5 : Int32) (a6 : Int64) (a8 : Int64) (n : Nat) (a10 : Int32) (s : zS) : Option (Int32 × zS) := zfx (fun (rec : Int32 × zS → Option (Int32 × zS)) q => D_X9_isFree_B237 rec79 rec200 a2 a3 a5 a6 a8 (fun v0 v1 => rec (v0, v1)) q.1 q.2) n (a10, s)
set_option maxRecDepth 100000 in
theorem D_X9_isFree_L237_s (rec79 : Int32 → Int32 → zS → Option (Int32 × zS)) (rec200 : Int32 → zS → Option (Int32 × zS)) (a2 : Int32) (a3 : Int32) (a5 : Int32) (a6 : Int64) (a8 : Int64) (n : Nat) (a10 : Int32) (s : zS) : D_X9_isFree_L237 rec79 rec200 a2 a3 a5 a6 a8 (n + 1) a10 s = D_X9_isFree_B237 rec79 rec200 a2 a3 a5 a6 a8 (D_X9_isFree_L237 rec79 rec200 a2 a3 a5 a6 a8 n) a10 s := rfl
set_option maxRecDepth 100000 in
theorem ok_X9_isFree_L237 {l : Launch} {D : va_G} {ad : Nat → Nat} {cA : Nat → ClassId} (hj : zInj ad) (r : (Int32 × zS)) (a2 : Int32) (a3 : Int32) (a5 : Int32) (a6 : Int64) (a8 : Int64) (rec79 : Int32 → Int32 → zS → Option (Int32 × zS)) (hr79 : ∀ (b2 : Int32) (b3 : Int32) (s : zS), rec79 b2 b3 s = some r → zOk l D ad cA (zJm jX9_isFree) (zEnd D ad cA (some (.int r.1)) r.2) 79 [some (.ref 66), none, some (.int b2), some (.int b3), none, none, none, none, none, none, none] [] s) (rec200 : Int32 → zS → Option (Int32 × zS)) (hr200 : ∀ (b5 : Int32) (s : zS), rec200 b5 s = some r → zOk l D ad cA (zJm jX9_isFree) (zEnd D ad cA (some (.int r.1)) r.2) 200 [some (.ref 66), none, some (.int a2), some (.int a3), none, some (.int b5), none, none, none, none, none] [] s) : ∀ (n : Nat) (a10 : Int32) (s : zS), D_X9_isFree_L237 rec79 rec200 a2 a3 a5 a6 a8 n a10 s = some r → zOk l D ad cA (zJm jX9_isFree) (zEnd D ad cA (some (.int r.1)) r.2) 237 [some (.ref 66), none, some (.int a2), some (.int a3), none, some (.int a5), some (.long a6), none, some (.long a8), none, some (.int a10)] [] s := by
  intro n
  induction n with
  | zero =>
    intro a10 s h
    have h0 : (none : Option (Int32 × zS)) = some r := h
    cases h0
  | succ n hr237 =>
    intro a10 s h
    have h : D_X9_isFree_B237 rec79 rec200 a2 a3 a5 a6 a8 (D_X9_isFree_L237 rec79 rec200 a2 a3 a5 a6 a8 n) a10 s = some r := h
    unfold D_X9_isFree_B237 at h
    refine zk_iload dX9_isFree_237 rfl ?_
    refine zk_iconst (v := 4) dX9_isFree_239 (by decide) ?_
    refine zk_icmp_ge (tgt := 291) dX9_isFree_240 rfl (fun g240 => ?_) (fun g240 => ?_)
    · replace h := zpos g240 h
      refine zk_iinc dX9_isFree_291 rfl (zinc (m := 1) (by decide)) (by decide) (zk_eq [_, _, _, _, _, _, _, _, _, _, _] rfl ?_)
      refine zk_goto (tgt := 200) dX9_isFree_294 rfl ?_
      refine zk_mask [true, false, true, true, false, true, false, false, false, false, false] ?_
      exact hr200 _ _ h
    · replace h := zneg g240 h
      refine zk_aload_n dX9_isFree_243 rfl rfl ?_
      refine zf_X9_70 rfl dX9_isFree_244 ?_
      refine zk_iconst (v := 4) dX9_isFree_247 (by decide) ?_
      refine zk_iload dX9_isFree_248 rfl ?_
      refine zk_imul dX9_isFree_250 ?_
      refine zk_iload dX9_isFree_251 rfl ?_
      refine zk_iadd dX9_isFree_253 ?_
      refine zk_aload_n dX9_isFree_254 rfl rfl ?_
      refine zf_X9_70 rfl dX9_isFree_255 ?_
      refine zk_iconst (v := 4) dX9_isFree_258 (by decide) ?_
      refine zk_iload dX9_isFree_259 rfl ?_
      refine zk_imul dX9_isFree_261 ?_
      refine zk_iload dX9_isFree_262 rfl ?_
      refine zk_iadd dX9_isFree_264 ?_
      obtain ⟨g265, h⟩ := zguard h
      refine zk_lald (zoL_of rfl g265) dX9_isFree_265 ?_
      refine zk_lload dX9_isFree_266 rfl ?_
      refine zk_lmul dX9_isFree_268 ?_
      refine zk_aload_n dX9_isFree_269 rfl rfl ?_
      refine zf_X9_70 rfl dX9_isFree_270 ?_
      refine zk_iconst (v := 4) dX9_isFree_273 (by decide) ?_
      refine zk_iload_n dX9_isFree_274 rfl rfl ?_
      refine zk_imul dX9_isFree_275 ?_
      refine zk_iload dX9_isFree_276 rfl ?_
      refine zk_iadd dX9_isFree_278 ?_
      obtain ⟨g279, h⟩ := zguard h
      refine zk_lald (zoL_of rfl g279) dX9_isFree_279 ?_
      refine zk_lload dX9_isFree_280 rfl ?_
      refine zk_lmul dX9_isFree_282 ?_
      refine zk_lsub dX9_isFree_283 ?_
      obtain ⟨g284, h⟩ := zguard h
      refine zk_last (zoL_of rfl g284) dX9_isFree_284 ?_
      refine zk_iinc dX9_isFree_285 rfl (zinc (m := 1) (by decide)) (by decide) (zk_eq [_, _, _, _, _, _, _, _, _, _, _] rfl ?_)
      refine zk_goto (tgt := 237) dX9_isFree_288 rfl ?_
      exact hr237 _ _ h
def D_X9_isFree_B200 (rec79 : Int32 → Int32 → zS → Option (Int32 × zS)) (a2 : Int32) (a3 : Int32) (rec200 : Int32 → zS → Option (Int32 × zS)) (a5 : Int32) (s : zS) : Option (Int32 × zS) :=
    if (s.1 66 23) < a5 then (
      rec79 (a2 + 1) (a3 + 1) s
    ) else (
      zgd (zin (((4 : Int32) * a5) + a3) 20 = true) <|
      zgd (zin (((4 : Int32) * a2) + a3) 20 = true) <|
      D_X9_isFree_L237 rec79 rec200 a2 a3 a5 (s.2 82 (((4 : Int32) * a5) + a3).toNatClampNeg) (s.2 82 (((4 : Int32) * a2) + a3).toNatClampNeg) zFU (0 : Int32) s
    )
def D_X9_isFree_L200 (rec79 : Int32 → Int32 → zS → Option (Int32 × zS)) (a2 : Int32) (a3 : Int32) (n : Nat) (a5 : Int32) (s : zS) : Option (Int32 × zS) := zfx (fun (rec : Int32 × zS → Option (Int32 × zS)) q => D_X9_isFree_B200 rec79 a2 a3 (fun v0 v1 => rec (v0, v1)) q.1 q.2) n (a5, s)
set_option maxRecDepth 100000 in
theorem D_X9_isFree_L200_s (rec79 : Int32 → Int32 → zS → Option (Int32 × zS)) (a2 : Int32) (a3 : Int32) (n : Nat) (a5 : Int32) (s : zS) : D_X9_isFree_L200 rec79 a2 a3 (n + 1) a5 s = D_X9_isFree_B200 rec79 a2 a3 (D_X9_isFree_L200 rec79 a2 a3 n) a5 s := rfl
set_option maxRecDepth 100000 in
theorem ok_X9_isFree_L200 {l : Launch} {D : va_G} {ad : Nat → Nat} {cA : Nat → ClassId} (hj : zInj ad) (r : (Int32 × zS)) (a2 : Int32) (a3 : Int32) (rec79 : Int32 → Int32 → zS → Option (Int32 × zS)) (hr79 : ∀ (b2 : Int32) (b3 : Int32) (s : zS), rec79 b2 b3 s = some r → zOk l D ad cA (zJm jX9_isFree) (zEnd D ad cA (some (.int r.1)) r.2) 79 [some (.ref 66), none, some (.int b2), some (.int b3), none, none, none, none, none, none, none] [] s) : ∀ (n : Nat) (a5 : Int32) (s : zS), D_X9_isFree_L200 rec79 a2 a3 n a5 s = some r → zOk l D ad cA (zJm jX9_isFree) (zEnd D ad cA (some (.int r.1)) r.2) 200 [some (.ref 66), none, some (.int a2), some (.int a3), none, some (.int a5), none, none, none, none, none] [] s := by
  intro n
  induction n with
  | zero =>
    intro a5 s h
    have h0 : (none : Option (Int32 × zS)) = some r := h
    cases h0
  | succ n hr200 =>
    intro a5 s h
    have h : D_X9_isFree_B200 rec79 a2 a3 (D_X9_isFree_L200 rec79 a2 a3 n) a5 s = some r := h
    unfold D_X9_isFree_B200 at h
    refine zk_iload dX9_isFree_200 rfl ?_
    refine zk_aload_n dX9_isFree_202 rfl rfl ?_
    refine zf_X9_138 rfl dX9_isFree_203 ?_
    refine zk_icmp_gt (tgt := 297) dX9_isFree_206 rfl (fun g206 => ?_) (fun g206 => ?_)
    · replace h := zpos g206 h
      refine zk_iinc dX9_isFree_297 rfl (zinc (m := 1) (by decide)) (by decide) (zk_eq [_, _, _, _, _, _, _, _, _, _, _] rfl ?_)
      refine zk_iinc dX9_isFree_300 rfl (zinc (m := 1) (by decide)) (by decide) (zk_eq [_, _, _, _, _, _, _, _, _, _, _] rfl ?_)
      refine zk_goto (tgt := 79) dX9_isFree_303 rfl ?_
      refine zk_mask [true, false, true, true, false, false, false, false, false, false, false] ?_
      exact hr79 _ _ _ h
    · replace h := zneg g206 h
      refine zk_aload_n dX9_isFree_209 rfl rfl ?_
      refine zf_X9_70 rfl dX9_isFree_210 ?_
      refine zk_iconst (v := 4) dX9_isFree_213 (by decide) ?_
      refine zk_iload dX9_isFree_214 rfl ?_
      refine zk_imul dX9_isFree_216 ?_
      refine zk_iload_n dX9_isFree_217 rfl rfl ?_
      refine zk_iadd dX9_isFree_218 ?_
      obtain ⟨g219, h⟩ := zguard h
      refine zk_lald (zoL_of rfl g219) dX9_isFree_219 ?_
      refine zk_lstore (i := 6) dX9_isFree_220 (by decide) (zk_eq [_, _, _, _, _, _, _, _, _, _, _] rfl ?_)
      refine zk_aload_n dX9_isFree_222 rfl rfl ?_
      refine zf_X9_70 rfl dX9_isFree_223 ?_
      refine zk_iconst (v := 4) dX9_isFree_226 (by decide) ?_
      refine zk_iload_n dX9_isFree_227 rfl rfl ?_
      refine zk_imul dX9_isFree_228 ?_
      refine zk_iload_n dX9_isFree_229 rfl rfl ?_
      refine zk_iadd dX9_isFree_230 ?_
      obtain ⟨g231, h⟩ := zguard h
      refine zk_lald (zoL_of rfl g231) dX9_isFree_231 ?_
      refine zk_lstore (i := 8) dX9_isFree_232 (by decide) (zk_eq [_, _, _, _, _, _, _, _, _, _, _] rfl ?_)
      refine zk_iconst (v := 0) dX9_isFree_234 (by decide) ?_
      refine zk_istore (i := 10) dX9_isFree_235 (by decide) (zk_eq [_, _, _, _, _, _, _, _, _, _, _] rfl ?_)
      exact ok_X9_isFree_L237 hj r _ _ _ _ _ _ hr79 _ hr200 _ _ _ h
def D_X9_isFree_B133 (rec79 : Int32 → Int32 → zS → Option (Int32 × zS)) (a2 : Int32) (a3 : Int32) (a4 : Int32) (rec133 : Int32 → zS → Option (Int32 × zS)) (a5 : Int32) (s : zS) : Option (Int32 × zS) :=
    if (4 : Int32) ≤ a5 then (
      D_X9_isFree_L200 rec79 a2 a3 zFU (a2 + (1 : Int32)) s
    ) else (
      zgd (zin (((4 : Int32) * a4) + a5) 20 = true) <|
      zgd (zin (((4 : Int32) * a2) + a5) 20 = true) <|
      zgd (zin (((4 : Int32) * a4) + a5) 20 = true) <|
      let s175 : zS := zwL s 82 (((4 : Int32) * a4) + a5).toNatClampNeg (s.2 82 (((4 : Int32) * a2) + a5).toNatClampNeg)
      zgd (zin (((4 : Int32) * a2) + a5) 20 = true) <|
      let s188 : zS := zwL s175 82 (((4 : Int32) * a2) + a5).toNatClampNeg (s.2 82 (((4 : Int32) * a4) + a5).toNatClampNeg)
      rec133 (a5 + 1) s188
    )
def D_X9_isFree_L133 (rec79 : Int32 → Int32 → zS → Option (Int32 × zS)) (a2 : Int32) (a3 : Int32) (a4 : Int32) (n : Nat) (a5 : Int32) (s : zS) : Option (Int32 × zS) := zfx (fun (rec : Int32 × zS → Option (Int32 × zS)) q => D_X9_isFree_B133 rec79 a2 a3 a4 (fun v0 v1 => rec (v0, v1)) q.1 q.2) n (a5, s)
set_option maxRecDepth 100000 in
theorem D_X9_isFree_L133_s (rec79 : Int32 → Int32 → zS → Option (Int32 × zS)) (a2 : Int32) (a3 : Int32) (a4 : Int32) (n : Nat) (a5 : Int32) (s : zS) : D_X9_isFree_L133 rec79 a2 a3 a4 (n + 1) a5 s = D_X9_isFree_B133 rec79 a2 a3 a4 (D_X9_isFree_L133 rec79 a2 a3 a4 n) a5 s := rfl
set_option maxRecDepth 100000 in
theorem ok_X9_isFree_L133 {l : Launch} {D : va_G} {ad : Nat → Nat} {cA : Nat → ClassId} (hj : zInj ad) (r : (Int32 × zS)) (a2 : Int32) (a3 : Int32) (a4 : Int32) (rec79 : Int32 → Int32 → zS → Option (Int32 × zS)) (hr79 : ∀ (b2 : Int32) (b3 : Int32) (s : zS), rec79 b2 b3 s = some r → zOk l D ad cA (zJm jX9_isFree) (zEnd D ad cA (some (.int r.1)) r.2) 79 [some (.ref 66), none, some (.int b2), some (.int b3), none, none, none, none, none, none, none] [] s) : ∀ (n : Nat) (a5 : Int32) (s : zS), D_X9_isFree_L133 rec79 a2 a3 a4 n a5 s = some r → zOk l D ad cA (zJm jX9_isFree) (zEnd D ad cA (some (.int r.1)) r.2) 133 [some (.ref 66), none, some (.int a2), some (.int a3), some (.int a4), some (.int a5), none, none, none, none, none] [] s := by
  intro n
  induction n with
  | zero =>
    intro a5 s h
    have h0 : (none : Option (Int32 × zS)) = some r := h
    cases h0
  | succ n hr133 =>
    intro a5 s h
    have h : D_X9_isFree_B133 rec79 a2 a3 a4 (D_X9_isFree_L133 rec79 a2 a3 a4 n) a5 s = some r := h
    unfold D_X9_isFree_B133 at h
    refine zk_iload dX9_isFree_133 rfl ?_
    refine zk_iconst (v := 4) dX9_isFree_135 (by decide) ?_
    refine zk_icmp_ge (tgt := 195) dX9_isFree_136 rfl (fun g136 => ?_) (fun g136 => ?_)
    · replace h := zpos g136 h
      refine zk_iload_n dX9_isFree_195 rfl rfl ?_
      refine zk_iconst (v := 1) dX9_isFree_196 (by decide) ?_
      refine zk_iadd dX9_isFree_197 ?_
      refine zk_istore (i := 5) dX9_isFree_198 (by decide) (zk_eq [_, _, _, _, _, _, _, _, _, _, _] rfl ?_)
      refine zk_mask [true, false, true, true, false, true, false, false, false, false, false] ?_
      exact ok_X9_isFree_L200 hj r _ _ _ hr79 _ _ _ h
    · replace h := zneg g136 h
      refine zk_aload_n dX9_isFree_139 rfl rfl ?_
      refine zf_X9_70 rfl dX9_isFree_140 ?_
      refine zk_iconst (v := 4) dX9_isFree_143 (by decide) ?_
      refine zk_iload dX9_isFree_144 rfl ?_
      refine zk_imul dX9_isFree_146 ?_
      refine zk_iload dX9_isFree_147 rfl ?_
      refine zk_iadd dX9_isFree_149 ?_
      obtain ⟨g150, h⟩ := zguard h
      refine zk_lald (zoL_of rfl g150) dX9_isFree_150 ?_
      refine zk_lstore (i := 6) dX9_isFree_151 (by decide) (zk_eq [_, _, _, _, _, _, _, _, _, _, _] rfl ?_)
      refine zk_aload_n dX9_isFree_153 rfl rfl ?_
      refine zf_X9_70 rfl dX9_isFree_154 ?_
      refine zk_iconst (v := 4) dX9_isFree_157 (by decide) ?_
      refine zk_iload dX9_isFree_158 rfl ?_
      refine zk_imul dX9_isFree_160 ?_
      refine zk_iload dX9_isFree_161 rfl ?_
      refine zk_iadd dX9_isFree_163 ?_
      refine zk_aload_n dX9_isFree_164 rfl rfl ?_
      refine zf_X9_70 rfl dX9_isFree_165 ?_
      refine zk_iconst (v := 4) dX9_isFree_168 (by decide) ?_
      refine zk_iload_n dX9_isFree_169 rfl rfl ?_
      refine zk_imul dX9_isFree_170 ?_
      refine zk_iload dX9_isFree_171 rfl ?_
      refine zk_iadd dX9_isFree_173 ?_
      obtain ⟨g174, h⟩ := zguard h
      refine zk_lald (zoL_of rfl g174) dX9_isFree_174 ?_
      obtain ⟨g175, h⟩ := zguard h
      refine zk_last (zoL_of rfl g175) dX9_isFree_175 ?_
      refine zk_aload_n dX9_isFree_176 rfl rfl ?_
      refine zf_X9_70 rfl dX9_isFree_177 ?_
      refine zk_iconst (v := 4) dX9_isFree_180 (by decide) ?_
      refine zk_iload_n dX9_isFree_181 rfl rfl ?_
      refine zk_imul dX9_isFree_182 ?_
      refine zk_iload dX9_isFree_183 rfl ?_
      refine zk_iadd dX9_isFree_185 ?_
      refine zk_lload dX9_isFree_186 rfl ?_
      obtain ⟨g188, h⟩ := zguard h
      refine zk_last (zoL_of rfl g188) dX9_isFree_188 ?_
      refine zk_iinc dX9_isFree_189 rfl (zinc (m := 1) (by decide)) (by decide) (zk_eq [_, _, _, _, _, _, _, _, _, _, _] rfl ?_)
      refine zk_goto (tgt := 133) dX9_isFree_192 rfl ?_
      refine zk_mask [true, false, true, true, true, true, false, false, false, false, false] ?_
      exact hr133 _ _ h
def D_X9_isFree_J121 (rec79 : Int32 → Int32 → zS → Option (Int32 × zS)) (s : zS) (a2 : Int32) (a3 : Int32) (a4 : Int32) : Option (Int32 × zS) :=
  if (s.1 66 23) < a4 then (
    rec79 a2 (a3 + 1) s
  ) else (
    D_X9_isFree_L133 rec79 a2 a3 a4 zFU (0 : Int32) s
  )
set_option maxRecDepth 100000 in
theorem ok_X9_isFree_J121 {l : Launch} {D : va_G} {ad : Nat → Nat} {cA : Nat → ClassId} (hj : zInj ad) (r : (Int32 × zS)) (s : zS) (a2 : Int32) (a3 : Int32) (a4 : Int32) (rec79 : Int32 → Int32 → zS → Option (Int32 × zS)) (hr79 : ∀ (b2 : Int32) (b3 : Int32) (s : zS), rec79 b2 b3 s = some r → zOk l D ad cA (zJm jX9_isFree) (zEnd D ad cA (some (.int r.1)) r.2) 79 [some (.ref 66), none, some (.int b2), some (.int b3), none, none, none, none, none, none, none] [] s) (h : D_X9_isFree_J121 rec79 s a2 a3 a4 = some r) : zOk l D ad cA (zJm jX9_isFree) (zEnd D ad cA (some (.int r.1)) r.2) 121 [some (.ref 66), none, some (.int a2), some (.int a3), some (.int a4), none, none, none, none, none, none] [] s := by
  unfold D_X9_isFree_J121 at h
  refine zk_iload dX9_isFree_121 rfl ?_
  refine zk_aload_n dX9_isFree_123 rfl rfl ?_
  refine zf_X9_138 rfl dX9_isFree_124 ?_
  refine zk_icmp_gt (tgt := 300) dX9_isFree_127 rfl (fun g127 => ?_) (fun g127 => ?_)
  · replace h := zpos g127 h
    refine zk_iinc dX9_isFree_300 rfl (zinc (m := 1) (by decide)) (by decide) (zk_eq [_, _, _, _, _, _, _, _, _, _, _] rfl ?_)
    refine zk_goto (tgt := 79) dX9_isFree_303 rfl ?_
    refine zk_mask [true, false, true, true, false, false, false, false, false, false, false] ?_
    exact hr79 _ _ _ h
  · replace h := zneg g127 h
    refine zk_iconst (v := 0) dX9_isFree_130 (by decide) ?_
    refine zk_istore (i := 5) dX9_isFree_131 (by decide) (zk_eq [_, _, _, _, _, _, _, _, _, _, _] rfl ?_)
    exact ok_X9_isFree_L133 hj r _ _ _ _ hr79 _ _ _ h
def D_X9_isFree_B90 (rec79 : Int32 → Int32 → zS → Option (Int32 × zS)) (s : zS) (a2 : Int32) (a3 : Int32) (rec90 : Int32 → Option (Int32 × zS)) (a4 : Int32) : Option (Int32 × zS) :=
    if (s.1 66 23) < a4 then (
      D_X9_isFree_J121 rec79 s a2 a3 a4
    ) else (
      zgd (zin (((4 : Int32) * a4) + a3) 20 = true) <|
      if (lg_cmp (s.2 82 (((4 : Int32) * a4) + a3).toNatClampNeg) (0 : Int64)) = 0 then (
        rec90 (a4 + 1)
      ) else (
        D_X9_isFree_J121 rec79 s a2 a3 a4
      )
    )
def D_X9_isFree_L90 (rec79 : Int32 → Int32 → zS → Option (Int32 × zS)) (s : zS) (a2 : Int32) (a3 : Int32) (n : Nat) (a4 : Int32) : Option (Int32 × zS) := zfx (fun (rec : Int32 → Option (Int32 × zS)) q => D_X9_isFree_B90 rec79 s a2 a3 (fun v0 => rec (v0)) q) n (a4)
set_option maxRecDepth 100000 in
theorem D_X9_isFree_L90_s (rec79 : Int32 → Int32 → zS → Option (Int32 × zS)) (s : zS) (a2 : Int32) (a3 : Int32) (n : Nat) (a4 : Int32) : D_X9_isFree_L90 rec79 s a2 a3 (n + 1) a4 = D_X9_isFree_B90 rec79 s a2 a3 (D_X9_isFree_L90 rec79 s a2 a3 n) a4 := rfl
set_option maxRecDepth 100000 in
theorem ok_X9_isFree_L90 {l : Launch} {D : va_G} {ad : Nat → Nat} {cA : Nat → ClassId} (hj : zInj ad) (r : (Int32 × zS)) (s : zS) (a2 : Int32) (a3 : Int32) (rec79 : Int32 → Int32 → zS → Option (Int32 × zS)) (hr79 : ∀ (b2 : Int32) (b3 : Int32) (s : zS), rec79 b2 b3 s = some r → zOk l D ad cA (zJm jX9_isFree) (zEnd D ad cA (some (.int r.1)) r.2) 79 [some (.ref 66), none, some (.int b2), some (.int b3), none, none, none, none, none, none, none] [] s) : ∀ (n : Nat) (a4 : Int32), D_X9_isFree_L90 rec79 s a2 a3 n a4 = some r → zOk l D ad cA (zJm jX9_isFree) (zEnd D ad cA (some (.int r.1)) r.2) 90 [some (.ref 66), none, some (.int a2), some (.int a3), some (.int a4), none, none, none, none, none, none] [] s := by
  intro n
  induction n with
  | zero =>
    intro a4 h
    have h0 : (none : Option (Int32 × zS)) = some r := h
    cases h0
  | succ n hr90 =>
    intro a4 h
    have h : D_X9_isFree_B90 rec79 s a2 a3 (D_X9_isFree_L90 rec79 s a2 a3 n) a4 = some r := h
    unfold D_X9_isFree_B90 at h
    refine zk_iload dX9_isFree_90 rfl ?_
    refine zk_aload_n dX9_isFree_92 rfl rfl ?_
    refine zf_X9_138 rfl dX9_isFree_93 ?_
    refine zk_icmp_gt (tgt := 121) dX9_isFree_96 rfl (fun g96 => ?_) (fun g96 => ?_)
    · replace h := zpos g96 h
      exact ok_X9_isFree_J121 hj r _ _ _ _ _ hr79 h
    · replace h := zneg g96 h
      refine zk_aload_n dX9_isFree_99 rfl rfl ?_
      refine zf_X9_70 rfl dX9_isFree_100 ?_
      refine zk_iconst (v := 4) dX9_isFree_103 (by decide) ?_
      refine zk_iload dX9_isFree_104 rfl ?_
      refine zk_imul dX9_isFree_106 ?_
      refine zk_iload_n dX9_isFree_107 rfl rfl ?_
      refine zk_iadd dX9_isFree_108 ?_
      obtain ⟨g109, h⟩ := zguard h
      refine zk_lald (zoL_of rfl g109) dX9_isFree_109 ?_
      refine zk_lconst (v := 0) dX9_isFree_110 (by decide) ?_
      refine zk_lcmp dX9_isFree_111 ?_
      refine zk_if_ne (tgt := 121) dX9_isFree_112 rfl (fun g112 => ?_) (fun g112 => ?_)
      · replace h := zneg g112 h
        exact ok_X9_isFree_J121 hj r _ _ _ _ _ hr79 h
      · replace h := zpos g112 h
        refine zk_iinc dX9_isFree_115 rfl (zinc (m := 1) (by decide)) (by decide) (zk_eq [_, _, _, _, _, _, _, _, _, _, _] rfl ?_)
        refine zk_goto (tgt := 90) dX9_isFree_118 rfl ?_
        exact hr90 _ h
def D_X9_isFree_B79  (rec79 : Int32 → Int32 → zS → Option (Int32 × zS)) (a2 : Int32) (a3 : Int32) (s : zS) : Option (Int32 × zS) :=
    if (s.1 66 0) ≤ a3 then (
      if a2 = ((s.1 66 23) + (1 : Int32)) then (
        some ((1 : Int32), s)
      ) else (
        some ((0 : Int32), s)
      )
    ) else (
      D_X9_isFree_L90 rec79 s a2 a3 zFU a2
    )
def D_X9_isFree_L79 (n : Nat) (a2 : Int32) (a3 : Int32) (s : zS) : Option (Int32 × zS) := zfx (fun (rec : Int32 × Int32 × zS → Option (Int32 × zS)) q => D_X9_isFree_B79 (fun v0 v1 v2 => rec (v0, v1, v2)) q.1 q.2.1 q.2.2) n (a2, a3, s)
set_option maxRecDepth 100000 in
theorem D_X9_isFree_L79_s (n : Nat) (a2 : Int32) (a3 : Int32) (s : zS) : D_X9_isFree_L79 (n + 1) a2 a3 s = D_X9_isFree_B79 (D_X9_isFree_L79 n) a2 a3 s := rfl
set_option maxRecDepth 100000 in
theorem ok_X9_isFree_L79 {l : Launch} {D : va_G} {ad : Nat → Nat} {cA : Nat → ClassId} (hj : zInj ad) (r : (Int32 × zS))  : ∀ (n : Nat) (a2 : Int32) (a3 : Int32) (s : zS), D_X9_isFree_L79 n a2 a3 s = some r → zOk l D ad cA (zJm jX9_isFree) (zEnd D ad cA (some (.int r.1)) r.2) 79 [some (.ref 66), none, some (.int a2), some (.int a3), none, none, none, none, none, none, none] [] s := by
  intro n
  induction n with
  | zero =>
    intro a2 a3 s h
    have h0 : (none : Option (Int32 × zS)) = some r := h
    cases h0
  | succ n hr79 =>
    intro a2 a3 s h
    have h : D_X9_isFree_B79 (D_X9_isFree_L79 n) a2 a3 s = some r := h
    unfold D_X9_isFree_B79 at h
    refine zk_iload_n dX9_isFree_79 rfl rfl ?_
    refine zk_aload_n dX9_isFree_80 rfl rfl ?_
    refine zf_X9_7 rfl dX9_isFree_81 ?_
    refine zk_icmp_ge (tgt := 306) dX9_isFree_84 rfl (fun g84 => ?_) (fun g84 => ?_)
    · replace h := zpos g84 h
      refine zk_iload_n dX9_isFree_306 rfl rfl ?_
      refine zk_aload_n dX9_isFree_307 rfl rfl ?_
      refine zf_X9_138 rfl dX9_isFree_308 ?_
      refine zk_iconst (v := 1) dX9_isFree_311 (by decide) ?_
      refine zk_iadd dX9_isFree_312 ?_
      refine zk_icmp_ne (tgt := 320) dX9_isFree_313 rfl (fun g313 => ?_) (fun g313 => ?_)
      · replace h := zneg g313 h
        refine zk_iconst (v := 0) dX9_isFree_320 (by decide) ?_
        have e9 := Option.some.inj h
        subst e9
        exact zk_zret rfl (Or.inl rfl) ⟨rfl, rfl⟩ dX9_isFree_321
      · replace h := zpos g313 h
        refine zk_iconst (v := 1) dX9_isFree_316 (by decide) ?_
        refine zk_goto (tgt := 321) dX9_isFree_317 rfl ?_
        have e9 := Option.some.inj h
        subst e9
        exact zk_zret rfl (Or.inr rfl) ⟨rfl, rfl⟩ dX9_isFree_321
    · replace h := zneg g84 h
      refine zk_iload_n dX9_isFree_87 rfl rfl ?_
      refine zk_istore (i := 4) dX9_isFree_88 (by decide) (zk_eq [_, _, _, _, _, _, _, _, _, _, _] rfl ?_)
      exact ok_X9_isFree_L90 hj r _ _ _ _ hr79 _ _ h
def D_X9_isFree_J62 (rec2 : Int32 → zS → Option (Int32 × zS)) (rec32 : Int32 → zS → Option (Int32 × zS)) (s : zS) (a1 : Int32) (a2 : Int32) (a3 : Int32) (a4 : Int32) (k1 : Int32) (k2 : Int64) : Option (Int32 × zS) :=
  zgd (zin k1 20 = true) <|
  let s62 : zS := zwL s 82 k1.toNatClampNeg k2
  rec32 (a4 + 1) s62
set_option maxRecDepth 100000 in
theorem ok_X9_isFree_J62 {l : Launch} {D : va_G} {ad : Nat → Nat} {cA : Nat → ClassId} (hj : zInj ad) (r : (Int32 × zS)) (s : zS) (a1 : Int32) (a2 : Int32) (a3 : Int32) (a4 : Int32) (k1 : Int32) (k2 : Int64) (rec2 : Int32 → zS → Option (Int32 × zS)) (hr2 : ∀ (b2 : Int32) (s : zS), rec2 b2 s = some r → zOk l D ad cA (zJm jX9_isFree) (zEnd D ad cA (some (.int r.1)) r.2) 2 [some (.ref 66), some (.int a1), some (.int b2), none, none, none, none, none, none, none, none] [] s) (rec32 : Int32 → zS → Option (Int32 × zS)) (hr32 : ∀ (b4 : Int32) (s : zS), rec32 b4 s = some r → zOk l D ad cA (zJm jX9_isFree) (zEnd D ad cA (some (.int r.1)) r.2) 32 [some (.ref 66), some (.int a1), some (.int a2), some (.int a3), some (.int b4), none, none, none, none, none, none] [] s) (h : D_X9_isFree_J62 rec2 rec32 s a1 a2 a3 a4 k1 k2 = some r) : zOk l D ad cA (zJm jX9_isFree) (zEnd D ad cA (some (.int r.1)) r.2) 62 [some (.ref 66), some (.int a1), some (.int a2), some (.int a3), some (.int a4), none, none, none, none, none, none] [.long k2, .int k1, .ref 82] s := by
  unfold D_X9_isFree_J62 at h
  obtain ⟨g62, h⟩ := zguard h
  refine zk_last (zoL_of rfl g62) dX9_isFree_62 ?_
  refine zk_iinc dX9_isFree_63 rfl (zinc (m := 1) (by decide)) (by decide) (zk_eq [_, _, _, _, _, _, _, _, _, _, _] rfl ?_)
  refine zk_goto (tgt := 32) dX9_isFree_66 rfl ?_
  exact hr32 _ _ h
def D_X9_isFree_B32 (rec2 : Int32 → zS → Option (Int32 × zS)) (a1 : Int32) (a2 : Int32) (a3 : Int32) (rec32 : Int32 → zS → Option (Int32 × zS)) (a4 : Int32) (s : zS) : Option (Int32 × zS) :=
    if (4 : Int32) ≤ a4 then (
      rec2 (a2 + 1) s
    ) else (
      (D_X9_has a3 a4).bind fun p51 =>
      if p51 = 0 then (
        D_X9_isFree_J62 rec2 rec32 s a1 a2 a3 a4 (((4 : Int32) * a2) + a4) (0 : Int64)
      ) else (
        D_X9_isFree_J62 rec2 rec32 s a1 a2 a3 a4 (((4 : Int32) * a2) + a4) (1 : Int64)
      )
    )
def D_X9_isFree_L32 (rec2 : Int32 → zS → Option (Int32 × zS)) (a1 : Int32) (a2 : Int32) (a3 : Int32) (n : Nat) (a4 : Int32) (s : zS) : Option (Int32 × zS) := zfx (fun (rec : Int32 × zS → Option (Int32 × zS)) q => D_X9_isFree_B32 rec2 a1 a2 a3 (fun v0 v1 => rec (v0, v1)) q.1 q.2) n (a4, s)
set_option maxRecDepth 100000 in
theorem D_X9_isFree_L32_s (rec2 : Int32 → zS → Option (Int32 × zS)) (a1 : Int32) (a2 : Int32) (a3 : Int32) (n : Nat) (a4 : Int32) (s : zS) : D_X9_isFree_L32 rec2 a1 a2 a3 (n + 1) a4 s = D_X9_isFree_B32 rec2 a1 a2 a3 (D_X9_isFree_L32 rec2 a1 a2 a3 n) a4 s := rfl
set_option maxRecDepth 100000 in
theorem ok_X9_isFree_L32 {l : Launch} {D : va_G} {ad : Nat → Nat} {cA : Nat → ClassId} (hj : zInj ad) (r : (Int32 × zS)) (a1 : Int32) (a2 : Int32) (a3 : Int32) (rec2 : Int32 → zS → Option (Int32 × zS)) (hr2 : ∀ (b2 : Int32) (s : zS), rec2 b2 s = some r → zOk l D ad cA (zJm jX9_isFree) (zEnd D ad cA (some (.int r.1)) r.2) 2 [some (.ref 66), some (.int a1), some (.int b2), none, none, none, none, none, none, none, none] [] s) : ∀ (n : Nat) (a4 : Int32) (s : zS), D_X9_isFree_L32 rec2 a1 a2 a3 n a4 s = some r → zOk l D ad cA (zJm jX9_isFree) (zEnd D ad cA (some (.int r.1)) r.2) 32 [some (.ref 66), some (.int a1), some (.int a2), some (.int a3), some (.int a4), none, none, none, none, none, none] [] s := by
  intro n
  induction n with
  | zero =>
    intro a4 s h
    have h0 : (none : Option (Int32 × zS)) = some r := h
    cases h0
  | succ n hr32 =>
    intro a4 s h
    have h : D_X9_isFree_B32 rec2 a1 a2 a3 (D_X9_isFree_L32 rec2 a1 a2 a3 n) a4 s = some r := h
    unfold D_X9_isFree_B32 at h
    refine zk_iload dX9_isFree_32 rfl ?_
    refine zk_iconst (v := 4) dX9_isFree_34 (by decide) ?_
    refine zk_icmp_ge (tgt := 69) dX9_isFree_35 rfl (fun g35 => ?_) (fun g35 => ?_)
    · replace h := zpos g35 h
      refine zk_iinc dX9_isFree_69 rfl (zinc (m := 1) (by decide)) (by decide) (zk_eq [_, _, _, _, _, _, _, _, _, _, _] rfl ?_)
      refine zk_goto (tgt := 2) dX9_isFree_72 rfl ?_
      refine zk_mask [true, true, true, false, false, false, false, false, false, false, false] ?_
      exact hr2 _ _ h
    · replace h := zneg g35 h
      refine zk_aload_n dX9_isFree_38 rfl rfl ?_
      refine zf_X9_70 rfl dX9_isFree_39 ?_
      refine zk_iconst (v := 4) dX9_isFree_42 (by decide) ?_
      refine zk_iload_n dX9_isFree_43 rfl rfl ?_
      refine zk_imul dX9_isFree_44 ?_
      refine zk_iload dX9_isFree_45 rfl ?_
      refine zk_iadd dX9_isFree_47 ?_
      refine zk_iload_n dX9_isFree_48 rfl rfl ?_
      refine zk_iload dX9_isFree_49 rfl ?_
      obtain ⟨p51, h51, h⟩ := zbind h
      refine zc_X9_121 [.int _, .ref _] (As := [.int _, .int _]) (ok_X9_has hj _ _ _ h51) rfl ⟨Nat.le_of_ble_eq_true rfl, Nat.le_of_ble_eq_true rfl⟩ ⟨Nat.le_refl _, Nat.le_refl _⟩ rfl rfl (Nat.le_of_ble_eq_true rfl) dX9_isFree_51 ?_
      refine zk_if_eq (tgt := 61) dX9_isFree_54 rfl (fun g54 => ?_) (fun g54 => ?_)
      · replace h := zpos g54 h
        refine zk_lconst (v := 0) dX9_isFree_61 (by decide) ?_
        exact ok_X9_isFree_J62 hj r _ _ _ _ _ _ _ _ hr2 _ hr32 h
      · replace h := zneg g54 h
        refine zk_lconst (v := 1) dX9_isFree_57 (by decide) ?_
        refine zk_goto (tgt := 62) dX9_isFree_58 rfl ?_
        exact ok_X9_isFree_J62 hj r _ _ _ _ _ _ _ _ hr2 _ hr32 h
def D_X9_isFree_J28 (rec2 : Int32 → zS → Option (Int32 × zS)) (s : zS) (a1 : Int32) (a2 : Int32) (k0 : Int32) : Option (Int32 × zS) :=
  D_X9_isFree_L32 rec2 a1 a2 k0 zFU (0 : Int32) s
set_option maxRecDepth 100000 in
theorem ok_X9_isFree_J28 {l : Launch} {D : va_G} {ad : Nat → Nat} {cA : Nat → ClassId} (hj : zInj ad) (r : (Int32 × zS)) (s : zS) (a1 : Int32) (a2 : Int32) (k0 : Int32) (rec2 : Int32 → zS → Option (Int32 × zS)) (hr2 : ∀ (b2 : Int32) (s : zS), rec2 b2 s = some r → zOk l D ad cA (zJm jX9_isFree) (zEnd D ad cA (some (.int r.1)) r.2) 2 [some (.ref 66), some (.int a1), some (.int b2), none, none, none, none, none, none, none, none] [] s) (h : D_X9_isFree_J28 rec2 s a1 a2 k0 = some r) : zOk l D ad cA (zJm jX9_isFree) (zEnd D ad cA (some (.int r.1)) r.2) 28 [some (.ref 66), some (.int a1), some (.int a2), none, none, none, none, none, none, none, none] [.int k0] s := by
  unfold D_X9_isFree_J28 at h
  refine zk_istore_n (i := 3) dX9_isFree_28 rfl (by decide) (zk_eq [_, _, _, _, _, _, _, _, _, _, _] rfl ?_)
  refine zk_iconst (v := 0) dX9_isFree_29 (by decide) ?_
  refine zk_istore (i := 4) dX9_isFree_30 (by decide) (zk_eq [_, _, _, _, _, _, _, _, _, _, _] rfl ?_)
  exact ok_X9_isFree_L32 hj r _ _ _ _ hr2 _ _ _ h
def D_X9_isFree_B2 (a1 : Int32) (rec2 : Int32 → zS → Option (Int32 × zS)) (a2 : Int32) (s : zS) : Option (Int32 × zS) :=
    if (s.1 66 23) < a2 then (
      D_X9_isFree_L79 zFU (0 : Int32) (0 : Int32) s
    ) else (
      if a2 = (s.1 66 23) then (
        D_X9_isFree_J28 rec2 s a1 a2 a1
      ) else (
        zgd (zin a2 5 = true) <|
        D_X9_isFree_J28 rec2 s a1 a2 (s.1 79 a2.toNatClampNeg)
      )
    )
def D_X9_isFree_L2 (a1 : Int32) (n : Nat) (a2 : Int32) (s : zS) : Option (Int32 × zS) := zfx (fun (rec : Int32 × zS → Option (Int32 × zS)) q => D_X9_isFree_B2 a1 (fun v0 v1 => rec (v0, v1)) q.1 q.2) n (a2, s)
set_option maxRecDepth 100000 in
theorem D_X9_isFree_L2_s (a1 : Int32) (n : Nat) (a2 : Int32) (s : zS) : D_X9_isFree_L2 a1 (n + 1) a2 s = D_X9_isFree_B2 a1 (D_X9_isFree_L2 a1 n) a2 s := rfl
set_option maxRecDepth 100000 in
theorem ok_X9_isFree_L2 {l : Launch} {D : va_G} {ad : Nat → Nat} {cA : Nat → ClassId} (hj : zInj ad) (r : (Int32 × zS)) (a1 : Int32) : ∀ (n : Nat) (a2 : Int32) (s : zS), D_X9_isFree_L2 a1 n a2 s = some r → zOk l D ad cA (zJm jX9_isFree) (zEnd D ad cA (some (.int r.1)) r.2) 2 [some (.ref 66), some (.int a1), some (.int a2), none, none, none, none, none, none, none, none] [] s := by
  intro n
  induction n with
  | zero =>
    intro a2 s h
    have h0 : (none : Option (Int32 × zS)) = some r := h
    cases h0
  | succ n hr2 =>
    intro a2 s h
    have h : D_X9_isFree_B2 a1 (D_X9_isFree_L2 a1 n) a2 s = some r := h
    unfold D_X9_isFree_B2 at h
    refine zk_iload_n dX9_isFree_2 rfl rfl ?_
    refine zk_aload_n dX9_isFree_3 rfl rfl ?_
    refine zf_X9_138 rfl dX9_isFree_4 ?_
    refine zk_icmp_gt (tgt := 75) dX9_isFree_7 rfl (fun g7 => ?_) (fun g7 => ?_)
    · replace h := zpos g7 h
      refine zk_iconst (v := 0) dX9_isFree_75 (by decide) ?_
      refine zk_istore_n (i := 2) dX9_isFree_76 rfl (by decide) (zk_eq [_, _, _, _, _, _, _, _, _, _, _] rfl ?_)
      refine zk_iconst (v := 0) dX9_isFree_77 (by decide) ?_
      refine zk_istore_n (i := 3) dX9_isFree_78 rfl (by decide) (zk_eq [_, _, _, _, _, _, _, _, _, _, _] rfl ?_)
      refine zk_mask [true, false, true, true, false, false, false, false, false, false, false] ?_
      exact ok_X9_isFree_L79 hj r  _ _ _ _ h
    · replace h := zneg g7 h
      refine zk_iload_n dX9_isFree_10 rfl rfl ?_
      refine zk_aload_n dX9_isFree_11 rfl rfl ?_
      refine zf_X9_138 rfl dX9_isFree_12 ?_
      refine zk_icmp_ne (tgt := 22) dX9_isFree_15 rfl (fun g15 => ?_) (fun g15 => ?_)
      · replace h := zneg g15 h
        refine zk_aload_n dX9_isFree_22 rfl rfl ?_
        refine zf_X9_61 rfl dX9_isFree_23 ?_
        refine zk_iload_n dX9_isFree_26 rfl rfl ?_
        obtain ⟨g27, h⟩ := zguard h
        refine zk_iald (zoI_of rfl g27) dX9_isFree_27 ?_
        exact ok_X9_isFree_J28 hj r _ _ _ _ _ hr2 h
      · replace h := zpos g15 h
        refine zk_iload_n dX9_isFree_18 rfl rfl ?_
        refine zk_goto (tgt := 28) dX9_isFree_19 rfl ?_
        exact ok_X9_isFree_J28 hj r _ _ _ _ _ hr2 h
def D_X9_isFree (s : zS) (a1 : Int32) : Option (Int32 × zS) :=
  D_X9_isFree_L2 a1 zFU (0 : Int32) s
set_option maxRecDepth 100000 in
theorem ok_X9_isFree {l : Launch} {D : va_G} {ad : Nat → Nat} {cA : Nat → ClassId} (hj : zInj ad) (s : zS) (a1 : Int32) {r : (Int32 × zS)} (h : D_X9_isFree s a1 = some r) : zMet l D ad cA jX9_isFree [.ref 66, .int a1] s (some (.int r.1)) r.2 := by
  refine zMet_of jX9_isFree [some (.ref 66), some (.int a1), none, none, none, none, none, none, none, none, none] (by decide +kernel) (Nat.le_of_ble_eq_true rfl) rfl hj ?_
  unfold D_X9_isFree at h
  refine zk_iconst (v := 0) dX9_isFree_0 (by decide) ?_
  refine zk_istore_n (i := 2) dX9_isFree_1 rfl (by decide) (zk_eq [_, _, _, _, _, _, _, _, _, _, _] rfl ?_)
  exact ok_X9_isFree_L2 hj r _ _ _ _ h
def D_X9_layFree_B7  (rec7 : Int32 → zS → Option zS) (a1 : Int32) (s : zS) : Option zS :=
    (D_X9_all s).bind fun p9 =>
    if p9 ≤ a1 then (
      some s
    ) else (
      (D_X9_isFree s a1).bind fun p17 =>
      if p17.1 = 0 then (
        rec7 (a1 + 1) p17.2
      ) else (
        zgd (zin (p17.2.1 66 28) 14 = true) <|
        let s32 : zS := zwI p17.2 83 (p17.2.1 66 28).toNatClampNeg a1
        let s40 : zS := zwI s32 66 28 ((s32.1 66 28) + (1 : Int32))
        rec7 (a1 + 1) s40
      )
    )
def D_X9_layFree_L7 (n : Nat) (a1 : Int32) (s : zS) : Option zS := zfx (fun (rec : Int32 × zS → Option zS) q => D_X9_layFree_B7 (fun v0 v1 => rec (v0, v1)) q.1 q.2) n (a1, s)
set_option maxRecDepth 100000 in
theorem D_X9_layFree_L7_s (n : Nat) (a1 : Int32) (s : zS) : D_X9_layFree_L7 (n + 1) a1 s = D_X9_layFree_B7 (D_X9_layFree_L7 n) a1 s := rfl
set_option maxRecDepth 100000 in
theorem ok_X9_layFree_L7 {l : Launch} {D : va_G} {ad : Nat → Nat} {cA : Nat → ClassId} (hj : zInj ad) (r : zS)  : ∀ (n : Nat) (a1 : Int32) (s : zS), D_X9_layFree_L7 n a1 s = some r → zOk l D ad cA (zJm jX9_layFree) (zEnd D ad cA none r) 7 [some (.ref 66), some (.int a1)] [] s := by
  intro n
  induction n with
  | zero =>
    intro a1 s h
    have h0 : (none : Option zS) = some r := h
    cases h0
  | succ n hr7 =>
    intro a1 s h
    have h : D_X9_layFree_B7 (D_X9_layFree_L7 n) a1 s = some r := h
    unfold D_X9_layFree_B7 at h
    refine zk_iload_n dX9_layFree_7 rfl rfl ?_
    refine zk_aload_n dX9_layFree_8 rfl rfl ?_
    obtain ⟨p9, h9, h⟩ := zbind h
    refine zc_X9_88 [.int _] (As := []) (ok_X9_all hj _ h9) rfl ⟨Nat.le_of_ble_eq_true rfl, Nat.le_of_ble_eq_true rfl⟩ ⟨Nat.le_refl _, Nat.le_refl _⟩ rfl rfl (Nat.le_of_ble_eq_true rfl) dX9_layFree_9 ?_
    refine zk_icmp_ge (tgt := 49) dX9_layFree_12 rfl (fun g12 => ?_) (fun g12 => ?_)
    · replace h := zpos g12 h
      have e9 := Option.some.inj h
      subst e9
      exact zk_vret rfl ⟨rfl, rfl⟩ dX9_layFree_49
    · replace h := zneg g12 h
      refine zk_aload_n dX9_layFree_15 rfl rfl ?_
      refine zk_iload_n dX9_layFree_16 rfl rfl ?_
      obtain ⟨p17, h17, h⟩ := zbind h
      refine zc_X9_144 [] (As := [.int _]) (ok_X9_isFree hj _ _ h17) rfl ⟨Nat.le_of_ble_eq_true rfl, Nat.le_of_ble_eq_true rfl⟩ ⟨Nat.le_refl _, Nat.le_refl _⟩ rfl rfl (Nat.le_of_ble_eq_true rfl) dX9_layFree_17 ?_
      refine zk_if_eq (tgt := 43) dX9_layFree_20 rfl (fun g20 => ?_) (fun g20 => ?_)
      · replace h := zpos g20 h
        refine zk_iinc dX9_layFree_43 rfl (zinc (m := 1) (by decide)) (by decide) (zk_eq [_, _] rfl ?_)
        refine zk_goto (tgt := 7) dX9_layFree_46 rfl ?_
        exact hr7 _ _ h
      · replace h := zneg g20 h
        refine zk_aload_n dX9_layFree_23 rfl rfl ?_
        refine zf_X9_73 rfl dX9_layFree_24 ?_
        refine zk_aload_n dX9_layFree_27 rfl rfl ?_
        refine zf_X9_141 rfl dX9_layFree_28 ?_
        refine zk_iload_n dX9_layFree_31 rfl rfl ?_
        obtain ⟨g32, h⟩ := zguard h
        refine zk_iast (zoI_of rfl g32) dX9_layFree_32 ?_
        refine zk_aload_n dX9_layFree_33 rfl rfl ?_
        refine zk_dup dX9_layFree_34 rfl ?_
        refine zf_X9_141 rfl dX9_layFree_35 ?_
        refine zk_iconst (v := 1) dX9_layFree_38 (by decide) ?_
        refine zk_iadd dX9_layFree_39 ?_
        refine zp_X9_141 rfl dX9_layFree_40 ?_
        refine zk_iinc dX9_layFree_43 rfl (zinc (m := 1) (by decide)) (by decide) (zk_eq [_, _] rfl ?_)
        refine zk_goto (tgt := 7) dX9_layFree_46 rfl ?_
        exact hr7 _ _ h
def D_X9_layFree (s : zS) : Option zS :=
  let s2 : zS := zwI s 66 28 (0 : Int32)
  D_X9_layFree_L7 zFU (1 : Int32) s2
set_option maxRecDepth 100000 in
theorem ok_X9_layFree {l : Launch} {D : va_G} {ad : Nat → Nat} {cA : Nat → ClassId} (hj : zInj ad) (s : zS)  {r : zS} (h : D_X9_layFree s = some r) : zMet l D ad cA jX9_layFree [.ref 66] s none r := by
  refine zMet_of jX9_layFree [some (.ref 66), none] (by decide +kernel) (Nat.le_of_ble_eq_true rfl) rfl hj ?_
  unfold D_X9_layFree at h
  refine zk_aload_n dX9_layFree_0 rfl rfl ?_
  refine zk_iconst (v := 0) dX9_layFree_1 (by decide) ?_
  refine zp_X9_141 rfl dX9_layFree_2 ?_
  refine zk_iconst (v := 1) dX9_layFree_5 (by decide) ?_
  refine zk_istore_n (i := 1) dX9_layFree_6 rfl (by decide) (zk_eq [_, _] rfl ?_)
  exact ok_X9_layFree_L7 hj r  _ _ _ h
def D_X9_layStrain_B236 (rec55 : Int32 → zS → Option zS) (a1 : Int32) (a2 : Int32) (rec236 : Int32 → zS → Option zS) (a4 : Int32) (s : zS) : Option zS :=
    if a1 ≤ a4 then (
      rec55 a2 s
    ) else (
      zgd (zin (a4 - (1 : Int32)) 5 = true) <|
      zgd (zin a4 5 = true) <|
      let s259 : zS := zwI s 84 a4.toNatClampNeg ((s.1 84 (a4 - (1 : Int32)).toNatClampNeg) + (1 : Int32))
      rec236 (a4 + 1) s259
    )
def D_X9_layStrain_L236 (rec55 : Int32 → zS → Option zS) (a1 : Int32) (a2 : Int32) (n : Nat) (a4 : Int32) (s : zS) : Option zS := zfx (fun (rec : Int32 × zS → Option zS) q => D_X9_layStrain_B236 rec55 a1 a2 (fun v0 v1 => rec (v0, v1)) q.1 q.2) n (a4, s)
set_option maxRecDepth 100000 in
theorem D_X9_layStrain_L236_s (rec55 : Int32 → zS → Option zS) (a1 : Int32) (a2 : Int32) (n : Nat) (a4 : Int32) (s : zS) : D_X9_layStrain_L236 rec55 a1 a2 (n + 1) a4 s = D_X9_layStrain_B236 rec55 a1 a2 (D_X9_layStrain_L236 rec55 a1 a2 n) a4 s := rfl
set_option maxRecDepth 100000 in
theorem ok_X9_layStrain_L236 {l : Launch} {D : va_G} {ad : Nat → Nat} {cA : Nat → ClassId} (hj : zInj ad) (r : zS) (a1 : Int32) (a2 : Int32) (rec55 : Int32 → zS → Option zS) (hr55 : ∀ (b2 : Int32) (s : zS), rec55 b2 s = some r → zOk l D ad cA (zJm jX9_layStrain) (zEnd D ad cA none r) 55 [some (.ref 66), some (.int a1), some (.int b2), none, none] [] s) : ∀ (n : Nat) (a4 : Int32) (s : zS), D_X9_layStrain_L236 rec55 a1 a2 n a4 s = some r → zOk l D ad cA (zJm jX9_layStrain) (zEnd D ad cA none r) 236 [some (.ref 66), some (.int a1), some (.int a2), none, some (.int a4)] [] s := by
  intro n
  induction n with
  | zero =>
    intro a4 s h
    have h0 : (none : Option zS) = some r := h
    cases h0
  | succ n hr236 =>
    intro a4 s h
    have h : D_X9_layStrain_B236 rec55 a1 a2 (D_X9_layStrain_L236 rec55 a1 a2 n) a4 s = some r := h
    unfold D_X9_layStrain_B236 at h
    refine zk_iload dX9_layStrain_236 rfl ?_
    refine zk_iload_n dX9_layStrain_238 rfl rfl ?_
    refine zk_icmp_ge (tgt := 266) dX9_layStrain_239 rfl (fun g239 => ?_) (fun g239 => ?_)
    · replace h := zpos g239 h
      refine zk_goto (tgt := 55) dX9_layStrain_266 rfl ?_
      refine zk_mask [true, true, true, false, false] ?_
      exact hr55 _ _ h
    · replace h := zneg g239 h
      refine zk_aload_n dX9_layStrain_242 rfl rfl ?_
      refine zf_X9_76 rfl dX9_layStrain_243 ?_
      refine zk_iload dX9_layStrain_246 rfl ?_
      refine zk_aload_n dX9_layStrain_248 rfl rfl ?_
      refine zf_X9_76 rfl dX9_layStrain_249 ?_
      refine zk_iload dX9_layStrain_252 rfl ?_
      refine zk_iconst (v := 1) dX9_layStrain_254 (by decide) ?_
      refine zk_isub dX9_layStrain_255 ?_
      obtain ⟨g256, h⟩ := zguard h
      refine zk_iald (zoI_of rfl g256) dX9_layStrain_256 ?_
      refine zk_iconst (v := 1) dX9_layStrain_257 (by decide) ?_
      refine zk_iadd dX9_layStrain_258 ?_
      obtain ⟨g259, h⟩ := zguard h
      refine zk_iast (zoI_of rfl g259) dX9_layStrain_259 ?_
      refine zk_iinc dX9_layStrain_260 rfl (zinc (m := 1) (by decide)) (by decide) (zk_eq [_, _, _, _, _] rfl ?_)
      refine zk_goto (tgt := 236) dX9_layStrain_263 rfl ?_
      exact hr236 _ _ h
def D_X9_layStrain_J216 (rec55 : Int32 → zS → Option zS) (s : zS) (a1 : Int32) (a3 : Int32) (k0 : Int32) : Option zS :=
  if k0 = 0 then (
    rec55 k0 s
  ) else (
    zgd (zin a3 5 = true) <|
    zgd (zin a3 5 = true) <|
    let s230 : zS := zwI s 84 a3.toNatClampNeg ((s.1 84 a3.toNatClampNeg) + (1 : Int32))
    D_X9_layStrain_L236 rec55 a1 k0 zFU (a3 + (1 : Int32)) s230
  )
set_option maxRecDepth 100000 in
theorem ok_X9_layStrain_J216 {l : Launch} {D : va_G} {ad : Nat → Nat} {cA : Nat → ClassId} (hj : zInj ad) (r : zS) (s : zS) (a1 : Int32) (a3 : Int32) (k0 : Int32) (rec55 : Int32 → zS → Option zS) (hr55 : ∀ (b2 : Int32) (s : zS), rec55 b2 s = some r → zOk l D ad cA (zJm jX9_layStrain) (zEnd D ad cA none r) 55 [some (.ref 66), some (.int a1), some (.int b2), none, none] [] s) (h : D_X9_layStrain_J216 rec55 s a1 a3 k0 = some r) : zOk l D ad cA (zJm jX9_layStrain) (zEnd D ad cA none r) 216 [some (.ref 66), some (.int a1), none, some (.int a3), none] [.int k0] s := by
  unfold D_X9_layStrain_J216 at h
  refine zk_istore_n (i := 2) dX9_layStrain_216 rfl (by decide) (zk_eq [_, _, _, _, _] rfl ?_)
  refine zk_iload_n dX9_layStrain_217 rfl rfl ?_
  refine zk_if_eq (tgt := 266) dX9_layStrain_218 rfl (fun g218 => ?_) (fun g218 => ?_)
  · replace h := zpos g218 h
    refine zk_goto (tgt := 55) dX9_layStrain_266 rfl ?_
    refine zk_mask [true, true, true, false, false] ?_
    exact hr55 _ _ h
  · replace h := zneg g218 h
    refine zk_aload_n dX9_layStrain_221 rfl rfl ?_
    refine zf_X9_76 rfl dX9_layStrain_222 ?_
    refine zk_iload_n dX9_layStrain_225 rfl rfl ?_
    refine zk_dup2 dX9_layStrain_226 rfl rfl ?_
    obtain ⟨g227, h⟩ := zguard h
    refine zk_iald (zoI_of rfl g227) dX9_layStrain_227 ?_
    refine zk_iconst (v := 1) dX9_layStrain_228 (by decide) ?_
    refine zk_iadd dX9_layStrain_229 ?_
    obtain ⟨g230, h⟩ := zguard h
    refine zk_iast (zoI_of rfl g230) dX9_layStrain_230 ?_
    refine zk_iload_n dX9_layStrain_231 rfl rfl ?_
    refine zk_iconst (v := 1) dX9_layStrain_232 (by decide) ?_
    refine zk_iadd dX9_layStrain_233 ?_
    refine zk_istore (i := 4) dX9_layStrain_234 (by decide) (zk_eq [_, _, _, _, _] rfl ?_)
    refine zk_mask [true, true, true, false, true] ?_
    exact ok_X9_layStrain_L236 hj r _ _ _ hr55 _ _ _ h
def D_X9_layStrain_J207 (rec55 : Int32 → zS → Option zS) (s : zS) (a1 : Int32) (a3 : Int32) : Option zS :=
  if a3 < 0 then (
    D_X9_layStrain_J216 rec55 s a1 a3 (0 : Int32)
  ) else (
    D_X9_layStrain_J216 rec55 s a1 a3 (1 : Int32)
  )
set_option maxRecDepth 100000 in
theorem ok_X9_layStrain_J207 {l : Launch} {D : va_G} {ad : Nat → Nat} {cA : Nat → ClassId} (hj : zInj ad) (r : zS) (s : zS) (a1 : Int32) (a3 : Int32) (rec55 : Int32 → zS → Option zS) (hr55 : ∀ (b2 : Int32) (s : zS), rec55 b2 s = some r → zOk l D ad cA (zJm jX9_layStrain) (zEnd D ad cA none r) 55 [some (.ref 66), some (.int a1), some (.int b2), none, none] [] s) (h : D_X9_layStrain_J207 rec55 s a1 a3 = some r) : zOk l D ad cA (zJm jX9_layStrain) (zEnd D ad cA none r) 207 [some (.ref 66), some (.int a1), none, some (.int a3), none] [] s := by
  unfold D_X9_layStrain_J207 at h
  refine zk_iload_n dX9_layStrain_207 rfl rfl ?_
  refine zk_if_lt (tgt := 215) dX9_layStrain_208 rfl (fun g208 => ?_) (fun g208 => ?_)
  · replace h := zpos g208 h
    refine zk_iconst (v := 0) dX9_layStrain_215 (by decide) ?_
    exact ok_X9_layStrain_J216 hj r _ _ _ _ _ hr55 h
  · replace h := zneg g208 h
    refine zk_iconst (v := 1) dX9_layStrain_211 (by decide) ?_
    refine zk_goto (tgt := 216) dX9_layStrain_212 rfl ?_
    exact ok_X9_layStrain_J216 hj r _ _ _ _ _ hr55 h
def D_X9_layStrain_B180 (rec55 : Int32 → zS → Option zS) (s : zS) (a1 : Int32) (rec180 : Int32 → Option zS) (a3 : Int32) : Option zS :=
    if a3 < 0 then (
      D_X9_layStrain_J207 rec55 s a1 a3
    ) else (
      zgd (zin a3 5 = true) <|
      if (s.1 84 a3.toNatClampNeg) = (((s.1 66 28) - a1) + a3) then (
        rec180 (a3 + -1)
      ) else (
        D_X9_layStrain_J207 rec55 s a1 a3
      )
    )
def D_X9_layStrain_L180 (rec55 : Int32 → zS → Option zS) (s : zS) (a1 : Int32) (n : Nat) (a3 : Int32) : Option zS := zfx (fun (rec : Int32 → Option zS) q => D_X9_layStrain_B180 rec55 s a1 (fun v0 => rec (v0)) q) n (a3)
set_option maxRecDepth 100000 in
theorem D_X9_layStrain_L180_s (rec55 : Int32 → zS → Option zS) (s : zS) (a1 : Int32) (n : Nat) (a3 : Int32) : D_X9_layStrain_L180 rec55 s a1 (n + 1) a3 = D_X9_layStrain_B180 rec55 s a1 (D_X9_layStrain_L180 rec55 s a1 n) a3 := rfl
set_option maxRecDepth 100000 in
theorem ok_X9_layStrain_L180 {l : Launch} {D : va_G} {ad : Nat → Nat} {cA : Nat → ClassId} (hj : zInj ad) (r : zS) (s : zS) (a1 : Int32) (rec55 : Int32 → zS → Option zS) (hr55 : ∀ (b2 : Int32) (s : zS), rec55 b2 s = some r → zOk l D ad cA (zJm jX9_layStrain) (zEnd D ad cA none r) 55 [some (.ref 66), some (.int a1), some (.int b2), none, none] [] s) : ∀ (n : Nat) (a3 : Int32), D_X9_layStrain_L180 rec55 s a1 n a3 = some r → zOk l D ad cA (zJm jX9_layStrain) (zEnd D ad cA none r) 180 [some (.ref 66), some (.int a1), none, some (.int a3), none] [] s := by
  intro n
  induction n with
  | zero =>
    intro a3 h
    have h0 : (none : Option zS) = some r := h
    cases h0
  | succ n hr180 =>
    intro a3 h
    have h : D_X9_layStrain_B180 rec55 s a1 (D_X9_layStrain_L180 rec55 s a1 n) a3 = some r := h
    unfold D_X9_layStrain_B180 at h
    refine zk_iload_n dX9_layStrain_180 rfl rfl ?_
    refine zk_if_lt (tgt := 207) dX9_layStrain_181 rfl (fun g181 => ?_) (fun g181 => ?_)
    · replace h := zpos g181 h
      exact ok_X9_layStrain_J207 hj r _ _ _ _ hr55 h
    · replace h := zneg g181 h
      refine zk_aload_n dX9_layStrain_184 rfl rfl ?_
      refine zf_X9_76 rfl dX9_layStrain_185 ?_
      refine zk_iload_n dX9_layStrain_188 rfl rfl ?_
      obtain ⟨g189, h⟩ := zguard h
      refine zk_iald (zoI_of rfl g189) dX9_layStrain_189 ?_
      refine zk_aload_n dX9_layStrain_190 rfl rfl ?_
      refine zf_X9_141 rfl dX9_layStrain_191 ?_
      refine zk_iload_n dX9_layStrain_194 rfl rfl ?_
      refine zk_isub dX9_layStrain_195 ?_
      refine zk_iload_n dX9_layStrain_196 rfl rfl ?_
      refine zk_iadd dX9_layStrain_197 ?_
      refine zk_icmp_ne (tgt := 207) dX9_layStrain_198 rfl (fun g198 => ?_) (fun g198 => ?_)
      · replace h := zneg g198 h
        exact ok_X9_layStrain_J207 hj r _ _ _ _ hr55 h
      · replace h := zpos g198 h
        refine zk_iinc dX9_layStrain_201 rfl (zinc (m := -1) (by decide)) (by decide) (zk_eq [_, _, _, _, _] rfl ?_)
        refine zk_goto (tgt := 180) dX9_layStrain_204 rfl ?_
        exact hr180 _ h
def D_X9_layStrain_J176 (rec55 : Int32 → zS → Option zS) (s : zS) (a1 : Int32) : Option zS :=
  D_X9_layStrain_L180 rec55 s a1 zFU (a1 - (1 : Int32))
set_option maxRecDepth 100000 in
theorem ok_X9_layStrain_J176 {l : Launch} {D : va_G} {ad : Nat → Nat} {cA : Nat → ClassId} (hj : zInj ad) (r : zS) (s : zS) (a1 : Int32) (rec55 : Int32 → zS → Option zS) (hr55 : ∀ (b2 : Int32) (s : zS), rec55 b2 s = some r → zOk l D ad cA (zJm jX9_layStrain) (zEnd D ad cA none r) 55 [some (.ref 66), some (.int a1), some (.int b2), none, none] [] s) (h : D_X9_layStrain_J176 rec55 s a1 = some r) : zOk l D ad cA (zJm jX9_layStrain) (zEnd D ad cA none r) 176 [some (.ref 66), some (.int a1), none, none, none] [] s := by
  unfold D_X9_layStrain_J176 at h
  refine zk_iload_n dX9_layStrain_176 rfl rfl ?_
  refine zk_iconst (v := 1) dX9_layStrain_177 (by decide) ?_
  refine zk_isub dX9_layStrain_178 ?_
  refine zk_istore_n (i := 3) dX9_layStrain_179 rfl (by decide) (zk_eq [_, _, _, _, _] rfl ?_)
  exact ok_X9_layStrain_L180 hj r _ _ _ hr55 _ _ h
def D_X9_layStrain_B119 (rec55 : Int32 → zS → Option zS) (a1 : Int32) (rec119 : Int32 → zS → Option zS) (a3 : Int32) (s : zS) : Option zS :=
    if a1 ≤ a3 then (
      D_X9_layStrain_J176 rec55 s a1
    ) else (
      zgd (zin (((6 : Int32) * a3) + (5 : Int32)) 30 = true) <|
      if (lg_cmp (s.2 77 (((6 : Int32) * a3) + (5 : Int32)).toNatClampNeg) (0 : Int64)) ≤ 0 then (
        rec119 (a3 + 1) s
      ) else (
        zgd (zin a3 5 = true) <|
        zgd (zin (s.1 84 a3.toNatClampNeg) 14 = true) <|
        zgd (zin (s.1 66 32) 5 = true) <|
        let s159 : zS := zwI s 85 (s.1 66 32).toNatClampNeg (s.1 83 (s.1 84 a3.toNatClampNeg).toNatClampNeg)
        let s167 : zS := zwI s159 66 32 ((s159.1 66 32) + (1 : Int32))
        rec119 (a3 + 1) s167
      )
    )
def D_X9_layStrain_L119 (rec55 : Int32 → zS → Option zS) (a1 : Int32) (n : Nat) (a3 : Int32) (s : zS) : Option zS := zfx (fun (rec : Int32 × zS → Option zS) q => D_X9_layStrain_B119 rec55 a1 (fun v0 v1 => rec (v0, v1)) q.1 q.2) n (a3, s)
set_option maxRecDepth 100000 in
theorem D_X9_layStrain_L119_s (rec55 : Int32 → zS → Option zS) (a1 : Int32) (n : Nat) (a3 : Int32) (s : zS) : D_X9_layStrain_L119 rec55 a1 (n + 1) a3 s = D_X9_layStrain_B119 rec55 a1 (D_X9_layStrain_L119 rec55 a1 n) a3 s := rfl
set_option maxRecDepth 100000 in
theorem ok_X9_layStrain_L119 {l : Launch} {D : va_G} {ad : Nat → Nat} {cA : Nat → ClassId} (hj : zInj ad) (r : zS) (a1 : Int32) (rec55 : Int32 → zS → Option zS) (hr55 : ∀ (b2 : Int32) (s : zS), rec55 b2 s = some r → zOk l D ad cA (zJm jX9_layStrain) (zEnd D ad cA none r) 55 [some (.ref 66), some (.int a1), some (.int b2), none, none] [] s) : ∀ (n : Nat) (a3 : Int32) (s : zS), D_X9_layStrain_L119 rec55 a1 n a3 s = some r → zOk l D ad cA (zJm jX9_layStrain) (zEnd D ad cA none r) 119 [some (.ref 66), some (.int a1), none, some (.int a3), none] [] s := by
  intro n
  induction n with
  | zero =>
    intro a3 s h
    have h0 : (none : Option zS) = some r := h
    cases h0
  | succ n hr119 =>
    intro a3 s h
    have h : D_X9_layStrain_B119 rec55 a1 (D_X9_layStrain_L119 rec55 a1 n) a3 s = some r := h
    unfold D_X9_layStrain_B119 at h
    refine zk_iload_n dX9_layStrain_119 rfl rfl ?_
    refine zk_iload_n dX9_layStrain_120 rfl rfl ?_
    refine zk_icmp_ge (tgt := 176) dX9_layStrain_121 rfl (fun g121 => ?_) (fun g121 => ?_)
    · replace h := zpos g121 h
      refine zk_mask [true, true, false, false, false] ?_
      exact ok_X9_layStrain_J176 hj r _ _ _ hr55 h
    · replace h := zneg g121 h
      refine zk_aload_n dX9_layStrain_124 rfl rfl ?_
      refine zf_X9_54 rfl dX9_layStrain_125 ?_
      refine zk_bipush (v := 6) dX9_layStrain_128 (by decide) ?_
      refine zk_iload_n dX9_layStrain_130 rfl rfl ?_
      refine zk_imul dX9_layStrain_131 ?_
      refine zk_iconst (v := 5) dX9_layStrain_132 (by decide) ?_
      refine zk_iadd dX9_layStrain_133 ?_
      obtain ⟨g134, h⟩ := zguard h
      refine zk_lald (zoL_of rfl g134) dX9_layStrain_134 ?_
      refine zk_lconst (v := 0) dX9_layStrain_135 (by decide) ?_
      refine zk_lcmp dX9_layStrain_136 ?_
      refine zk_if_le (tgt := 170) dX9_layStrain_137 rfl (fun g137 => ?_) (fun g137 => ?_)
      · replace h := zpos g137 h
        refine zk_iinc dX9_layStrain_170 rfl (zinc (m := 1) (by decide)) (by decide) (zk_eq [_, _, _, _, _] rfl ?_)
        refine zk_goto (tgt := 119) dX9_layStrain_173 rfl ?_
        exact hr119 _ _ h
      · replace h := zneg g137 h
        refine zk_aload_n dX9_layStrain_140 rfl rfl ?_
        refine zf_X9_79 rfl dX9_layStrain_141 ?_
        refine zk_aload_n dX9_layStrain_144 rfl rfl ?_
        refine zf_X9_164 rfl dX9_layStrain_145 ?_
        refine zk_aload_n dX9_layStrain_148 rfl rfl ?_
        refine zf_X9_73 rfl dX9_layStrain_149 ?_
        refine zk_aload_n dX9_layStrain_152 rfl rfl ?_
        refine zf_X9_76 rfl dX9_layStrain_153 ?_
        refine zk_iload_n dX9_layStrain_156 rfl rfl ?_
        obtain ⟨g157, h⟩ := zguard h
        refine zk_iald (zoI_of rfl g157) dX9_layStrain_157 ?_
        obtain ⟨g158, h⟩ := zguard h
        refine zk_iald (zoI_of rfl g158) dX9_layStrain_158 ?_
        obtain ⟨g159, h⟩ := zguard h
        refine zk_iast (zoI_of rfl g159) dX9_layStrain_159 ?_
        refine zk_aload_n dX9_layStrain_160 rfl rfl ?_
        refine zk_dup dX9_layStrain_161 rfl ?_
        refine zf_X9_164 rfl dX9_layStrain_162 ?_
        refine zk_iconst (v := 1) dX9_layStrain_165 (by decide) ?_
        refine zk_iadd dX9_layStrain_166 ?_
        refine zp_X9_164 rfl dX9_layStrain_167 ?_
        refine zk_iinc dX9_layStrain_170 rfl (zinc (m := 1) (by decide)) (by decide) (zk_eq [_, _, _, _, _] rfl ?_)
        refine zk_goto (tgt := 119) dX9_layStrain_173 rfl ?_
        exact hr119 _ _ h
def D_X9_layStrain_J96 (rec55 : Int32 → zS → Option zS) (s : zS) (a1 : Int32) : Option zS :=
  let s101 : zS := zwL s 66 33 (s.2 66 35)
  let s109 : zS := zwL s101 66 34 (s101.2 66 36)
  let s114 : zS := zwI s109 66 32 (0 : Int32)
  D_X9_layStrain_L119 rec55 a1 zFU (0 : Int32) s114
set_option maxRecDepth 100000 in
theorem ok_X9_layStrain_J96 {l : Launch} {D : va_G} {ad : Nat → Nat} {cA : Nat → ClassId} (hj : zInj ad) (r : zS) (s : zS) (a1 : Int32) (rec55 : Int32 → zS → Option zS) (hr55 : ∀ (b2 : Int32) (s : zS), rec55 b2 s = some r → zOk l D ad cA (zJm jX9_layStrain) (zEnd D ad cA none r) 55 [some (.ref 66), some (.int a1), some (.int b2), none, none] [] s) (h : D_X9_layStrain_J96 rec55 s a1 = some r) : zOk l D ad cA (zJm jX9_layStrain) (zEnd D ad cA none r) 96 [some (.ref 66), some (.int a1), none, none, none] [] s := by
  unfold D_X9_layStrain_J96 at h
  refine zk_aload_n dX9_layStrain_96 rfl rfl ?_
  refine zk_aload_n dX9_layStrain_97 rfl rfl ?_
  refine zf_X9_155 rfl dX9_layStrain_98 ?_
  refine zp_X9_173 rfl dX9_layStrain_101 ?_
  refine zk_aload_n dX9_layStrain_104 rfl rfl ?_
  refine zk_aload_n dX9_layStrain_105 rfl rfl ?_
  refine zf_X9_158 rfl dX9_layStrain_106 ?_
  refine zp_X9_170 rfl dX9_layStrain_109 ?_
  refine zk_aload_n dX9_layStrain_112 rfl rfl ?_
  refine zk_iconst (v := 0) dX9_layStrain_113 (by decide) ?_
  refine zp_X9_164 rfl dX9_layStrain_114 ?_
  refine zk_iconst (v := 0) dX9_layStrain_117 (by decide) ?_
  refine zk_istore_n (i := 3) dX9_layStrain_118 rfl (by decide) (zk_eq [_, _, _, _, _] rfl ?_)
  exact ok_X9_layStrain_L119 hj r _ _ hr55 _ _ _ h
def D_X9_layStrain_B55 (a1 : Int32) (rec55 : Int32 → zS → Option zS) (a2 : Int32) (s : zS) : Option zS :=
    if a2 = 0 then (
      some s
    ) else (
      (D_X9_balances s a1).bind fun p61 =>
      if p61.1 = 0 then (
        D_X9_layStrain_J176 rec55 p61.2 a1
      ) else (
        if (p61.2.1 66 32) = 0 then (
          D_X9_layStrain_J96 rec55 p61.2 a1
        ) else (
          if (lg_cmp ((p61.2.2 66 35) * (p61.2.2 66 34)) ((p61.2.2 66 33) * (p61.2.2 66 36))) ≤ 0 then (
            D_X9_layStrain_J176 rec55 p61.2 a1
          ) else (
            D_X9_layStrain_J96 rec55 p61.2 a1
          )
        )
      )
    )
def D_X9_layStrain_L55 (a1 : Int32) (n : Nat) (a2 : Int32) (s : zS) : Option zS := zfx (fun (rec : Int32 × zS → Option zS) q => D_X9_layStrain_B55 a1 (fun v0 v1 => rec (v0, v1)) q.1 q.2) n (a2, s)
set_option maxRecDepth 100000 in
theorem D_X9_layStrain_L55_s (a1 : Int32) (n : Nat) (a2 : Int32) (s : zS) : D_X9_layStrain_L55 a1 (n + 1) a2 s = D_X9_layStrain_B55 a1 (D_X9_layStrain_L55 a1 n) a2 s := rfl
set_option maxRecDepth 100000 in
theorem ok_X9_layStrain_L55 {l : Launch} {D : va_G} {ad : Nat → Nat} {cA : Nat → ClassId} (hj : zInj ad) (r : zS) (a1 : Int32) : ∀ (n : Nat) (a2 : Int32) (s : zS), D_X9_layStrain_L55 a1 n a2 s = some r → zOk l D ad cA (zJm jX9_layStrain) (zEnd D ad cA none r) 55 [some (.ref 66), some (.int a1), some (.int a2), none, none] [] s := by
  intro n
  induction n with
  | zero =>
    intro a2 s h
    have h0 : (none : Option zS) = some r := h
    cases h0
  | succ n hr55 =>
    intro a2 s h
    have h : D_X9_layStrain_B55 a1 (D_X9_layStrain_L55 a1 n) a2 s = some r := h
    unfold D_X9_layStrain_B55 at h
    refine zk_iload_n dX9_layStrain_55 rfl rfl ?_
    refine zk_if_eq (tgt := 269) dX9_layStrain_56 rfl (fun g56 => ?_) (fun g56 => ?_)
    · replace h := zpos g56 h
      have e9 := Option.some.inj h
      subst e9
      exact zk_vret rfl ⟨rfl, rfl⟩ dX9_layStrain_269
    · replace h := zneg g56 h
      refine zk_aload_n dX9_layStrain_59 rfl rfl ?_
      refine zk_iload_n dX9_layStrain_60 rfl rfl ?_
      obtain ⟨p61, h61, h⟩ := zbind h
      refine zc_X9_167 [] (As := [.int _]) (ok_X9_balances hj _ _ h61) rfl ⟨Nat.le_of_ble_eq_true rfl, Nat.le_of_ble_eq_true rfl⟩ ⟨Nat.le_refl _, Nat.le_refl _⟩ rfl rfl (Nat.le_of_ble_eq_true rfl) dX9_layStrain_61 ?_
      refine zk_if_eq (tgt := 176) dX9_layStrain_64 rfl (fun g64 => ?_) (fun g64 => ?_)
      · replace h := zpos g64 h
        refine zk_mask [true, true, false, false, false] ?_
        exact ok_X9_layStrain_J176 hj r _ _ _ hr55 h
      · replace h := zneg g64 h
        refine zk_aload_n dX9_layStrain_67 rfl rfl ?_
        refine zf_X9_164 rfl dX9_layStrain_68 ?_
        refine zk_if_eq (tgt := 96) dX9_layStrain_71 rfl (fun g71 => ?_) (fun g71 => ?_)
        · replace h := zpos g71 h
          refine zk_mask [true, true, false, false, false] ?_
          exact ok_X9_layStrain_J96 hj r _ _ _ hr55 h
        · replace h := zneg g71 h
          refine zk_aload_n dX9_layStrain_74 rfl rfl ?_
          refine zf_X9_155 rfl dX9_layStrain_75 ?_
          refine zk_aload_n dX9_layStrain_78 rfl rfl ?_
          refine zf_X9_170 rfl dX9_layStrain_79 ?_
          refine zk_lmul dX9_layStrain_82 ?_
          refine zk_aload_n dX9_layStrain_83 rfl rfl ?_
          refine zf_X9_173 rfl dX9_layStrain_84 ?_
          refine zk_aload_n dX9_layStrain_87 rfl rfl ?_
          refine zf_X9_158 rfl dX9_layStrain_88 ?_
          refine zk_lmul dX9_layStrain_91 ?_
          refine zk_lcmp dX9_layStrain_92 ?_
          refine zk_if_le (tgt := 176) dX9_layStrain_93 rfl (fun g93 => ?_) (fun g93 => ?_)
          · replace h := zpos g93 h
            refine zk_mask [true, true, false, false, false] ?_
            exact ok_X9_layStrain_J176 hj r _ _ _ hr55 h
          · replace h := zneg g93 h
            refine zk_mask [true, true, false, false, false] ?_
            exact ok_X9_layStrain_J96 hj r _ _ _ hr55 h
def D_X9_layStrain_J54 (s : zS) (a1 : Int32) (k0 : Int32) : Option zS :=
  D_X9_layStrain_L55 a1 zFU k0 s
set_option maxRecDepth 100000 in
theorem ok_X9_layStrain_J54 {l : Launch} {D : va_G} {ad : Nat → Nat} {cA : Nat → ClassId} (hj : zInj ad) (r : zS) (s : zS) (a1 : Int32) (k0 : Int32) (h : D_X9_layStrain_J54 s a1 k0 = some r) : zOk l D ad cA (zJm jX9_layStrain) (zEnd D ad cA none r) 54 [some (.ref 66), some (.int a1), none, none, none] [.int k0] s := by
  unfold D_X9_layStrain_J54 at h
  refine zk_istore_n (i := 2) dX9_layStrain_54 rfl (by decide) (zk_eq [_, _, _, _, _] rfl ?_)
  exact ok_X9_layStrain_L55 hj r _ _ _ _ h
def D_X9_layStrain_B23 (a1 : Int32) (rec23 : Int32 → zS → Option zS) (a2 : Int32) (s : zS) : Option zS :=
    if a1 ≤ a2 then (
      if (s.1 66 28) < a1 then (
        D_X9_layStrain_J54 s a1 (0 : Int32)
      ) else (
        D_X9_layStrain_J54 s a1 (1 : Int32)
      )
    ) else (
      zgd (zin a2 5 = true) <|
      let s34 : zS := zwI s 84 a2.toNatClampNeg a2
      rec23 (a2 + 1) s34
    )
def D_X9_layStrain_L23 (a1 : Int32) (n : Nat) (a2 : Int32) (s : zS) : Option zS := zfx (fun (rec : Int32 × zS → Option zS) q => D_X9_layStrain_B23 a1 (fun v0 v1 => rec (v0, v1)) q.1 q.2) n (a2, s)
set_option maxRecDepth 100000 in
theorem D_X9_layStrain_L23_s (a1 : Int32) (n : Nat) (a2 : Int32) (s : zS) : D_X9_layStrain_L23 a1 (n + 1) a2 s = D_X9_layStrain_B23 a1 (D_X9_layStrain_L23 a1 n) a2 s := rfl
set_option maxRecDepth 100000 in
theorem ok_X9_layStrain_L23 {l : Launch} {D : va_G} {ad : Nat → Nat} {cA : Nat → ClassId} (hj : zInj ad) (r : zS) (a1 : Int32) : ∀ (n : Nat) (a2 : Int32) (s : zS), D_X9_layStrain_L23 a1 n a2 s = some r → zOk l D ad cA (zJm jX9_layStrain) (zEnd D ad cA none r) 23 [some (.ref 66), some (.int a1), some (.int a2), none, none] [] s := by
  intro n
  induction n with
  | zero =>
    intro a2 s h
    have h0 : (none : Option zS) = some r := h
    cases h0
  | succ n hr23 =>
    intro a2 s h
    have h : D_X9_layStrain_B23 a1 (D_X9_layStrain_L23 a1 n) a2 s = some r := h
    unfold D_X9_layStrain_B23 at h
    refine zk_iload_n dX9_layStrain_23 rfl rfl ?_
    refine zk_iload_n dX9_layStrain_24 rfl rfl ?_
    refine zk_icmp_ge (tgt := 41) dX9_layStrain_25 rfl (fun g25 => ?_) (fun g25 => ?_)
    · replace h := zpos g25 h
      refine zk_aload_n dX9_layStrain_41 rfl rfl ?_
      refine zf_X9_141 rfl dX9_layStrain_42 ?_
      refine zk_iload_n dX9_layStrain_45 rfl rfl ?_
      refine zk_icmp_lt (tgt := 53) dX9_layStrain_46 rfl (fun g46 => ?_) (fun g46 => ?_)
      · replace h := zpos g46 h
        refine zk_iconst (v := 0) dX9_layStrain_53 (by decide) ?_
        refine zk_mask [true, true, false, false, false] ?_
        exact ok_X9_layStrain_J54 hj r _ _ _ h
      · replace h := zneg g46 h
        refine zk_iconst (v := 1) dX9_layStrain_49 (by decide) ?_
        refine zk_goto (tgt := 54) dX9_layStrain_50 rfl ?_
        refine zk_mask [true, true, false, false, false] ?_
        exact ok_X9_layStrain_J54 hj r _ _ _ h
    · replace h := zneg g25 h
      refine zk_aload_n dX9_layStrain_28 rfl rfl ?_
      refine zf_X9_76 rfl dX9_layStrain_29 ?_
      refine zk_iload_n dX9_layStrain_32 rfl rfl ?_
      refine zk_iload_n dX9_layStrain_33 rfl rfl ?_
      obtain ⟨g34, h⟩ := zguard h
      refine zk_iast (zoI_of rfl g34) dX9_layStrain_34 ?_
      refine zk_iinc dX9_layStrain_35 rfl (zinc (m := 1) (by decide)) (by decide) (zk_eq [_, _, _, _, _] rfl ?_)
      refine zk_goto (tgt := 23) dX9_layStrain_38 rfl ?_
      exact hr23 _ _ h
def D_X9_layStrain (s : zS) : Option zS :=
  (D_X9_layFree s).bind fun p1 =>
  let s18 : zS := zwI p1 66 32 (0 : Int32)
  D_X9_layStrain_L23 (((p1.1 66 0) - (p1.1 66 23)) + (1 : Int32)) zFU (0 : Int32) s18
set_option maxRecDepth 100000 in
theorem ok_X9_layStrain {l : Launch} {D : va_G} {ad : Nat → Nat} {cA : Nat → ClassId} (hj : zInj ad) (s : zS)  {r : zS} (h : D_X9_layStrain s = some r) : zMet l D ad cA jX9_layStrain [.ref 66] s none r := by
  refine zMet_of jX9_layStrain [some (.ref 66), none, none, none, none] (by decide +kernel) (Nat.le_of_ble_eq_true rfl) rfl hj ?_
  unfold D_X9_layStrain at h
  refine zk_aload_n dX9_layStrain_0 rfl rfl ?_
  obtain ⟨p1, h1, h⟩ := zbind h
  refine zc_X9_161 [] (As := []) (ok_X9_layFree hj _ h1) rfl ⟨Nat.le_of_ble_eq_true rfl, Nat.le_of_ble_eq_true rfl⟩ ⟨Nat.le_refl _, Nat.le_refl _⟩ rfl rfl (Nat.le_of_ble_eq_true rfl) dX9_layStrain_1 ?_
  refine zk_aload_n dX9_layStrain_4 rfl rfl ?_
  refine zf_X9_7 rfl dX9_layStrain_5 ?_
  refine zk_aload_n dX9_layStrain_8 rfl rfl ?_
  refine zf_X9_138 rfl dX9_layStrain_9 ?_
  refine zk_isub dX9_layStrain_12 ?_
  refine zk_iconst (v := 1) dX9_layStrain_13 (by decide) ?_
  refine zk_iadd dX9_layStrain_14 ?_
  refine zk_istore_n (i := 1) dX9_layStrain_15 rfl (by decide) (zk_eq [_, _, _, _, _] rfl ?_)
  refine zk_aload_n dX9_layStrain_16 rfl rfl ?_
  refine zk_iconst (v := 0) dX9_layStrain_17 (by decide) ?_
  refine zp_X9_164 rfl dX9_layStrain_18 ?_
  refine zk_iconst (v := 0) dX9_layStrain_21 (by decide) ?_
  refine zk_istore_n (i := 2) dX9_layStrain_22 rfl (by decide) (zk_eq [_, _, _, _, _] rfl ?_)
  exact ok_X9_layStrain_L23 hj r _ _ _ _ h
def D_X9_calm_J152 (rec113 : Int32 → zS → Option (Int32 × zS)) (rec123 : Int32 → zS → Option (Int32 × zS)) (s : zS) (a1 : Int32) (a2 : Int32) (a3 : Int32) (k1 : Int32) (k2 : Int32) (k3 : Int64) : Option (Int32 × zS) :=
  (D_X9_put s k1 k2 k3 (1 : Int64)).bind fun p153 =>
  rec123 (a3 + 1) p153
set_option maxRecDepth 100000 in
theorem ok_X9_calm_J152 {l : Launch} {D : va_G} {ad : Nat → Nat} {cA : Nat → ClassId} (hj : zInj ad) (r : (Int32 × zS)) (s : zS) (a1 : Int32) (a2 : Int32) (a3 : Int32) (k1 : Int32) (k2 : Int32) (k3 : Int64) (rec113 : Int32 → zS → Option (Int32 × zS)) (hr113 : ∀ (b2 : Int32) (s : zS), rec113 b2 s = some r → zOk l D ad cA (zJm jX9_calm) (zEnd D ad cA (some (.int r.1)) r.2) 113 [some (.ref 66), some (.int a1), some (.int b2), none, none, none, none] [] s) (rec123 : Int32 → zS → Option (Int32 × zS)) (hr123 : ∀ (b3 : Int32) (s : zS), rec123 b3 s = some r → zOk l D ad cA (zJm jX9_calm) (zEnd D ad cA (some (.int r.1)) r.2) 123 [some (.ref 66), some (.int a1), some (.int a2), some (.int b3), none, none, none] [] s) (h : D_X9_calm_J152 rec113 rec123 s a1 a2 a3 k1 k2 k3 = some r) : zOk l D ad cA (zJm jX9_calm) (zEnd D ad cA (some (.int r.1)) r.2) 152 [some (.ref 66), some (.int a1), some (.int a2), some (.int a3), none, none, none] [.long k3, .int k2, .int k1, .ref 66] s := by
  unfold D_X9_calm_J152 at h
  refine zk_lconst (v := 1) dX9_calm_152 (by decide) ?_
  obtain ⟨p153, h153, h⟩ := zbind h
  refine zc_X9_134 [] (As := [.int _, .int _, .long _, .long _]) (ok_X9_put hj _ _ _ _ _ h153) rfl ⟨Nat.le_of_ble_eq_true rfl, Nat.le_of_ble_eq_true rfl⟩ ⟨Nat.le_refl _, Nat.le_refl _⟩ rfl rfl (Nat.le_of_ble_eq_true rfl) dX9_calm_153 ?_
  refine zk_iinc dX9_calm_156 rfl (zinc (m := 1) (by decide)) (by decide) (zk_eq [_, _, _, _, _, _, _] rfl ?_)
  refine zk_goto (tgt := 123) dX9_calm_159 rfl ?_
  exact hr123 _ _ h
def D_X9_calm_B123 (rec113 : Int32 → zS → Option (Int32 × zS)) (a1 : Int32) (a2 : Int32) (rec123 : Int32 → zS → Option (Int32 × zS)) (a3 : Int32) (s : zS) : Option (Int32 × zS) :=
    if (s.1 66 0) ≤ a3 then (
      zgd (zin a2 5 = true) <|
      zgd (zin a2 5 = true) <|
      (D_X9_put s a2 (5 : Int32) (s.2 80 a2.toNatClampNeg) (s.2 81 a2.toNatClampNeg)).bind fun p177 =>
      rec113 (a2 + 1) p177
    ) else (
      zgd (zin a2 5 = true) <|
      (D_X9_has (s.1 79 a2.toNatClampNeg) a3).bind fun p141 =>
      if p141 = 0 then (
        D_X9_calm_J152 rec113 rec123 s a1 a2 a3 a2 a3 (0 : Int64)
      ) else (
        D_X9_calm_J152 rec113 rec123 s a1 a2 a3 a2 a3 (1 : Int64)
      )
    )
def D_X9_calm_L123 (rec113 : Int32 → zS → Option (Int32 × zS)) (a1 : Int32) (a2 : Int32) (n : Nat) (a3 : Int32) (s : zS) : Option (Int32 × zS) := zfx (fun (rec : Int32 × zS → Option (Int32 × zS)) q => D_X9_calm_B123 rec113 a1 a2 (fun v0 v1 => rec (v0, v1)) q.1 q.2) n (a3, s)
set_option maxRecDepth 100000 in
theorem D_X9_calm_L123_s (rec113 : Int32 → zS → Option (Int32 × zS)) (a1 : Int32) (a2 : Int32) (n : Nat) (a3 : Int32) (s : zS) : D_X9_calm_L123 rec113 a1 a2 (n + 1) a3 s = D_X9_calm_B123 rec113 a1 a2 (D_X9_calm_L123 rec113 a1 a2 n) a3 s := rfl
set_option maxRecDepth 100000 in
theorem ok_X9_calm_L123 {l : Launch} {D : va_G} {ad : Nat → Nat} {cA : Nat → ClassId} (hj : zInj ad) (r : (Int32 × zS)) (a1 : Int32) (a2 : Int32) (rec113 : Int32 → zS → Option (Int32 × zS)) (hr113 : ∀ (b2 : Int32) (s : zS), rec113 b2 s = some r → zOk l D ad cA (zJm jX9_calm) (zEnd D ad cA (some (.int r.1)) r.2) 113 [some (.ref 66), some (.int a1), some (.int b2), none, none, none, none] [] s) : ∀ (n : Nat) (a3 : Int32) (s : zS), D_X9_calm_L123 rec113 a1 a2 n a3 s = some r → zOk l D ad cA (zJm jX9_calm) (zEnd D ad cA (some (.int r.1)) r.2) 123 [some (.ref 66), some (.int a1), some (.int a2), some (.int a3), none, none, none] [] s := by
  intro n
  induction n with
  | zero =>
    intro a3 s h
    have h0 : (none : Option (Int32 × zS)) = some r := h
    cases h0
  | succ n hr123 =>
    intro a3 s h
    have h : D_X9_calm_B123 rec113 a1 a2 (D_X9_calm_L123 rec113 a1 a2 n) a3 s = some r := h
    unfold D_X9_calm_B123 at h
    refine zk_iload_n dX9_calm_123 rfl rfl ?_
    refine zk_aload_n dX9_calm_124 rfl rfl ?_
    refine zf_X9_7 rfl dX9_calm_125 ?_
    refine zk_icmp_ge (tgt := 162) dX9_calm_128 rfl (fun g128 => ?_) (fun g128 => ?_)
    · replace h := zpos g128 h
      refine zk_aload_n dX9_calm_162 rfl rfl ?_
      refine zk_iload_n dX9_calm_163 rfl rfl ?_
      refine zk_iconst (v := 5) dX9_calm_164 (by decide) ?_
      refine zk_aload_n dX9_calm_165 rfl rfl ?_
      refine zf_X9_64 rfl dX9_calm_166 ?_
      refine zk_iload_n dX9_calm_169 rfl rfl ?_
      obtain ⟨g170, h⟩ := zguard h
      refine zk_lald (zoL_of rfl g170) dX9_calm_170 ?_
      refine zk_aload_n dX9_calm_171 rfl rfl ?_
      refine zf_X9_67 rfl dX9_calm_172 ?_
      refine zk_iload_n dX9_calm_175 rfl rfl ?_
      obtain ⟨g176, h⟩ := zguard h
      refine zk_lald (zoL_of rfl g176) dX9_calm_176 ?_
      obtain ⟨p177, h177, h⟩ := zbind h
      refine zc_X9_134 [] (As := [.int _, .int _, .long _, .long _]) (ok_X9_put hj _ _ _ _ _ h177) rfl ⟨Nat.le_of_ble_eq_true rfl, Nat.le_of_ble_eq_true rfl⟩ ⟨Nat.le_refl _, Nat.le_refl _⟩ rfl rfl (Nat.le_of_ble_eq_true rfl) dX9_calm_177 ?_
      refine zk_iinc dX9_calm_180 rfl (zinc (m := 1) (by decide)) (by decide) (zk_eq [_, _, _, _, _, _, _] rfl ?_)
      refine zk_goto (tgt := 113) dX9_calm_183 rfl ?_
      refine zk_mask [true, true, true, false, false, false, false] ?_
      exact hr113 _ _ h
    · replace h := zneg g128 h
      refine zk_aload_n dX9_calm_131 rfl rfl ?_
      refine zk_iload_n dX9_calm_132 rfl rfl ?_
      refine zk_iload_n dX9_calm_133 rfl rfl ?_
      refine zk_aload_n dX9_calm_134 rfl rfl ?_
      refine zf_X9_61 rfl dX9_calm_135 ?_
      refine zk_iload_n dX9_calm_138 rfl rfl ?_
      obtain ⟨g139, h⟩ := zguard h
      refine zk_iald (zoI_of rfl g139) dX9_calm_139 ?_
      refine zk_iload_n dX9_calm_140 rfl rfl ?_
      obtain ⟨p141, h141, h⟩ := zbind h
      refine zc_X9_121 [.int _, .int _, .ref _] (As := [.int _, .int _]) (ok_X9_has hj _ _ _ h141) rfl ⟨Nat.le_of_ble_eq_true rfl, Nat.le_of_ble_eq_true rfl⟩ ⟨Nat.le_refl _, Nat.le_refl _⟩ rfl rfl (Nat.le_of_ble_eq_true rfl) dX9_calm_141 ?_
      refine zk_if_eq (tgt := 151) dX9_calm_144 rfl (fun g144 => ?_) (fun g144 => ?_)
      · replace h := zpos g144 h
        refine zk_lconst (v := 0) dX9_calm_151 (by decide) ?_
        exact ok_X9_calm_J152 hj r _ _ _ _ _ _ _ _ hr113 _ hr123 h
      · replace h := zneg g144 h
        refine zk_lconst (v := 1) dX9_calm_147 (by decide) ?_
        refine zk_goto (tgt := 152) dX9_calm_148 rfl ?_
        exact ok_X9_calm_J152 hj r _ _ _ _ _ _ _ _ hr113 _ hr123 h
def D_X9_calm_B113 (a1 : Int32) (rec113 : Int32 → zS → Option (Int32 × zS)) (a2 : Int32) (s : zS) : Option (Int32 × zS) :=
    if (s.1 66 0) ≤ a2 then (
      (D_X9_solve s (s.1 66 0)).bind fun p191 =>
      zgd (zin (((6 : Int32) * a1) + (5 : Int32)) 30 = true) <|
      zgd (zin (((6 : Int32) * a1) + (5 : Int32)) 30 = true) <|
      (D_X9_fraction p191.2 (p191.2.2 77 (((6 : Int32) * a1) + (5 : Int32)).toNatClampNeg) (p191.2.2 78 (((6 : Int32) * a1) + (5 : Int32)).toNatClampNeg)).bind fun p218 =>
      some (p218.1, p218.2)
    ) else (
      D_X9_calm_L123 rec113 a1 a2 zFU (0 : Int32) s
    )
def D_X9_calm_L113 (a1 : Int32) (n : Nat) (a2 : Int32) (s : zS) : Option (Int32 × zS) := zfx (fun (rec : Int32 × zS → Option (Int32 × zS)) q => D_X9_calm_B113 a1 (fun v0 v1 => rec (v0, v1)) q.1 q.2) n (a2, s)
set_option maxRecDepth 100000 in
theorem D_X9_calm_L113_s (a1 : Int32) (n : Nat) (a2 : Int32) (s : zS) : D_X9_calm_L113 a1 (n + 1) a2 s = D_X9_calm_B113 a1 (D_X9_calm_L113 a1 n) a2 s := rfl
set_option maxRecDepth 100000 in
theorem ok_X9_calm_L113 {l : Launch} {D : va_G} {ad : Nat → Nat} {cA : Nat → ClassId} (hj : zInj ad) (r : (Int32 × zS)) (a1 : Int32) : ∀ (n : Nat) (a2 : Int32) (s : zS), D_X9_calm_L113 a1 n a2 s = some r → zOk l D ad cA (zJm jX9_calm) (zEnd D ad cA (some (.int r.1)) r.2) 113 [some (.ref 66), some (.int a1), some (.int a2), none, none, none, none] [] s := by
  intro n
  induction n with
  | zero =>
    intro a2 s h
    have h0 : (none : Option (Int32 × zS)) = some r := h
    cases h0
  | succ n hr113 =>
    intro a2 s h
    have h : D_X9_calm_B113 a1 (D_X9_calm_L113 a1 n) a2 s = some r := h
    unfold D_X9_calm_B113 at h
    refine zk_iload_n dX9_calm_113 rfl rfl ?_
    refine zk_aload_n dX9_calm_114 rfl rfl ?_
    refine zf_X9_7 rfl dX9_calm_115 ?_
    refine zk_icmp_ge (tgt := 186) dX9_calm_118 rfl (fun g118 => ?_) (fun g118 => ?_)
    · replace h := zpos g118 h
      refine zk_aload_n dX9_calm_186 rfl rfl ?_
      refine zk_aload_n dX9_calm_187 rfl rfl ?_
      refine zf_X9_7 rfl dX9_calm_188 ?_
      obtain ⟨p191, h191, h⟩ := zbind h
      refine zc_X9_152 [] (As := [.int _]) (ok_X9_solve hj _ _ h191) rfl ⟨Nat.le_of_ble_eq_true rfl, Nat.le_of_ble_eq_true rfl⟩ ⟨Nat.le_refl _, Nat.le_refl _⟩ rfl rfl (Nat.le_of_ble_eq_true rfl) dX9_calm_191 ?_
      refine zk_pop dX9_calm_194 rfl ?_
      refine zk_aload_n dX9_calm_195 rfl rfl ?_
      refine zk_aload_n dX9_calm_196 rfl rfl ?_
      refine zf_X9_54 rfl dX9_calm_197 ?_
      refine zk_bipush (v := 6) dX9_calm_200 (by decide) ?_
      refine zk_iload_n dX9_calm_202 rfl rfl ?_
      refine zk_imul dX9_calm_203 ?_
      refine zk_iconst (v := 5) dX9_calm_204 (by decide) ?_
      refine zk_iadd dX9_calm_205 ?_
      obtain ⟨g206, h⟩ := zguard h
      refine zk_lald (zoL_of rfl g206) dX9_calm_206 ?_
      refine zk_aload_n dX9_calm_207 rfl rfl ?_
      refine zf_X9_58 rfl dX9_calm_208 ?_
      refine zk_bipush (v := 6) dX9_calm_211 (by decide) ?_
      refine zk_iload_n dX9_calm_213 rfl rfl ?_
      refine zk_imul dX9_calm_214 ?_
      refine zk_iconst (v := 5) dX9_calm_215 (by decide) ?_
      refine zk_iadd dX9_calm_216 ?_
      obtain ⟨g217, h⟩ := zguard h
      refine zk_lald (zoL_of rfl g217) dX9_calm_217 ?_
      obtain ⟨p218, h218, h⟩ := zbind h
      refine zc_X9_128 [] (As := [.long _, .long _]) (ok_X9_fraction hj _ _ _ h218) rfl ⟨Nat.le_of_ble_eq_true rfl, Nat.le_of_ble_eq_true rfl⟩ ⟨Nat.le_refl _, Nat.le_refl _⟩ rfl rfl (Nat.le_of_ble_eq_true rfl) dX9_calm_218 ?_
      have e9 := Option.some.inj h
      subst e9
      exact zk_iret rfl ⟨rfl, rfl⟩ dX9_calm_221
    · replace h := zneg g118 h
      refine zk_iconst (v := 0) dX9_calm_121 (by decide) ?_
      refine zk_istore_n (i := 3) dX9_calm_122 rfl (by decide) (zk_eq [_, _, _, _, _, _, _] rfl ?_)
      exact ok_X9_calm_L123 hj r _ _ _ hr113 _ _ _ h
def D_X9_calm_B44 (rec15 : zS → Option (Int32 × zS)) (a1 : Int32) (a2 : Int64) (a4 : Int64) (rec44 : Int32 → zS → Option (Int32 × zS)) (a6 : Int32) (s : zS) : Option (Int32 × zS) :=
    if (s.1 66 32) ≤ a6 then (
      rec15 s
    ) else (
      zgd (zin a6 5 = true) <|
      (D_X9_isFree s (s.1 85 a6.toNatClampNeg)).bind fun p61 =>
      if p61.1 = 0 then (
        rec44 (a6 + 1) p61.2
      ) else (
        zgd (zin a6 5 = true) <|
        zgd (zin a6 5 = true) <|
        zgd (zin (p61.2.1 85 a6.toNatClampNeg) 16 = true) <|
        (D_X9_fix p61.2 (p61.2.1 85 a6.toNatClampNeg) (((p61.2.1 67 (p61.2.1 85 a6.toNatClampNeg).toNatClampNeg).toInt64 * a4) - a2) a4).bind fun p95 =>
        rec44 (a6 + 1) p95
      )
    )
def D_X9_calm_L44 (rec15 : zS → Option (Int32 × zS)) (a1 : Int32) (a2 : Int64) (a4 : Int64) (n : Nat) (a6 : Int32) (s : zS) : Option (Int32 × zS) := zfx (fun (rec : Int32 × zS → Option (Int32 × zS)) q => D_X9_calm_B44 rec15 a1 a2 a4 (fun v0 v1 => rec (v0, v1)) q.1 q.2) n (a6, s)
set_option maxRecDepth 100000 in
theorem D_X9_calm_L44_s (rec15 : zS → Option (Int32 × zS)) (a1 : Int32) (a2 : Int64) (a4 : Int64) (n : Nat) (a6 : Int32) (s : zS) : D_X9_calm_L44 rec15 a1 a2 a4 (n + 1) a6 s = D_X9_calm_B44 rec15 a1 a2 a4 (D_X9_calm_L44 rec15 a1 a2 a4 n) a6 s := rfl
set_option maxRecDepth 100000 in
theorem ok_X9_calm_L44 {l : Launch} {D : va_G} {ad : Nat → Nat} {cA : Nat → ClassId} (hj : zInj ad) (r : (Int32 × zS)) (a1 : Int32) (a2 : Int64) (a4 : Int64) (rec15 : zS → Option (Int32 × zS)) (hr15 : ∀  (s : zS), rec15 s = some r → zOk l D ad cA (zJm jX9_calm) (zEnd D ad cA (some (.int r.1)) r.2) 15 [some (.ref 66), some (.int a1), none, none, none, none, none] [] s) : ∀ (n : Nat) (a6 : Int32) (s : zS), D_X9_calm_L44 rec15 a1 a2 a4 n a6 s = some r → zOk l D ad cA (zJm jX9_calm) (zEnd D ad cA (some (.int r.1)) r.2) 44 [some (.ref 66), some (.int a1), some (.long a2), none, some (.long a4), none, some (.int a6)] [] s := by
  intro n
  induction n with
  | zero =>
    intro a6 s h
    have h0 : (none : Option (Int32 × zS)) = some r := h
    cases h0
  | succ n hr44 =>
    intro a6 s h
    have h : D_X9_calm_B44 rec15 a1 a2 a4 (D_X9_calm_L44 rec15 a1 a2 a4 n) a6 s = some r := h
    unfold D_X9_calm_B44 at h
    refine zk_iload dX9_calm_44 rfl ?_
    refine zk_aload_n dX9_calm_46 rfl rfl ?_
    refine zf_X9_164 rfl dX9_calm_47 ?_
    refine zk_icmp_ge (tgt := 104) dX9_calm_50 rfl (fun g50 => ?_) (fun g50 => ?_)
    · replace h := zpos g50 h
      refine zk_goto (tgt := 15) dX9_calm_104 rfl ?_
      refine zk_mask [true, true, false, false, false, false, false] ?_
      exact hr15 _ h
    · replace h := zneg g50 h
      refine zk_aload_n dX9_calm_53 rfl rfl ?_
      refine zk_aload_n dX9_calm_54 rfl rfl ?_
      refine zf_X9_79 rfl dX9_calm_55 ?_
      refine zk_iload dX9_calm_58 rfl ?_
      obtain ⟨g60, h⟩ := zguard h
      refine zk_iald (zoI_of rfl g60) dX9_calm_60 ?_
      obtain ⟨p61, h61, h⟩ := zbind h
      refine zc_X9_144 [] (As := [.int _]) (ok_X9_isFree hj _ _ h61) rfl ⟨Nat.le_of_ble_eq_true rfl, Nat.le_of_ble_eq_true rfl⟩ ⟨Nat.le_refl _, Nat.le_refl _⟩ rfl rfl (Nat.le_of_ble_eq_true rfl) dX9_calm_61 ?_
      refine zk_if_eq (tgt := 98) dX9_calm_64 rfl (fun g64 => ?_) (fun g64 => ?_)
      · replace h := zpos g64 h
        refine zk_iinc dX9_calm_98 rfl (zinc (m := 1) (by decide)) (by decide) (zk_eq [_, _, _, _, _, _, _] rfl ?_)
        refine zk_goto (tgt := 44) dX9_calm_101 rfl ?_
        exact hr44 _ _ h
      · replace h := zneg g64 h
        refine zk_aload_n dX9_calm_67 rfl rfl ?_
        refine zk_aload_n dX9_calm_68 rfl rfl ?_
        refine zf_X9_79 rfl dX9_calm_69 ?_
        refine zk_iload dX9_calm_72 rfl ?_
        obtain ⟨g74, h⟩ := zguard h
        refine zk_iald (zoI_of rfl g74) dX9_calm_74 ?_
        refine zk_aload_n dX9_calm_75 rfl rfl ?_
        refine zf_X9_13 rfl dX9_calm_76 ?_
        refine zk_aload_n dX9_calm_79 rfl rfl ?_
        refine zf_X9_79 rfl dX9_calm_80 ?_
        refine zk_iload dX9_calm_83 rfl ?_
        obtain ⟨g85, h⟩ := zguard h
        refine zk_iald (zoI_of rfl g85) dX9_calm_85 ?_
        obtain ⟨g86, h⟩ := zguard h
        refine zk_iald (zoI_of rfl g86) dX9_calm_86 ?_
        refine zk_i2l dX9_calm_87 ?_
        refine zk_lload dX9_calm_88 rfl ?_
        refine zk_lmul dX9_calm_90 ?_
        refine zk_lload_n dX9_calm_91 rfl rfl ?_
        refine zk_lsub dX9_calm_92 ?_
        refine zk_lload dX9_calm_93 rfl ?_
        obtain ⟨p95, h95, h⟩ := zbind h
        refine zc_X9_176 [] (As := [.int _, .long _, .long _]) (ok_X9_fix hj _ _ _ _ h95) rfl ⟨Nat.le_of_ble_eq_true rfl, Nat.le_of_ble_eq_true rfl⟩ ⟨Nat.le_refl _, Nat.le_refl _⟩ rfl rfl (Nat.le_of_ble_eq_true rfl) dX9_calm_95 ?_
        refine zk_iinc dX9_calm_98 rfl (zinc (m := 1) (by decide)) (by decide) (zk_eq [_, _, _, _, _, _, _] rfl ?_)
        refine zk_goto (tgt := 44) dX9_calm_101 rfl ?_
        exact hr44 _ _ h
def D_X9_calm_B15 (a1 : Int32) (rec15 : zS → Option (Int32 × zS)) (s : zS) : Option (Int32 × zS) :=
    if (s.1 66 0) ≤ (s.1 66 23) then (
      (D_X9_noRows s).bind fun p108 =>
      D_X9_calm_L113 a1 zFU (0 : Int32) p108
    ) else (
      (D_X9_layStrain s).bind fun p27 =>
      D_X9_calm_L44 rec15 a1 (p27.2 66 33) (p27.2 66 34) zFU (0 : Int32) p27
    )
def D_X9_calm_L15 (a1 : Int32) (n : Nat) (s : zS) : Option (Int32 × zS) := zfx (fun (rec : zS → Option (Int32 × zS)) q => D_X9_calm_B15 a1 (fun v0 => rec (v0)) q) n (s)
set_option maxRecDepth 100000 in
theorem D_X9_calm_L15_s (a1 : Int32) (n : Nat) (s : zS) : D_X9_calm_L15 a1 (n + 1) s = D_X9_calm_B15 a1 (D_X9_calm_L15 a1 n) s := rfl
set_option maxRecDepth 100000 in
theorem ok_X9_calm_L15 {l : Launch} {D : va_G} {ad : Nat → Nat} {cA : Nat → ClassId} (hj : zInj ad) (r : (Int32 × zS)) (a1 : Int32) : ∀ (n : Nat) (s : zS), D_X9_calm_L15 a1 n s = some r → zOk l D ad cA (zJm jX9_calm) (zEnd D ad cA (some (.int r.1)) r.2) 15 [some (.ref 66), some (.int a1), none, none, none, none, none] [] s := by
  intro n
  induction n with
  | zero =>
    intro s h
    have h0 : (none : Option (Int32 × zS)) = some r := h
    cases h0
  | succ n hr15 =>
    intro s h
    have h : D_X9_calm_B15 a1 (D_X9_calm_L15 a1 n) s = some r := h
    unfold D_X9_calm_B15 at h
    refine zk_aload_n dX9_calm_15 rfl rfl ?_
    refine zf_X9_138 rfl dX9_calm_16 ?_
    refine zk_aload_n dX9_calm_19 rfl rfl ?_
    refine zf_X9_7 rfl dX9_calm_20 ?_
    refine zk_icmp_ge (tgt := 107) dX9_calm_23 rfl (fun g23 => ?_) (fun g23 => ?_)
    · replace h := zpos g23 h
      refine zk_aload_n dX9_calm_107 rfl rfl ?_
      obtain ⟨p108, h108, h⟩ := zbind h
      refine zc_X9_147 [] (As := []) (ok_X9_noRows hj _ h108) rfl ⟨Nat.le_of_ble_eq_true rfl, Nat.le_of_ble_eq_true rfl⟩ ⟨Nat.le_refl _, Nat.le_refl _⟩ rfl rfl (Nat.le_of_ble_eq_true rfl) dX9_calm_108 ?_
      refine zk_iconst (v := 0) dX9_calm_111 (by decide) ?_
      refine zk_istore_n (i := 2) dX9_calm_112 rfl (by decide) (zk_eq [_, _, _, _, _, _, _] rfl ?_)
      exact ok_X9_calm_L113 hj r _ _ _ _ h
    · replace h := zneg g23 h
      refine zk_aload_n dX9_calm_26 rfl rfl ?_
      obtain ⟨p27, h27, h⟩ := zbind h
      refine zc_X9_186 [] (As := []) (ok_X9_layStrain hj _ h27) rfl ⟨Nat.le_of_ble_eq_true rfl, Nat.le_of_ble_eq_true rfl⟩ ⟨Nat.le_refl _, Nat.le_refl _⟩ rfl rfl (Nat.le_of_ble_eq_true rfl) dX9_calm_27 ?_
      refine zk_aload_n dX9_calm_30 rfl rfl ?_
      refine zf_X9_173 rfl dX9_calm_31 ?_
      refine zk_lstore_n (i := 2) dX9_calm_34 rfl (by decide) (zk_eq [_, _, _, _, _, _, _] rfl ?_)
      refine zk_aload_n dX9_calm_35 rfl rfl ?_
      refine zf_X9_170 rfl dX9_calm_36 ?_
      refine zk_lstore (i := 4) dX9_calm_39 (by decide) (zk_eq [_, _, _, _, _, _, _] rfl ?_)
      refine zk_iconst (v := 0) dX9_calm_41 (by decide) ?_
      refine zk_istore (i := 6) dX9_calm_42 (by decide) (zk_eq [_, _, _, _, _, _, _] rfl ?_)
      exact ok_X9_calm_L44 hj r _ _ _ _ hr15 _ _ _ h
def D_X9_calm (s : zS) (a1 : Int32) : Option (Int32 × zS) :=
  (D_X9_isSide s a1).bind fun p2 =>
  if p2 = 0 then (
    some ((-2 : Int32), s)
  ) else (
    (D_X9_beginShares s).bind fun p12 =>
    D_X9_calm_L15 a1 zFU p12
  )
set_option maxRecDepth 100000 in
theorem ok_X9_calm {l : Launch} {D : va_G} {ad : Nat → Nat} {cA : Nat → ClassId} (hj : zInj ad) (s : zS) (a1 : Int32) {r : (Int32 × zS)} (h : D_X9_calm s a1 = some r) : zMet l D ad cA jX9_calm [.ref 66, .int a1] s (some (.int r.1)) r.2 := by
  refine zMet_of jX9_calm [some (.ref 66), some (.int a1), none, none, none, none, none] (by decide +kernel) (Nat.le_of_ble_eq_true rfl) rfl hj ?_
  unfold D_X9_calm at h
  refine zk_aload_n dX9_calm_0 rfl rfl ?_
  refine zk_iload_n dX9_calm_1 rfl rfl ?_
  obtain ⟨p2, h2, h⟩ := zbind h
  refine zc_X9_118 [] (As := [.int _]) (ok_X9_isSide hj _ _ h2) rfl ⟨Nat.le_of_ble_eq_true rfl, Nat.le_of_ble_eq_true rfl⟩ ⟨Nat.le_refl _, Nat.le_refl _⟩ rfl rfl (Nat.le_of_ble_eq_true rfl) dX9_calm_2 ?_
  refine zk_if_ne (tgt := 11) dX9_calm_5 rfl (fun g5 => ?_) (fun g5 => ?_)
  · replace h := zneg g5 h
    refine zk_aload_n dX9_calm_11 rfl rfl ?_
    obtain ⟨p12, h12, h⟩ := zbind h
    refine zc_X9_183 [] (As := []) (ok_X9_beginShares hj _ h12) rfl ⟨Nat.le_of_ble_eq_true rfl, Nat.le_of_ble_eq_true rfl⟩ ⟨Nat.le_refl _, Nat.le_refl _⟩ rfl rfl (Nat.le_of_ble_eq_true rfl) dX9_calm_12 ?_
    exact ok_X9_calm_L15 hj r _ _ _ h
  · replace h := zpos g5 h
    refine zk_bipush (v := -2) dX9_calm_8 (by decide) ?_
    have e9 := Option.some.inj h
    subst e9
    exact zk_iret rfl ⟨rfl, rfl⟩ dX9_calm_10
def D_X9_claim (s : zS) (a1 : Int32) : Option (Int32 × zS) :=
  (D_X9_in a1.toInt64 (0 : Int64) (1000 : Int64)).bind fun p6 =>
  if p6 = 0 then (
    some ((-2 : Int32), s)
  ) else (
    if (s.1 66 8) = (6 : Int32) then (
      some ((-4 : Int32), s)
    ) else (
      zgd (zin (s.1 66 8) 6 = true) <|
      let s36 : zS := zwI s 70 (s.1 66 8).toNatClampNeg a1
      let s44 : zS := zwI s36 66 8 ((s36.1 66 8) + (1 : Int32))
      some (((s44.1 66 8) - (1 : Int32)), s44)
    )
  )
set_option maxRecDepth 100000 in
theorem ok_X9_claim {l : Launch} {D : va_G} {ad : Nat → Nat} {cA : Nat → ClassId} (hj : zInj ad) (s : zS) (a1 : Int32) {r : (Int32 × zS)} (h : D_X9_claim s a1 = some r) : zMet l D ad cA jX9_claim [.ref 66, .int a1] s (some (.int r.1)) r.2 := by
  refine zMet_of jX9_claim [some (.ref 66), some (.int a1)] (by decide +kernel) (Nat.le_of_ble_eq_true rfl) rfl hj ?_
  unfold D_X9_claim at h
  refine zk_iload_n dX9_claim_0 rfl rfl ?_
  refine zk_i2l dX9_claim_1 ?_
  refine zk_lconst (v := 0) dX9_claim_2 (by decide) ?_
  refine zk_ldc2 dX9_claim_3 zw_X9_111 ?_
  obtain ⟨p6, h6, h⟩ := zbind h
  refine zc_X9_92 [] (As := [.long _, .long _, .long _]) (ok_X9_in hj _ _ _ _ h6) rfl ⟨Nat.le_of_ble_eq_true rfl, Nat.le_of_ble_eq_true rfl⟩ ⟨Nat.le_refl _, Nat.le_refl _⟩ rfl rfl (Nat.le_of_ble_eq_true rfl) dX9_claim_6 ?_
  refine zk_if_ne (tgt := 15) dX9_claim_9 rfl (fun g9 => ?_) (fun g9 => ?_)
  · replace h := zneg g9 h
    refine zk_aload_n dX9_claim_15 rfl rfl ?_
    refine zf_X9_244 rfl dX9_claim_16 ?_
    refine zk_bipush (v := 6) dX9_claim_19 (by decide) ?_
    refine zk_icmp_ne (tgt := 27) dX9_claim_21 rfl (fun g21 => ?_) (fun g21 => ?_)
    · replace h := zneg g21 h
      refine zk_aload_n dX9_claim_27 rfl rfl ?_
      refine zf_X9_30 rfl dX9_claim_28 ?_
      refine zk_aload_n dX9_claim_31 rfl rfl ?_
      refine zf_X9_244 rfl dX9_claim_32 ?_
      refine zk_iload_n dX9_claim_35 rfl rfl ?_
      obtain ⟨g36, h⟩ := zguard h
      refine zk_iast (zoI_of rfl g36) dX9_claim_36 ?_
      refine zk_aload_n dX9_claim_37 rfl rfl ?_
      refine zk_dup dX9_claim_38 rfl ?_
      refine zf_X9_244 rfl dX9_claim_39 ?_
      refine zk_iconst (v := 1) dX9_claim_42 (by decide) ?_
      refine zk_iadd dX9_claim_43 ?_
      refine zp_X9_244 rfl dX9_claim_44 ?_
      refine zk_aload_n dX9_claim_47 rfl rfl ?_
      refine zf_X9_244 rfl dX9_claim_48 ?_
      refine zk_iconst (v := 1) dX9_claim_51 (by decide) ?_
      refine zk_isub dX9_claim_52 ?_
      have e9 := Option.some.inj h
      subst e9
      exact zk_iret rfl ⟨rfl, rfl⟩ dX9_claim_53
    · replace h := zpos g21 h
      refine zk_bipush (v := -4) dX9_claim_24 (by decide) ?_
      have e9 := Option.some.inj h
      subst e9
      exact zk_iret rfl ⟨rfl, rfl⟩ dX9_claim_26
  · replace h := zpos g9 h
    refine zk_bipush (v := -2) dX9_claim_12 (by decide) ?_
    have e9 := Option.some.inj h
    subst e9
    exact zk_iret rfl ⟨rfl, rfl⟩ dX9_claim_14
