def D_X9_balances_B275 (s : zS) (a1 : Int32) (rec275 : Int64 → Int64 → Int32 → Option (Int32 × zS)) (a2 : Int64) (a4 : Int64) (a6 : Int32) : Option (Int32 × zS) :=
    if (s.1 66 23) ≤ a6 then (
      let s378 : zS := zwL s 66 35 a2
      let s384 : zS := zwL s378 66 36 a4
      some ((1 : Int32), s384)
    ) else (
      zgd (zin (((6 : Int32) * (a1 + a6)) + (5 : Int32)) 30 = true) <|
      zgd (zin a6 5 = true) <|
      zgd (zin (((6 : Int32) * (a1 + a6)) + (5 : Int32)) 30 = true) <|
      zgd (zin a6 5 = true) <|
      (D_X9_common ((a2 * ((s.2 78 (((6 : Int32) * (a1 + a6)) + (5 : Int32)).toNatClampNeg) * (s.2 81 a6.toNatClampNeg))) - (((s.2 77 (((6 : Int32) * (a1 + a6)) + (5 : Int32)).toNatClampNeg) * (s.2 80 a6.toNatClampNeg)) * a4)) (a4 * ((s.2 78 (((6 : Int32) * (a1 + a6)) + (5 : Int32)).toNatClampNeg) * (s.2 81 a6.toNatClampNeg)))).bind fun p353 =>
      if p353 = 0 then none else
      if p353 = 0 then none else
      rec275 (((a2 * ((s.2 78 (((6 : Int32) * (a1 + a6)) + (5 : Int32)).toNatClampNeg) * (s.2 81 a6.toNatClampNeg))) - (((s.2 77 (((6 : Int32) * (a1 + a6)) + (5 : Int32)).toNatClampNeg) * (s.2 80 a6.toNatClampNeg)) * a4)) / p353) ((a4 * ((s.2 78 (((6 : Int32) * (a1 + a6)) + (5 : Int32)).toNatClampNeg) * (s.2 81 a6.toNatClampNeg))) / p353) (a6 + 1)
    )
def D_X9_balances_L275 (s : zS) (a1 : Int32) (n : Nat) (a2 : Int64) (a4 : Int64) (a6 : Int32) : Option (Int32 × zS) := zfx (fun (rec : Int64 × Int64 × Int32 → Option (Int32 × zS)) q => D_X9_balances_B275 s a1 (fun v0 v1 v2 => rec (v0, v1, v2)) q.1 q.2.1 q.2.2) n (a2, a4, a6)
set_option maxRecDepth 100000 in
theorem D_X9_balances_L275_s (s : zS) (a1 : Int32) (n : Nat) (a2 : Int64) (a4 : Int64) (a6 : Int32) : D_X9_balances_L275 s a1 (n + 1) a2 a4 a6 = D_X9_balances_B275 s a1 (D_X9_balances_L275 s a1 n) a2 a4 a6 := rfl
set_option maxRecDepth 100000 in
theorem ok_X9_balances_L275 {l : Launch} {D : va_G} {ad : Nat → Nat} {cA : Nat → ClassId} (hj : zInj ad) (r : (Int32 × zS)) (s : zS) (a1 : Int32) : ∀ (n : Nat) (a2 : Int64) (a4 : Int64) (a6 : Int32), D_X9_balances_L275 s a1 n a2 a4 a6 = some r → zOk l D ad cA (zJm jX9_balances) (zEnd D ad cA (some (.int r.1)) r.2) 275 [some (.ref 66), some (.int a1), some (.long a2), none, some (.long a4), none, some (.int a6), none, none, none, none, none, none] [] s := by
  intro n
  induction n with
  | zero =>
    intro a2 a4 a6 h
    have h0 : (none : Option (Int32 × zS)) = some r := h
    cases h0
  | succ n hr275 =>
    intro a2 a4 a6 h
    have h : D_X9_balances_B275 s a1 (D_X9_balances_L275 s a1 n) a2 a4 a6 = some r := h
    unfold D_X9_balances_B275 at h
    refine zk_iload dX9_balances_275 rfl ?_
    refine zk_aload_n dX9_balances_277 rfl rfl ?_
    refine zf_X9_138 rfl dX9_balances_278 ?_
    refine zk_icmp_ge (tgt := 376) dX9_balances_281 rfl (fun g281 => ?_) (fun g281 => ?_)
    · replace h := zpos g281 h
      refine zk_aload_n dX9_balances_376 rfl rfl ?_
      refine zk_lload_n dX9_balances_377 rfl rfl ?_
      refine zp_X9_155 rfl dX9_balances_378 ?_
      refine zk_aload_n dX9_balances_381 rfl rfl ?_
      refine zk_lload dX9_balances_382 rfl ?_
      refine zp_X9_158 rfl dX9_balances_384 ?_
      refine zk_iconst (v := 1) dX9_balances_387 (by decide) ?_
      have e9 := Option.some.inj h
      subst e9
      exact zk_zret rfl (Or.inr rfl) ⟨rfl, rfl⟩ dX9_balances_388
    · replace h := zneg g281 h
      refine zk_aload_n dX9_balances_284 rfl rfl ?_
      refine zf_X9_54 rfl dX9_balances_285 ?_
      refine zk_bipush (v := 6) dX9_balances_288 (by decide) ?_
      refine zk_iload_n dX9_balances_290 rfl rfl ?_
      refine zk_iload dX9_balances_291 rfl ?_
      refine zk_iadd dX9_balances_293 ?_
      refine zk_imul dX9_balances_294 ?_
      refine zk_iconst (v := 5) dX9_balances_295 (by decide) ?_
      refine zk_iadd dX9_balances_296 ?_
      obtain ⟨g297, h⟩ := zguard h
      refine zk_lald (zoL_of rfl g297) dX9_balances_297 ?_
      refine zk_aload_n dX9_balances_298 rfl rfl ?_
      refine zf_X9_64 rfl dX9_balances_299 ?_
      refine zk_iload dX9_balances_302 rfl ?_
      obtain ⟨g304, h⟩ := zguard h
      refine zk_lald (zoL_of rfl g304) dX9_balances_304 ?_
      refine zk_lmul dX9_balances_305 ?_
      refine zk_lstore (i := 7) dX9_balances_306 (by decide) (zk_eq [_, _, _, _, _, _, _, _, _, _, _, _, _] rfl ?_)
      refine zk_aload_n dX9_balances_308 rfl rfl ?_
      refine zf_X9_58 rfl dX9_balances_309 ?_
      refine zk_bipush (v := 6) dX9_balances_312 (by decide) ?_
      refine zk_iload_n dX9_balances_314 rfl rfl ?_
      refine zk_iload dX9_balances_315 rfl ?_
      refine zk_iadd dX9_balances_317 ?_
      refine zk_imul dX9_balances_318 ?_
      refine zk_iconst (v := 5) dX9_balances_319 (by decide) ?_
      refine zk_iadd dX9_balances_320 ?_
      obtain ⟨g321, h⟩ := zguard h
      refine zk_lald (zoL_of rfl g321) dX9_balances_321 ?_
      refine zk_aload_n dX9_balances_322 rfl rfl ?_
      refine zf_X9_67 rfl dX9_balances_323 ?_
      refine zk_iload dX9_balances_326 rfl ?_
      obtain ⟨g328, h⟩ := zguard h
      refine zk_lald (zoL_of rfl g328) dX9_balances_328 ?_
      refine zk_lmul dX9_balances_329 ?_
      refine zk_lstore (i := 9) dX9_balances_330 (by decide) (zk_eq [_, _, _, _, _, _, _, _, _, _, _, _, _] rfl ?_)
      refine zk_lload_n dX9_balances_332 rfl rfl ?_
      refine zk_lload dX9_balances_333 rfl ?_
      refine zk_lmul dX9_balances_335 ?_
      refine zk_lload dX9_balances_336 rfl ?_
      refine zk_lload dX9_balances_338 rfl ?_
      refine zk_lmul dX9_balances_340 ?_
      refine zk_lsub dX9_balances_341 ?_
      refine zk_lstore_n (i := 2) dX9_balances_342 rfl (by decide) (zk_eq [_, _, _, _, _, _, _, _, _, _, _, _, _] rfl ?_)
      refine zk_lload dX9_balances_343 rfl ?_
      refine zk_lload dX9_balances_345 rfl ?_
      refine zk_lmul dX9_balances_347 ?_
      refine zk_lstore (i := 4) dX9_balances_348 (by decide) (zk_eq [_, _, _, _, _, _, _, _, _, _, _, _, _] rfl ?_)
      refine zk_lload_n dX9_balances_350 rfl rfl ?_
      refine zk_lload dX9_balances_351 rfl ?_
      obtain ⟨p353, h353, h⟩ := zbind h
      refine zc_X9_96 [] (As := [.long _, .long _]) (ok_X9_common hj _ _ _ h353) rfl ⟨Nat.le_of_ble_eq_true rfl, Nat.le_of_ble_eq_true rfl⟩ ⟨Nat.le_refl _, Nat.le_refl _⟩ rfl rfl (Nat.le_of_ble_eq_true rfl) dX9_balances_353 ?_
      refine zk_lstore (i := 11) dX9_balances_356 (by decide) (zk_eq [_, _, _, _, _, _, _, _, _, _, _, _, _] rfl ?_)
      refine zk_lload_n dX9_balances_358 rfl rfl ?_
      refine zk_lload dX9_balances_359 rfl ?_
      obtain ⟨g361, h⟩ := zguardn h
      refine zk_ldiv dX9_balances_361 g361 ?_
      refine zk_lstore_n (i := 2) dX9_balances_362 rfl (by decide) (zk_eq [_, _, _, _, _, _, _, _, _, _, _, _, _] rfl ?_)
      refine zk_lload dX9_balances_363 rfl ?_
      refine zk_lload dX9_balances_365 rfl ?_
      obtain ⟨g367, h⟩ := zguardn h
      refine zk_ldiv dX9_balances_367 g367 ?_
      refine zk_lstore (i := 4) dX9_balances_368 (by decide) (zk_eq [_, _, _, _, _, _, _, _, _, _, _, _, _] rfl ?_)
      refine zk_iinc dX9_balances_370 rfl (zinc (m := 1) (by decide)) (by decide) (zk_eq [_, _, _, _, _, _, _, _, _, _, _, _, _] rfl ?_)
      refine zk_goto (tgt := 275) dX9_balances_373 rfl ?_
      refine zk_mask [true, true, true, false, true, false, true, false, false, false, false, false, false] ?_
      exact hr275 _ _ _ h
def D_X9_balances_B166 (s : zS) (a1 : Int32) (rec166 : Int64 → Int64 → Int32 → Option (Int32 × zS)) (a2 : Int64) (a4 : Int64) (a6 : Int32) : Option (Int32 × zS) :=
    if a1 ≤ a6 then (
      D_X9_balances_L275 s a1 zFU a2 a4 (0 : Int32)
    ) else (
      zgd (zin (((6 : Int32) * a6) + (5 : Int32)) 30 = true) <|
      zgd (zin (((6 : Int32) * a6) + (5 : Int32)) 30 = true) <|
      if 0 ≤ (lg_cmp (s.2 77 (((6 : Int32) * a6) + (5 : Int32)).toNatClampNeg) (0 : Int64)) then (
        zgd (zin a6 5 = true) <|
        zgd (zin (s.1 84 a6.toNatClampNeg) 14 = true) <|
        zgd (zin (s.1 83 (s.1 84 a6.toNatClampNeg).toNatClampNeg) 16 = true) <|
        (D_X9_common ((a2 * (s.2 78 (((6 : Int32) * a6) + (5 : Int32)).toNatClampNeg)) + (((s.1 67 (s.1 83 (s.1 84 a6.toNatClampNeg).toNatClampNeg).toNatClampNeg).toInt64 * (s.2 77 (((6 : Int32) * a6) + (5 : Int32)).toNatClampNeg)) * a4)) (a4 * (s.2 78 (((6 : Int32) * a6) + (5 : Int32)).toNatClampNeg))).bind fun p249 =>
        if p249 = 0 then none else
        if p249 = 0 then none else
        rec166 (((a2 * (s.2 78 (((6 : Int32) * a6) + (5 : Int32)).toNatClampNeg)) + (((s.1 67 (s.1 83 (s.1 84 a6.toNatClampNeg).toNatClampNeg).toNatClampNeg).toInt64 * (s.2 77 (((6 : Int32) * a6) + (5 : Int32)).toNatClampNeg)) * a4)) / p249) ((a4 * (s.2 78 (((6 : Int32) * a6) + (5 : Int32)).toNatClampNeg)) / p249) (a6 + 1)
      ) else (
        some ((0 : Int32), s)
      )
    )
def D_X9_balances_L166 (s : zS) (a1 : Int32) (n : Nat) (a2 : Int64) (a4 : Int64) (a6 : Int32) : Option (Int32 × zS) := zfx (fun (rec : Int64 × Int64 × Int32 → Option (Int32 × zS)) q => D_X9_balances_B166 s a1 (fun v0 v1 v2 => rec (v0, v1, v2)) q.1 q.2.1 q.2.2) n (a2, a4, a6)
set_option maxRecDepth 100000 in
theorem D_X9_balances_L166_s (s : zS) (a1 : Int32) (n : Nat) (a2 : Int64) (a4 : Int64) (a6 : Int32) : D_X9_balances_L166 s a1 (n + 1) a2 a4 a6 = D_X9_balances_B166 s a1 (D_X9_balances_L166 s a1 n) a2 a4 a6 := rfl
set_option maxRecDepth 100000 in
theorem ok_X9_balances_L166 {l : Launch} {D : va_G} {ad : Nat → Nat} {cA : Nat → ClassId} (hj : zInj ad) (r : (Int32 × zS)) (s : zS) (a1 : Int32) : ∀ (n : Nat) (a2 : Int64) (a4 : Int64) (a6 : Int32), D_X9_balances_L166 s a1 n a2 a4 a6 = some r → zOk l D ad cA (zJm jX9_balances) (zEnd D ad cA (some (.int r.1)) r.2) 166 [some (.ref 66), some (.int a1), some (.long a2), none, some (.long a4), none, some (.int a6), none, none, none, none, none, none] [] s := by
  intro n
  induction n with
  | zero =>
    intro a2 a4 a6 h
    have h0 : (none : Option (Int32 × zS)) = some r := h
    cases h0
  | succ n hr166 =>
    intro a2 a4 a6 h
    have h : D_X9_balances_B166 s a1 (D_X9_balances_L166 s a1 n) a2 a4 a6 = some r := h
    unfold D_X9_balances_B166 at h
    refine zk_iload dX9_balances_166 rfl ?_
    refine zk_iload_n dX9_balances_168 rfl rfl ?_
    refine zk_icmp_ge (tgt := 272) dX9_balances_169 rfl (fun g169 => ?_) (fun g169 => ?_)
    · replace h := zpos g169 h
      refine zk_iconst (v := 0) dX9_balances_272 (by decide) ?_
      refine zk_istore (i := 6) dX9_balances_273 (by decide) (zk_eq [_, _, _, _, _, _, _, _, _, _, _, _, _] rfl ?_)
      exact ok_X9_balances_L275 hj r _ _ _ _ _ _ h
    · replace h := zneg g169 h
      refine zk_aload_n dX9_balances_172 rfl rfl ?_
      refine zf_X9_54 rfl dX9_balances_173 ?_
      refine zk_bipush (v := 6) dX9_balances_176 (by decide) ?_
      refine zk_iload dX9_balances_178 rfl ?_
      refine zk_imul dX9_balances_180 ?_
      refine zk_iconst (v := 5) dX9_balances_181 (by decide) ?_
      refine zk_iadd dX9_balances_182 ?_
      obtain ⟨g183, h⟩ := zguard h
      refine zk_lald (zoL_of rfl g183) dX9_balances_183 ?_
      refine zk_lstore (i := 7) dX9_balances_184 (by decide) (zk_eq [_, _, _, _, _, _, _, _, _, _, _, _, _] rfl ?_)
      refine zk_aload_n dX9_balances_186 rfl rfl ?_
      refine zf_X9_58 rfl dX9_balances_187 ?_
      refine zk_bipush (v := 6) dX9_balances_190 (by decide) ?_
      refine zk_iload dX9_balances_192 rfl ?_
      refine zk_imul dX9_balances_194 ?_
      refine zk_iconst (v := 5) dX9_balances_195 (by decide) ?_
      refine zk_iadd dX9_balances_196 ?_
      obtain ⟨g197, h⟩ := zguard h
      refine zk_lald (zoL_of rfl g197) dX9_balances_197 ?_
      refine zk_lstore (i := 9) dX9_balances_198 (by decide) (zk_eq [_, _, _, _, _, _, _, _, _, _, _, _, _] rfl ?_)
      refine zk_lload dX9_balances_200 rfl ?_
      refine zk_lconst (v := 0) dX9_balances_202 (by decide) ?_
      refine zk_lcmp dX9_balances_203 ?_
      refine zk_if_ge (tgt := 209) dX9_balances_204 rfl (fun g204 => ?_) (fun g204 => ?_)
      · replace h := zpos g204 h
        refine zk_lload_n dX9_balances_209 rfl rfl ?_
        refine zk_lload dX9_balances_210 rfl ?_
        refine zk_lmul dX9_balances_212 ?_
        refine zk_aload_n dX9_balances_213 rfl rfl ?_
        refine zf_X9_13 rfl dX9_balances_214 ?_
        refine zk_aload_n dX9_balances_217 rfl rfl ?_
        refine zf_X9_73 rfl dX9_balances_218 ?_
        refine zk_aload_n dX9_balances_221 rfl rfl ?_
        refine zf_X9_76 rfl dX9_balances_222 ?_
        refine zk_iload dX9_balances_225 rfl ?_
        obtain ⟨g227, h⟩ := zguard h
        refine zk_iald (zoI_of rfl g227) dX9_balances_227 ?_
        obtain ⟨g228, h⟩ := zguard h
        refine zk_iald (zoI_of rfl g228) dX9_balances_228 ?_
        obtain ⟨g229, h⟩ := zguard h
        refine zk_iald (zoI_of rfl g229) dX9_balances_229 ?_
        refine zk_i2l dX9_balances_230 ?_
        refine zk_lload dX9_balances_231 rfl ?_
        refine zk_lmul dX9_balances_233 ?_
        refine zk_lload dX9_balances_234 rfl ?_
        refine zk_lmul dX9_balances_236 ?_
        refine zk_ladd dX9_balances_237 ?_
        refine zk_lstore_n (i := 2) dX9_balances_238 rfl (by decide) (zk_eq [_, _, _, _, _, _, _, _, _, _, _, _, _] rfl ?_)
        refine zk_lload dX9_balances_239 rfl ?_
        refine zk_lload dX9_balances_241 rfl ?_
        refine zk_lmul dX9_balances_243 ?_
        refine zk_lstore (i := 4) dX9_balances_244 (by decide) (zk_eq [_, _, _, _, _, _, _, _, _, _, _, _, _] rfl ?_)
        refine zk_lload_n dX9_balances_246 rfl rfl ?_
        refine zk_lload dX9_balances_247 rfl ?_
        obtain ⟨p249, h249, h⟩ := zbind h
        refine zc_X9_96 [] (As := [.long _, .long _]) (ok_X9_common hj _ _ _ h249) rfl ⟨Nat.le_of_ble_eq_true rfl, Nat.le_of_ble_eq_true rfl⟩ ⟨Nat.le_refl _, Nat.le_refl _⟩ rfl rfl (Nat.le_of_ble_eq_true rfl) dX9_balances_249 ?_
        refine zk_lstore (i := 11) dX9_balances_252 (by decide) (zk_eq [_, _, _, _, _, _, _, _, _, _, _, _, _] rfl ?_)
        refine zk_lload_n dX9_balances_254 rfl rfl ?_
        refine zk_lload dX9_balances_255 rfl ?_
        obtain ⟨g257, h⟩ := zguardn h
        refine zk_ldiv dX9_balances_257 g257 ?_
        refine zk_lstore_n (i := 2) dX9_balances_258 rfl (by decide) (zk_eq [_, _, _, _, _, _, _, _, _, _, _, _, _] rfl ?_)
        refine zk_lload dX9_balances_259 rfl ?_
        refine zk_lload dX9_balances_261 rfl ?_
        obtain ⟨g263, h⟩ := zguardn h
        refine zk_ldiv dX9_balances_263 g263 ?_
        refine zk_lstore (i := 4) dX9_balances_264 (by decide) (zk_eq [_, _, _, _, _, _, _, _, _, _, _, _, _] rfl ?_)
        refine zk_iinc dX9_balances_266 rfl (zinc (m := 1) (by decide)) (by decide) (zk_eq [_, _, _, _, _, _, _, _, _, _, _, _, _] rfl ?_)
        refine zk_goto (tgt := 166) dX9_balances_269 rfl ?_
        refine zk_mask [true, true, true, false, true, false, true, false, false, false, false, false, false] ?_
        exact hr166 _ _ _ h
      · replace h := zneg g204 h
        refine zk_iconst (v := 0) dX9_balances_207 (by decide) ?_
        have e9 := Option.some.inj h
        subst e9
        exact zk_zret rfl (Or.inl rfl) ⟨rfl, rfl⟩ dX9_balances_208
def D_X9_balances_B110 (a1 : Int32) (rec110 : Int32 → zS → Option (Int32 × zS)) (a2 : Int32) (s : zS) : Option (Int32 × zS) :=
    if a1 ≤ a2 then (
      (D_X9_put s (s.1 66 0) (5 : Int32) (1 : Int64) (1 : Int64)).bind fun p140 =>
      (D_X9_solve p140 ((p140.1 66 0) + (1 : Int32))).bind fun p150 =>
      if p150.1 = 0 then (
        some ((0 : Int32), p150.2)
      ) else (
        D_X9_balances_L166 p150.2 a1 zFU (0 : Int64) (1 : Int64) (0 : Int32)
      )
    ) else (
      (D_X9_put s (s.1 66 0) a2 (1 : Int64) (1 : Int64)).bind fun p123 =>
      rec110 (a2 + 1) p123
    )
def D_X9_balances_L110 (a1 : Int32) (n : Nat) (a2 : Int32) (s : zS) : Option (Int32 × zS) := zfx (fun (rec : Int32 × zS → Option (Int32 × zS)) q => D_X9_balances_B110 a1 (fun v0 v1 => rec (v0, v1)) q.1 q.2) n (a2, s)
set_option maxRecDepth 100000 in
theorem D_X9_balances_L110_s (a1 : Int32) (n : Nat) (a2 : Int32) (s : zS) : D_X9_balances_L110 a1 (n + 1) a2 s = D_X9_balances_B110 a1 (D_X9_balances_L110 a1 n) a2 s := rfl
set_option maxRecDepth 100000 in
theorem ok_X9_balances_L110 {l : Launch} {D : va_G} {ad : Nat → Nat} {cA : Nat → ClassId} (hj : zInj ad) (r : (Int32 × zS)) (a1 : Int32) : ∀ (n : Nat) (a2 : Int32) (s : zS), D_X9_balances_L110 a1 n a2 s = some r → zOk l D ad cA (zJm jX9_balances) (zEnd D ad cA (some (.int r.1)) r.2) 110 [some (.ref 66), some (.int a1), some (.int a2), none, none, none, none, none, none, none, none, none, none] [] s := by
  intro n
  induction n with
  | zero =>
    intro a2 s h
    have h0 : (none : Option (Int32 × zS)) = some r := h
    cases h0
  | succ n hr110 =>
    intro a2 s h
    have h : D_X9_balances_B110 a1 (D_X9_balances_L110 a1 n) a2 s = some r := h
    unfold D_X9_balances_B110 at h
    refine zk_iload_n dX9_balances_110 rfl rfl ?_
    refine zk_iload_n dX9_balances_111 rfl rfl ?_
    refine zk_icmp_ge (tgt := 132) dX9_balances_112 rfl (fun g112 => ?_) (fun g112 => ?_)
    · replace h := zpos g112 h
      refine zk_aload_n dX9_balances_132 rfl rfl ?_
      refine zk_aload_n dX9_balances_133 rfl rfl ?_
      refine zf_X9_7 rfl dX9_balances_134 ?_
      refine zk_iconst (v := 5) dX9_balances_137 (by decide) ?_
      refine zk_lconst (v := 1) dX9_balances_138 (by decide) ?_
      refine zk_lconst (v := 1) dX9_balances_139 (by decide) ?_
      obtain ⟨p140, h140, h⟩ := zbind h
      refine zc_X9_134 [] (As := [.int _, .int _, .long _, .long _]) (ok_X9_put hj _ _ _ _ _ h140) rfl ⟨Nat.le_of_ble_eq_true rfl, Nat.le_of_ble_eq_true rfl⟩ ⟨Nat.le_refl _, Nat.le_refl _⟩ rfl rfl (Nat.le_of_ble_eq_true rfl) dX9_balances_140 ?_
      refine zk_aload_n dX9_balances_143 rfl rfl ?_
      refine zk_aload_n dX9_balances_144 rfl rfl ?_
      refine zf_X9_7 rfl dX9_balances_145 ?_
      refine zk_iconst (v := 1) dX9_balances_148 (by decide) ?_
      refine zk_iadd dX9_balances_149 ?_
      obtain ⟨p150, h150, h⟩ := zbind h
      refine zc_X9_152 [] (As := [.int _]) (ok_X9_solve hj _ _ h150) rfl ⟨Nat.le_of_ble_eq_true rfl, Nat.le_of_ble_eq_true rfl⟩ ⟨Nat.le_refl _, Nat.le_refl _⟩ rfl rfl (Nat.le_of_ble_eq_true rfl) dX9_balances_150 ?_
      refine zk_if_ne (tgt := 158) dX9_balances_153 rfl (fun g153 => ?_) (fun g153 => ?_)
      · replace h := zneg g153 h
        refine zk_lconst (v := 0) dX9_balances_158 (by decide) ?_
        refine zk_lstore_n (i := 2) dX9_balances_159 rfl (by decide) (zk_eq [_, _, _, _, _, _, _, _, _, _, _, _, _] rfl ?_)
        refine zk_lconst (v := 1) dX9_balances_160 (by decide) ?_
        refine zk_lstore (i := 4) dX9_balances_161 (by decide) (zk_eq [_, _, _, _, _, _, _, _, _, _, _, _, _] rfl ?_)
        refine zk_iconst (v := 0) dX9_balances_163 (by decide) ?_
        refine zk_istore (i := 6) dX9_balances_164 (by decide) (zk_eq [_, _, _, _, _, _, _, _, _, _, _, _, _] rfl ?_)
        exact ok_X9_balances_L166 hj r _ _ _ _ _ _ h
      · replace h := zpos g153 h
        refine zk_iconst (v := 0) dX9_balances_156 (by decide) ?_
        have e9 := Option.some.inj h
        subst e9
        exact zk_zret rfl (Or.inl rfl) ⟨rfl, rfl⟩ dX9_balances_157
    · replace h := zneg g112 h
      refine zk_aload_n dX9_balances_115 rfl rfl ?_
      refine zk_aload_n dX9_balances_116 rfl rfl ?_
      refine zf_X9_7 rfl dX9_balances_117 ?_
      refine zk_iload_n dX9_balances_120 rfl rfl ?_
      refine zk_lconst (v := 1) dX9_balances_121 (by decide) ?_
      refine zk_lconst (v := 1) dX9_balances_122 (by decide) ?_
      obtain ⟨p123, h123, h⟩ := zbind h
      refine zc_X9_134 [] (As := [.int _, .int _, .long _, .long _]) (ok_X9_put hj _ _ _ _ _ h123) rfl ⟨Nat.le_of_ble_eq_true rfl, Nat.le_of_ble_eq_true rfl⟩ ⟨Nat.le_refl _, Nat.le_refl _⟩ rfl rfl (Nat.le_of_ble_eq_true rfl) dX9_balances_123 ?_
      refine zk_iinc dX9_balances_126 rfl (zinc (m := 1) (by decide)) (by decide) (zk_eq [_, _, _, _, _, _, _, _, _, _, _, _, _] rfl ?_)
      refine zk_goto (tgt := 110) dX9_balances_129 rfl ?_
      exact hr110 _ _ h
def D_X9_balances_J92 (rec6 : Int32 → zS → Option (Int32 × zS)) (rec59 : Int32 → zS → Option (Int32 × zS)) (s : zS) (a1 : Int32) (a2 : Int32) (a3 : Int32) (k1 : Int32) (k2 : Int32) (k3 : Int64) : Option (Int32 × zS) :=
  (D_X9_put s k1 k2 k3 (1 : Int64)).bind fun p93 =>
  rec59 (a3 + 1) p93
set_option maxRecDepth 100000 in
theorem ok_X9_balances_J92 {l : Launch} {D : va_G} {ad : Nat → Nat} {cA : Nat → ClassId} (hj : zInj ad) (r : (Int32 × zS)) (s : zS) (a1 : Int32) (a2 : Int32) (a3 : Int32) (k1 : Int32) (k2 : Int32) (k3 : Int64) (rec6 : Int32 → zS → Option (Int32 × zS)) (hr6 : ∀ (b2 : Int32) (s : zS), rec6 b2 s = some r → zOk l D ad cA (zJm jX9_balances) (zEnd D ad cA (some (.int r.1)) r.2) 6 [some (.ref 66), some (.int a1), some (.int b2), none, none, none, none, none, none, none, none, none, none] [] s) (rec59 : Int32 → zS → Option (Int32 × zS)) (hr59 : ∀ (b3 : Int32) (s : zS), rec59 b3 s = some r → zOk l D ad cA (zJm jX9_balances) (zEnd D ad cA (some (.int r.1)) r.2) 59 [some (.ref 66), some (.int a1), some (.int a2), some (.int b3), none, none, none, none, none, none, none, none, none] [] s) (h : D_X9_balances_J92 rec6 rec59 s a1 a2 a3 k1 k2 k3 = some r) : zOk l D ad cA (zJm jX9_balances) (zEnd D ad cA (some (.int r.1)) r.2) 92 [some (.ref 66), some (.int a1), some (.int a2), some (.int a3), none, none, none, none, none, none, none, none, none] [.long k3, .int k2, .int k1, .ref 66] s := by
  unfold D_X9_balances_J92 at h
  refine zk_lconst (v := 1) dX9_balances_92 (by decide) ?_
  obtain ⟨p93, h93, h⟩ := zbind h
  refine zc_X9_134 [] (As := [.int _, .int _, .long _, .long _]) (ok_X9_put hj _ _ _ _ _ h93) rfl ⟨Nat.le_of_ble_eq_true rfl, Nat.le_of_ble_eq_true rfl⟩ ⟨Nat.le_refl _, Nat.le_refl _⟩ rfl rfl (Nat.le_of_ble_eq_true rfl) dX9_balances_93 ?_
  refine zk_iinc dX9_balances_96 rfl (zinc (m := 1) (by decide)) (by decide) (zk_eq [_, _, _, _, _, _, _, _, _, _, _, _, _] rfl ?_)
  refine zk_goto (tgt := 59) dX9_balances_99 rfl ?_
  exact hr59 _ _ h
def D_X9_balances_B59 (rec6 : Int32 → zS → Option (Int32 × zS)) (a1 : Int32) (a2 : Int32) (rec59 : Int32 → zS → Option (Int32 × zS)) (a3 : Int32) (s : zS) : Option (Int32 × zS) :=
    if (s.1 66 23) ≤ a3 then (
      rec6 (a2 + 1) s
    ) else (
      zgd (zin a3 5 = true) <|
      (D_X9_has (s.1 79 a3.toNatClampNeg) a2).bind fun p79 =>
      if p79 = 0 then (
        D_X9_balances_J92 rec6 rec59 s a1 a2 a3 a2 (a1 + a3) (0 : Int64)
      ) else (
        D_X9_balances_J92 rec6 rec59 s a1 a2 a3 a2 (a1 + a3) (-1 : Int64)
      )
    )
def D_X9_balances_L59 (rec6 : Int32 → zS → Option (Int32 × zS)) (a1 : Int32) (a2 : Int32) (n : Nat) (a3 : Int32) (s : zS) : Option (Int32 × zS) := zfx (fun (rec : Int32 × zS → Option (Int32 × zS)) q => D_X9_balances_B59 rec6 a1 a2 (fun v0 v1 => rec (v0, v1)) q.1 q.2) n (a3, s)
set_option maxRecDepth 100000 in
theorem D_X9_balances_L59_s (rec6 : Int32 → zS → Option (Int32 × zS)) (a1 : Int32) (a2 : Int32) (n : Nat) (a3 : Int32) (s : zS) : D_X9_balances_L59 rec6 a1 a2 (n + 1) a3 s = D_X9_balances_B59 rec6 a1 a2 (D_X9_balances_L59 rec6 a1 a2 n) a3 s := rfl
set_option maxRecDepth 100000 in
theorem ok_X9_balances_L59 {l : Launch} {D : va_G} {ad : Nat → Nat} {cA : Nat → ClassId} (hj : zInj ad) (r : (Int32 × zS)) (a1 : Int32) (a2 : Int32) (rec6 : Int32 → zS → Option (Int32 × zS)) (hr6 : ∀ (b2 : Int32) (s : zS), rec6 b2 s = some r → zOk l D ad cA (zJm jX9_balances) (zEnd D ad cA (some (.int r.1)) r.2) 6 [some (.ref 66), some (.int a1), some (.int b2), none, none, none, none, none, none, none, none, none, none] [] s) : ∀ (n : Nat) (a3 : Int32) (s : zS), D_X9_balances_L59 rec6 a1 a2 n a3 s = some r → zOk l D ad cA (zJm jX9_balances) (zEnd D ad cA (some (.int r.1)) r.2) 59 [some (.ref 66), some (.int a1), some (.int a2), some (.int a3), none, none, none, none, none, none, none, none, none] [] s := by
  intro n
  induction n with
  | zero =>
    intro a3 s h
    have h0 : (none : Option (Int32 × zS)) = some r := h
    cases h0
  | succ n hr59 =>
    intro a3 s h
    have h : D_X9_balances_B59 rec6 a1 a2 (D_X9_balances_L59 rec6 a1 a2 n) a3 s = some r := h
    unfold D_X9_balances_B59 at h
    refine zk_iload_n dX9_balances_59 rfl rfl ?_
    refine zk_aload_n dX9_balances_60 rfl rfl ?_
    refine zf_X9_138 rfl dX9_balances_61 ?_
    refine zk_icmp_ge (tgt := 102) dX9_balances_64 rfl (fun g64 => ?_) (fun g64 => ?_)
    · replace h := zpos g64 h
      refine zk_iinc dX9_balances_102 rfl (zinc (m := 1) (by decide)) (by decide) (zk_eq [_, _, _, _, _, _, _, _, _, _, _, _, _] rfl ?_)
      refine zk_goto (tgt := 6) dX9_balances_105 rfl ?_
      refine zk_mask [true, true, true, false, false, false, false, false, false, false, false, false, false] ?_
      exact hr6 _ _ h
    · replace h := zneg g64 h
      refine zk_aload_n dX9_balances_67 rfl rfl ?_
      refine zk_iload_n dX9_balances_68 rfl rfl ?_
      refine zk_iload_n dX9_balances_69 rfl rfl ?_
      refine zk_iload_n dX9_balances_70 rfl rfl ?_
      refine zk_iadd dX9_balances_71 ?_
      refine zk_aload_n dX9_balances_72 rfl rfl ?_
      refine zf_X9_61 rfl dX9_balances_73 ?_
      refine zk_iload_n dX9_balances_76 rfl rfl ?_
      obtain ⟨g77, h⟩ := zguard h
      refine zk_iald (zoI_of rfl g77) dX9_balances_77 ?_
      refine zk_iload_n dX9_balances_78 rfl rfl ?_
      obtain ⟨p79, h79, h⟩ := zbind h
      refine zc_X9_121 [.int _, .int _, .ref _] (As := [.int _, .int _]) (ok_X9_has hj _ _ _ h79) rfl ⟨Nat.le_of_ble_eq_true rfl, Nat.le_of_ble_eq_true rfl⟩ ⟨Nat.le_refl _, Nat.le_refl _⟩ rfl rfl (Nat.le_of_ble_eq_true rfl) dX9_balances_79 ?_
      refine zk_if_eq (tgt := 91) dX9_balances_82 rfl (fun g82 => ?_) (fun g82 => ?_)
      · replace h := zpos g82 h
        refine zk_lconst (v := 0) dX9_balances_91 (by decide) ?_
        exact ok_X9_balances_J92 hj r _ _ _ _ _ _ _ _ hr6 _ hr59 h
      · replace h := zneg g82 h
        refine zk_ldc2 dX9_balances_85 zw_X9_150 ?_
        refine zk_goto (tgt := 92) dX9_balances_88 rfl ?_
        exact ok_X9_balances_J92 hj r _ _ _ _ _ _ _ _ hr6 _ hr59 h
def D_X9_balances_J47 (rec6 : Int32 → zS → Option (Int32 × zS)) (rec16 : Int32 → zS → Option (Int32 × zS)) (s : zS) (a1 : Int32) (a2 : Int32) (a3 : Int32) (k1 : Int32) (k2 : Int32) (k3 : Int64) : Option (Int32 × zS) :=
  (D_X9_put s k1 k2 k3 (1 : Int64)).bind fun p48 =>
  rec16 (a3 + 1) p48
set_option maxRecDepth 100000 in
theorem ok_X9_balances_J47 {l : Launch} {D : va_G} {ad : Nat → Nat} {cA : Nat → ClassId} (hj : zInj ad) (r : (Int32 × zS)) (s : zS) (a1 : Int32) (a2 : Int32) (a3 : Int32) (k1 : Int32) (k2 : Int32) (k3 : Int64) (rec6 : Int32 → zS → Option (Int32 × zS)) (hr6 : ∀ (b2 : Int32) (s : zS), rec6 b2 s = some r → zOk l D ad cA (zJm jX9_balances) (zEnd D ad cA (some (.int r.1)) r.2) 6 [some (.ref 66), some (.int a1), some (.int b2), none, none, none, none, none, none, none, none, none, none] [] s) (rec16 : Int32 → zS → Option (Int32 × zS)) (hr16 : ∀ (b3 : Int32) (s : zS), rec16 b3 s = some r → zOk l D ad cA (zJm jX9_balances) (zEnd D ad cA (some (.int r.1)) r.2) 16 [some (.ref 66), some (.int a1), some (.int a2), some (.int b3), none, none, none, none, none, none, none, none, none] [] s) (h : D_X9_balances_J47 rec6 rec16 s a1 a2 a3 k1 k2 k3 = some r) : zOk l D ad cA (zJm jX9_balances) (zEnd D ad cA (some (.int r.1)) r.2) 47 [some (.ref 66), some (.int a1), some (.int a2), some (.int a3), none, none, none, none, none, none, none, none, none] [.long k3, .int k2, .int k1, .ref 66] s := by
  unfold D_X9_balances_J47 at h
  refine zk_lconst (v := 1) dX9_balances_47 (by decide) ?_
  obtain ⟨p48, h48, h⟩ := zbind h
  refine zc_X9_134 [] (As := [.int _, .int _, .long _, .long _]) (ok_X9_put hj _ _ _ _ _ h48) rfl ⟨Nat.le_of_ble_eq_true rfl, Nat.le_of_ble_eq_true rfl⟩ ⟨Nat.le_refl _, Nat.le_refl _⟩ rfl rfl (Nat.le_of_ble_eq_true rfl) dX9_balances_48 ?_
  refine zk_iinc dX9_balances_51 rfl (zinc (m := 1) (by decide)) (by decide) (zk_eq [_, _, _, _, _, _, _, _, _, _, _, _, _] rfl ?_)
  refine zk_goto (tgt := 16) dX9_balances_54 rfl ?_
  exact hr16 _ _ h
def D_X9_balances_B16 (rec6 : Int32 → zS → Option (Int32 × zS)) (a1 : Int32) (a2 : Int32) (rec16 : Int32 → zS → Option (Int32 × zS)) (a3 : Int32) (s : zS) : Option (Int32 × zS) :=
    if a1 ≤ a3 then (
      D_X9_balances_L59 rec6 a1 a2 zFU (0 : Int32) s
    ) else (
      zgd (zin a3 5 = true) <|
      zgd (zin (s.1 84 a3.toNatClampNeg) 14 = true) <|
      (D_X9_has (s.1 83 (s.1 84 a3.toNatClampNeg).toNatClampNeg) a2).bind fun p36 =>
      if p36 = 0 then (
        D_X9_balances_J47 rec6 rec16 s a1 a2 a3 a2 a3 (0 : Int64)
      ) else (
        D_X9_balances_J47 rec6 rec16 s a1 a2 a3 a2 a3 (1 : Int64)
      )
    )
def D_X9_balances_L16 (rec6 : Int32 → zS → Option (Int32 × zS)) (a1 : Int32) (a2 : Int32) (n : Nat) (a3 : Int32) (s : zS) : Option (Int32 × zS) := zfx (fun (rec : Int32 × zS → Option (Int32 × zS)) q => D_X9_balances_B16 rec6 a1 a2 (fun v0 v1 => rec (v0, v1)) q.1 q.2) n (a3, s)
set_option maxRecDepth 100000 in
theorem D_X9_balances_L16_s (rec6 : Int32 → zS → Option (Int32 × zS)) (a1 : Int32) (a2 : Int32) (n : Nat) (a3 : Int32) (s : zS) : D_X9_balances_L16 rec6 a1 a2 (n + 1) a3 s = D_X9_balances_B16 rec6 a1 a2 (D_X9_balances_L16 rec6 a1 a2 n) a3 s := rfl
set_option maxRecDepth 100000 in
theorem ok_X9_balances_L16 {l : Launch} {D : va_G} {ad : Nat → Nat} {cA : Nat → ClassId} (hj : zInj ad) (r : (Int32 × zS)) (a1 : Int32) (a2 : Int32) (rec6 : Int32 → zS → Option (Int32 × zS)) (hr6 : ∀ (b2 : Int32) (s : zS), rec6 b2 s = some r → zOk l D ad cA (zJm jX9_balances) (zEnd D ad cA (some (.int r.1)) r.2) 6 [some (.ref 66), some (.int a1), some (.int b2), none, none, none, none, none, none, none, none, none, none] [] s) : ∀ (n : Nat) (a3 : Int32) (s : zS), D_X9_balances_L16 rec6 a1 a2 n a3 s = some r → zOk l D ad cA (zJm jX9_balances) (zEnd D ad cA (some (.int r.1)) r.2) 16 [some (.ref 66), some (.int a1), some (.int a2), some (.int a3), none, none, none, none, none, none, none, none, none] [] s := by
  intro n
  induction n with
  | zero =>
    intro a3 s h
    have h0 : (none : Option (Int32 × zS)) = some r := h
    cases h0
  | succ n hr16 =>
    intro a3 s h
    have h : D_X9_balances_B16 rec6 a1 a2 (D_X9_balances_L16 rec6 a1 a2 n) a3 s = some r := h
    unfold D_X9_balances_B16 at h
    refine zk_iload_n dX9_balances_16 rfl rfl ?_
    refine zk_iload_n dX9_balances_17 rfl rfl ?_
    refine zk_icmp_ge (tgt := 57) dX9_balances_18 rfl (fun g18 => ?_) (fun g18 => ?_)
    · replace h := zpos g18 h
      refine zk_iconst (v := 0) dX9_balances_57 (by decide) ?_
      refine zk_istore_n (i := 3) dX9_balances_58 rfl (by decide) (zk_eq [_, _, _, _, _, _, _, _, _, _, _, _, _] rfl ?_)
      exact ok_X9_balances_L59 hj r _ _ _ hr6 _ _ _ h
    · replace h := zneg g18 h
      refine zk_aload_n dX9_balances_21 rfl rfl ?_
      refine zk_iload_n dX9_balances_22 rfl rfl ?_
      refine zk_iload_n dX9_balances_23 rfl rfl ?_
      refine zk_aload_n dX9_balances_24 rfl rfl ?_
      refine zf_X9_73 rfl dX9_balances_25 ?_
      refine zk_aload_n dX9_balances_28 rfl rfl ?_
      refine zf_X9_76 rfl dX9_balances_29 ?_
      refine zk_iload_n dX9_balances_32 rfl rfl ?_
      obtain ⟨g33, h⟩ := zguard h
      refine zk_iald (zoI_of rfl g33) dX9_balances_33 ?_
      obtain ⟨g34, h⟩ := zguard h
      refine zk_iald (zoI_of rfl g34) dX9_balances_34 ?_
      refine zk_iload_n dX9_balances_35 rfl rfl ?_
      obtain ⟨p36, h36, h⟩ := zbind h
      refine zc_X9_121 [.int _, .int _, .ref _] (As := [.int _, .int _]) (ok_X9_has hj _ _ _ h36) rfl ⟨Nat.le_of_ble_eq_true rfl, Nat.le_of_ble_eq_true rfl⟩ ⟨Nat.le_refl _, Nat.le_refl _⟩ rfl rfl (Nat.le_of_ble_eq_true rfl) dX9_balances_36 ?_
      refine zk_if_eq (tgt := 46) dX9_balances_39 rfl (fun g39 => ?_) (fun g39 => ?_)
      · replace h := zpos g39 h
        refine zk_lconst (v := 0) dX9_balances_46 (by decide) ?_
        exact ok_X9_balances_J47 hj r _ _ _ _ _ _ _ _ hr6 _ hr16 h
      · replace h := zneg g39 h
        refine zk_lconst (v := 1) dX9_balances_42 (by decide) ?_
        refine zk_goto (tgt := 47) dX9_balances_43 rfl ?_
        exact ok_X9_balances_J47 hj r _ _ _ _ _ _ _ _ hr6 _ hr16 h
def D_X9_balances_B6 (a1 : Int32) (rec6 : Int32 → zS → Option (Int32 × zS)) (a2 : Int32) (s : zS) : Option (Int32 × zS) :=
    if (s.1 66 0) ≤ a2 then (
      D_X9_balances_L110 a1 zFU (0 : Int32) s
    ) else (
      D_X9_balances_L16 rec6 a1 a2 zFU (0 : Int32) s
    )
def D_X9_balances_L6 (a1 : Int32) (n : Nat) (a2 : Int32) (s : zS) : Option (Int32 × zS) := zfx (fun (rec : Int32 × zS → Option (Int32 × zS)) q => D_X9_balances_B6 a1 (fun v0 v1 => rec (v0, v1)) q.1 q.2) n (a2, s)
set_option maxRecDepth 100000 in
theorem D_X9_balances_L6_s (a1 : Int32) (n : Nat) (a2 : Int32) (s : zS) : D_X9_balances_L6 a1 (n + 1) a2 s = D_X9_balances_B6 a1 (D_X9_balances_L6 a1 n) a2 s := rfl
set_option maxRecDepth 100000 in
theorem ok_X9_balances_L6 {l : Launch} {D : va_G} {ad : Nat → Nat} {cA : Nat → ClassId} (hj : zInj ad) (r : (Int32 × zS)) (a1 : Int32) : ∀ (n : Nat) (a2 : Int32) (s : zS), D_X9_balances_L6 a1 n a2 s = some r → zOk l D ad cA (zJm jX9_balances) (zEnd D ad cA (some (.int r.1)) r.2) 6 [some (.ref 66), some (.int a1), some (.int a2), none, none, none, none, none, none, none, none, none, none] [] s := by
  intro n
  induction n with
  | zero =>
    intro a2 s h
    have h0 : (none : Option (Int32 × zS)) = some r := h
    cases h0
  | succ n hr6 =>
    intro a2 s h
    have h : D_X9_balances_B6 a1 (D_X9_balances_L6 a1 n) a2 s = some r := h
    unfold D_X9_balances_B6 at h
    refine zk_iload_n dX9_balances_6 rfl rfl ?_
    refine zk_aload_n dX9_balances_7 rfl rfl ?_
    refine zf_X9_7 rfl dX9_balances_8 ?_
    refine zk_icmp_ge (tgt := 108) dX9_balances_11 rfl (fun g11 => ?_) (fun g11 => ?_)
    · replace h := zpos g11 h
      refine zk_iconst (v := 0) dX9_balances_108 (by decide) ?_
      refine zk_istore_n (i := 2) dX9_balances_109 rfl (by decide) (zk_eq [_, _, _, _, _, _, _, _, _, _, _, _, _] rfl ?_)
      exact ok_X9_balances_L110 hj r _ _ _ _ h
    · replace h := zneg g11 h
      refine zk_iconst (v := 0) dX9_balances_14 (by decide) ?_
      refine zk_istore_n (i := 3) dX9_balances_15 rfl (by decide) (zk_eq [_, _, _, _, _, _, _, _, _, _, _, _, _] rfl ?_)
      exact ok_X9_balances_L16 hj r _ _ _ hr6 _ _ _ h
def D_X9_balances (s : zS) (a1 : Int32) : Option (Int32 × zS) :=
  (D_X9_noRows s).bind fun p1 =>
  D_X9_balances_L6 a1 zFU (0 : Int32) p1
set_option maxRecDepth 100000 in
theorem ok_X9_balances {l : Launch} {D : va_G} {ad : Nat → Nat} {cA : Nat → ClassId} (hj : zInj ad) (s : zS) (a1 : Int32) {r : (Int32 × zS)} (h : D_X9_balances s a1 = some r) : zMet l D ad cA jX9_balances [.ref 66, .int a1] s (some (.int r.1)) r.2 := by
  refine zMet_of jX9_balances [some (.ref 66), some (.int a1), none, none, none, none, none, none, none, none, none, none, none] (by decide +kernel) (Nat.le_of_ble_eq_true rfl) rfl hj ?_
  unfold D_X9_balances at h
  refine zk_aload_n dX9_balances_0 rfl rfl ?_
  obtain ⟨p1, h1, h⟩ := zbind h
  refine zc_X9_147 [] (As := []) (ok_X9_noRows hj _ h1) rfl ⟨Nat.le_of_ble_eq_true rfl, Nat.le_of_ble_eq_true rfl⟩ ⟨Nat.le_refl _, Nat.le_refl _⟩ rfl rfl (Nat.le_of_ble_eq_true rfl) dX9_balances_1 ?_
  refine zk_iconst (v := 0) dX9_balances_4 (by decide) ?_
  refine zk_istore_n (i := 2) dX9_balances_5 rfl (by decide) (zk_eq [_, _, _, _, _, _, _, _, _, _, _, _, _] rfl ?_)
  exact ok_X9_balances_L6 hj r _ _ _ _ h
def D_X9_fix (s : zS) (a1 : Int32) (a2 : Int64) (a4 : Int64) : Option zS :=
  zgd (zin (s.1 66 23) 5 = true) <|
  let s9 : zS := zwI s 79 (s.1 66 23).toNatClampNeg a1
  zgd (zin (s9.1 66 23) 5 = true) <|
  let s19 : zS := zwL s9 80 (s9.1 66 23).toNatClampNeg a2
  zgd (zin (s19.1 66 23) 5 = true) <|
  let s30 : zS := zwL s19 81 (s19.1 66 23).toNatClampNeg a4
  let s38 : zS := zwI s30 66 23 ((s30.1 66 23) + (1 : Int32))
  some s38
set_option maxRecDepth 100000 in
theorem ok_X9_fix {l : Launch} {D : va_G} {ad : Nat → Nat} {cA : Nat → ClassId} (hj : zInj ad) (s : zS) (a1 : Int32) (a2 : Int64) (a4 : Int64) {r : zS} (h : D_X9_fix s a1 a2 a4 = some r) : zMet l D ad cA jX9_fix [.ref 66, .int a1, .long a2, .long a4] s none r := by
  refine zMet_of jX9_fix [some (.ref 66), some (.int a1), some (.long a2), none, some (.long a4), none] (by decide +kernel) (Nat.le_of_ble_eq_true rfl) rfl hj ?_
  unfold D_X9_fix at h
  refine zk_aload_n dX9_fix_0 rfl rfl ?_
  refine zf_X9_61 rfl dX9_fix_1 ?_
  refine zk_aload_n dX9_fix_4 rfl rfl ?_
  refine zf_X9_138 rfl dX9_fix_5 ?_
  refine zk_iload_n dX9_fix_8 rfl rfl ?_
  obtain ⟨g9, h⟩ := zguard h
  refine zk_iast (zoI_of rfl g9) dX9_fix_9 ?_
  refine zk_aload_n dX9_fix_10 rfl rfl ?_
  refine zf_X9_64 rfl dX9_fix_11 ?_
  refine zk_aload_n dX9_fix_14 rfl rfl ?_
  refine zf_X9_138 rfl dX9_fix_15 ?_
  refine zk_lload_n dX9_fix_18 rfl rfl ?_
  obtain ⟨g19, h⟩ := zguard h
  refine zk_last (zoL_of rfl g19) dX9_fix_19 ?_
  refine zk_aload_n dX9_fix_20 rfl rfl ?_
  refine zf_X9_67 rfl dX9_fix_21 ?_
  refine zk_aload_n dX9_fix_24 rfl rfl ?_
  refine zf_X9_138 rfl dX9_fix_25 ?_
  refine zk_lload dX9_fix_28 rfl ?_
  obtain ⟨g30, h⟩ := zguard h
  refine zk_last (zoL_of rfl g30) dX9_fix_30 ?_
  refine zk_aload_n dX9_fix_31 rfl rfl ?_
  refine zk_dup dX9_fix_32 rfl ?_
  refine zf_X9_138 rfl dX9_fix_33 ?_
  refine zk_iconst (v := 1) dX9_fix_36 (by decide) ?_
  refine zk_iadd dX9_fix_37 ?_
  refine zp_X9_138 rfl dX9_fix_38 ?_
  have e9 := Option.some.inj h
  subst e9
  exact zk_vret rfl ⟨rfl, rfl⟩ dX9_fix_41
def D_X9_beginShares (s : zS) : Option zS :=
  let s2 : zS := zwI s 66 23 (0 : Int32)
  (D_X9_all s2).bind fun p7 =>
  (D_X9_all s2).bind fun p15 =>
  zgd (zin p15 16 = true) <|
  (D_X9_fix s2 p7 ((s2.1 67 p15.toNatClampNeg).toInt64) (1 : Int64)).bind fun p21 =>
  some p21
set_option maxRecDepth 100000 in
theorem ok_X9_beginShares {l : Launch} {D : va_G} {ad : Nat → Nat} {cA : Nat → ClassId} (hj : zInj ad) (s : zS)  {r : zS} (h : D_X9_beginShares s = some r) : zMet l D ad cA jX9_beginShares [.ref 66] s none r := by
  refine zMet_of jX9_beginShares [some (.ref 66)] (by decide +kernel) (Nat.le_of_ble_eq_true rfl) rfl hj ?_
  unfold D_X9_beginShares at h
  refine zk_aload_n dX9_beginShares_0 rfl rfl ?_
  refine zk_iconst (v := 0) dX9_beginShares_1 (by decide) ?_
  refine zp_X9_138 rfl dX9_beginShares_2 ?_
  refine zk_aload_n dX9_beginShares_5 rfl rfl ?_
  refine zk_aload_n dX9_beginShares_6 rfl rfl ?_
  obtain ⟨p7, h7, h⟩ := zbind h
  refine zc_X9_88 [.ref _] (As := []) (ok_X9_all hj _ h7) rfl ⟨Nat.le_of_ble_eq_true rfl, Nat.le_of_ble_eq_true rfl⟩ ⟨Nat.le_refl _, Nat.le_refl _⟩ rfl rfl (Nat.le_of_ble_eq_true rfl) dX9_beginShares_7 ?_
  refine zk_aload_n dX9_beginShares_10 rfl rfl ?_
  refine zf_X9_13 rfl dX9_beginShares_11 ?_
  refine zk_aload_n dX9_beginShares_14 rfl rfl ?_
  obtain ⟨p15, h15, h⟩ := zbind h
  refine zc_X9_88 [.ref _, .int _, .ref _] (As := []) (ok_X9_all hj _ h15) rfl ⟨Nat.le_of_ble_eq_true rfl, Nat.le_of_ble_eq_true rfl⟩ ⟨Nat.le_refl _, Nat.le_refl _⟩ rfl rfl (Nat.le_of_ble_eq_true rfl) dX9_beginShares_15 ?_
  obtain ⟨g18, h⟩ := zguard h
  refine zk_iald (zoI_of rfl g18) dX9_beginShares_18 ?_
  refine zk_i2l dX9_beginShares_19 ?_
  refine zk_lconst (v := 1) dX9_beginShares_20 (by decide) ?_
  obtain ⟨p21, h21, h⟩ := zbind h
  refine zc_X9_176 [] (As := [.int _, .long _, .long _]) (ok_X9_fix hj _ _ _ _ h21) rfl ⟨Nat.le_of_ble_eq_true rfl, Nat.le_of_ble_eq_true rfl⟩ ⟨Nat.le_refl _, Nat.le_refl _⟩ rfl rfl (Nat.le_of_ble_eq_true rfl) dX9_beginShares_21 ?_
  have e9 := Option.some.inj h
  subst e9
  exact zk_vret rfl ⟨rfl, rfl⟩ dX9_beginShares_24
def D_X9_isShare (a0 : Int32) : Option Int32 :=
  (D_X9_in a0.toInt64 (0 : Int64) (1 : Int64)).bind fun p4 =>
  zgd (p4 = 0 ∨ p4 = 1) <|
  some p4
set_option maxRecDepth 100000 in
theorem ok_X9_isShare {l : Launch} {D : va_G} {ad : Nat → Nat} {cA : Nat → ClassId} (hj : zInj ad) (s : zS) (a0 : Int32) {r : Int32} (h : D_X9_isShare a0 = some r) : zMet l D ad cA jX9_isShare [.int a0] s (some (.int r)) s := by
  refine zMet_of jX9_isShare [some (.int a0)] (by decide +kernel) (Nat.le_of_ble_eq_true rfl) rfl hj ?_
  unfold D_X9_isShare at h
  refine zk_iload_n dX9_isShare_0 rfl rfl ?_
  refine zk_i2l dX9_isShare_1 ?_
  refine zk_lconst (v := 0) dX9_isShare_2 (by decide) ?_
  refine zk_lconst (v := 1) dX9_isShare_3 (by decide) ?_
  obtain ⟨p4, h4, h⟩ := zbind h
  refine zc_X9_92 [] (As := [.long _, .long _, .long _]) (ok_X9_in hj _ _ _ _ h4) rfl ⟨Nat.le_of_ble_eq_true rfl, Nat.le_of_ble_eq_true rfl⟩ ⟨Nat.le_refl _, Nat.le_refl _⟩ rfl rfl (Nat.le_of_ble_eq_true rfl) dX9_isShare_4 ?_
  obtain ⟨hx7, h⟩ := zguard h
  have e9 := Option.some.inj h
  subst e9
  exact zk_zret rfl hx7 ⟨rfl, rfl⟩ dX9_isShare_7
def D_X9_sumOf_J39 (rec5 : Int32 → Int32 → Option Int32) (s : zS) (a1 : Int32) (a2 : Int32) (a4 : Int32) (k0 : Int32) (k1 : Int32) : Option Int32 :=
  rec5 (k0 + k1) (a4 + 1)
set_option maxRecDepth 100000 in
theorem ok_X9_sumOf_J39 {l : Launch} {D : va_G} {ad : Nat → Nat} {cA : Nat → ClassId} (hj : zInj ad) (r : Int32) (s : zS) (a1 : Int32) (a2 : Int32) (a4 : Int32) (k0 : Int32) (k1 : Int32) (rec5 : Int32 → Int32 → Option Int32) (hr5 : ∀ (b3 : Int32) (b4 : Int32), rec5 b3 b4 = some r → zOk l D ad cA (zJm jX9_sumOf) (zEnd D ad cA (some (.int r)) s) 5 [some (.ref 66), some (.int a1), some (.int a2), some (.int b3), some (.int b4)] [] s) (h : D_X9_sumOf_J39 rec5 s a1 a2 a4 k0 k1 = some r) : zOk l D ad cA (zJm jX9_sumOf) (zEnd D ad cA (some (.int r)) s) 39 [some (.ref 66), some (.int a1), some (.int a2), none, some (.int a4)] [.int k1, .int k0] s := by
  unfold D_X9_sumOf_J39 at h
  refine zk_iadd dX9_sumOf_39 ?_
  refine zk_istore_n (i := 3) dX9_sumOf_40 rfl (by decide) (zk_eq [_, _, _, _, _] rfl ?_)
  refine zk_iinc dX9_sumOf_41 rfl (zinc (m := 1) (by decide)) (by decide) (zk_eq [_, _, _, _, _] rfl ?_)
  refine zk_goto (tgt := 5) dX9_sumOf_44 rfl ?_
  exact hr5 _ _ h
def D_X9_sumOf_B5 (s : zS) (a1 : Int32) (a2 : Int32) (rec5 : Int32 → Int32 → Option Int32) (a3 : Int32) (a4 : Int32) : Option Int32 :=
    if (s.1 66 0) ≤ a4 then (
      some a3
    ) else (
      (D_X9_has a2 a4).bind fun p18 =>
      if p18 = 0 then (
        D_X9_sumOf_J39 rec5 s a1 a2 a4 a3 (0 : Int32)
      ) else (
        zgd (zin (((4 : Int32) * a1) + a4) 8 = true) <|
        D_X9_sumOf_J39 rec5 s a1 a2 a4 a3 (s.1 68 (((4 : Int32) * a1) + a4).toNatClampNeg)
      )
    )
def D_X9_sumOf_L5 (s : zS) (a1 : Int32) (a2 : Int32) (n : Nat) (a3 : Int32) (a4 : Int32) : Option Int32 := zfx (fun (rec : Int32 × Int32 → Option Int32) q => D_X9_sumOf_B5 s a1 a2 (fun v0 v1 => rec (v0, v1)) q.1 q.2) n (a3, a4)
set_option maxRecDepth 100000 in
theorem D_X9_sumOf_L5_s (s : zS) (a1 : Int32) (a2 : Int32) (n : Nat) (a3 : Int32) (a4 : Int32) : D_X9_sumOf_L5 s a1 a2 (n + 1) a3 a4 = D_X9_sumOf_B5 s a1 a2 (D_X9_sumOf_L5 s a1 a2 n) a3 a4 := rfl
set_option maxRecDepth 100000 in
theorem ok_X9_sumOf_L5 {l : Launch} {D : va_G} {ad : Nat → Nat} {cA : Nat → ClassId} (hj : zInj ad) (r : Int32) (s : zS) (a1 : Int32) (a2 : Int32) : ∀ (n : Nat) (a3 : Int32) (a4 : Int32), D_X9_sumOf_L5 s a1 a2 n a3 a4 = some r → zOk l D ad cA (zJm jX9_sumOf) (zEnd D ad cA (some (.int r)) s) 5 [some (.ref 66), some (.int a1), some (.int a2), some (.int a3), some (.int a4)] [] s := by
  intro n
  induction n with
  | zero =>
    intro a3 a4 h
    have h0 : (none : Option Int32) = some r := h
    cases h0
  | succ n hr5 =>
    intro a3 a4 h
    have h : D_X9_sumOf_B5 s a1 a2 (D_X9_sumOf_L5 s a1 a2 n) a3 a4 = some r := h
    unfold D_X9_sumOf_B5 at h
    refine zk_iload dX9_sumOf_5 rfl ?_
    refine zk_aload_n dX9_sumOf_7 rfl rfl ?_
    refine zf_X9_7 rfl dX9_sumOf_8 ?_
    refine zk_icmp_ge (tgt := 47) dX9_sumOf_11 rfl (fun g11 => ?_) (fun g11 => ?_)
    · replace h := zpos g11 h
      refine zk_iload_n dX9_sumOf_47 rfl rfl ?_
      have e9 := Option.some.inj h
      subst e9
      exact zk_iret rfl ⟨rfl, rfl⟩ dX9_sumOf_48
    · replace h := zneg g11 h
      refine zk_iload_n dX9_sumOf_14 rfl rfl ?_
      refine zk_iload_n dX9_sumOf_15 rfl rfl ?_
      refine zk_iload dX9_sumOf_16 rfl ?_
      obtain ⟨p18, h18, h⟩ := zbind h
      refine zc_X9_121 [.int _] (As := [.int _, .int _]) (ok_X9_has hj _ _ _ h18) rfl ⟨Nat.le_of_ble_eq_true rfl, Nat.le_of_ble_eq_true rfl⟩ ⟨Nat.le_refl _, Nat.le_refl _⟩ rfl rfl (Nat.le_of_ble_eq_true rfl) dX9_sumOf_18 ?_
      refine zk_if_eq (tgt := 38) dX9_sumOf_21 rfl (fun g21 => ?_) (fun g21 => ?_)
      · replace h := zpos g21 h
        refine zk_iconst (v := 0) dX9_sumOf_38 (by decide) ?_
        refine zk_mask [true, true, true, false, true] ?_
        exact ok_X9_sumOf_J39 hj r _ _ _ _ _ _ _ hr5 h
      · replace h := zneg g21 h
        refine zk_aload_n dX9_sumOf_24 rfl rfl ?_
        refine zf_X9_17 rfl dX9_sumOf_25 ?_
        refine zk_iconst (v := 4) dX9_sumOf_28 (by decide) ?_
        refine zk_iload_n dX9_sumOf_29 rfl rfl ?_
        refine zk_imul dX9_sumOf_30 ?_
        refine zk_iload dX9_sumOf_31 rfl ?_
        refine zk_iadd dX9_sumOf_33 ?_
        obtain ⟨g34, h⟩ := zguard h
        refine zk_iald (zoI_of rfl g34) dX9_sumOf_34 ?_
        refine zk_goto (tgt := 39) dX9_sumOf_35 rfl ?_
        refine zk_mask [true, true, true, false, true] ?_
        exact ok_X9_sumOf_J39 hj r _ _ _ _ _ _ _ hr5 h
def D_X9_sumOf (s : zS) (a1 : Int32) (a2 : Int32) : Option Int32 :=
  D_X9_sumOf_L5 s a1 a2 zFU (0 : Int32) (0 : Int32)
set_option maxRecDepth 100000 in
theorem ok_X9_sumOf {l : Launch} {D : va_G} {ad : Nat → Nat} {cA : Nat → ClassId} (hj : zInj ad) (s : zS) (a1 : Int32) (a2 : Int32) {r : Int32} (h : D_X9_sumOf s a1 a2 = some r) : zMet l D ad cA jX9_sumOf [.ref 66, .int a1, .int a2] s (some (.int r)) s := by
  refine zMet_of jX9_sumOf [some (.ref 66), some (.int a1), some (.int a2), none, none] (by decide +kernel) (Nat.le_of_ble_eq_true rfl) rfl hj ?_
  unfold D_X9_sumOf at h
  refine zk_iconst (v := 0) dX9_sumOf_0 (by decide) ?_
  refine zk_istore_n (i := 3) dX9_sumOf_1 rfl (by decide) (zk_eq [_, _, _, _, _] rfl ?_)
  refine zk_iconst (v := 0) dX9_sumOf_2 (by decide) ?_
  refine zk_istore (i := 4) dX9_sumOf_3 (by decide) (zk_eq [_, _, _, _, _] rfl ?_)
  exact ok_X9_sumOf_L5 hj r _ _ _ _ _ _ h
def D_X9_better_J97 (rec12 : Int32 → Option Int32) (rec44 : Int32 → Int32 → Option Int32) (s : zS) (a1 : Int32) (a2 : Int32) (a4 : Int32) : Option Int32 :=
  rec44 (0 : Int32) (a4 + 1)
set_option maxRecDepth 100000 in
theorem ok_X9_better_J97 {l : Launch} {D : va_G} {ad : Nat → Nat} {cA : Nat → ClassId} (hj : zInj ad) (r : Int32) (s : zS) (a1 : Int32) (a2 : Int32) (a4 : Int32) (rec12 : Int32 → Option Int32) (hr12 : ∀ (b2 : Int32), rec12 b2 = some r → zOk l D ad cA (zJm jX9_better) (zEnd D ad cA (some (.int r)) s) 12 [some (.ref 66), some (.int a1), some (.int b2), none, none] [] s) (rec44 : Int32 → Int32 → Option Int32) (hr44 : ∀ (b3 : Int32) (b4 : Int32), rec44 b3 b4 = some r → zOk l D ad cA (zJm jX9_better) (zEnd D ad cA (some (.int r)) s) 44 [some (.ref 66), some (.int a1), some (.int a2), some (.int b3), some (.int b4)] [] s) (h : D_X9_better_J97 rec12 rec44 s a1 a2 a4 = some r) : zOk l D ad cA (zJm jX9_better) (zEnd D ad cA (some (.int r)) s) 97 [some (.ref 66), some (.int a1), some (.int a2), none, some (.int a4)] [] s := by
  unfold D_X9_better_J97 at h
  refine zk_iconst (v := 0) dX9_better_97 (by decide) ?_
  refine zk_istore_n (i := 3) dX9_better_98 rfl (by decide) (zk_eq [_, _, _, _, _] rfl ?_)
  refine zk_iinc dX9_better_99 rfl (zinc (m := 1) (by decide)) (by decide) (zk_eq [_, _, _, _, _] rfl ?_)
  refine zk_goto (tgt := 44) dX9_better_102 rfl ?_
  exact hr44 _ _ h
def D_X9_better_J93 (rec12 : Int32 → Option Int32) (rec44 : Int32 → Int32 → Option Int32) (s : zS) (a1 : Int32) (a2 : Int32) (a4 : Int32) : Option Int32 :=
  rec44 (1 : Int32) (a4 + 1)
set_option maxRecDepth 100000 in
theorem ok_X9_better_J93 {l : Launch} {D : va_G} {ad : Nat → Nat} {cA : Nat → ClassId} (hj : zInj ad) (r : Int32) (s : zS) (a1 : Int32) (a2 : Int32) (a4 : Int32) (rec12 : Int32 → Option Int32) (hr12 : ∀ (b2 : Int32), rec12 b2 = some r → zOk l D ad cA (zJm jX9_better) (zEnd D ad cA (some (.int r)) s) 12 [some (.ref 66), some (.int a1), some (.int b2), none, none] [] s) (rec44 : Int32 → Int32 → Option Int32) (hr44 : ∀ (b3 : Int32) (b4 : Int32), rec44 b3 b4 = some r → zOk l D ad cA (zJm jX9_better) (zEnd D ad cA (some (.int r)) s) 44 [some (.ref 66), some (.int a1), some (.int a2), some (.int b3), some (.int b4)] [] s) (h : D_X9_better_J93 rec12 rec44 s a1 a2 a4 = some r) : zOk l D ad cA (zJm jX9_better) (zEnd D ad cA (some (.int r)) s) 93 [some (.ref 66), some (.int a1), some (.int a2), none, some (.int a4)] [] s := by
  unfold D_X9_better_J93 at h
  refine zk_iconst (v := 1) dX9_better_93 (by decide) ?_
  refine zk_goto (tgt := 98) dX9_better_94 rfl ?_
  refine zk_istore_n (i := 3) dX9_better_98 rfl (by decide) (zk_eq [_, _, _, _, _] rfl ?_)
  refine zk_iinc dX9_better_99 rfl (zinc (m := 1) (by decide)) (by decide) (zk_eq [_, _, _, _, _] rfl ?_)
  refine zk_goto (tgt := 44) dX9_better_102 rfl ?_
  exact hr44 _ _ h
def D_X9_better_B44 (rec12 : Int32 → Option Int32) (s : zS) (a1 : Int32) (a2 : Int32) (rec44 : Int32 → Int32 → Option Int32) (a3 : Int32) (a4 : Int32) : Option Int32 :=
    if (s.1 66 0) ≤ a4 then (
      if a3 = 0 then (
        rec12 (a2 + 1)
      ) else (
        some a2
      )
    ) else (
      if a3 = 0 then (
        D_X9_better_J97 rec12 rec44 s a1 a2 a4
      ) else (
        (D_X9_has a2 a4).bind fun p60 =>
        if p60 = 0 then (
          D_X9_better_J93 rec12 rec44 s a1 a2 a4
        ) else (
          zgd (zin (((4 : Int32) * a1) + a4) 8 = true) <|
          zgd (zin (((4 : Int32) * ((1 : Int32) - a1)) + a4) 8 = true) <|
          if (s.1 68 (((4 : Int32) * a1) + a4).toNatClampNeg) ≤ (s.1 68 (((4 : Int32) * ((1 : Int32) - a1)) + a4).toNatClampNeg) then (
            D_X9_better_J97 rec12 rec44 s a1 a2 a4
          ) else (
            D_X9_better_J93 rec12 rec44 s a1 a2 a4
          )
        )
      )
    )
def D_X9_better_L44 (rec12 : Int32 → Option Int32) (s : zS) (a1 : Int32) (a2 : Int32) (n : Nat) (a3 : Int32) (a4 : Int32) : Option Int32 := zfx (fun (rec : Int32 × Int32 → Option Int32) q => D_X9_better_B44 rec12 s a1 a2 (fun v0 v1 => rec (v0, v1)) q.1 q.2) n (a3, a4)
set_option maxRecDepth 100000 in
theorem D_X9_better_L44_s (rec12 : Int32 → Option Int32) (s : zS) (a1 : Int32) (a2 : Int32) (n : Nat) (a3 : Int32) (a4 : Int32) : D_X9_better_L44 rec12 s a1 a2 (n + 1) a3 a4 = D_X9_better_B44 rec12 s a1 a2 (D_X9_better_L44 rec12 s a1 a2 n) a3 a4 := rfl
set_option maxRecDepth 100000 in
theorem ok_X9_better_L44 {l : Launch} {D : va_G} {ad : Nat → Nat} {cA : Nat → ClassId} (hj : zInj ad) (r : Int32) (s : zS) (a1 : Int32) (a2 : Int32) (rec12 : Int32 → Option Int32) (hr12 : ∀ (b2 : Int32), rec12 b2 = some r → zOk l D ad cA (zJm jX9_better) (zEnd D ad cA (some (.int r)) s) 12 [some (.ref 66), some (.int a1), some (.int b2), none, none] [] s) : ∀ (n : Nat) (a3 : Int32) (a4 : Int32), D_X9_better_L44 rec12 s a1 a2 n a3 a4 = some r → zOk l D ad cA (zJm jX9_better) (zEnd D ad cA (some (.int r)) s) 44 [some (.ref 66), some (.int a1), some (.int a2), some (.int a3), some (.int a4)] [] s := by
  intro n
  induction n with
  | zero =>
    intro a3 a4 h
    have h0 : (none : Option Int32) = some r := h
    cases h0
  | succ n hr44 =>
    intro a3 a4 h
    have h : D_X9_better_B44 rec12 s a1 a2 (D_X9_better_L44 rec12 s a1 a2 n) a3 a4 = some r := h
    unfold D_X9_better_B44 at h
    refine zk_iload dX9_better_44 rfl ?_
    refine zk_aload_n dX9_better_46 rfl rfl ?_
    refine zf_X9_7 rfl dX9_better_47 ?_
    refine zk_icmp_ge (tgt := 105) dX9_better_50 rfl (fun g50 => ?_) (fun g50 => ?_)
    · replace h := zpos g50 h
      refine zk_iload_n dX9_better_105 rfl rfl ?_
      refine zk_if_eq (tgt := 111) dX9_better_106 rfl (fun g106 => ?_) (fun g106 => ?_)
      · replace h := zpos g106 h
        refine zk_iinc dX9_better_111 rfl (zinc (m := 1) (by decide)) (by decide) (zk_eq [_, _, _, _, _] rfl ?_)
        refine zk_goto (tgt := 12) dX9_better_114 rfl ?_
        refine zk_mask [true, true, true, false, false] ?_
        exact hr12 _ h
      · replace h := zneg g106 h
        refine zk_iload_n dX9_better_109 rfl rfl ?_
        have e9 := Option.some.inj h
        subst e9
        exact zk_iret rfl ⟨rfl, rfl⟩ dX9_better_110
    · replace h := zneg g50 h
      refine zk_iload_n dX9_better_53 rfl rfl ?_
      refine zk_if_eq (tgt := 97) dX9_better_54 rfl (fun g54 => ?_) (fun g54 => ?_)
      · replace h := zpos g54 h
        refine zk_mask [true, true, true, false, true] ?_
        exact ok_X9_better_J97 hj r _ _ _ _ _ hr12 _ hr44 h
      · replace h := zneg g54 h
        refine zk_iload_n dX9_better_57 rfl rfl ?_
        refine zk_iload dX9_better_58 rfl ?_
        obtain ⟨p60, h60, h⟩ := zbind h
        refine zc_X9_121 [] (As := [.int _, .int _]) (ok_X9_has hj _ _ _ h60) rfl ⟨Nat.le_of_ble_eq_true rfl, Nat.le_of_ble_eq_true rfl⟩ ⟨Nat.le_refl _, Nat.le_refl _⟩ rfl rfl (Nat.le_of_ble_eq_true rfl) dX9_better_60 ?_
        refine zk_if_eq (tgt := 93) dX9_better_63 rfl (fun g63 => ?_) (fun g63 => ?_)
        · replace h := zpos g63 h
          refine zk_mask [true, true, true, false, true] ?_
          exact ok_X9_better_J93 hj r _ _ _ _ _ hr12 _ hr44 h
        · replace h := zneg g63 h
          refine zk_aload_n dX9_better_66 rfl rfl ?_
          refine zf_X9_17 rfl dX9_better_67 ?_
          refine zk_iconst (v := 4) dX9_better_70 (by decide) ?_
          refine zk_iload_n dX9_better_71 rfl rfl ?_
          refine zk_imul dX9_better_72 ?_
          refine zk_iload dX9_better_73 rfl ?_
          refine zk_iadd dX9_better_75 ?_
          obtain ⟨g76, h⟩ := zguard h
          refine zk_iald (zoI_of rfl g76) dX9_better_76 ?_
          refine zk_aload_n dX9_better_77 rfl rfl ?_
          refine zf_X9_17 rfl dX9_better_78 ?_
          refine zk_iconst (v := 4) dX9_better_81 (by decide) ?_
          refine zk_iconst (v := 1) dX9_better_82 (by decide) ?_
          refine zk_iload_n dX9_better_83 rfl rfl ?_
          refine zk_isub dX9_better_84 ?_
          refine zk_imul dX9_better_85 ?_
          refine zk_iload dX9_better_86 rfl ?_
          refine zk_iadd dX9_better_88 ?_
          obtain ⟨g89, h⟩ := zguard h
          refine zk_iald (zoI_of rfl g89) dX9_better_89 ?_
          refine zk_icmp_le (tgt := 97) dX9_better_90 rfl (fun g90 => ?_) (fun g90 => ?_)
          · replace h := zpos g90 h
            refine zk_mask [true, true, true, false, true] ?_
            exact ok_X9_better_J97 hj r _ _ _ _ _ hr12 _ hr44 h
          · replace h := zneg g90 h
            refine zk_mask [true, true, true, false, true] ?_
            exact ok_X9_better_J93 hj r _ _ _ _ _ hr12 _ hr44 h
def D_X9_better_J40 (rec12 : Int32 → Option Int32) (s : zS) (a1 : Int32) (a2 : Int32) (k0 : Int32) : Option Int32 :=
  D_X9_better_L44 rec12 s a1 a2 zFU k0 (0 : Int32)
set_option maxRecDepth 100000 in
theorem ok_X9_better_J40 {l : Launch} {D : va_G} {ad : Nat → Nat} {cA : Nat → ClassId} (hj : zInj ad) (r : Int32) (s : zS) (a1 : Int32) (a2 : Int32) (k0 : Int32) (rec12 : Int32 → Option Int32) (hr12 : ∀ (b2 : Int32), rec12 b2 = some r → zOk l D ad cA (zJm jX9_better) (zEnd D ad cA (some (.int r)) s) 12 [some (.ref 66), some (.int a1), some (.int b2), none, none] [] s) (h : D_X9_better_J40 rec12 s a1 a2 k0 = some r) : zOk l D ad cA (zJm jX9_better) (zEnd D ad cA (some (.int r)) s) 40 [some (.ref 66), some (.int a1), some (.int a2), none, none] [.int k0] s := by
  unfold D_X9_better_J40 at h
  refine zk_istore_n (i := 3) dX9_better_40 rfl (by decide) (zk_eq [_, _, _, _, _] rfl ?_)
  refine zk_iconst (v := 0) dX9_better_41 (by decide) ?_
  refine zk_istore (i := 4) dX9_better_42 (by decide) (zk_eq [_, _, _, _, _] rfl ?_)
  exact ok_X9_better_L44 hj r _ _ _ _ hr12 _ _ _ h
def D_X9_better_B12 (s : zS) (a1 : Int32) (rec12 : Int32 → Option Int32) (a2 : Int32) : Option Int32 :=
    (D_X9_all s).bind fun p14 =>
    if p14 < a2 then (
      some (-1 : Int32)
    ) else (
      (D_X9_sumOf s a1 a2).bind fun p23 =>
      zgd (zin a2 16 = true) <|
      if (s.1 67 a2.toNatClampNeg) < p23 then (
        D_X9_better_J40 rec12 s a1 a2 (0 : Int32)
      ) else (
        D_X9_better_J40 rec12 s a1 a2 (1 : Int32)
      )
    )
def D_X9_better_L12 (s : zS) (a1 : Int32) (n : Nat) (a2 : Int32) : Option Int32 := zfx (fun (rec : Int32 → Option Int32) q => D_X9_better_B12 s a1 (fun v0 => rec (v0)) q) n (a2)
set_option maxRecDepth 100000 in
theorem D_X9_better_L12_s (s : zS) (a1 : Int32) (n : Nat) (a2 : Int32) : D_X9_better_L12 s a1 (n + 1) a2 = D_X9_better_B12 s a1 (D_X9_better_L12 s a1 n) a2 := rfl
set_option maxRecDepth 100000 in
theorem ok_X9_better_L12 {l : Launch} {D : va_G} {ad : Nat → Nat} {cA : Nat → ClassId} (hj : zInj ad) (r : Int32) (s : zS) (a1 : Int32) : ∀ (n : Nat) (a2 : Int32), D_X9_better_L12 s a1 n a2 = some r → zOk l D ad cA (zJm jX9_better) (zEnd D ad cA (some (.int r)) s) 12 [some (.ref 66), some (.int a1), some (.int a2), none, none] [] s := by
  intro n
  induction n with
  | zero =>
    intro a2 h
    have h0 : (none : Option Int32) = some r := h
    cases h0
  | succ n hr12 =>
    intro a2 h
    have h : D_X9_better_B12 s a1 (D_X9_better_L12 s a1 n) a2 = some r := h
    unfold D_X9_better_B12 at h
    refine zk_iload_n dX9_better_12 rfl rfl ?_
    refine zk_aload_n dX9_better_13 rfl rfl ?_
    obtain ⟨p14, h14, h⟩ := zbind h
    refine zc_X9_88 [.int _] (As := []) (ok_X9_all hj _ h14) rfl ⟨Nat.le_of_ble_eq_true rfl, Nat.le_of_ble_eq_true rfl⟩ ⟨Nat.le_refl _, Nat.le_refl _⟩ rfl rfl (Nat.le_of_ble_eq_true rfl) dX9_better_14 ?_
    refine zk_icmp_gt (tgt := 117) dX9_better_17 rfl (fun g17 => ?_) (fun g17 => ?_)
    · replace h := zpos g17 h
      refine zk_iconst (v := -1) dX9_better_117 (by decide) ?_
      have e9 := Option.some.inj h
      subst e9
      exact zk_iret rfl ⟨rfl, rfl⟩ dX9_better_118
    · replace h := zneg g17 h
      refine zk_aload_n dX9_better_20 rfl rfl ?_
      refine zk_iload_n dX9_better_21 rfl rfl ?_
      refine zk_iload_n dX9_better_22 rfl rfl ?_
      obtain ⟨p23, h23, h⟩ := zbind h
      refine zc_X9_203 [] (As := [.int _, .int _]) (ok_X9_sumOf hj _ _ _ h23) rfl ⟨Nat.le_of_ble_eq_true rfl, Nat.le_of_ble_eq_true rfl⟩ ⟨Nat.le_refl _, Nat.le_refl _⟩ rfl rfl (Nat.le_of_ble_eq_true rfl) dX9_better_23 ?_
      refine zk_aload_n dX9_better_26 rfl rfl ?_
      refine zf_X9_13 rfl dX9_better_27 ?_
      refine zk_iload_n dX9_better_30 rfl rfl ?_
      obtain ⟨g31, h⟩ := zguard h
      refine zk_iald (zoI_of rfl g31) dX9_better_31 ?_
      refine zk_icmp_gt (tgt := 39) dX9_better_32 rfl (fun g32 => ?_) (fun g32 => ?_)
      · replace h := zpos g32 h
        refine zk_iconst (v := 0) dX9_better_39 (by decide) ?_
        exact ok_X9_better_J40 hj r _ _ _ _ _ hr12 h
      · replace h := zneg g32 h
        refine zk_iconst (v := 1) dX9_better_35 (by decide) ?_
        refine zk_goto (tgt := 40) dX9_better_36 rfl ?_
        exact ok_X9_better_J40 hj r _ _ _ _ _ hr12 h
def D_X9_better (s : zS) (a1 : Int32) : Option Int32 :=
  (D_X9_isShare a1).bind fun p1 =>
  if p1 = 0 then (
    some (-2 : Int32)
  ) else (
    D_X9_better_L12 s a1 zFU (1 : Int32)
  )
set_option maxRecDepth 100000 in
theorem ok_X9_better {l : Launch} {D : va_G} {ad : Nat → Nat} {cA : Nat → ClassId} (hj : zInj ad) (s : zS) (a1 : Int32) {r : Int32} (h : D_X9_better s a1 = some r) : zMet l D ad cA jX9_better [.ref 66, .int a1] s (some (.int r)) s := by
  refine zMet_of jX9_better [some (.ref 66), some (.int a1), none, none, none] (by decide +kernel) (Nat.le_of_ble_eq_true rfl) rfl hj ?_
  unfold D_X9_better at h
  refine zk_iload_n dX9_better_0 rfl rfl ?_
  obtain ⟨p1, h1, h⟩ := zbind h
  refine zc_X9_196 [] (As := [.int _]) (ok_X9_isShare hj _ _ h1) rfl ⟨Nat.le_of_ble_eq_true rfl, Nat.le_of_ble_eq_true rfl⟩ ⟨Nat.le_refl _, Nat.le_refl _⟩ rfl rfl (Nat.le_of_ble_eq_true rfl) dX9_better_1 ?_
  refine zk_if_ne (tgt := 10) dX9_better_4 rfl (fun g4 => ?_) (fun g4 => ?_)
  · replace h := zneg g4 h
    refine zk_iconst (v := 1) dX9_better_10 (by decide) ?_
    refine zk_istore_n (i := 2) dX9_better_11 rfl (by decide) (zk_eq [_, _, _, _, _] rfl ?_)
    exact ok_X9_better_L12 hj r _ _ _ _ h
  · replace h := zpos g4 h
    refine zk_bipush (v := -2) dX9_better_7 (by decide) ?_
    have e9 := Option.some.inj h
    subst e9
    exact zk_iret rfl ⟨rfl, rfl⟩ dX9_better_9
def D_X9_isSide (s : zS) (a1 : Int32) : Option Int32 :=
  (D_X9_in a1.toInt64 (0 : Int64) (((s.1 66 0) - (1 : Int32)).toInt64)).bind fun p10 =>
  zgd (p10 = 0 ∨ p10 = 1) <|
  some p10
set_option maxRecDepth 100000 in
theorem ok_X9_isSide {l : Launch} {D : va_G} {ad : Nat → Nat} {cA : Nat → ClassId} (hj : zInj ad) (s : zS) (a1 : Int32) {r : Int32} (h : D_X9_isSide s a1 = some r) : zMet l D ad cA jX9_isSide [.ref 66, .int a1] s (some (.int r)) s := by
  refine zMet_of jX9_isSide [some (.ref 66), some (.int a1)] (by decide +kernel) (Nat.le_of_ble_eq_true rfl) rfl hj ?_
  unfold D_X9_isSide at h
  refine zk_iload_n dX9_isSide_0 rfl rfl ?_
  refine zk_i2l dX9_isSide_1 ?_
  refine zk_lconst (v := 0) dX9_isSide_2 (by decide) ?_
  refine zk_aload_n dX9_isSide_3 rfl rfl ?_
  refine zf_X9_7 rfl dX9_isSide_4 ?_
  refine zk_iconst (v := 1) dX9_isSide_7 (by decide) ?_
  refine zk_isub dX9_isSide_8 ?_
  refine zk_i2l dX9_isSide_9 ?_
  obtain ⟨p10, h10, h⟩ := zbind h
  refine zc_X9_92 [] (As := [.long _, .long _, .long _]) (ok_X9_in hj _ _ _ _ h10) rfl ⟨Nat.le_of_ble_eq_true rfl, Nat.le_of_ble_eq_true rfl⟩ ⟨Nat.le_refl _, Nat.le_refl _⟩ rfl rfl (Nat.le_of_ble_eq_true rfl) dX9_isSide_10 ?_
  obtain ⟨hx13, h⟩ := zguard h
  have e9 := Option.some.inj h
  subst e9
  exact zk_zret rfl hx13 ⟨rfl, rfl⟩ dX9_isSide_13
