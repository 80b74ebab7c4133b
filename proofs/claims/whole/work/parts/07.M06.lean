def D_X9_end_B377 (rec81 : Int64 → Int64 → Int32 → zS → Option (Int32 × zS)) (a1 : Int32) (a2 : Int32) (a3 : Int64) (a5 : Int64) (a7 : Int32) (a8 : Int32) (a9 : Int32) (rec377 : Int32 → zS → Option (Int32 × zS)) (a11 : Int32) (s : zS) : Option (Int32 × zS) :=
    if a7 ≤ a11 then (
      rec81 a3 a5 a9 s
    ) else (
      zgd (zin (a11 - (1 : Int32)) 5 = true) <|
      zgd (zin a11 5 = true) <|
      let s401 : zS := zwI s 84 a11.toNatClampNeg ((s.1 84 (a11 - (1 : Int32)).toNatClampNeg) + (1 : Int32))
      rec377 (a11 + 1) s401
    )
def D_X9_end_L377 (rec81 : Int64 → Int64 → Int32 → zS → Option (Int32 × zS)) (a1 : Int32) (a2 : Int32) (a3 : Int64) (a5 : Int64) (a7 : Int32) (a8 : Int32) (a9 : Int32) (n : Nat) (a11 : Int32) (s : zS) : Option (Int32 × zS) := zfx (fun (rec : Int32 × zS → Option (Int32 × zS)) q => D_X9_end_B377 rec81 a1 a2 a3 a5 a7 a8 a9 (fun v0 v1 => rec (v0, v1)) q.1 q.2) n (a11, s)
set_option maxRecDepth 100000 in
theorem D_X9_end_L377_s (rec81 : Int64 → Int64 → Int32 → zS → Option (Int32 × zS)) (a1 : Int32) (a2 : Int32) (a3 : Int64) (a5 : Int64) (a7 : Int32) (a8 : Int32) (a9 : Int32) (n : Nat) (a11 : Int32) (s : zS) : D_X9_end_L377 rec81 a1 a2 a3 a5 a7 a8 a9 (n + 1) a11 s = D_X9_end_B377 rec81 a1 a2 a3 a5 a7 a8 a9 (D_X9_end_L377 rec81 a1 a2 a3 a5 a7 a8 a9 n) a11 s := rfl
set_option maxRecDepth 100000 in
theorem ok_X9_end_L377 {l : Launch} {D : va_G} {ad : Nat → Nat} {cA : Nat → ClassId} (hj : zInj ad) (r : (Int32 × zS)) (a1 : Int32) (a2 : Int32) (a3 : Int64) (a5 : Int64) (a7 : Int32) (a8 : Int32) (a9 : Int32) (rec81 : Int64 → Int64 → Int32 → zS → Option (Int32 × zS)) (hr81 : ∀ (b3 : Int64) (b5 : Int64) (b9 : Int32) (s : zS), rec81 b3 b5 b9 s = some r → zOk l D ad cA (zJm jX9_end) (zEnd D ad cA (some (.int r.1)) r.2) 81 [some (.ref 66), some (.int a1), some (.int a2), some (.long b3), none, some (.long b5), none, some (.int a7), some (.int a8), some (.int b9), none, none, none, none, none] [] s) : ∀ (n : Nat) (a11 : Int32) (s : zS), D_X9_end_L377 rec81 a1 a2 a3 a5 a7 a8 a9 n a11 s = some r → zOk l D ad cA (zJm jX9_end) (zEnd D ad cA (some (.int r.1)) r.2) 377 [some (.ref 66), some (.int a1), some (.int a2), some (.long a3), none, some (.long a5), none, some (.int a7), some (.int a8), some (.int a9), none, some (.int a11), none, none, none] [] s := by
  intro n
  induction n with
  | zero =>
    intro a11 s h
    have h0 : (none : Option (Int32 × zS)) = some r := h
    cases h0
  | succ n hr377 =>
    intro a11 s h
    have h : D_X9_end_B377 rec81 a1 a2 a3 a5 a7 a8 a9 (D_X9_end_L377 rec81 a1 a2 a3 a5 a7 a8 a9 n) a11 s = some r := h
    unfold D_X9_end_B377 at h
    refine zk_iload dX9_end_377 rfl ?_
    refine zk_iload dX9_end_379 rfl ?_
    refine zk_icmp_ge (tgt := 408) dX9_end_381 rfl (fun g381 => ?_) (fun g381 => ?_)
    · replace h := zpos g381 h
      refine zk_goto (tgt := 81) dX9_end_408 rfl ?_
      refine zk_mask [true, true, true, true, false, true, false, true, true, true, false, false, false, false, false] ?_
      exact hr81 _ _ _ _ h
    · replace h := zneg g381 h
      refine zk_aload_n dX9_end_384 rfl rfl ?_
      refine zf_X9_76 rfl dX9_end_385 ?_
      refine zk_iload dX9_end_388 rfl ?_
      refine zk_aload_n dX9_end_390 rfl rfl ?_
      refine zf_X9_76 rfl dX9_end_391 ?_
      refine zk_iload dX9_end_394 rfl ?_
      refine zk_iconst (v := 1) dX9_end_396 (by decide) ?_
      refine zk_isub dX9_end_397 ?_
      obtain ⟨g398, h⟩ := zguard h
      refine zk_iald (zoI_of rfl g398) dX9_end_398 ?_
      refine zk_iconst (v := 1) dX9_end_399 (by decide) ?_
      refine zk_iadd dX9_end_400 ?_
      obtain ⟨g401, h⟩ := zguard h
      refine zk_iast (zoI_of rfl g401) dX9_end_401 ?_
      refine zk_iinc dX9_end_402 rfl (zinc (m := 1) (by decide)) (by decide) (zk_eq [_, _, _, _, _, _, _, _, _, _, _, _, _, _, _] rfl ?_)
      refine zk_goto (tgt := 377) dX9_end_405 rfl ?_
      exact hr377 _ _ h
def D_X9_end_J353 (rec81 : Int64 → Int64 → Int32 → zS → Option (Int32 × zS)) (s : zS) (a1 : Int32) (a2 : Int32) (a3 : Int64) (a5 : Int64) (a7 : Int32) (a8 : Int32) (a10 : Int32) (k0 : Int32) : Option (Int32 × zS) :=
  if k0 = 0 then (
    rec81 a3 a5 k0 s
  ) else (
    zgd (zin a10 5 = true) <|
    zgd (zin a10 5 = true) <|
    let s370 : zS := zwI s 84 a10.toNatClampNeg ((s.1 84 a10.toNatClampNeg) + (1 : Int32))
    D_X9_end_L377 rec81 a1 a2 a3 a5 a7 a8 k0 zFU (a10 + (1 : Int32)) s370
  )
set_option maxRecDepth 100000 in
theorem ok_X9_end_J353 {l : Launch} {D : va_G} {ad : Nat → Nat} {cA : Nat → ClassId} (hj : zInj ad) (r : (Int32 × zS)) (s : zS) (a1 : Int32) (a2 : Int32) (a3 : Int64) (a5 : Int64) (a7 : Int32) (a8 : Int32) (a10 : Int32) (k0 : Int32) (rec81 : Int64 → Int64 → Int32 → zS → Option (Int32 × zS)) (hr81 : ∀ (b3 : Int64) (b5 : Int64) (b9 : Int32) (s : zS), rec81 b3 b5 b9 s = some r → zOk l D ad cA (zJm jX9_end) (zEnd D ad cA (some (.int r.1)) r.2) 81 [some (.ref 66), some (.int a1), some (.int a2), some (.long b3), none, some (.long b5), none, some (.int a7), some (.int a8), some (.int b9), none, none, none, none, none] [] s) (h : D_X9_end_J353 rec81 s a1 a2 a3 a5 a7 a8 a10 k0 = some r) : zOk l D ad cA (zJm jX9_end) (zEnd D ad cA (some (.int r.1)) r.2) 353 [some (.ref 66), some (.int a1), some (.int a2), some (.long a3), none, some (.long a5), none, some (.int a7), some (.int a8), none, some (.int a10), none, none, none, none] [.int k0] s := by
  unfold D_X9_end_J353 at h
  refine zk_istore (i := 9) dX9_end_353 (by decide) (zk_eq [_, _, _, _, _, _, _, _, _, _, _, _, _, _, _] rfl ?_)
  refine zk_iload dX9_end_355 rfl ?_
  refine zk_if_eq (tgt := 408) dX9_end_357 rfl (fun g357 => ?_) (fun g357 => ?_)
  · replace h := zpos g357 h
    refine zk_goto (tgt := 81) dX9_end_408 rfl ?_
    refine zk_mask [true, true, true, true, false, true, false, true, true, true, false, false, false, false, false] ?_
    exact hr81 _ _ _ _ h
  · replace h := zneg g357 h
    refine zk_aload_n dX9_end_360 rfl rfl ?_
    refine zf_X9_76 rfl dX9_end_361 ?_
    refine zk_iload dX9_end_364 rfl ?_
    refine zk_dup2 dX9_end_366 rfl rfl ?_
    obtain ⟨g367, h⟩ := zguard h
    refine zk_iald (zoI_of rfl g367) dX9_end_367 ?_
    refine zk_iconst (v := 1) dX9_end_368 (by decide) ?_
    refine zk_iadd dX9_end_369 ?_
    obtain ⟨g370, h⟩ := zguard h
    refine zk_iast (zoI_of rfl g370) dX9_end_370 ?_
    refine zk_iload dX9_end_371 rfl ?_
    refine zk_iconst (v := 1) dX9_end_373 (by decide) ?_
    refine zk_iadd dX9_end_374 ?_
    refine zk_istore (i := 11) dX9_end_375 (by decide) (zk_eq [_, _, _, _, _, _, _, _, _, _, _, _, _, _, _] rfl ?_)
    refine zk_mask [true, true, true, true, false, true, false, true, true, true, false, true, false, false, false] ?_
    exact ok_X9_end_L377 hj r _ _ _ _ _ _ _ _ hr81 _ _ _ h
def D_X9_end_J343 (rec81 : Int64 → Int64 → Int32 → zS → Option (Int32 × zS)) (s : zS) (a1 : Int32) (a2 : Int32) (a3 : Int64) (a5 : Int64) (a7 : Int32) (a8 : Int32) (a10 : Int32) : Option (Int32 × zS) :=
  if a10 < 0 then (
    D_X9_end_J353 rec81 s a1 a2 a3 a5 a7 a8 a10 (0 : Int32)
  ) else (
    D_X9_end_J353 rec81 s a1 a2 a3 a5 a7 a8 a10 (1 : Int32)
  )
set_option maxRecDepth 100000 in
theorem ok_X9_end_J343 {l : Launch} {D : va_G} {ad : Nat → Nat} {cA : Nat → ClassId} (hj : zInj ad) (r : (Int32 × zS)) (s : zS) (a1 : Int32) (a2 : Int32) (a3 : Int64) (a5 : Int64) (a7 : Int32) (a8 : Int32) (a10 : Int32) (rec81 : Int64 → Int64 → Int32 → zS → Option (Int32 × zS)) (hr81 : ∀ (b3 : Int64) (b5 : Int64) (b9 : Int32) (s : zS), rec81 b3 b5 b9 s = some r → zOk l D ad cA (zJm jX9_end) (zEnd D ad cA (some (.int r.1)) r.2) 81 [some (.ref 66), some (.int a1), some (.int a2), some (.long b3), none, some (.long b5), none, some (.int a7), some (.int a8), some (.int b9), none, none, none, none, none] [] s) (h : D_X9_end_J343 rec81 s a1 a2 a3 a5 a7 a8 a10 = some r) : zOk l D ad cA (zJm jX9_end) (zEnd D ad cA (some (.int r.1)) r.2) 343 [some (.ref 66), some (.int a1), some (.int a2), some (.long a3), none, some (.long a5), none, some (.int a7), some (.int a8), none, some (.int a10), none, none, none, none] [] s := by
  unfold D_X9_end_J343 at h
  refine zk_iload dX9_end_343 rfl ?_
  refine zk_if_lt (tgt := 352) dX9_end_345 rfl (fun g345 => ?_) (fun g345 => ?_)
  · replace h := zpos g345 h
    refine zk_iconst (v := 0) dX9_end_352 (by decide) ?_
    exact ok_X9_end_J353 hj r _ _ _ _ _ _ _ _ _ _ hr81 h
  · replace h := zneg g345 h
    refine zk_iconst (v := 1) dX9_end_348 (by decide) ?_
    refine zk_goto (tgt := 353) dX9_end_349 rfl ?_
    exact ok_X9_end_J353 hj r _ _ _ _ _ _ _ _ _ _ hr81 h
def D_X9_end_B312 (rec81 : Int64 → Int64 → Int32 → zS → Option (Int32 × zS)) (s : zS) (a1 : Int32) (a2 : Int32) (a3 : Int64) (a5 : Int64) (a7 : Int32) (a8 : Int32) (rec312 : Int32 → Option (Int32 × zS)) (a10 : Int32) : Option (Int32 × zS) :=
    if a10 < 0 then (
      D_X9_end_J343 rec81 s a1 a2 a3 a5 a7 a8 a10
    ) else (
      zgd (zin a10 5 = true) <|
      if (s.1 84 a10.toNatClampNeg) = (((a8 - a7) + a10) + (1 : Int32)) then (
        rec312 (a10 + -1)
      ) else (
        D_X9_end_J343 rec81 s a1 a2 a3 a5 a7 a8 a10
      )
    )
def D_X9_end_L312 (rec81 : Int64 → Int64 → Int32 → zS → Option (Int32 × zS)) (s : zS) (a1 : Int32) (a2 : Int32) (a3 : Int64) (a5 : Int64) (a7 : Int32) (a8 : Int32) (n : Nat) (a10 : Int32) : Option (Int32 × zS) := zfx (fun (rec : Int32 → Option (Int32 × zS)) q => D_X9_end_B312 rec81 s a1 a2 a3 a5 a7 a8 (fun v0 => rec (v0)) q) n (a10)
set_option maxRecDepth 100000 in
theorem D_X9_end_L312_s (rec81 : Int64 → Int64 → Int32 → zS → Option (Int32 × zS)) (s : zS) (a1 : Int32) (a2 : Int32) (a3 : Int64) (a5 : Int64) (a7 : Int32) (a8 : Int32) (n : Nat) (a10 : Int32) : D_X9_end_L312 rec81 s a1 a2 a3 a5 a7 a8 (n + 1) a10 = D_X9_end_B312 rec81 s a1 a2 a3 a5 a7 a8 (D_X9_end_L312 rec81 s a1 a2 a3 a5 a7 a8 n) a10 := rfl
set_option maxRecDepth 100000 in
theorem ok_X9_end_L312 {l : Launch} {D : va_G} {ad : Nat → Nat} {cA : Nat → ClassId} (hj : zInj ad) (r : (Int32 × zS)) (s : zS) (a1 : Int32) (a2 : Int32) (a3 : Int64) (a5 : Int64) (a7 : Int32) (a8 : Int32) (rec81 : Int64 → Int64 → Int32 → zS → Option (Int32 × zS)) (hr81 : ∀ (b3 : Int64) (b5 : Int64) (b9 : Int32) (s : zS), rec81 b3 b5 b9 s = some r → zOk l D ad cA (zJm jX9_end) (zEnd D ad cA (some (.int r.1)) r.2) 81 [some (.ref 66), some (.int a1), some (.int a2), some (.long b3), none, some (.long b5), none, some (.int a7), some (.int a8), some (.int b9), none, none, none, none, none] [] s) : ∀ (n : Nat) (a10 : Int32), D_X9_end_L312 rec81 s a1 a2 a3 a5 a7 a8 n a10 = some r → zOk l D ad cA (zJm jX9_end) (zEnd D ad cA (some (.int r.1)) r.2) 312 [some (.ref 66), some (.int a1), some (.int a2), some (.long a3), none, some (.long a5), none, some (.int a7), some (.int a8), none, some (.int a10), none, none, none, none] [] s := by
  intro n
  induction n with
  | zero =>
    intro a10 h
    have h0 : (none : Option (Int32 × zS)) = some r := h
    cases h0
  | succ n hr312 =>
    intro a10 h
    have h : D_X9_end_B312 rec81 s a1 a2 a3 a5 a7 a8 (D_X9_end_L312 rec81 s a1 a2 a3 a5 a7 a8 n) a10 = some r := h
    unfold D_X9_end_B312 at h
    refine zk_iload dX9_end_312 rfl ?_
    refine zk_if_lt (tgt := 343) dX9_end_314 rfl (fun g314 => ?_) (fun g314 => ?_)
    · replace h := zpos g314 h
      exact ok_X9_end_J343 hj r _ _ _ _ _ _ _ _ _ hr81 h
    · replace h := zneg g314 h
      refine zk_aload_n dX9_end_317 rfl rfl ?_
      refine zf_X9_76 rfl dX9_end_318 ?_
      refine zk_iload dX9_end_321 rfl ?_
      obtain ⟨g323, h⟩ := zguard h
      refine zk_iald (zoI_of rfl g323) dX9_end_323 ?_
      refine zk_iload dX9_end_324 rfl ?_
      refine zk_iload dX9_end_326 rfl ?_
      refine zk_isub dX9_end_328 ?_
      refine zk_iload dX9_end_329 rfl ?_
      refine zk_iadd dX9_end_331 ?_
      refine zk_iconst (v := 1) dX9_end_332 (by decide) ?_
      refine zk_iadd dX9_end_333 ?_
      refine zk_icmp_ne (tgt := 343) dX9_end_334 rfl (fun g334 => ?_) (fun g334 => ?_)
      · replace h := zneg g334 h
        exact ok_X9_end_J343 hj r _ _ _ _ _ _ _ _ _ hr81 h
      · replace h := zpos g334 h
        refine zk_iinc dX9_end_337 rfl (zinc (m := -1) (by decide)) (by decide) (zk_eq [_, _, _, _, _, _, _, _, _, _, _, _, _, _, _] rfl ?_)
        refine zk_goto (tgt := 312) dX9_end_340 rfl ?_
        exact hr312 _ h
def D_X9_end_J306 (rec81 : Int64 → Int64 → Int32 → zS → Option (Int32 × zS)) (s : zS) (a1 : Int32) (a2 : Int32) (a3 : Int64) (a5 : Int64) (a7 : Int32) (a8 : Int32) : Option (Int32 × zS) :=
  D_X9_end_L312 rec81 s a1 a2 a3 a5 a7 a8 zFU (a7 - (1 : Int32))
set_option maxRecDepth 100000 in
theorem ok_X9_end_J306 {l : Launch} {D : va_G} {ad : Nat → Nat} {cA : Nat → ClassId} (hj : zInj ad) (r : (Int32 × zS)) (s : zS) (a1 : Int32) (a2 : Int32) (a3 : Int64) (a5 : Int64) (a7 : Int32) (a8 : Int32) (rec81 : Int64 → Int64 → Int32 → zS → Option (Int32 × zS)) (hr81 : ∀ (b3 : Int64) (b5 : Int64) (b9 : Int32) (s : zS), rec81 b3 b5 b9 s = some r → zOk l D ad cA (zJm jX9_end) (zEnd D ad cA (some (.int r.1)) r.2) 81 [some (.ref 66), some (.int a1), some (.int a2), some (.long b3), none, some (.long b5), none, some (.int a7), some (.int a8), some (.int b9), none, none, none, none, none] [] s) (h : D_X9_end_J306 rec81 s a1 a2 a3 a5 a7 a8 = some r) : zOk l D ad cA (zJm jX9_end) (zEnd D ad cA (some (.int r.1)) r.2) 306 [some (.ref 66), some (.int a1), some (.int a2), some (.long a3), none, some (.long a5), none, some (.int a7), some (.int a8), none, none, none, none, none, none] [] s := by
  unfold D_X9_end_J306 at h
  refine zk_iload dX9_end_306 rfl ?_
  refine zk_iconst (v := 1) dX9_end_308 (by decide) ?_
  refine zk_isub dX9_end_309 ?_
  refine zk_istore (i := 10) dX9_end_310 (by decide) (zk_eq [_, _, _, _, _, _, _, _, _, _, _, _, _, _, _] rfl ?_)
  exact ok_X9_end_L312 hj r _ _ _ _ _ _ _ _ hr81 _ _ h
def D_X9_end_J304 (rec81 : Int64 → Int64 → Int32 → zS → Option (Int32 × zS)) (s : zS) (a1 : Int32) (a2 : Int32) (a3 : Int64) (a7 : Int32) (a8 : Int32) (k0 : Int64) : Option (Int32 × zS) :=
  D_X9_end_J306 rec81 s a1 a2 a3 k0 a7 a8
set_option maxRecDepth 100000 in
theorem ok_X9_end_J304 {l : Launch} {D : va_G} {ad : Nat → Nat} {cA : Nat → ClassId} (hj : zInj ad) (r : (Int32 × zS)) (s : zS) (a1 : Int32) (a2 : Int32) (a3 : Int64) (a7 : Int32) (a8 : Int32) (k0 : Int64) (rec81 : Int64 → Int64 → Int32 → zS → Option (Int32 × zS)) (hr81 : ∀ (b3 : Int64) (b5 : Int64) (b9 : Int32) (s : zS), rec81 b3 b5 b9 s = some r → zOk l D ad cA (zJm jX9_end) (zEnd D ad cA (some (.int r.1)) r.2) 81 [some (.ref 66), some (.int a1), some (.int a2), some (.long b3), none, some (.long b5), none, some (.int a7), some (.int a8), some (.int b9), none, none, none, none, none] [] s) (h : D_X9_end_J304 rec81 s a1 a2 a3 a7 a8 k0 = some r) : zOk l D ad cA (zJm jX9_end) (zEnd D ad cA (some (.int r.1)) r.2) 304 [some (.ref 66), some (.int a1), some (.int a2), some (.long a3), none, none, none, some (.int a7), some (.int a8), none, none, none, none, none, none] [.long k0] s := by
  unfold D_X9_end_J304 at h
  refine zk_lstore (i := 5) dX9_end_304 (by decide) (zk_eq [_, _, _, _, _, _, _, _, _, _, _, _, _, _, _] rfl ?_)
  exact ok_X9_end_J306 hj r _ _ _ _ _ _ _ _ hr81 h
def D_X9_end_J291 (rec81 : Int64 → Int64 → Int32 → zS → Option (Int32 × zS)) (s : zS) (a1 : Int32) (a2 : Int32) (a5 : Int64) (a7 : Int32) (a8 : Int32) (a12 : Int64) (a14 : Int32) (k0 : Int64) : Option (Int32 × zS) :=
  if a14 = 0 then (
    D_X9_end_J304 rec81 s a1 a2 k0 a7 a8 a5
  ) else (
    D_X9_end_J304 rec81 s a1 a2 k0 a7 a8 a12
  )
set_option maxRecDepth 100000 in
theorem ok_X9_end_J291 {l : Launch} {D : va_G} {ad : Nat → Nat} {cA : Nat → ClassId} (hj : zInj ad) (r : (Int32 × zS)) (s : zS) (a1 : Int32) (a2 : Int32) (a5 : Int64) (a7 : Int32) (a8 : Int32) (a12 : Int64) (a14 : Int32) (k0 : Int64) (rec81 : Int64 → Int64 → Int32 → zS → Option (Int32 × zS)) (hr81 : ∀ (b3 : Int64) (b5 : Int64) (b9 : Int32) (s : zS), rec81 b3 b5 b9 s = some r → zOk l D ad cA (zJm jX9_end) (zEnd D ad cA (some (.int r.1)) r.2) 81 [some (.ref 66), some (.int a1), some (.int a2), some (.long b3), none, some (.long b5), none, some (.int a7), some (.int a8), some (.int b9), none, none, none, none, none] [] s) (h : D_X9_end_J291 rec81 s a1 a2 a5 a7 a8 a12 a14 k0 = some r) : zOk l D ad cA (zJm jX9_end) (zEnd D ad cA (some (.int r.1)) r.2) 291 [some (.ref 66), some (.int a1), some (.int a2), none, none, some (.long a5), none, some (.int a7), some (.int a8), none, none, none, some (.long a12), none, some (.int a14)] [.long k0] s := by
  unfold D_X9_end_J291 at h
  refine zk_lstore_n (i := 3) dX9_end_291 rfl (by decide) (zk_eq [_, _, _, _, _, _, _, _, _, _, _, _, _, _, _] rfl ?_)
  refine zk_iload dX9_end_292 rfl ?_
  refine zk_if_eq (tgt := 302) dX9_end_294 rfl (fun g294 => ?_) (fun g294 => ?_)
  · replace h := zpos g294 h
    refine zk_lload dX9_end_302 rfl ?_
    refine zk_mask [true, true, true, true, false, false, false, true, true, false, false, false, false, false, false] ?_
    exact ok_X9_end_J304 hj r _ _ _ _ _ _ _ _ hr81 h
  · replace h := zneg g294 h
    refine zk_lload dX9_end_297 rfl ?_
    refine zk_goto (tgt := 304) dX9_end_299 rfl ?_
    refine zk_mask [true, true, true, true, false, false, false, true, true, false, false, false, false, false, false] ?_
    exact ok_X9_end_J304 hj r _ _ _ _ _ _ _ _ hr81 h
def D_X9_end_J278 (rec81 : Int64 → Int64 → Int32 → zS → Option (Int32 × zS)) (s : zS) (a1 : Int32) (a2 : Int32) (a3 : Int64) (a5 : Int64) (a7 : Int32) (a8 : Int32) (a10 : Int64) (a12 : Int64) (k0 : Int32) : Option (Int32 × zS) :=
  if k0 = 0 then (
    D_X9_end_J291 rec81 s a1 a2 a5 a7 a8 a12 k0 a3
  ) else (
    D_X9_end_J291 rec81 s a1 a2 a5 a7 a8 a12 k0 a10
  )
set_option maxRecDepth 100000 in
theorem ok_X9_end_J278 {l : Launch} {D : va_G} {ad : Nat → Nat} {cA : Nat → ClassId} (hj : zInj ad) (r : (Int32 × zS)) (s : zS) (a1 : Int32) (a2 : Int32) (a3 : Int64) (a5 : Int64) (a7 : Int32) (a8 : Int32) (a10 : Int64) (a12 : Int64) (k0 : Int32) (rec81 : Int64 → Int64 → Int32 → zS → Option (Int32 × zS)) (hr81 : ∀ (b3 : Int64) (b5 : Int64) (b9 : Int32) (s : zS), rec81 b3 b5 b9 s = some r → zOk l D ad cA (zJm jX9_end) (zEnd D ad cA (some (.int r.1)) r.2) 81 [some (.ref 66), some (.int a1), some (.int a2), some (.long b3), none, some (.long b5), none, some (.int a7), some (.int a8), some (.int b9), none, none, none, none, none] [] s) (h : D_X9_end_J278 rec81 s a1 a2 a3 a5 a7 a8 a10 a12 k0 = some r) : zOk l D ad cA (zJm jX9_end) (zEnd D ad cA (some (.int r.1)) r.2) 278 [some (.ref 66), some (.int a1), some (.int a2), some (.long a3), none, some (.long a5), none, some (.int a7), some (.int a8), none, some (.long a10), none, some (.long a12), none, none] [.int k0] s := by
  unfold D_X9_end_J278 at h
  refine zk_istore (i := 14) dX9_end_278 (by decide) (zk_eq [_, _, _, _, _, _, _, _, _, _, _, _, _, _, _] rfl ?_)
  refine zk_iload dX9_end_280 rfl ?_
  refine zk_if_eq (tgt := 290) dX9_end_282 rfl (fun g282 => ?_) (fun g282 => ?_)
  · replace h := zpos g282 h
    refine zk_lload_n dX9_end_290 rfl rfl ?_
    refine zk_mask [true, true, true, false, false, true, false, true, true, false, false, false, true, false, true] ?_
    exact ok_X9_end_J291 hj r _ _ _ _ _ _ _ _ _ _ hr81 h
  · replace h := zneg g282 h
    refine zk_lload dX9_end_285 rfl ?_
    refine zk_goto (tgt := 291) dX9_end_287 rfl ?_
    refine zk_mask [true, true, true, false, false, true, false, true, true, false, false, false, true, false, true] ?_
    exact ok_X9_end_J291 hj r _ _ _ _ _ _ _ _ _ _ hr81 h
def D_X9_end_J273 (rec81 : Int64 → Int64 → Int32 → zS → Option (Int32 × zS)) (s : zS) (a1 : Int32) (a2 : Int32) (a3 : Int64) (a5 : Int64) (a7 : Int32) (a8 : Int32) (a10 : Int64) (a12 : Int64) : Option (Int32 × zS) :=
  D_X9_end_J278 rec81 s a1 a2 a3 a5 a7 a8 a10 a12 (1 : Int32)
set_option maxRecDepth 100000 in
theorem ok_X9_end_J273 {l : Launch} {D : va_G} {ad : Nat → Nat} {cA : Nat → ClassId} (hj : zInj ad) (r : (Int32 × zS)) (s : zS) (a1 : Int32) (a2 : Int32) (a3 : Int64) (a5 : Int64) (a7 : Int32) (a8 : Int32) (a10 : Int64) (a12 : Int64) (rec81 : Int64 → Int64 → Int32 → zS → Option (Int32 × zS)) (hr81 : ∀ (b3 : Int64) (b5 : Int64) (b9 : Int32) (s : zS), rec81 b3 b5 b9 s = some r → zOk l D ad cA (zJm jX9_end) (zEnd D ad cA (some (.int r.1)) r.2) 81 [some (.ref 66), some (.int a1), some (.int a2), some (.long b3), none, some (.long b5), none, some (.int a7), some (.int a8), some (.int b9), none, none, none, none, none] [] s) (h : D_X9_end_J273 rec81 s a1 a2 a3 a5 a7 a8 a10 a12 = some r) : zOk l D ad cA (zJm jX9_end) (zEnd D ad cA (some (.int r.1)) r.2) 273 [some (.ref 66), some (.int a1), some (.int a2), some (.long a3), none, some (.long a5), none, some (.int a7), some (.int a8), none, some (.long a10), none, some (.long a12), none, none] [] s := by
  unfold D_X9_end_J273 at h
  refine zk_iconst (v := 1) dX9_end_273 (by decide) ?_
  refine zk_goto (tgt := 278) dX9_end_274 rfl ?_
  exact ok_X9_end_J278 hj r _ _ _ _ _ _ _ _ _ _ _ hr81 h
def D_X9_end_J277 (rec81 : Int64 → Int64 → Int32 → zS → Option (Int32 × zS)) (s : zS) (a1 : Int32) (a2 : Int32) (a3 : Int64) (a5 : Int64) (a7 : Int32) (a8 : Int32) (a10 : Int64) (a12 : Int64) : Option (Int32 × zS) :=
  D_X9_end_J278 rec81 s a1 a2 a3 a5 a7 a8 a10 a12 (0 : Int32)
set_option maxRecDepth 100000 in
theorem ok_X9_end_J277 {l : Launch} {D : va_G} {ad : Nat → Nat} {cA : Nat → ClassId} (hj : zInj ad) (r : (Int32 × zS)) (s : zS) (a1 : Int32) (a2 : Int32) (a3 : Int64) (a5 : Int64) (a7 : Int32) (a8 : Int32) (a10 : Int64) (a12 : Int64) (rec81 : Int64 → Int64 → Int32 → zS → Option (Int32 × zS)) (hr81 : ∀ (b3 : Int64) (b5 : Int64) (b9 : Int32) (s : zS), rec81 b3 b5 b9 s = some r → zOk l D ad cA (zJm jX9_end) (zEnd D ad cA (some (.int r.1)) r.2) 81 [some (.ref 66), some (.int a1), some (.int a2), some (.long b3), none, some (.long b5), none, some (.int a7), some (.int a8), some (.int b9), none, none, none, none, none] [] s) (h : D_X9_end_J277 rec81 s a1 a2 a3 a5 a7 a8 a10 a12 = some r) : zOk l D ad cA (zJm jX9_end) (zEnd D ad cA (some (.int r.1)) r.2) 277 [some (.ref 66), some (.int a1), some (.int a2), some (.long a3), none, some (.long a5), none, some (.int a7), some (.int a8), none, some (.long a10), none, some (.long a12), none, none] [] s := by
  unfold D_X9_end_J277 at h
  refine zk_iconst (v := 0) dX9_end_277 (by decide) ?_
  exact ok_X9_end_J278 hj r _ _ _ _ _ _ _ _ _ _ _ hr81 h
def D_X9_end_J157 (rec81 : Int64 → Int64 → Int32 → zS → Option (Int32 × zS)) (rec93 : Int32 → zS → Option (Int32 × zS)) (rec128 : Int32 → zS → Option (Int32 × zS)) (s : zS) (a1 : Int32) (a2 : Int32) (a3 : Int64) (a5 : Int64) (a7 : Int32) (a8 : Int32) (a10 : Int32) (a11 : Int32) (a12 : Int32) (k1 : Int32) (k2 : Int32) (k3 : Int64) : Option (Int32 × zS) :=
  (D_X9_put s k1 k2 k3 (1 : Int64)).bind fun p158 =>
  rec128 (a12 + 1) p158
set_option maxRecDepth 100000 in
theorem ok_X9_end_J157 {l : Launch} {D : va_G} {ad : Nat → Nat} {cA : Nat → ClassId} (hj : zInj ad) (r : (Int32 × zS)) (s : zS) (a1 : Int32) (a2 : Int32) (a3 : Int64) (a5 : Int64) (a7 : Int32) (a8 : Int32) (a10 : Int32) (a11 : Int32) (a12 : Int32) (k1 : Int32) (k2 : Int32) (k3 : Int64) (rec81 : Int64 → Int64 → Int32 → zS → Option (Int32 × zS)) (hr81 : ∀ (b3 : Int64) (b5 : Int64) (b9 : Int32) (s : zS), rec81 b3 b5 b9 s = some r → zOk l D ad cA (zJm jX9_end) (zEnd D ad cA (some (.int r.1)) r.2) 81 [some (.ref 66), some (.int a1), some (.int a2), some (.long b3), none, some (.long b5), none, some (.int a7), some (.int a8), some (.int b9), none, none, none, none, none] [] s) (rec93 : Int32 → zS → Option (Int32 × zS)) (hr93 : ∀ (b10 : Int32) (s : zS), rec93 b10 s = some r → zOk l D ad cA (zJm jX9_end) (zEnd D ad cA (some (.int r.1)) r.2) 93 [some (.ref 66), some (.int a1), some (.int a2), some (.long a3), none, some (.long a5), none, some (.int a7), some (.int a8), none, some (.int b10), none, none, none, none] [] s) (rec128 : Int32 → zS → Option (Int32 × zS)) (hr128 : ∀ (b12 : Int32) (s : zS), rec128 b12 s = some r → zOk l D ad cA (zJm jX9_end) (zEnd D ad cA (some (.int r.1)) r.2) 128 [some (.ref 66), some (.int a1), some (.int a2), some (.long a3), none, some (.long a5), none, some (.int a7), some (.int a8), none, some (.int a10), some (.int a11), some (.int b12), none, none] [] s) (h : D_X9_end_J157 rec81 rec93 rec128 s a1 a2 a3 a5 a7 a8 a10 a11 a12 k1 k2 k3 = some r) : zOk l D ad cA (zJm jX9_end) (zEnd D ad cA (some (.int r.1)) r.2) 157 [some (.ref 66), some (.int a1), some (.int a2), some (.long a3), none, some (.long a5), none, some (.int a7), some (.int a8), none, some (.int a10), some (.int a11), some (.int a12), none, none] [.long k3, .int k2, .int k1, .ref 66] s := by
  unfold D_X9_end_J157 at h
  refine zk_lconst (v := 1) dX9_end_157 (by decide) ?_
  obtain ⟨p158, h158, h⟩ := zbind h
  refine zc_X9_134 [] (As := [.int _, .int _, .long _, .long _]) (ok_X9_put hj _ _ _ _ _ h158) rfl ⟨Nat.le_of_ble_eq_true rfl, Nat.le_of_ble_eq_true rfl⟩ ⟨Nat.le_refl _, Nat.le_refl _⟩ rfl rfl (Nat.le_of_ble_eq_true rfl) dX9_end_158 ?_
  refine zk_iinc dX9_end_161 rfl (zinc (m := 1) (by decide)) (by decide) (zk_eq [_, _, _, _, _, _, _, _, _, _, _, _, _, _, _] rfl ?_)
  refine zk_goto (tgt := 128) dX9_end_164 rfl ?_
  exact hr128 _ _ h
def D_X9_end_B128 (rec81 : Int64 → Int64 → Int32 → zS → Option (Int32 × zS)) (rec93 : Int32 → zS → Option (Int32 × zS)) (a1 : Int32) (a2 : Int32) (a3 : Int64) (a5 : Int64) (a7 : Int32) (a8 : Int32) (a10 : Int32) (a11 : Int32) (rec128 : Int32 → zS → Option (Int32 × zS)) (a12 : Int32) (s : zS) : Option (Int32 × zS) :=
    if (s.1 66 0) ≤ a12 then (
      zgd (zin a11 16 = true) <|
      (D_X9_put s a10 (5 : Int32) ((s.1 67 a11.toNatClampNeg).toInt64) (1 : Int64)).bind fun p180 =>
      rec93 (a10 + 1) p180
    ) else (
      (D_X9_has a11 a12).bind fun p146 =>
      if p146 = 0 then (
        D_X9_end_J157 rec81 rec93 rec128 s a1 a2 a3 a5 a7 a8 a10 a11 a12 a10 a12 (0 : Int64)
      ) else (
        D_X9_end_J157 rec81 rec93 rec128 s a1 a2 a3 a5 a7 a8 a10 a11 a12 a10 a12 (1 : Int64)
      )
    )
def D_X9_end_L128 (rec81 : Int64 → Int64 → Int32 → zS → Option (Int32 × zS)) (rec93 : Int32 → zS → Option (Int32 × zS)) (a1 : Int32) (a2 : Int32) (a3 : Int64) (a5 : Int64) (a7 : Int32) (a8 : Int32) (a10 : Int32) (a11 : Int32) (n : Nat) (a12 : Int32) (s : zS) : Option (Int32 × zS) := zfx (fun (rec : Int32 × zS → Option (Int32 × zS)) q => D_X9_end_B128 rec81 rec93 a1 a2 a3 a5 a7 a8 a10 a11 (fun v0 v1 => rec (v0, v1)) q.1 q.2) n (a12, s)
set_option maxRecDepth 100000 in
theorem D_X9_end_L128_s (rec81 : Int64 → Int64 → Int32 → zS → Option (Int32 × zS)) (rec93 : Int32 → zS → Option (Int32 × zS)) (a1 : Int32) (a2 : Int32) (a3 : Int64) (a5 : Int64) (a7 : Int32) (a8 : Int32) (a10 : Int32) (a11 : Int32) (n : Nat) (a12 : Int32) (s : zS) : D_X9_end_L128 rec81 rec93 a1 a2 a3 a5 a7 a8 a10 a11 (n + 1) a12 s = D_X9_end_B128 rec81 rec93 a1 a2 a3 a5 a7 a8 a10 a11 (D_X9_end_L128 rec81 rec93 a1 a2 a3 a5 a7 a8 a10 a11 n) a12 s := rfl
set_option maxRecDepth 100000 in
theorem ok_X9_end_L128 {l : Launch} {D : va_G} {ad : Nat → Nat} {cA : Nat → ClassId} (hj : zInj ad) (r : (Int32 × zS)) (a1 : Int32) (a2 : Int32) (a3 : Int64) (a5 : Int64) (a7 : Int32) (a8 : Int32) (a10 : Int32) (a11 : Int32) (rec81 : Int64 → Int64 → Int32 → zS → Option (Int32 × zS)) (hr81 : ∀ (b3 : Int64) (b5 : Int64) (b9 : Int32) (s : zS), rec81 b3 b5 b9 s = some r → zOk l D ad cA (zJm jX9_end) (zEnd D ad cA (some (.int r.1)) r.2) 81 [some (.ref 66), some (.int a1), some (.int a2), some (.long b3), none, some (.long b5), none, some (.int a7), some (.int a8), some (.int b9), none, none, none, none, none] [] s) (rec93 : Int32 → zS → Option (Int32 × zS)) (hr93 : ∀ (b10 : Int32) (s : zS), rec93 b10 s = some r → zOk l D ad cA (zJm jX9_end) (zEnd D ad cA (some (.int r.1)) r.2) 93 [some (.ref 66), some (.int a1), some (.int a2), some (.long a3), none, some (.long a5), none, some (.int a7), some (.int a8), none, some (.int b10), none, none, none, none] [] s) : ∀ (n : Nat) (a12 : Int32) (s : zS), D_X9_end_L128 rec81 rec93 a1 a2 a3 a5 a7 a8 a10 a11 n a12 s = some r → zOk l D ad cA (zJm jX9_end) (zEnd D ad cA (some (.int r.1)) r.2) 128 [some (.ref 66), some (.int a1), some (.int a2), some (.long a3), none, some (.long a5), none, some (.int a7), some (.int a8), none, some (.int a10), some (.int a11), some (.int a12), none, none] [] s := by
  intro n
  induction n with
  | zero =>
    intro a12 s h
    have h0 : (none : Option (Int32 × zS)) = some r := h
    cases h0
  | succ n hr128 =>
    intro a12 s h
    have h : D_X9_end_B128 rec81 rec93 a1 a2 a3 a5 a7 a8 a10 a11 (D_X9_end_L128 rec81 rec93 a1 a2 a3 a5 a7 a8 a10 a11 n) a12 s = some r := h
    unfold D_X9_end_B128 at h
    refine zk_iload dX9_end_128 rfl ?_
    refine zk_aload_n dX9_end_130 rfl rfl ?_
    refine zf_X9_7 rfl dX9_end_131 ?_
    refine zk_icmp_ge (tgt := 167) dX9_end_134 rfl (fun g134 => ?_) (fun g134 => ?_)
    · replace h := zpos g134 h
      refine zk_aload_n dX9_end_167 rfl rfl ?_
      refine zk_iload dX9_end_168 rfl ?_
      refine zk_iconst (v := 5) dX9_end_170 (by decide) ?_
      refine zk_aload_n dX9_end_171 rfl rfl ?_
      refine zf_X9_13 rfl dX9_end_172 ?_
      refine zk_iload dX9_end_175 rfl ?_
      obtain ⟨g177, h⟩ := zguard h
      refine zk_iald (zoI_of rfl g177) dX9_end_177 ?_
      refine zk_i2l dX9_end_178 ?_
      refine zk_lconst (v := 1) dX9_end_179 (by decide) ?_
      obtain ⟨p180, h180, h⟩ := zbind h
      refine zc_X9_134 [] (As := [.int _, .int _, .long _, .long _]) (ok_X9_put hj _ _ _ _ _ h180) rfl ⟨Nat.le_of_ble_eq_true rfl, Nat.le_of_ble_eq_true rfl⟩ ⟨Nat.le_refl _, Nat.le_refl _⟩ rfl rfl (Nat.le_of_ble_eq_true rfl) dX9_end_180 ?_
      refine zk_iinc dX9_end_183 rfl (zinc (m := 1) (by decide)) (by decide) (zk_eq [_, _, _, _, _, _, _, _, _, _, _, _, _, _, _] rfl ?_)
      refine zk_goto (tgt := 93) dX9_end_186 rfl ?_
      refine zk_mask [true, true, true, true, false, true, false, true, true, false, true, false, false, false, false] ?_
      exact hr93 _ _ h
    · replace h := zneg g134 h
      refine zk_aload_n dX9_end_137 rfl rfl ?_
      refine zk_iload dX9_end_138 rfl ?_
      refine zk_iload dX9_end_140 rfl ?_
      refine zk_iload dX9_end_142 rfl ?_
      refine zk_iload dX9_end_144 rfl ?_
      obtain ⟨p146, h146, h⟩ := zbind h
      refine zc_X9_121 [.int _, .int _, .ref _] (As := [.int _, .int _]) (ok_X9_has hj _ _ _ h146) rfl ⟨Nat.le_of_ble_eq_true rfl, Nat.le_of_ble_eq_true rfl⟩ ⟨Nat.le_refl _, Nat.le_refl _⟩ rfl rfl (Nat.le_of_ble_eq_true rfl) dX9_end_146 ?_
      refine zk_if_eq (tgt := 156) dX9_end_149 rfl (fun g149 => ?_) (fun g149 => ?_)
      · replace h := zpos g149 h
        refine zk_lconst (v := 0) dX9_end_156 (by decide) ?_
        exact ok_X9_end_J157 hj r _ _ _ _ _ _ _ _ _ _ _ _ _ _ hr81 _ hr93 _ hr128 h
      · replace h := zneg g149 h
        refine zk_lconst (v := 1) dX9_end_152 (by decide) ?_
        refine zk_goto (tgt := 157) dX9_end_153 rfl ?_
        exact ok_X9_end_J157 hj r _ _ _ _ _ _ _ _ _ _ _ _ _ _ hr81 _ hr93 _ hr128 h
def D_X9_end_J123 (rec81 : Int64 → Int64 → Int32 → zS → Option (Int32 × zS)) (rec93 : Int32 → zS → Option (Int32 × zS)) (s : zS) (a1 : Int32) (a2 : Int32) (a3 : Int64) (a5 : Int64) (a7 : Int32) (a8 : Int32) (a10 : Int32) (k0 : Int32) : Option (Int32 × zS) :=
  D_X9_end_L128 rec81 rec93 a1 a2 a3 a5 a7 a8 a10 k0 zFU (0 : Int32) s
set_option maxRecDepth 100000 in
theorem ok_X9_end_J123 {l : Launch} {D : va_G} {ad : Nat → Nat} {cA : Nat → ClassId} (hj : zInj ad) (r : (Int32 × zS)) (s : zS) (a1 : Int32) (a2 : Int32) (a3 : Int64) (a5 : Int64) (a7 : Int32) (a8 : Int32) (a10 : Int32) (k0 : Int32) (rec81 : Int64 → Int64 → Int32 → zS → Option (Int32 × zS)) (hr81 : ∀ (b3 : Int64) (b5 : Int64) (b9 : Int32) (s : zS), rec81 b3 b5 b9 s = some r → zOk l D ad cA (zJm jX9_end) (zEnd D ad cA (some (.int r.1)) r.2) 81 [some (.ref 66), some (.int a1), some (.int a2), some (.long b3), none, some (.long b5), none, some (.int a7), some (.int a8), some (.int b9), none, none, none, none, none] [] s) (rec93 : Int32 → zS → Option (Int32 × zS)) (hr93 : ∀ (b10 : Int32) (s : zS), rec93 b10 s = some r → zOk l D ad cA (zJm jX9_end) (zEnd D ad cA (some (.int r.1)) r.2) 93 [some (.ref 66), some (.int a1), some (.int a2), some (.long a3), none, some (.long a5), none, some (.int a7), some (.int a8), none, some (.int b10), none, none, none, none] [] s) (h : D_X9_end_J123 rec81 rec93 s a1 a2 a3 a5 a7 a8 a10 k0 = some r) : zOk l D ad cA (zJm jX9_end) (zEnd D ad cA (some (.int r.1)) r.2) 123 [some (.ref 66), some (.int a1), some (.int a2), some (.long a3), none, some (.long a5), none, some (.int a7), some (.int a8), none, some (.int a10), none, none, none, none] [.int k0] s := by
  unfold D_X9_end_J123 at h
  refine zk_istore (i := 11) dX9_end_123 (by decide) (zk_eq [_, _, _, _, _, _, _, _, _, _, _, _, _, _, _] rfl ?_)
  refine zk_iconst (v := 0) dX9_end_125 (by decide) ?_
  refine zk_istore (i := 12) dX9_end_126 (by decide) (zk_eq [_, _, _, _, _, _, _, _, _, _, _, _, _, _, _] rfl ?_)
  exact ok_X9_end_L128 hj r _ _ _ _ _ _ _ _ _ hr81 _ hr93 _ _ _ h
def D_X9_end_B93 (rec81 : Int64 → Int64 → Int32 → zS → Option (Int32 × zS)) (a1 : Int32) (a2 : Int32) (a3 : Int64) (a5 : Int64) (a7 : Int32) (a8 : Int32) (rec93 : Int32 → zS → Option (Int32 × zS)) (a10 : Int32) (s : zS) : Option (Int32 × zS) :=
    if (s.1 66 0) ≤ a10 then (
      (D_X9_solve s (s.1 66 0)).bind fun p194 =>
      if p194.1 = 0 then (
        D_X9_end_J306 rec81 p194.2 a1 a2 a3 a5 a7 a8
      ) else (
        (D_X9_isCore p194.2).bind fun p201 =>
        if p201 = 0 then (
          D_X9_end_J306 rec81 p194.2 a1 a2 a3 a5 a7 a8
        ) else (
          zgd (zin (((6 : Int32) * a1) + (5 : Int32)) 30 = true) <|
          zgd (zin (((6 : Int32) * a1) + (5 : Int32)) 30 = true) <|
          if (lg_cmp a5 (0 : Int64)) = 0 then (
            D_X9_end_J273 rec81 p194.2 a1 a2 a3 a5 a7 a8 (p194.2.2 77 (((6 : Int32) * a1) + (5 : Int32)).toNatClampNeg) (p194.2.2 78 (((6 : Int32) * a1) + (5 : Int32)).toNatClampNeg)
          ) else (
            if a2 = 0 then (
              if 0 ≤ (lg_cmp ((p194.2.2 77 (((6 : Int32) * a1) + (5 : Int32)).toNatClampNeg) * a5) (a3 * (p194.2.2 78 (((6 : Int32) * a1) + (5 : Int32)).toNatClampNeg))) then (
                D_X9_end_J277 rec81 p194.2 a1 a2 a3 a5 a7 a8 (p194.2.2 77 (((6 : Int32) * a1) + (5 : Int32)).toNatClampNeg) (p194.2.2 78 (((6 : Int32) * a1) + (5 : Int32)).toNatClampNeg)
              ) else (
                D_X9_end_J273 rec81 p194.2 a1 a2 a3 a5 a7 a8 (p194.2.2 77 (((6 : Int32) * a1) + (5 : Int32)).toNatClampNeg) (p194.2.2 78 (((6 : Int32) * a1) + (5 : Int32)).toNatClampNeg)
              )
            ) else (
              if (lg_cmp ((p194.2.2 77 (((6 : Int32) * a1) + (5 : Int32)).toNatClampNeg) * a5) (a3 * (p194.2.2 78 (((6 : Int32) * a1) + (5 : Int32)).toNatClampNeg))) ≤ 0 then (
                D_X9_end_J277 rec81 p194.2 a1 a2 a3 a5 a7 a8 (p194.2.2 77 (((6 : Int32) * a1) + (5 : Int32)).toNatClampNeg) (p194.2.2 78 (((6 : Int32) * a1) + (5 : Int32)).toNatClampNeg)
              ) else (
                D_X9_end_J273 rec81 p194.2 a1 a2 a3 a5 a7 a8 (p194.2.2 77 (((6 : Int32) * a1) + (5 : Int32)).toNatClampNeg) (p194.2.2 78 (((6 : Int32) * a1) + (5 : Int32)).toNatClampNeg)
              )
            )
          )
        )
      )
    ) else (
      if a10 = a7 then (
        (D_X9_all s).bind fun p110 =>
        D_X9_end_J123 rec81 rec93 s a1 a2 a3 a5 a7 a8 a10 p110
      ) else (
        zgd (zin a10 5 = true) <|
        D_X9_end_J123 rec81 rec93 s a1 a2 a3 a5 a7 a8 a10 (s.1 84 a10.toNatClampNeg)
      )
    )
def D_X9_end_L93 (rec81 : Int64 → Int64 → Int32 → zS → Option (Int32 × zS)) (a1 : Int32) (a2 : Int32) (a3 : Int64) (a5 : Int64) (a7 : Int32) (a8 : Int32) (n : Nat) (a10 : Int32) (s : zS) : Option (Int32 × zS) := zfx (fun (rec : Int32 × zS → Option (Int32 × zS)) q => D_X9_end_B93 rec81 a1 a2 a3 a5 a7 a8 (fun v0 v1 => rec (v0, v1)) q.1 q.2) n (a10, s)
set_option maxRecDepth 100000 in
theorem D_X9_end_L93_s (rec81 : Int64 → Int64 → Int32 → zS → Option (Int32 × zS)) (a1 : Int32) (a2 : Int32) (a3 : Int64) (a5 : Int64) (a7 : Int32) (a8 : Int32) (n : Nat) (a10 : Int32) (s : zS) : D_X9_end_L93 rec81 a1 a2 a3 a5 a7 a8 (n + 1) a10 s = D_X9_end_B93 rec81 a1 a2 a3 a5 a7 a8 (D_X9_end_L93 rec81 a1 a2 a3 a5 a7 a8 n) a10 s := rfl
set_option maxRecDepth 100000 in
theorem ok_X9_end_L93 {l : Launch} {D : va_G} {ad : Nat → Nat} {cA : Nat → ClassId} (hj : zInj ad) (r : (Int32 × zS)) (a1 : Int32) (a2 : Int32) (a3 : Int64) (a5 : Int64) (a7 : Int32) (a8 : Int32) (rec81 : Int64 → Int64 → Int32 → zS → Option (Int32 × zS)) (hr81 : ∀ (b3 : Int64) (b5 : Int64) (b9 : Int32) (s : zS), rec81 b3 b5 b9 s = some r → zOk l D ad cA (zJm jX9_end) (zEnd D ad cA (some (.int r.1)) r.2) 81 [some (.ref 66), some (.int a1), some (.int a2), some (.long b3), none, some (.long b5), none, some (.int a7), some (.int a8), some (.int b9), none, none, none, none, none] [] s) : ∀ (n : Nat) (a10 : Int32) (s : zS), D_X9_end_L93 rec81 a1 a2 a3 a5 a7 a8 n a10 s = some r → zOk l D ad cA (zJm jX9_end) (zEnd D ad cA (some (.int r.1)) r.2) 93 [some (.ref 66), some (.int a1), some (.int a2), some (.long a3), none, some (.long a5), none, some (.int a7), some (.int a8), none, some (.int a10), none, none, none, none] [] s := by
  intro n
  induction n with
  | zero =>
    intro a10 s h
    have h0 : (none : Option (Int32 × zS)) = some r := h
    cases h0
  | succ n hr93 =>
    intro a10 s h
    have h : D_X9_end_B93 rec81 a1 a2 a3 a5 a7 a8 (D_X9_end_L93 rec81 a1 a2 a3 a5 a7 a8 n) a10 s = some r := h
    unfold D_X9_end_B93 at h
    refine zk_iload dX9_end_93 rfl ?_
    refine zk_aload_n dX9_end_95 rfl rfl ?_
    refine zf_X9_7 rfl dX9_end_96 ?_
    refine zk_icmp_ge (tgt := 189) dX9_end_99 rfl (fun g99 => ?_) (fun g99 => ?_)
    · replace h := zpos g99 h
      refine zk_aload_n dX9_end_189 rfl rfl ?_
      refine zk_aload_n dX9_end_190 rfl rfl ?_
      refine zf_X9_7 rfl dX9_end_191 ?_
      obtain ⟨p194, h194, h⟩ := zbind h
      refine zc_X9_152 [] (As := [.int _]) (ok_X9_solve hj _ _ h194) rfl ⟨Nat.le_of_ble_eq_true rfl, Nat.le_of_ble_eq_true rfl⟩ ⟨Nat.le_refl _, Nat.le_refl _⟩ rfl rfl (Nat.le_of_ble_eq_true rfl) dX9_end_194 ?_
      refine zk_if_eq (tgt := 306) dX9_end_197 rfl (fun g197 => ?_) (fun g197 => ?_)
      · replace h := zpos g197 h
        refine zk_mask [true, true, true, true, false, true, false, true, true, false, false, false, false, false, false] ?_
        exact ok_X9_end_J306 hj r _ _ _ _ _ _ _ _ hr81 h
      · replace h := zneg g197 h
        refine zk_aload_n dX9_end_200 rfl rfl ?_
        obtain ⟨p201, h201, h⟩ := zbind h
        refine zc_X9_193 [] (As := []) (ok_X9_isCore hj _ h201) rfl ⟨Nat.le_of_ble_eq_true rfl, Nat.le_of_ble_eq_true rfl⟩ ⟨Nat.le_refl _, Nat.le_refl _⟩ rfl rfl (Nat.le_of_ble_eq_true rfl) dX9_end_201 ?_
        refine zk_if_eq (tgt := 306) dX9_end_204 rfl (fun g204 => ?_) (fun g204 => ?_)
        · replace h := zpos g204 h
          refine zk_mask [true, true, true, true, false, true, false, true, true, false, false, false, false, false, false] ?_
          exact ok_X9_end_J306 hj r _ _ _ _ _ _ _ _ hr81 h
        · replace h := zneg g204 h
          refine zk_aload_n dX9_end_207 rfl rfl ?_
          refine zf_X9_54 rfl dX9_end_208 ?_
          refine zk_bipush (v := 6) dX9_end_211 (by decide) ?_
          refine zk_iload_n dX9_end_213 rfl rfl ?_
          refine zk_imul dX9_end_214 ?_
          refine zk_iconst (v := 5) dX9_end_215 (by decide) ?_
          refine zk_iadd dX9_end_216 ?_
          obtain ⟨g217, h⟩ := zguard h
          refine zk_lald (zoL_of rfl g217) dX9_end_217 ?_
          refine zk_lstore (i := 10) dX9_end_218 (by decide) (zk_eq [_, _, _, _, _, _, _, _, _, _, _, _, _, _, _] rfl ?_)
          refine zk_aload_n dX9_end_220 rfl rfl ?_
          refine zf_X9_58 rfl dX9_end_221 ?_
          refine zk_bipush (v := 6) dX9_end_224 (by decide) ?_
          refine zk_iload_n dX9_end_226 rfl rfl ?_
          refine zk_imul dX9_end_227 ?_
          refine zk_iconst (v := 5) dX9_end_228 (by decide) ?_
          refine zk_iadd dX9_end_229 ?_
          obtain ⟨g230, h⟩ := zguard h
          refine zk_lald (zoL_of rfl g230) dX9_end_230 ?_
          refine zk_lstore (i := 12) dX9_end_231 (by decide) (zk_eq [_, _, _, _, _, _, _, _, _, _, _, _, _, _, _] rfl ?_)
          refine zk_lload dX9_end_233 rfl ?_
          refine zk_lconst (v := 0) dX9_end_235 (by decide) ?_
          refine zk_lcmp dX9_end_236 ?_
          refine zk_if_eq (tgt := 273) dX9_end_237 rfl (fun g237 => ?_) (fun g237 => ?_)
          · replace h := zpos g237 h
            exact ok_X9_end_J273 hj r _ _ _ _ _ _ _ _ _ _ hr81 h
          · replace h := zneg g237 h
            refine zk_iload_n dX9_end_240 rfl rfl ?_
            refine zk_if_ne (tgt := 260) dX9_end_241 rfl (fun g241 => ?_) (fun g241 => ?_)
            · replace h := zneg g241 h
              refine zk_lload dX9_end_260 rfl ?_
              refine zk_lload dX9_end_262 rfl ?_
              refine zk_lmul dX9_end_264 ?_
              refine zk_lload_n dX9_end_265 rfl rfl ?_
              refine zk_lload dX9_end_266 rfl ?_
              refine zk_lmul dX9_end_268 ?_
              refine zk_lcmp dX9_end_269 ?_
              refine zk_if_le (tgt := 277) dX9_end_270 rfl (fun g270 => ?_) (fun g270 => ?_)
              · replace h := zpos g270 h
                exact ok_X9_end_J277 hj r _ _ _ _ _ _ _ _ _ _ hr81 h
              · replace h := zneg g270 h
                exact ok_X9_end_J273 hj r _ _ _ _ _ _ _ _ _ _ hr81 h
            · replace h := zpos g241 h
              refine zk_lload dX9_end_244 rfl ?_
              refine zk_lload dX9_end_246 rfl ?_
              refine zk_lmul dX9_end_248 ?_
              refine zk_lload_n dX9_end_249 rfl rfl ?_
              refine zk_lload dX9_end_250 rfl ?_
              refine zk_lmul dX9_end_252 ?_
              refine zk_lcmp dX9_end_253 ?_
              refine zk_if_ge (tgt := 277) dX9_end_254 rfl (fun g254 => ?_) (fun g254 => ?_)
              · replace h := zpos g254 h
                exact ok_X9_end_J277 hj r _ _ _ _ _ _ _ _ _ _ hr81 h
              · replace h := zneg g254 h
                refine zk_goto (tgt := 273) dX9_end_257 rfl ?_
                exact ok_X9_end_J273 hj r _ _ _ _ _ _ _ _ _ _ hr81 h
    · replace h := zneg g99 h
      refine zk_iload dX9_end_102 rfl ?_
      refine zk_iload dX9_end_104 rfl ?_
      refine zk_icmp_ne (tgt := 116) dX9_end_106 rfl (fun g106 => ?_) (fun g106 => ?_)
      · replace h := zneg g106 h
        refine zk_aload_n dX9_end_116 rfl rfl ?_
        refine zf_X9_76 rfl dX9_end_117 ?_
        refine zk_iload dX9_end_120 rfl ?_
        obtain ⟨g122, h⟩ := zguard h
        refine zk_iald (zoI_of rfl g122) dX9_end_122 ?_
        exact ok_X9_end_J123 hj r _ _ _ _ _ _ _ _ _ _ hr81 _ hr93 h
      · replace h := zpos g106 h
        refine zk_aload_n dX9_end_109 rfl rfl ?_
        obtain ⟨p110, h110, h⟩ := zbind h
        refine zc_X9_88 [] (As := []) (ok_X9_all hj _ h110) rfl ⟨Nat.le_of_ble_eq_true rfl, Nat.le_of_ble_eq_true rfl⟩ ⟨Nat.le_refl _, Nat.le_refl _⟩ rfl rfl (Nat.le_of_ble_eq_true rfl) dX9_end_110 ?_
        refine zk_goto (tgt := 123) dX9_end_113 rfl ?_
        exact ok_X9_end_J123 hj r _ _ _ _ _ _ _ _ _ _ hr81 _ hr93 h
def D_X9_end_B81 (a1 : Int32) (a2 : Int32) (a7 : Int32) (a8 : Int32) (rec81 : Int64 → Int64 → Int32 → zS → Option (Int32 × zS)) (a3 : Int64) (a5 : Int64) (a9 : Int32) (s : zS) : Option (Int32 × zS) :=
    if a9 = 0 then (
      (D_X9_fraction s a3 a5).bind fun p415 =>
      some (p415.1, p415.2)
    ) else (
      (D_X9_noRows s).bind fun p87 =>
      D_X9_end_L93 rec81 a1 a2 a3 a5 a7 a8 zFU (0 : Int32) p87
    )
def D_X9_end_L81 (a1 : Int32) (a2 : Int32) (a7 : Int32) (a8 : Int32) (n : Nat) (a3 : Int64) (a5 : Int64) (a9 : Int32) (s : zS) : Option (Int32 × zS) := zfx (fun (rec : Int64 × Int64 × Int32 × zS → Option (Int32 × zS)) q => D_X9_end_B81 a1 a2 a7 a8 (fun v0 v1 v2 v3 => rec (v0, v1, v2, v3)) q.1 q.2.1 q.2.2.1 q.2.2.2) n (a3, a5, a9, s)
set_option maxRecDepth 100000 in
theorem D_X9_end_L81_s (a1 : Int32) (a2 : Int32) (a7 : Int32) (a8 : Int32) (n : Nat) (a3 : Int64) (a5 : Int64) (a9 : Int32) (s : zS) : D_X9_end_L81 a1 a2 a7 a8 (n + 1) a3 a5 a9 s = D_X9_end_B81 a1 a2 a7 a8 (D_X9_end_L81 a1 a2 a7 a8 n) a3 a5 a9 s := rfl
set_option maxRecDepth 100000 in
theorem ok_X9_end_L81 {l : Launch} {D : va_G} {ad : Nat → Nat} {cA : Nat → ClassId} (hj : zInj ad) (r : (Int32 × zS)) (a1 : Int32) (a2 : Int32) (a7 : Int32) (a8 : Int32) : ∀ (n : Nat) (a3 : Int64) (a5 : Int64) (a9 : Int32) (s : zS), D_X9_end_L81 a1 a2 a7 a8 n a3 a5 a9 s = some r → zOk l D ad cA (zJm jX9_end) (zEnd D ad cA (some (.int r.1)) r.2) 81 [some (.ref 66), some (.int a1), some (.int a2), some (.long a3), none, some (.long a5), none, some (.int a7), some (.int a8), some (.int a9), none, none, none, none, none] [] s := by
  intro n
  induction n with
  | zero =>
    intro a3 a5 a9 s h
    have h0 : (none : Option (Int32 × zS)) = some r := h
    cases h0
  | succ n hr81 =>
    intro a3 a5 a9 s h
    have h : D_X9_end_B81 a1 a2 a7 a8 (D_X9_end_L81 a1 a2 a7 a8 n) a3 a5 a9 s = some r := h
    unfold D_X9_end_B81 at h
    refine zk_iload dX9_end_81 rfl ?_
    refine zk_if_eq (tgt := 411) dX9_end_83 rfl (fun g83 => ?_) (fun g83 => ?_)
    · replace h := zpos g83 h
      refine zk_aload_n dX9_end_411 rfl rfl ?_
      refine zk_lload_n dX9_end_412 rfl rfl ?_
      refine zk_lload dX9_end_413 rfl ?_
      obtain ⟨p415, h415, h⟩ := zbind h
      refine zc_X9_128 [] (As := [.long _, .long _]) (ok_X9_fraction hj _ _ _ h415) rfl ⟨Nat.le_of_ble_eq_true rfl, Nat.le_of_ble_eq_true rfl⟩ ⟨Nat.le_refl _, Nat.le_refl _⟩ rfl rfl (Nat.le_of_ble_eq_true rfl) dX9_end_415 ?_
      have e9 := Option.some.inj h
      subst e9
      exact zk_iret rfl ⟨rfl, rfl⟩ dX9_end_418
    · replace h := zneg g83 h
      refine zk_aload_n dX9_end_86 rfl rfl ?_
      obtain ⟨p87, h87, h⟩ := zbind h
      refine zc_X9_147 [] (As := []) (ok_X9_noRows hj _ h87) rfl ⟨Nat.le_of_ble_eq_true rfl, Nat.le_of_ble_eq_true rfl⟩ ⟨Nat.le_refl _, Nat.le_refl _⟩ rfl rfl (Nat.le_of_ble_eq_true rfl) dX9_end_87 ?_
      refine zk_iconst (v := 0) dX9_end_90 (by decide) ?_
      refine zk_istore (i := 10) dX9_end_91 (by decide) (zk_eq [_, _, _, _, _, _, _, _, _, _, _, _, _, _, _] rfl ?_)
      refine zk_mask [true, true, true, true, false, true, false, true, true, false, true, false, false, false, false] ?_
      exact ok_X9_end_L93 hj r _ _ _ _ _ _ _ hr81 _ _ _ h
def D_X9_end_B54 (a1 : Int32) (a2 : Int32) (a3 : Int64) (a5 : Int64) (a7 : Int32) (a8 : Int32) (rec54 : Int32 → zS → Option (Int32 × zS)) (a9 : Int32) (s : zS) : Option (Int32 × zS) :=
    if a7 ≤ a9 then (
      D_X9_end_L81 a1 a2 a7 a8 zFU a3 a5 (1 : Int32) s
    ) else (
      zgd (zin a9 5 = true) <|
      let s71 : zS := zwI s 84 a9.toNatClampNeg (a9 + (1 : Int32))
      rec54 (a9 + 1) s71
    )
def D_X9_end_L54 (a1 : Int32) (a2 : Int32) (a3 : Int64) (a5 : Int64) (a7 : Int32) (a8 : Int32) (n : Nat) (a9 : Int32) (s : zS) : Option (Int32 × zS) := zfx (fun (rec : Int32 × zS → Option (Int32 × zS)) q => D_X9_end_B54 a1 a2 a3 a5 a7 a8 (fun v0 v1 => rec (v0, v1)) q.1 q.2) n (a9, s)
set_option maxRecDepth 100000 in
theorem D_X9_end_L54_s (a1 : Int32) (a2 : Int32) (a3 : Int64) (a5 : Int64) (a7 : Int32) (a8 : Int32) (n : Nat) (a9 : Int32) (s : zS) : D_X9_end_L54 a1 a2 a3 a5 a7 a8 (n + 1) a9 s = D_X9_end_B54 a1 a2 a3 a5 a7 a8 (D_X9_end_L54 a1 a2 a3 a5 a7 a8 n) a9 s := rfl
set_option maxRecDepth 100000 in
theorem ok_X9_end_L54 {l : Launch} {D : va_G} {ad : Nat → Nat} {cA : Nat → ClassId} (hj : zInj ad) (r : (Int32 × zS)) (a1 : Int32) (a2 : Int32) (a3 : Int64) (a5 : Int64) (a7 : Int32) (a8 : Int32) : ∀ (n : Nat) (a9 : Int32) (s : zS), D_X9_end_L54 a1 a2 a3 a5 a7 a8 n a9 s = some r → zOk l D ad cA (zJm jX9_end) (zEnd D ad cA (some (.int r.1)) r.2) 54 [some (.ref 66), some (.int a1), some (.int a2), some (.long a3), none, some (.long a5), none, some (.int a7), some (.int a8), some (.int a9), none, none, none, none, none] [] s := by
  intro n
  induction n with
  | zero =>
    intro a9 s h
    have h0 : (none : Option (Int32 × zS)) = some r := h
    cases h0
  | succ n hr54 =>
    intro a9 s h
    have h : D_X9_end_B54 a1 a2 a3 a5 a7 a8 (D_X9_end_L54 a1 a2 a3 a5 a7 a8 n) a9 s = some r := h
    unfold D_X9_end_B54 at h
    refine zk_iload dX9_end_54 rfl ?_
    refine zk_iload dX9_end_56 rfl ?_
    refine zk_icmp_ge (tgt := 78) dX9_end_58 rfl (fun g58 => ?_) (fun g58 => ?_)
    · replace h := zpos g58 h
      refine zk_iconst (v := 1) dX9_end_78 (by decide) ?_
      refine zk_istore (i := 9) dX9_end_79 (by decide) (zk_eq [_, _, _, _, _, _, _, _, _, _, _, _, _, _, _] rfl ?_)
      exact ok_X9_end_L81 hj r _ _ _ _ _ _ _ _ _ h
    · replace h := zneg g58 h
      refine zk_aload_n dX9_end_61 rfl rfl ?_
      refine zf_X9_76 rfl dX9_end_62 ?_
      refine zk_iload dX9_end_65 rfl ?_
      refine zk_iload dX9_end_67 rfl ?_
      refine zk_iconst (v := 1) dX9_end_69 (by decide) ?_
      refine zk_iadd dX9_end_70 ?_
      obtain ⟨g71, h⟩ := zguard h
      refine zk_iast (zoI_of rfl g71) dX9_end_71 ?_
      refine zk_iinc dX9_end_72 rfl (zinc (m := 1) (by decide)) (by decide) (zk_eq [_, _, _, _, _, _, _, _, _, _, _, _, _, _, _] rfl ?_)
      refine zk_goto (tgt := 54) dX9_end_75 rfl ?_
      exact hr54 _ _ h
def D_X9_end (s : zS) (a1 : Int32) (a2 : Int32) : Option (Int32 × zS) :=
  (D_X9_isSide s a1).bind fun p2 =>
  if p2 = 0 then (
    some ((-2 : Int32), s)
  ) else (
    (D_X9_in a2.toInt64 (0 : Int64) (1 : Int64)).bind fun p12 =>
    if p12 = 0 then (
      some ((-2 : Int32), s)
    ) else (
      (D_X9_hasCore s).bind fun p22 =>
      if p22.1 = 0 then (
        some ((0 : Int32), p22.2)
      ) else (
        (D_X9_all p22.2).bind fun p44 =>
        D_X9_end_L54 a1 a2 (0 : Int64) (0 : Int64) ((p22.2.1 66 0) - (1 : Int32)) (p44 - (1 : Int32)) zFU (0 : Int32) p22.2
      )
    )
  )
set_option maxRecDepth 100000 in
theorem ok_X9_end {l : Launch} {D : va_G} {ad : Nat → Nat} {cA : Nat → ClassId} (hj : zInj ad) (s : zS) (a1 : Int32) (a2 : Int32) {r : (Int32 × zS)} (h : D_X9_end s a1 a2 = some r) : zMet l D ad cA jX9_end [.ref 66, .int a1, .int a2] s (some (.int r.1)) r.2 := by
  refine zMet_of jX9_end [some (.ref 66), some (.int a1), some (.int a2), none, none, none, none, none, none, none, none, none, none, none, none] (by decide +kernel) (Nat.le_of_ble_eq_true rfl) rfl hj ?_
  unfold D_X9_end at h
  refine zk_aload_n dX9_end_0 rfl rfl ?_
  refine zk_iload_n dX9_end_1 rfl rfl ?_
  obtain ⟨p2, h2, h⟩ := zbind h
  refine zc_X9_118 [] (As := [.int _]) (ok_X9_isSide hj _ _ h2) rfl ⟨Nat.le_of_ble_eq_true rfl, Nat.le_of_ble_eq_true rfl⟩ ⟨Nat.le_refl _, Nat.le_refl _⟩ rfl rfl (Nat.le_of_ble_eq_true rfl) dX9_end_2 ?_
  refine zk_if_eq (tgt := 18) dX9_end_5 rfl (fun g5 => ?_) (fun g5 => ?_)
  · replace h := zpos g5 h
    refine zk_bipush (v := -2) dX9_end_18 (by decide) ?_
    have e9 := Option.some.inj h
    subst e9
    exact zk_iret rfl ⟨rfl, rfl⟩ dX9_end_20
  · replace h := zneg g5 h
    refine zk_iload_n dX9_end_8 rfl rfl ?_
    refine zk_i2l dX9_end_9 ?_
    refine zk_lconst (v := 0) dX9_end_10 (by decide) ?_
    refine zk_lconst (v := 1) dX9_end_11 (by decide) ?_
    obtain ⟨p12, h12, h⟩ := zbind h
    refine zc_X9_92 [] (As := [.long _, .long _, .long _]) (ok_X9_in hj _ _ _ _ h12) rfl ⟨Nat.le_of_ble_eq_true rfl, Nat.le_of_ble_eq_true rfl⟩ ⟨Nat.le_refl _, Nat.le_refl _⟩ rfl rfl (Nat.le_of_ble_eq_true rfl) dX9_end_12 ?_
    refine zk_if_ne (tgt := 21) dX9_end_15 rfl (fun g15 => ?_) (fun g15 => ?_)
    · replace h := zneg g15 h
      refine zk_aload_n dX9_end_21 rfl rfl ?_
      obtain ⟨p22, h22, h⟩ := zbind h
      refine zc_X9_189 [] (As := []) (ok_X9_hasCore hj _ h22) rfl ⟨Nat.le_of_ble_eq_true rfl, Nat.le_of_ble_eq_true rfl⟩ ⟨Nat.le_refl _, Nat.le_refl _⟩ rfl rfl (Nat.le_of_ble_eq_true rfl) dX9_end_22 ?_
      refine zk_if_ne (tgt := 30) dX9_end_25 rfl (fun g25 => ?_) (fun g25 => ?_)
      · replace h := zneg g25 h
        refine zk_lconst (v := 0) dX9_end_30 (by decide) ?_
        refine zk_lstore_n (i := 3) dX9_end_31 rfl (by decide) (zk_eq [_, _, _, _, _, _, _, _, _, _, _, _, _, _, _] rfl ?_)
        refine zk_lconst (v := 0) dX9_end_32 (by decide) ?_
        refine zk_lstore (i := 5) dX9_end_33 (by decide) (zk_eq [_, _, _, _, _, _, _, _, _, _, _, _, _, _, _] rfl ?_)
        refine zk_aload_n dX9_end_35 rfl rfl ?_
        refine zf_X9_7 rfl dX9_end_36 ?_
        refine zk_iconst (v := 1) dX9_end_39 (by decide) ?_
        refine zk_isub dX9_end_40 ?_
        refine zk_istore (i := 7) dX9_end_41 (by decide) (zk_eq [_, _, _, _, _, _, _, _, _, _, _, _, _, _, _] rfl ?_)
        refine zk_aload_n dX9_end_43 rfl rfl ?_
        obtain ⟨p44, h44, h⟩ := zbind h
        refine zc_X9_88 [] (As := []) (ok_X9_all hj _ h44) rfl ⟨Nat.le_of_ble_eq_true rfl, Nat.le_of_ble_eq_true rfl⟩ ⟨Nat.le_refl _, Nat.le_refl _⟩ rfl rfl (Nat.le_of_ble_eq_true rfl) dX9_end_44 ?_
        refine zk_iconst (v := 1) dX9_end_47 (by decide) ?_
        refine zk_isub dX9_end_48 ?_
        refine zk_istore (i := 8) dX9_end_49 (by decide) (zk_eq [_, _, _, _, _, _, _, _, _, _, _, _, _, _, _] rfl ?_)
        refine zk_iconst (v := 0) dX9_end_51 (by decide) ?_
        refine zk_istore (i := 9) dX9_end_52 (by decide) (zk_eq [_, _, _, _, _, _, _, _, _, _, _, _, _, _, _] rfl ?_)
        exact ok_X9_end_L54 hj r _ _ _ _ _ _ _ _ _ h
      · replace h := zpos g25 h
        refine zk_iconst (v := 0) dX9_end_28 (by decide) ?_
        have e9 := Option.some.inj h
        subst e9
        exact zk_iret rfl ⟨rfl, rfl⟩ dX9_end_29
    · replace h := zpos g15 h
      refine zk_bipush (v := -2) dX9_end_18 (by decide) ?_
      have e9 := Option.some.inj h
      subst e9
      exact zk_iret rfl ⟨rfl, rfl⟩ dX9_end_20
def D_X9_estate (s : zS) (a1 : Int32) : Option (Int32 × zS) :=
  (D_X9_in a1.toInt64 (0 : Int64) (6000 : Int64)).bind fun p6 =>
  if p6 = 0 then (
    some ((-2 : Int32), s)
  ) else (
    let s22 : zS := zwI s 66 10 a1
    some ((s.1 66 10), s22)
  )
set_option maxRecDepth 100000 in
theorem ok_X9_estate {l : Launch} {D : va_G} {ad : Nat → Nat} {cA : Nat → ClassId} (hj : zInj ad) (s : zS) (a1 : Int32) {r : (Int32 × zS)} (h : D_X9_estate s a1 = some r) : zMet l D ad cA jX9_estate [.ref 66, .int a1] s (some (.int r.1)) r.2 := by
  refine zMet_of jX9_estate [some (.ref 66), some (.int a1), none] (by decide +kernel) (Nat.le_of_ble_eq_true rfl) rfl hj ?_
  unfold D_X9_estate at h
  refine zk_iload_n dX9_estate_0 rfl rfl ?_
  refine zk_i2l dX9_estate_1 ?_
  refine zk_lconst (v := 0) dX9_estate_2 (by decide) ?_
  refine zk_ldc2 dX9_estate_3 zw_X9_247 ?_
  obtain ⟨p6, h6, h⟩ := zbind h
  refine zc_X9_92 [] (As := [.long _, .long _, .long _]) (ok_X9_in hj _ _ _ _ h6) rfl ⟨Nat.le_of_ble_eq_true rfl, Nat.le_of_ble_eq_true rfl⟩ ⟨Nat.le_refl _, Nat.le_refl _⟩ rfl rfl (Nat.le_of_ble_eq_true rfl) dX9_estate_6 ?_
  refine zk_if_ne (tgt := 15) dX9_estate_9 rfl (fun g9 => ?_) (fun g9 => ?_)
  · replace h := zneg g9 h
    refine zk_aload_n dX9_estate_15 rfl rfl ?_
    refine zf_X9_249 rfl dX9_estate_16 ?_
    refine zk_istore_n (i := 2) dX9_estate_19 rfl (by decide) (zk_eq [_, _, _] rfl ?_)
    refine zk_aload_n dX9_estate_20 rfl rfl ?_
    refine zk_iload_n dX9_estate_21 rfl rfl ?_
    refine zp_X9_249 rfl dX9_estate_22 ?_
    refine zk_iload_n dX9_estate_25 rfl rfl ?_
    have e9 := Option.some.inj h
    subst e9
    exact zk_iret rfl ⟨rfl, rfl⟩ dX9_estate_26
  · replace h := zpos g9 h
    refine zk_bipush (v := -2) dX9_estate_12 (by decide) ?_
    have e9 := Option.some.inj h
    subst e9
    exact zk_iret rfl ⟨rfl, rfl⟩ dX9_estate_14
def D_X9_surplusOf_J63 (rec7 : Int32 → Int32 → Option Int32) (s : zS) (a1 : Int32) (a2 : Int32) (a3 : Int32) (a4 : Int32) (a5 : Int32) : Option Int32 :=
  rec7 a4 (a5 + 1)
set_option maxRecDepth 100000 in
theorem ok_X9_surplusOf_J63 {l : Launch} {D : va_G} {ad : Nat → Nat} {cA : Nat → ClassId} (hj : zInj ad) (r : Int32) (s : zS) (a1 : Int32) (a2 : Int32) (a3 : Int32) (a4 : Int32) (a5 : Int32) (rec7 : Int32 → Int32 → Option Int32) (hr7 : ∀ (b4 : Int32) (b5 : Int32), rec7 b4 b5 = some r → zOk l D ad cA (zJm jX9_surplusOf) (zEnd D ad cA (some (.int r)) s) 7 [some (.ref 66), some (.int a1), some (.int a2), some (.int a3), some (.int b4), some (.int b5), none] [] s) (h : D_X9_surplusOf_J63 rec7 s a1 a2 a3 a4 a5 = some r) : zOk l D ad cA (zJm jX9_surplusOf) (zEnd D ad cA (some (.int r)) s) 63 [some (.ref 66), some (.int a1), some (.int a2), some (.int a3), some (.int a4), some (.int a5), none] [] s := by
  unfold D_X9_surplusOf_J63 at h
  refine zk_iload dX9_surplusOf_63 rfl ?_
  refine zk_istore (i := 4) dX9_surplusOf_65 (by decide) (zk_eq [_, _, _, _, _, _, _] rfl ?_)
  refine zk_iinc dX9_surplusOf_67 rfl (zinc (m := 1) (by decide)) (by decide) (zk_eq [_, _, _, _, _, _, _] rfl ?_)
  refine zk_goto (tgt := 7) dX9_surplusOf_70 rfl ?_
  exact hr7 _ _ h
def D_X9_surplusOf_B7 (s : zS) (a1 : Int32) (a2 : Int32) (a3 : Int32) (rec7 : Int32 → Int32 → Option Int32) (a4 : Int32) (a5 : Int32) : Option Int32 :=
    (D_X9_all s).bind fun p10 =>
    if p10 < a5 then (
      some a4
    ) else (
      zgd (zin a5 16 = true) <|
      (D_X9_sumOf s a1 a5).bind fun p27 =>
      (D_X9_has a5 a2).bind fun p36 =>
      if p36 = 0 then (
        D_X9_surplusOf_J63 rec7 s a1 a2 a3 a4 a5
      ) else (
        (D_X9_has a5 a3).bind fun p45 =>
        if p45 = 0 then (
          if ((s.1 67 a5.toNatClampNeg) - p27) ≤ a4 then (
            D_X9_surplusOf_J63 rec7 s a1 a2 a3 a4 a5
          ) else (
            rec7 ((s.1 67 a5.toNatClampNeg) - p27) (a5 + 1)
          )
        ) else (
          D_X9_surplusOf_J63 rec7 s a1 a2 a3 a4 a5
        )
      )
    )
def D_X9_surplusOf_L7 (s : zS) (a1 : Int32) (a2 : Int32) (a3 : Int32) (n : Nat) (a4 : Int32) (a5 : Int32) : Option Int32 := zfx (fun (rec : Int32 × Int32 → Option Int32) q => D_X9_surplusOf_B7 s a1 a2 a3 (fun v0 v1 => rec (v0, v1)) q.1 q.2) n (a4, a5)
set_option maxRecDepth 100000 in
theorem D_X9_surplusOf_L7_s (s : zS) (a1 : Int32) (a2 : Int32) (a3 : Int32) (n : Nat) (a4 : Int32) (a5 : Int32) : D_X9_surplusOf_L7 s a1 a2 a3 (n + 1) a4 a5 = D_X9_surplusOf_B7 s a1 a2 a3 (D_X9_surplusOf_L7 s a1 a2 a3 n) a4 a5 := rfl
set_option maxRecDepth 100000 in
theorem ok_X9_surplusOf_L7 {l : Launch} {D : va_G} {ad : Nat → Nat} {cA : Nat → ClassId} (hj : zInj ad) (r : Int32) (s : zS) (a1 : Int32) (a2 : Int32) (a3 : Int32) : ∀ (n : Nat) (a4 : Int32) (a5 : Int32), D_X9_surplusOf_L7 s a1 a2 a3 n a4 a5 = some r → zOk l D ad cA (zJm jX9_surplusOf) (zEnd D ad cA (some (.int r)) s) 7 [some (.ref 66), some (.int a1), some (.int a2), some (.int a3), some (.int a4), some (.int a5), none] [] s := by
  intro n
  induction n with
  | zero =>
    intro a4 a5 h
    have h0 : (none : Option Int32) = some r := h
    cases h0
  | succ n hr7 =>
    intro a4 a5 h
    have h : D_X9_surplusOf_B7 s a1 a2 a3 (D_X9_surplusOf_L7 s a1 a2 a3 n) a4 a5 = some r := h
    unfold D_X9_surplusOf_B7 at h
    refine zk_iload dX9_surplusOf_7 rfl ?_
    refine zk_aload_n dX9_surplusOf_9 rfl rfl ?_
    obtain ⟨p10, h10, h⟩ := zbind h
    refine zc_X9_88 [.int _] (As := []) (ok_X9_all hj _ h10) rfl ⟨Nat.le_of_ble_eq_true rfl, Nat.le_of_ble_eq_true rfl⟩ ⟨Nat.le_refl _, Nat.le_refl _⟩ rfl rfl (Nat.le_of_ble_eq_true rfl) dX9_surplusOf_10 ?_
    refine zk_icmp_gt (tgt := 73) dX9_surplusOf_13 rfl (fun g13 => ?_) (fun g13 => ?_)
    · replace h := zpos g13 h
      refine zk_iload dX9_surplusOf_73 rfl ?_
      have e9 := Option.some.inj h
      subst e9
      exact zk_iret rfl ⟨rfl, rfl⟩ dX9_surplusOf_75
    · replace h := zneg g13 h
      refine zk_aload_n dX9_surplusOf_16 rfl rfl ?_
      refine zf_X9_13 rfl dX9_surplusOf_17 ?_
      refine zk_iload dX9_surplusOf_20 rfl ?_
      obtain ⟨g22, h⟩ := zguard h
      refine zk_iald (zoI_of rfl g22) dX9_surplusOf_22 ?_
      refine zk_aload_n dX9_surplusOf_23 rfl rfl ?_
      refine zk_iload_n dX9_surplusOf_24 rfl rfl ?_
      refine zk_iload dX9_surplusOf_25 rfl ?_
      obtain ⟨p27, h27, h⟩ := zbind h
      refine zc_X9_203 [.int _] (As := [.int _, .int _]) (ok_X9_sumOf hj _ _ _ h27) rfl ⟨Nat.le_of_ble_eq_true rfl, Nat.le_of_ble_eq_true rfl⟩ ⟨Nat.le_refl _, Nat.le_refl _⟩ rfl rfl (Nat.le_of_ble_eq_true rfl) dX9_surplusOf_27 ?_
      refine zk_isub dX9_surplusOf_30 ?_
      refine zk_istore (i := 6) dX9_surplusOf_31 (by decide) (zk_eq [_, _, _, _, _, _, _] rfl ?_)
      refine zk_iload dX9_surplusOf_33 rfl ?_
      refine zk_iload_n dX9_surplusOf_35 rfl rfl ?_
      obtain ⟨p36, h36, h⟩ := zbind h
      refine zc_X9_121 [] (As := [.int _, .int _]) (ok_X9_has hj _ _ _ h36) rfl ⟨Nat.le_of_ble_eq_true rfl, Nat.le_of_ble_eq_true rfl⟩ ⟨Nat.le_refl _, Nat.le_refl _⟩ rfl rfl (Nat.le_of_ble_eq_true rfl) dX9_surplusOf_36 ?_
      refine zk_if_eq (tgt := 63) dX9_surplusOf_39 rfl (fun g39 => ?_) (fun g39 => ?_)
      · replace h := zpos g39 h
        refine zk_mask [true, true, true, true, true, true, false] ?_
        exact ok_X9_surplusOf_J63 hj r _ _ _ _ _ _ _ hr7 h
      · replace h := zneg g39 h
        refine zk_iload dX9_surplusOf_42 rfl ?_
        refine zk_iload_n dX9_surplusOf_44 rfl rfl ?_
        obtain ⟨p45, h45, h⟩ := zbind h
        refine zc_X9_121 [] (As := [.int _, .int _]) (ok_X9_has hj _ _ _ h45) rfl ⟨Nat.le_of_ble_eq_true rfl, Nat.le_of_ble_eq_true rfl⟩ ⟨Nat.le_refl _, Nat.le_refl _⟩ rfl rfl (Nat.le_of_ble_eq_true rfl) dX9_surplusOf_45 ?_
        refine zk_if_ne (tgt := 63) dX9_surplusOf_48 rfl (fun g48 => ?_) (fun g48 => ?_)
        · replace h := zneg g48 h
          refine zk_mask [true, true, true, true, true, true, false] ?_
          exact ok_X9_surplusOf_J63 hj r _ _ _ _ _ _ _ hr7 h
        · replace h := zpos g48 h
          refine zk_iload dX9_surplusOf_51 rfl ?_
          refine zk_iload dX9_surplusOf_53 rfl ?_
          refine zk_icmp_le (tgt := 63) dX9_surplusOf_55 rfl (fun g55 => ?_) (fun g55 => ?_)
          · replace h := zpos g55 h
            refine zk_mask [true, true, true, true, true, true, false] ?_
            exact ok_X9_surplusOf_J63 hj r _ _ _ _ _ _ _ hr7 h
          · replace h := zneg g55 h
            refine zk_iload dX9_surplusOf_58 rfl ?_
            refine zk_goto (tgt := 65) dX9_surplusOf_60 rfl ?_
            refine zk_istore (i := 4) dX9_surplusOf_65 (by decide) (zk_eq [_, _, _, _, _, _, _] rfl ?_)
            refine zk_iinc dX9_surplusOf_67 rfl (zinc (m := 1) (by decide)) (by decide) (zk_eq [_, _, _, _, _, _, _] rfl ?_)
            refine zk_goto (tgt := 7) dX9_surplusOf_70 rfl ?_
            refine zk_mask [true, true, true, true, true, true, false] ?_
            exact hr7 _ _ h
def D_X9_surplusOf (s : zS) (a1 : Int32) (a2 : Int32) (a3 : Int32) : Option Int32 :=
  D_X9_surplusOf_L7 s a1 a2 a3 zFU (-10000000 : Int32) (1 : Int32)
set_option maxRecDepth 100000 in
theorem ok_X9_surplusOf {l : Launch} {D : va_G} {ad : Nat → Nat} {cA : Nat → ClassId} (hj : zInj ad) (s : zS) (a1 : Int32) (a2 : Int32) (a3 : Int32) {r : Int32} (h : D_X9_surplusOf s a1 a2 a3 = some r) : zMet l D ad cA jX9_surplusOf [.ref 66, .int a1, .int a2, .int a3] s (some (.int r)) s := by
  refine zMet_of jX9_surplusOf [some (.ref 66), some (.int a1), some (.int a2), some (.int a3), none, none, none] (by decide +kernel) (Nat.le_of_ble_eq_true rfl) rfl hj ?_
  unfold D_X9_surplusOf at h
  refine zk_ldc dX9_surplusOf_0 zw_X9_208 ?_
  refine zk_istore (i := 4) dX9_surplusOf_2 (by decide) (zk_eq [_, _, _, _, _, _, _] rfl ?_)
  refine zk_iconst (v := 1) dX9_surplusOf_4 (by decide) ?_
  refine zk_istore (i := 5) dX9_surplusOf_5 (by decide) (zk_eq [_, _, _, _, _, _, _] rfl ?_)
  exact ok_X9_surplusOf_L7 hj r _ _ _ _ _ _ _ h
def D_X9_even_J83 (rec39 : Int32 → Int32 → Option Int32) (rec50 : Int32 → Int32 → Option Int32) (s : zS) (a1 : Int32) (a3 : Int32) (a4 : Int32) : Option Int32 :=
  rec50 (0 : Int32) (a4 + 1)
set_option maxRecDepth 100000 in
theorem ok_X9_even_J83 {l : Launch} {D : va_G} {ad : Nat → Nat} {cA : Nat → ClassId} (hj : zInj ad) (r : Int32) (s : zS) (a1 : Int32) (a3 : Int32) (a4 : Int32) (rec39 : Int32 → Int32 → Option Int32) (hr39 : ∀ (b2 : Int32) (b3 : Int32), rec39 b2 b3 = some r → zOk l D ad cA (zJm jX9_even) (zEnd D ad cA (some (.int r)) s) 39 [some (.ref 66), some (.int a1), some (.int b2), some (.int b3), none] [] s) (rec50 : Int32 → Int32 → Option Int32) (hr50 : ∀ (b2 : Int32) (b4 : Int32), rec50 b2 b4 = some r → zOk l D ad cA (zJm jX9_even) (zEnd D ad cA (some (.int r)) s) 50 [some (.ref 66), some (.int a1), some (.int b2), some (.int a3), some (.int b4)] [] s) (h : D_X9_even_J83 rec39 rec50 s a1 a3 a4 = some r) : zOk l D ad cA (zJm jX9_even) (zEnd D ad cA (some (.int r)) s) 83 [some (.ref 66), some (.int a1), none, some (.int a3), some (.int a4)] [] s := by
  unfold D_X9_even_J83 at h
  refine zk_iconst (v := 0) dX9_even_83 (by decide) ?_
  refine zk_istore_n (i := 2) dX9_even_84 rfl (by decide) (zk_eq [_, _, _, _, _] rfl ?_)
  refine zk_iinc dX9_even_85 rfl (zinc (m := 1) (by decide)) (by decide) (zk_eq [_, _, _, _, _] rfl ?_)
  refine zk_goto (tgt := 50) dX9_even_88 rfl ?_
  exact hr50 _ _ h
def D_X9_even_B50 (rec39 : Int32 → Int32 → Option Int32) (s : zS) (a1 : Int32) (a3 : Int32) (rec50 : Int32 → Int32 → Option Int32) (a2 : Int32) (a4 : Int32) : Option Int32 :=
    if a3 ≤ a4 then (
      rec39 a2 (a3 + 1)
    ) else (
      if a2 = 0 then (
        D_X9_even_J83 rec39 rec50 s a1 a3 a4
      ) else (
        (D_X9_surplusOf s a1 a3 a4).bind fun p65 =>
        (D_X9_surplusOf s a1 a4 a3).bind fun p73 =>
        if p65 = p73 then (
          rec50 (1 : Int32) (a4 + 1)
        ) else (
          D_X9_even_J83 rec39 rec50 s a1 a3 a4
        )
      )
    )
def D_X9_even_L50 (rec39 : Int32 → Int32 → Option Int32) (s : zS) (a1 : Int32) (a3 : Int32) (n : Nat) (a2 : Int32) (a4 : Int32) : Option Int32 := zfx (fun (rec : Int32 × Int32 → Option Int32) q => D_X9_even_B50 rec39 s a1 a3 (fun v0 v1 => rec (v0, v1)) q.1 q.2) n (a2, a4)
set_option maxRecDepth 100000 in
theorem D_X9_even_L50_s (rec39 : Int32 → Int32 → Option Int32) (s : zS) (a1 : Int32) (a3 : Int32) (n : Nat) (a2 : Int32) (a4 : Int32) : D_X9_even_L50 rec39 s a1 a3 (n + 1) a2 a4 = D_X9_even_B50 rec39 s a1 a3 (D_X9_even_L50 rec39 s a1 a3 n) a2 a4 := rfl
set_option maxRecDepth 100000 in
theorem ok_X9_even_L50 {l : Launch} {D : va_G} {ad : Nat → Nat} {cA : Nat → ClassId} (hj : zInj ad) (r : Int32) (s : zS) (a1 : Int32) (a3 : Int32) (rec39 : Int32 → Int32 → Option Int32) (hr39 : ∀ (b2 : Int32) (b3 : Int32), rec39 b2 b3 = some r → zOk l D ad cA (zJm jX9_even) (zEnd D ad cA (some (.int r)) s) 39 [some (.ref 66), some (.int a1), some (.int b2), some (.int b3), none] [] s) : ∀ (n : Nat) (a2 : Int32) (a4 : Int32), D_X9_even_L50 rec39 s a1 a3 n a2 a4 = some r → zOk l D ad cA (zJm jX9_even) (zEnd D ad cA (some (.int r)) s) 50 [some (.ref 66), some (.int a1), some (.int a2), some (.int a3), some (.int a4)] [] s := by
  intro n
  induction n with
  | zero =>
    intro a2 a4 h
    have h0 : (none : Option Int32) = some r := h
    cases h0
  | succ n hr50 =>
    intro a2 a4 h
    have h : D_X9_even_B50 rec39 s a1 a3 (D_X9_even_L50 rec39 s a1 a3 n) a2 a4 = some r := h
    unfold D_X9_even_B50 at h
    refine zk_iload dX9_even_50 rfl ?_
    refine zk_iload_n dX9_even_52 rfl rfl ?_
    refine zk_icmp_ge (tgt := 91) dX9_even_53 rfl (fun g53 => ?_) (fun g53 => ?_)
    · replace h := zpos g53 h
      refine zk_iinc dX9_even_91 rfl (zinc (m := 1) (by decide)) (by decide) (zk_eq [_, _, _, _, _] rfl ?_)
      refine zk_goto (tgt := 39) dX9_even_94 rfl ?_
      refine zk_mask [true, true, true, true, false] ?_
      exact hr39 _ _ h
    · replace h := zneg g53 h
      refine zk_iload_n dX9_even_56 rfl rfl ?_
      refine zk_if_eq (tgt := 83) dX9_even_57 rfl (fun g57 => ?_) (fun g57 => ?_)
      · replace h := zpos g57 h
        refine zk_mask [true, true, false, true, true] ?_
        exact ok_X9_even_J83 hj r _ _ _ _ _ hr39 _ hr50 h
      · replace h := zneg g57 h
        refine zk_aload_n dX9_even_60 rfl rfl ?_
        refine zk_iload_n dX9_even_61 rfl rfl ?_
        refine zk_iload_n dX9_even_62 rfl rfl ?_
        refine zk_iload dX9_even_63 rfl ?_
        obtain ⟨p65, h65, h⟩ := zbind h
        refine zc_X9_209 [] (As := [.int _, .int _, .int _]) (ok_X9_surplusOf hj _ _ _ _ h65) rfl ⟨Nat.le_of_ble_eq_true rfl, Nat.le_of_ble_eq_true rfl⟩ ⟨Nat.le_refl _, Nat.le_refl _⟩ rfl rfl (Nat.le_of_ble_eq_true rfl) dX9_even_65 ?_
        refine zk_aload_n dX9_even_68 rfl rfl ?_
        refine zk_iload_n dX9_even_69 rfl rfl ?_
        refine zk_iload dX9_even_70 rfl ?_
        refine zk_iload_n dX9_even_72 rfl rfl ?_
        obtain ⟨p73, h73, h⟩ := zbind h
        refine zc_X9_209 [.int _] (As := [.int _, .int _, .int _]) (ok_X9_surplusOf hj _ _ _ _ h73) rfl ⟨Nat.le_of_ble_eq_true rfl, Nat.le_of_ble_eq_true rfl⟩ ⟨Nat.le_refl _, Nat.le_refl _⟩ rfl rfl (Nat.le_of_ble_eq_true rfl) dX9_even_73 ?_
        refine zk_icmp_ne (tgt := 83) dX9_even_76 rfl (fun g76 => ?_) (fun g76 => ?_)
        · replace h := zneg g76 h
          refine zk_mask [true, true, false, true, true] ?_
          exact ok_X9_even_J83 hj r _ _ _ _ _ hr39 _ hr50 h
        · replace h := zpos g76 h
          refine zk_iconst (v := 1) dX9_even_79 (by decide) ?_
          refine zk_goto (tgt := 84) dX9_even_80 rfl ?_
          refine zk_istore_n (i := 2) dX9_even_84 rfl (by decide) (zk_eq [_, _, _, _, _] rfl ?_)
          refine zk_iinc dX9_even_85 rfl (zinc (m := 1) (by decide)) (by decide) (zk_eq [_, _, _, _, _] rfl ?_)
          refine zk_goto (tgt := 50) dX9_even_88 rfl ?_
          exact hr50 _ _ h
def D_X9_even_B39 (s : zS) (a1 : Int32) (rec39 : Int32 → Int32 → Option Int32) (a2 : Int32) (a3 : Int32) : Option Int32 :=
    if (s.1 66 0) ≤ a3 then (
      if a2 = 0 then (
        some (0 : Int32)
      ) else (
        some (1 : Int32)
      )
    ) else (
      D_X9_even_L50 rec39 s a1 a3 zFU a2 (0 : Int32)
    )
def D_X9_even_L39 (s : zS) (a1 : Int32) (n : Nat) (a2 : Int32) (a3 : Int32) : Option Int32 := zfx (fun (rec : Int32 × Int32 → Option Int32) q => D_X9_even_B39 s a1 (fun v0 v1 => rec (v0, v1)) q.1 q.2) n (a2, a3)
set_option maxRecDepth 100000 in
theorem D_X9_even_L39_s (s : zS) (a1 : Int32) (n : Nat) (a2 : Int32) (a3 : Int32) : D_X9_even_L39 s a1 (n + 1) a2 a3 = D_X9_even_B39 s a1 (D_X9_even_L39 s a1 n) a2 a3 := rfl
set_option maxRecDepth 100000 in
theorem ok_X9_even_L39 {l : Launch} {D : va_G} {ad : Nat → Nat} {cA : Nat → ClassId} (hj : zInj ad) (r : Int32) (s : zS) (a1 : Int32) : ∀ (n : Nat) (a2 : Int32) (a3 : Int32), D_X9_even_L39 s a1 n a2 a3 = some r → zOk l D ad cA (zJm jX9_even) (zEnd D ad cA (some (.int r)) s) 39 [some (.ref 66), some (.int a1), some (.int a2), some (.int a3), none] [] s := by
  intro n
  induction n with
  | zero =>
    intro a2 a3 h
    have h0 : (none : Option Int32) = some r := h
    cases h0
  | succ n hr39 =>
    intro a2 a3 h
    have h : D_X9_even_B39 s a1 (D_X9_even_L39 s a1 n) a2 a3 = some r := h
    unfold D_X9_even_B39 at h
    refine zk_iload_n dX9_even_39 rfl rfl ?_
    refine zk_aload_n dX9_even_40 rfl rfl ?_
    refine zf_X9_7 rfl dX9_even_41 ?_
    refine zk_icmp_ge (tgt := 97) dX9_even_44 rfl (fun g44 => ?_) (fun g44 => ?_)
    · replace h := zpos g44 h
      refine zk_iload_n dX9_even_97 rfl rfl ?_
      refine zk_if_eq (tgt := 105) dX9_even_98 rfl (fun g98 => ?_) (fun g98 => ?_)
      · replace h := zpos g98 h
        refine zk_iconst (v := 0) dX9_even_105 (by decide) ?_
        have e9 := Option.some.inj h
        subst e9
        exact zk_iret rfl ⟨rfl, rfl⟩ dX9_even_106
      · replace h := zneg g98 h
        refine zk_iconst (v := 1) dX9_even_101 (by decide) ?_
        refine zk_goto (tgt := 106) dX9_even_102 rfl ?_
        have e9 := Option.some.inj h
        subst e9
        exact zk_iret rfl ⟨rfl, rfl⟩ dX9_even_106
    · replace h := zneg g44 h
      refine zk_iconst (v := 0) dX9_even_47 (by decide) ?_
      refine zk_istore (i := 4) dX9_even_48 (by decide) (zk_eq [_, _, _, _, _] rfl ?_)
      exact ok_X9_even_L50 hj r _ _ _ _ hr39 _ _ _ h
def D_X9_even_J36 (s : zS) (a1 : Int32) (k0 : Int32) : Option Int32 :=
  D_X9_even_L39 s a1 zFU k0 (0 : Int32)
set_option maxRecDepth 100000 in
theorem ok_X9_even_J36 {l : Launch} {D : va_G} {ad : Nat → Nat} {cA : Nat → ClassId} (hj : zInj ad) (r : Int32) (s : zS) (a1 : Int32) (k0 : Int32) (h : D_X9_even_J36 s a1 k0 = some r) : zOk l D ad cA (zJm jX9_even) (zEnd D ad cA (some (.int r)) s) 36 [some (.ref 66), some (.int a1), none, none, none] [.int k0] s := by
  unfold D_X9_even_J36 at h
  refine zk_istore_n (i := 2) dX9_even_36 rfl (by decide) (zk_eq [_, _, _, _, _] rfl ?_)
  refine zk_iconst (v := 0) dX9_even_37 (by decide) ?_
  refine zk_istore_n (i := 3) dX9_even_38 rfl (by decide) (zk_eq [_, _, _, _, _] rfl ?_)
  exact ok_X9_even_L39 hj r _ _ _ _ _ h
def D_X9_even (s : zS) (a1 : Int32) : Option Int32 :=
  (D_X9_isShare a1).bind fun p1 =>
  if p1 = 0 then (
    some (-2 : Int32)
  ) else (
    (D_X9_all s).bind fun p13 =>
    (D_X9_sumOf s a1 p13).bind fun p16 =>
    (D_X9_all s).bind fun p24 =>
    zgd (zin p24 16 = true) <|
    if p16 = (s.1 67 p24.toNatClampNeg) then (
      D_X9_even_J36 s a1 (1 : Int32)
    ) else (
      D_X9_even_J36 s a1 (0 : Int32)
    )
  )
set_option maxRecDepth 100000 in
theorem ok_X9_even {l : Launch} {D : va_G} {ad : Nat → Nat} {cA : Nat → ClassId} (hj : zInj ad) (s : zS) (a1 : Int32) {r : Int32} (h : D_X9_even s a1 = some r) : zMet l D ad cA jX9_even [.ref 66, .int a1] s (some (.int r)) s := by
  refine zMet_of jX9_even [some (.ref 66), some (.int a1), none, none, none] (by decide +kernel) (Nat.le_of_ble_eq_true rfl) rfl hj ?_
  unfold D_X9_even at h
  refine zk_iload_n dX9_even_0 rfl rfl ?_
  obtain ⟨p1, h1, h⟩ := zbind h
  refine zc_X9_196 [] (As := [.int _]) (ok_X9_isShare hj _ _ h1) rfl ⟨Nat.le_of_ble_eq_true rfl, Nat.le_of_ble_eq_true rfl⟩ ⟨Nat.le_refl _, Nat.le_refl _⟩ rfl rfl (Nat.le_of_ble_eq_true rfl) dX9_even_1 ?_
  refine zk_if_ne (tgt := 10) dX9_even_4 rfl (fun g4 => ?_) (fun g4 => ?_)
  · replace h := zneg g4 h
    refine zk_aload_n dX9_even_10 rfl rfl ?_
    refine zk_iload_n dX9_even_11 rfl rfl ?_
    refine zk_aload_n dX9_even_12 rfl rfl ?_
    obtain ⟨p13, h13, h⟩ := zbind h
    refine zc_X9_88 [.int _, .ref _] (As := []) (ok_X9_all hj _ h13) rfl ⟨Nat.le_of_ble_eq_true rfl, Nat.le_of_ble_eq_true rfl⟩ ⟨Nat.le_refl _, Nat.le_refl _⟩ rfl rfl (Nat.le_of_ble_eq_true rfl) dX9_even_13 ?_
    obtain ⟨p16, h16, h⟩ := zbind h
    refine zc_X9_203 [] (As := [.int _, .int _]) (ok_X9_sumOf hj _ _ _ h16) rfl ⟨Nat.le_of_ble_eq_true rfl, Nat.le_of_ble_eq_true rfl⟩ ⟨Nat.le_refl _, Nat.le_refl _⟩ rfl rfl (Nat.le_of_ble_eq_true rfl) dX9_even_16 ?_
    refine zk_aload_n dX9_even_19 rfl rfl ?_
    refine zf_X9_13 rfl dX9_even_20 ?_
    refine zk_aload_n dX9_even_23 rfl rfl ?_
    obtain ⟨p24, h24, h⟩ := zbind h
    refine zc_X9_88 [.ref _, .int _] (As := []) (ok_X9_all hj _ h24) rfl ⟨Nat.le_of_ble_eq_true rfl, Nat.le_of_ble_eq_true rfl⟩ ⟨Nat.le_refl _, Nat.le_refl _⟩ rfl rfl (Nat.le_of_ble_eq_true rfl) dX9_even_24 ?_
    obtain ⟨g27, h⟩ := zguard h
    refine zk_iald (zoI_of rfl g27) dX9_even_27 ?_
    refine zk_icmp_ne (tgt := 35) dX9_even_28 rfl (fun g28 => ?_) (fun g28 => ?_)
    · replace h := zneg g28 h
      refine zk_iconst (v := 0) dX9_even_35 (by decide) ?_
      exact ok_X9_even_J36 hj r _ _ _ h
    · replace h := zpos g28 h
      refine zk_iconst (v := 1) dX9_even_31 (by decide) ?_
      refine zk_goto (tgt := 36) dX9_even_32 rfl ?_
      exact ok_X9_even_J36 hj r _ _ _ h
  · replace h := zpos g4 h
    refine zk_bipush (v := -2) dX9_even_7 (by decide) ?_
    have e9 := Option.some.inj h
    subst e9
    exact zk_iret rfl ⟨rfl, rfl⟩ dX9_even_9
def D_X9_fails_J51 (rec15 : Int32 → Option Int32) (rec27 : Int32 → Option Int32) (s : zS) (a1 : Int32) (a2 : Int32) (a3 : Int32) (k0 : Int32) : Option Int32 :=
  if k0 = 0 then (
    rec27 (a3 + 1)
  ) else (
    zgd (zin a2 16 = true) <|
    zgd (zin a3 16 = true) <|
    zgd (zin (a2 ||| a3) 16 = true) <|
    zgd (zin (a2 &&& a3) 16 = true) <|
    if ((s.1 67 a2.toNatClampNeg) + (s.1 67 a3.toNatClampNeg)) ≤ ((s.1 67 (a2 ||| a3).toNatClampNeg) + (s.1 67 (a2 &&& a3).toNatClampNeg)) then (
      rec27 (a3 + 1)
    ) else (
      some (((16 : Int32) * a2) + a3)
    )
  )
set_option maxRecDepth 100000 in
theorem ok_X9_fails_J51 {l : Launch} {D : va_G} {ad : Nat → Nat} {cA : Nat → ClassId} (hj : zInj ad) (r : Int32) (s : zS) (a1 : Int32) (a2 : Int32) (a3 : Int32) (k0 : Int32) (rec15 : Int32 → Option Int32) (hr15 : ∀ (b2 : Int32), rec15 b2 = some r → zOk l D ad cA (zJm jX9_fails) (zEnd D ad cA (some (.int r)) s) 15 [some (.ref 66), some (.int a1), some (.int b2), none, none] [] s) (rec27 : Int32 → Option Int32) (hr27 : ∀ (b3 : Int32), rec27 b3 = some r → zOk l D ad cA (zJm jX9_fails) (zEnd D ad cA (some (.int r)) s) 27 [some (.ref 66), some (.int a1), some (.int a2), some (.int b3), none] [] s) (h : D_X9_fails_J51 rec15 rec27 s a1 a2 a3 k0 = some r) : zOk l D ad cA (zJm jX9_fails) (zEnd D ad cA (some (.int r)) s) 51 [some (.ref 66), some (.int a1), some (.int a2), some (.int a3), none] [.int k0] s := by
  unfold D_X9_fails_J51 at h
  refine zk_istore (i := 4) dX9_fails_51 (by decide) (zk_eq [_, _, _, _, _] rfl ?_)
  refine zk_iload dX9_fails_53 rfl ?_
  refine zk_if_eq (tgt := 98) dX9_fails_55 rfl (fun g55 => ?_) (fun g55 => ?_)
  · replace h := zpos g55 h
    refine zk_iinc dX9_fails_98 rfl (zinc (m := 1) (by decide)) (by decide) (zk_eq [_, _, _, _, _] rfl ?_)
    refine zk_goto (tgt := 27) dX9_fails_101 rfl ?_
    refine zk_mask [true, true, true, true, false] ?_
    exact hr27 _ h
  · replace h := zneg g55 h
    refine zk_aload_n dX9_fails_58 rfl rfl ?_
    refine zf_X9_13 rfl dX9_fails_59 ?_
    refine zk_iload_n dX9_fails_62 rfl rfl ?_
    obtain ⟨g63, h⟩ := zguard h
    refine zk_iald (zoI_of rfl g63) dX9_fails_63 ?_
    refine zk_aload_n dX9_fails_64 rfl rfl ?_
    refine zf_X9_13 rfl dX9_fails_65 ?_
    refine zk_iload_n dX9_fails_68 rfl rfl ?_
    obtain ⟨g69, h⟩ := zguard h
    refine zk_iald (zoI_of rfl g69) dX9_fails_69 ?_
    refine zk_iadd dX9_fails_70 ?_
    refine zk_aload_n dX9_fails_71 rfl rfl ?_
    refine zf_X9_13 rfl dX9_fails_72 ?_
    refine zk_iload_n dX9_fails_75 rfl rfl ?_
    refine zk_iload_n dX9_fails_76 rfl rfl ?_
    refine zk_ior dX9_fails_77 ?_
    obtain ⟨g78, h⟩ := zguard h
    refine zk_iald (zoI_of rfl g78) dX9_fails_78 ?_
    refine zk_aload_n dX9_fails_79 rfl rfl ?_
    refine zf_X9_13 rfl dX9_fails_80 ?_
    refine zk_iload_n dX9_fails_83 rfl rfl ?_
    refine zk_iload_n dX9_fails_84 rfl rfl ?_
    refine zk_iand dX9_fails_85 ?_
    obtain ⟨g86, h⟩ := zguard h
    refine zk_iald (zoI_of rfl g86) dX9_fails_86 ?_
    refine zk_iadd dX9_fails_87 ?_
    refine zk_icmp_le (tgt := 98) dX9_fails_88 rfl (fun g88 => ?_) (fun g88 => ?_)
    · replace h := zpos g88 h
      refine zk_iinc dX9_fails_98 rfl (zinc (m := 1) (by decide)) (by decide) (zk_eq [_, _, _, _, _] rfl ?_)
      refine zk_goto (tgt := 27) dX9_fails_101 rfl ?_
      refine zk_mask [true, true, true, true, false] ?_
      exact hr27 _ h
    · replace h := zneg g88 h
      refine zk_bipush (v := 16) dX9_fails_91 (by decide) ?_
      refine zk_iload_n dX9_fails_93 rfl rfl ?_
      refine zk_imul dX9_fails_94 ?_
      refine zk_iload_n dX9_fails_95 rfl rfl ?_
      refine zk_iadd dX9_fails_96 ?_
      have e9 := Option.some.inj h
      subst e9
      exact zk_iret rfl ⟨rfl, rfl⟩ dX9_fails_97
def D_X9_fails_J46 (rec15 : Int32 → Option Int32) (rec27 : Int32 → Option Int32) (s : zS) (a1 : Int32) (a2 : Int32) (a3 : Int32) : Option Int32 :=
  D_X9_fails_J51 rec15 rec27 s a1 a2 a3 (1 : Int32)
set_option maxRecDepth 100000 in
theorem ok_X9_fails_J46 {l : Launch} {D : va_G} {ad : Nat → Nat} {cA : Nat → ClassId} (hj : zInj ad) (r : Int32) (s : zS) (a1 : Int32) (a2 : Int32) (a3 : Int32) (rec15 : Int32 → Option Int32) (hr15 : ∀ (b2 : Int32), rec15 b2 = some r → zOk l D ad cA (zJm jX9_fails) (zEnd D ad cA (some (.int r)) s) 15 [some (.ref 66), some (.int a1), some (.int b2), none, none] [] s) (rec27 : Int32 → Option Int32) (hr27 : ∀ (b3 : Int32), rec27 b3 = some r → zOk l D ad cA (zJm jX9_fails) (zEnd D ad cA (some (.int r)) s) 27 [some (.ref 66), some (.int a1), some (.int a2), some (.int b3), none] [] s) (h : D_X9_fails_J46 rec15 rec27 s a1 a2 a3 = some r) : zOk l D ad cA (zJm jX9_fails) (zEnd D ad cA (some (.int r)) s) 46 [some (.ref 66), some (.int a1), some (.int a2), some (.int a3), none] [] s := by
  unfold D_X9_fails_J46 at h
  refine zk_iconst (v := 1) dX9_fails_46 (by decide) ?_
  refine zk_goto (tgt := 51) dX9_fails_47 rfl ?_
  exact ok_X9_fails_J51 hj r _ _ _ _ _ _ hr15 _ hr27 h
def D_X9_fails_B27 (rec15 : Int32 → Option Int32) (s : zS) (a1 : Int32) (a2 : Int32) (rec27 : Int32 → Option Int32) (a3 : Int32) : Option Int32 :=
    (D_X9_all s).bind fun p29 =>
    if p29 < a3 then (
      rec15 (a2 + 1)
    ) else (
      if a1 = (1 : Int32) then (
        D_X9_fails_J46 rec15 rec27 s a1 a2 a3
      ) else (
        if (a2 &&& a3) = 0 then (
          D_X9_fails_J46 rec15 rec27 s a1 a2 a3
        ) else (
          D_X9_fails_J51 rec15 rec27 s a1 a2 a3 (0 : Int32)
        )
      )
    )
def D_X9_fails_L27 (rec15 : Int32 → Option Int32) (s : zS) (a1 : Int32) (a2 : Int32) (n : Nat) (a3 : Int32) : Option Int32 := zfx (fun (rec : Int32 → Option Int32) q => D_X9_fails_B27 rec15 s a1 a2 (fun v0 => rec (v0)) q) n (a3)
set_option maxRecDepth 100000 in
theorem D_X9_fails_L27_s (rec15 : Int32 → Option Int32) (s : zS) (a1 : Int32) (a2 : Int32) (n : Nat) (a3 : Int32) : D_X9_fails_L27 rec15 s a1 a2 (n + 1) a3 = D_X9_fails_B27 rec15 s a1 a2 (D_X9_fails_L27 rec15 s a1 a2 n) a3 := rfl
set_option maxRecDepth 100000 in
theorem ok_X9_fails_L27 {l : Launch} {D : va_G} {ad : Nat → Nat} {cA : Nat → ClassId} (hj : zInj ad) (r : Int32) (s : zS) (a1 : Int32) (a2 : Int32) (rec15 : Int32 → Option Int32) (hr15 : ∀ (b2 : Int32), rec15 b2 = some r → zOk l D ad cA (zJm jX9_fails) (zEnd D ad cA (some (.int r)) s) 15 [some (.ref 66), some (.int a1), some (.int b2), none, none] [] s) : ∀ (n : Nat) (a3 : Int32), D_X9_fails_L27 rec15 s a1 a2 n a3 = some r → zOk l D ad cA (zJm jX9_fails) (zEnd D ad cA (some (.int r)) s) 27 [some (.ref 66), some (.int a1), some (.int a2), some (.int a3), none] [] s := by
  intro n
  induction n with
  | zero =>
    intro a3 h
    have h0 : (none : Option Int32) = some r := h
    cases h0
  | succ n hr27 =>
    intro a3 h
    have h : D_X9_fails_B27 rec15 s a1 a2 (D_X9_fails_L27 rec15 s a1 a2 n) a3 = some r := h
    unfold D_X9_fails_B27 at h
    refine zk_iload_n dX9_fails_27 rfl rfl ?_
    refine zk_aload_n dX9_fails_28 rfl rfl ?_
    obtain ⟨p29, h29, h⟩ := zbind h
    refine zc_X9_88 [.int _] (As := []) (ok_X9_all hj _ h29) rfl ⟨Nat.le_of_ble_eq_true rfl, Nat.le_of_ble_eq_true rfl⟩ ⟨Nat.le_refl _, Nat.le_refl _⟩ rfl rfl (Nat.le_of_ble_eq_true rfl) dX9_fails_29 ?_
    refine zk_icmp_gt (tgt := 104) dX9_fails_32 rfl (fun g32 => ?_) (fun g32 => ?_)
    · replace h := zpos g32 h
      refine zk_iinc dX9_fails_104 rfl (zinc (m := 1) (by decide)) (by decide) (zk_eq [_, _, _, _, _] rfl ?_)
      refine zk_goto (tgt := 15) dX9_fails_107 rfl ?_
      refine zk_mask [true, true, true, false, false] ?_
      exact hr15 _ h
    · replace h := zneg g32 h
      refine zk_iload_n dX9_fails_35 rfl rfl ?_
      refine zk_iconst (v := 1) dX9_fails_36 (by decide) ?_
      refine zk_icmp_eq (tgt := 46) dX9_fails_37 rfl (fun g37 => ?_) (fun g37 => ?_)
      · replace h := zpos g37 h
        exact ok_X9_fails_J46 hj r _ _ _ _ _ hr15 _ hr27 h
      · replace h := zneg g37 h
        refine zk_iload_n dX9_fails_40 rfl rfl ?_
        refine zk_iload_n dX9_fails_41 rfl rfl ?_
        refine zk_iand dX9_fails_42 ?_
        refine zk_if_ne (tgt := 50) dX9_fails_43 rfl (fun g43 => ?_) (fun g43 => ?_)
        · replace h := zneg g43 h
          refine zk_iconst (v := 0) dX9_fails_50 (by decide) ?_
          exact ok_X9_fails_J51 hj r _ _ _ _ _ _ hr15 _ hr27 h
        · replace h := zpos g43 h
          exact ok_X9_fails_J46 hj r _ _ _ _ _ hr15 _ hr27 h
def D_X9_fails_B15 (s : zS) (a1 : Int32) (rec15 : Int32 → Option Int32) (a2 : Int32) : Option Int32 :=
    (D_X9_all s).bind fun p17 =>
    if p17 < a2 then (
      some (-1 : Int32)
    ) else (
      D_X9_fails_L27 rec15 s a1 a2 zFU (a2 + (1 : Int32))
    )
def D_X9_fails_L15 (s : zS) (a1 : Int32) (n : Nat) (a2 : Int32) : Option Int32 := zfx (fun (rec : Int32 → Option Int32) q => D_X9_fails_B15 s a1 (fun v0 => rec (v0)) q) n (a2)
set_option maxRecDepth 100000 in
theorem D_X9_fails_L15_s (s : zS) (a1 : Int32) (n : Nat) (a2 : Int32) : D_X9_fails_L15 s a1 (n + 1) a2 = D_X9_fails_B15 s a1 (D_X9_fails_L15 s a1 n) a2 := rfl
set_option maxRecDepth 100000 in
theorem ok_X9_fails_L15 {l : Launch} {D : va_G} {ad : Nat → Nat} {cA : Nat → ClassId} (hj : zInj ad) (r : Int32) (s : zS) (a1 : Int32) : ∀ (n : Nat) (a2 : Int32), D_X9_fails_L15 s a1 n a2 = some r → zOk l D ad cA (zJm jX9_fails) (zEnd D ad cA (some (.int r)) s) 15 [some (.ref 66), some (.int a1), some (.int a2), none, none] [] s := by
  intro n
  induction n with
  | zero =>
    intro a2 h
    have h0 : (none : Option Int32) = some r := h
    cases h0
  | succ n hr15 =>
    intro a2 h
    have h : D_X9_fails_B15 s a1 (D_X9_fails_L15 s a1 n) a2 = some r := h
    unfold D_X9_fails_B15 at h
    refine zk_iload_n dX9_fails_15 rfl rfl ?_
    refine zk_aload_n dX9_fails_16 rfl rfl ?_
    obtain ⟨p17, h17, h⟩ := zbind h
    refine zc_X9_88 [.int _] (As := []) (ok_X9_all hj _ h17) rfl ⟨Nat.le_of_ble_eq_true rfl, Nat.le_of_ble_eq_true rfl⟩ ⟨Nat.le_refl _, Nat.le_refl _⟩ rfl rfl (Nat.le_of_ble_eq_true rfl) dX9_fails_17 ?_
    refine zk_icmp_gt (tgt := 110) dX9_fails_20 rfl (fun g20 => ?_) (fun g20 => ?_)
    · replace h := zpos g20 h
      refine zk_iconst (v := -1) dX9_fails_110 (by decide) ?_
      have e9 := Option.some.inj h
      subst e9
      exact zk_iret rfl ⟨rfl, rfl⟩ dX9_fails_111
    · replace h := zneg g20 h
      refine zk_iload_n dX9_fails_23 rfl rfl ?_
      refine zk_iconst (v := 1) dX9_fails_24 (by decide) ?_
      refine zk_iadd dX9_fails_25 ?_
      refine zk_istore_n (i := 3) dX9_fails_26 rfl (by decide) (zk_eq [_, _, _, _, _] rfl ?_)
      exact ok_X9_fails_L27 hj r _ _ _ _ hr15 _ _ h
def D_X9_fails (s : zS) (a1 : Int32) : Option Int32 :=
  (D_X9_in a1.toInt64 (0 : Int64) (1 : Int64)).bind fun p4 =>
  if p4 = 0 then (
    some (-2 : Int32)
  ) else (
    D_X9_fails_L15 s a1 zFU (1 : Int32)
  )
set_option maxRecDepth 100000 in
theorem ok_X9_fails {l : Launch} {D : va_G} {ad : Nat → Nat} {cA : Nat → ClassId} (hj : zInj ad) (s : zS) (a1 : Int32) {r : Int32} (h : D_X9_fails s a1 = some r) : zMet l D ad cA jX9_fails [.ref 66, .int a1] s (some (.int r)) s := by
  refine zMet_of jX9_fails [some (.ref 66), some (.int a1), none, none, none] (by decide +kernel) (Nat.le_of_ble_eq_true rfl) rfl hj ?_
  unfold D_X9_fails at h
  refine zk_iload_n dX9_fails_0 rfl rfl ?_
  refine zk_i2l dX9_fails_1 ?_
  refine zk_lconst (v := 0) dX9_fails_2 (by decide) ?_
  refine zk_lconst (v := 1) dX9_fails_3 (by decide) ?_
  obtain ⟨p4, h4, h⟩ := zbind h
  refine zc_X9_92 [] (As := [.long _, .long _, .long _]) (ok_X9_in hj _ _ _ _ h4) rfl ⟨Nat.le_of_ble_eq_true rfl, Nat.le_of_ble_eq_true rfl⟩ ⟨Nat.le_refl _, Nat.le_refl _⟩ rfl rfl (Nat.le_of_ble_eq_true rfl) dX9_fails_4 ?_
  refine zk_if_ne (tgt := 13) dX9_fails_7 rfl (fun g7 => ?_) (fun g7 => ?_)
  · replace h := zneg g7 h
    refine zk_iconst (v := 1) dX9_fails_13 (by decide) ?_
    refine zk_istore_n (i := 2) dX9_fails_14 rfl (by decide) (zk_eq [_, _, _, _, _] rfl ?_)
    exact ok_X9_fails_L15 hj r _ _ _ _ h
  · replace h := zpos g7 h
    refine zk_bipush (v := -2) dX9_fails_10 (by decide) ?_
    have e9 := Option.some.inj h
    subst e9
    exact zk_iret rfl ⟨rfl, rfl⟩ dX9_fails_12
