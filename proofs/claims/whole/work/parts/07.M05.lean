def D_X9_digest_B299  (rec299 : Int32 → zS → Option (Int64 × zS)) (a1 : Int32) (s : zS) : Option (Int64 × zS) :=
    if (s.1 66 18) ≤ a1 then (
      (D_X9_add s (s.2 66 3)).bind fun p329 =>
      (D_X9_add p329 (p329.2 66 4)).bind fun p337 =>
      some ((p337.2 66 42), p337)
    ) else (
      zgd (zin a1 4 = true) <|
      (D_X9_add s ((s.1 76 a1.toNatClampNeg).toInt64)).bind fun p315 =>
      rec299 (a1 + 1) p315
    )
def D_X9_digest_L299 (n : Nat) (a1 : Int32) (s : zS) : Option (Int64 × zS) := zfx (fun (rec : Int32 × zS → Option (Int64 × zS)) q => D_X9_digest_B299 (fun v0 v1 => rec (v0, v1)) q.1 q.2) n (a1, s)
set_option maxRecDepth 100000 in
theorem D_X9_digest_L299_s (n : Nat) (a1 : Int32) (s : zS) : D_X9_digest_L299 (n + 1) a1 s = D_X9_digest_B299 (D_X9_digest_L299 n) a1 s := rfl
set_option maxRecDepth 100000 in
theorem ok_X9_digest_L299 {l : Launch} {D : va_G} {ad : Nat → Nat} {cA : Nat → ClassId} (hj : zInj ad) (r : (Int64 × zS))  : ∀ (n : Nat) (a1 : Int32) (s : zS), D_X9_digest_L299 n a1 s = some r → zOk l D ad cA (zJm jX9_digest) (zEnd D ad cA (some (.long r.1)) r.2) 299 [some (.ref 66), some (.int a1), none] [] s := by
  intro n
  induction n with
  | zero =>
    intro a1 s h
    have h0 : (none : Option (Int64 × zS)) = some r := h
    cases h0
  | succ n hr299 =>
    intro a1 s h
    have h : D_X9_digest_B299 (D_X9_digest_L299 n) a1 s = some r := h
    unfold D_X9_digest_B299 at h
    refine zk_iload_n dX9_digest_299 rfl rfl ?_
    refine zk_aload_n dX9_digest_300 rfl rfl ?_
    refine zf_X9_289 rfl dX9_digest_301 ?_
    refine zk_icmp_ge (tgt := 324) dX9_digest_304 rfl (fun g304 => ?_) (fun g304 => ?_)
    · replace h := zpos g304 h
      refine zk_aload_n dX9_digest_324 rfl rfl ?_
      refine zk_aload_n dX9_digest_325 rfl rfl ?_
      refine zf_X9_100 rfl dX9_digest_326 ?_
      obtain ⟨p329, h329, h⟩ := zbind h
      refine zc_X9_308 [] (As := [.long _]) (ok_X9_add hj _ _ h329) rfl ⟨Nat.le_of_ble_eq_true rfl, Nat.le_of_ble_eq_true rfl⟩ ⟨Nat.le_refl _, Nat.le_refl _⟩ rfl rfl (Nat.le_of_ble_eq_true rfl) dX9_digest_329 ?_
      refine zk_aload_n dX9_digest_332 rfl rfl ?_
      refine zk_aload_n dX9_digest_333 rfl rfl ?_
      refine zf_X9_20 rfl dX9_digest_334 ?_
      obtain ⟨p337, h337, h⟩ := zbind h
      refine zc_X9_308 [] (As := [.long _]) (ok_X9_add hj _ _ h337) rfl ⟨Nat.le_of_ble_eq_true rfl, Nat.le_of_ble_eq_true rfl⟩ ⟨Nat.le_refl _, Nat.le_refl _⟩ rfl rfl (Nat.le_of_ble_eq_true rfl) dX9_digest_337 ?_
      refine zk_aload_n dX9_digest_340 rfl rfl ?_
      refine zf_X9_300 rfl dX9_digest_341 ?_
      have e9 := Option.some.inj h
      subst e9
      exact zk_lret rfl ⟨rfl, rfl⟩ dX9_digest_344
    · replace h := zneg g304 h
      refine zk_aload_n dX9_digest_307 rfl rfl ?_
      refine zk_aload_n dX9_digest_308 rfl rfl ?_
      refine zf_X9_51 rfl dX9_digest_309 ?_
      refine zk_iload_n dX9_digest_312 rfl rfl ?_
      obtain ⟨g313, h⟩ := zguard h
      refine zk_iald (zoI_of rfl g313) dX9_digest_313 ?_
      refine zk_i2l dX9_digest_314 ?_
      obtain ⟨p315, h315, h⟩ := zbind h
      refine zc_X9_308 [] (As := [.long _]) (ok_X9_add hj _ _ h315) rfl ⟨Nat.le_of_ble_eq_true rfl, Nat.le_of_ble_eq_true rfl⟩ ⟨Nat.le_refl _, Nat.le_refl _⟩ rfl rfl (Nat.le_of_ble_eq_true rfl) dX9_digest_315 ?_
      refine zk_iinc dX9_digest_318 rfl (zinc (m := 1) (by decide)) (by decide) (zk_eq [_, _, _] rfl ?_)
      refine zk_goto (tgt := 299) dX9_digest_321 rfl ?_
      exact hr299 _ _ h
def D_X9_digest_B262 (rec252 : Int32 → zS → Option (Int64 × zS)) (a1 : Int32) (rec262 : Int32 → zS → Option (Int64 × zS)) (a2 : Int32) (s : zS) : Option (Int64 × zS) :=
    if (s.1 66 18) ≤ a2 then (
      rec252 (a1 + 1) s
    ) else (
      zgd (zin (((4 : Int32) * a1) + a2) 16 = true) <|
      (D_X9_add s ((s.1 75 (((4 : Int32) * a1) + a2).toNatClampNeg).toInt64)).bind fun p282 =>
      rec262 (a2 + 1) p282
    )
def D_X9_digest_L262 (rec252 : Int32 → zS → Option (Int64 × zS)) (a1 : Int32) (n : Nat) (a2 : Int32) (s : zS) : Option (Int64 × zS) := zfx (fun (rec : Int32 × zS → Option (Int64 × zS)) q => D_X9_digest_B262 rec252 a1 (fun v0 v1 => rec (v0, v1)) q.1 q.2) n (a2, s)
set_option maxRecDepth 100000 in
theorem D_X9_digest_L262_s (rec252 : Int32 → zS → Option (Int64 × zS)) (a1 : Int32) (n : Nat) (a2 : Int32) (s : zS) : D_X9_digest_L262 rec252 a1 (n + 1) a2 s = D_X9_digest_B262 rec252 a1 (D_X9_digest_L262 rec252 a1 n) a2 s := rfl
set_option maxRecDepth 100000 in
theorem ok_X9_digest_L262 {l : Launch} {D : va_G} {ad : Nat → Nat} {cA : Nat → ClassId} (hj : zInj ad) (r : (Int64 × zS)) (a1 : Int32) (rec252 : Int32 → zS → Option (Int64 × zS)) (hr252 : ∀ (b1 : Int32) (s : zS), rec252 b1 s = some r → zOk l D ad cA (zJm jX9_digest) (zEnd D ad cA (some (.long r.1)) r.2) 252 [some (.ref 66), some (.int b1), none] [] s) : ∀ (n : Nat) (a2 : Int32) (s : zS), D_X9_digest_L262 rec252 a1 n a2 s = some r → zOk l D ad cA (zJm jX9_digest) (zEnd D ad cA (some (.long r.1)) r.2) 262 [some (.ref 66), some (.int a1), some (.int a2)] [] s := by
  intro n
  induction n with
  | zero =>
    intro a2 s h
    have h0 : (none : Option (Int64 × zS)) = some r := h
    cases h0
  | succ n hr262 =>
    intro a2 s h
    have h : D_X9_digest_B262 rec252 a1 (D_X9_digest_L262 rec252 a1 n) a2 s = some r := h
    unfold D_X9_digest_B262 at h
    refine zk_iload_n dX9_digest_262 rfl rfl ?_
    refine zk_aload_n dX9_digest_263 rfl rfl ?_
    refine zf_X9_289 rfl dX9_digest_264 ?_
    refine zk_icmp_ge (tgt := 291) dX9_digest_267 rfl (fun g267 => ?_) (fun g267 => ?_)
    · replace h := zpos g267 h
      refine zk_iinc dX9_digest_291 rfl (zinc (m := 1) (by decide)) (by decide) (zk_eq [_, _, _] rfl ?_)
      refine zk_goto (tgt := 252) dX9_digest_294 rfl ?_
      refine zk_mask [true, true, false] ?_
      exact hr252 _ _ h
    · replace h := zneg g267 h
      refine zk_aload_n dX9_digest_270 rfl rfl ?_
      refine zk_aload_n dX9_digest_271 rfl rfl ?_
      refine zf_X9_48 rfl dX9_digest_272 ?_
      refine zk_iconst (v := 4) dX9_digest_275 (by decide) ?_
      refine zk_iload_n dX9_digest_276 rfl rfl ?_
      refine zk_imul dX9_digest_277 ?_
      refine zk_iload_n dX9_digest_278 rfl rfl ?_
      refine zk_iadd dX9_digest_279 ?_
      obtain ⟨g280, h⟩ := zguard h
      refine zk_iald (zoI_of rfl g280) dX9_digest_280 ?_
      refine zk_i2l dX9_digest_281 ?_
      obtain ⟨p282, h282, h⟩ := zbind h
      refine zc_X9_308 [] (As := [.long _]) (ok_X9_add hj _ _ h282) rfl ⟨Nat.le_of_ble_eq_true rfl, Nat.le_of_ble_eq_true rfl⟩ ⟨Nat.le_refl _, Nat.le_refl _⟩ rfl rfl (Nat.le_of_ble_eq_true rfl) dX9_digest_282 ?_
      refine zk_iinc dX9_digest_285 rfl (zinc (m := 1) (by decide)) (by decide) (zk_eq [_, _, _] rfl ?_)
      refine zk_goto (tgt := 262) dX9_digest_288 rfl ?_
      exact hr262 _ _ h
def D_X9_digest_B252  (rec252 : Int32 → zS → Option (Int64 × zS)) (a1 : Int32) (s : zS) : Option (Int64 × zS) :=
    if (s.1 66 17) ≤ a1 then (
      D_X9_digest_L299 zFU (0 : Int32) s
    ) else (
      D_X9_digest_L262 rec252 a1 zFU (0 : Int32) s
    )
def D_X9_digest_L252 (n : Nat) (a1 : Int32) (s : zS) : Option (Int64 × zS) := zfx (fun (rec : Int32 × zS → Option (Int64 × zS)) q => D_X9_digest_B252 (fun v0 v1 => rec (v0, v1)) q.1 q.2) n (a1, s)
set_option maxRecDepth 100000 in
theorem D_X9_digest_L252_s (n : Nat) (a1 : Int32) (s : zS) : D_X9_digest_L252 (n + 1) a1 s = D_X9_digest_B252 (D_X9_digest_L252 n) a1 s := rfl
set_option maxRecDepth 100000 in
theorem ok_X9_digest_L252 {l : Launch} {D : va_G} {ad : Nat → Nat} {cA : Nat → ClassId} (hj : zInj ad) (r : (Int64 × zS))  : ∀ (n : Nat) (a1 : Int32) (s : zS), D_X9_digest_L252 n a1 s = some r → zOk l D ad cA (zJm jX9_digest) (zEnd D ad cA (some (.long r.1)) r.2) 252 [some (.ref 66), some (.int a1), none] [] s := by
  intro n
  induction n with
  | zero =>
    intro a1 s h
    have h0 : (none : Option (Int64 × zS)) = some r := h
    cases h0
  | succ n hr252 =>
    intro a1 s h
    have h : D_X9_digest_B252 (D_X9_digest_L252 n) a1 s = some r := h
    unfold D_X9_digest_B252 at h
    refine zk_iload_n dX9_digest_252 rfl rfl ?_
    refine zk_aload_n dX9_digest_253 rfl rfl ?_
    refine zf_X9_286 rfl dX9_digest_254 ?_
    refine zk_icmp_ge (tgt := 297) dX9_digest_257 rfl (fun g257 => ?_) (fun g257 => ?_)
    · replace h := zpos g257 h
      refine zk_iconst (v := 0) dX9_digest_297 (by decide) ?_
      refine zk_istore_n (i := 1) dX9_digest_298 rfl (by decide) (zk_eq [_, _, _] rfl ?_)
      exact ok_X9_digest_L299 hj r  _ _ _ h
    · replace h := zneg g257 h
      refine zk_iconst (v := 0) dX9_digest_260 (by decide) ?_
      refine zk_istore_n (i := 2) dX9_digest_261 rfl (by decide) (zk_eq [_, _, _] rfl ?_)
      exact ok_X9_digest_L262 hj r _ _ hr252 _ _ _ h
def D_X9_digest_B214  (rec214 : Int32 → zS → Option (Int64 × zS)) (a1 : Int32) (s : zS) : Option (Int64 × zS) :=
    if (s.1 66 14) ≤ a1 then (
      D_X9_digest_L252 zFU (0 : Int32) s
    ) else (
      zgd (zin a1 8 = true) <|
      (D_X9_add s ((s.1 73 a1.toNatClampNeg).toInt64)).bind fun p230 =>
      zgd (zin a1 8 = true) <|
      (D_X9_add p230 ((p230.1 74 a1.toNatClampNeg).toInt64)).bind fun p241 =>
      rec214 (a1 + 1) p241
    )
def D_X9_digest_L214 (n : Nat) (a1 : Int32) (s : zS) : Option (Int64 × zS) := zfx (fun (rec : Int32 × zS → Option (Int64 × zS)) q => D_X9_digest_B214 (fun v0 v1 => rec (v0, v1)) q.1 q.2) n (a1, s)
set_option maxRecDepth 100000 in
theorem D_X9_digest_L214_s (n : Nat) (a1 : Int32) (s : zS) : D_X9_digest_L214 (n + 1) a1 s = D_X9_digest_B214 (D_X9_digest_L214 n) a1 s := rfl
set_option maxRecDepth 100000 in
theorem ok_X9_digest_L214 {l : Launch} {D : va_G} {ad : Nat → Nat} {cA : Nat → ClassId} (hj : zInj ad) (r : (Int64 × zS))  : ∀ (n : Nat) (a1 : Int32) (s : zS), D_X9_digest_L214 n a1 s = some r → zOk l D ad cA (zJm jX9_digest) (zEnd D ad cA (some (.long r.1)) r.2) 214 [some (.ref 66), some (.int a1), none] [] s := by
  intro n
  induction n with
  | zero =>
    intro a1 s h
    have h0 : (none : Option (Int64 × zS)) = some r := h
    cases h0
  | succ n hr214 =>
    intro a1 s h
    have h : D_X9_digest_B214 (D_X9_digest_L214 n) a1 s = some r := h
    unfold D_X9_digest_B214 at h
    refine zk_iload_n dX9_digest_214 rfl rfl ?_
    refine zk_aload_n dX9_digest_215 rfl rfl ?_
    refine zf_X9_274 rfl dX9_digest_216 ?_
    refine zk_icmp_ge (tgt := 250) dX9_digest_219 rfl (fun g219 => ?_) (fun g219 => ?_)
    · replace h := zpos g219 h
      refine zk_iconst (v := 0) dX9_digest_250 (by decide) ?_
      refine zk_istore_n (i := 1) dX9_digest_251 rfl (by decide) (zk_eq [_, _, _] rfl ?_)
      exact ok_X9_digest_L252 hj r  _ _ _ h
    · replace h := zneg g219 h
      refine zk_aload_n dX9_digest_222 rfl rfl ?_
      refine zk_aload_n dX9_digest_223 rfl rfl ?_
      refine zf_X9_42 rfl dX9_digest_224 ?_
      refine zk_iload_n dX9_digest_227 rfl rfl ?_
      obtain ⟨g228, h⟩ := zguard h
      refine zk_iald (zoI_of rfl g228) dX9_digest_228 ?_
      refine zk_i2l dX9_digest_229 ?_
      obtain ⟨p230, h230, h⟩ := zbind h
      refine zc_X9_308 [] (As := [.long _]) (ok_X9_add hj _ _ h230) rfl ⟨Nat.le_of_ble_eq_true rfl, Nat.le_of_ble_eq_true rfl⟩ ⟨Nat.le_refl _, Nat.le_refl _⟩ rfl rfl (Nat.le_of_ble_eq_true rfl) dX9_digest_230 ?_
      refine zk_aload_n dX9_digest_233 rfl rfl ?_
      refine zk_aload_n dX9_digest_234 rfl rfl ?_
      refine zf_X9_45 rfl dX9_digest_235 ?_
      refine zk_iload_n dX9_digest_238 rfl rfl ?_
      obtain ⟨g239, h⟩ := zguard h
      refine zk_iald (zoI_of rfl g239) dX9_digest_239 ?_
      refine zk_i2l dX9_digest_240 ?_
      obtain ⟨p241, h241, h⟩ := zbind h
      refine zc_X9_308 [] (As := [.long _]) (ok_X9_add hj _ _ h241) rfl ⟨Nat.le_of_ble_eq_true rfl, Nat.le_of_ble_eq_true rfl⟩ ⟨Nat.le_refl _, Nat.le_refl _⟩ rfl rfl (Nat.le_of_ble_eq_true rfl) dX9_digest_241 ?_
      refine zk_iinc dX9_digest_244 rfl (zinc (m := 1) (by decide)) (by decide) (zk_eq [_, _, _] rfl ?_)
      refine zk_goto (tgt := 214) dX9_digest_247 rfl ?_
      exact hr214 _ _ h
def D_X9_digest_B176  (rec176 : Int32 → zS → Option (Int64 × zS)) (a1 : Int32) (s : zS) : Option (Int64 × zS) :=
    if (s.1 66 11) ≤ a1 then (
      D_X9_digest_L214 zFU (0 : Int32) s
    ) else (
      zgd (zin a1 10 = true) <|
      (D_X9_add s ((s.1 71 a1.toNatClampNeg).toInt64)).bind fun p192 =>
      zgd (zin a1 10 = true) <|
      (D_X9_add p192 ((p192.1 72 a1.toNatClampNeg).toInt64)).bind fun p203 =>
      rec176 (a1 + 1) p203
    )
def D_X9_digest_L176 (n : Nat) (a1 : Int32) (s : zS) : Option (Int64 × zS) := zfx (fun (rec : Int32 × zS → Option (Int64 × zS)) q => D_X9_digest_B176 (fun v0 v1 => rec (v0, v1)) q.1 q.2) n (a1, s)
set_option maxRecDepth 100000 in
theorem D_X9_digest_L176_s (n : Nat) (a1 : Int32) (s : zS) : D_X9_digest_L176 (n + 1) a1 s = D_X9_digest_B176 (D_X9_digest_L176 n) a1 s := rfl
set_option maxRecDepth 100000 in
theorem ok_X9_digest_L176 {l : Launch} {D : va_G} {ad : Nat → Nat} {cA : Nat → ClassId} (hj : zInj ad) (r : (Int64 × zS))  : ∀ (n : Nat) (a1 : Int32) (s : zS), D_X9_digest_L176 n a1 s = some r → zOk l D ad cA (zJm jX9_digest) (zEnd D ad cA (some (.long r.1)) r.2) 176 [some (.ref 66), some (.int a1), none] [] s := by
  intro n
  induction n with
  | zero =>
    intro a1 s h
    have h0 : (none : Option (Int64 × zS)) = some r := h
    cases h0
  | succ n hr176 =>
    intro a1 s h
    have h : D_X9_digest_B176 (D_X9_digest_L176 n) a1 s = some r := h
    unfold D_X9_digest_B176 at h
    refine zk_iload_n dX9_digest_176 rfl rfl ?_
    refine zk_aload_n dX9_digest_177 rfl rfl ?_
    refine zf_X9_33 rfl dX9_digest_178 ?_
    refine zk_icmp_ge (tgt := 212) dX9_digest_181 rfl (fun g181 => ?_) (fun g181 => ?_)
    · replace h := zpos g181 h
      refine zk_iconst (v := 0) dX9_digest_212 (by decide) ?_
      refine zk_istore_n (i := 1) dX9_digest_213 rfl (by decide) (zk_eq [_, _, _] rfl ?_)
      exact ok_X9_digest_L214 hj r  _ _ _ h
    · replace h := zneg g181 h
      refine zk_aload_n dX9_digest_184 rfl rfl ?_
      refine zk_aload_n dX9_digest_185 rfl rfl ?_
      refine zf_X9_36 rfl dX9_digest_186 ?_
      refine zk_iload_n dX9_digest_189 rfl rfl ?_
      obtain ⟨g190, h⟩ := zguard h
      refine zk_iald (zoI_of rfl g190) dX9_digest_190 ?_
      refine zk_i2l dX9_digest_191 ?_
      obtain ⟨p192, h192, h⟩ := zbind h
      refine zc_X9_308 [] (As := [.long _]) (ok_X9_add hj _ _ h192) rfl ⟨Nat.le_of_ble_eq_true rfl, Nat.le_of_ble_eq_true rfl⟩ ⟨Nat.le_refl _, Nat.le_refl _⟩ rfl rfl (Nat.le_of_ble_eq_true rfl) dX9_digest_192 ?_
      refine zk_aload_n dX9_digest_195 rfl rfl ?_
      refine zk_aload_n dX9_digest_196 rfl rfl ?_
      refine zf_X9_39 rfl dX9_digest_197 ?_
      refine zk_iload_n dX9_digest_200 rfl rfl ?_
      obtain ⟨g201, h⟩ := zguard h
      refine zk_iald (zoI_of rfl g201) dX9_digest_201 ?_
      refine zk_i2l dX9_digest_202 ?_
      obtain ⟨p203, h203, h⟩ := zbind h
      refine zc_X9_308 [] (As := [.long _]) (ok_X9_add hj _ _ h203) rfl ⟨Nat.le_of_ble_eq_true rfl, Nat.le_of_ble_eq_true rfl⟩ ⟨Nat.le_refl _, Nat.le_refl _⟩ rfl rfl (Nat.le_of_ble_eq_true rfl) dX9_digest_203 ?_
      refine zk_iinc dX9_digest_206 rfl (zinc (m := 1) (by decide)) (by decide) (zk_eq [_, _, _] rfl ?_)
      refine zk_goto (tgt := 176) dX9_digest_209 rfl ?_
      exact hr176 _ _ h
def D_X9_digest_B140  (rec140 : Int32 → zS → Option (Int64 × zS)) (a1 : Int32) (s : zS) : Option (Int64 × zS) :=
    if (s.1 66 8) ≤ a1 then (
      (D_X9_add s ((s.1 66 10).toInt64)).bind fun p171 =>
      D_X9_digest_L176 zFU (1 : Int32) p171
    ) else (
      zgd (zin a1 6 = true) <|
      (D_X9_add s ((s.1 70 a1.toNatClampNeg).toInt64)).bind fun p156 =>
      rec140 (a1 + 1) p156
    )
def D_X9_digest_L140 (n : Nat) (a1 : Int32) (s : zS) : Option (Int64 × zS) := zfx (fun (rec : Int32 × zS → Option (Int64 × zS)) q => D_X9_digest_B140 (fun v0 v1 => rec (v0, v1)) q.1 q.2) n (a1, s)
set_option maxRecDepth 100000 in
theorem D_X9_digest_L140_s (n : Nat) (a1 : Int32) (s : zS) : D_X9_digest_L140 (n + 1) a1 s = D_X9_digest_B140 (D_X9_digest_L140 n) a1 s := rfl
set_option maxRecDepth 100000 in
theorem ok_X9_digest_L140 {l : Launch} {D : va_G} {ad : Nat → Nat} {cA : Nat → ClassId} (hj : zInj ad) (r : (Int64 × zS))  : ∀ (n : Nat) (a1 : Int32) (s : zS), D_X9_digest_L140 n a1 s = some r → zOk l D ad cA (zJm jX9_digest) (zEnd D ad cA (some (.long r.1)) r.2) 140 [some (.ref 66), some (.int a1), none] [] s := by
  intro n
  induction n with
  | zero =>
    intro a1 s h
    have h0 : (none : Option (Int64 × zS)) = some r := h
    cases h0
  | succ n hr140 =>
    intro a1 s h
    have h : D_X9_digest_B140 (D_X9_digest_L140 n) a1 s = some r := h
    unfold D_X9_digest_B140 at h
    refine zk_iload_n dX9_digest_140 rfl rfl ?_
    refine zk_aload_n dX9_digest_141 rfl rfl ?_
    refine zf_X9_244 rfl dX9_digest_142 ?_
    refine zk_icmp_ge (tgt := 165) dX9_digest_145 rfl (fun g145 => ?_) (fun g145 => ?_)
    · replace h := zpos g145 h
      refine zk_aload_n dX9_digest_165 rfl rfl ?_
      refine zk_aload_n dX9_digest_166 rfl rfl ?_
      refine zf_X9_249 rfl dX9_digest_167 ?_
      refine zk_i2l dX9_digest_170 ?_
      obtain ⟨p171, h171, h⟩ := zbind h
      refine zc_X9_308 [] (As := [.long _]) (ok_X9_add hj _ _ h171) rfl ⟨Nat.le_of_ble_eq_true rfl, Nat.le_of_ble_eq_true rfl⟩ ⟨Nat.le_refl _, Nat.le_refl _⟩ rfl rfl (Nat.le_of_ble_eq_true rfl) dX9_digest_171 ?_
      refine zk_iconst (v := 1) dX9_digest_174 (by decide) ?_
      refine zk_istore_n (i := 1) dX9_digest_175 rfl (by decide) (zk_eq [_, _, _] rfl ?_)
      exact ok_X9_digest_L176 hj r  _ _ _ h
    · replace h := zneg g145 h
      refine zk_aload_n dX9_digest_148 rfl rfl ?_
      refine zk_aload_n dX9_digest_149 rfl rfl ?_
      refine zf_X9_30 rfl dX9_digest_150 ?_
      refine zk_iload_n dX9_digest_153 rfl rfl ?_
      obtain ⟨g154, h⟩ := zguard h
      refine zk_iald (zoI_of rfl g154) dX9_digest_154 ?_
      refine zk_i2l dX9_digest_155 ?_
      obtain ⟨p156, h156, h⟩ := zbind h
      refine zc_X9_308 [] (As := [.long _]) (ok_X9_add hj _ _ h156) rfl ⟨Nat.le_of_ble_eq_true rfl, Nat.le_of_ble_eq_true rfl⟩ ⟨Nat.le_refl _, Nat.le_refl _⟩ rfl rfl (Nat.le_of_ble_eq_true rfl) dX9_digest_156 ?_
      refine zk_iinc dX9_digest_159 rfl (zinc (m := 1) (by decide)) (by decide) (zk_eq [_, _, _] rfl ?_)
      refine zk_goto (tgt := 140) dX9_digest_162 rfl ?_
      exact hr140 _ _ h
def D_X9_digest_B104  (rec104 : Int32 → zS → Option (Int64 × zS)) (a1 : Int32) (s : zS) : Option (Int64 × zS) :=
    if (s.1 66 5) ≤ a1 then (
      (D_X9_add s ((s.1 66 7).toInt64)).bind fun p135 =>
      D_X9_digest_L140 zFU (0 : Int32) p135
    ) else (
      zgd (zin a1 8 = true) <|
      (D_X9_add s ((s.1 69 a1.toNatClampNeg).toInt64)).bind fun p120 =>
      rec104 (a1 + 1) p120
    )
def D_X9_digest_L104 (n : Nat) (a1 : Int32) (s : zS) : Option (Int64 × zS) := zfx (fun (rec : Int32 × zS → Option (Int64 × zS)) q => D_X9_digest_B104 (fun v0 v1 => rec (v0, v1)) q.1 q.2) n (a1, s)
set_option maxRecDepth 100000 in
theorem D_X9_digest_L104_s (n : Nat) (a1 : Int32) (s : zS) : D_X9_digest_L104 (n + 1) a1 s = D_X9_digest_B104 (D_X9_digest_L104 n) a1 s := rfl
set_option maxRecDepth 100000 in
theorem ok_X9_digest_L104 {l : Launch} {D : va_G} {ad : Nat → Nat} {cA : Nat → ClassId} (hj : zInj ad) (r : (Int64 × zS))  : ∀ (n : Nat) (a1 : Int32) (s : zS), D_X9_digest_L104 n a1 s = some r → zOk l D ad cA (zJm jX9_digest) (zEnd D ad cA (some (.long r.1)) r.2) 104 [some (.ref 66), some (.int a1), none] [] s := by
  intro n
  induction n with
  | zero =>
    intro a1 s h
    have h0 : (none : Option (Int64 × zS)) = some r := h
    cases h0
  | succ n hr104 =>
    intro a1 s h
    have h : D_X9_digest_B104 (D_X9_digest_L104 n) a1 s = some r := h
    unfold D_X9_digest_B104 at h
    refine zk_iload_n dX9_digest_104 rfl rfl ?_
    refine zk_aload_n dX9_digest_105 rfl rfl ?_
    refine zf_X9_215 rfl dX9_digest_106 ?_
    refine zk_icmp_ge (tgt := 129) dX9_digest_109 rfl (fun g109 => ?_) (fun g109 => ?_)
    · replace h := zpos g109 h
      refine zk_aload_n dX9_digest_129 rfl rfl ?_
      refine zk_aload_n dX9_digest_130 rfl rfl ?_
      refine zf_X9_27 rfl dX9_digest_131 ?_
      refine zk_i2l dX9_digest_134 ?_
      obtain ⟨p135, h135, h⟩ := zbind h
      refine zc_X9_308 [] (As := [.long _]) (ok_X9_add hj _ _ h135) rfl ⟨Nat.le_of_ble_eq_true rfl, Nat.le_of_ble_eq_true rfl⟩ ⟨Nat.le_refl _, Nat.le_refl _⟩ rfl rfl (Nat.le_of_ble_eq_true rfl) dX9_digest_135 ?_
      refine zk_iconst (v := 0) dX9_digest_138 (by decide) ?_
      refine zk_istore_n (i := 1) dX9_digest_139 rfl (by decide) (zk_eq [_, _, _] rfl ?_)
      exact ok_X9_digest_L140 hj r  _ _ _ h
    · replace h := zneg g109 h
      refine zk_aload_n dX9_digest_112 rfl rfl ?_
      refine zk_aload_n dX9_digest_113 rfl rfl ?_
      refine zf_X9_24 rfl dX9_digest_114 ?_
      refine zk_iload_n dX9_digest_117 rfl rfl ?_
      obtain ⟨g118, h⟩ := zguard h
      refine zk_iald (zoI_of rfl g118) dX9_digest_118 ?_
      refine zk_i2l dX9_digest_119 ?_
      obtain ⟨p120, h120, h⟩ := zbind h
      refine zc_X9_308 [] (As := [.long _]) (ok_X9_add hj _ _ h120) rfl ⟨Nat.le_of_ble_eq_true rfl, Nat.le_of_ble_eq_true rfl⟩ ⟨Nat.le_refl _, Nat.le_refl _⟩ rfl rfl (Nat.le_of_ble_eq_true rfl) dX9_digest_120 ?_
      refine zk_iinc dX9_digest_123 rfl (zinc (m := 1) (by decide)) (by decide) (zk_eq [_, _, _] rfl ?_)
      refine zk_goto (tgt := 104) dX9_digest_126 rfl ?_
      exact hr104 _ _ h
def D_X9_digest_B67 (rec60 : Int32 → zS → Option (Int64 × zS)) (a1 : Int32) (rec67 : Int32 → zS → Option (Int64 × zS)) (a2 : Int32) (s : zS) : Option (Int64 × zS) :=
    if (s.1 66 0) ≤ a2 then (
      rec60 (a1 + 1) s
    ) else (
      zgd (zin (((4 : Int32) * a1) + a2) 8 = true) <|
      (D_X9_add s ((s.1 68 (((4 : Int32) * a1) + a2).toNatClampNeg).toInt64)).bind fun p87 =>
      rec67 (a2 + 1) p87
    )
def D_X9_digest_L67 (rec60 : Int32 → zS → Option (Int64 × zS)) (a1 : Int32) (n : Nat) (a2 : Int32) (s : zS) : Option (Int64 × zS) := zfx (fun (rec : Int32 × zS → Option (Int64 × zS)) q => D_X9_digest_B67 rec60 a1 (fun v0 v1 => rec (v0, v1)) q.1 q.2) n (a2, s)
set_option maxRecDepth 100000 in
theorem D_X9_digest_L67_s (rec60 : Int32 → zS → Option (Int64 × zS)) (a1 : Int32) (n : Nat) (a2 : Int32) (s : zS) : D_X9_digest_L67 rec60 a1 (n + 1) a2 s = D_X9_digest_B67 rec60 a1 (D_X9_digest_L67 rec60 a1 n) a2 s := rfl
set_option maxRecDepth 100000 in
theorem ok_X9_digest_L67 {l : Launch} {D : va_G} {ad : Nat → Nat} {cA : Nat → ClassId} (hj : zInj ad) (r : (Int64 × zS)) (a1 : Int32) (rec60 : Int32 → zS → Option (Int64 × zS)) (hr60 : ∀ (b1 : Int32) (s : zS), rec60 b1 s = some r → zOk l D ad cA (zJm jX9_digest) (zEnd D ad cA (some (.long r.1)) r.2) 60 [some (.ref 66), some (.int b1), none] [] s) : ∀ (n : Nat) (a2 : Int32) (s : zS), D_X9_digest_L67 rec60 a1 n a2 s = some r → zOk l D ad cA (zJm jX9_digest) (zEnd D ad cA (some (.long r.1)) r.2) 67 [some (.ref 66), some (.int a1), some (.int a2)] [] s := by
  intro n
  induction n with
  | zero =>
    intro a2 s h
    have h0 : (none : Option (Int64 × zS)) = some r := h
    cases h0
  | succ n hr67 =>
    intro a2 s h
    have h : D_X9_digest_B67 rec60 a1 (D_X9_digest_L67 rec60 a1 n) a2 s = some r := h
    unfold D_X9_digest_B67 at h
    refine zk_iload_n dX9_digest_67 rfl rfl ?_
    refine zk_aload_n dX9_digest_68 rfl rfl ?_
    refine zf_X9_7 rfl dX9_digest_69 ?_
    refine zk_icmp_ge (tgt := 96) dX9_digest_72 rfl (fun g72 => ?_) (fun g72 => ?_)
    · replace h := zpos g72 h
      refine zk_iinc dX9_digest_96 rfl (zinc (m := 1) (by decide)) (by decide) (zk_eq [_, _, _] rfl ?_)
      refine zk_goto (tgt := 60) dX9_digest_99 rfl ?_
      refine zk_mask [true, true, false] ?_
      exact hr60 _ _ h
    · replace h := zneg g72 h
      refine zk_aload_n dX9_digest_75 rfl rfl ?_
      refine zk_aload_n dX9_digest_76 rfl rfl ?_
      refine zf_X9_17 rfl dX9_digest_77 ?_
      refine zk_iconst (v := 4) dX9_digest_80 (by decide) ?_
      refine zk_iload_n dX9_digest_81 rfl rfl ?_
      refine zk_imul dX9_digest_82 ?_
      refine zk_iload_n dX9_digest_83 rfl rfl ?_
      refine zk_iadd dX9_digest_84 ?_
      obtain ⟨g85, h⟩ := zguard h
      refine zk_iald (zoI_of rfl g85) dX9_digest_85 ?_
      refine zk_i2l dX9_digest_86 ?_
      obtain ⟨p87, h87, h⟩ := zbind h
      refine zc_X9_308 [] (As := [.long _]) (ok_X9_add hj _ _ h87) rfl ⟨Nat.le_of_ble_eq_true rfl, Nat.le_of_ble_eq_true rfl⟩ ⟨Nat.le_refl _, Nat.le_refl _⟩ rfl rfl (Nat.le_of_ble_eq_true rfl) dX9_digest_87 ?_
      refine zk_iinc dX9_digest_90 rfl (zinc (m := 1) (by decide)) (by decide) (zk_eq [_, _, _] rfl ?_)
      refine zk_goto (tgt := 67) dX9_digest_93 rfl ?_
      exact hr67 _ _ h
def D_X9_digest_B60  (rec60 : Int32 → zS → Option (Int64 × zS)) (a1 : Int32) (s : zS) : Option (Int64 × zS) :=
    if (2 : Int32) ≤ a1 then (
      D_X9_digest_L104 zFU (0 : Int32) s
    ) else (
      D_X9_digest_L67 rec60 a1 zFU (0 : Int32) s
    )
def D_X9_digest_L60 (n : Nat) (a1 : Int32) (s : zS) : Option (Int64 × zS) := zfx (fun (rec : Int32 × zS → Option (Int64 × zS)) q => D_X9_digest_B60 (fun v0 v1 => rec (v0, v1)) q.1 q.2) n (a1, s)
set_option maxRecDepth 100000 in
theorem D_X9_digest_L60_s (n : Nat) (a1 : Int32) (s : zS) : D_X9_digest_L60 (n + 1) a1 s = D_X9_digest_B60 (D_X9_digest_L60 n) a1 s := rfl
set_option maxRecDepth 100000 in
theorem ok_X9_digest_L60 {l : Launch} {D : va_G} {ad : Nat → Nat} {cA : Nat → ClassId} (hj : zInj ad) (r : (Int64 × zS))  : ∀ (n : Nat) (a1 : Int32) (s : zS), D_X9_digest_L60 n a1 s = some r → zOk l D ad cA (zJm jX9_digest) (zEnd D ad cA (some (.long r.1)) r.2) 60 [some (.ref 66), some (.int a1), none] [] s := by
  intro n
  induction n with
  | zero =>
    intro a1 s h
    have h0 : (none : Option (Int64 × zS)) = some r := h
    cases h0
  | succ n hr60 =>
    intro a1 s h
    have h : D_X9_digest_B60 (D_X9_digest_L60 n) a1 s = some r := h
    unfold D_X9_digest_B60 at h
    refine zk_iload_n dX9_digest_60 rfl rfl ?_
    refine zk_iconst (v := 2) dX9_digest_61 (by decide) ?_
    refine zk_icmp_ge (tgt := 102) dX9_digest_62 rfl (fun g62 => ?_) (fun g62 => ?_)
    · replace h := zpos g62 h
      refine zk_iconst (v := 0) dX9_digest_102 (by decide) ?_
      refine zk_istore_n (i := 1) dX9_digest_103 rfl (by decide) (zk_eq [_, _, _] rfl ?_)
      exact ok_X9_digest_L104 hj r  _ _ _ h
    · replace h := zneg g62 h
      refine zk_iconst (v := 0) dX9_digest_65 (by decide) ?_
      refine zk_istore_n (i := 2) dX9_digest_66 rfl (by decide) (zk_eq [_, _, _] rfl ?_)
      exact ok_X9_digest_L67 hj r _ _ hr60 _ _ _ h
def D_X9_digest_B33  (rec33 : Int32 → zS → Option (Int64 × zS)) (a1 : Int32) (s : zS) : Option (Int64 × zS) :=
    (D_X9_all s).bind fun p35 =>
    if p35 < a1 then (
      D_X9_digest_L60 zFU (0 : Int32) s
    ) else (
      zgd (zin a1 16 = true) <|
      (D_X9_add s ((s.1 67 a1.toNatClampNeg).toInt64)).bind fun p49 =>
      rec33 (a1 + 1) p49
    )
def D_X9_digest_L33 (n : Nat) (a1 : Int32) (s : zS) : Option (Int64 × zS) := zfx (fun (rec : Int32 × zS → Option (Int64 × zS)) q => D_X9_digest_B33 (fun v0 v1 => rec (v0, v1)) q.1 q.2) n (a1, s)
set_option maxRecDepth 100000 in
theorem D_X9_digest_L33_s (n : Nat) (a1 : Int32) (s : zS) : D_X9_digest_L33 (n + 1) a1 s = D_X9_digest_B33 (D_X9_digest_L33 n) a1 s := rfl
set_option maxRecDepth 100000 in
theorem ok_X9_digest_L33 {l : Launch} {D : va_G} {ad : Nat → Nat} {cA : Nat → ClassId} (hj : zInj ad) (r : (Int64 × zS))  : ∀ (n : Nat) (a1 : Int32) (s : zS), D_X9_digest_L33 n a1 s = some r → zOk l D ad cA (zJm jX9_digest) (zEnd D ad cA (some (.long r.1)) r.2) 33 [some (.ref 66), some (.int a1), none] [] s := by
  intro n
  induction n with
  | zero =>
    intro a1 s h
    have h0 : (none : Option (Int64 × zS)) = some r := h
    cases h0
  | succ n hr33 =>
    intro a1 s h
    have h : D_X9_digest_B33 (D_X9_digest_L33 n) a1 s = some r := h
    unfold D_X9_digest_B33 at h
    refine zk_iload_n dX9_digest_33 rfl rfl ?_
    refine zk_aload_n dX9_digest_34 rfl rfl ?_
    obtain ⟨p35, h35, h⟩ := zbind h
    refine zc_X9_88 [.int _] (As := []) (ok_X9_all hj _ h35) rfl ⟨Nat.le_of_ble_eq_true rfl, Nat.le_of_ble_eq_true rfl⟩ ⟨Nat.le_refl _, Nat.le_refl _⟩ rfl rfl (Nat.le_of_ble_eq_true rfl) dX9_digest_35 ?_
    refine zk_icmp_gt (tgt := 58) dX9_digest_38 rfl (fun g38 => ?_) (fun g38 => ?_)
    · replace h := zpos g38 h
      refine zk_iconst (v := 0) dX9_digest_58 (by decide) ?_
      refine zk_istore_n (i := 1) dX9_digest_59 rfl (by decide) (zk_eq [_, _, _] rfl ?_)
      exact ok_X9_digest_L60 hj r  _ _ _ h
    · replace h := zneg g38 h
      refine zk_aload_n dX9_digest_41 rfl rfl ?_
      refine zk_aload_n dX9_digest_42 rfl rfl ?_
      refine zf_X9_13 rfl dX9_digest_43 ?_
      refine zk_iload_n dX9_digest_46 rfl rfl ?_
      obtain ⟨g47, h⟩ := zguard h
      refine zk_iald (zoI_of rfl g47) dX9_digest_47 ?_
      refine zk_i2l dX9_digest_48 ?_
      obtain ⟨p49, h49, h⟩ := zbind h
      refine zc_X9_308 [] (As := [.long _]) (ok_X9_add hj _ _ h49) rfl ⟨Nat.le_of_ble_eq_true rfl, Nat.le_of_ble_eq_true rfl⟩ ⟨Nat.le_refl _, Nat.le_refl _⟩ rfl rfl (Nat.le_of_ble_eq_true rfl) dX9_digest_49 ?_
      refine zk_iinc dX9_digest_52 rfl (zinc (m := 1) (by decide)) (by decide) (zk_eq [_, _, _] rfl ?_)
      refine zk_goto (tgt := 33) dX9_digest_55 rfl ?_
      exact hr33 _ _ h
def D_X9_digest_B9  (rec9 : Int32 → zS → Option (Int64 × zS)) (a1 : Int32) (s : zS) : Option (Int64 × zS) :=
    if (7 : Int32) ≤ a1 then (
      D_X9_digest_L33 zFU (1 : Int32) s
    ) else (
      (D_X9_count s a1).bind fun p18 =>
      (D_X9_add s p18.toInt64).bind fun p22 =>
      rec9 (a1 + 1) p22
    )
def D_X9_digest_L9 (n : Nat) (a1 : Int32) (s : zS) : Option (Int64 × zS) := zfx (fun (rec : Int32 × zS → Option (Int64 × zS)) q => D_X9_digest_B9 (fun v0 v1 => rec (v0, v1)) q.1 q.2) n (a1, s)
set_option maxRecDepth 100000 in
theorem D_X9_digest_L9_s (n : Nat) (a1 : Int32) (s : zS) : D_X9_digest_L9 (n + 1) a1 s = D_X9_digest_B9 (D_X9_digest_L9 n) a1 s := rfl
set_option maxRecDepth 100000 in
theorem ok_X9_digest_L9 {l : Launch} {D : va_G} {ad : Nat → Nat} {cA : Nat → ClassId} (hj : zInj ad) (r : (Int64 × zS))  : ∀ (n : Nat) (a1 : Int32) (s : zS), D_X9_digest_L9 n a1 s = some r → zOk l D ad cA (zJm jX9_digest) (zEnd D ad cA (some (.long r.1)) r.2) 9 [some (.ref 66), some (.int a1), none] [] s := by
  intro n
  induction n with
  | zero =>
    intro a1 s h
    have h0 : (none : Option (Int64 × zS)) = some r := h
    cases h0
  | succ n hr9 =>
    intro a1 s h
    have h : D_X9_digest_B9 (D_X9_digest_L9 n) a1 s = some r := h
    unfold D_X9_digest_B9 at h
    refine zk_iload_n dX9_digest_9 rfl rfl ?_
    refine zk_bipush (v := 7) dX9_digest_10 (by decide) ?_
    refine zk_icmp_ge (tgt := 31) dX9_digest_12 rfl (fun g12 => ?_) (fun g12 => ?_)
    · replace h := zpos g12 h
      refine zk_iconst (v := 1) dX9_digest_31 (by decide) ?_
      refine zk_istore_n (i := 1) dX9_digest_32 rfl (by decide) (zk_eq [_, _, _] rfl ?_)
      exact ok_X9_digest_L33 hj r  _ _ _ h
    · replace h := zneg g12 h
      refine zk_aload_n dX9_digest_15 rfl rfl ?_
      refine zk_aload_n dX9_digest_16 rfl rfl ?_
      refine zk_iload_n dX9_digest_17 rfl rfl ?_
      obtain ⟨p18, h18, h⟩ := zbind h
      refine zc_X9_305 [.ref _] (As := [.int _]) (ok_X9_count hj _ _ h18) rfl ⟨Nat.le_of_ble_eq_true rfl, Nat.le_of_ble_eq_true rfl⟩ ⟨Nat.le_refl _, Nat.le_refl _⟩ rfl rfl (Nat.le_of_ble_eq_true rfl) dX9_digest_18 ?_
      refine zk_i2l dX9_digest_21 ?_
      obtain ⟨p22, h22, h⟩ := zbind h
      refine zc_X9_308 [] (As := [.long _]) (ok_X9_add hj _ _ h22) rfl ⟨Nat.le_of_ble_eq_true rfl, Nat.le_of_ble_eq_true rfl⟩ ⟨Nat.le_refl _, Nat.le_refl _⟩ rfl rfl (Nat.le_of_ble_eq_true rfl) dX9_digest_22 ?_
      refine zk_iinc dX9_digest_25 rfl (zinc (m := 1) (by decide)) (by decide) (zk_eq [_, _, _] rfl ?_)
      refine zk_goto (tgt := 9) dX9_digest_28 rfl ?_
      exact hr9 _ _ h
def D_X9_digest (s : zS) : Option (Int64 × zS) :=
  let s4 : zS := zwL s 66 42 (353 : Int64)
  D_X9_digest_L9 zFU (0 : Int32) s4
set_option maxRecDepth 100000 in
theorem ok_X9_digest {l : Launch} {D : va_G} {ad : Nat → Nat} {cA : Nat → ClassId} (hj : zInj ad) (s : zS)  {r : (Int64 × zS)} (h : D_X9_digest s = some r) : zMet l D ad cA jX9_digest [.ref 66] s (some (.long r.1)) r.2 := by
  refine zMet_of jX9_digest [some (.ref 66), none, none] (by decide +kernel) (Nat.le_of_ble_eq_true rfl) rfl hj ?_
  unfold D_X9_digest at h
  refine zk_aload_n dX9_digest_0 rfl rfl ?_
  refine zk_ldc2 dX9_digest_1 zw_X9_303 ?_
  refine zp_X9_300 rfl dX9_digest_4 ?_
  refine zk_iconst (v := 0) dX9_digest_7 (by decide) ?_
  refine zk_istore_n (i := 1) dX9_digest_8 rfl (by decide) (zk_eq [_, _, _] rfl ?_)
  exact ok_X9_digest_L9 hj r  _ _ _ h
def D_X9_dividend_J58 (rec15 : Int32 → Int32 → Option Int32) (s : zS) (a1 : Int32) (a3 : Int32) (k0 : Int32) (k1 : Int32) : Option Int32 :=
  rec15 (k0 + k1) (a3 + 1)
set_option maxRecDepth 100000 in
theorem ok_X9_dividend_J58 {l : Launch} {D : va_G} {ad : Nat → Nat} {cA : Nat → ClassId} (hj : zInj ad) (r : Int32) (s : zS) (a1 : Int32) (a3 : Int32) (k0 : Int32) (k1 : Int32) (rec15 : Int32 → Int32 → Option Int32) (hr15 : ∀ (b2 : Int32) (b3 : Int32), rec15 b2 b3 = some r → zOk l D ad cA (zJm jX9_dividend) (zEnd D ad cA (some (.int r)) s) 15 [some (.ref 66), some (.int a1), some (.int b2), some (.int b3)] [] s) (h : D_X9_dividend_J58 rec15 s a1 a3 k0 k1 = some r) : zOk l D ad cA (zJm jX9_dividend) (zEnd D ad cA (some (.int r)) s) 58 [some (.ref 66), some (.int a1), none, some (.int a3)] [.int k1, .int k0] s := by
  unfold D_X9_dividend_J58 at h
  refine zk_iadd dX9_dividend_58 ?_
  refine zk_istore_n (i := 2) dX9_dividend_59 rfl (by decide) (zk_eq [_, _, _, _] rfl ?_)
  refine zk_iinc dX9_dividend_60 rfl (zinc (m := 1) (by decide)) (by decide) (zk_eq [_, _, _, _] rfl ?_)
  refine zk_goto (tgt := 15) dX9_dividend_63 rfl ?_
  exact hr15 _ _ h
def D_X9_dividend_B15 (s : zS) (a1 : Int32) (rec15 : Int32 → Int32 → Option Int32) (a2 : Int32) (a3 : Int32) : Option Int32 :=
    if a1 < a3 then (
      some a2
    ) else (
      if (a3 &&& (a1 ^^^ (-1 : Int32))) = 0 then (
        (D_X9_bits (a1 &&& (a3 ^^^ (-1 : Int32)))).bind fun p34 =>
        if (p34 - p34 / (2 : Int32) * (2 : Int32)) = 0 then (
          zgd (zin a3 16 = true) <|
          D_X9_dividend_J58 rec15 s a1 a3 a2 (s.1 67 a3.toNatClampNeg)
        ) else (
          zgd (zin a3 16 = true) <|
          D_X9_dividend_J58 rec15 s a1 a3 a2 (-(s.1 67 a3.toNatClampNeg))
        )
      ) else (
        rec15 a2 (a3 + 1)
      )
    )
def D_X9_dividend_L15 (s : zS) (a1 : Int32) (n : Nat) (a2 : Int32) (a3 : Int32) : Option Int32 := zfx (fun (rec : Int32 × Int32 → Option Int32) q => D_X9_dividend_B15 s a1 (fun v0 v1 => rec (v0, v1)) q.1 q.2) n (a2, a3)
set_option maxRecDepth 100000 in
theorem D_X9_dividend_L15_s (s : zS) (a1 : Int32) (n : Nat) (a2 : Int32) (a3 : Int32) : D_X9_dividend_L15 s a1 (n + 1) a2 a3 = D_X9_dividend_B15 s a1 (D_X9_dividend_L15 s a1 n) a2 a3 := rfl
set_option maxRecDepth 100000 in
theorem ok_X9_dividend_L15 {l : Launch} {D : va_G} {ad : Nat → Nat} {cA : Nat → ClassId} (hj : zInj ad) (r : Int32) (s : zS) (a1 : Int32) : ∀ (n : Nat) (a2 : Int32) (a3 : Int32), D_X9_dividend_L15 s a1 n a2 a3 = some r → zOk l D ad cA (zJm jX9_dividend) (zEnd D ad cA (some (.int r)) s) 15 [some (.ref 66), some (.int a1), some (.int a2), some (.int a3)] [] s := by
  intro n
  induction n with
  | zero =>
    intro a2 a3 h
    have h0 : (none : Option Int32) = some r := h
    cases h0
  | succ n hr15 =>
    intro a2 a3 h
    have h : D_X9_dividend_B15 s a1 (D_X9_dividend_L15 s a1 n) a2 a3 = some r := h
    unfold D_X9_dividend_B15 at h
    refine zk_iload_n dX9_dividend_15 rfl rfl ?_
    refine zk_iload_n dX9_dividend_16 rfl rfl ?_
    refine zk_icmp_gt (tgt := 66) dX9_dividend_17 rfl (fun g17 => ?_) (fun g17 => ?_)
    · replace h := zpos g17 h
      refine zk_iload_n dX9_dividend_66 rfl rfl ?_
      have e9 := Option.some.inj h
      subst e9
      exact zk_iret rfl ⟨rfl, rfl⟩ dX9_dividend_67
    · replace h := zneg g17 h
      refine zk_iload_n dX9_dividend_20 rfl rfl ?_
      refine zk_iload_n dX9_dividend_21 rfl rfl ?_
      refine zk_iconst (v := -1) dX9_dividend_22 (by decide) ?_
      refine zk_ixor dX9_dividend_23 ?_
      refine zk_iand dX9_dividend_24 ?_
      refine zk_if_ne (tgt := 60) dX9_dividend_25 rfl (fun g25 => ?_) (fun g25 => ?_)
      · replace h := zneg g25 h
        refine zk_iinc dX9_dividend_60 rfl (zinc (m := 1) (by decide)) (by decide) (zk_eq [_, _, _, _] rfl ?_)
        refine zk_goto (tgt := 15) dX9_dividend_63 rfl ?_
        exact hr15 _ _ h
      · replace h := zpos g25 h
        refine zk_iload_n dX9_dividend_28 rfl rfl ?_
        refine zk_iload_n dX9_dividend_29 rfl rfl ?_
        refine zk_iload_n dX9_dividend_30 rfl rfl ?_
        refine zk_iconst (v := -1) dX9_dividend_31 (by decide) ?_
        refine zk_ixor dX9_dividend_32 ?_
        refine zk_iand dX9_dividend_33 ?_
        obtain ⟨p34, h34, h⟩ := zbind h
        refine zc_X9_114 [.int _] (As := [.int _]) (ok_X9_bits hj _ _ h34) rfl ⟨Nat.le_of_ble_eq_true rfl, Nat.le_of_ble_eq_true rfl⟩ ⟨Nat.le_refl _, Nat.le_refl _⟩ rfl rfl (Nat.le_of_ble_eq_true rfl) dX9_dividend_34 ?_
        refine zk_iconst (v := 2) dX9_dividend_37 (by decide) ?_
        refine zk_irem dX9_dividend_38 (by decide) ?_
        refine zk_if_ne (tgt := 51) dX9_dividend_39 rfl (fun g39 => ?_) (fun g39 => ?_)
        · replace h := zneg g39 h
          refine zk_aload_n dX9_dividend_51 rfl rfl ?_
          refine zf_X9_13 rfl dX9_dividend_52 ?_
          refine zk_iload_n dX9_dividend_55 rfl rfl ?_
          obtain ⟨g56, h⟩ := zguard h
          refine zk_iald (zoI_of rfl g56) dX9_dividend_56 ?_
          refine zk_ineg dX9_dividend_57 ?_
          refine zk_mask [true, true, false, true] ?_
          exact ok_X9_dividend_J58 hj r _ _ _ _ _ _ hr15 h
        · replace h := zpos g39 h
          refine zk_aload_n dX9_dividend_42 rfl rfl ?_
          refine zf_X9_13 rfl dX9_dividend_43 ?_
          refine zk_iload_n dX9_dividend_46 rfl rfl ?_
          obtain ⟨g47, h⟩ := zguard h
          refine zk_iald (zoI_of rfl g47) dX9_dividend_47 ?_
          refine zk_goto (tgt := 58) dX9_dividend_48 rfl ?_
          refine zk_mask [true, true, false, true] ?_
          exact ok_X9_dividend_J58 hj r _ _ _ _ _ _ hr15 h
def D_X9_dividend (s : zS) (a1 : Int32) : Option Int32 :=
  (D_X9_isSet s a1).bind fun p2 =>
  if p2 = 0 then (
    some (-100000 : Int32)
  ) else (
    D_X9_dividend_L15 s a1 zFU (0 : Int32) (1 : Int32)
  )
set_option maxRecDepth 100000 in
theorem ok_X9_dividend {l : Launch} {D : va_G} {ad : Nat → Nat} {cA : Nat → ClassId} (hj : zInj ad) (s : zS) (a1 : Int32) {r : Int32} (h : D_X9_dividend s a1 = some r) : zMet l D ad cA jX9_dividend [.ref 66, .int a1] s (some (.int r)) s := by
  refine zMet_of jX9_dividend [some (.ref 66), some (.int a1), none, none] (by decide +kernel) (Nat.le_of_ble_eq_true rfl) rfl hj ?_
  unfold D_X9_dividend at h
  refine zk_aload_n dX9_dividend_0 rfl rfl ?_
  refine zk_iload_n dX9_dividend_1 rfl rfl ?_
  obtain ⟨p2, h2, h⟩ := zbind h
  refine zc_X9_105 [] (As := [.int _]) (ok_X9_isSet hj _ _ h2) rfl ⟨Nat.le_of_ble_eq_true rfl, Nat.le_of_ble_eq_true rfl⟩ ⟨Nat.le_refl _, Nat.le_refl _⟩ rfl rfl (Nat.le_of_ble_eq_true rfl) dX9_dividend_2 ?_
  refine zk_if_ne (tgt := 11) dX9_dividend_5 rfl (fun g5 => ?_) (fun g5 => ?_)
  · replace h := zneg g5 h
    refine zk_iconst (v := 0) dX9_dividend_11 (by decide) ?_
    refine zk_istore_n (i := 2) dX9_dividend_12 rfl (by decide) (zk_eq [_, _, _, _] rfl ?_)
    refine zk_iconst (v := 1) dX9_dividend_13 (by decide) ?_
    refine zk_istore_n (i := 3) dX9_dividend_14 rfl (by decide) (zk_eq [_, _, _, _] rfl ?_)
    exact ok_X9_dividend_L15 hj r _ _ _ _ _ h
  · replace h := zpos g5 h
    refine zk_ldc dX9_dividend_8 zw_X9_113 ?_
    have e9 := Option.some.inj h
    subst e9
    exact zk_iret rfl ⟨rfl, rfl⟩ dX9_dividend_10
def D_X9_isCore_B18 (rec2 : Int32 → Option Int32) (s : zS) (a1 : Int32) (rec18 : Int64 → Int64 → Int32 → Option Int32) (a2 : Int64) (a4 : Int64) (a6 : Int32) : Option Int32 :=
    if (s.1 66 0) ≤ a6 then (
      zgd (zin a1 16 = true) <|
      if 0 ≤ (lg_cmp a2 ((s.1 67 a1.toNatClampNeg).toInt64 * a4)) then (
        rec2 (a1 + 1)
      ) else (
        some (0 : Int32)
      )
    ) else (
      (D_X9_has a1 a6).bind fun p30 =>
      if p30 = 0 then (
        rec18 a2 a4 (a6 + 1)
      ) else (
        zgd (zin (((6 : Int32) * a6) + (5 : Int32)) 30 = true) <|
        zgd (zin (((6 : Int32) * a6) + (5 : Int32)) 30 = true) <|
        zgd (zin (((6 : Int32) * a6) + (5 : Int32)) 30 = true) <|
        rec18 ((a2 * (s.2 78 (((6 : Int32) * a6) + (5 : Int32)).toNatClampNeg)) + ((s.2 77 (((6 : Int32) * a6) + (5 : Int32)).toNatClampNeg) * a4)) (a4 * (s.2 78 (((6 : Int32) * a6) + (5 : Int32)).toNatClampNeg)) (a6 + 1)
      )
    )
def D_X9_isCore_L18 (rec2 : Int32 → Option Int32) (s : zS) (a1 : Int32) (n : Nat) (a2 : Int64) (a4 : Int64) (a6 : Int32) : Option Int32 := zfx (fun (rec : Int64 × Int64 × Int32 → Option Int32) q => D_X9_isCore_B18 rec2 s a1 (fun v0 v1 v2 => rec (v0, v1, v2)) q.1 q.2.1 q.2.2) n (a2, a4, a6)
set_option maxRecDepth 100000 in
theorem D_X9_isCore_L18_s (rec2 : Int32 → Option Int32) (s : zS) (a1 : Int32) (n : Nat) (a2 : Int64) (a4 : Int64) (a6 : Int32) : D_X9_isCore_L18 rec2 s a1 (n + 1) a2 a4 a6 = D_X9_isCore_B18 rec2 s a1 (D_X9_isCore_L18 rec2 s a1 n) a2 a4 a6 := rfl
set_option maxRecDepth 100000 in
theorem ok_X9_isCore_L18 {l : Launch} {D : va_G} {ad : Nat → Nat} {cA : Nat → ClassId} (hj : zInj ad) (r : Int32) (s : zS) (a1 : Int32) (rec2 : Int32 → Option Int32) (hr2 : ∀ (b1 : Int32), rec2 b1 = some r → zOk l D ad cA (zJm jX9_isCore) (zEnd D ad cA (some (.int r)) s) 2 [some (.ref 66), some (.int b1), none, none, none, none, none] [] s) : ∀ (n : Nat) (a2 : Int64) (a4 : Int64) (a6 : Int32), D_X9_isCore_L18 rec2 s a1 n a2 a4 a6 = some r → zOk l D ad cA (zJm jX9_isCore) (zEnd D ad cA (some (.int r)) s) 18 [some (.ref 66), some (.int a1), some (.long a2), none, some (.long a4), none, some (.int a6)] [] s := by
  intro n
  induction n with
  | zero =>
    intro a2 a4 a6 h
    have h0 : (none : Option Int32) = some r := h
    cases h0
  | succ n hr18 =>
    intro a2 a4 a6 h
    have h : D_X9_isCore_B18 rec2 s a1 (D_X9_isCore_L18 rec2 s a1 n) a2 a4 a6 = some r := h
    unfold D_X9_isCore_B18 at h
    refine zk_iload dX9_isCore_18 rfl ?_
    refine zk_aload_n dX9_isCore_20 rfl rfl ?_
    refine zf_X9_7 rfl dX9_isCore_21 ?_
    refine zk_icmp_ge (tgt := 90) dX9_isCore_24 rfl (fun g24 => ?_) (fun g24 => ?_)
    · replace h := zpos g24 h
      refine zk_lload_n dX9_isCore_90 rfl rfl ?_
      refine zk_aload_n dX9_isCore_91 rfl rfl ?_
      refine zf_X9_13 rfl dX9_isCore_92 ?_
      refine zk_iload_n dX9_isCore_95 rfl rfl ?_
      obtain ⟨g96, h⟩ := zguard h
      refine zk_iald (zoI_of rfl g96) dX9_isCore_96 ?_
      refine zk_i2l dX9_isCore_97 ?_
      refine zk_lload dX9_isCore_98 rfl ?_
      refine zk_lmul dX9_isCore_100 ?_
      refine zk_lcmp dX9_isCore_101 ?_
      refine zk_if_ge (tgt := 107) dX9_isCore_102 rfl (fun g102 => ?_) (fun g102 => ?_)
      · replace h := zpos g102 h
        refine zk_iinc dX9_isCore_107 rfl (zinc (m := 1) (by decide)) (by decide) (zk_eq [_, _, _, _, _, _, _] rfl ?_)
        refine zk_goto (tgt := 2) dX9_isCore_110 rfl ?_
        refine zk_mask [true, true, false, false, false, false, false] ?_
        exact hr2 _ h
      · replace h := zneg g102 h
        refine zk_iconst (v := 0) dX9_isCore_105 (by decide) ?_
        have e9 := Option.some.inj h
        subst e9
        exact zk_zret rfl (Or.inl rfl) ⟨rfl, rfl⟩ dX9_isCore_106
    · replace h := zneg g24 h
      refine zk_iload_n dX9_isCore_27 rfl rfl ?_
      refine zk_iload dX9_isCore_28 rfl ?_
      obtain ⟨p30, h30, h⟩ := zbind h
      refine zc_X9_121 [] (As := [.int _, .int _]) (ok_X9_has hj _ _ _ h30) rfl ⟨Nat.le_of_ble_eq_true rfl, Nat.le_of_ble_eq_true rfl⟩ ⟨Nat.le_refl _, Nat.le_refl _⟩ rfl rfl (Nat.le_of_ble_eq_true rfl) dX9_isCore_30 ?_
      refine zk_if_eq (tgt := 84) dX9_isCore_33 rfl (fun g33 => ?_) (fun g33 => ?_)
      · replace h := zpos g33 h
        refine zk_iinc dX9_isCore_84 rfl (zinc (m := 1) (by decide)) (by decide) (zk_eq [_, _, _, _, _, _, _] rfl ?_)
        refine zk_goto (tgt := 18) dX9_isCore_87 rfl ?_
        exact hr18 _ _ _ h
      · replace h := zneg g33 h
        refine zk_lload_n dX9_isCore_36 rfl rfl ?_
        refine zk_aload_n dX9_isCore_37 rfl rfl ?_
        refine zf_X9_58 rfl dX9_isCore_38 ?_
        refine zk_bipush (v := 6) dX9_isCore_41 (by decide) ?_
        refine zk_iload dX9_isCore_43 rfl ?_
        refine zk_imul dX9_isCore_45 ?_
        refine zk_iconst (v := 5) dX9_isCore_46 (by decide) ?_
        refine zk_iadd dX9_isCore_47 ?_
        obtain ⟨g48, h⟩ := zguard h
        refine zk_lald (zoL_of rfl g48) dX9_isCore_48 ?_
        refine zk_lmul dX9_isCore_49 ?_
        refine zk_aload_n dX9_isCore_50 rfl rfl ?_
        refine zf_X9_54 rfl dX9_isCore_51 ?_
        refine zk_bipush (v := 6) dX9_isCore_54 (by decide) ?_
        refine zk_iload dX9_isCore_56 rfl ?_
        refine zk_imul dX9_isCore_58 ?_
        refine zk_iconst (v := 5) dX9_isCore_59 (by decide) ?_
        refine zk_iadd dX9_isCore_60 ?_
        obtain ⟨g61, h⟩ := zguard h
        refine zk_lald (zoL_of rfl g61) dX9_isCore_61 ?_
        refine zk_lload dX9_isCore_62 rfl ?_
        refine zk_lmul dX9_isCore_64 ?_
        refine zk_ladd dX9_isCore_65 ?_
        refine zk_lstore_n (i := 2) dX9_isCore_66 rfl (by decide) (zk_eq [_, _, _, _, _, _, _] rfl ?_)
        refine zk_lload dX9_isCore_67 rfl ?_
        refine zk_aload_n dX9_isCore_69 rfl rfl ?_
        refine zf_X9_58 rfl dX9_isCore_70 ?_
        refine zk_bipush (v := 6) dX9_isCore_73 (by decide) ?_
        refine zk_iload dX9_isCore_75 rfl ?_
        refine zk_imul dX9_isCore_77 ?_
        refine zk_iconst (v := 5) dX9_isCore_78 (by decide) ?_
        refine zk_iadd dX9_isCore_79 ?_
        obtain ⟨g80, h⟩ := zguard h
        refine zk_lald (zoL_of rfl g80) dX9_isCore_80 ?_
        refine zk_lmul dX9_isCore_81 ?_
        refine zk_lstore (i := 4) dX9_isCore_82 (by decide) (zk_eq [_, _, _, _, _, _, _] rfl ?_)
        refine zk_iinc dX9_isCore_84 rfl (zinc (m := 1) (by decide)) (by decide) (zk_eq [_, _, _, _, _, _, _] rfl ?_)
        refine zk_goto (tgt := 18) dX9_isCore_87 rfl ?_
        exact hr18 _ _ _ h
def D_X9_isCore_B2 (s : zS) (rec2 : Int32 → Option Int32) (a1 : Int32) : Option Int32 :=
    (D_X9_all s).bind fun p4 =>
    if p4 < a1 then (
      some (1 : Int32)
    ) else (
      D_X9_isCore_L18 rec2 s a1 zFU (0 : Int64) (1 : Int64) (0 : Int32)
    )
def D_X9_isCore_L2 (s : zS) (n : Nat) (a1 : Int32) : Option Int32 := zfx (fun (rec : Int32 → Option Int32) q => D_X9_isCore_B2 s (fun v0 => rec (v0)) q) n (a1)
set_option maxRecDepth 100000 in
theorem D_X9_isCore_L2_s (s : zS) (n : Nat) (a1 : Int32) : D_X9_isCore_L2 s (n + 1) a1 = D_X9_isCore_B2 s (D_X9_isCore_L2 s n) a1 := rfl
set_option maxRecDepth 100000 in
theorem ok_X9_isCore_L2 {l : Launch} {D : va_G} {ad : Nat → Nat} {cA : Nat → ClassId} (hj : zInj ad) (r : Int32) (s : zS) : ∀ (n : Nat) (a1 : Int32), D_X9_isCore_L2 s n a1 = some r → zOk l D ad cA (zJm jX9_isCore) (zEnd D ad cA (some (.int r)) s) 2 [some (.ref 66), some (.int a1), none, none, none, none, none] [] s := by
  intro n
  induction n with
  | zero =>
    intro a1 h
    have h0 : (none : Option Int32) = some r := h
    cases h0
  | succ n hr2 =>
    intro a1 h
    have h : D_X9_isCore_B2 s (D_X9_isCore_L2 s n) a1 = some r := h
    unfold D_X9_isCore_B2 at h
    refine zk_iload_n dX9_isCore_2 rfl rfl ?_
    refine zk_aload_n dX9_isCore_3 rfl rfl ?_
    obtain ⟨p4, h4, h⟩ := zbind h
    refine zc_X9_88 [.int _] (As := []) (ok_X9_all hj _ h4) rfl ⟨Nat.le_of_ble_eq_true rfl, Nat.le_of_ble_eq_true rfl⟩ ⟨Nat.le_refl _, Nat.le_refl _⟩ rfl rfl (Nat.le_of_ble_eq_true rfl) dX9_isCore_4 ?_
    refine zk_icmp_gt (tgt := 113) dX9_isCore_7 rfl (fun g7 => ?_) (fun g7 => ?_)
    · replace h := zpos g7 h
      refine zk_iconst (v := 1) dX9_isCore_113 (by decide) ?_
      have e9 := Option.some.inj h
      subst e9
      exact zk_zret rfl (Or.inr rfl) ⟨rfl, rfl⟩ dX9_isCore_114
    · replace h := zneg g7 h
      refine zk_lconst (v := 0) dX9_isCore_10 (by decide) ?_
      refine zk_lstore_n (i := 2) dX9_isCore_11 rfl (by decide) (zk_eq [_, _, _, _, _, _, _] rfl ?_)
      refine zk_lconst (v := 1) dX9_isCore_12 (by decide) ?_
      refine zk_lstore (i := 4) dX9_isCore_13 (by decide) (zk_eq [_, _, _, _, _, _, _] rfl ?_)
      refine zk_iconst (v := 0) dX9_isCore_15 (by decide) ?_
      refine zk_istore (i := 6) dX9_isCore_16 (by decide) (zk_eq [_, _, _, _, _, _, _] rfl ?_)
      exact ok_X9_isCore_L18 hj r _ _ _ hr2 _ _ _ _ h
def D_X9_isCore (s : zS) : Option Int32 :=
  D_X9_isCore_L2 s zFU (1 : Int32)
set_option maxRecDepth 100000 in
theorem ok_X9_isCore {l : Launch} {D : va_G} {ad : Nat → Nat} {cA : Nat → ClassId} (hj : zInj ad) (s : zS)  {r : Int32} (h : D_X9_isCore s = some r) : zMet l D ad cA jX9_isCore [.ref 66] s (some (.int r)) s := by
  refine zMet_of jX9_isCore [some (.ref 66), none, none, none, none, none, none] (by decide +kernel) (Nat.le_of_ble_eq_true rfl) rfl hj ?_
  unfold D_X9_isCore at h
  refine zk_iconst (v := 1) dX9_isCore_0 (by decide) ?_
  refine zk_istore_n (i := 1) dX9_isCore_1 rfl (by decide) (zk_eq [_, _, _, _, _, _, _] rfl ?_)
  exact ok_X9_isCore_L2 hj r _ _ _ h
