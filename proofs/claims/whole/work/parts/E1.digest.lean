/-! the call digest -/
theorem zwL_zwL {s : zS} {c k : Nat} {x y : Int64} : zwL (zwL s c k x) c k y = zwL s c k y := by
  refine Prod.ext rfl ?_
  funext a j
  rw [zwL_at, zwL_at]
  by_cases e : a = c ∧ j = k
  · rw [if_pos e, zwL_at, if_pos e]
  · rw [if_neg e, if_neg e, zwL_at, if_neg e]
/-- the sum so far -/
def sgm (s : zS) (h : Int64) : zS := zwL s 66 42 h
theorem sg_add {s : zS} {h x : Int64} : D_X9_add (sgm s h) x = some (sgm s (31 * h + x)) := by
  unfold D_X9_add sgm
  dsimp only
  rw [zwL_zwL, zwL_at, if_pos ⟨rfl, rfl⟩]
theorem sg_1 {s : zS} {h : Int64} : (sgm s h).1 = s.1 := rfl
def mxS (f : Nat → Int32) (k : Nat) (h : Int64) : Int64 := 31 * h + (f k).toInt64
section DI
variable {s : zS} {n m mc p u B S : Nat} {v W C c y Q : Nat → Int} {g G : Nat → Nat → Int} {q E : Int} {h' at' w : Nat → Nat}
theorem d7 (hw : wRel s n v) (h : Int64) : D_X7_mixInto s h = some (zit (mxS (fun S => n32 (v S))) (2 ^ n - 1) 1 h) := by
  have hp := pow_le4 hw.1.2.2.1
  have hp1 : 1 ≤ 2 ^ n := Nat.one_le_two_pow
  refine zfold (lo := 1) (hi := 2 ^ n) (step := mxS (fun S => n32 (v S))) (fin := fun t : Int64 => some t) (fun f k t => D_X7_mixInto_L5 s f t (n32 (k : Int))) (fun f k t _ hk => ?_) (fun f t => ?_) (2 ^ n - 1) zFU 1 h (by omega) (by omega) (zFU_lt (by omega))
  · try dsimp only
    rw [D_X7_mixInto_L5_s]
    unfold D_X7_mixInto_B5 D_X8_mix mxS
    rw [all7 hw, zbs, zif_f (by rw [c32_lt (by omega) (by omega)]; omega), zgd_t (czin (by omega) (by omega)), n32_xn (by omega), hw.1.2.2.2.1 k (by omega), zbs, nsuc]
  · try dsimp only
    rw [D_X7_mixInto_L5_s]
    unfold D_X7_mixInto_B5
    rw [all7 hw, zbs, zif_t (by rw [c32_lt (by omega) (by omega)]; omega)]
theorem d9_33 (hw : wRel s n v) (h : Int64) : D_X9_digest_L33 zFU 1 (sgm s h) = D_X9_digest_L60 zFU 0 (sgm s (zit (mxS (fun S => n32 (v S))) (2 ^ n - 1) 1 h)) := by
  have hp := pow_le4 hw.1.2.2.1
  have hp1 : 1 ≤ 2 ^ n := Nat.one_le_two_pow
  have ha : ∀ h, D_X9_all (sgm s h) = some (n32 ((2 ^ n - 1 : Nat) : Int)) := fun h => all9 (s := sgm s h) hw
  refine zfold (lo := 1) (hi := 2 ^ n) (step := mxS (fun S => n32 (v S))) (fin := fun t : Int64 => D_X9_digest_L60 zFU 0 (sgm s t)) (fun f k t => D_X9_digest_L33 f (n32 (k : Int)) (sgm s t)) (fun f k t _ hk => ?_) (fun f t => ?_) (2 ^ n - 1) zFU 1 h (by omega) (by omega) (zFU_lt (by omega))
  · try dsimp only
    rw [D_X9_digest_L33_s]
    unfold D_X9_digest_B33 mxS
    rw [ha, zbs, zif_f (by rw [c32_lt (by omega) (by omega)]; omega), zgd_t (czin (by omega) (by omega)), n32_xn (by omega), sg_1, hw.2.1.2.2.2.1 k (by omega), sg_add, zbs, nsuc]
  · try dsimp only
    rw [D_X9_digest_L33_s]
    unfold D_X9_digest_B33
    rw [ha, zbs, zif_t (by rw [c32_lt (by omega) (by omega)]; omega)]
def gvO (g : Nat → Nat → Int) (n sh : Nat) (h : Int64) : Int64 := zit (mxS (fun i => n32 (g sh i))) n 0 h
theorem d3 (hg : gRel s g) (hn : n ≤ 4) (h : Int64) : D_X3_mixInto s h (n32 (n : Int)) = some (zit (gvO g n) 2 0 h) := by
  refine zfold (lo := 0) (hi := 2) (step := gvO g n) (fin := fun t : Int64 => some t) (fun f k t => D_X3_mixInto_L6 s (n32 (n : Int)) f t (n32 (k : Int))) (fun f sh t _ hs => ?_) (fun f t => ?_) 2 zFU 0 h (by omega) (by omega) (zFU_lt (by omega))
  · try dsimp only
    rw [D_X3_mixInto_L6_s]
    unfold D_X3_mixInto_B6
    rw [l32_2, zif_f (by rw [n32_le (by omega) (by omega) (by omega) (by omega)]; omega)]
    refine zfold (lo := 0) (hi := n) (step := mxS (fun i => n32 (g sh i))) (fin := fun t : Int64 => D_X3_mixInto_L6 s (n32 (n : Int)) f t (n32 ((sh + 1 : Nat) : Int))) (fun f2 k t => D_X3_mixInto_L15 (D_X3_mixInto_L6 s (n32 (n : Int)) f) s (n32 (n : Int)) (n32 (sh : Int)) f2 t (n32 (k : Int))) (fun f2 k t _ hk => ?_) (fun f2 t => ?_) n zFU 0 t (by omega) (by omega) (zFU_lt (by omega))
    · try dsimp only
      rw [D_X3_mixInto_L15_s]
      unfold D_X3_mixInto_B15 D_X8_mix mxS
      rw [zif_f (by rw [c32_le (by omega) (by omega)]; omega), zgd_t (czin (by omega) (by omega)), zT5 sh hs, zgd_t (zoI6 sh hs k (by omega)), n32_xn (by omega), (hg sh k hs (by omega)).1, zbs, nsuc]
    · try dsimp only
      rw [D_X3_mixInto_L15_s]
      unfold D_X3_mixInto_B15
      rw [zif_t (Int32.le_refl _), nsuc]
  · try dsimp only
    rw [D_X3_mixInto_L6_s]
    unfold D_X3_mixInto_B6
    rw [zif_t (by decide)]
theorem d9_60 (hw : wRel s n v) (hg : gRel s g) (h : Int64) : D_X9_digest_L60 zFU 0 (sgm s h) = D_X9_digest_L104 zFU 0 (sgm s (zit (gvO g n) 2 0 h)) := by
  have hn := hw.1.2.2.1
  refine zfold (lo := 0) (hi := 2) (step := gvO g n) (fin := fun t : Int64 => D_X9_digest_L104 zFU 0 (sgm s t)) (fun f k t => D_X9_digest_L60 f (n32 (k : Int)) (sgm s t)) (fun f sh t _ hs => ?_) (fun f t => ?_) 2 zFU 0 h (by omega) (by omega) (zFU_lt (by omega))
  · try dsimp only
    rw [D_X9_digest_L60_s]
    unfold D_X9_digest_B60
    rw [l32_2, zif_f (by rw [n32_le (by omega) (by omega) (by omega) (by omega)]; omega)]
    refine zfold (lo := 0) (hi := n) (step := mxS (fun i => n32 (g sh i))) (fin := fun t : Int64 => D_X9_digest_L60 f (n32 ((sh + 1 : Nat) : Int)) (sgm s t)) (fun f2 k t => D_X9_digest_L67 (D_X9_digest_L60 f) (n32 (sh : Int)) f2 (n32 (k : Int)) (sgm s t)) (fun f2 k t _ hk => ?_) (fun f2 t => ?_) n zFU 0 t (by omega) (by omega) (zFU_lt (by omega))
    · have hix : (4 : Int32) * n32 (sh : Int) + n32 (k : Int) = n32 ((4 * sh + k : Nat) : Int) := by rw [l32_4, n32_mul, n32_add]; congr 1
      try dsimp only
      rw [D_X9_digest_L67_s]
      unfold D_X9_digest_B67 mxS
      rw [sg_1, hw.2.1.1, zif_f (by rw [c32_le (by omega) (by omega)]; omega), hix, zgd_t (czin (by omega) (by omega)), n32_xn (by omega), (hg sh k hs (by omega)).2.1, sg_add, zbs, nsuc]
    · try dsimp only
      rw [D_X9_digest_L67_s]
      unfold D_X9_digest_B67
      rw [sg_1, hw.2.1.1, zif_t (Int32.le_refl _), nsuc]
  · try dsimp only
    rw [D_X9_digest_L60_s]
    unfold D_X9_digest_B60
    rw [zif_t (by decide)]
theorem d5 (hv : vRel s m W q) (h : Int64) : D_X5_mixInto s h = some (31 * zit (mxS (fun i => n32 (W i))) m 0 h + (n32 q).toInt64) := by
  have hm := hv.1.2.2
  refine zfold (lo := 0) (hi := m) (step := mxS (fun i => n32 (W i))) (fin := fun t : Int64 => some (31 * t + (n32 q).toInt64)) (fun f k t => D_X5_mixInto_L5 s f t (n32 (k : Int))) (fun f k t _ hk => ?_) (fun f t => ?_) m zFU 0 h (by omega) (by omega) (zFU_lt (by omega))
  · try dsimp only
    rw [D_X5_mixInto_L5_s]
    unfold D_X5_mixInto_B5 D_X8_mix mxS
    rw [hv.1.1, zif_f (by rw [c32_le (by omega) (by omega)]; omega), zgd_t (czin (by omega) (by omega)), n32_xn (by omega), (hv.2.1 k hk).1, zbs, nsuc]
  · try dsimp only
    rw [D_X5_mixInto_L5_s]
    unfold D_X5_mixInto_B5 D_X8_mix
    rw [hv.1.1, zif_t (Int32.le_refl _), hv.2.2.1.1, zbs]
theorem d9_104 (hv : vRel s m W q) (h : Int64) : D_X9_digest_L104 zFU 0 (sgm s h) = D_X9_digest_L140 zFU 0 (sgm s (31 * zit (mxS (fun i => n32 (W i))) m 0 h + (n32 q).toInt64)) := by
  have hm := hv.1.2.2
  refine zfold (lo := 0) (hi := m) (step := mxS (fun i => n32 (W i))) (fin := fun t : Int64 => D_X9_digest_L140 zFU 0 (sgm s (31 * t + (n32 q).toInt64))) (fun f k t => D_X9_digest_L104 f (n32 (k : Int)) (sgm s t)) (fun f k t _ hk => ?_) (fun f t => ?_) m zFU 0 h (by omega) (by omega) (zFU_lt (by omega))
  · try dsimp only
    rw [D_X9_digest_L104_s]
    unfold D_X9_digest_B104 mxS
    rw [sg_1, hv.1.2.1, zif_f (by rw [c32_le (by omega) (by omega)]; omega), zgd_t (czin (by omega) (by omega)), n32_xn (by omega), (hv.2.1 k hk).2.1, sg_add, zbs, nsuc]
  · try dsimp only
    rw [D_X9_digest_L104_s]
    unfold D_X9_digest_B104
    rw [sg_1, hv.1.2.1, zif_t (Int32.le_refl _), hv.2.2.1.2.1, sg_add, zbs]
theorem d1 (hc : cRel s mc C E) (h : Int64) : D_X1_mixInto s h = some (31 * zit (mxS (fun i => n32 (C i))) mc 0 h + (n32 E).toInt64) := by
  have hm := hc.1.2.2
  refine zfold (lo := 0) (hi := mc) (step := mxS (fun i => n32 (C i))) (fin := fun t : Int64 => some (31 * t + (n32 E).toInt64)) (fun f k t => D_X1_mixInto_L5 s f t (n32 (k : Int))) (fun f k t _ hk => ?_) (fun f t => ?_) mc zFU 0 h (by omega) (by omega) (zFU_lt (by omega))
  · try dsimp only
    rw [D_X1_mixInto_L5_s]
    unfold D_X1_mixInto_B5 D_X8_mix mxS
    rw [hc.1.1, zif_f (by rw [c32_le (by omega) (by omega)]; omega), zgd_t (czin (by omega) (by omega)), n32_xn (by omega), (hc.2.1 k hk).1, zbs, nsuc]
  · try dsimp only
    rw [D_X1_mixInto_L5_s]
    unfold D_X1_mixInto_B5 D_X8_mix
    rw [hc.1.1, zif_t (Int32.le_refl _), hc.2.2.1, zbs]
theorem d9_140 (hc : cRel s mc C E) (h : Int64) : D_X9_digest_L140 zFU 0 (sgm s h) = D_X9_digest_L176 zFU 1 (sgm s (31 * zit (mxS (fun i => n32 (C i))) mc 0 h + (n32 E).toInt64)) := by
  have hm := hc.1.2.2
  refine zfold (lo := 0) (hi := mc) (step := mxS (fun i => n32 (C i))) (fin := fun t : Int64 => D_X9_digest_L176 zFU 1 (sgm s (31 * t + (n32 E).toInt64))) (fun f k t => D_X9_digest_L140 f (n32 (k : Int)) (sgm s t)) (fun f k t _ hk => ?_) (fun f t => ?_) mc zFU 0 h (by omega) (by omega) (zFU_lt (by omega))
  · try dsimp only
    rw [D_X9_digest_L140_s]
    unfold D_X9_digest_B140 mxS
    rw [sg_1, hc.1.2.1, zif_f (by rw [c32_le (by omega) (by omega)]; omega), zgd_t (czin (by omega) (by omega)), n32_xn (by omega), (hc.2.1 k hk).2.1, sg_add, zbs, nsuc]
  · try dsimp only
    rw [D_X9_digest_L140_s]
    unfold D_X9_digest_B140
    rw [sg_1, hc.1.2.1, zif_t (Int32.le_refl _), hc.2.2.2.1, sg_add, zbs]
def twS (a b : Nat → Int32) (k : Nat) (h : Int64) : Int64 := 31 * (31 * h + (a k).toInt64) + (b k).toInt64
theorem d6 (ht : tRel s p h' c w u at' y) (h : Int64) : D_X6_mixInto s h = some (zit (twS (fun i => n32 (at' i : Int)) (fun i => n32 (y i))) u 0 (zit (twS (fun k => n32 (h' k : Int)) (fun k => n32 (c k))) (p - 1) 1 h)) := by
  have hp := ht.1.2.2
  have hu := ht.2.2.2.2.1.2.2
  refine zfold (lo := 1) (hi := p) (step := twS (fun k => n32 (h' k : Int)) (fun k => n32 (c k))) (fin := fun t : Int64 => some (zit (twS (fun i => n32 (at' i : Int)) (fun i => n32 (y i))) u 0 t)) (fun f k t => D_X6_mixInto_L5 s f t (n32 (k : Int))) (fun f k t h1 hk => ?_) (fun f t => ?_) (p - 1) zFU 1 h (by omega) (by omega) (zFU_lt (by omega))
  · obtain ⟨q1, q2, q3, q4, q5, -⟩ := ht.2.1 k h1 hk
    try dsimp only
    rw [D_X6_mixInto_L5_s]
    unfold D_X6_mixInto_B5 D_X8_mix twS
    rw [ht.1.1, zif_f (by rw [c32_le (by omega) (by omega)]; omega), zgd_t (czin (by omega) (by omega)), n32_xn (by omega), q1, zbs, zgd_t (czin (by omega) (by omega)), q4, zbs, nsuc]
  · try dsimp only
    rw [D_X6_mixInto_L5_s]
    unfold D_X6_mixInto_B5
    rw [ht.1.1, zif_t (Int32.le_refl _)]
    refine zfold (lo := 0) (hi := u) (step := twS (fun i => n32 (at' i : Int)) (fun i => n32 (y i))) (fin := fun t : Int64 => some t) (fun f k t => D_X6_mixInto_L47 s f t (n32 (k : Int))) (fun f k t _ hk => ?_) (fun f t => ?_) u zFU 0 t (by omega) (by omega) (zFU_lt (by omega))
    · try dsimp only
      rw [D_X6_mixInto_L47_s]
      unfold D_X6_mixInto_B47 D_X8_mix twS
      rw [ht.2.2.2.2.1.1, zif_f (by rw [c32_le (by omega) (by omega)]; omega), zgd_t (czin (by omega) (by omega)), n32_xn (by omega), (ht.2.2.2.2.2.1 k hk).1, zbs, zgd_t (czin (by omega) (by omega)), (ht.2.2.2.2.2.2.1 k (by omega)).1, zbs, nsuc]
    · try dsimp only
      rw [D_X6_mixInto_L47_s]
      unfold D_X6_mixInto_B47
      rw [ht.2.2.2.2.1.1, zif_t (Int32.le_refl _)]
theorem d9_176 (ht : tRel s p h' c w u at' y) (h : Int64) : D_X9_digest_L176 zFU 1 (sgm s h) = D_X9_digest_L252 zFU 0 (sgm s (zit (twS (fun i => n32 (at' i : Int)) (fun i => n32 (y i))) u 0 (zit (twS (fun k => n32 (h' k : Int)) (fun k => n32 (c k))) (p - 1) 1 h))) := by
  have hp := ht.1.2.2
  have hu := ht.2.2.2.2.1.2.2
  refine zfold (lo := 1) (hi := p) (step := twS (fun k => n32 (h' k : Int)) (fun k => n32 (c k))) (fin := fun t : Int64 => D_X9_digest_L252 zFU 0 (sgm s (zit (twS (fun i => n32 (at' i : Int)) (fun i => n32 (y i))) u 0 t))) (fun f k t => D_X9_digest_L176 f (n32 (k : Int)) (sgm s t)) (fun f k t h1 hk => ?_) (fun f t => ?_) (p - 1) zFU 1 h (by omega) (by omega) (zFU_lt (by omega))
  · obtain ⟨q1, q2, q3, q4, q5, -⟩ := ht.2.1 k h1 hk
    try dsimp only
    rw [D_X9_digest_L176_s]
    unfold D_X9_digest_B176 twS
    rw [sg_1, ht.1.2.1, zif_f (by rw [c32_le (by omega) (by omega)]; omega), zgd_t (czin (by omega) (by omega)), n32_xn (by omega), q2, sg_add, zbs, zgd_t (czin (by omega) (by omega)), sg_1, q5, sg_add, zbs, nsuc]
  · try dsimp only
    rw [D_X9_digest_L176_s]
    unfold D_X9_digest_B176
    rw [sg_1, ht.1.2.1, zif_t (Int32.le_refl _)]
    refine zfold (lo := 0) (hi := u) (step := twS (fun i => n32 (at' i : Int)) (fun i => n32 (y i))) (fin := fun t : Int64 => D_X9_digest_L252 zFU 0 (sgm s t)) (fun f k t => D_X9_digest_L214 f (n32 (k : Int)) (sgm s t)) (fun f k t _ hk => ?_) (fun f t => ?_) u zFU 0 t (by omega) (by omega) (zFU_lt (by omega))
    · try dsimp only
      rw [D_X9_digest_L214_s]
      unfold D_X9_digest_B214 twS
      rw [sg_1, ht.2.2.2.2.1.2.1, zif_f (by rw [c32_le (by omega) (by omega)]; omega), zgd_t (czin (by omega) (by omega)), n32_xn (by omega), (ht.2.2.2.2.2.1 k hk).2.1, sg_add, zbs, zgd_t (czin (by omega) (by omega)), sg_1, (ht.2.2.2.2.2.1 k hk).2.2.2, sg_add, zbs, nsuc]
    · try dsimp only
      rw [D_X9_digest_L214_s]
      unfold D_X9_digest_B214
      rw [sg_1, ht.2.2.2.2.1.2.1, zif_t (Int32.le_refl _)]
theorem zT54 : ∀ b : Nat, b < 4 → zT 54 (n32 (b : Int)) = 55 + b := by decide
theorem zoI55 : ∀ b : Nat, b < 4 → ∀ i : Nat, i < 4 → zoI (55 + b) (n32 (i : Int)) = true := by decide
theorem d4 (hm : mRel s B S G Q) (h : Int64) : D_X4_mixInto s h = some (zit (mxS (fun i => n32 (Q i))) S 0 (zit (gvO G S) B 0 h)) := by
  have hB := hm.1.2.2
  have hS := hm.2.1.2.2
  refine zfold (lo := 0) (hi := B) (step := gvO G S) (fin := fun t : Int64 => some (zit (mxS (fun i => n32 (Q i))) S 0 t)) (fun f k t => D_X4_mixInto_L5 s f t (n32 (k : Int))) (fun f b t _ hb => ?_) (fun f t => ?_) B zFU 0 h (by omega) (by omega) (zFU_lt (by omega))
  · try dsimp only
    rw [D_X4_mixInto_L5_s]
    unfold D_X4_mixInto_B5
    rw [hm.1.1, zif_f (by rw [c32_le (by omega) (by omega)]; omega)]
    refine zfold (lo := 0) (hi := S) (step := mxS (fun i => n32 (G b i))) (fin := fun t : Int64 => D_X4_mixInto_L5 s f t (n32 ((b + 1 : Nat) : Int))) (fun f2 k t => D_X4_mixInto_L17 (D_X4_mixInto_L5 s f) s (n32 (b : Int)) f2 t (n32 (k : Int))) (fun f2 k t _ hk => ?_) (fun f2 t => ?_) S zFU 0 t (by omega) (by omega) (zFU_lt (by omega))
    · try dsimp only
      rw [D_X4_mixInto_L17_s]
      unfold D_X4_mixInto_B17 D_X8_mix mxS
      rw [hm.2.1.1, zif_f (by rw [c32_le (by omega) (by omega)]; omega), zgd_t (czin (by omega) (by omega)), zT54 b (by omega), zgd_t (zoI55 b (by omega) k (by omega)), n32_xn (by omega), (hm.2.2.1 b k (by omega) (by omega)).1, zbs, nsuc]
    · try dsimp only
      rw [D_X4_mixInto_L17_s]
      unfold D_X4_mixInto_B17
      rw [hm.2.1.1, zif_t (Int32.le_refl _), nsuc]
  · try dsimp only
    rw [D_X4_mixInto_L5_s]
    unfold D_X4_mixInto_B5
    rw [hm.1.1, zif_t (Int32.le_refl _)]
    refine zfold (lo := 0) (hi := S) (step := mxS (fun i => n32 (Q i))) (fin := fun t : Int64 => some t) (fun f k t => D_X4_mixInto_L57 s f t (n32 (k : Int))) (fun f k t _ hk => ?_) (fun f t => ?_) S zFU 0 t (by omega) (by omega) (zFU_lt (by omega))
    · try dsimp only
      rw [D_X4_mixInto_L57_s]
      unfold D_X4_mixInto_B57 D_X8_mix mxS
      rw [hm.2.1.1, zif_f (by rw [c32_le (by omega) (by omega)]; omega), zgd_t (czin (by omega) (by omega)), n32_xn (by omega), (hm.2.2.2 k (by omega)).1, zbs, nsuc]
    · try dsimp only
      rw [D_X4_mixInto_L57_s]
      unfold D_X4_mixInto_B57
      rw [hm.2.1.1, zif_t (Int32.le_refl _)]
theorem d9_252 (hm : mRel s B S G Q) (h : Int64) : D_X9_digest_L252 zFU 0 (sgm s h) = some (31 * (31 * zit (mxS (fun i => n32 (Q i))) S 0 (zit (gvO G S) B 0 h) + s.2 66 3) + s.2 66 4, sgm s (31 * (31 * zit (mxS (fun i => n32 (Q i))) S 0 (zit (gvO G S) B 0 h) + s.2 66 3) + s.2 66 4)) := by
  have hB := hm.1.2.2
  have hS := hm.2.1.2.2
  refine zfold (lo := 0) (hi := B) (step := gvO G S) (fin := fun t : Int64 => some (31 * (31 * zit (mxS (fun i => n32 (Q i))) S 0 t + s.2 66 3) + s.2 66 4, sgm s (31 * (31 * zit (mxS (fun i => n32 (Q i))) S 0 t + s.2 66 3) + s.2 66 4))) (fun f k t => D_X9_digest_L252 f (n32 (k : Int)) (sgm s t)) (fun f b t _ hb => ?_) (fun f t => ?_) B zFU 0 h (by omega) (by omega) (zFU_lt (by omega))
  · try dsimp only
    rw [D_X9_digest_L252_s]
    unfold D_X9_digest_B252
    rw [sg_1, hm.1.2.1, zif_f (by rw [c32_le (by omega) (by omega)]; omega)]
    refine zfold (lo := 0) (hi := S) (step := mxS (fun i => n32 (G b i))) (fin := fun t : Int64 => D_X9_digest_L252 f (n32 ((b + 1 : Nat) : Int)) (sgm s t)) (fun f2 k t => D_X9_digest_L262 (D_X9_digest_L252 f) (n32 (b : Int)) f2 (n32 (k : Int)) (sgm s t)) (fun f2 k t _ hk => ?_) (fun f2 t => ?_) S zFU 0 t (by omega) (by omega) (zFU_lt (by omega))
    · have hix : (4 : Int32) * n32 (b : Int) + n32 (k : Int) = n32 ((4 * b + k : Nat) : Int) := by rw [l32_4, n32_mul, n32_add]; congr 1
      try dsimp only
      rw [D_X9_digest_L262_s]
      unfold D_X9_digest_B262 mxS
      rw [sg_1, hm.2.1.2.1, zif_f (by rw [c32_le (by omega) (by omega)]; omega), hix, zgd_t (czin (by omega) (by omega)), n32_xn (by omega), (hm.2.2.1 b k (by omega) (by omega)).2.1, sg_add, zbs, nsuc]
    · try dsimp only
      rw [D_X9_digest_L262_s]
      unfold D_X9_digest_B262
      rw [sg_1, hm.2.1.2.1, zif_t (Int32.le_refl _), nsuc]
  · try dsimp only
    rw [D_X9_digest_L252_s]
    unfold D_X9_digest_B252
    rw [sg_1, hm.1.2.1, zif_t (Int32.le_refl _)]
    refine zfold (lo := 0) (hi := S) (step := mxS (fun i => n32 (Q i))) (fin := fun t : Int64 => some (31 * (31 * t + s.2 66 3) + s.2 66 4, sgm s (31 * (31 * t + s.2 66 3) + s.2 66 4))) (fun f k t => D_X9_digest_L299 f (n32 (k : Int)) (sgm s t)) (fun f k t _ hk => ?_) (fun f t => ?_) S zFU 0 t (by omega) (by omega) (zFU_lt (by omega))
    · try dsimp only
      rw [D_X9_digest_L299_s]
      unfold D_X9_digest_B299 mxS
      rw [sg_1, hm.2.1.2.1, zif_f (by rw [c32_le (by omega) (by omega)]; omega), zgd_t (czin (by omega) (by omega)), n32_xn (by omega), (hm.2.2.2 k (by omega)).2.1, sg_add, zbs, nsuc]
    · have e3 : ∀ h, (sgm s h).2 66 3 = s.2 66 3 := fun h => by unfold sgm; rw [zwL_at, if_neg (by omega)]
      have e4 : ∀ h, (sgm s h).2 66 4 = s.2 66 4 := fun h => by unfold sgm; rw [zwL_at, if_neg (by omega)]
      have e42 : ∀ h, (sgm s h).2 66 42 = h := fun h => by unfold sgm; rw [zwL_at, if_pos ⟨rfl, rfl⟩]
      try dsimp only
      rw [D_X9_digest_L299_s]
      unfold D_X9_digest_B299
      rw [sg_1, hm.2.1.2.1, zif_t (Int32.le_refl _), e3, sg_add, zbs, e4, sg_add, zbs, e42]
theorem call_digest (h : Rel s) : ∃ (r : Int64) (s2 : zS), D_X8_digest s = some r ∧ D_X9_digest s = some (r, s2) ∧ Rel s2 := by
  obtain ⟨⟨n, v, hw, hk⟩, ⟨g, hg⟩, ⟨m, W, q, hv⟩, ⟨mc, C, E, hc⟩, ⟨p, h', c, w, u, at', y, ht⟩, ⟨B, S, G, Q, hm⟩, hf⟩ := id h
  have hcn : ∀ k : Nat, ∃ r : Int32, D_X8_count s (n32 (k : Int)) = some r ∧ D_X9_count s (n32 (k : Int)) = some r := fun k => call_count h _
  obtain ⟨cn, hcn⟩ := Classical.axiomOfChoice hcn
  have c8 := zfold (lo := 0) (hi := 7) (step := mxS cn) (fin := fun t : Int64 => D_X8_digest_B6 s (fun _ _ => none) t (n32 7)) (fun f k t => D_X8_digest_L6 s f t (n32 (k : Int))) (fun f k t _ hk => by
    try dsimp only
    rw [D_X8_digest_L6_s]
    unfold D_X8_digest_B6 mxS
    rw [l32_6, zif_f (by rw [n32_lt (by omega) (by omega) (by omega) (by omega)]; omega), (hcn k).1, zbs]
    unfold D_X8_mix
    rw [zbs, nsuc]) (fun f t => by
    try dsimp only
    rw [D_X8_digest_L6_s]
    unfold D_X8_digest_B6
    rw [zif_t (by decide), zif_t (by decide)]) 7 zFU 0 353 (by omega) (by omega) (zFU_lt (by omega))
  have c9 := zfold (lo := 0) (hi := 7) (step := mxS cn) (fin := fun t : Int64 => D_X9_digest_L33 zFU 1 (sgm s t)) (fun f k t => D_X9_digest_L9 f (n32 (k : Int)) (sgm s t)) (fun f k t _ hk => by
    have hs : D_X9_count (sgm s t) (n32 (k : Int)) = D_X9_count s (n32 (k : Int)) := rfl
    try dsimp only
    rw [D_X9_digest_L9_s]
    unfold D_X9_digest_B9 mxS
    rw [l32_7, zif_f (by rw [n32_le (by omega) (by omega) (by omega) (by omega)]; omega), hs, (hcn k).2, zbs, sg_add, zbs, nsuc]) (fun f t => by
    try dsimp only
    rw [D_X9_digest_L9_s]
    unfold D_X9_digest_B9
    rw [zif_t (by decide)]) 7 zFU 0 353 (by omega) (by omega) (zFU_lt (by omega))
  have c8' : D_X8_digest s = _ := c8
  have c9' : D_X9_digest s = _ := c9
  rw [c8', c9', d9_33 hw, d9_60 hw hg, d9_104 hv, d9_140 hc, d9_176 ht, d9_252 hm]
  unfold D_X8_digest_B6
  rw [zif_t (by decide), d7 hw, zbs, hw.1.1, d3 hg hw.1.2.2.1, zbs, d5 hv, zbs, d1 hc, zbs, d6 ht, zbs, d4 hm, zbs]
  unfold D_X8_mix
  rw [zbs, zbs, hf.1, hf.2]
  have ff : fr (fun _ => False) s (sgm s (31 * (31 * zit (mxS (fun i => n32 (Q i))) S 0 (zit (gvO G S) B 0 (zit (twS (fun i => n32 (at' i : Int)) (fun i => n32 (y i))) u 0 (zit (twS (fun k => n32 (h' k : Int)) (fun k => n32 (c k))) (p - 1) 1 (31 * zit (mxS (fun i => n32 (C i))) mc 0 (31 * zit (mxS (fun i => n32 (W i))) m 0 (zit (gvO g n) 2 0 (zit (mxS (fun S => n32 (v S))) (2 ^ n - 1) 1 (zit (mxS cn) 7 0 353))) + (n32 q).toInt64) + (n32 E).toInt64)))) + s.2 66 3) + s.2 66 4)) := fr_wL s 66 42 _ (Or.inl rfl)
  exact ⟨_, _, rfl, rfl, ⟨n, v, wRel_f hw ff (fun q => q), calmK_fr hk hw.1.2.2.1 ff (fun q => q)⟩, ⟨g, gRel_f hg ff (fun q => q)⟩, ⟨m, W, q, vRel_f hv ff (fun q => q)⟩, ⟨mc, C, E, cRel_f hc ff (fun q => q)⟩, ⟨p, h', c, w, u, at', y, tRel_f ht ff (fun q => q)⟩, ⟨B, S, G, Q, mRel_f hm ff (fun q => q)⟩, frEq_fr hf ff (fun q => q)⟩
end DI
