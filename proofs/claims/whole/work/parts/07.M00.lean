def D_X9_add (s : zS) (a1 : Int64) : Option zS :=
  let s11 : zS := zwL s 66 42 (((31 : Int64) * (s.2 66 42)) + a1)
  some s11
set_option maxRecDepth 100000 in
theorem ok_X9_add {l : Launch} {D : va_G} {ad : Nat → Nat} {cA : Nat → ClassId} (hj : zInj ad) (s : zS) (a1 : Int64) {r : zS} (h : D_X9_add s a1 = some r) : zMet l D ad cA jX9_add [.ref 66, .long a1] s none r := by
  refine zMet_of jX9_add [some (.ref 66), some (.long a1), none] (by decide +kernel) (Nat.le_of_ble_eq_true rfl) rfl hj ?_
  unfold D_X9_add at h
  refine zk_aload_n dX9_add_0 rfl rfl ?_
  refine zk_ldc2 dX9_add_1 zw_X9_298 ?_
  refine zk_aload_n dX9_add_4 rfl rfl ?_
  refine zf_X9_300 rfl dX9_add_5 ?_
  refine zk_lmul dX9_add_8 ?_
  refine zk_lload_n dX9_add_9 rfl rfl ?_
  refine zk_ladd dX9_add_10 ?_
  refine zp_X9_300 rfl dX9_add_11 ?_
  have e9 := Option.some.inj h
  subst e9
  exact zk_vret rfl ⟨rfl, rfl⟩ dX9_add_14
def D_X9_all (s : zS) : Option Int32 :=
  some (((1 : Int32) <<< ((s.1 66 0) &&& 31)) - (1 : Int32))
set_option maxRecDepth 100000 in
theorem ok_X9_all {l : Launch} {D : va_G} {ad : Nat → Nat} {cA : Nat → ClassId} (hj : zInj ad) (s : zS)  {r : Int32} (h : D_X9_all s = some r) : zMet l D ad cA jX9_all [.ref 66] s (some (.int r)) s := by
  refine zMet_of jX9_all [some (.ref 66)] (by decide +kernel) (Nat.le_of_ble_eq_true rfl) rfl hj ?_
  unfold D_X9_all at h
  refine zk_iconst (v := 1) dX9_all_0 (by decide) ?_
  refine zk_aload_n dX9_all_1 rfl rfl ?_
  refine zf_X9_7 rfl dX9_all_2 ?_
  refine zk_ishl dX9_all_5 ?_
  refine zk_iconst (v := 1) dX9_all_6 (by decide) ?_
  refine zk_isub dX9_all_7 ?_
  have e9 := Option.some.inj h
  subst e9
  exact zk_iret rfl ⟨rfl, rfl⟩ dX9_all_8
def D_X9_allClaims_B4 (s : zS) (rec4 : Int32 → Int32 → Option Int32) (a1 : Int32) (a2 : Int32) : Option Int32 :=
    if (s.1 66 8) ≤ a2 then (
      some a1
    ) else (
      zgd (zin a2 6 = true) <|
      rec4 (a1 + (s.1 70 a2.toNatClampNeg)) (a2 + 1)
    )
def D_X9_allClaims_L4 (s : zS) (n : Nat) (a1 : Int32) (a2 : Int32) : Option Int32 := zfx (fun (rec : Int32 × Int32 → Option Int32) q => D_X9_allClaims_B4 s (fun v0 v1 => rec (v0, v1)) q.1 q.2) n (a1, a2)
set_option maxRecDepth 100000 in
theorem D_X9_allClaims_L4_s (s : zS) (n : Nat) (a1 : Int32) (a2 : Int32) : D_X9_allClaims_L4 s (n + 1) a1 a2 = D_X9_allClaims_B4 s (D_X9_allClaims_L4 s n) a1 a2 := rfl
set_option maxRecDepth 100000 in
theorem ok_X9_allClaims_L4 {l : Launch} {D : va_G} {ad : Nat → Nat} {cA : Nat → ClassId} (hj : zInj ad) (r : Int32) (s : zS) : ∀ (n : Nat) (a1 : Int32) (a2 : Int32), D_X9_allClaims_L4 s n a1 a2 = some r → zOk l D ad cA (zJm jX9_allClaims) (zEnd D ad cA (some (.int r)) s) 4 [some (.ref 66), some (.int a1), some (.int a2)] [] s := by
  intro n
  induction n with
  | zero =>
    intro a1 a2 h
    have h0 : (none : Option Int32) = some r := h
    cases h0
  | succ n hr4 =>
    intro a1 a2 h
    have h : D_X9_allClaims_B4 s (D_X9_allClaims_L4 s n) a1 a2 = some r := h
    unfold D_X9_allClaims_B4 at h
    refine zk_iload_n dX9_allClaims_4 rfl rfl ?_
    refine zk_aload_n dX9_allClaims_5 rfl rfl ?_
    refine zf_X9_244 rfl dX9_allClaims_6 ?_
    refine zk_icmp_ge (tgt := 27) dX9_allClaims_9 rfl (fun g9 => ?_) (fun g9 => ?_)
    · replace h := zpos g9 h
      refine zk_iload_n dX9_allClaims_27 rfl rfl ?_
      have e9 := Option.some.inj h
      subst e9
      exact zk_iret rfl ⟨rfl, rfl⟩ dX9_allClaims_28
    · replace h := zneg g9 h
      refine zk_iload_n dX9_allClaims_12 rfl rfl ?_
      refine zk_aload_n dX9_allClaims_13 rfl rfl ?_
      refine zf_X9_30 rfl dX9_allClaims_14 ?_
      refine zk_iload_n dX9_allClaims_17 rfl rfl ?_
      obtain ⟨g18, h⟩ := zguard h
      refine zk_iald (zoI_of rfl g18) dX9_allClaims_18 ?_
      refine zk_iadd dX9_allClaims_19 ?_
      refine zk_istore_n (i := 1) dX9_allClaims_20 rfl (by decide) (zk_eq [_, _, _] rfl ?_)
      refine zk_iinc dX9_allClaims_21 rfl (zinc (m := 1) (by decide)) (by decide) (zk_eq [_, _, _] rfl ?_)
      refine zk_goto (tgt := 4) dX9_allClaims_24 rfl ?_
      exact hr4 _ _ h
def D_X9_allClaims (s : zS) : Option Int32 :=
  D_X9_allClaims_L4 s zFU (0 : Int32) (0 : Int32)
set_option maxRecDepth 100000 in
theorem ok_X9_allClaims {l : Launch} {D : va_G} {ad : Nat → Nat} {cA : Nat → ClassId} (hj : zInj ad) (s : zS)  {r : Int32} (h : D_X9_allClaims s = some r) : zMet l D ad cA jX9_allClaims [.ref 66] s (some (.int r)) s := by
  refine zMet_of jX9_allClaims [some (.ref 66), none, none] (by decide +kernel) (Nat.le_of_ble_eq_true rfl) rfl hj ?_
  unfold D_X9_allClaims at h
  refine zk_iconst (v := 0) dX9_allClaims_0 (by decide) ?_
  refine zk_istore_n (i := 1) dX9_allClaims_1 rfl (by decide) (zk_eq [_, _, _] rfl ?_)
  refine zk_iconst (v := 0) dX9_allClaims_2 (by decide) ?_
  refine zk_istore_n (i := 2) dX9_allClaims_3 rfl (by decide) (zk_eq [_, _, _] rfl ?_)
  exact ok_X9_allClaims_L4 hj r _ _ _ _ h
def D_X9_allVoters (s : zS) : Option Int32 :=
  some (((1 : Int32) <<< ((s.1 66 5) &&& 31)) - (1 : Int32))
set_option maxRecDepth 100000 in
theorem ok_X9_allVoters {l : Launch} {D : va_G} {ad : Nat → Nat} {cA : Nat → ClassId} (hj : zInj ad) (s : zS)  {r : Int32} (h : D_X9_allVoters s = some r) : zMet l D ad cA jX9_allVoters [.ref 66] s (some (.int r)) s := by
  refine zMet_of jX9_allVoters [some (.ref 66)] (by decide +kernel) (Nat.le_of_ble_eq_true rfl) rfl hj ?_
  unfold D_X9_allVoters at h
  refine zk_iconst (v := 1) dX9_allVoters_0 (by decide) ?_
  refine zk_aload_n dX9_allVoters_1 rfl rfl ?_
  refine zf_X9_215 rfl dX9_allVoters_2 ?_
  refine zk_ishl dX9_allVoters_5 ?_
  refine zk_iconst (v := 1) dX9_allVoters_6 (by decide) ?_
  refine zk_isub dX9_allVoters_7 ?_
  have e9 := Option.some.inj h
  subst e9
  exact zk_iret rfl ⟨rfl, rfl⟩ dX9_allVoters_8
def D_X9_in_J17  : Option Int32 :=
  some (0 : Int32)
set_option maxRecDepth 100000 in
theorem ok_X9_in_J17 {l : Launch} {D : va_G} {ad : Nat → Nat} {cA : Nat → ClassId} (hj : zInj ad) (r : Int32) (s : zS) (h : D_X9_in_J17  = some r) : zOk l D ad cA (zJm jX9_in) (zEnd D ad cA (some (.int r)) s) 17 [none, none, none, none, none, none] [] s := by
  unfold D_X9_in_J17 at h
  refine zk_iconst (v := 0) dX9_in_17 (by decide) ?_
  have e9 := Option.some.inj h
  subst e9
  exact zk_zret rfl (Or.inl rfl) ⟨rfl, rfl⟩ dX9_in_18
def D_X9_in (a0 : Int64) (a2 : Int64) (a4 : Int64) : Option Int32 :=
  if (lg_cmp a0 a2) < 0 then (
    D_X9_in_J17
  ) else (
    if 0 < (lg_cmp a0 a4) then (
      D_X9_in_J17
    ) else (
      some (1 : Int32)
    )
  )
set_option maxRecDepth 100000 in
theorem ok_X9_in {l : Launch} {D : va_G} {ad : Nat → Nat} {cA : Nat → ClassId} (hj : zInj ad) (s : zS) (a0 : Int64) (a2 : Int64) (a4 : Int64) {r : Int32} (h : D_X9_in a0 a2 a4 = some r) : zMet l D ad cA jX9_in [.long a0, .long a2, .long a4] s (some (.int r)) s := by
  refine zMet_of jX9_in [some (.long a0), none, some (.long a2), none, some (.long a4), none] (by decide +kernel) (Nat.le_of_ble_eq_true rfl) rfl hj ?_
  unfold D_X9_in at h
  refine zk_lload_n dX9_in_0 rfl rfl ?_
  refine zk_lload_n dX9_in_1 rfl rfl ?_
  refine zk_lcmp dX9_in_2 ?_
  refine zk_if_lt (tgt := 17) dX9_in_3 rfl (fun g3 => ?_) (fun g3 => ?_)
  · replace h := zpos g3 h
    refine zk_mask [false, false, false, false, false, false] ?_
    exact ok_X9_in_J17 hj r _ h
  · replace h := zneg g3 h
    refine zk_lload_n dX9_in_6 rfl rfl ?_
    refine zk_lload dX9_in_7 rfl ?_
    refine zk_lcmp dX9_in_9 ?_
    refine zk_if_gt (tgt := 17) dX9_in_10 rfl (fun g10 => ?_) (fun g10 => ?_)
    · replace h := zpos g10 h
      refine zk_mask [false, false, false, false, false, false] ?_
      exact ok_X9_in_J17 hj r _ h
    · replace h := zneg g10 h
      refine zk_iconst (v := 1) dX9_in_13 (by decide) ?_
      refine zk_goto (tgt := 18) dX9_in_14 rfl ?_
      have e9 := Option.some.inj h
      subst e9
      exact zk_zret rfl (Or.inr rfl) ⟨rfl, rfl⟩ dX9_in_18
def D_X9_has (a0 : Int32) (a1 : Int32) : Option Int32 :=
  if ((a0 >>> (a1 &&& 31)) &&& (1 : Int32)) = (1 : Int32) then (
    some (1 : Int32)
  ) else (
    some (0 : Int32)
  )
set_option maxRecDepth 100000 in
theorem ok_X9_has {l : Launch} {D : va_G} {ad : Nat → Nat} {cA : Nat → ClassId} (hj : zInj ad) (s : zS) (a0 : Int32) (a1 : Int32) {r : Int32} (h : D_X9_has a0 a1 = some r) : zMet l D ad cA jX9_has [.int a0, .int a1] s (some (.int r)) s := by
  refine zMet_of jX9_has [some (.int a0), some (.int a1)] (by decide +kernel) (Nat.le_of_ble_eq_true rfl) rfl hj ?_
  unfold D_X9_has at h
  refine zk_iload_n dX9_has_0 rfl rfl ?_
  refine zk_iload_n dX9_has_1 rfl rfl ?_
  refine zk_ishr dX9_has_2 ?_
  refine zk_iconst (v := 1) dX9_has_3 (by decide) ?_
  refine zk_iand dX9_has_4 ?_
  refine zk_iconst (v := 1) dX9_has_5 (by decide) ?_
  refine zk_icmp_ne (tgt := 13) dX9_has_6 rfl (fun g6 => ?_) (fun g6 => ?_)
  · replace h := zneg g6 h
    refine zk_iconst (v := 0) dX9_has_13 (by decide) ?_
    have e9 := Option.some.inj h
    subst e9
    exact zk_zret rfl (Or.inl rfl) ⟨rfl, rfl⟩ dX9_has_14
  · replace h := zpos g6 h
    refine zk_iconst (v := 1) dX9_has_9 (by decide) ?_
    refine zk_goto (tgt := 14) dX9_has_10 rfl ?_
    have e9 := Option.some.inj h
    subst e9
    exact zk_zret rfl (Or.inr rfl) ⟨rfl, rfl⟩ dX9_has_14
def D_X9_isOnWay_B7 (s : zS) (a2 : Int32) (rec7 : Int32 → Option Int32) (a3 : Int32) : Option Int32 :=
    if a3 ≤ a2 then (
      if a3 = a2 then (
        some (1 : Int32)
      ) else (
        some (0 : Int32)
      )
    ) else (
      zgd (zin a3 10 = true) <|
      rec7 (s.1 71 a3.toNatClampNeg)
    )
def D_X9_isOnWay_L7 (s : zS) (a2 : Int32) (n : Nat) (a3 : Int32) : Option Int32 := zfx (fun (rec : Int32 → Option Int32) q => D_X9_isOnWay_B7 s a2 (fun v0 => rec (v0)) q) n (a3)
set_option maxRecDepth 100000 in
theorem D_X9_isOnWay_L7_s (s : zS) (a2 : Int32) (n : Nat) (a3 : Int32) : D_X9_isOnWay_L7 s a2 (n + 1) a3 = D_X9_isOnWay_B7 s a2 (D_X9_isOnWay_L7 s a2 n) a3 := rfl
set_option maxRecDepth 100000 in
theorem ok_X9_isOnWay_L7 {l : Launch} {D : va_G} {ad : Nat → Nat} {cA : Nat → ClassId} (hj : zInj ad) (r : Int32) (s : zS) (a2 : Int32) : ∀ (n : Nat) (a3 : Int32), D_X9_isOnWay_L7 s a2 n a3 = some r → zOk l D ad cA (zJm jX9_isOnWay) (zEnd D ad cA (some (.int r)) s) 7 [some (.ref 66), none, some (.int a2), some (.int a3)] [] s := by
  intro n
  induction n with
  | zero =>
    intro a3 h
    have h0 : (none : Option Int32) = some r := h
    cases h0
  | succ n hr7 =>
    intro a3 h
    have h : D_X9_isOnWay_B7 s a2 (D_X9_isOnWay_L7 s a2 n) a3 = some r := h
    unfold D_X9_isOnWay_B7 at h
    refine zk_iload_n dX9_isOnWay_7 rfl rfl ?_
    refine zk_iload_n dX9_isOnWay_8 rfl rfl ?_
    refine zk_icmp_le (tgt := 22) dX9_isOnWay_9 rfl (fun g9 => ?_) (fun g9 => ?_)
    · replace h := zpos g9 h
      refine zk_iload_n dX9_isOnWay_22 rfl rfl ?_
      refine zk_iload_n dX9_isOnWay_23 rfl rfl ?_
      refine zk_icmp_ne (tgt := 31) dX9_isOnWay_24 rfl (fun g24 => ?_) (fun g24 => ?_)
      · replace h := zneg g24 h
        refine zk_iconst (v := 0) dX9_isOnWay_31 (by decide) ?_
        have e9 := Option.some.inj h
        subst e9
        exact zk_zret rfl (Or.inl rfl) ⟨rfl, rfl⟩ dX9_isOnWay_32
      · replace h := zpos g24 h
        refine zk_iconst (v := 1) dX9_isOnWay_27 (by decide) ?_
        refine zk_goto (tgt := 32) dX9_isOnWay_28 rfl ?_
        have e9 := Option.some.inj h
        subst e9
        exact zk_zret rfl (Or.inr rfl) ⟨rfl, rfl⟩ dX9_isOnWay_32
    · replace h := zneg g9 h
      refine zk_aload_n dX9_isOnWay_12 rfl rfl ?_
      refine zf_X9_36 rfl dX9_isOnWay_13 ?_
      refine zk_iload_n dX9_isOnWay_16 rfl rfl ?_
      obtain ⟨g17, h⟩ := zguard h
      refine zk_iald (zoI_of rfl g17) dX9_isOnWay_17 ?_
      refine zk_istore_n (i := 3) dX9_isOnWay_18 rfl (by decide) (zk_eq [_, _, _, _] rfl ?_)
      refine zk_goto (tgt := 7) dX9_isOnWay_19 rfl ?_
      exact hr7 _ h
def D_X9_isOnWay (s : zS) (a1 : Int32) (a2 : Int32) : Option Int32 :=
  zgd (zin a1 8 = true) <|
  D_X9_isOnWay_L7 s a2 zFU (s.1 73 a1.toNatClampNeg)
set_option maxRecDepth 100000 in
theorem ok_X9_isOnWay {l : Launch} {D : va_G} {ad : Nat → Nat} {cA : Nat → ClassId} (hj : zInj ad) (s : zS) (a1 : Int32) (a2 : Int32) {r : Int32} (h : D_X9_isOnWay s a1 a2 = some r) : zMet l D ad cA jX9_isOnWay [.ref 66, .int a1, .int a2] s (some (.int r)) s := by
  refine zMet_of jX9_isOnWay [some (.ref 66), some (.int a1), some (.int a2), none] (by decide +kernel) (Nat.le_of_ble_eq_true rfl) rfl hj ?_
  unfold D_X9_isOnWay at h
  refine zk_aload_n dX9_isOnWay_0 rfl rfl ?_
  refine zf_X9_42 rfl dX9_isOnWay_1 ?_
  refine zk_iload_n dX9_isOnWay_4 rfl rfl ?_
  obtain ⟨g5, h⟩ := zguard h
  refine zk_iald (zoI_of rfl g5) dX9_isOnWay_5 ?_
  refine zk_istore_n (i := 3) dX9_isOnWay_6 rfl (by decide) (zk_eq [_, _, _, _] rfl ?_)
  refine zk_mask [true, false, true, true] ?_
  exact ok_X9_isOnWay_L7 hj r _ _ _ _ h
def D_X9_aloneOf_J80 (rec4 : Int32 → Int32 → Option Int32) (s : zS) (a1 : Int32) (a3 : Int32) (k0 : Int32) (k1 : Int32) : Option Int32 :=
  rec4 (k0 + k1) (a3 + 1)
set_option maxRecDepth 100000 in
theorem ok_X9_aloneOf_J80 {l : Launch} {D : va_G} {ad : Nat → Nat} {cA : Nat → ClassId} (hj : zInj ad) (r : Int32) (s : zS) (a1 : Int32) (a3 : Int32) (k0 : Int32) (k1 : Int32) (rec4 : Int32 → Int32 → Option Int32) (hr4 : ∀ (b2 : Int32) (b3 : Int32), rec4 b2 b3 = some r → zOk l D ad cA (zJm jX9_aloneOf) (zEnd D ad cA (some (.int r)) s) 4 [some (.ref 66), some (.int a1), some (.int b2), some (.int b3), none, none] [] s) (h : D_X9_aloneOf_J80 rec4 s a1 a3 k0 k1 = some r) : zOk l D ad cA (zJm jX9_aloneOf) (zEnd D ad cA (some (.int r)) s) 80 [some (.ref 66), some (.int a1), none, some (.int a3), none, none] [.int k1, .int k0] s := by
  unfold D_X9_aloneOf_J80 at h
  refine zk_iadd dX9_aloneOf_80 ?_
  refine zk_istore_n (i := 2) dX9_aloneOf_81 rfl (by decide) (zk_eq [_, _, _, _, _, _] rfl ?_)
  refine zk_iinc dX9_aloneOf_82 rfl (zinc (m := 1) (by decide)) (by decide) (zk_eq [_, _, _, _, _, _] rfl ?_)
  refine zk_goto (tgt := 4) dX9_aloneOf_85 rfl ?_
  exact hr4 _ _ h
def D_X9_aloneOf_J51 (rec4 : Int32 → Int32 → Option Int32) (rec18 : Int32 → Int32 → Option Int32) (s : zS) (a1 : Int32) (a2 : Int32) (a3 : Int32) (a5 : Int32) : Option Int32 :=
  rec18 (1 : Int32) (a5 + 1)
set_option maxRecDepth 100000 in
theorem ok_X9_aloneOf_J51 {l : Launch} {D : va_G} {ad : Nat → Nat} {cA : Nat → ClassId} (hj : zInj ad) (r : Int32) (s : zS) (a1 : Int32) (a2 : Int32) (a3 : Int32) (a5 : Int32) (rec4 : Int32 → Int32 → Option Int32) (hr4 : ∀ (b2 : Int32) (b3 : Int32), rec4 b2 b3 = some r → zOk l D ad cA (zJm jX9_aloneOf) (zEnd D ad cA (some (.int r)) s) 4 [some (.ref 66), some (.int a1), some (.int b2), some (.int b3), none, none] [] s) (rec18 : Int32 → Int32 → Option Int32) (hr18 : ∀ (b4 : Int32) (b5 : Int32), rec18 b4 b5 = some r → zOk l D ad cA (zJm jX9_aloneOf) (zEnd D ad cA (some (.int r)) s) 18 [some (.ref 66), some (.int a1), some (.int a2), some (.int a3), some (.int b4), some (.int b5)] [] s) (h : D_X9_aloneOf_J51 rec4 rec18 s a1 a2 a3 a5 = some r) : zOk l D ad cA (zJm jX9_aloneOf) (zEnd D ad cA (some (.int r)) s) 51 [some (.ref 66), some (.int a1), some (.int a2), some (.int a3), none, some (.int a5)] [] s := by
  unfold D_X9_aloneOf_J51 at h
  refine zk_iconst (v := 1) dX9_aloneOf_51 (by decide) ?_
  refine zk_goto (tgt := 56) dX9_aloneOf_52 rfl ?_
  refine zk_istore (i := 4) dX9_aloneOf_56 (by decide) (zk_eq [_, _, _, _, _, _] rfl ?_)
  refine zk_iinc dX9_aloneOf_58 rfl (zinc (m := 1) (by decide)) (by decide) (zk_eq [_, _, _, _, _, _] rfl ?_)
  refine zk_goto (tgt := 18) dX9_aloneOf_61 rfl ?_
  exact hr18 _ _ h
def D_X9_aloneOf_J55 (rec4 : Int32 → Int32 → Option Int32) (rec18 : Int32 → Int32 → Option Int32) (s : zS) (a1 : Int32) (a2 : Int32) (a3 : Int32) (a5 : Int32) : Option Int32 :=
  rec18 (0 : Int32) (a5 + 1)
set_option maxRecDepth 100000 in
theorem ok_X9_aloneOf_J55 {l : Launch} {D : va_G} {ad : Nat → Nat} {cA : Nat → ClassId} (hj : zInj ad) (r : Int32) (s : zS) (a1 : Int32) (a2 : Int32) (a3 : Int32) (a5 : Int32) (rec4 : Int32 → Int32 → Option Int32) (hr4 : ∀ (b2 : Int32) (b3 : Int32), rec4 b2 b3 = some r → zOk l D ad cA (zJm jX9_aloneOf) (zEnd D ad cA (some (.int r)) s) 4 [some (.ref 66), some (.int a1), some (.int b2), some (.int b3), none, none] [] s) (rec18 : Int32 → Int32 → Option Int32) (hr18 : ∀ (b4 : Int32) (b5 : Int32), rec18 b4 b5 = some r → zOk l D ad cA (zJm jX9_aloneOf) (zEnd D ad cA (some (.int r)) s) 18 [some (.ref 66), some (.int a1), some (.int a2), some (.int a3), some (.int b4), some (.int b5)] [] s) (h : D_X9_aloneOf_J55 rec4 rec18 s a1 a2 a3 a5 = some r) : zOk l D ad cA (zJm jX9_aloneOf) (zEnd D ad cA (some (.int r)) s) 55 [some (.ref 66), some (.int a1), some (.int a2), some (.int a3), none, some (.int a5)] [] s := by
  unfold D_X9_aloneOf_J55 at h
  refine zk_iconst (v := 0) dX9_aloneOf_55 (by decide) ?_
  refine zk_istore (i := 4) dX9_aloneOf_56 (by decide) (zk_eq [_, _, _, _, _, _] rfl ?_)
  refine zk_iinc dX9_aloneOf_58 rfl (zinc (m := 1) (by decide)) (by decide) (zk_eq [_, _, _, _, _, _] rfl ?_)
  refine zk_goto (tgt := 18) dX9_aloneOf_61 rfl ?_
  exact hr18 _ _ h
def D_X9_aloneOf_B18 (rec4 : Int32 → Int32 → Option Int32) (s : zS) (a1 : Int32) (a2 : Int32) (a3 : Int32) (rec18 : Int32 → Int32 → Option Int32) (a4 : Int32) (a5 : Int32) : Option Int32 :=
    if (s.1 66 14) ≤ a5 then (
      if a4 = 0 then (
        D_X9_aloneOf_J80 rec4 s a1 a3 a2 (0 : Int32)
      ) else (
        zgd (zin a3 10 = true) <|
        D_X9_aloneOf_J80 rec4 s a1 a3 a2 (s.1 72 a3.toNatClampNeg)
      )
    ) else (
      if a4 = 0 then (
        (D_X9_has a1 a5).bind fun p35 =>
        if p35 = 0 then (
          D_X9_aloneOf_J55 rec4 rec18 s a1 a2 a3 a5
        ) else (
          (D_X9_isOnWay s a5 a3).bind fun p45 =>
          if p45 = 0 then (
            D_X9_aloneOf_J55 rec4 rec18 s a1 a2 a3 a5
          ) else (
            D_X9_aloneOf_J51 rec4 rec18 s a1 a2 a3 a5
          )
        )
      ) else (
        D_X9_aloneOf_J51 rec4 rec18 s a1 a2 a3 a5
      )
    )
def D_X9_aloneOf_L18 (rec4 : Int32 → Int32 → Option Int32) (s : zS) (a1 : Int32) (a2 : Int32) (a3 : Int32) (n : Nat) (a4 : Int32) (a5 : Int32) : Option Int32 := zfx (fun (rec : Int32 × Int32 → Option Int32) q => D_X9_aloneOf_B18 rec4 s a1 a2 a3 (fun v0 v1 => rec (v0, v1)) q.1 q.2) n (a4, a5)
set_option maxRecDepth 100000 in
theorem D_X9_aloneOf_L18_s (rec4 : Int32 → Int32 → Option Int32) (s : zS) (a1 : Int32) (a2 : Int32) (a3 : Int32) (n : Nat) (a4 : Int32) (a5 : Int32) : D_X9_aloneOf_L18 rec4 s a1 a2 a3 (n + 1) a4 a5 = D_X9_aloneOf_B18 rec4 s a1 a2 a3 (D_X9_aloneOf_L18 rec4 s a1 a2 a3 n) a4 a5 := rfl
set_option maxRecDepth 100000 in
theorem ok_X9_aloneOf_L18 {l : Launch} {D : va_G} {ad : Nat → Nat} {cA : Nat → ClassId} (hj : zInj ad) (r : Int32) (s : zS) (a1 : Int32) (a2 : Int32) (a3 : Int32) (rec4 : Int32 → Int32 → Option Int32) (hr4 : ∀ (b2 : Int32) (b3 : Int32), rec4 b2 b3 = some r → zOk l D ad cA (zJm jX9_aloneOf) (zEnd D ad cA (some (.int r)) s) 4 [some (.ref 66), some (.int a1), some (.int b2), some (.int b3), none, none] [] s) : ∀ (n : Nat) (a4 : Int32) (a5 : Int32), D_X9_aloneOf_L18 rec4 s a1 a2 a3 n a4 a5 = some r → zOk l D ad cA (zJm jX9_aloneOf) (zEnd D ad cA (some (.int r)) s) 18 [some (.ref 66), some (.int a1), some (.int a2), some (.int a3), some (.int a4), some (.int a5)] [] s := by
  intro n
  induction n with
  | zero =>
    intro a4 a5 h
    have h0 : (none : Option Int32) = some r := h
    cases h0
  | succ n hr18 =>
    intro a4 a5 h
    have h : D_X9_aloneOf_B18 rec4 s a1 a2 a3 (D_X9_aloneOf_L18 rec4 s a1 a2 a3 n) a4 a5 = some r := h
    unfold D_X9_aloneOf_B18 at h
    refine zk_iload dX9_aloneOf_18 rfl ?_
    refine zk_aload_n dX9_aloneOf_20 rfl rfl ?_
    refine zf_X9_274 rfl dX9_aloneOf_21 ?_
    refine zk_icmp_ge (tgt := 64) dX9_aloneOf_24 rfl (fun g24 => ?_) (fun g24 => ?_)
    · replace h := zpos g24 h
      refine zk_iload_n dX9_aloneOf_64 rfl rfl ?_
      refine zk_iload dX9_aloneOf_65 rfl ?_
      refine zk_if_eq (tgt := 79) dX9_aloneOf_67 rfl (fun g67 => ?_) (fun g67 => ?_)
      · replace h := zpos g67 h
        refine zk_iconst (v := 0) dX9_aloneOf_79 (by decide) ?_
        refine zk_mask [true, true, false, true, false, false] ?_
        exact ok_X9_aloneOf_J80 hj r _ _ _ _ _ _ hr4 h
      · replace h := zneg g67 h
        refine zk_aload_n dX9_aloneOf_70 rfl rfl ?_
        refine zf_X9_39 rfl dX9_aloneOf_71 ?_
        refine zk_iload_n dX9_aloneOf_74 rfl rfl ?_
        obtain ⟨g75, h⟩ := zguard h
        refine zk_iald (zoI_of rfl g75) dX9_aloneOf_75 ?_
        refine zk_goto (tgt := 80) dX9_aloneOf_76 rfl ?_
        refine zk_mask [true, true, false, true, false, false] ?_
        exact ok_X9_aloneOf_J80 hj r _ _ _ _ _ _ hr4 h
    · replace h := zneg g24 h
      refine zk_iload dX9_aloneOf_27 rfl ?_
      refine zk_if_ne (tgt := 51) dX9_aloneOf_29 rfl (fun g29 => ?_) (fun g29 => ?_)
      · replace h := zneg g29 h
        refine zk_mask [true, true, true, true, false, true] ?_
        exact ok_X9_aloneOf_J51 hj r _ _ _ _ _ _ hr4 _ hr18 h
      · replace h := zpos g29 h
        refine zk_iload_n dX9_aloneOf_32 rfl rfl ?_
        refine zk_iload dX9_aloneOf_33 rfl ?_
        obtain ⟨p35, h35, h⟩ := zbind h
        refine zc_X9_121 [] (As := [.int _, .int _]) (ok_X9_has hj _ _ _ h35) rfl ⟨Nat.le_of_ble_eq_true rfl, Nat.le_of_ble_eq_true rfl⟩ ⟨Nat.le_refl _, Nat.le_refl _⟩ rfl rfl (Nat.le_of_ble_eq_true rfl) dX9_aloneOf_35 ?_
        refine zk_if_eq (tgt := 55) dX9_aloneOf_38 rfl (fun g38 => ?_) (fun g38 => ?_)
        · replace h := zpos g38 h
          refine zk_mask [true, true, true, true, false, true] ?_
          exact ok_X9_aloneOf_J55 hj r _ _ _ _ _ _ hr4 _ hr18 h
        · replace h := zneg g38 h
          refine zk_aload_n dX9_aloneOf_41 rfl rfl ?_
          refine zk_iload dX9_aloneOf_42 rfl ?_
          refine zk_iload_n dX9_aloneOf_44 rfl rfl ?_
          obtain ⟨p45, h45, h⟩ := zbind h
          refine zc_X9_277 [] (As := [.int _, .int _]) (ok_X9_isOnWay hj _ _ _ h45) rfl ⟨Nat.le_of_ble_eq_true rfl, Nat.le_of_ble_eq_true rfl⟩ ⟨Nat.le_refl _, Nat.le_refl _⟩ rfl rfl (Nat.le_of_ble_eq_true rfl) dX9_aloneOf_45 ?_
          refine zk_if_eq (tgt := 55) dX9_aloneOf_48 rfl (fun g48 => ?_) (fun g48 => ?_)
          · replace h := zpos g48 h
            refine zk_mask [true, true, true, true, false, true] ?_
            exact ok_X9_aloneOf_J55 hj r _ _ _ _ _ _ hr4 _ hr18 h
          · replace h := zneg g48 h
            refine zk_mask [true, true, true, true, false, true] ?_
            exact ok_X9_aloneOf_J51 hj r _ _ _ _ _ _ hr4 _ hr18 h
def D_X9_aloneOf_B4 (s : zS) (a1 : Int32) (rec4 : Int32 → Int32 → Option Int32) (a2 : Int32) (a3 : Int32) : Option Int32 :=
    if (s.1 66 11) ≤ a3 then (
      some a2
    ) else (
      D_X9_aloneOf_L18 rec4 s a1 a2 a3 zFU (0 : Int32) (0 : Int32)
    )
def D_X9_aloneOf_L4 (s : zS) (a1 : Int32) (n : Nat) (a2 : Int32) (a3 : Int32) : Option Int32 := zfx (fun (rec : Int32 × Int32 → Option Int32) q => D_X9_aloneOf_B4 s a1 (fun v0 v1 => rec (v0, v1)) q.1 q.2) n (a2, a3)
set_option maxRecDepth 100000 in
theorem D_X9_aloneOf_L4_s (s : zS) (a1 : Int32) (n : Nat) (a2 : Int32) (a3 : Int32) : D_X9_aloneOf_L4 s a1 (n + 1) a2 a3 = D_X9_aloneOf_B4 s a1 (D_X9_aloneOf_L4 s a1 n) a2 a3 := rfl
set_option maxRecDepth 100000 in
theorem ok_X9_aloneOf_L4 {l : Launch} {D : va_G} {ad : Nat → Nat} {cA : Nat → ClassId} (hj : zInj ad) (r : Int32) (s : zS) (a1 : Int32) : ∀ (n : Nat) (a2 : Int32) (a3 : Int32), D_X9_aloneOf_L4 s a1 n a2 a3 = some r → zOk l D ad cA (zJm jX9_aloneOf) (zEnd D ad cA (some (.int r)) s) 4 [some (.ref 66), some (.int a1), some (.int a2), some (.int a3), none, none] [] s := by
  intro n
  induction n with
  | zero =>
    intro a2 a3 h
    have h0 : (none : Option Int32) = some r := h
    cases h0
  | succ n hr4 =>
    intro a2 a3 h
    have h : D_X9_aloneOf_B4 s a1 (D_X9_aloneOf_L4 s a1 n) a2 a3 = some r := h
    unfold D_X9_aloneOf_B4 at h
    refine zk_iload_n dX9_aloneOf_4 rfl rfl ?_
    refine zk_aload_n dX9_aloneOf_5 rfl rfl ?_
    refine zf_X9_33 rfl dX9_aloneOf_6 ?_
    refine zk_icmp_ge (tgt := 88) dX9_aloneOf_9 rfl (fun g9 => ?_) (fun g9 => ?_)
    · replace h := zpos g9 h
      refine zk_iload_n dX9_aloneOf_88 rfl rfl ?_
      have e9 := Option.some.inj h
      subst e9
      exact zk_iret rfl ⟨rfl, rfl⟩ dX9_aloneOf_89
    · replace h := zneg g9 h
      refine zk_iconst (v := 0) dX9_aloneOf_12 (by decide) ?_
      refine zk_istore (i := 4) dX9_aloneOf_13 (by decide) (zk_eq [_, _, _, _, _, _] rfl ?_)
      refine zk_iconst (v := 0) dX9_aloneOf_15 (by decide) ?_
      refine zk_istore (i := 5) dX9_aloneOf_16 (by decide) (zk_eq [_, _, _, _, _, _] rfl ?_)
      exact ok_X9_aloneOf_L18 hj r _ _ _ _ _ hr4 _ _ _ h
def D_X9_aloneOf (s : zS) (a1 : Int32) : Option Int32 :=
  D_X9_aloneOf_L4 s a1 zFU (0 : Int32) (1 : Int32)
set_option maxRecDepth 100000 in
theorem ok_X9_aloneOf {l : Launch} {D : va_G} {ad : Nat → Nat} {cA : Nat → ClassId} (hj : zInj ad) (s : zS) (a1 : Int32) {r : Int32} (h : D_X9_aloneOf s a1 = some r) : zMet l D ad cA jX9_aloneOf [.ref 66, .int a1] s (some (.int r)) s := by
  refine zMet_of jX9_aloneOf [some (.ref 66), some (.int a1), none, none, none, none] (by decide +kernel) (Nat.le_of_ble_eq_true rfl) rfl hj ?_
  unfold D_X9_aloneOf at h
  refine zk_iconst (v := 0) dX9_aloneOf_0 (by decide) ?_
  refine zk_istore_n (i := 2) dX9_aloneOf_1 rfl (by decide) (zk_eq [_, _, _, _, _, _] rfl ?_)
  refine zk_iconst (v := 1) dX9_aloneOf_2 (by decide) ?_
  refine zk_istore_n (i := 3) dX9_aloneOf_3 rfl (by decide) (zk_eq [_, _, _, _, _, _] rfl ?_)
  exact ok_X9_aloneOf_L4 hj r _ _ _ _ _ h
def D_X9_alone (s : zS) (a1 : Int32) : Option Int32 :=
  (D_X9_in a1.toInt64 (0 : Int64) ((((1 : Int32) <<< ((s.1 66 14) &&& 31)) - (1 : Int32)).toInt64)).bind fun p12 =>
  if p12 = 0 then (
    some (-2 : Int32)
  ) else (
    (D_X9_aloneOf s a1).bind fun p20 =>
    some p20
  )
set_option maxRecDepth 100000 in
theorem ok_X9_alone {l : Launch} {D : va_G} {ad : Nat → Nat} {cA : Nat → ClassId} (hj : zInj ad) (s : zS) (a1 : Int32) {r : Int32} (h : D_X9_alone s a1 = some r) : zMet l D ad cA jX9_alone [.ref 66, .int a1] s (some (.int r)) s := by
  refine zMet_of jX9_alone [some (.ref 66), some (.int a1)] (by decide +kernel) (Nat.le_of_ble_eq_true rfl) rfl hj ?_
  unfold D_X9_alone at h
  refine zk_iload_n dX9_alone_0 rfl rfl ?_
  refine zk_i2l dX9_alone_1 ?_
  refine zk_lconst (v := 0) dX9_alone_2 (by decide) ?_
  refine zk_iconst (v := 1) dX9_alone_3 (by decide) ?_
  refine zk_aload_n dX9_alone_4 rfl rfl ?_
  refine zf_X9_274 rfl dX9_alone_5 ?_
  refine zk_ishl dX9_alone_8 ?_
  refine zk_iconst (v := 1) dX9_alone_9 (by decide) ?_
  refine zk_isub dX9_alone_10 ?_
  refine zk_i2l dX9_alone_11 ?_
  obtain ⟨p12, h12, h⟩ := zbind h
  refine zc_X9_92 [] (As := [.long _, .long _, .long _]) (ok_X9_in hj _ _ _ _ h12) rfl ⟨Nat.le_of_ble_eq_true rfl, Nat.le_of_ble_eq_true rfl⟩ ⟨Nat.le_refl _, Nat.le_refl _⟩ rfl rfl (Nat.le_of_ble_eq_true rfl) dX9_alone_12 ?_
  refine zk_if_eq (tgt := 26) dX9_alone_15 rfl (fun g15 => ?_) (fun g15 => ?_)
  · replace h := zpos g15 h
    refine zk_bipush (v := -2) dX9_alone_26 (by decide) ?_
    have e9 := Option.some.inj h
    subst e9
    exact zk_iret rfl ⟨rfl, rfl⟩ dX9_alone_28
  · replace h := zneg g15 h
    refine zk_aload_n dX9_alone_18 rfl rfl ?_
    refine zk_iload_n dX9_alone_19 rfl rfl ?_
    obtain ⟨p20, h20, h⟩ := zbind h
    refine zc_X9_280 [] (As := [.int _]) (ok_X9_aloneOf hj _ _ h20) rfl ⟨Nat.le_of_ble_eq_true rfl, Nat.le_of_ble_eq_true rfl⟩ ⟨Nat.le_refl _, Nat.le_refl _⟩ rfl rfl (Nat.le_of_ble_eq_true rfl) dX9_alone_20 ?_
    refine zk_goto (tgt := 28) dX9_alone_23 rfl ?_
    have e9 := Option.some.inj h
    subst e9
    exact zk_iret rfl ⟨rfl, rfl⟩ dX9_alone_28
def D_X9_common_B28  (rec28 : Int64 → Int64 → Option Int64) (a4 : Int64) (a6 : Int64) : Option Int64 :=
    if (lg_cmp a6 (0 : Int64)) = 0 then (
      some a4
    ) else (
      if a6 = 0 then none else
      rec28 a6 (a4 - a4 / a6 * a6)
    )
def D_X9_common_L28 (n : Nat) (a4 : Int64) (a6 : Int64) : Option Int64 := zfx (fun (rec : Int64 × Int64 → Option Int64) q => D_X9_common_B28 (fun v0 v1 => rec (v0, v1)) q.1 q.2) n (a4, a6)
set_option maxRecDepth 100000 in
theorem D_X9_common_L28_s (n : Nat) (a4 : Int64) (a6 : Int64) : D_X9_common_L28 (n + 1) a4 a6 = D_X9_common_B28 (D_X9_common_L28 n) a4 a6 := rfl
set_option maxRecDepth 100000 in
theorem ok_X9_common_L28 {l : Launch} {D : va_G} {ad : Nat → Nat} {cA : Nat → ClassId} (hj : zInj ad) (r : Int64) (s : zS) : ∀ (n : Nat) (a4 : Int64) (a6 : Int64), D_X9_common_L28 n a4 a6 = some r → zOk l D ad cA (zJm jX9_common) (zEnd D ad cA (some (.long r)) s) 28 [none, none, none, none, some (.long a4), none, some (.long a6), none, none, none] [] s := by
  intro n
  induction n with
  | zero =>
    intro a4 a6 h
    have h0 : (none : Option Int64) = some r := h
    cases h0
  | succ n hr28 =>
    intro a4 a6 h
    have h : D_X9_common_B28 (D_X9_common_L28 n) a4 a6 = some r := h
    unfold D_X9_common_B28 at h
    refine zk_lload dX9_common_28 rfl ?_
    refine zk_lconst (v := 0) dX9_common_30 (by decide) ?_
    refine zk_lcmp dX9_common_31 ?_
    refine zk_if_eq (tgt := 53) dX9_common_32 rfl (fun g32 => ?_) (fun g32 => ?_)
    · replace h := zpos g32 h
      refine zk_lload dX9_common_53 rfl ?_
      have e9 := Option.some.inj h
      subst e9
      exact zk_lret rfl ⟨rfl, rfl⟩ dX9_common_55
    · replace h := zneg g32 h
      refine zk_lload dX9_common_35 rfl ?_
      refine zk_lload dX9_common_37 rfl ?_
      obtain ⟨g39, h⟩ := zguardn h
      refine zk_lrem dX9_common_39 g39 ?_
      refine zk_lstore (i := 8) dX9_common_40 (by decide) (zk_eq [_, _, _, _, _, _, _, _, _, _] rfl ?_)
      refine zk_lload dX9_common_42 rfl ?_
      refine zk_lstore (i := 4) dX9_common_44 (by decide) (zk_eq [_, _, _, _, _, _, _, _, _, _] rfl ?_)
      refine zk_lload dX9_common_46 rfl ?_
      refine zk_lstore (i := 6) dX9_common_48 (by decide) (zk_eq [_, _, _, _, _, _, _, _, _, _] rfl ?_)
      refine zk_goto (tgt := 28) dX9_common_50 rfl ?_
      refine zk_mask [false, false, false, false, true, false, true, false, false, false] ?_
      exact hr28 _ _ h
def D_X9_common_J26 (a4 : Int64) (k0 : Int64) : Option Int64 :=
  D_X9_common_L28 zFU a4 k0
set_option maxRecDepth 100000 in
theorem ok_X9_common_J26 {l : Launch} {D : va_G} {ad : Nat → Nat} {cA : Nat → ClassId} (hj : zInj ad) (r : Int64) (s : zS) (a4 : Int64) (k0 : Int64) (h : D_X9_common_J26 a4 k0 = some r) : zOk l D ad cA (zJm jX9_common) (zEnd D ad cA (some (.long r)) s) 26 [none, none, none, none, some (.long a4), none, none, none, none, none] [.long k0] s := by
  unfold D_X9_common_J26 at h
  refine zk_lstore (i := 6) dX9_common_26 (by decide) (zk_eq [_, _, _, _, _, _, _, _, _, _] rfl ?_)
  exact ok_X9_common_L28 hj r _ _ _ _ h
def D_X9_common_J12 (a2 : Int64) (k0 : Int64) : Option Int64 :=
  if 0 ≤ (lg_cmp a2 (0 : Int64)) then (
    D_X9_common_J26 k0 a2
  ) else (
    D_X9_common_J26 k0 (-a2)
  )
set_option maxRecDepth 100000 in
theorem ok_X9_common_J12 {l : Launch} {D : va_G} {ad : Nat → Nat} {cA : Nat → ClassId} (hj : zInj ad) (r : Int64) (s : zS) (a2 : Int64) (k0 : Int64) (h : D_X9_common_J12 a2 k0 = some r) : zOk l D ad cA (zJm jX9_common) (zEnd D ad cA (some (.long r)) s) 12 [none, none, some (.long a2), none, none, none, none, none, none, none] [.long k0] s := by
  unfold D_X9_common_J12 at h
  refine zk_lstore (i := 4) dX9_common_12 (by decide) (zk_eq [_, _, _, _, _, _, _, _, _, _] rfl ?_)
  refine zk_lload_n dX9_common_14 rfl rfl ?_
  refine zk_lconst (v := 0) dX9_common_15 (by decide) ?_
  refine zk_lcmp dX9_common_16 ?_
  refine zk_if_ge (tgt := 25) dX9_common_17 rfl (fun g17 => ?_) (fun g17 => ?_)
  · replace h := zpos g17 h
    refine zk_lload_n dX9_common_25 rfl rfl ?_
    refine zk_mask [false, false, false, false, true, false, false, false, false, false] ?_
    exact ok_X9_common_J26 hj r _ _ _ h
  · replace h := zneg g17 h
    refine zk_lload_n dX9_common_20 rfl rfl ?_
    refine zk_lneg dX9_common_21 ?_
    refine zk_goto (tgt := 26) dX9_common_22 rfl ?_
    refine zk_mask [false, false, false, false, true, false, false, false, false, false] ?_
    exact ok_X9_common_J26 hj r _ _ _ h
def D_X9_common (a0 : Int64) (a2 : Int64) : Option Int64 :=
  if 0 ≤ (lg_cmp a0 (0 : Int64)) then (
    D_X9_common_J12 a2 a0
  ) else (
    D_X9_common_J12 a2 (-a0)
  )
set_option maxRecDepth 100000 in
theorem ok_X9_common {l : Launch} {D : va_G} {ad : Nat → Nat} {cA : Nat → ClassId} (hj : zInj ad) (s : zS) (a0 : Int64) (a2 : Int64) {r : Int64} (h : D_X9_common a0 a2 = some r) : zMet l D ad cA jX9_common [.long a0, .long a2] s (some (.long r)) s := by
  refine zMet_of jX9_common [some (.long a0), none, some (.long a2), none, none, none, none, none, none, none] (by decide +kernel) (Nat.le_of_ble_eq_true rfl) rfl hj ?_
  unfold D_X9_common at h
  refine zk_lload_n dX9_common_0 rfl rfl ?_
  refine zk_lconst (v := 0) dX9_common_1 (by decide) ?_
  refine zk_lcmp dX9_common_2 ?_
  refine zk_if_ge (tgt := 11) dX9_common_3 rfl (fun g3 => ?_) (fun g3 => ?_)
  · replace h := zpos g3 h
    refine zk_lload_n dX9_common_11 rfl rfl ?_
    refine zk_mask [false, false, true, false, false, false, false, false, false, false] ?_
    exact ok_X9_common_J12 hj r _ _ _ h
  · replace h := zneg g3 h
    refine zk_lload_n dX9_common_6 rfl rfl ?_
    refine zk_lneg dX9_common_7 ?_
    refine zk_goto (tgt := 12) dX9_common_8 rfl ?_
    refine zk_mask [false, false, true, false, false, false, false, false, false, false] ?_
    exact ok_X9_common_J12 hj r _ _ _ h
def D_X9_fraction_J39 (s : zS) (a5 : Int64) (k1 : Int64) : Option (Int32 × zS) :=
  if a5 = 0 then none else
  let s42 : zS := zwL s 66 4 (k1 / a5)
  some ((1 : Int32), s42)
set_option maxRecDepth 100000 in
theorem ok_X9_fraction_J39 {l : Launch} {D : va_G} {ad : Nat → Nat} {cA : Nat → ClassId} (hj : zInj ad) (r : (Int32 × zS)) (s : zS) (a5 : Int64) (k1 : Int64) (h : D_X9_fraction_J39 s a5 k1 = some r) : zOk l D ad cA (zJm jX9_fraction) (zEnd D ad cA (some (.int r.1)) r.2) 39 [none, none, none, none, none, some (.long a5), none] [.long k1, .ref 66] s := by
  unfold D_X9_fraction_J39 at h
  refine zk_lload dX9_fraction_39 rfl ?_
  obtain ⟨g41, h⟩ := zguardn h
  refine zk_ldiv dX9_fraction_41 g41 ?_
  refine zp_X9_20 rfl dX9_fraction_42 ?_
  refine zk_iconst (v := 1) dX9_fraction_45 (by decide) ?_
  have e9 := Option.some.inj h
  subst e9
  exact zk_iret rfl ⟨rfl, rfl⟩ dX9_fraction_46
def D_X9_fraction_J20 (s : zS) (a3 : Int64) (a5 : Int64) (k1 : Int64) : Option (Int32 × zS) :=
  if a5 = 0 then none else
  let s23 : zS := zwL s 66 3 (k1 / a5)
  if 0 ≤ (lg_cmp a3 (0 : Int64)) then (
    D_X9_fraction_J39 s23 a5 a3
  ) else (
    D_X9_fraction_J39 s23 a5 (-a3)
  )
set_option maxRecDepth 100000 in
theorem ok_X9_fraction_J20 {l : Launch} {D : va_G} {ad : Nat → Nat} {cA : Nat → ClassId} (hj : zInj ad) (r : (Int32 × zS)) (s : zS) (a3 : Int64) (a5 : Int64) (k1 : Int64) (h : D_X9_fraction_J20 s a3 a5 k1 = some r) : zOk l D ad cA (zJm jX9_fraction) (zEnd D ad cA (some (.int r.1)) r.2) 20 [some (.ref 66), none, none, some (.long a3), none, some (.long a5), none] [.long k1, .ref 66] s := by
  unfold D_X9_fraction_J20 at h
  refine zk_lload dX9_fraction_20 rfl ?_
  obtain ⟨g22, h⟩ := zguardn h
  refine zk_ldiv dX9_fraction_22 g22 ?_
  refine zp_X9_100 rfl dX9_fraction_23 ?_
  refine zk_aload_n dX9_fraction_26 rfl rfl ?_
  refine zk_lload_n dX9_fraction_27 rfl rfl ?_
  refine zk_lconst (v := 0) dX9_fraction_28 (by decide) ?_
  refine zk_lcmp dX9_fraction_29 ?_
  refine zk_if_ge (tgt := 38) dX9_fraction_30 rfl (fun g30 => ?_) (fun g30 => ?_)
  · replace h := zpos g30 h
    refine zk_lload_n dX9_fraction_38 rfl rfl ?_
    refine zk_mask [false, false, false, false, false, true, false] ?_
    exact ok_X9_fraction_J39 hj r _ _ _ h
  · replace h := zneg g30 h
    refine zk_lload_n dX9_fraction_33 rfl rfl ?_
    refine zk_lneg dX9_fraction_34 ?_
    refine zk_goto (tgt := 39) dX9_fraction_35 rfl ?_
    refine zk_mask [false, false, false, false, false, true, false] ?_
    exact ok_X9_fraction_J39 hj r _ _ _ h
def D_X9_fraction (s : zS) (a1 : Int64) (a3 : Int64) : Option (Int32 × zS) :=
  (D_X9_common a1 a3).bind fun p2 =>
  if 0 ≤ (lg_cmp a3 (0 : Int64)) then (
    D_X9_fraction_J20 s a3 p2 a1
  ) else (
    D_X9_fraction_J20 s a3 p2 (-a1)
  )
set_option maxRecDepth 100000 in
theorem ok_X9_fraction {l : Launch} {D : va_G} {ad : Nat → Nat} {cA : Nat → ClassId} (hj : zInj ad) (s : zS) (a1 : Int64) (a3 : Int64) {r : (Int32 × zS)} (h : D_X9_fraction s a1 a3 = some r) : zMet l D ad cA jX9_fraction [.ref 66, .long a1, .long a3] s (some (.int r.1)) r.2 := by
  refine zMet_of jX9_fraction [some (.ref 66), some (.long a1), none, some (.long a3), none, none, none] (by decide +kernel) (Nat.le_of_ble_eq_true rfl) rfl hj ?_
  unfold D_X9_fraction at h
  refine zk_lload_n dX9_fraction_0 rfl rfl ?_
  refine zk_lload_n dX9_fraction_1 rfl rfl ?_
  obtain ⟨p2, h2, h⟩ := zbind h
  refine zc_X9_96 [] (As := [.long _, .long _]) (ok_X9_common hj _ _ _ h2) rfl ⟨Nat.le_of_ble_eq_true rfl, Nat.le_of_ble_eq_true rfl⟩ ⟨Nat.le_refl _, Nat.le_refl _⟩ rfl rfl (Nat.le_of_ble_eq_true rfl) dX9_fraction_2 ?_
  refine zk_lstore (i := 5) dX9_fraction_5 (by decide) (zk_eq [_, _, _, _, _, _, _] rfl ?_)
  refine zk_aload_n dX9_fraction_7 rfl rfl ?_
  refine zk_lload_n dX9_fraction_8 rfl rfl ?_
  refine zk_lconst (v := 0) dX9_fraction_9 (by decide) ?_
  refine zk_lcmp dX9_fraction_10 ?_
  refine zk_if_ge (tgt := 19) dX9_fraction_11 rfl (fun g11 => ?_) (fun g11 => ?_)
  · replace h := zpos g11 h
    refine zk_lload_n dX9_fraction_19 rfl rfl ?_
    refine zk_mask [true, false, false, true, false, true, false] ?_
    exact ok_X9_fraction_J20 hj r _ _ _ _ h
  · replace h := zneg g11 h
    refine zk_lload_n dX9_fraction_14 rfl rfl ?_
    refine zk_lneg dX9_fraction_15 ?_
    refine zk_goto (tgt := 20) dX9_fraction_16 rfl ?_
    refine zk_mask [true, false, false, true, false, true, false] ?_
    exact ok_X9_fraction_J20 hj r _ _ _ _ h
def D_X9_bits_B4  (rec4 : Int32 → Int32 → Option Int32) (a1 : Int32) (a2 : Int32) : Option Int32 :=
    if a2 = 0 then (
      some a1
    ) else (
      rec4 (a1 + 1) (a2 &&& (a2 - (1 : Int32)))
    )
def D_X9_bits_L4 (n : Nat) (a1 : Int32) (a2 : Int32) : Option Int32 := zfx (fun (rec : Int32 × Int32 → Option Int32) q => D_X9_bits_B4 (fun v0 v1 => rec (v0, v1)) q.1 q.2) n (a1, a2)
set_option maxRecDepth 100000 in
theorem D_X9_bits_L4_s (n : Nat) (a1 : Int32) (a2 : Int32) : D_X9_bits_L4 (n + 1) a1 a2 = D_X9_bits_B4 (D_X9_bits_L4 n) a1 a2 := rfl
set_option maxRecDepth 100000 in
theorem ok_X9_bits_L4 {l : Launch} {D : va_G} {ad : Nat → Nat} {cA : Nat → ClassId} (hj : zInj ad) (r : Int32) (s : zS) : ∀ (n : Nat) (a1 : Int32) (a2 : Int32), D_X9_bits_L4 n a1 a2 = some r → zOk l D ad cA (zJm jX9_bits) (zEnd D ad cA (some (.int r)) s) 4 [none, some (.int a1), some (.int a2)] [] s := by
  intro n
  induction n with
  | zero =>
    intro a1 a2 h
    have h0 : (none : Option Int32) = some r := h
    cases h0
  | succ n hr4 =>
    intro a1 a2 h
    have h : D_X9_bits_B4 (D_X9_bits_L4 n) a1 a2 = some r := h
    unfold D_X9_bits_B4 at h
    refine zk_iload_n dX9_bits_4 rfl rfl ?_
    refine zk_if_eq (tgt := 20) dX9_bits_5 rfl (fun g5 => ?_) (fun g5 => ?_)
    · replace h := zpos g5 h
      refine zk_iload_n dX9_bits_20 rfl rfl ?_
      have e9 := Option.some.inj h
      subst e9
      exact zk_iret rfl ⟨rfl, rfl⟩ dX9_bits_21
    · replace h := zneg g5 h
      refine zk_iinc dX9_bits_8 rfl (zinc (m := 1) (by decide)) (by decide) (zk_eq [_, _, _] rfl ?_)
      refine zk_iload_n dX9_bits_11 rfl rfl ?_
      refine zk_iload_n dX9_bits_12 rfl rfl ?_
      refine zk_iconst (v := 1) dX9_bits_13 (by decide) ?_
      refine zk_isub dX9_bits_14 ?_
      refine zk_iand dX9_bits_15 ?_
      refine zk_istore_n (i := 2) dX9_bits_16 rfl (by decide) (zk_eq [_, _, _] rfl ?_)
      refine zk_goto (tgt := 4) dX9_bits_17 rfl ?_
      exact hr4 _ _ h
def D_X9_bits (a0 : Int32) : Option Int32 :=
  D_X9_bits_L4 zFU (0 : Int32) a0
set_option maxRecDepth 100000 in
theorem ok_X9_bits {l : Launch} {D : va_G} {ad : Nat → Nat} {cA : Nat → ClassId} (hj : zInj ad) (s : zS) (a0 : Int32) {r : Int32} (h : D_X9_bits a0 = some r) : zMet l D ad cA jX9_bits [.int a0] s (some (.int r)) s := by
  refine zMet_of jX9_bits [some (.int a0), none, none] (by decide +kernel) (Nat.le_of_ble_eq_true rfl) rfl hj ?_
  unfold D_X9_bits at h
  refine zk_iconst (v := 0) dX9_bits_0 (by decide) ?_
  refine zk_istore_n (i := 1) dX9_bits_1 rfl (by decide) (zk_eq [_, _, _] rfl ?_)
  refine zk_iload_n dX9_bits_2 rfl rfl ?_
  refine zk_istore_n (i := 2) dX9_bits_3 rfl (by decide) (zk_eq [_, _, _] rfl ?_)
  refine zk_mask [false, true, true] ?_
  exact ok_X9_bits_L4 hj r _ _ _ _ h
def D_X9_giveEvenly_J153 (s : zS) (k1 : Int64) : Option zS :=
  let s153 : zS := zwL s 66 39 k1
  some s153
set_option maxRecDepth 100000 in
theorem ok_X9_giveEvenly_J153 {l : Launch} {D : va_G} {ad : Nat → Nat} {cA : Nat → ClassId} (hj : zInj ad) (r : zS) (s : zS) (k1 : Int64) (h : D_X9_giveEvenly_J153 s k1 = some r) : zOk l D ad cA (zJm jX9_giveEvenly) (zEnd D ad cA none r) 153 [none, none, none, none, none, none, none, none, none, none] [.long k1, .ref 66] s := by
  unfold D_X9_giveEvenly_J153 at h
  refine zp_X9_255 rfl dX9_giveEvenly_153 ?_
  have e9 := Option.some.inj h
  subst e9
  exact zk_vret rfl ⟨rfl, rfl⟩ dX9_giveEvenly_156
def D_X9_giveEvenly_J129 (s : zS) (a4 : Int32) (a8 : Int32) (k1 : Int64) : Option zS :=
  let s129 : zS := zwL s 66 38 k1
  if a8 = 0 then (
    (D_X9_bits a4).bind fun p148 =>
    D_X9_giveEvenly_J153 s129 (((s129.1 66 8) - p148).toInt64)
  ) else (
    D_X9_giveEvenly_J153 s129 (1 : Int64)
  )
set_option maxRecDepth 100000 in
theorem ok_X9_giveEvenly_J129 {l : Launch} {D : va_G} {ad : Nat → Nat} {cA : Nat → ClassId} (hj : zInj ad) (r : zS) (s : zS) (a4 : Int32) (a8 : Int32) (k1 : Int64) (h : D_X9_giveEvenly_J129 s a4 a8 k1 = some r) : zOk l D ad cA (zJm jX9_giveEvenly) (zEnd D ad cA none r) 129 [some (.ref 66), none, none, none, some (.int a4), none, none, none, some (.int a8), none] [.long k1, .ref 66] s := by
  unfold D_X9_giveEvenly_J129 at h
  refine zp_X9_252 rfl dX9_giveEvenly_129 ?_
  refine zk_aload_n dX9_giveEvenly_132 rfl rfl ?_
  refine zk_iload dX9_giveEvenly_133 rfl ?_
  refine zk_if_eq (tgt := 142) dX9_giveEvenly_135 rfl (fun g135 => ?_) (fun g135 => ?_)
  · replace h := zpos g135 h
    refine zk_aload_n dX9_giveEvenly_142 rfl rfl ?_
    refine zf_X9_244 rfl dX9_giveEvenly_143 ?_
    refine zk_iload dX9_giveEvenly_146 rfl ?_
    obtain ⟨p148, h148, h⟩ := zbind h
    refine zc_X9_114 [.int _, .ref _] (As := [.int _]) (ok_X9_bits hj _ _ h148) rfl ⟨Nat.le_of_ble_eq_true rfl, Nat.le_of_ble_eq_true rfl⟩ ⟨Nat.le_refl _, Nat.le_refl _⟩ rfl rfl (Nat.le_of_ble_eq_true rfl) dX9_giveEvenly_148 ?_
    refine zk_isub dX9_giveEvenly_151 ?_
    refine zk_i2l dX9_giveEvenly_152 ?_
    refine zk_mask [false, false, false, false, false, false, false, false, false, false] ?_
    exact ok_X9_giveEvenly_J153 hj r _ _ h
  · replace h := zneg g135 h
    refine zk_lconst (v := 1) dX9_giveEvenly_138 (by decide) ?_
    refine zk_goto (tgt := 153) dX9_giveEvenly_139 rfl ?_
    refine zk_mask [false, false, false, false, false, false, false, false, false, false] ?_
    exact ok_X9_giveEvenly_J153 hj r _ _ h
def D_X9_giveEvenly_B20 (rec9 : Int32 → Int64 → Int32 → Option zS) (s : zS) (a1 : Int32) (rec20 : Int32 → Int64 → Int32 → Int32 → Option zS) (a4 : Int32) (a5 : Int64) (a7 : Int32) (a8 : Int32) : Option zS :=
    if (s.1 66 8) ≤ a8 then (
      rec9 a4 a5 a7
    ) else (
      (D_X9_bits a4).bind fun p35 =>
      (D_X9_has a4 a8).bind fun p45 =>
      if p45 = 0 then (
        zgd (zin a8 6 = true) <|
        if 0 < (lg_cmp ((s.1 70 a8.toNatClampNeg).toInt64 * ((s.1 66 8) - p35).toInt64) a5) then (
          rec20 a4 a5 a7 (a8 + 1)
        ) else (
          zgd (zin a8 6 = true) <|
          rec20 (a4 ||| ((1 : Int32) <<< (a8 &&& 31))) (a5 - (s.1 70 a8.toNatClampNeg).toInt64) (1 : Int32) (a8 + 1)
        )
      ) else (
        rec20 a4 a5 a7 (a8 + 1)
      )
    )
def D_X9_giveEvenly_L20 (rec9 : Int32 → Int64 → Int32 → Option zS) (s : zS) (a1 : Int32) (n : Nat) (a4 : Int32) (a5 : Int64) (a7 : Int32) (a8 : Int32) : Option zS := zfx (fun (rec : Int32 × Int64 × Int32 × Int32 → Option zS) q => D_X9_giveEvenly_B20 rec9 s a1 (fun v0 v1 v2 v3 => rec (v0, v1, v2, v3)) q.1 q.2.1 q.2.2.1 q.2.2.2) n (a4, a5, a7, a8)
set_option maxRecDepth 100000 in
theorem D_X9_giveEvenly_L20_s (rec9 : Int32 → Int64 → Int32 → Option zS) (s : zS) (a1 : Int32) (n : Nat) (a4 : Int32) (a5 : Int64) (a7 : Int32) (a8 : Int32) : D_X9_giveEvenly_L20 rec9 s a1 (n + 1) a4 a5 a7 a8 = D_X9_giveEvenly_B20 rec9 s a1 (D_X9_giveEvenly_L20 rec9 s a1 n) a4 a5 a7 a8 := rfl
set_option maxRecDepth 100000 in
theorem ok_X9_giveEvenly_L20 {l : Launch} {D : va_G} {ad : Nat → Nat} {cA : Nat → ClassId} (hj : zInj ad) (r : zS) (s : zS) (a1 : Int32) (rec9 : Int32 → Int64 → Int32 → Option zS) (hr9 : ∀ (b4 : Int32) (b5 : Int64) (b7 : Int32), rec9 b4 b5 b7 = some r → zOk l D ad cA (zJm jX9_giveEvenly) (zEnd D ad cA none r) 9 [some (.ref 66), some (.int a1), none, none, some (.int b4), some (.long b5), none, some (.int b7), none, none] [] s) : ∀ (n : Nat) (a4 : Int32) (a5 : Int64) (a7 : Int32) (a8 : Int32), D_X9_giveEvenly_L20 rec9 s a1 n a4 a5 a7 a8 = some r → zOk l D ad cA (zJm jX9_giveEvenly) (zEnd D ad cA none r) 20 [some (.ref 66), some (.int a1), none, none, some (.int a4), some (.long a5), none, some (.int a7), some (.int a8), none] [] s := by
  intro n
  induction n with
  | zero =>
    intro a4 a5 a7 a8 h
    have h0 : (none : Option zS) = some r := h
    cases h0
  | succ n hr20 =>
    intro a4 a5 a7 a8 h
    have h : D_X9_giveEvenly_B20 rec9 s a1 (D_X9_giveEvenly_L20 rec9 s a1 n) a4 a5 a7 a8 = some r := h
    unfold D_X9_giveEvenly_B20 at h
    refine zk_iload dX9_giveEvenly_20 rfl ?_
    refine zk_aload_n dX9_giveEvenly_22 rfl rfl ?_
    refine zf_X9_244 rfl dX9_giveEvenly_23 ?_
    refine zk_icmp_ge (tgt := 100) dX9_giveEvenly_26 rfl (fun g26 => ?_) (fun g26 => ?_)
    · replace h := zpos g26 h
      refine zk_goto (tgt := 9) dX9_giveEvenly_100 rfl ?_
      refine zk_mask [true, true, false, false, true, true, false, true, false, false] ?_
      exact hr9 _ _ _ h
    · replace h := zneg g26 h
      refine zk_aload_n dX9_giveEvenly_29 rfl rfl ?_
      refine zf_X9_244 rfl dX9_giveEvenly_30 ?_
      refine zk_iload dX9_giveEvenly_33 rfl ?_
      obtain ⟨p35, h35, h⟩ := zbind h
      refine zc_X9_114 [.int _] (As := [.int _]) (ok_X9_bits hj _ _ h35) rfl ⟨Nat.le_of_ble_eq_true rfl, Nat.le_of_ble_eq_true rfl⟩ ⟨Nat.le_refl _, Nat.le_refl _⟩ rfl rfl (Nat.le_of_ble_eq_true rfl) dX9_giveEvenly_35 ?_
      refine zk_isub dX9_giveEvenly_38 ?_
      refine zk_istore (i := 9) dX9_giveEvenly_39 (by decide) (zk_eq [_, _, _, _, _, _, _, _, _, _] rfl ?_)
      refine zk_iload dX9_giveEvenly_41 rfl ?_
      refine zk_iload dX9_giveEvenly_43 rfl ?_
      obtain ⟨p45, h45, h⟩ := zbind h
      refine zc_X9_121 [] (As := [.int _, .int _]) (ok_X9_has hj _ _ _ h45) rfl ⟨Nat.le_of_ble_eq_true rfl, Nat.le_of_ble_eq_true rfl⟩ ⟨Nat.le_refl _, Nat.le_refl _⟩ rfl rfl (Nat.le_of_ble_eq_true rfl) dX9_giveEvenly_45 ?_
      refine zk_if_ne (tgt := 94) dX9_giveEvenly_48 rfl (fun g48 => ?_) (fun g48 => ?_)
      · replace h := zneg g48 h
        refine zk_iinc dX9_giveEvenly_94 rfl (zinc (m := 1) (by decide)) (by decide) (zk_eq [_, _, _, _, _, _, _, _, _, _] rfl ?_)
        refine zk_goto (tgt := 20) dX9_giveEvenly_97 rfl ?_
        refine zk_mask [true, true, false, false, true, true, false, true, true, false] ?_
        exact hr20 _ _ _ _ h
      · replace h := zpos g48 h
        refine zk_aload_n dX9_giveEvenly_51 rfl rfl ?_
        refine zf_X9_30 rfl dX9_giveEvenly_52 ?_
        refine zk_iload dX9_giveEvenly_55 rfl ?_
        obtain ⟨g57, h⟩ := zguard h
        refine zk_iald (zoI_of rfl g57) dX9_giveEvenly_57 ?_
        refine zk_i2l dX9_giveEvenly_58 ?_
        refine zk_iload dX9_giveEvenly_59 rfl ?_
        refine zk_i2l dX9_giveEvenly_61 ?_
        refine zk_lmul dX9_giveEvenly_62 ?_
        refine zk_lload dX9_giveEvenly_63 rfl ?_
        refine zk_lcmp dX9_giveEvenly_65 ?_
        refine zk_if_gt (tgt := 94) dX9_giveEvenly_66 rfl (fun g66 => ?_) (fun g66 => ?_)
        · replace h := zpos g66 h
          refine zk_iinc dX9_giveEvenly_94 rfl (zinc (m := 1) (by decide)) (by decide) (zk_eq [_, _, _, _, _, _, _, _, _, _] rfl ?_)
          refine zk_goto (tgt := 20) dX9_giveEvenly_97 rfl ?_
          refine zk_mask [true, true, false, false, true, true, false, true, true, false] ?_
          exact hr20 _ _ _ _ h
        · replace h := zneg g66 h
          refine zk_iload dX9_giveEvenly_69 rfl ?_
          refine zk_iconst (v := 1) dX9_giveEvenly_71 (by decide) ?_
          refine zk_iload dX9_giveEvenly_72 rfl ?_
          refine zk_ishl dX9_giveEvenly_74 ?_
          refine zk_ior dX9_giveEvenly_75 ?_
          refine zk_istore (i := 4) dX9_giveEvenly_76 (by decide) (zk_eq [_, _, _, _, _, _, _, _, _, _] rfl ?_)
          refine zk_lload dX9_giveEvenly_78 rfl ?_
          refine zk_aload_n dX9_giveEvenly_80 rfl rfl ?_
          refine zf_X9_30 rfl dX9_giveEvenly_81 ?_
          refine zk_iload dX9_giveEvenly_84 rfl ?_
          obtain ⟨g86, h⟩ := zguard h
          refine zk_iald (zoI_of rfl g86) dX9_giveEvenly_86 ?_
          refine zk_i2l dX9_giveEvenly_87 ?_
          refine zk_lsub dX9_giveEvenly_88 ?_
          refine zk_lstore (i := 5) dX9_giveEvenly_89 (by decide) (zk_eq [_, _, _, _, _, _, _, _, _, _] rfl ?_)
          refine zk_iconst (v := 1) dX9_giveEvenly_91 (by decide) ?_
          refine zk_istore (i := 7) dX9_giveEvenly_92 (by decide) (zk_eq [_, _, _, _, _, _, _, _, _, _] rfl ?_)
          refine zk_iinc dX9_giveEvenly_94 rfl (zinc (m := 1) (by decide)) (by decide) (zk_eq [_, _, _, _, _, _, _, _, _, _] rfl ?_)
          refine zk_goto (tgt := 20) dX9_giveEvenly_97 rfl ?_
          refine zk_mask [true, true, false, false, true, true, false, true, true, false] ?_
          exact hr20 _ _ _ _ h
def D_X9_giveEvenly_B9 (s : zS) (a1 : Int32) (rec9 : Int32 → Int64 → Int32 → Option zS) (a4 : Int32) (a5 : Int64) (a7 : Int32) : Option zS :=
    if a7 = 0 then (
      (D_X9_has a4 a1).bind fun p106 =>
      if p106 = 0 then (
        D_X9_giveEvenly_J129 s a4 p106 a5
      ) else (
        zgd (zin a1 6 = true) <|
        D_X9_giveEvenly_J129 s a4 p106 ((s.1 70 a1.toNatClampNeg).toInt64)
      )
    ) else (
      D_X9_giveEvenly_L20 rec9 s a1 zFU a4 a5 (0 : Int32) (0 : Int32)
    )
def D_X9_giveEvenly_L9 (s : zS) (a1 : Int32) (n : Nat) (a4 : Int32) (a5 : Int64) (a7 : Int32) : Option zS := zfx (fun (rec : Int32 × Int64 × Int32 → Option zS) q => D_X9_giveEvenly_B9 s a1 (fun v0 v1 v2 => rec (v0, v1, v2)) q.1 q.2.1 q.2.2) n (a4, a5, a7)
set_option maxRecDepth 100000 in
theorem D_X9_giveEvenly_L9_s (s : zS) (a1 : Int32) (n : Nat) (a4 : Int32) (a5 : Int64) (a7 : Int32) : D_X9_giveEvenly_L9 s a1 (n + 1) a4 a5 a7 = D_X9_giveEvenly_B9 s a1 (D_X9_giveEvenly_L9 s a1 n) a4 a5 a7 := rfl
set_option maxRecDepth 100000 in
theorem ok_X9_giveEvenly_L9 {l : Launch} {D : va_G} {ad : Nat → Nat} {cA : Nat → ClassId} (hj : zInj ad) (r : zS) (s : zS) (a1 : Int32) : ∀ (n : Nat) (a4 : Int32) (a5 : Int64) (a7 : Int32), D_X9_giveEvenly_L9 s a1 n a4 a5 a7 = some r → zOk l D ad cA (zJm jX9_giveEvenly) (zEnd D ad cA none r) 9 [some (.ref 66), some (.int a1), none, none, some (.int a4), some (.long a5), none, some (.int a7), none, none] [] s := by
  intro n
  induction n with
  | zero =>
    intro a4 a5 a7 h
    have h0 : (none : Option zS) = some r := h
    cases h0
  | succ n hr9 =>
    intro a4 a5 a7 h
    have h : D_X9_giveEvenly_B9 s a1 (D_X9_giveEvenly_L9 s a1 n) a4 a5 a7 = some r := h
    unfold D_X9_giveEvenly_B9 at h
    refine zk_iload dX9_giveEvenly_9 rfl ?_
    refine zk_if_eq (tgt := 103) dX9_giveEvenly_11 rfl (fun g11 => ?_) (fun g11 => ?_)
    · replace h := zpos g11 h
      refine zk_iload dX9_giveEvenly_103 rfl ?_
      refine zk_iload_n dX9_giveEvenly_105 rfl rfl ?_
      obtain ⟨p106, h106, h⟩ := zbind h
      refine zc_X9_121 [] (As := [.int _, .int _]) (ok_X9_has hj _ _ _ h106) rfl ⟨Nat.le_of_ble_eq_true rfl, Nat.le_of_ble_eq_true rfl⟩ ⟨Nat.le_refl _, Nat.le_refl _⟩ rfl rfl (Nat.le_of_ble_eq_true rfl) dX9_giveEvenly_106 ?_
      refine zk_istore (i := 8) dX9_giveEvenly_109 (by decide) (zk_eq [_, _, _, _, _, _, _, _, _, _] rfl ?_)
      refine zk_aload_n dX9_giveEvenly_111 rfl rfl ?_
      refine zk_iload dX9_giveEvenly_112 rfl ?_
      refine zk_if_eq (tgt := 127) dX9_giveEvenly_114 rfl (fun g114 => ?_) (fun g114 => ?_)
      · replace h := zpos g114 h
        refine zk_lload dX9_giveEvenly_127 rfl ?_
        refine zk_mask [true, false, false, false, true, false, false, false, true, false] ?_
        exact ok_X9_giveEvenly_J129 hj r _ _ _ _ h
      · replace h := zneg g114 h
        refine zk_aload_n dX9_giveEvenly_117 rfl rfl ?_
        refine zf_X9_30 rfl dX9_giveEvenly_118 ?_
        refine zk_iload_n dX9_giveEvenly_121 rfl rfl ?_
        obtain ⟨g122, h⟩ := zguard h
        refine zk_iald (zoI_of rfl g122) dX9_giveEvenly_122 ?_
        refine zk_i2l dX9_giveEvenly_123 ?_
        refine zk_goto (tgt := 129) dX9_giveEvenly_124 rfl ?_
        refine zk_mask [true, false, false, false, true, false, false, false, true, false] ?_
        exact ok_X9_giveEvenly_J129 hj r _ _ _ _ h
    · replace h := zneg g11 h
      refine zk_iconst (v := 0) dX9_giveEvenly_14 (by decide) ?_
      refine zk_istore (i := 7) dX9_giveEvenly_15 (by decide) (zk_eq [_, _, _, _, _, _, _, _, _, _] rfl ?_)
      refine zk_iconst (v := 0) dX9_giveEvenly_17 (by decide) ?_
      refine zk_istore (i := 8) dX9_giveEvenly_18 (by decide) (zk_eq [_, _, _, _, _, _, _, _, _, _] rfl ?_)
      exact ok_X9_giveEvenly_L20 hj r _ _ _ hr9 _ _ _ _ _ h
def D_X9_giveEvenly (s : zS) (a1 : Int32) (a2 : Int64) : Option zS :=
  D_X9_giveEvenly_L9 s a1 zFU (0 : Int32) a2 (1 : Int32)
set_option maxRecDepth 100000 in
theorem ok_X9_giveEvenly {l : Launch} {D : va_G} {ad : Nat → Nat} {cA : Nat → ClassId} (hj : zInj ad) (s : zS) (a1 : Int32) (a2 : Int64) {r : zS} (h : D_X9_giveEvenly s a1 a2 = some r) : zMet l D ad cA jX9_giveEvenly [.ref 66, .int a1, .long a2] s none r := by
  refine zMet_of jX9_giveEvenly [some (.ref 66), some (.int a1), some (.long a2), none, none, none, none, none, none, none] (by decide +kernel) (Nat.le_of_ble_eq_true rfl) rfl hj ?_
  unfold D_X9_giveEvenly at h
  refine zk_iconst (v := 0) dX9_giveEvenly_0 (by decide) ?_
  refine zk_istore (i := 4) dX9_giveEvenly_1 (by decide) (zk_eq [_, _, _, _, _, _, _, _, _, _] rfl ?_)
  refine zk_lload_n dX9_giveEvenly_3 rfl rfl ?_
  refine zk_lstore (i := 5) dX9_giveEvenly_4 (by decide) (zk_eq [_, _, _, _, _, _, _, _, _, _] rfl ?_)
  refine zk_iconst (v := 1) dX9_giveEvenly_6 (by decide) ?_
  refine zk_istore (i := 7) dX9_giveEvenly_7 (by decide) (zk_eq [_, _, _, _, _, _, _, _, _, _] rfl ?_)
  refine zk_mask [true, true, false, false, true, true, false, true, false, false] ?_
  exact ok_X9_giveEvenly_L9 hj r _ _ _ _ _ _ h
def D_X9_loseEvenly_J190 (s : zS) (k1 : Int64) : Option zS :=
  let s190 : zS := zwL s 66 38 k1
  some s190
set_option maxRecDepth 100000 in
theorem ok_X9_loseEvenly_J190 {l : Launch} {D : va_G} {ad : Nat → Nat} {cA : Nat → ClassId} (hj : zInj ad) (r : zS) (s : zS) (k1 : Int64) (h : D_X9_loseEvenly_J190 s k1 = some r) : zOk l D ad cA (zJm jX9_loseEvenly) (zEnd D ad cA none r) 190 [none, none, none, none, none, none, none, none, none, none] [.long k1, .ref 66] s := by
  unfold D_X9_loseEvenly_J190 at h
  refine zp_X9_252 rfl dX9_loseEvenly_190 ?_
  have e9 := Option.some.inj h
  subst e9
  exact zk_vret rfl ⟨rfl, rfl⟩ dX9_loseEvenly_193
def D_X9_loseEvenly_B89 (rec6 : Int32 → Int32 → zS → Option zS) (s : zS) (a1 : Int32) (a2 : Int64) (a6 : Int64) (a8 : Int32) (rec89 : Int32 → Int32 → Int32 → Option zS) (a4 : Int32) (a5 : Int32) (a9 : Int32) : Option zS :=
    if (s.1 66 8) ≤ a9 then (
      zgd (zin a1 6 = true) <|
      let s159 : zS := zwL s 66 38 (((s.1 70 a1.toNatClampNeg).toInt64 * a8.toInt64) - a6)
      let s166 : zS := zwL s159 66 39 a8.toInt64
      rec6 a4 a5 s166
    ) else (
      (D_X9_has a4 a9).bind fun p102 =>
      if p102 = 0 then (
        zgd (zin a9 6 = true) <|
        if 0 ≤ (lg_cmp ((s.1 70 a9.toNatClampNeg).toInt64 * a8.toInt64) a6) then (
          rec89 a4 a5 (a9 + 1)
        ) else (
          rec89 (a4 ||| ((1 : Int32) <<< (a9 &&& 31))) (1 : Int32) (a9 + 1)
        )
      ) else (
        rec89 a4 a5 (a9 + 1)
      )
    )
def D_X9_loseEvenly_L89 (rec6 : Int32 → Int32 → zS → Option zS) (s : zS) (a1 : Int32) (a2 : Int64) (a6 : Int64) (a8 : Int32) (n : Nat) (a4 : Int32) (a5 : Int32) (a9 : Int32) : Option zS := zfx (fun (rec : Int32 × Int32 × Int32 → Option zS) q => D_X9_loseEvenly_B89 rec6 s a1 a2 a6 a8 (fun v0 v1 v2 => rec (v0, v1, v2)) q.1 q.2.1 q.2.2) n (a4, a5, a9)
set_option maxRecDepth 100000 in
theorem D_X9_loseEvenly_L89_s (rec6 : Int32 → Int32 → zS → Option zS) (s : zS) (a1 : Int32) (a2 : Int64) (a6 : Int64) (a8 : Int32) (n : Nat) (a4 : Int32) (a5 : Int32) (a9 : Int32) : D_X9_loseEvenly_L89 rec6 s a1 a2 a6 a8 (n + 1) a4 a5 a9 = D_X9_loseEvenly_B89 rec6 s a1 a2 a6 a8 (D_X9_loseEvenly_L89 rec6 s a1 a2 a6 a8 n) a4 a5 a9 := rfl
set_option maxRecDepth 100000 in
theorem ok_X9_loseEvenly_L89 {l : Launch} {D : va_G} {ad : Nat → Nat} {cA : Nat → ClassId} (hj : zInj ad) (r : zS) (s : zS) (a1 : Int32) (a2 : Int64) (a6 : Int64) (a8 : Int32) (rec6 : Int32 → Int32 → zS → Option zS) (hr6 : ∀ (b4 : Int32) (b5 : Int32) (s : zS), rec6 b4 b5 s = some r → zOk l D ad cA (zJm jX9_loseEvenly) (zEnd D ad cA none r) 6 [some (.ref 66), some (.int a1), some (.long a2), none, some (.int b4), some (.int b5), none, none, none, none] [] s) : ∀ (n : Nat) (a4 : Int32) (a5 : Int32) (a9 : Int32), D_X9_loseEvenly_L89 rec6 s a1 a2 a6 a8 n a4 a5 a9 = some r → zOk l D ad cA (zJm jX9_loseEvenly) (zEnd D ad cA none r) 89 [some (.ref 66), some (.int a1), some (.long a2), none, some (.int a4), some (.int a5), some (.long a6), none, some (.int a8), some (.int a9)] [] s := by
  intro n
  induction n with
  | zero =>
    intro a4 a5 a9 h
    have h0 : (none : Option zS) = some r := h
    cases h0
  | succ n hr89 =>
    intro a4 a5 a9 h
    have h : D_X9_loseEvenly_B89 rec6 s a1 a2 a6 a8 (D_X9_loseEvenly_L89 rec6 s a1 a2 a6 a8 n) a4 a5 a9 = some r := h
    unfold D_X9_loseEvenly_B89 at h
    refine zk_iload dX9_loseEvenly_89 rfl ?_
    refine zk_aload_n dX9_loseEvenly_91 rfl rfl ?_
    refine zf_X9_244 rfl dX9_loseEvenly_92 ?_
    refine zk_icmp_ge (tgt := 144) dX9_loseEvenly_95 rfl (fun g95 => ?_) (fun g95 => ?_)
    · replace h := zpos g95 h
      refine zk_aload_n dX9_loseEvenly_144 rfl rfl ?_
      refine zk_aload_n dX9_loseEvenly_145 rfl rfl ?_
      refine zf_X9_30 rfl dX9_loseEvenly_146 ?_
      refine zk_iload_n dX9_loseEvenly_149 rfl rfl ?_
      obtain ⟨g150, h⟩ := zguard h
      refine zk_iald (zoI_of rfl g150) dX9_loseEvenly_150 ?_
      refine zk_i2l dX9_loseEvenly_151 ?_
      refine zk_iload dX9_loseEvenly_152 rfl ?_
      refine zk_i2l dX9_loseEvenly_154 ?_
      refine zk_lmul dX9_loseEvenly_155 ?_
      refine zk_lload dX9_loseEvenly_156 rfl ?_
      refine zk_lsub dX9_loseEvenly_158 ?_
      refine zp_X9_252 rfl dX9_loseEvenly_159 ?_
      refine zk_aload_n dX9_loseEvenly_162 rfl rfl ?_
      refine zk_iload dX9_loseEvenly_163 rfl ?_
      refine zk_i2l dX9_loseEvenly_165 ?_
      refine zp_X9_255 rfl dX9_loseEvenly_166 ?_
      refine zk_goto (tgt := 6) dX9_loseEvenly_169 rfl ?_
      refine zk_mask [true, true, true, false, true, true, false, false, false, false] ?_
      exact hr6 _ _ _ h
    · replace h := zneg g95 h
      refine zk_iload dX9_loseEvenly_98 rfl ?_
      refine zk_iload dX9_loseEvenly_100 rfl ?_
      obtain ⟨p102, h102, h⟩ := zbind h
      refine zc_X9_121 [] (As := [.int _, .int _]) (ok_X9_has hj _ _ _ h102) rfl ⟨Nat.le_of_ble_eq_true rfl, Nat.le_of_ble_eq_true rfl⟩ ⟨Nat.le_refl _, Nat.le_refl _⟩ rfl rfl (Nat.le_of_ble_eq_true rfl) dX9_loseEvenly_102 ?_
      refine zk_if_ne (tgt := 138) dX9_loseEvenly_105 rfl (fun g105 => ?_) (fun g105 => ?_)
      · replace h := zneg g105 h
        refine zk_iinc dX9_loseEvenly_138 rfl (zinc (m := 1) (by decide)) (by decide) (zk_eq [_, _, _, _, _, _, _, _, _, _] rfl ?_)
        refine zk_goto (tgt := 89) dX9_loseEvenly_141 rfl ?_
        exact hr89 _ _ _ h
      · replace h := zpos g105 h
        refine zk_aload_n dX9_loseEvenly_108 rfl rfl ?_
        refine zf_X9_30 rfl dX9_loseEvenly_109 ?_
        refine zk_iload dX9_loseEvenly_112 rfl ?_
        obtain ⟨g114, h⟩ := zguard h
        refine zk_iald (zoI_of rfl g114) dX9_loseEvenly_114 ?_
        refine zk_i2l dX9_loseEvenly_115 ?_
        refine zk_iload dX9_loseEvenly_116 rfl ?_
        refine zk_i2l dX9_loseEvenly_118 ?_
        refine zk_lmul dX9_loseEvenly_119 ?_
        refine zk_lload dX9_loseEvenly_120 rfl ?_
        refine zk_lcmp dX9_loseEvenly_122 ?_
        refine zk_if_ge (tgt := 138) dX9_loseEvenly_123 rfl (fun g123 => ?_) (fun g123 => ?_)
        · replace h := zpos g123 h
          refine zk_iinc dX9_loseEvenly_138 rfl (zinc (m := 1) (by decide)) (by decide) (zk_eq [_, _, _, _, _, _, _, _, _, _] rfl ?_)
          refine zk_goto (tgt := 89) dX9_loseEvenly_141 rfl ?_
          exact hr89 _ _ _ h
        · replace h := zneg g123 h
          refine zk_iload dX9_loseEvenly_126 rfl ?_
          refine zk_iconst (v := 1) dX9_loseEvenly_128 (by decide) ?_
          refine zk_iload dX9_loseEvenly_129 rfl ?_
          refine zk_ishl dX9_loseEvenly_131 ?_
          refine zk_ior dX9_loseEvenly_132 ?_
          refine zk_istore (i := 4) dX9_loseEvenly_133 (by decide) (zk_eq [_, _, _, _, _, _, _, _, _, _] rfl ?_)
          refine zk_iconst (v := 1) dX9_loseEvenly_135 (by decide) ?_
          refine zk_istore (i := 5) dX9_loseEvenly_136 (by decide) (zk_eq [_, _, _, _, _, _, _, _, _, _] rfl ?_)
          refine zk_iinc dX9_loseEvenly_138 rfl (zinc (m := 1) (by decide)) (by decide) (zk_eq [_, _, _, _, _, _, _, _, _, _] rfl ?_)
          refine zk_goto (tgt := 89) dX9_loseEvenly_141 rfl ?_
          exact hr89 _ _ _ h
def D_X9_loseEvenly_J77 (rec6 : Int32 → Int32 → zS → Option zS) (rec24 : Int64 → Int32 → Int32 → Option zS) (s : zS) (a1 : Int32) (a2 : Int64) (a4 : Int32) (a5 : Int32) (a6 : Int64) (a9 : Int32) (k0 : Int32) (k1 : Int32) : Option zS :=
  rec24 a6 (k0 + k1) (a9 + 1)
set_option maxRecDepth 100000 in
theorem ok_X9_loseEvenly_J77 {l : Launch} {D : va_G} {ad : Nat → Nat} {cA : Nat → ClassId} (hj : zInj ad) (r : zS) (s : zS) (a1 : Int32) (a2 : Int64) (a4 : Int32) (a5 : Int32) (a6 : Int64) (a9 : Int32) (k0 : Int32) (k1 : Int32) (rec6 : Int32 → Int32 → zS → Option zS) (hr6 : ∀ (b4 : Int32) (b5 : Int32) (s : zS), rec6 b4 b5 s = some r → zOk l D ad cA (zJm jX9_loseEvenly) (zEnd D ad cA none r) 6 [some (.ref 66), some (.int a1), some (.long a2), none, some (.int b4), some (.int b5), none, none, none, none] [] s) (rec24 : Int64 → Int32 → Int32 → Option zS) (hr24 : ∀ (b6 : Int64) (b8 : Int32) (b9 : Int32), rec24 b6 b8 b9 = some r → zOk l D ad cA (zJm jX9_loseEvenly) (zEnd D ad cA none r) 24 [some (.ref 66), some (.int a1), some (.long a2), none, some (.int a4), some (.int a5), some (.long b6), none, some (.int b8), some (.int b9)] [] s) (h : D_X9_loseEvenly_J77 rec6 rec24 s a1 a2 a4 a5 a6 a9 k0 k1 = some r) : zOk l D ad cA (zJm jX9_loseEvenly) (zEnd D ad cA none r) 77 [some (.ref 66), some (.int a1), some (.long a2), none, some (.int a4), some (.int a5), some (.long a6), none, none, some (.int a9)] [.int k1, .int k0] s := by
  unfold D_X9_loseEvenly_J77 at h
  refine zk_iadd dX9_loseEvenly_77 ?_
  refine zk_istore (i := 8) dX9_loseEvenly_78 (by decide) (zk_eq [_, _, _, _, _, _, _, _, _, _] rfl ?_)
  refine zk_iinc dX9_loseEvenly_80 rfl (zinc (m := 1) (by decide)) (by decide) (zk_eq [_, _, _, _, _, _, _, _, _, _] rfl ?_)
  refine zk_goto (tgt := 24) dX9_loseEvenly_83 rfl ?_
  exact hr24 _ _ _ h
def D_X9_loseEvenly_J57 (rec6 : Int32 → Int32 → zS → Option zS) (rec24 : Int64 → Int32 → Int32 → Option zS) (s : zS) (a1 : Int32) (a2 : Int64) (a4 : Int32) (a5 : Int32) (a8 : Int32) (a9 : Int32) (k0 : Int64) (k1 : Int64) : Option zS :=
  (D_X9_has a4 a9).bind fun p66 =>
  if p66 = 0 then (
    D_X9_loseEvenly_J77 rec6 rec24 s a1 a2 a4 a5 (k0 + k1) a9 a8 (1 : Int32)
  ) else (
    D_X9_loseEvenly_J77 rec6 rec24 s a1 a2 a4 a5 (k0 + k1) a9 a8 (0 : Int32)
  )
set_option maxRecDepth 100000 in
theorem ok_X9_loseEvenly_J57 {l : Launch} {D : va_G} {ad : Nat → Nat} {cA : Nat → ClassId} (hj : zInj ad) (r : zS) (s : zS) (a1 : Int32) (a2 : Int64) (a4 : Int32) (a5 : Int32) (a8 : Int32) (a9 : Int32) (k0 : Int64) (k1 : Int64) (rec6 : Int32 → Int32 → zS → Option zS) (hr6 : ∀ (b4 : Int32) (b5 : Int32) (s : zS), rec6 b4 b5 s = some r → zOk l D ad cA (zJm jX9_loseEvenly) (zEnd D ad cA none r) 6 [some (.ref 66), some (.int a1), some (.long a2), none, some (.int b4), some (.int b5), none, none, none, none] [] s) (rec24 : Int64 → Int32 → Int32 → Option zS) (hr24 : ∀ (b6 : Int64) (b8 : Int32) (b9 : Int32), rec24 b6 b8 b9 = some r → zOk l D ad cA (zJm jX9_loseEvenly) (zEnd D ad cA none r) 24 [some (.ref 66), some (.int a1), some (.long a2), none, some (.int a4), some (.int a5), some (.long b6), none, some (.int b8), some (.int b9)] [] s) (h : D_X9_loseEvenly_J57 rec6 rec24 s a1 a2 a4 a5 a8 a9 k0 k1 = some r) : zOk l D ad cA (zJm jX9_loseEvenly) (zEnd D ad cA none r) 57 [some (.ref 66), some (.int a1), some (.long a2), none, some (.int a4), some (.int a5), none, none, some (.int a8), some (.int a9)] [.long k1, .long k0] s := by
  unfold D_X9_loseEvenly_J57 at h
  refine zk_ladd dX9_loseEvenly_57 ?_
  refine zk_lstore (i := 6) dX9_loseEvenly_58 (by decide) (zk_eq [_, _, _, _, _, _, _, _, _, _] rfl ?_)
  refine zk_iload dX9_loseEvenly_60 rfl ?_
  refine zk_iload dX9_loseEvenly_62 rfl ?_
  refine zk_iload dX9_loseEvenly_64 rfl ?_
  obtain ⟨p66, h66, h⟩ := zbind h
  refine zc_X9_121 [.int _] (As := [.int _, .int _]) (ok_X9_has hj _ _ _ h66) rfl ⟨Nat.le_of_ble_eq_true rfl, Nat.le_of_ble_eq_true rfl⟩ ⟨Nat.le_refl _, Nat.le_refl _⟩ rfl rfl (Nat.le_of_ble_eq_true rfl) dX9_loseEvenly_66 ?_
  refine zk_if_eq (tgt := 76) dX9_loseEvenly_69 rfl (fun g69 => ?_) (fun g69 => ?_)
  · replace h := zpos g69 h
    refine zk_iconst (v := 1) dX9_loseEvenly_76 (by decide) ?_
    refine zk_mask [true, true, true, false, true, true, true, false, false, true] ?_
    exact ok_X9_loseEvenly_J77 hj r _ _ _ _ _ _ _ _ _ _ hr6 _ hr24 h
  · replace h := zneg g69 h
    refine zk_iconst (v := 0) dX9_loseEvenly_72 (by decide) ?_
    refine zk_goto (tgt := 77) dX9_loseEvenly_73 rfl ?_
    refine zk_mask [true, true, true, false, true, true, true, false, false, true] ?_
    exact ok_X9_loseEvenly_J77 hj r _ _ _ _ _ _ _ _ _ _ hr6 _ hr24 h
def D_X9_loseEvenly_B24 (rec6 : Int32 → Int32 → zS → Option zS) (s : zS) (a1 : Int32) (a2 : Int64) (a4 : Int32) (a5 : Int32) (rec24 : Int64 → Int32 → Int32 → Option zS) (a6 : Int64) (a8 : Int32) (a9 : Int32) : Option zS :=
    if (s.1 66 8) ≤ a9 then (
      D_X9_loseEvenly_L89 rec6 s a1 a2 a6 a8 zFU a4 a5 (0 : Int32)
    ) else (
      (D_X9_has a4 a9).bind fun p39 =>
      if p39 = 0 then (
        zgd (zin a9 6 = true) <|
        D_X9_loseEvenly_J57 rec6 rec24 s a1 a2 a4 a5 a8 a9 a6 ((s.1 70 a9.toNatClampNeg).toInt64)
      ) else (
        D_X9_loseEvenly_J57 rec6 rec24 s a1 a2 a4 a5 a8 a9 a6 (0 : Int64)
      )
    )
def D_X9_loseEvenly_L24 (rec6 : Int32 → Int32 → zS → Option zS) (s : zS) (a1 : Int32) (a2 : Int64) (a4 : Int32) (a5 : Int32) (n : Nat) (a6 : Int64) (a8 : Int32) (a9 : Int32) : Option zS := zfx (fun (rec : Int64 × Int32 × Int32 → Option zS) q => D_X9_loseEvenly_B24 rec6 s a1 a2 a4 a5 (fun v0 v1 v2 => rec (v0, v1, v2)) q.1 q.2.1 q.2.2) n (a6, a8, a9)
set_option maxRecDepth 100000 in
theorem D_X9_loseEvenly_L24_s (rec6 : Int32 → Int32 → zS → Option zS) (s : zS) (a1 : Int32) (a2 : Int64) (a4 : Int32) (a5 : Int32) (n : Nat) (a6 : Int64) (a8 : Int32) (a9 : Int32) : D_X9_loseEvenly_L24 rec6 s a1 a2 a4 a5 (n + 1) a6 a8 a9 = D_X9_loseEvenly_B24 rec6 s a1 a2 a4 a5 (D_X9_loseEvenly_L24 rec6 s a1 a2 a4 a5 n) a6 a8 a9 := rfl
set_option maxRecDepth 100000 in
theorem ok_X9_loseEvenly_L24 {l : Launch} {D : va_G} {ad : Nat → Nat} {cA : Nat → ClassId} (hj : zInj ad) (r : zS) (s : zS) (a1 : Int32) (a2 : Int64) (a4 : Int32) (a5 : Int32) (rec6 : Int32 → Int32 → zS → Option zS) (hr6 : ∀ (b4 : Int32) (b5 : Int32) (s : zS), rec6 b4 b5 s = some r → zOk l D ad cA (zJm jX9_loseEvenly) (zEnd D ad cA none r) 6 [some (.ref 66), some (.int a1), some (.long a2), none, some (.int b4), some (.int b5), none, none, none, none] [] s) : ∀ (n : Nat) (a6 : Int64) (a8 : Int32) (a9 : Int32), D_X9_loseEvenly_L24 rec6 s a1 a2 a4 a5 n a6 a8 a9 = some r → zOk l D ad cA (zJm jX9_loseEvenly) (zEnd D ad cA none r) 24 [some (.ref 66), some (.int a1), some (.long a2), none, some (.int a4), some (.int a5), some (.long a6), none, some (.int a8), some (.int a9)] [] s := by
  intro n
  induction n with
  | zero =>
    intro a6 a8 a9 h
    have h0 : (none : Option zS) = some r := h
    cases h0
  | succ n hr24 =>
    intro a6 a8 a9 h
    have h : D_X9_loseEvenly_B24 rec6 s a1 a2 a4 a5 (D_X9_loseEvenly_L24 rec6 s a1 a2 a4 a5 n) a6 a8 a9 = some r := h
    unfold D_X9_loseEvenly_B24 at h
    refine zk_iload dX9_loseEvenly_24 rfl ?_
    refine zk_aload_n dX9_loseEvenly_26 rfl rfl ?_
    refine zf_X9_244 rfl dX9_loseEvenly_27 ?_
    refine zk_icmp_ge (tgt := 86) dX9_loseEvenly_30 rfl (fun g30 => ?_) (fun g30 => ?_)
    · replace h := zpos g30 h
      refine zk_iconst (v := 0) dX9_loseEvenly_86 (by decide) ?_
      refine zk_istore (i := 9) dX9_loseEvenly_87 (by decide) (zk_eq [_, _, _, _, _, _, _, _, _, _] rfl ?_)
      exact ok_X9_loseEvenly_L89 hj r _ _ _ _ _ _ hr6 _ _ _ _ h
    · replace h := zneg g30 h
      refine zk_lload dX9_loseEvenly_33 rfl ?_
      refine zk_iload dX9_loseEvenly_35 rfl ?_
      refine zk_iload dX9_loseEvenly_37 rfl ?_
      obtain ⟨p39, h39, h⟩ := zbind h
      refine zc_X9_121 [.long _] (As := [.int _, .int _]) (ok_X9_has hj _ _ _ h39) rfl ⟨Nat.le_of_ble_eq_true rfl, Nat.le_of_ble_eq_true rfl⟩ ⟨Nat.le_refl _, Nat.le_refl _⟩ rfl rfl (Nat.le_of_ble_eq_true rfl) dX9_loseEvenly_39 ?_
      refine zk_if_eq (tgt := 49) dX9_loseEvenly_42 rfl (fun g42 => ?_) (fun g42 => ?_)
      · replace h := zpos g42 h
        refine zk_aload_n dX9_loseEvenly_49 rfl rfl ?_
        refine zf_X9_30 rfl dX9_loseEvenly_50 ?_
        refine zk_iload dX9_loseEvenly_53 rfl ?_
        obtain ⟨g55, h⟩ := zguard h
        refine zk_iald (zoI_of rfl g55) dX9_loseEvenly_55 ?_
        refine zk_i2l dX9_loseEvenly_56 ?_
        refine zk_mask [true, true, true, false, true, true, false, false, true, true] ?_
        exact ok_X9_loseEvenly_J57 hj r _ _ _ _ _ _ _ _ _ _ hr6 _ hr24 h
      · replace h := zneg g42 h
        refine zk_lconst (v := 0) dX9_loseEvenly_45 (by decide) ?_
        refine zk_goto (tgt := 57) dX9_loseEvenly_46 rfl ?_
        refine zk_mask [true, true, true, false, true, true, false, false, true, true] ?_
        exact ok_X9_loseEvenly_J57 hj r _ _ _ _ _ _ _ _ _ _ hr6 _ hr24 h
def D_X9_loseEvenly_B6 (a1 : Int32) (a2 : Int64) (rec6 : Int32 → Int32 → zS → Option zS) (a4 : Int32) (a5 : Int32) (s : zS) : Option zS :=
    if a5 = 0 then (
      (D_X9_has a4 a1).bind fun p176 =>
      if p176 = 0 then (
        D_X9_loseEvenly_J190 s (s.2 66 38)
      ) else (
        D_X9_loseEvenly_J190 s (0 : Int64)
      )
    ) else (
      D_X9_loseEvenly_L24 rec6 s a1 a2 a4 (0 : Int32) zFU (-a2) (0 : Int32) (0 : Int32)
    )
def D_X9_loseEvenly_L6 (a1 : Int32) (a2 : Int64) (n : Nat) (a4 : Int32) (a5 : Int32) (s : zS) : Option zS := zfx (fun (rec : Int32 × Int32 × zS → Option zS) q => D_X9_loseEvenly_B6 a1 a2 (fun v0 v1 v2 => rec (v0, v1, v2)) q.1 q.2.1 q.2.2) n (a4, a5, s)
set_option maxRecDepth 100000 in
theorem D_X9_loseEvenly_L6_s (a1 : Int32) (a2 : Int64) (n : Nat) (a4 : Int32) (a5 : Int32) (s : zS) : D_X9_loseEvenly_L6 a1 a2 (n + 1) a4 a5 s = D_X9_loseEvenly_B6 a1 a2 (D_X9_loseEvenly_L6 a1 a2 n) a4 a5 s := rfl
set_option maxRecDepth 100000 in
theorem ok_X9_loseEvenly_L6 {l : Launch} {D : va_G} {ad : Nat → Nat} {cA : Nat → ClassId} (hj : zInj ad) (r : zS) (a1 : Int32) (a2 : Int64) : ∀ (n : Nat) (a4 : Int32) (a5 : Int32) (s : zS), D_X9_loseEvenly_L6 a1 a2 n a4 a5 s = some r → zOk l D ad cA (zJm jX9_loseEvenly) (zEnd D ad cA none r) 6 [some (.ref 66), some (.int a1), some (.long a2), none, some (.int a4), some (.int a5), none, none, none, none] [] s := by
  intro n
  induction n with
  | zero =>
    intro a4 a5 s h
    have h0 : (none : Option zS) = some r := h
    cases h0
  | succ n hr6 =>
    intro a4 a5 s h
    have h : D_X9_loseEvenly_B6 a1 a2 (D_X9_loseEvenly_L6 a1 a2 n) a4 a5 s = some r := h
    unfold D_X9_loseEvenly_B6 at h
    refine zk_iload dX9_loseEvenly_6 rfl ?_
    refine zk_if_eq (tgt := 172) dX9_loseEvenly_8 rfl (fun g8 => ?_) (fun g8 => ?_)
    · replace h := zpos g8 h
      refine zk_aload_n dX9_loseEvenly_172 rfl rfl ?_
      refine zk_iload dX9_loseEvenly_173 rfl ?_
      refine zk_iload_n dX9_loseEvenly_175 rfl rfl ?_
      obtain ⟨p176, h176, h⟩ := zbind h
      refine zc_X9_121 [.ref _] (As := [.int _, .int _]) (ok_X9_has hj _ _ _ h176) rfl ⟨Nat.le_of_ble_eq_true rfl, Nat.le_of_ble_eq_true rfl⟩ ⟨Nat.le_refl _, Nat.le_refl _⟩ rfl rfl (Nat.le_of_ble_eq_true rfl) dX9_loseEvenly_176 ?_
      refine zk_if_eq (tgt := 186) dX9_loseEvenly_179 rfl (fun g179 => ?_) (fun g179 => ?_)
      · replace h := zpos g179 h
        refine zk_aload_n dX9_loseEvenly_186 rfl rfl ?_
        refine zf_X9_252 rfl dX9_loseEvenly_187 ?_
        refine zk_mask [false, false, false, false, false, false, false, false, false, false] ?_
        exact ok_X9_loseEvenly_J190 hj r _ _ h
      · replace h := zneg g179 h
        refine zk_lconst (v := 0) dX9_loseEvenly_182 (by decide) ?_
        refine zk_goto (tgt := 190) dX9_loseEvenly_183 rfl ?_
        refine zk_mask [false, false, false, false, false, false, false, false, false, false] ?_
        exact ok_X9_loseEvenly_J190 hj r _ _ h
    · replace h := zneg g8 h
      refine zk_iconst (v := 0) dX9_loseEvenly_11 (by decide) ?_
      refine zk_istore (i := 5) dX9_loseEvenly_12 (by decide) (zk_eq [_, _, _, _, _, _, _, _, _, _] rfl ?_)
      refine zk_lload_n dX9_loseEvenly_14 rfl rfl ?_
      refine zk_lneg dX9_loseEvenly_15 ?_
      refine zk_lstore (i := 6) dX9_loseEvenly_16 (by decide) (zk_eq [_, _, _, _, _, _, _, _, _, _] rfl ?_)
      refine zk_iconst (v := 0) dX9_loseEvenly_18 (by decide) ?_
      refine zk_istore (i := 8) dX9_loseEvenly_19 (by decide) (zk_eq [_, _, _, _, _, _, _, _, _, _] rfl ?_)
      refine zk_iconst (v := 0) dX9_loseEvenly_21 (by decide) ?_
      refine zk_istore (i := 9) dX9_loseEvenly_22 (by decide) (zk_eq [_, _, _, _, _, _, _, _, _, _] rfl ?_)
      exact ok_X9_loseEvenly_L24 hj r _ _ _ _ _ _ hr6 _ _ _ _ h
def D_X9_loseEvenly (s : zS) (a1 : Int32) (a2 : Int64) : Option zS :=
  D_X9_loseEvenly_L6 a1 a2 zFU (0 : Int32) (1 : Int32) s
set_option maxRecDepth 100000 in
theorem ok_X9_loseEvenly {l : Launch} {D : va_G} {ad : Nat → Nat} {cA : Nat → ClassId} (hj : zInj ad) (s : zS) (a1 : Int32) (a2 : Int64) {r : zS} (h : D_X9_loseEvenly s a1 a2 = some r) : zMet l D ad cA jX9_loseEvenly [.ref 66, .int a1, .long a2] s none r := by
  refine zMet_of jX9_loseEvenly [some (.ref 66), some (.int a1), some (.long a2), none, none, none, none, none, none, none] (by decide +kernel) (Nat.le_of_ble_eq_true rfl) rfl hj ?_
  unfold D_X9_loseEvenly at h
  refine zk_iconst (v := 0) dX9_loseEvenly_0 (by decide) ?_
  refine zk_istore (i := 4) dX9_loseEvenly_1 (by decide) (zk_eq [_, _, _, _, _, _, _, _, _, _] rfl ?_)
  refine zk_iconst (v := 1) dX9_loseEvenly_3 (by decide) ?_
  refine zk_istore (i := 5) dX9_loseEvenly_4 (by decide) (zk_eq [_, _, _, _, _, _, _, _, _, _] rfl ?_)
  exact ok_X9_loseEvenly_L6 hj r _ _ _ _ _ _ h
