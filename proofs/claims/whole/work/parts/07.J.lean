def D_J6_bitCount_0f7a4_J48 (a0 : Int32) : Option Int32 :=
  some (a0 &&& (63 : Int32))
set_option maxRecDepth 100000 in
theorem ok_J6_bitCount_0f7a4_J48 {l : Launch} {D : va_G} {ad : Nat → Nat} {cA : Nat → ClassId} (hj : zInj ad) (r : Int32) (s : zS) (a0 : Int32) (h : D_J6_bitCount_0f7a4_J48 a0 = some r) : zOk l D ad cA (zJm jJ6_bitCount_0f7a4) (zEnd D ad cA (some (.int r)) s) 48 [some (.int a0)] [] s := by
  unfold D_J6_bitCount_0f7a4_J48 at h
  refine zk_iload_n dJ6_bitCount_0f7a4_48 rfl rfl ?_
  refine zk_bipush (v := 63) dJ6_bitCount_0f7a4_49 (by decide) ?_
  refine zk_iand dJ6_bitCount_0f7a4_51 ?_
  have e9 := Option.some.inj h
  subst e9
  exact zk_iret rfl ⟨rfl, rfl⟩ dJ6_bitCount_0f7a4_52
def D_J6_bitCount_0f7a4_J41 (a0 : Int32) : Option Int32 :=
  D_J6_bitCount_0f7a4_J48 (a0 + (a0.toUInt32 >>> ((16 : Int32).toUInt32 &&& Int32.toUInt32 31)).toInt32)
set_option maxRecDepth 100000 in
theorem ok_J6_bitCount_0f7a4_J41 {l : Launch} {D : va_G} {ad : Nat → Nat} {cA : Nat → ClassId} (hj : zInj ad) (r : Int32) (s : zS) (a0 : Int32) (h : D_J6_bitCount_0f7a4_J41 a0 = some r) : zOk l D ad cA (zJm jJ6_bitCount_0f7a4) (zEnd D ad cA (some (.int r)) s) 41 [some (.int a0)] [] s := by
  unfold D_J6_bitCount_0f7a4_J41 at h
  refine zk_iload_n dJ6_bitCount_0f7a4_41 rfl rfl ?_
  refine zk_iload_n dJ6_bitCount_0f7a4_42 rfl rfl ?_
  refine zk_bipush (v := 16) dJ6_bitCount_0f7a4_43 (by decide) ?_
  refine zk_iushr dJ6_bitCount_0f7a4_45 rfl ?_
  refine zk_iadd dJ6_bitCount_0f7a4_46 ?_
  refine zk_istore_n (i := 0) dJ6_bitCount_0f7a4_47 rfl (by decide) (zk_eq [_] rfl ?_)
  exact ok_J6_bitCount_0f7a4_J48 hj r _ _ h
def D_J6_bitCount_0f7a4_J34 (a0 : Int32) : Option Int32 :=
  D_J6_bitCount_0f7a4_J41 (a0 + (a0.toUInt32 >>> ((8 : Int32).toUInt32 &&& Int32.toUInt32 31)).toInt32)
set_option maxRecDepth 100000 in
theorem ok_J6_bitCount_0f7a4_J34 {l : Launch} {D : va_G} {ad : Nat → Nat} {cA : Nat → ClassId} (hj : zInj ad) (r : Int32) (s : zS) (a0 : Int32) (h : D_J6_bitCount_0f7a4_J34 a0 = some r) : zOk l D ad cA (zJm jJ6_bitCount_0f7a4) (zEnd D ad cA (some (.int r)) s) 34 [some (.int a0)] [] s := by
  unfold D_J6_bitCount_0f7a4_J34 at h
  refine zk_iload_n dJ6_bitCount_0f7a4_34 rfl rfl ?_
  refine zk_iload_n dJ6_bitCount_0f7a4_35 rfl rfl ?_
  refine zk_bipush (v := 8) dJ6_bitCount_0f7a4_36 (by decide) ?_
  refine zk_iushr dJ6_bitCount_0f7a4_38 rfl ?_
  refine zk_iadd dJ6_bitCount_0f7a4_39 ?_
  refine zk_istore_n (i := 0) dJ6_bitCount_0f7a4_40 rfl (by decide) (zk_eq [_] rfl ?_)
  exact ok_J6_bitCount_0f7a4_J41 hj r _ _ h
def D_J6_bitCount_0f7a4_J24 (a0 : Int32) : Option Int32 :=
  D_J6_bitCount_0f7a4_J34 ((a0 + (a0.toUInt32 >>> ((4 : Int32).toUInt32 &&& Int32.toUInt32 31)).toInt32) &&& (252645135 : Int32))
set_option maxRecDepth 100000 in
theorem ok_J6_bitCount_0f7a4_J24 {l : Launch} {D : va_G} {ad : Nat → Nat} {cA : Nat → ClassId} (hj : zInj ad) (r : Int32) (s : zS) (a0 : Int32) (h : D_J6_bitCount_0f7a4_J24 a0 = some r) : zOk l D ad cA (zJm jJ6_bitCount_0f7a4) (zEnd D ad cA (some (.int r)) s) 24 [some (.int a0)] [] s := by
  unfold D_J6_bitCount_0f7a4_J24 at h
  refine zk_iload_n dJ6_bitCount_0f7a4_24 rfl rfl ?_
  refine zk_iload_n dJ6_bitCount_0f7a4_25 rfl rfl ?_
  refine zk_iconst (v := 4) dJ6_bitCount_0f7a4_26 (by decide) ?_
  refine zk_iushr dJ6_bitCount_0f7a4_27 rfl ?_
  refine zk_iadd dJ6_bitCount_0f7a4_28 ?_
  refine zk_ldcw dJ6_bitCount_0f7a4_29 zw_J6_267 ?_
  refine zk_iand dJ6_bitCount_0f7a4_32 ?_
  refine zk_istore_n (i := 0) dJ6_bitCount_0f7a4_33 rfl (by decide) (zk_eq [_] rfl ?_)
  exact ok_J6_bitCount_0f7a4_J34 hj r _ _ h
def D_J6_bitCount_0f7a4_J10 (a0 : Int32) : Option Int32 :=
  D_J6_bitCount_0f7a4_J24 ((a0 &&& (858993459 : Int32)) + ((a0.toUInt32 >>> ((2 : Int32).toUInt32 &&& Int32.toUInt32 31)).toInt32 &&& (858993459 : Int32)))
set_option maxRecDepth 100000 in
theorem ok_J6_bitCount_0f7a4_J10 {l : Launch} {D : va_G} {ad : Nat → Nat} {cA : Nat → ClassId} (hj : zInj ad) (r : Int32) (s : zS) (a0 : Int32) (h : D_J6_bitCount_0f7a4_J10 a0 = some r) : zOk l D ad cA (zJm jJ6_bitCount_0f7a4) (zEnd D ad cA (some (.int r)) s) 10 [some (.int a0)] [] s := by
  unfold D_J6_bitCount_0f7a4_J10 at h
  refine zk_iload_n dJ6_bitCount_0f7a4_10 rfl rfl ?_
  refine zk_ldcw dJ6_bitCount_0f7a4_11 zw_J6_266 ?_
  refine zk_iand dJ6_bitCount_0f7a4_14 ?_
  refine zk_iload_n dJ6_bitCount_0f7a4_15 rfl rfl ?_
  refine zk_iconst (v := 2) dJ6_bitCount_0f7a4_16 (by decide) ?_
  refine zk_iushr dJ6_bitCount_0f7a4_17 rfl ?_
  refine zk_ldcw dJ6_bitCount_0f7a4_18 zw_J6_266 ?_
  refine zk_iand dJ6_bitCount_0f7a4_21 ?_
  refine zk_iadd dJ6_bitCount_0f7a4_22 ?_
  refine zk_istore_n (i := 0) dJ6_bitCount_0f7a4_23 rfl (by decide) (zk_eq [_] rfl ?_)
  exact ok_J6_bitCount_0f7a4_J24 hj r _ _ h
def D_J6_bitCount_0f7a4 (a0 : Int32) : Option Int32 :=
  D_J6_bitCount_0f7a4_J10 (a0 - ((a0.toUInt32 >>> ((1 : Int32).toUInt32 &&& Int32.toUInt32 31)).toInt32 &&& (1431655765 : Int32)))
set_option maxRecDepth 100000 in
theorem ok_J6_bitCount_0f7a4 {l : Launch} {D : va_G} {ad : Nat → Nat} {cA : Nat → ClassId} (hj : zInj ad) (s : zS) (a0 : Int32) {r : Int32} (h : D_J6_bitCount_0f7a4 a0 = some r) : zMet l D ad cA jJ6_bitCount_0f7a4 [.int a0] s (some (.int r)) s := by
  refine zMet_of jJ6_bitCount_0f7a4 [some (.int a0)] (by decide +kernel) (Nat.le_of_ble_eq_true rfl) rfl hj ?_
  unfold D_J6_bitCount_0f7a4 at h
  refine zk_iload_n dJ6_bitCount_0f7a4_0 rfl rfl ?_
  refine zk_iload_n dJ6_bitCount_0f7a4_1 rfl rfl ?_
  refine zk_iconst (v := 1) dJ6_bitCount_0f7a4_2 (by decide) ?_
  refine zk_iushr dJ6_bitCount_0f7a4_3 rfl ?_
  refine zk_ldcw dJ6_bitCount_0f7a4_4 zw_J6_265 ?_
  refine zk_iand dJ6_bitCount_0f7a4_7 ?_
  refine zk_isub dJ6_bitCount_0f7a4_8 ?_
  refine zk_istore_n (i := 0) dJ6_bitCount_0f7a4_9 rfl (by decide) (zk_eq [_] rfl ?_)
  exact ok_J6_bitCount_0f7a4_J10 hj r _ _ h
