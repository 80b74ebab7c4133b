theorem zwk_L_9 : Cond.methodLink RL 9 yX8_init ∈ zU := zmU 176 (by decide +kernel) rfl
theorem zwm_X8_init : Cond.instanceMethod yX8_init ∈ zU := zmU 177 (by decide +kernel) rfl
theorem zwi2_X8 : Cond.initialized RX8 ∈ zU := zmU 161 (by decide +kernel) rfl
theorem zwc_X8_init : Cond.code yX8_init cX8_init 1 none ∈ zU := zmU 178 (by decide +kernel) rfl
theorem zwk_L_12 : Cond.methodLink RL 12 yX9_init ∈ zU := zmU 1180 (by decide +kernel) rfl
theorem zwm_X9_init : Cond.instanceMethod yX9_init ∈ zU := zmU 1181 (by decide +kernel) rfl
theorem zwi2_X9 : Cond.initialized RX9 ∈ zU := zmU 170 (by decide +kernel) rfl
theorem zwc_X9_init : Cond.code yX9_init cX9_init 1 none ∈ zU := zmU 1182 (by decide +kernel) rfl
theorem zwn_L_7 : Cond.classLink RL 7 RX8 ∈ zU := zmU 174 (by decide +kernel) rfl
theorem zwj_X8 : Cond.instantiable RX8 7 ∈ zU := zmU 175 (by decide +kernel) rfl
theorem zwn_L_10 : Cond.classLink RL 10 RX9 ∈ zU := zmU 1178 (by decide +kernel) rfl
theorem zwj_X9 : Cond.instantiable RX9 43 ∈ zU := zmU 1179 (by decide +kernel) rfl
def zs0 : zS := (fun c => if c = 2 then (fun k => if k = 0 then 3 else 0) else if c = 38 then (fun k => if k = 1 then 1 else if k = 8 then -1 else 0) else if c = 47 then (fun k => if k = 0 then 1 else 0) else if c = 66 then (fun k => if k = 0 then 3 else if k = 7 then 1 else if k = 11 then 1 else 0) else fun _ => 0, fun c => if c = 1 then (fun k => if k = 1 then 1 else 0) else if c = 33 then (fun k => if k = 1 then 1 else 0) else if c = 34 then (fun k => if k = 1 then 1 else 0) else if c = 35 then (fun k => if k = 1 then 1 else 0) else if c = 36 then (fun k => if k = 1 then 1 else 0) else if c = 37 then (fun k => if k = 1 then 1 else 0) else if c = 66 then (fun k => if k = 4 then 1 else 0) else fun _ => 0)
def zpf : List Nat := [0, 1, 2, 3, 4, 5, 6, 7, 8, 9, 10, 11, 12, 13, 14, 15, 16, 17, 18, 19, 20, 21, 22, 23, 24, 25, 26, 27, 28, 29, 30, 31, 32, 33, 34, 35, 36, 37, 38, 39, 40, 41, 42, 43, 44, 45, 46, 47, 48, 49, 50, 51, 52, 53, 54, 55, 56, 57, 58, 59, 60, 61, 62, 63, 64, 65, 66, 67, 68, 69, 70, 71, 72, 73, 74, 75, 76, 77, 78, 79, 80, 81, 82, 83, 84, 85, 86, 87]
def zad (fa b : Nat) (L : List Nat) (i : Nat) : Nat := if i = 200 then fa else if i = 201 then b else L.getD i 0
theorem zE_refs {ad : Nat → Nat} {cA : Nat → ClassId} {σ : zS} {i t m n : Nat} {l : List Nat} {r : Nat → Nat} (hs : zshp i = (t + 3, m, l)) (hn : l.length = n) (hl : ∀ j, j < n → ad (l.getD j 0) = r j) : zE ad cA σ i = .inl (cA (t + 2), n, .inr (.inr (.inr (.inr (fun j => if j < n then some (r j) else none))))) := by
  subst hn
  rw [zE_r hs]
  have : (fun j => (l[j]?).map ad) = (fun j => if j < l.length then some (r j) else none) := by
    funext j
    by_cases hj : j < l.length
    · rw [if_pos hj, List.getElem?_eq_getElem hj, ← hl j hj, List.getD_eq_getElem?_getD, List.getElem?_eq_getElem hj]
      rfl
    · rw [if_neg hj, List.getElem?_eq_none (by omega)]
      rfl
  rw [this]
def zws (cA : Nat → ClassId) (hx : Nat) (xq0 : Nat) (xq1 : Nat) (xq2 : Nat) (xq3 : Nat) (xq4 : Nat) (xr5 : Nat → Nat) (xq6 : Nat) (xq7 : Nat) (xr8 : Nat → Nat) (xq9 : Nat) (xq10 : Nat) (xq11 : Nat) (xq12 : Nat) (xq13 : Nat) (xq14 : Nat) (xq15 : Nat) (xq16 : Nat) (xq17 : Nat) (xq18 : Nat) (xq19 : Nat) (xq20 : Nat) (xq21 : Nat) (xq22 : Nat) (xq23 : Nat) (xq24 : Nat) (xq25 : Nat) (xq26 : Nat) (xq27 : Nat) (xq28 : Nat) (xq29 : Nat) (xq30 : Nat) (xq31 : Nat) (xq32 : Nat) (xq33 : Nat) (xr34 : Nat → Nat) (xq35 : Nat) (xq36 : Nat) (xr37 : Nat → Nat) (hm : Nat) (mq0 : Nat) (mq1 : Nat) (mq2 : Nat) (mq3 : Nat) (mq4 : Nat) (mq5 : Nat) (mq6 : Nat) (mq7 : Nat) (mq8 : Nat) (mq9 : Nat) (mq10 : Nat) (mq11 : Nat) (mq12 : Nat) (mq13 : Nat) (mq14 : Nat) (mq15 : Nat) (mq16 : Nat) (mq17 : Nat) (mq18 : Nat) (mq19 : Nat) (mq20 : Nat) : va_W := [(hx, .inr (8, [.ref (xq0), .ref (xq1), .ref (xq3), .ref (xq17), .ref (xq24), .ref (xq26), .ref (xq32)])), (xq0, .inr (2, [.long 0, .long 1])), (xq1, .inr (7, [.int 3, .ref (xq2)])), (xq2, .inl (cA 0, (16, .inl (fun _ => 0)))), (xq3, .inr (3, [.ref (xq4), .ref (xq6), .ref (xq11), .ref (xq16), .int 0])), (xq4, .inl (cA 3, 2, .inr (.inr (.inr (.inr (fun i => if i < 2 then some (xr5 i) else none)))))), (xr5 0, .inl (cA 0, (4, .inl (fun _ => 0)))), (xr5 1, .inl (cA 0, (4, .inl (fun _ => 0)))), (xq6, .inr (0, [.ref (xq7), .ref (xq9), .ref (xq10), .int 0, .int 0])), (xq7, .inl (cA 4, 20, .inr (.inr (.inr (.inr (fun i => if i < 20 then some (xr8 i) else none)))))), (xr8 0, .inl (cA 1, (6, .inr (.inl (fun _ => 0))))), (xr8 1, .inl (cA 1, (6, .inr (.inl (fun _ => 0))))), (xr8 2, .inl (cA 1, (6, .inr (.inl (fun _ => 0))))), (xr8 3, .inl (cA 1, (6, .inr (.inl (fun _ => 0))))), (xr8 4, .inl (cA 1, (6, .inr (.inl (fun _ => 0))))), (xr8 5, .inl (cA 1, (6, .inr (.inl (fun _ => 0))))), (xr8 6, .inl (cA 1, (6, .inr (.inl (fun _ => 0))))), (xr8 7, .inl (cA 1, (6, .inr (.inl (fun _ => 0))))), (xr8 8, .inl (cA 1, (6, .inr (.inl (fun _ => 0))))), (xr8 9, .inl (cA 1, (6, .inr (.inl (fun _ => 0))))), (xr8 10, .inl (cA 1, (6, .inr (.inl (fun _ => 0))))), (xr8 11, .inl (cA 1, (6, .inr (.inl (fun _ => 0))))), (xr8 12, .inl (cA 1, (6, .inr (.inl (fun _ => 0))))), (xr8 13, .inl (cA 1, (6, .inr (.inl (fun _ => 0))))), (xr8 14, .inl (cA 1, (6, .inr (.inl (fun _ => 0))))), (xr8 15, .inl (cA 1, (6, .inr (.inl (fun _ => 0))))), (xr8 16, .inl (cA 1, (6, .inr (.inl (fun _ => 0))))), (xr8 17, .inl (cA 1, (6, .inr (.inl (fun _ => 0))))), (xr8 18, .inl (cA 1, (6, .inr (.inl (fun _ => 0))))), (xr8 19, .inl (cA 1, (6, .inr (.inl (fun _ => 0))))), (xq9, .inl (cA 0, (20, .inl (fun _ => 0)))), (xq10, .inl (cA 0, (4, .inl (fun _ => 0)))), (xq11, .inl (cA 2, 4, .inr (.inr (.inr (.inr (va_up (va_up (va_up (va_up (fun _ => none) 0 (some xq12)) 1 (some xq13)) 2 (some xq14)) 3 (some xq15))))))), (xq12, .inr (2, [.long 0, .long 1])), (xq13, .inr (2, [.long 0, .long 1])), (xq14, .inr (2, [.long 0, .long 1])), (xq15, .inr (2, [.long 0, .long 1])), (xq16, .inr (2, [.long 0, .long 1])), (xq17, .inr (5, [.int 0, .int 1, .ref (xq18), .ref (xq19), .ref (xq20), .ref (xq21), .ref (xq22), .ref (xq23), .int (-1), .int 0])), (xq18, .inl (cA 0, (8, .inl (fun _ => 0)))), (xq19, .inl (cA 0, (256, .inl (fun _ => 0)))), (xq20, .inl (cA 0, (5, .inl (fun _ => 0)))), (xq21, .inl (cA 0, (5, .inl (fun _ => 0)))), (xq22, .inl (cA 0, (32, .inl (fun _ => 0)))), (xq23, .inl (cA 0, (5, .inl (fun _ => 0)))), (xq24, .inr (1, [.int 0, .int 0, .ref (xq25)])), (xq25, .inl (cA 0, (6, .inl (fun _ => 0)))), (xq26, .inr (6, [.int 1, .ref (xq27), .ref (xq28), .ref (xq29), .int 0, .ref (xq30), .ref (xq31)])), (xq27, .inl (cA 0, (10, .inl (fun _ => 0)))), (xq28, .inl (cA 0, (10, .inl (fun _ => 0)))), (xq29, .inl (cA 0, (10, .inl (fun _ => 0)))), (xq30, .inl (cA 0, (8, .inl (fun _ => 0)))), (xq31, .inl (cA 0, (8, .inl (fun _ => 0)))), (xq32, .inr (4, [.int 0, .int 0, .ref (xq33), .ref (xq35), .ref (xq36)])), (xq33, .inl (cA 3, 4, .inr (.inr (.inr (.inr (fun i => if i < 4 then some (xr34 i) else none)))))), (xr34 0, .inl (cA 0, (4, .inl (fun _ => 0)))), (xr34 1, .inl (cA 0, (4, .inl (fun _ => 0)))), (xr34 2, .inl (cA 0, (4, .inl (fun _ => 0)))), (xr34 3, .inl (cA 0, (4, .inl (fun _ => 0)))), (xq35, .inl (cA 0, (4, .inl (fun _ => 0)))), (xq36, .inl (cA 3, 5, .inr (.inr (.inr (.inr (fun i => if i < 5 then some (xr37 i) else none)))))), (xr37 0, .inl (cA 0, (32, .inl (fun _ => 0)))), (xr37 1, .inl (cA 0, (32, .inl (fun _ => 0)))), (xr37 2, .inl (cA 0, (32, .inl (fun _ => 0)))), (xr37 3, .inl (cA 0, (32, .inl (fun _ => 0)))), (xr37 4, .inl (cA 0, (32, .inl (fun _ => 0)))), (hm, .inr (9, [.int 3, .ref (mq0), .ref (mq1), .long 0, .long 1, .int 0, .ref (mq2), .int 1, .int 0, .ref (mq3), .int 0, .int 1, .ref (mq4), .ref (mq5), .int 0, .ref (mq6), .ref (mq7), .int 0, .int 0, .ref (mq8), .ref (mq9), .ref (mq10), .ref (mq11), .int 0, .ref (mq12), .ref (mq13), .ref (mq14), .ref (mq15), .int 0, .ref (mq16), .ref (mq17), .ref (mq18), .int 0, .long 0, .long 0, .long 0, .long 0, .ref (mq19), .long 0, .long 0, .ref (mq20), .int 0, .long 0])), (mq0, .inl (cA 0, (16, .inl (fun _ => 0)))), (mq1, .inl (cA 0, (8, .inl (fun _ => 0)))), (mq2, .inl (cA 0, (8, .inl (fun _ => 0)))), (mq3, .inl (cA 0, (6, .inl (fun _ => 0)))), (mq4, .inl (cA 0, (10, .inl (fun _ => 0)))), (mq5, .inl (cA 0, (10, .inl (fun _ => 0)))), (mq6, .inl (cA 0, (8, .inl (fun _ => 0)))), (mq7, .inl (cA 0, (8, .inl (fun _ => 0)))), (mq8, .inl (cA 0, (16, .inl (fun _ => 0)))), (mq9, .inl (cA 0, (4, .inl (fun _ => 0)))), (mq10, .inl (cA 1, (30, .inr (.inl (fun _ => 0))))), (mq11, .inl (cA 1, (30, .inr (.inl (fun _ => 0))))), (mq12, .inl (cA 0, (5, .inl (fun _ => 0)))), (mq13, .inl (cA 1, (5, .inr (.inl (fun _ => 0))))), (mq14, .inl (cA 1, (5, .inr (.inl (fun _ => 0))))), (mq15, .inl (cA 1, (20, .inr (.inl (fun _ => 0))))), (mq16, .inl (cA 0, (14, .inl (fun _ => 0)))), (mq17, .inl (cA 0, (5, .inl (fun _ => 0)))), (mq18, .inl (cA 0, (5, .inl (fun _ => 0)))), (mq19, .inl (cA 0, (5, .inl (fun _ => 0)))), (mq20, .inl (cA 0, (6, .inl (fun _ => 0))))]
def zal (hx : Nat) (xq0 : Nat) (xq1 : Nat) (xq2 : Nat) (xq3 : Nat) (xq4 : Nat) (xr5 : Nat → Nat) (xq6 : Nat) (xq7 : Nat) (xr8 : Nat → Nat) (xq9 : Nat) (xq10 : Nat) (xq11 : Nat) (xq12 : Nat) (xq13 : Nat) (xq14 : Nat) (xq15 : Nat) (xq16 : Nat) (xq17 : Nat) (xq18 : Nat) (xq19 : Nat) (xq20 : Nat) (xq21 : Nat) (xq22 : Nat) (xq23 : Nat) (xq24 : Nat) (xq25 : Nat) (xq26 : Nat) (xq27 : Nat) (xq28 : Nat) (xq29 : Nat) (xq30 : Nat) (xq31 : Nat) (xq32 : Nat) (xq33 : Nat) (xr34 : Nat → Nat) (xq35 : Nat) (xq36 : Nat) (xr37 : Nat → Nat) (hm : Nat) (mq0 : Nat) (mq1 : Nat) (mq2 : Nat) (mq3 : Nat) (mq4 : Nat) (mq5 : Nat) (mq6 : Nat) (mq7 : Nat) (mq8 : Nat) (mq9 : Nat) (mq10 : Nat) (mq11 : Nat) (mq12 : Nat) (mq13 : Nat) (mq14 : Nat) (mq15 : Nat) (mq16 : Nat) (mq17 : Nat) (mq18 : Nat) (mq19 : Nat) (mq20 : Nat) : List Nat := [hx, xq0, xq1, xq2, xq3, xq4, xr5 0, xr5 1, xq6, xq7, xr8 0, xr8 1, xr8 2, xr8 3, xr8 4, xr8 5, xr8 6, xr8 7, xr8 8, xr8 9, xr8 10, xr8 11, xr8 12, xr8 13, xr8 14, xr8 15, xr8 16, xr8 17, xr8 18, xr8 19, xq9, xq10, xq11, xq12, xq13, xq14, xq15, xq16, xq17, xq18, xq19, xq20, xq21, xq22, xq23, xq24, xq25, xq26, xq27, xq28, xq29, xq30, xq31, xq32, xq33, xr34 0, xr34 1, xr34 2, xr34 3, xq35, xq36, xr37 0, xr37 1, xr37 2, xr37 3, xr37 4, hm, mq0, mq1, mq2, mq3, mq4, mq5, mq6, mq7, mq8, mq9, mq10, mq11, mq12, mq13, mq14, mq15, mq16, mq17, mq18, mq19, mq20]
theorem zmap_m (f : Nat → Nat → Value) : ([0, 70, 71, 1, 1, 0, 72, 0, 0, 73, 0, 0, 74, 75, 0, 76, 77, 0, 0, 78, 79, 80, 81, 0, 82, 83, 84, 85, 0, 86, 87, 88, 0, 1, 1, 1, 1, 89, 1, 1, 90, 0, 1] : List Nat).mapIdx f = [f 0 0, f 1 70, f 2 71, f 3 1, f 4 1, f 5 0, f 6 72, f 7 0, f 8 0, f 9 73, f 10 0, f 11 0, f 12 74, f 13 75, f 14 0, f 15 76, f 16 77, f 17 0, f 18 0, f 19 78, f 20 79, f 21 80, f 22 81, f 23 0, f 24 82, f 25 83, f 26 84, f 27 85, f 28 0, f 29 86, f 30 87, f 31 88, f 32 0, f 33 1, f 34 1, f 35 1, f 36 1, f 37 89, f 38 1, f 39 1, f 40 90, f 41 0, f 42 1] := by
  rw [List.mapIdx_eq_zipIdx_map]
  rfl
set_option maxRecDepth 100000 in
set_option maxHeartbeats 8000000 in
theorem zws_at (fa b : Nat) (cA : Nat → ClassId) (hx : Nat) (xq0 : Nat) (xq1 : Nat) (xq2 : Nat) (xq3 : Nat) (xq4 : Nat) (xr5 : Nat → Nat) (xq6 : Nat) (xq7 : Nat) (xr8 : Nat → Nat) (xq9 : Nat) (xq10 : Nat) (xq11 : Nat) (xq12 : Nat) (xq13 : Nat) (xq14 : Nat) (xq15 : Nat) (xq16 : Nat) (xq17 : Nat) (xq18 : Nat) (xq19 : Nat) (xq20 : Nat) (xq21 : Nat) (xq22 : Nat) (xq23 : Nat) (xq24 : Nat) (xq25 : Nat) (xq26 : Nat) (xq27 : Nat) (xq28 : Nat) (xq29 : Nat) (xq30 : Nat) (xq31 : Nat) (xq32 : Nat) (xq33 : Nat) (xr34 : Nat → Nat) (xq35 : Nat) (xq36 : Nat) (xr37 : Nat → Nat) (hm : Nat) (mq0 : Nat) (mq1 : Nat) (mq2 : Nat) (mq3 : Nat) (mq4 : Nat) (mq5 : Nat) (mq6 : Nat) (mq7 : Nat) (mq8 : Nat) (mq9 : Nat) (mq10 : Nat) (mq11 : Nat) (mq12 : Nat) (mq13 : Nat) (mq14 : Nat) (mq15 : Nat) (mq16 : Nat) (mq17 : Nat) (mq18 : Nat) (mq19 : Nat) (mq20 : Nat) : ∀ i, i < zN → (zws cA hx xq0 xq1 xq2 xq3 xq4 xr5 xq6 xq7 xr8 xq9 xq10 xq11 xq12 xq13 xq14 xq15 xq16 xq17 xq18 xq19 xq20 xq21 xq22 xq23 xq24 xq25 xq26 xq27 xq28 xq29 xq30 xq31 xq32 xq33 xr34 xq35 xq36 xr37 hm mq0 mq1 mq2 mq3 mq4 mq5 mq6 mq7 mq8 mq9 mq10 mq11 mq12 mq13 mq14 mq15 mq16 mq17 mq18 mq19 mq20)[zpf.getD i 0]? = some (zad fa b (zal hx xq0 xq1 xq2 xq3 xq4 xr5 xq6 xq7 xr8 xq9 xq10 xq11 xq12 xq13 xq14 xq15 xq16 xq17 xq18 xq19 xq20 xq21 xq22 xq23 xq24 xq25 xq26 xq27 xq28 xq29 xq30 xq31 xq32 xq33 xr34 xq35 xq36 xr37 hm mq0 mq1 mq2 mq3 mq4 mq5 mq6 mq7 mq8 mq9 mq10 mq11 mq12 mq13 mq14 mq15 mq16 mq17 mq18 mq19 mq20) i, zE (zad fa b (zal hx xq0 xq1 xq2 xq3 xq4 xr5 xq6 xq7 xr8 xq9 xq10 xq11 xq12 xq13 xq14 xq15 xq16 xq17 xq18 xq19 xq20 xq21 xq22 xq23 xq24 xq25 xq26 xq27 xq28 xq29 xq30 xq31 xq32 xq33 xr34 xq35 xq36 xr37 hm mq0 mq1 mq2 mq3 mq4 mq5 mq6 mq7 mq8 mq9 mq10 mq11 mq12 mq13 mq14 mq15 mq16 mq17 mq18 mq19 mq20)) cA zs0 i)
  | 0, _ => rfl
  | 1, _ => rfl
  | 2, _ => rfl
  | 3, _ => rfl
  | 4, _ => rfl
  | 5, _ => (congrArg (fun z => some (_, z)) (zE_refs (t := 1) (n := 2) (r := xr5) rfl rfl (fun j hj => by
      match j, hj with
      | 0, _ => rfl
      | 1, _ => rfl
      | j + 2, hj => exact absurd hj (by omega)))).symm
  | 6, _ => rfl
  | 7, _ => rfl
  | 8, _ => rfl
  | 9, _ => (congrArg (fun z => some (_, z)) (zE_refs (t := 2) (n := 20) (r := xr8) rfl rfl (fun j hj => by
      match j, hj with
      | 0, _ => rfl
      | 1, _ => rfl
      | 2, _ => rfl
      | 3, _ => rfl
      | 4, _ => rfl
      | 5, _ => rfl
      | 6, _ => rfl
      | 7, _ => rfl
      | 8, _ => rfl
      | 9, _ => rfl
      | 10, _ => rfl
      | 11, _ => rfl
      | 12, _ => rfl
      | 13, _ => rfl
      | 14, _ => rfl
      | 15, _ => rfl
      | 16, _ => rfl
      | 17, _ => rfl
      | 18, _ => rfl
      | 19, _ => rfl
      | j + 20, hj => exact absurd hj (by omega)))).symm
  | 10, _ => rfl
  | 11, _ => rfl
  | 12, _ => rfl
  | 13, _ => rfl
  | 14, _ => rfl
  | 15, _ => rfl
  | 16, _ => rfl
  | 17, _ => rfl
  | 18, _ => rfl
  | 19, _ => rfl
  | 20, _ => rfl
  | 21, _ => rfl
  | 22, _ => rfl
  | 23, _ => rfl
  | 24, _ => rfl
  | 25, _ => rfl
  | 26, _ => rfl
  | 27, _ => rfl
  | 28, _ => rfl
  | 29, _ => rfl
  | 30, _ => rfl
  | 31, _ => rfl
  | 32, _ => congrArg (fun (z : Nat → Option Nat) => (some ((xq11 : Nat), (.inl (cA 2, 4, .inr (.inr (.inr (.inr z)))) : va_E)) : Option (Nat × va_E))) (show (va_up (va_up (va_up (va_up (fun _ => none) 0 (some xq12)) 1 (some xq13)) 2 (some xq14)) 3 (some xq15)) = (fun j => (([33, 34, 35, 36] : List Nat)[j]?).map (zad fa b (zal hx xq0 xq1 xq2 xq3 xq4 xr5 xq6 xq7 xr8 xq9 xq10 xq11 xq12 xq13 xq14 xq15 xq16 xq17 xq18 xq19 xq20 xq21 xq22 xq23 xq24 xq25 xq26 xq27 xq28 xq29 xq30 xq31 xq32 xq33 xr34 xq35 xq36 xr37 hm mq0 mq1 mq2 mq3 mq4 mq5 mq6 mq7 mq8 mq9 mq10 mq11 mq12 mq13 mq14 mq15 mq16 mq17 mq18 mq19 mq20))) from funext fun j => by
      match j with
      | 0 => rfl
      | 1 => rfl
      | 2 => rfl
      | 3 => rfl
      | j + 4 => rfl)
  | 33, _ => rfl
  | 34, _ => rfl
  | 35, _ => rfl
  | 36, _ => rfl
  | 37, _ => rfl
  | 38, _ => rfl
  | 39, _ => rfl
  | 40, _ => rfl
  | 41, _ => rfl
  | 42, _ => rfl
  | 43, _ => rfl
  | 44, _ => rfl
  | 45, _ => rfl
  | 46, _ => rfl
  | 47, _ => rfl
  | 48, _ => rfl
  | 49, _ => rfl
  | 50, _ => rfl
  | 51, _ => rfl
  | 52, _ => rfl
  | 53, _ => rfl
  | 54, _ => (congrArg (fun z => some (_, z)) (zE_refs (t := 1) (n := 4) (r := xr34) rfl rfl (fun j hj => by
      match j, hj with
      | 0, _ => rfl
      | 1, _ => rfl
      | 2, _ => rfl
      | 3, _ => rfl
      | j + 4, hj => exact absurd hj (by omega)))).symm
  | 55, _ => rfl
  | 56, _ => rfl
  | 57, _ => rfl
  | 58, _ => rfl
  | 59, _ => rfl
  | 60, _ => (congrArg (fun z => some (_, z)) (zE_refs (t := 1) (n := 5) (r := xr37) rfl rfl (fun j hj => by
      match j, hj with
      | 0, _ => rfl
      | 1, _ => rfl
      | 2, _ => rfl
      | 3, _ => rfl
      | 4, _ => rfl
      | j + 5, hj => exact absurd hj (by omega)))).symm
  | 61, _ => rfl
  | 62, _ => rfl
  | 63, _ => rfl
  | 64, _ => rfl
  | 65, _ => rfl
  | 66, _ => congrArg (fun (z : List Value) => (some ((hm : Nat), (.inr (9, z) : va_E)) : Option (Nat × va_E))) (zmap_m (fun k kd => zr (zad fa b (zal hx xq0 xq1 xq2 xq3 xq4 xr5 xq6 xq7 xr8 xq9 xq10 xq11 xq12 xq13 xq14 xq15 xq16 xq17 xq18 xq19 xq20 xq21 xq22 xq23 xq24 xq25 xq26 xq27 xq28 xq29 xq30 xq31 xq32 xq33 xr34 xq35 xq36 xr37 hm mq0 mq1 mq2 mq3 mq4 mq5 mq6 mq7 mq8 mq9 mq10 mq11 mq12 mq13 mq14 mq15 mq16 mq17 mq18 mq19 mq20)) (zfv zs0 66 kd k))).symm
  | 67, _ => rfl
  | 68, _ => rfl
  | 69, _ => rfl
  | 70, _ => rfl
  | 71, _ => rfl
  | 72, _ => rfl
  | 73, _ => rfl
  | 74, _ => rfl
  | 75, _ => rfl
  | 76, _ => rfl
  | 77, _ => rfl
  | 78, _ => rfl
  | 79, _ => rfl
  | 80, _ => rfl
  | 81, _ => rfl
  | 82, _ => rfl
  | 83, _ => rfl
  | 84, _ => rfl
  | 85, _ => rfl
  | 86, _ => rfl
  | 87, _ => rfl
  | j + 88, hj => absurd hj (by unfold zN; omega)
theorem zpf_inj : ∀ i, i < zN → ∀ j, j < zN → zpf.getD i 0 = zpf.getD j 0 → i = j := by decide +kernel

theorem zNest_in : ∀ w ∈ zNest, w ∈ lw_tbl ∧ w.onTables = true := by
  have h1 : ([184, 189, 190, 192, 193, 201, 206, 207, 209, 218, 226, 237, 252, 271, 276, 309, 314, 316, 327, 332, 337, 357, 363, 365, 409, 413, 425, 433, 435, 436, 444, 458, 462, 470, 482, 486, 489, 497, 501, 505, 513, 517, 525, 545, 546, 559, 563, 575, 579, 581, 585, 586, 622, 627, 636, 640, 641, 645, 646, 666, 670, 675, 676, 684, 692, 700, 708, 716, 725, 737, 746, 755, 767, 782, 786, 787, 792, 800, 804, 812, 822, 823, 831, 839, 844, 845, 849, 862, 868, 902, 910, 918, 922, 928, 959, 965, 966, 971, 975, 976, 984, 992, 996, 1000, 1010, 1014, 1027, 1035, 1049, 1057, 1061, 1062, 1066, 1074, 1091, 1093, 1105, 1110, 1118, 1126, 1148, 1152, 1153, 1157, 1158, 1162, 1163, 1167, 1168, 1172, 1173, 1177] : List Nat).map (fun i => lw_tbl[i]?) = zNest.map some := by decide +kernel
  have h2 : zNest.all (fun w => w.onTables) = true := by decide +kernel
  intro w hw
  refine ⟨?_, List.all_eq_true.mp h2 w hw⟩
  have h3 : some w ∈ ([184, 189, 190, 192, 193, 201, 206, 207, 209, 218, 226, 237, 252, 271, 276, 309, 314, 316, 327, 332, 337, 357, 363, 365, 409, 413, 425, 433, 435, 436, 444, 458, 462, 470, 482, 486, 489, 497, 501, 505, 513, 517, 525, 545, 546, 559, 563, 575, 579, 581, 585, 586, 622, 627, 636, 640, 641, 645, 646, 666, 670, 675, 676, 684, 692, 700, 708, 716, 725, 737, 746, 755, 767, 782, 786, 787, 792, 800, 804, 812, 822, 823, 831, 839, 844, 845, 849, 862, 868, 902, 910, 918, 922, 928, 959, 965, 966, 971, 975, 976, 984, 992, 996, 1000, 1010, 1014, 1027, 1035, 1049, 1057, 1061, 1062, 1066, 1074, 1091, 1093, 1105, 1110, 1118, 1126, 1148, 1152, 1153, 1157, 1158, 1162, 1163, 1167, 1168, 1172, 1173, 1177] : List Nat).map (fun i => lw_tbl[i]?) := by rw [h1]; exact List.mem_map.mpr ⟨w, hw, rfl⟩
  obtain ⟨i, -, hi⟩ := List.mem_map.mp h3
  exact List.mem_of_getElem? hi
/-- the pure statement of the law's loop -/
def zPure (N : Nat) : Prop := ∀ (len : Nat) (xs : Nat → Int32), len ≤ N → ∃ n, D_L_law_L18 xs len n 0 zs0 = some ()
theorem zarr {s : State} {c : ClassId} {k : Class} {comp : ClassId} {ty : FieldType} (hk : s.vm.classes[c]? = some k) (h : k.kind = .array comp ty) : ArrOfT s c ty := fun n z => ⟨fun q hq => (by cases hq), k, hk, comp, h⟩
set_option maxHeartbeats 8000000 in
set_option maxRecDepth 100000 in
theorem zstart {p : Program} {e : Env} {s : State} {m : MethodId} {below : List Frame} {meth : Method} {c : Code} (l : Launch) {b L N : Nat} {xs : Nat → Int32} (hL : L ≤ N) (hp : zPure N) (C0 : lw_At p s m meth c b L xs) : W p l e room_1 s m #[Value.ref b] below meth c s.heap [] 0 0 (lw_Z below #[Value.ref b] s) (entryFrame m ([Value.ref b] : List Value).toArray 4) := by
  obtain ⟨hx, hb, hr, hml, hown, hts, hX, hbl, hlocks, hgv⟩ := id C0
  have hU : ∀ w ∈ zU, w.before #[Value.ref b] s = true := fun w hw => hts w (List.mem_filter.mp hw).1
  have hk0 : ∀ (k : Nat) (q : vw_C), vwCl[k]? = some q → ∃ (cC : ClassId) (iS : Nat → Nat), u_Kn s q.1 q.2.1 q.2.2 cC iS := by
    intro k q hq
    match k, hq with
    | 0, hq => cases hq; exact u_known (C := RX0) (T := TX0) (N := 5) (n := 5) hU inzX0 (hts (Cond.instantiable RX0 5) (List.mem_of_getElem? (i := 225) (by decide +kernel)))
    | 1, hq => cases hq; exact u_known (C := RX1) (T := TX1) (N := 3) (n := 3) hU inzX1 (hts (Cond.instantiable RX1 3) (List.mem_of_getElem? (i := 308) (by decide +kernel)))
    | 2, hq => cases hq; exact u_known (C := RX2) (T := TX2) (N := 2) (n := 2) hU inzX2 (hts (Cond.instantiable RX2 2) (List.mem_of_getElem? (i := 183) (by decide +kernel)))
    | 3, hq => cases hq; exact u_known (C := RX3) (T := TX3) (N := 5) (n := 5) hU inzX3 (hts (Cond.instantiable RX3 5) (List.mem_of_getElem? (i := 217) (by decide +kernel)))
    | 4, hq => cases hq; exact u_known (C := RX4) (T := TX4) (N := 5) (n := 5) hU inzX4 (hts (Cond.instantiable RX4 5) (List.mem_of_getElem? (i := 356) (by decide +kernel)))
    | 5, hq => cases hq; exact u_known (C := RX5) (T := TX5) (N := 10) (n := 10) hU inzX5 (hts (Cond.instantiable RX5 10) (List.mem_of_getElem? (i := 270) (by decide +kernel)))
    | 6, hq => cases hq; exact u_known (C := RX6) (T := TX6) (N := 7) (n := 7) hU inzX6 (hts (Cond.instantiable RX6 7) (List.mem_of_getElem? (i := 326) (by decide +kernel)))
    | 7, hq => cases hq; exact u_known (C := RX7) (T := TX7) (N := 2) (n := 2) hU inzX7 (hts (Cond.instantiable RX7 2) (List.mem_of_getElem? (i := 200) (by decide +kernel)))
    | 8, hq => cases hq; exact u_known (C := RX8) (T := TX8) (N := 7) (n := 7) hU inzX8 (hts (Cond.instantiable RX8 7) (List.mem_of_getElem? (i := 175) (by decide +kernel)))
    | 9, hq => cases hq; exact u_known (C := RX9) (T := TX9) (N := 43) (n := 43) hU inzX9 (hts (Cond.instantiable RX9 43) (List.mem_of_getElem? (i := 1179) (by decide +kernel)))
    | k + 10, hq => simp [vwCl] at hq
  have hk1 : ∀ k : Nat, ∃ (cC : ClassId) (iS : Nat → Nat), ∀ q : vw_C, vwCl[k]? = some q → u_Kn s q.1 q.2.1 q.2.2 cC iS := by
    intro k
    cases hq : vwCl[k]? with
    | none => exact ⟨0, fun _ => 0, fun q h => by cases h⟩
    | some q =>
      obtain ⟨cC, iS, h⟩ := hk0 k q hq
      exact ⟨cC, iS, fun q' h' => by cases h'; exact h⟩
  obtain ⟨dC, hk2⟩ := Classical.axiomOfChoice hk1
  obtain ⟨dI, hKc⟩ := Classical.axiomOfChoice hk2
  obtain ⟨a0, k0, p0, e0, f0, g0⟩ := Cond.arrayClass_spec (hts (Cond.arrayClass .int) (List.mem_of_getElem? (i := 215) (by decide +kernel)))
  obtain ⟨a1, k1, p1, e1, f1, g1⟩ := Cond.arrayClass_spec (hts (Cond.arrayClass .long) (List.mem_of_getElem? (i := 249) (by decide +kernel)))
  have hF := (hts (Cond.arrayOver (.object "WonTogether$Fraction")) (List.mem_of_getElem? (i := 251) (by decide +kernel)))
  have hFI := (hts (Cond.arrayOver (.array .int)) (List.mem_of_getElem? (i := 223) (by decide +kernel)))
  have hFL := (hts (Cond.arrayOver (.array .long)) (List.mem_of_getElem? (i := 231) (by decide +kernel)))
  obtain ⟨p2, a2, k2, i2, -, f2, g2, e2⟩ := Cond.arrayOver_spec hF
  obtain ⟨p3, a3, k3, i3, f3, g3, e3⟩ := Cond.arrayOver_specA hFI
  obtain ⟨p4, a4, k4, i4, f4, g4, e4⟩ := Cond.arrayOver_specA hFL
  obtain ⟨cA, hcA⟩ : ∃ cA : Nat → ClassId, cA 0 = a0 ∧ cA 1 = a1 ∧ cA 2 = a2 ∧ cA 3 = a3 ∧ cA 4 = a4 := ⟨fun i => if i = 0 then a0 else if i = 1 then a1 else if i = 2 then a2 else if i = 3 then a3 else a4, rfl, rfl, rfl, rfl, rfl⟩
  obtain ⟨rfl, rfl, rfl, rfl, rfl⟩ := hcA
  have hK : va_K (dC, dI) vwCl (ztys cA) s := by
    refine ⟨fun k q hq => hKc k q hq, fun k q hq => ?_⟩
    match k, hq with
    | 0, hq => cases hq; exact ⟨zarr f0 g0, e0⟩
    | 1, hq => cases hq; exact ⟨zarr f1 g1, e1⟩
    | 2, hq => cases hq; exact ⟨zarr f2 g2, k2, p2, f2, g2, i2, e2⟩
    | 3, hq => cases hq; exact ⟨zarr f3 g3, e3⟩
    | 4, hq => cases hq; exact ⟨zarr f4 g4, e4⟩
    | k + 5, hq => simp [ztys] at hq
  have hN : ∀ w ∈ zNest, va_Nw w s := fun w hw => va_Nw.of (zNest_in w hw).2 (hts w (zNest_in w hw).1)
  have hQ : zQV (dC, dI) cA s := ⟨hK, hN, va_AO.of hF, hFI, hFL⟩
  have hfl := flat_of_before _ hgv
  have hA0 : ∀ a : Nat, a < s.heap.size → ¬ (fun q : Nat => s.heap.size ≤ q) a := fun a h => Nat.not_le.mpr h
  obtain ⟨fa, hfa, hT⟩ := va_Tof (s := s) (tm := .static "WonTogether" "FACTORIAL" "[I") (ty := .int) (N := 8) (f := zFact) (A := fun q => s.heap.size ≤ q) (by decide) (hfl _ (by decide +kernel)) (va_eqt (hfl (Cond.eq (.length (.static "WonTogether" "FACTORIAL" "[I")) (.int 8)) (by decide +kernel))) (fun j hj => by
    match j, hj with
    | 0, _ => exact va_eqt (hfl (Cond.eq (.elem (.static "WonTogether" "FACTORIAL" "[I") (.int 0)) (.int 1)) (by decide +kernel))
    | 1, _ => exact va_eqt (hfl (Cond.eq (.elem (.static "WonTogether" "FACTORIAL" "[I") (.int 1)) (.int 1)) (by decide +kernel))
    | 2, _ => exact va_eqt (hfl (Cond.eq (.elem (.static "WonTogether" "FACTORIAL" "[I") (.int 2)) (.int 2)) (by decide +kernel))
    | 3, _ => exact va_eqt (hfl (Cond.eq (.elem (.static "WonTogether" "FACTORIAL" "[I") (.int 3)) (.int 6)) (by decide +kernel))
    | 4, _ => exact va_eqt (hfl (Cond.eq (.elem (.static "WonTogether" "FACTORIAL" "[I") (.int 4)) (.int 24)) (by decide +kernel))
    | 5, _ => exact va_eqt (hfl (Cond.eq (.elem (.static "WonTogether" "FACTORIAL" "[I") (.int 5)) (.int 120)) (by decide +kernel))
    | 6, _ => exact va_eqt (hfl (Cond.eq (.elem (.static "WonTogether" "FACTORIAL" "[I") (.int 6)) (.int 720)) (by decide +kernel))
    | 7, _ => exact va_eqt (hfl (Cond.eq (.elem (.static "WonTogether" "FACTORIAL" "[I") (.int 7)) (.int 5040)) (by decide +kernel))
    | j + 8, hj => exact absurd hj (by omega)) hA0
  have hZ := va_Zof (A := fun q => s.heap.size ≤ q) (hts (Cond.laysStatic "WonTogether" "FACTORIAL" "[I") (List.mem_of_getElem? (i := 496) (by decide +kernel))) (hts (Cond.initialized "WonTogether") (List.mem_of_getElem? (i := 161) (by decide +kernel))) hfa hA0
  obtain ⟨n, hpn⟩ := hp L xs hL
  let M : zN2 := (code, 4, ret, RL, room_1, fun args s' meth' => args = #[.ref b] ∧ s' = s)
  have key : zOq l (dC, dI) cA M (fun q => s.heap.size ≤ q) zLZ 0 [some (.ref b), none, none, none] [] [] 0 0 := by
    refine zq_new (ci := 8) (fs := [.null, .null, .null, .null, .null, .null, .null]) inzX8 tyX8_ok (List.forall_mem_cons.mpr ⟨zwn_L_7, (List.forall_mem_cons.mpr ⟨zwj_X8, (List.forall_mem_cons.mpr ⟨zwi2_X8, fun _ h => absurd h List.not_mem_nil⟩)⟩)⟩) rfl (by decide +kernel) (Nat.le_of_ble_eq_true rfl) (Nat.le_of_ble_eq_true rfl) dL_law_0 (fun hx => ?_)
    refine zq_cs 1 7 ⟨rfl, rfl⟩ ?_
    refine zq_dup dL_law_3 rfl ?_
    refine zq_callI jX8_init mi_X8_init (List.forall_mem_cons.mpr ⟨zwk_L_9, (List.forall_mem_cons.mpr ⟨zwm_X8_init, (List.forall_mem_cons.mpr ⟨zwi2_X8, (List.forall_mem_cons.mpr ⟨zwc_X8_init, fun _ h => absurd h List.not_mem_nil⟩)⟩)⟩)⟩) rfl rfl ⟨by decide +kernel, by decide +kernel, by decide +kernel⟩ ⟨Nat.le_of_ble_eq_true rfl, Nat.le_of_ble_eq_true rfl⟩ ⟨Nat.le_of_ble_eq_true rfl, Nat.le_of_ble_eq_true rfl⟩ (Nat.le_of_ble_eq_true rfl) dL_law_4 (fun w hw => ?_)
    obtain ⟨xq0, xq1, xq2, xq3, xq4, xr5, xq6, xq7, xr8, xq9, xq10, xq11, xq12, xq13, xq14, xq15, xq16, xq17, xq18, xq19, xq20, xq21, xq22, xq23, xq24, xq25, xq26, xq27, xq28, xq29, xq30, xq31, xq32, xq33, xr34, xq35, xq36, xr37, rfl⟩ := hw
    refine zq_cs 66 802 ⟨rfl, rfl⟩ ?_
    refine zq_astore_n (i := 1) (ls' := [_, _, _, _]) dL_law_7 rfl (Nat.le_of_ble_eq_true rfl) rfl ?_
    refine zq_new (ci := 9) (fs := [.int 0, .null, .null, .long 0, .long 0, .int 0, .null, .int 0, .int 0, .null, .int 0, .int 0, .null, .null, .int 0, .null, .null, .int 0, .int 0, .null, .null, .null, .null, .int 0, .null, .null, .null, .null, .int 0, .null, .null, .null, .int 0, .long 0, .long 0, .long 0, .long 0, .null, .long 0, .long 0, .null, .int 0, .long 0]) inzX9 tyX9_ok (List.forall_mem_cons.mpr ⟨zwn_L_10, (List.forall_mem_cons.mpr ⟨zwj_X9, (List.forall_mem_cons.mpr ⟨zwi2_X9, fun _ h => absurd h List.not_mem_nil⟩)⟩)⟩) rfl (by decide +kernel) (Nat.le_of_ble_eq_true rfl) (Nat.le_of_ble_eq_true rfl) dL_law_8 (fun hm => ?_)
    refine zq_cs 67 845 ⟨rfl, rfl⟩ ?_
    refine zq_dup dL_law_11 rfl ?_
    refine zq_callI jX9_init mi_X9_init (List.forall_mem_cons.mpr ⟨zwk_L_12, (List.forall_mem_cons.mpr ⟨zwm_X9_init, (List.forall_mem_cons.mpr ⟨zwi2_X9, (List.forall_mem_cons.mpr ⟨zwc_X9_init, fun _ h => absurd h List.not_mem_nil⟩)⟩)⟩)⟩) rfl rfl ⟨by decide +kernel, by decide +kernel, by decide +kernel⟩ ⟨Nat.le_of_ble_eq_true rfl, Nat.le_of_ble_eq_true rfl⟩ ⟨Nat.le_of_ble_eq_true rfl, Nat.le_of_ble_eq_true rfl⟩ (Nat.le_of_ble_eq_true rfl) dL_law_12 (fun w hw => ?_)
    obtain ⟨mq0, mq1, mq2, mq3, mq4, mq5, mq6, mq7, mq8, mq9, mq10, mq11, mq12, mq13, mq14, mq15, mq16, mq17, mq18, mq19, mq20, rfl⟩ := hw
    refine zq_cs 88 1069 ⟨rfl, rfl⟩ (zq_ws (zws cA hx xq0 xq1 xq2 xq3 xq4 xr5 xq6 xq7 xr8 xq9 xq10 xq11 xq12 xq13 xq14 xq15 xq16 xq17 xq18 xq19 xq20 xq21 xq22 xq23 xq24 xq25 xq26 xq27 xq28 xq29 xq30 xq31 xq32 xq33 xr34 xq35 xq36 xr37 hm mq0 mq1 mq2 mq3 mq4 mq5 mq6 mq7 mq8 mq9 mq10 mq11 mq12 mq13 mq14 mq15 mq16 mq17 mq18 mq19 mq20) rfl ?_)
    refine zq_astore_n (i := 2) (ls' := [_, _, _, _]) dL_law_15 rfl (Nat.le_of_ble_eq_true rfl) rfl ?_
    refine zq_iconst (v := 0) dL_law_16 (by decide) ?_
    refine zq_istore_n (i := 3) (ls' := [_, _, _, _]) dL_law_17 rfl (Nat.le_of_ble_eq_true rfl) rfl ?_
    intro p' e' s' m' args' below' meth' c' H locs lsA Cx hP hD hS h
    obtain ⟨rfl, rfl⟩ := Cx.2.2.2.2.2.2.2.2.2
    have hat := zws_at fa b cA hx xq0 xq1 xq2 xq3 xq4 xr5 xq6 xq7 xr8 xq9 xq10 xq11 xq12 xq13 xq14 xq15 xq16 xq17 xq18 xq19 xq20 xq21 xq22 xq23 xq24 xq25 xq26 xq27 xq28 xq29 xq30 xq31 xq32 xq33 xr34 xq35 xq36 xr37 hm mq0 mq1 mq2 mq3 mq4 mq5 mq6 mq7 mq8 mq9 mq10 mq11 mq12 mq13 mq14 mq15 mq16 mq17 mq18 mq19 mq20
    generalize zws cA hx xq0 xq1 xq2 xq3 xq4 xr5 xq6 xq7 xr8 xq9 xq10 xq11 xq12 xq13 xq14 xq15 xq16 xq17 xq18 xq19 xq20 xq21 xq22 xq23 xq24 xq25 xq26 xq27 xq28 xq29 xq30 xq31 xq32 xq33 xr34 xq35 xq36 xr37 hm mq0 mq1 mq2 mq3 mq4 mq5 mq6 mq7 mq8 mq9 mq10 mq11 mq12 mq13 mq14 mq15 mq16 mq17 mq18 mq19 mq20 = ws at hP hD hat
    have had0 : zad fa b (zal hx xq0 xq1 xq2 xq3 xq4 xr5 xq6 xq7 xr8 xq9 xq10 xq11 xq12 xq13 xq14 xq15 xq16 xq17 xq18 xq19 xq20 xq21 xq22 xq23 xq24 xq25 xq26 xq27 xq28 xq29 xq30 xq31 xq32 xq33 xr34 xq35 xq36 xr37 hm mq0 mq1 mq2 mq3 mq4 mq5 mq6 mq7 mq8 mq9 mq10 mq11 mq12 mq13 mq14 mq15 mq16 mq17 mq18 mq19 mq20) 0 = hx := rfl
    have had1 : zad fa b (zal hx xq0 xq1 xq2 xq3 xq4 xr5 xq6 xq7 xr8 xq9 xq10 xq11 xq12 xq13 xq14 xq15 xq16 xq17 xq18 xq19 xq20 xq21 xq22 xq23 xq24 xq25 xq26 xq27 xq28 xq29 xq30 xq31 xq32 xq33 xr34 xq35 xq36 xr37 hm mq0 mq1 mq2 mq3 mq4 mq5 mq6 mq7 mq8 mq9 mq10 mq11 mq12 mq13 mq14 mq15 mq16 mq17 mq18 mq19 mq20) 66 = hm := rfl
    have had2 : zad fa b (zal hx xq0 xq1 xq2 xq3 xq4 xr5 xq6 xq7 xr8 xq9 xq10 xq11 xq12 xq13 xq14 xq15 xq16 xq17 xq18 xq19 xq20 xq21 xq22 xq23 xq24 xq25 xq26 xq27 xq28 xq29 xq30 xq31 xq32 xq33 xr34 xq35 xq36 xr37 hm mq0 mq1 mq2 mq3 mq4 mq5 mq6 mq7 mq8 mq9 mq10 mq11 mq12 mq13 mq14 mq15 mq16 mq17 mq18 mq19 mq20) 200 = fa := rfl
    have had3 : zad fa b (zal hx xq0 xq1 xq2 xq3 xq4 xr5 xq6 xq7 xr8 xq9 xq10 xq11 xq12 xq13 xq14 xq15 xq16 xq17 xq18 xq19 xq20 xq21 xq22 xq23 xq24 xq25 xq26 xq27 xq28 xq29 xq30 xq31 xq32 xq33 xr34 xq35 xq36 xr37 hm mq0 mq1 mq2 mq3 mq4 mq5 mq6 mq7 mq8 mq9 mq10 mq11 mq12 mq13 mq14 mq15 mq16 mq17 mq18 mq19 mq20) 201 = b := rfl
    generalize zad fa b (zal hx xq0 xq1 xq2 xq3 xq4 xr5 xq6 xq7 xr8 xq9 xq10 xq11 xq12 xq13 xq14 xq15 xq16 xq17 xq18 xq19 xq20 xq21 xq22 xq23 xq24 xq25 xq26 xq27 xq28 xq29 xq30 xq31 xq32 xq33 xr34 xq35 xq36 xr37 hm mq0 mq1 mq2 mq3 mq4 mq5 mq6 mq7 mq8 mq9 mq10 mq11 mq12 mq13 mq14 mq15 mq16 mq17 mq18 mq19 mq20) = ad at hat had0 had1 had2 had3
    have hj : zInj ad := fun i j hi hj hij => zpf_inj i hi j hj (hD.1 _ _ _ _ (hat i hi) (hat j hj) hij)
    have hAz : ∀ q, zA ad q → s'.heap.size ≤ q := fun q ⟨i, hi, hq⟩ => by rw [hq]; exact hD.2 _ _ (hat i hi)
    have hPz : va_P (dC, dI) vwCl (zW ad cA zs0) H := fun k q hk => by
      obtain ⟨hi, rfl⟩ := zW_of hk
      exact hP _ _ (hat k hi)
    have hVz : zV (dC, dI) ad cA s' s'.heap := ⟨hK, hN, by
      have := hT.narrow hAz
      show va_T .int (ad 200) 8 zFact (zA ad) s' s'.heap
      rw [had2]; exact this, by
      have := hZ.narrow hAz
      show va_Z "WonTogether" "FACTORIAL" "[I" (.ref (ad 200)) (zA ad) s' s'.heap
      rw [had2]; exact this⟩
    refine va_forget (fun q hq => hS.2.2 q hq) ?_
    refine ok_L_law_L18 hj () n 0 zs0 hpn p' e' s' m' _ below' meth' c' H [] lsA ⟨Cx.1, Cx.2.1, Cx.2.2.1, Cx.2.2.2.1, Cx.2.2.2.2.1, Cx.2.2.2.2.2.1, Cx.2.2.2.2.2.2.1, hVz, hj, rfl, hX, hbl, hAz, had3⟩ hPz ⟨hS.1, fun q h1 h2 => hS.2.1 q h1 (Nat.not_le.mpr h1), fun q hq => by cases hq⟩ ?_
    have e9 : zls ad 0 [some (.ref 201), some (.ref 0), some (.ref 66), some (.int 0)] = zls id 0 [some (.ref b), some (.ref hx), some (.ref hm), some (.int 0)] := by
      show [((0 : Nat), Value.ref (ad 201)), (1, Value.ref (ad 0)), (2, Value.ref (ad 66)), (3, Value.int 0)] = [((0 : Nat), Value.ref b), (1, Value.ref hx), (2, Value.ref hm), (3, Value.int 0)]
      rw [had0, had1, had3]
    rw [e9]
    exact h
  have hl := lv_entry ([.ref b]) (n := 4) (Nat.le_of_ble_eq_true rfl)
  rw [lg_entry_eq]
  refine key p e s m _ below meth c s.heap [] _ ⟨hx, hb, hml, hr, hown, hU, hlocks, hQ, fun q hq => hq, rfl, rfl⟩ (fun k q h => by simp at h) ⟨fun i j p q h => by simp at h, fun k q h => by simp at h⟩ va_S.rf (zhas_mono hl fun q hq => ?_)
  simpa [zls, zr, lv_args] using hq
