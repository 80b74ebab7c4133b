/-! the calls alone, paid and held -/
theorem zit_or {p : Nat → Bool} : ∀ m k b, zit (fun k b => b || p k) m k b = (b || !zall (fun k => !p k) m k)
  | 0, _, b => by rw [zit, zall, Bool.not_true, Bool.or_false]
  | m + 1, k, b => by
    rw [zit, zit_or m (k + 1), zall, Bool.or_assoc]
    congr 1
    cases p k <;> simp
section DW
variable {s : zS} {p u : Nat} {h' at' w : Nat → Nat} {c y : Nat → Int}
theorem way_in (ht : tRel s p h' c w u at' y) {i : Nat} (hi : i < u) : w (at' i) < 1024 := by
  have h1 := (ht.2.2.2.2.2.1 i hi).2.2.1
  have h2 := (ht.2.2.2.1 _ h1).2
  have hp := ht.1.2.2
  have h3 : 2 ^ (at' i + 1) ≤ 2 ^ 10 := Nat.pow_le_pow_right (by omega) (by omega)
  omega
theorem r_on7 (ht : tRel s p h' c w u at' y) {pl : Nat} (hl : 1 ≤ pl) (hpl : pl < p) : ∀ (x : Nat), x < p → ∀ f, x < f → D_X9_isOnWay_L7 s (n32 (pl : Int)) f (n32 (x : Int)) = some (zfl ((w x).testBit pl)) := by
  have hp := ht.1.2.2
  intro x
  induction x using Nat.strongRecOn with
  | ind x ih =>
    intro hx f hf
    obtain ⟨f, rfl⟩ : ∃ j, f = j + 1 := ⟨f - 1, by omega⟩
    rw [D_X9_isOnWay_L7_s]
    unfold D_X9_isOnWay_B7
    by_cases e : x ≤ pl
    · rw [zif_t (by rw [c32_le (by omega) (by omega)]; exact e)]
      by_cases e2 : x = pl
      · obtain ⟨-, -, -, -, -, -, -, q⟩ := ht.2.1 pl hl hpl
        rw [zif_t (by rw [e2]), e2, q, or_bit, decide_eq_true rfl, Bool.or_true]; rfl
      · have hlt : w x < 2 ^ pl := Nat.lt_of_lt_of_le (ht.2.2.2.1 x hx).2 (Nat.pow_le_pow_right (by omega) (by omega))
        rw [zif_f (fun q => e2 (by have := (n32_eq (by omega) (by omega) (by omega) (by omega)).mp q; omega)), Nat.testBit_lt_two_pow hlt]; rfl
    · obtain ⟨-, q2, q3, -, -, -, -, q⟩ := ht.2.1 x (by omega) hx
      rw [zif_f (by rw [c32_le (by omega) (by omega)]; exact e), zgd_t (czin (by omega) (by omega)), n32_xn (by omega), q2, ih (h' x) q3 (by omega) f (by omega), q, or_bit, decide_eq_false (by omega), Bool.or_false]
theorem r_on (ht : tRel s p h' c w u at' y) {pl i : Nat} (hl : 1 ≤ pl) (hpl : pl < p) (hi : i < u) : D_X9_isOnWay s (n32 (i : Int)) (n32 (pl : Int)) = some (zfl ((w (at' i)).testBit pl)) := by
  have hp := ht.1.2.2
  have hu := ht.2.2.2.2.1.2.2
  obtain ⟨-, q2, q3, -⟩ := ht.2.2.2.2.2.1 i hi
  unfold D_X9_isOnWay
  rw [zgd_t (czin (by omega) (by omega)), n32_xn (by omega), q2]
  exact r_on7 ht hl hpl _ q3 zFU (zFU_lt (by omega))
theorem c_ways (ht : tRel s p h' c w u at' y) {i : Nat} (hi : i < u) : D_X6_waysOfUser s (n32 (i : Int)) = some (n32 (w (at' i) : Int)) := by
  have hp := ht.1.2.2
  have hu := ht.2.2.2.2.1.2.2
  obtain ⟨q1, -, q3, -⟩ := ht.2.2.2.2.2.1 i hi
  have k8 : D_X6_knowsPlace s (n32 (at' i : Int)) = some 1 := by
    unfold D_X6_knowsPlace
    rw [ht.1.1]
    have := idx8 (m := p) (k := (at' i : Int)) (by omega) (by omega) (by omega)
    rw [if_pos (by omega)] at this
    exact this
  unfold D_X6_waysOfUser
  rw [zgd_t (czin (by omega) (by omega)), n32_xn (by omega), q1, k8, zbs, zi1, zgd_t (czin (by omega) (by omega)), n32_xn (by omega), (ht.2.2.2.1 _ q3).1]
/-- a set has a way -/
def usB (w at' : Nat → Nat) (u S pl : Nat) : Bool := !zall (fun i => !(S.testBit i && (w (at' i)).testBit pl)) u 0
def usN (w at' : Nat → Nat) (S m k t : Nat) : Nat := zit (fun i (t : Nat) => if S.testBit i then t ||| w (at' i) else t) m k t
theorem us_bit {S pl : Nat} : ∀ (m k t : Nat), (usN w at' S m k t).testBit pl = (t.testBit pl || !zall (fun i => !(S.testBit i && (w (at' i)).testBit pl)) m k) := by
  intro m k t
  have h : ∀ (m k t : Nat), (usN w at' S m k t).testBit pl = zit (fun i b => b || (S.testBit i && (w (at' i)).testBit pl)) m k (t.testBit pl) := by
    intro m
    induction m with
    | zero => intro k t; rfl
    | succ m ih =>
      intro k t
      have e : usN w at' S (m + 1) k t = usN w at' S m (k + 1) (if S.testBit k then t ||| w (at' k) else t) := rfl
      rw [e, ih, zit]
      congr 1
      cases S.testBit k
      · rw [if_neg (by decide), Bool.false_and, Bool.or_false]
      · rw [if_pos rfl, Nat.testBit_or, Bool.true_and]
  rw [h, zit_or]
def coV2 (c : Nat → Int) (w at' : Nat → Nat) (p u S : Nat) : Int := zit (fun pl (t : Int) => if usB w at' u S pl then t + c pl else t) (p - 1) 1 0
theorem co_bd (ht : tRel s p h' c w u at' y) {S : Nat} : 0 ≤ coV2 c w at' p u S ∧ coV2 c w at' p u S ≤ 10000 := by
  have hp := ht.1.2.2
  have h := zit_inv (fun k (t : Int) => 0 ≤ t ∧ t ≤ 1000 * (k : Int)) (step := fun pl (t : Int) => if usB w at' u S pl then t + c pl else t) (p - 1) 1 0 ⟨by omega, by omega⟩ (fun j t h1 h2 hP => by
    obtain ⟨-, -, -, -, -, q6, q7, -⟩ := ht.2.1 j h1 (by omega)
    try dsimp only
    push_cast
    split <;> omega)
  unfold coV2
  omega
theorem c_cost (ht : tRel s p h' c w u at' y) {S : Nat} (hS : S < 2 ^ u) : D_X6_costOf s (n32 (S : Int)) = some (n32 (coV2 c w at' p u S)) := by
  have hp := ht.1.2.2
  have hu := ht.2.2.2.2.1.2.2
  have hpu := pow_le8 hu
  have h39 : ∀ U : Nat, U < 1024 → (∀ pl, U.testBit pl = usB w at' u S pl) → D_X6_costOf_L39 s (n32 (U : Int)) zFU 0 1 = some (n32 (coV2 c w at' p u S)) := fun U hU hb => by
    have h := zfold (lo := 1) (hi := p) (step := fun pl (t : Int) => if usB w at' u S pl then t + c pl else t) (fin := fun t : Int => some (n32 t)) (fun f pl t => D_X6_costOf_L39 s (n32 (U : Int)) f (n32 t) (n32 (pl : Int))) (fun f pl t h1 h2 => by
      obtain ⟨-, -, -, q4, -⟩ := ht.2.1 pl h1 h2
      try dsimp only
      rw [D_X6_costOf_L39_s]
      unfold D_X6_costOf_B39
      rw [ht.1.1, zif_f (by rw [c32_le (by omega) (by omega)]; omega), x8_hasL U hU pl (by omega), in_ite, hb, nsuc]
      cases usB w at' u S pl
      · rw [if_neg (by decide), zi0]; rfl
      · rw [if_pos rfl, zi1, zgd_t (czin (by omega) (by omega)), n32_xn (by omega), q4, n32_add]; rfl) (fun f t => by
      try dsimp only
      rw [D_X6_costOf_L39_s]
      unfold D_X6_costOf_B39
      rw [ht.1.1, zif_t (Int32.le_refl _)]) (p - 1) zFU 1 0 (by omega) (by omega) (zFU_lt (by omega))
    exact h
  have h4 := zfoldP (lo := 0) (hi := u) (step := fun i (t : Nat) => if S.testBit i then t ||| w (at' i) else t) (fin := fun t : Nat => D_X6_costOf_L39 s (n32 (t : Int)) zFU 0 1) (fun _ t => t < 1024) (fun f i t => D_X6_costOf_L4 s (n32 (S : Int)) f (n32 (t : Int)) (n32 (i : Int))) (fun f i t _ hi hP => by
    have hw := way_in ht hi
    refine ⟨by
      try dsimp only
      split
      · exact Nat.or_lt_two_pow (n := 10) hP hw
      · exact hP, ?_⟩
    try dsimp only
    rw [D_X6_costOf_L4_s]
    unfold D_X6_costOf_B4
    rw [ht.2.2.2.2.1.1, zif_f (by rw [c32_le (by omega) (by omega)]; omega), x8_hasL S (by omega) i (by omega), in_ite, nsuc]
    cases S.testBit i
    · rw [if_neg (by decide), zi0]; rfl
    · rw [if_pos rfl, zi1, c_ways ht hi, zbs, n32_or]; rfl) (fun f t _ => by
    try dsimp only
    rw [D_X6_costOf_L4_s]
    unfold D_X6_costOf_B4
    rw [ht.2.2.2.2.1.1, zif_t (Int32.le_refl _)]) u zFU 0 0 (by omega) (by omega) (zFU_lt (by omega)) (by omega)
  have e : D_X6_costOf s (n32 (S : Int)) = _ := h4.2
  rw [e]
  refine h39 _ h4.1 (fun pl => ?_)
  have := us_bit (w := w) (at' := at') (S := S) (pl := pl) u 0 0
  rw [Nat.zero_testBit, Bool.false_or] at this
  exact this
theorem r_cost (ht : tRel s p h' c w u at' y) {S : Nat} (hS : S < 2 ^ u) : D_X9_aloneOf s (n32 (S : Int)) = some (n32 (coV2 c w at' p u S)) := by
  have hp := ht.1.2.2
  have hu := ht.2.2.2.2.1.2.2
  have hpu := pow_le8 hu
  refine zfold (lo := 1) (hi := p) (step := fun pl (t : Int) => if usB w at' u S pl then t + c pl else t) (fin := fun t : Int => some (n32 t)) (fun f pl t => D_X9_aloneOf_L4 s (n32 (S : Int)) f (n32 t) (n32 (pl : Int))) (fun f pl t h1 h2 => ?_) (fun f t => ?_) (p - 1) zFU 1 0 (by omega) (by omega) (zFU_lt (by omega))
  · obtain ⟨-, -, -, -, q5, -⟩ := ht.2.1 pl h1 h2
    try dsimp only
    rw [D_X9_aloneOf_L4_s]
    unfold D_X9_aloneOf_B4
    rw [ht.1.2.1, zif_f (by rw [c32_le (by omega) (by omega)]; omega)]
    have h18 := zfold (lo := 0) (hi := u) (step := fun i b => b || (S.testBit i && (w (at' i)).testBit pl)) (fin := fun b => D_X9_aloneOf_L4 s (n32 (S : Int)) f (n32 (if b then t + c pl else t)) (n32 ((pl + 1 : Nat) : Int))) (fun g i b => D_X9_aloneOf_L18 (D_X9_aloneOf_L4 s (n32 (S : Int)) f) s (n32 (S : Int)) (n32 t) (n32 (pl : Int)) g (zfl b) (n32 (i : Int))) (fun g i b _ hi => ?_) (fun g b => ?_) u zFU 0 false (by omega) (by omega) (zFU_lt (by omega))
    · rw [zit_or, Bool.false_or] at h18
      exact h18
    · try dsimp only
      rw [D_X9_aloneOf_L18_s]
      unfold D_X9_aloneOf_B18 D_X9_aloneOf_J51 D_X9_aloneOf_J55
      rw [ht.2.2.2.2.1.2.1, zif_f (by rw [c32_le (by omega) (by omega)]; omega), nsuc]
      cases b
      · rw [zb0, x9_hasL S (by omega) i (by omega), in_ite, Bool.false_or]
        cases S.testBit i
        · rw [if_neg (by decide), zi0]; rfl
        · rw [if_pos rfl, zi1, r_on ht h1 h2 hi, zbs, Bool.true_and]
          cases (w (at' i)).testBit pl
          · rw [zb0]; rfl
          · rw [zb1]; rfl
      · rw [zb1, Bool.true_or]; rfl
    · try dsimp only
      rw [D_X9_aloneOf_L18_s]
      unfold D_X9_aloneOf_B18 D_X9_aloneOf_J80
      rw [ht.2.2.2.2.1.2.1, zif_t (Int32.le_refl _), nsuc]
      cases b
      · rw [zb0, n32_0r]; rfl
      · rw [zb1, zgd_t (czin (by omega) (by omega)), n32_xn (by omega), q5, n32_add]; rfl
  · try dsimp only
    rw [D_X9_aloneOf_L4_s]
    unfold D_X9_aloneOf_B4
    rw [ht.1.2.1, zif_t (Int32.le_refl _)]
theorem call_alone (ht : tRel s p h' c w u at' y) (a : Int32) : cPu (D_X8_alone s a) (D_X9_alone s a) := by
  obtain ⟨k, rfl, h1, h2⟩ := i32_of a
  have hu := ht.2.2.2.2.1.2.2
  have hpu := pow_le8 hu
  have hall : n32 ((2 ^ u : Nat) : Int) - 1 = n32 ((2 ^ u - 1 : Nat) : Int) := by rw [l32_1, n32_sub, show ((2 ^ u : Nat) : Int) - 1 = ((2 ^ u - 1 : Nat) : Int) by omega]
  unfold D_X8_alone D_X9_alone D_X6_allUsers
  rw [ht.2.2.2.2.1.1, ht.2.2.2.2.1.2.1, shlL u (by omega), hall, zbs, set8 (by omega) h1 h2, setL9 (by omega) h1 h2]
  by_cases e : 0 ≤ k ∧ k < ((2 ^ u : Nat) : Int)
  · obtain ⟨S, rfl⟩ : ∃ t : Nat, k = (t : Int) := ⟨k.toNat, by omega⟩
    rw [if_pos e, zbs, zbs, zi1, zi1, c_cost ht (by omega), r_cost ht (by omega)]
    exact ⟨_, rfl, rfl⟩
  · rw [if_neg e, zbs, zbs, zi0, zi0]
    exact ⟨_, rfl, rfl⟩
/-- a set pays more than its ways cost -/
def heB (c y : Nat → Int) (w at' : Nat → Nat) (p u S : Nat) : Bool := decide (coV2 c w at' p u S < ldV y u S)
theorem pay_bd (ht : tRel s p h' c w u at' y) {S : Nat} : 0 ≤ ldV y u S ∧ ldV y u S ≤ 80000 := by
  have hu := ht.2.2.2.2.1.2.2
  have := ld_bd (W := y) (A := 10000) (S := S) u (fun i hi => (ht.2.2.2.2.2.2.1 i (by omega)).2)
  omega
theorem call_held (ht : tRel s p h' c w u at' y) : cPu (D_X8_held s) (D_X9_held s) := by
  have hu := ht.2.2.2.2.1.2.2
  have hpu := pow_le8 hu
  have hall : n32 ((2 ^ u : Nat) : Int) - 1 = n32 ((2 ^ u - 1 : Nat) : Int) := by rw [l32_1, n32_sub, show ((2 ^ u : Nat) : Int) - 1 = ((2 ^ u - 1 : Nat) : Int) by omega]
  have f8 := zfirst (lo := 1) (hi := 2 ^ u) (p := heB c y w at' p u) (val := fun S => some (n32 (S : Int))) (d := some (-1)) (fun f S => D_X6_firstOverpaying_L2 s f (n32 (S : Int))) (fun f S l1 l2 => by
    have hb := co_bd ht (S := S)
    have hb2 := pay_bd ht (S := S)
    have hpay := zfold (lo := 0) (hi := u) (step := fun i (t : Int) => if S.testBit i then t + y i else t) (fin := fun t : Int => some (n32 t)) (fun f i t => D_X6_paysOf_L4 s (n32 (S : Int)) f (n32 t) (n32 (i : Int))) (fun f i t _ hi => by
      try dsimp only
      rw [D_X6_paysOf_L4_s]
      unfold D_X6_paysOf_B4
      rw [ht.2.2.2.2.1.1, zif_f (by rw [c32_le (by omega) (by omega)]; omega), x8_hasL S (by omega) i (by omega), in_ite, nsuc]
      cases S.testBit i
      · rw [if_neg (by decide), zi0]; rfl
      · rw [if_pos rfl, zi1, zgd_t (czin (by omega) (by omega)), n32_xn (by omega), (ht.2.2.2.2.2.2.1 i (by omega)).1, n32_add]; rfl) (fun f t => by
      try dsimp only
      rw [D_X6_paysOf_L4_s]
      unfold D_X6_paysOf_B4
      rw [ht.2.2.2.2.1.1, zif_t (Int32.le_refl _)]) u zFU 0 0 (by omega) (by omega) (zFU_lt (by omega))
    rw [ld_zit] at hpay
    have hpay' : D_X6_paysOf s (n32 (S : Int)) = _ := hpay
    try dsimp only
    rw [D_X6_firstOverpaying_L2_s]
    unfold D_X6_firstOverpaying_B2 D_X6_allUsers heB
    rw [ht.2.2.2.2.1.1, shlL u (by omega), hall, zbs, zif_f (by rw [c32_lt (by omega) (by omega)]; omega), hpay', zbs, c_cost ht l2, zbs, nsuc]
    by_cases e : coV2 c w at' p u S < ldV y u S
    · rw [zif_f (by rw [n32_le (by omega) (by omega) (by omega) (by omega)]; omega), if_pos (decide_eq_true e)]
    · rw [zif_t (by rw [n32_le (by omega) (by omega) (by omega) (by omega)]; omega), if_neg (by rw [decide_eq_true_iff]; exact e)]) (fun f => by
    try dsimp only
    rw [D_X6_firstOverpaying_L2_s]
    unfold D_X6_firstOverpaying_B2 D_X6_allUsers
    rw [ht.2.2.2.2.1.1, shlL u (by omega), hall, zbs, zif_t (by rw [c32_lt (by omega) (by omega)]; omega)]) (2 ^ u - 1) zFU 1 (by omega) (by omega) (zFU_lt (by omega))
  have f9 := zfirst (lo := 1) (hi := 2 ^ u) (p := heB c y w at' p u) (val := fun S => some (n32 (S : Int))) (d := some (-1)) (fun f S => D_X9_held_L2 s f (n32 (S : Int))) (fun f S l1 l2 => by
    have hb := co_bd ht (S := S)
    have hb2 := pay_bd ht (S := S)
    have hpay := zfold (lo := 0) (hi := u) (step := fun i (t : Int) => if S.testBit i then t + y i else t) (fin := fun t : Int => if n32 t ≤ n32 (coV2 c w at' p u S) then D_X9_held_L2 s f (n32 ((S + 1 : Nat) : Int)) else some (n32 (S : Int))) (fun g i t => D_X9_held_L16 (D_X9_held_L2 s f) s (n32 (S : Int)) g (n32 t) (n32 (i : Int))) (fun g i t _ hi => by
      try dsimp only
      rw [D_X9_held_L16_s]
      unfold D_X9_held_B16 D_X9_held_J43
      rw [ht.2.2.2.2.1.2.1, zif_f (by rw [c32_le (by omega) (by omega)]; omega), x9_hasL S (by omega) i (by omega), in_ite, nsuc]
      cases S.testBit i
      · rw [if_neg (by decide), zi0, n32_0r]; rfl
      · rw [if_pos rfl, zi1, zgd_t (czin (by omega) (by omega)), n32_xn (by omega), (ht.2.2.2.2.2.1 i hi).2.2.2, n32_add]; rfl) (fun g t => by
      try dsimp only
      rw [D_X9_held_L16_s]
      unfold D_X9_held_B16
      rw [ht.2.2.2.2.1.2.1, zif_t (Int32.le_refl _), r_cost ht l2, zbs, nsuc]) u zFU 0 0 (by omega) (by omega) (zFU_lt (by omega))
    rw [ld_zit] at hpay
    have hpay' : D_X9_held_L16 (D_X9_held_L2 s f) s (n32 (S : Int)) zFU 0 0 = _ := hpay
    try dsimp only
    rw [D_X9_held_L2_s]
    unfold D_X9_held_B2 heB
    rw [ht.2.2.2.2.1.2.1, shlL u (by omega), zif_f (by rw [c32_le (by omega) (by omega)]; omega), hpay']
    by_cases e : coV2 c w at' p u S < ldV y u S
    · rw [zif_f (by rw [n32_le (by omega) (by omega) (by omega) (by omega)]; omega), if_pos (decide_eq_true e)]
    · rw [zif_t (by rw [n32_le (by omega) (by omega) (by omega) (by omega)]; omega), if_neg (by rw [decide_eq_true_iff]; exact e)]) (fun f => by
    try dsimp only
    rw [D_X9_held_L2_s]
    unfold D_X9_held_B2
    rw [ht.2.2.2.2.1.2.1, shlL u (by omega), zif_t (Int32.le_refl _)]) (2 ^ u - 1) zFU 1 (by omega) (by omega) (zFU_lt (by omega))
  have f8' : D_X6_firstOverpaying s = _ := f8
  have f9' : D_X9_held s = _ := f9
  unfold D_X8_held
  rw [f8', f9']
  have hsome : ∀ (p : Nat → Bool) m k, ∃ r, zfst p (fun S => some (n32 (S : Int))) (some (-1 : Int32)) m k = some r := by
    intro p m
    induction m with
    | zero => exact fun k => ⟨_, rfl⟩
    | succ m ih =>
      intro k
      rw [zfst]
      split
      · exact ⟨_, rfl⟩
      · exact ih (k + 1)
  obtain ⟨r, hr⟩ := hsome (heB c y w at' p u) (2 ^ u - 1) 1
  rw [hr]
  exact ⟨r, rfl, rfl⟩
end DW
