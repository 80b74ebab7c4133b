/-! the calls even and better -/
section EV7
variable {s : zS} {n : Nat} {v : Nat → Int} {g : Nat → Nat → Int}
/-- two sides have the same surplus over each other -/
def evB (n : Nat) (v : Nat → Int) (g : Nat → Nat → Int) (sh i k : Nat) : Bool := decide (zit (suF v g sh i k) (2 ^ n - 1) 1 (-1000000) = zit (suF v g sh k i) (2 ^ n - 1) 1 (-1000000))
theorem su_bd (hw : wRel s n v) (hg : gRel s g) {sh i k : Nat} (hs : sh < 2) : -1000000 ≤ zit (suF v g sh i k) (2 ^ n - 1) 1 (-1000000) ∧ zit (suF v g sh i k) (2 ^ n - 1) 1 (-1000000) ≤ 41000 := by
  have hp := pow_le4 hw.1.2.2.1
  exact zit_inv (fun _ t => -1000000 ≤ t ∧ t ≤ 41000) (2 ^ n - 1) 1 (-1000000) (by omega) (fun S t h1 h2 hP => by
    have hb := coV_bd hw hg hs (show S < 16 by omega)
    try dsimp only
    unfold suF
    (repeat' split) <;> omega)
theorem c_even30 (hw : wRel s n v) (hg : gRel s g) {sh i : Nat} {rec17 : Int32 → Option Int32} (hs : sh < 2) (hi : i < n) : ∀ m f k, k + m = n → i < k → m < f → D_X3_standsEven_L30 rec17 s (n32 (sh : Int)) (n32 (i : Int)) f (n32 (k : Int)) = if zall (evB n v g sh i) m k then rec17 (n32 ((i + 1 : Nat) : Int)) else some 0 := by
  have hn := hw.1.2.2.1
  intro m f k hk hl hf
  refine zchk (lo := i + 1) (hi := n) (fun f k => D_X3_standsEven_L30 rec17 s (n32 (sh : Int)) (n32 (i : Int)) f (n32 (k : Int))) (fun f k h1 h2 => ?_) (fun f => ?_) m f k hk (by omega) hf
  · have b1 := su_bd (i := i) (k := k) hw hg hs
    have b2 := su_bd (i := k) (k := i) hw hg hs
    try dsimp only
    rw [D_X3_standsEven_L30_s]
    unfold D_X3_standsEven_B30 evB
    rw [hw.1.1, zif_f (by rw [c32_le (by omega) (by omega)]; omega), c_surplus hw hg hs (by omega) (by omega), zbs, c_surplus hw hg hs (by omega) (by omega), zbs, nsuc]
    by_cases e : zit (suF v g sh i k) (2 ^ n - 1) 1 (-1000000) = zit (suF v g sh k i) (2 ^ n - 1) 1 (-1000000)
    · rw [zif_t (by rw [e]), if_pos (decide_eq_true e)]
    · rw [zif_f (fun q => e ((n32_eq (by omega) (by omega) (by omega) (by omega)).mp q)), if_neg (by rw [decide_eq_true_iff]; exact e)]
  · try dsimp only
    rw [D_X3_standsEven_L30_s]
    unfold D_X3_standsEven_B30
    rw [hw.1.1, zif_t (Int32.le_refl _), nsuc]
theorem c_even17 (hw : wRel s n v) (hg : gRel s g) {sh : Nat} (hs : sh < 2) : ∀ m f i, i + m = n → m < f → D_X3_standsEven_L17 s (n32 (sh : Int)) f (n32 (i : Int)) = if zall (fun i => zall (evB n v g sh i) (n - (i + 1)) (i + 1)) m i then some 1 else some 0 := by
  have hn := hw.1.2.2.1
  intro m f i hk hf
  refine zchk (lo := 0) (hi := n) (fun f i => D_X3_standsEven_L17 s (n32 (sh : Int)) f (n32 (i : Int))) (fun f k h1 h2 => ?_) (fun f => ?_) m f i hk (by omega) hf
  · try dsimp only
    rw [D_X3_standsEven_L17_s]
    unfold D_X3_standsEven_B17
    rw [hw.1.1, zif_f (by rw [c32_le (by omega) (by omega)]; omega), nsuc]
    exact c_even30 hw hg hs h2 _ _ _ (by omega) (by omega) (zFU_lt (by omega))
  · try dsimp only
    rw [D_X3_standsEven_L17_s]
    unfold D_X3_standsEven_B17
    rw [hw.1.1, zif_t (Int32.le_refl _)]
theorem r_even50 (hw : wRel s n v) (hg : gRel s g) {sh i : Nat} {rec39 : Int32 → Int32 → Option Int32} (hs : sh < 2) (hi : i < n) : ∀ m f k b, k + m = i → m < f → D_X9_even_L50 rec39 s (n32 (sh : Int)) (n32 (i : Int)) f (zfl b) (n32 (k : Int)) = rec39 (zfl (b && zall (evB n v g sh i) m k)) (n32 ((i + 1 : Nat) : Int)) := by
  have hn := hw.1.2.2.1
  intro m f k b hk hf
  have h := zfold (lo := 0) (hi := i) (step := fun k b => b && evB n v g sh i k) (fin := fun b => rec39 (zfl b) (n32 ((i + 1 : Nat) : Int))) (fun f k b => D_X9_even_L50 rec39 s (n32 (sh : Int)) (n32 (i : Int)) f (zfl b) (n32 (k : Int))) (fun f k b h1 h2 => ?_) (fun f b => ?_) m f k b hk (by omega) hf
  · rw [zit_and] at h; exact h
  · have b1 := su_bd (i := i) (k := k) hw hg hs
    have b2 := su_bd (i := k) (k := i) hw hg hs
    try dsimp only
    rw [D_X9_even_L50_s]
    unfold D_X9_even_B50 D_X9_even_J83
    rw [zif_f (by rw [c32_le (by omega) (by omega)]; omega)]
    cases b
    · rw [zb0, nsuc, Bool.false_and]; rfl
    · rw [zb1, r_surplus hw hg hs (by omega) (by omega), zbs, r_surplus hw hg hs (by omega) (by omega), zbs, su_same hw hg hs (by omega) (by omega), su_same hw hg hs (by omega) (by omega), nsuc, Bool.true_and]
      unfold evB
      by_cases e : zit (suF v g sh i k) (2 ^ n - 1) 1 (-1000000) = zit (suF v g sh k i) (2 ^ n - 1) 1 (-1000000)
      · rw [zif_t (by rw [e]), decide_eq_true e]; rfl
      · rw [zif_f (fun q => e ((n32_eq (by omega) (by omega) (by omega) (by omega)).mp q)), decide_eq_false e]; rfl
  · try dsimp only
    rw [D_X9_even_L50_s]
    unfold D_X9_even_B50
    rw [zif_t (Int32.le_refl _), nsuc]
theorem r_even39 (hw : wRel s n v) (hg : gRel s g) {sh : Nat} (hs : sh < 2) : ∀ m f i b, i + m = n → m < f → D_X9_even_L39 s (n32 (sh : Int)) f (zfl b) (n32 (i : Int)) = some (zfl (b && zall (fun i => zall (evB n v g sh i) i 0) m i)) := by
  have hn := hw.1.2.2.1
  intro m f i b hk hf
  have h := zfold (lo := 0) (hi := n) (step := fun i b => b && zall (evB n v g sh i) i 0) (fin := fun b => some (zfl b)) (fun f i b => D_X9_even_L39 s (n32 (sh : Int)) f (zfl b) (n32 (i : Int))) (fun f i b h1 h2 => ?_) (fun f b => ?_) m f i b hk (by omega) hf
  · rw [zit_and] at h; exact h
  · try dsimp only
    rw [D_X9_even_L39_s]
    unfold D_X9_even_B39
    rw [hw.2.1.1, zif_f (by rw [c32_le (by omega) (by omega)]; omega)]
    exact r_even50 hw hg hs h2 i zFU 0 b (by omega) (zFU_lt (by omega))
  · try dsimp only
    rw [D_X9_even_L39_s]
    unfold D_X9_even_B39
    rw [hw.2.1.1, zif_t (Int32.le_refl _)]
    cases b
    · rw [zb0]; rfl
    · rw [zb1]; rfl
theorem evB_sym {sh i k : Nat} : evB n v g sh i k = evB n v g sh k i := by
  unfold evB
  by_cases e : zit (suF v g sh i k) (2 ^ n - 1) 1 (-1000000) = zit (suF v g sh k i) (2 ^ n - 1) 1 (-1000000)
  · rw [decide_eq_true e, decide_eq_true e.symm]
  · rw [decide_eq_false e, decide_eq_false (fun q => e q.symm)]
theorem ev_all {sh : Nat} : zall (fun i => zall (evB n v g sh i) (n - (i + 1)) (i + 1)) n 0 = zall (fun i => zall (evB n v g sh i) i 0) n 0 := by
  have h : ∀ a b : Bool, (a = true ↔ b = true) → a = b := by decide
  refine h _ _ ?_
  rw [zall_iff, zall_iff]
  constructor
  · intro h i _ hi
    rw [zall_iff]
    intro k _ hk
    have := h k (by omega) (by omega)
    rw [zall_iff] at this
    rw [evB_sym]
    exact this i (by omega) (by omega)
  · intro h i _ hi
    rw [zall_iff]
    intro k h1 h2
    have := h k (by omega) (by omega)
    rw [zall_iff] at this
    rw [evB_sym]
    exact this i (by omega) (by omega)
theorem call_even (hw : wRel s n v) (hg : gRel s g) (a : Int32) : cPu (D_X8_even s a) (D_X9_even s a) := by
  obtain ⟨k, rfl, h1, h2⟩ := i32_of a
  have hn := hw.1.2.2.1
  have hp := pow_le4 hn
  have hp1 : 1 ≤ 2 ^ n := Nat.one_le_two_pow
  unfold D_X8_even D_X9_even D_X3_standsEven D_X9_even_J36
  rw [share8 h1 h2, share9 h1 h2]
  by_cases e : 0 ≤ k ∧ k ≤ 1
  · obtain ⟨sh, rfl⟩ : ∃ t : Nat, k = (t : Int) := ⟨k.toNat, by omega⟩
    have hs : sh < 2 := by omega
    have hb := coV_bd hw hg hs (show 2 ^ n - 1 < 16 by omega)
    have hb2 := shV_bd hg (S := 2 ^ n - 1) hs 4 (by omega)
    have hvb := hw.1.2.2.2.2 (2 ^ n - 1) (by omega)
    have l17 : D_X3_standsEven_L17 s (n32 (sh : Int)) zFU 0 = _ := c_even17 hw hg hs n zFU 0 (by omega) (zFU_lt (by omega))
    have l39 : ∀ b, D_X9_even_L39 s (n32 (sh : Int)) zFU (zfl b) 0 = _ := fun b => r_even39 hw hg hs n zFU 0 b (by omega) (zFU_lt (by omega))
    rw [if_pos e, zbs, zbs, zi1, zi1, all7 hw, zbs, c_complaint hw hg hs (by omega), all9 hw, zbs, zbs, r_sumOf hw hg hs (by omega), zbs, zbs, zgd_t (czin (by omega) (by omega)), n32_xn (by omega), hw.2.1.2.2.2.1 _ (by omega)]
    by_cases e2 : coV v g sh (2 ^ n - 1) = 0
    · have e3 : shV g sh (2 ^ n - 1) 4 = v (2 ^ n - 1) := by unfold coV at e2; omega
      have l39' : D_X9_even_L39 s (n32 (sh : Int)) zFU 1 0 = _ := l39 true
      rw [zif_t (by rw [e2]; rfl), zif_t (by rw [e3]), l17, l39', ev_all, Bool.true_and]
      cases zall (fun i => zall (evB n v g sh i) i 0) n 0
      · exact ⟨0, rfl, rfl⟩
      · exact ⟨1, rfl, rfl⟩
    · have e3 : ¬ shV g sh (2 ^ n - 1) 4 = v (2 ^ n - 1) := by unfold coV at e2; omega
      have l39' : D_X9_even_L39 s (n32 (sh : Int)) zFU 0 0 = _ := l39 false
      rw [zif_f (fun q => e2 (by rw [l32_0] at q; exact (n32_eq (by omega) (by omega) (by omega) (by omega)).mp q)), zif_f (fun q => e3 ((n32_eq (by omega) (by omega) (by omega) (by omega)).mp q)), l39', Bool.false_and]
      exact ⟨0, rfl, rfl⟩
  · rw [if_neg e, zbs, zbs, zi0, zi0]
    exact ⟨_, rfl, rfl⟩
/-- each of a set has more by one share than by the other -/
def moB (g : Nat → Nat → Int) (sh S i : Nat) : Bool := !S.testBit i || decide (g (1 - sh) i < g sh i)
theorem c_more (hw : wRel s n v) (hg : gRel s g) {sh S : Nat} (hs : sh < 2) (hS : S < 16) : D_X3_allHaveMore s (n32 (n : Int)) (n32 (sh : Int)) (n32 (S : Int)) = if zall (moB g sh S) n 0 then some 1 else some 0 := by
  have hn := hw.1.2.2.1
  have h1s : (1 : Int32) - n32 (sh : Int) = n32 ((1 - sh : Nat) : Int) := by rw [l32_1, n32_sub]; congr 1; omega
  refine zchk (lo := 0) (hi := n) (fun f k => D_X3_allHaveMore_L3 s (n32 (n : Int)) (n32 (sh : Int)) (n32 (S : Int)) f (n32 (k : Int))) (fun f k _ h2 => ?_) (fun f => ?_) n zFU 0 (by omega) (by omega) (zFU_lt (by omega))
  · have b1 := hg sh k hs (by omega)
    have b2 := hg (1 - sh) k (by omega) (by omega)
    try dsimp only
    rw [D_X3_allHaveMore_L3_s]
    unfold D_X3_allHaveMore_B3 moB
    rw [zif_f (by rw [c32_le (by omega) (by omega)]; omega), x8_hasL S (by omega) k (by omega), in_ite]
    by_cases e : S.testBit k = true
    · rw [if_pos e, zi1, h1s, zgd_t (czin (by omega) (by omega)), zT5 sh hs, zgd_t (zoI6 sh hs k (by omega)), zgd_t (czin (by omega) (by omega)), zT5 (1 - sh) (by omega), zgd_t (zoI6 (1 - sh) (by omega) k (by omega)), n32_xn (by omega), b1.1, b2.1, nsuc, e]
      by_cases e2 : g (1 - sh) k < g sh k
      · rw [zif_t ((n32_lt (by omega) (by omega) (by omega) (by omega)).mpr e2), decide_eq_true e2]; rfl
      · rw [zif_f (fun q => e2 ((n32_lt (by omega) (by omega) (by omega) (by omega)).mp q)), decide_eq_false e2]; rfl
    · rw [if_neg e, zi0, nsuc, show S.testBit k = false by simpa using e]; rfl
  · try dsimp only
    rw [D_X3_allHaveMore_L3_s]
    unfold D_X3_allHaveMore_B3
    rw [zif_t (Int32.le_refl _)]
theorem r_more (hw : wRel s n v) (hg : gRel s g) {sh S : Nat} {rec12 : Int32 → Option Int32} (hs : sh < 2) (hS : S < 16) (b : Bool) : D_X9_better_L44 rec12 s (n32 (sh : Int)) (n32 (S : Int)) zFU (zfl b) 0 = if b && zall (moB g sh S) n 0 then some (n32 (S : Int)) else rec12 (n32 ((S + 1 : Nat) : Int)) := by
  have hn := hw.1.2.2.1
  have h1s : (1 : Int32) - n32 (sh : Int) = n32 ((1 - sh : Nat) : Int) := by rw [l32_1, n32_sub]; congr 1; omega
  have h := zfold (lo := 0) (hi := n) (step := fun k b => b && moB g sh S k) (fin := fun b => if b then some (n32 (S : Int)) else rec12 (n32 ((S + 1 : Nat) : Int))) (fun f k b => D_X9_better_L44 rec12 s (n32 (sh : Int)) (n32 (S : Int)) f (zfl b) (n32 (k : Int))) (fun f k b _ h2 => ?_) (fun f b => ?_) n zFU 0 b (by omega) (by omega) (zFU_lt (by omega))
  · rw [zit_and] at h; exact h
  · have b1 := hg sh k hs (by omega)
    have b2 := hg (1 - sh) k (by omega) (by omega)
    have x1 : (4 : Int32) * n32 (sh : Int) + n32 (k : Int) = n32 ((4 * sh + k : Nat) : Int) := by rw [l32_4, n32_mul, n32_add]; congr 1
    have x2 : (4 : Int32) * n32 ((1 - sh : Nat) : Int) + n32 (k : Int) = n32 ((4 * (1 - sh) + k : Nat) : Int) := by rw [l32_4, n32_mul, n32_add]; congr 1
    try dsimp only
    rw [D_X9_better_L44_s]
    unfold D_X9_better_B44 D_X9_better_J93 D_X9_better_J97 moB
    rw [hw.2.1.1, zif_f (by rw [c32_le (by omega) (by omega)]; omega)]
    cases b
    · rw [zb0, nsuc, Bool.false_and]; rfl
    · rw [zb1, x9_hasL S (by omega) k (by omega), in_ite, Bool.true_and]
      by_cases e : S.testBit k = true
      · rw [if_pos e, zi1, h1s, x1, x2, zgd_t (czin (by omega) (by omega)), zgd_t (czin (by omega) (by omega)), n32_xn (by omega), n32_xn (by omega), b1.2.1, b2.2.1, nsuc, e]
        by_cases e2 : g (1 - sh) k < g sh k
        · rw [zif_f (by rw [n32_le (by omega) (by omega) (by omega) (by omega)]; omega), decide_eq_true e2]; rfl
        · rw [zif_t (by rw [n32_le (by omega) (by omega) (by omega) (by omega)]; omega), decide_eq_false e2]; rfl
      · rw [if_neg e, zi0, nsuc, show S.testBit k = false by simpa using e]; rfl
  · try dsimp only
    rw [D_X9_better_L44_s]
    unfold D_X9_better_B44
    rw [hw.2.1.1, zif_t (Int32.le_refl _), nsuc]
    cases b
    · rw [zb0]; rfl
    · rw [zb1]; rfl
def beB (n : Nat) (v : Nat → Int) (g : Nat → Nat → Int) (sh S : Nat) : Bool := decide (0 ≤ coV v g sh S) && zall (moB g sh S) n 0
theorem call_better (hw : wRel s n v) (hg : gRel s g) (a : Int32) : cPu (D_X8_better s a) (D_X9_better s a) := by
  obtain ⟨k, rfl, h1, h2⟩ := i32_of a
  have hn := hw.1.2.2.1
  have hp := pow_le4 hn
  have hp1 : 1 ≤ 2 ^ n := Nat.one_le_two_pow
  unfold D_X8_better D_X9_better D_X3_firstBetterSet
  rw [share8 h1 h2, share9 h1 h2]
  by_cases e : 0 ≤ k ∧ k ≤ 1
  · obtain ⟨sh, rfl⟩ : ∃ t : Nat, k = (t : Int) := ⟨k.toNat, by omega⟩
    have hs : sh < 2 := by omega
    have f8 := zfirst (lo := 1) (hi := 2 ^ n) (p := beB n v g sh) (val := fun S => some (n32 (S : Int))) (d := some (-1)) (fun f S => D_X3_firstBetterSet_L2 s (n32 (sh : Int)) f (n32 (S : Int))) (fun f S l1 l2 => by
      have hb := coV_bd hw hg hs (show S < 16 by omega)
      try dsimp only
      rw [D_X3_firstBetterSet_L2_s]
      unfold D_X3_firstBetterSet_B2 beB
      rw [all7 hw, zbs, zif_f (by rw [c32_lt (by omega) (by omega)]; omega), c_complaint hw hg hs (by omega), zbs, nsuc]
      by_cases e2 : 0 ≤ coV v g sh S
      · rw [zif_f (by rw [l32_0, n32_lt (by omega) (by omega) (by omega) (by omega)]; omega), decide_eq_true e2, hw.1.1, c_more hw hg hs (by omega), in_ite, Bool.true_and]
        cases zall (moB g sh S) n 0 <;> rfl
      · rw [zif_t (by rw [l32_0, n32_lt (by omega) (by omega) (by omega) (by omega)]; omega), decide_eq_false e2]; rfl) (fun f => by
      try dsimp only
      rw [D_X3_firstBetterSet_L2_s]
      unfold D_X3_firstBetterSet_B2
      rw [all7 hw, zbs, zif_t (by rw [c32_lt (by omega) (by omega)]; omega)]) (2 ^ n - 1) zFU 1 (by omega) (by omega) (zFU_lt (by omega))
    have f9 := zfirst (lo := 1) (hi := 2 ^ n) (p := beB n v g sh) (val := fun S => some (n32 (S : Int))) (d := some (-1)) (fun f S => D_X9_better_L12 s (n32 (sh : Int)) f (n32 (S : Int))) (fun f S l1 l2 => by
      have hb2 := shV_bd hg (S := S) hs 4 (by omega)
      have hvb := hw.1.2.2.2.2 S (by omega)
      try dsimp only
      rw [D_X9_better_L12_s]
      unfold D_X9_better_B12 D_X9_better_J40 beB coV
      rw [all9 hw, zbs, zif_f (by rw [c32_lt (by omega) (by omega)]; omega), r_sumOf hw hg hs (by omega), zbs, zgd_t (czin (by omega) (by omega)), n32_xn (by omega), hw.2.1.2.2.2.1 S (by omega)]
      by_cases e2 : 0 ≤ v S - shV g sh S 4
      · have h44 : D_X9_better_L44 (D_X9_better_L12 s (n32 (sh : Int)) f) s (n32 (sh : Int)) (n32 (S : Int)) zFU 1 0 = _ := r_more hw hg hs (show S < 16 by omega) true
        rw [zif_f (by rw [n32_lt (by omega) (by omega) (by omega) (by omega)]; omega), decide_eq_true e2]
        exact h44
      · have h44 : D_X9_better_L44 (D_X9_better_L12 s (n32 (sh : Int)) f) s (n32 (sh : Int)) (n32 (S : Int)) zFU 0 0 = _ := r_more hw hg hs (show S < 16 by omega) false
        rw [zif_t (by rw [n32_lt (by omega) (by omega) (by omega) (by omega)]; omega), decide_eq_false e2]
        exact h44) (fun f => by
      try dsimp only
      rw [D_X9_better_L12_s]
      unfold D_X9_better_B12
      rw [all9 hw, zbs, zif_t (by rw [c32_lt (by omega) (by omega)]; omega)]) (2 ^ n - 1) zFU 1 (by omega) (by omega) (zFU_lt (by omega))
    have f8' : D_X3_firstBetterSet_L2 s (n32 (sh : Int)) zFU 1 = _ := f8
    have f9' : D_X9_better_L12 s (n32 (sh : Int)) zFU 1 = _ := f9
    rw [if_pos e, zbs, zbs, zi1, zi1, f8', f9']
    have hsome : ∀ (p : Nat → Bool) m k, ∃ r, zfst p (fun S => some (n32 (S : Int))) (some (-1 : Int32)) m k = some r := by
      intro p m
      induction m with
      | zero => exact fun k => ⟨_, rfl⟩
      | succ m ih =>
        intro k
        rw [zfst]
        split
        · exact ⟨_, rfl⟩
        · exact ih (k + 1)
    obtain ⟨r, hr⟩ := hsome (beB n v g sh) (2 ^ n - 1) 1
    rw [hr]
    exact ⟨r, rfl, rfl⟩
  · rw [if_neg e, zbs, zbs, zi0, zi0]
    exact ⟨_, rfl, rfl⟩
end EV7
