/-! the calls worth and give -/
theorem call_worth {s : zS} (h : Rel s) (a b : Int32) : cOk s (fun s => D_X8_worth s a b) (fun s => D_X9_worth s a b) := by
  obtain ⟨k, rfl, h1, h2⟩ := i32_of a
  obtain ⟨x, rfl, h3, h4⟩ := i32_of b
  obtain ⟨⟨n, v, hw, hk⟩, ⟨g, hg⟩, ⟨m, W, q, hv⟩, ⟨m', C, E, hc'⟩, ⟨p, h', c, w, u, a', y, ht⟩, ⟨B, S, G, Q, hm⟩, hf⟩ := id h
  have hp := pow_le4 hw.1.2.2.1
  have i8 : D_X8_within (n32 x) (-1000) 1000 = if -1000 ≤ x ∧ x ≤ 1000 then some 1 else some 0 := by
    rw [show (-1000 : Int32) = n32 (-1000) by decide, l32_1000]
    exact in8 h3 h4 (by omega) (by omega) (by omega) (by omega)
  have i9 : D_X9_in (n32 x).toInt64 (-1000) 1000 = if -1000 ≤ x ∧ x ≤ 1000 then some 1 else some 0 := by
    rw [show (-1000 : Int64) = n64 (-1000) by decide, show (1000 : Int64) = n64 1000 by decide]
    exact in9L h3 h4 (by omega) (by omega) (by omega) (by omega)
  by_cases e : 1 ≤ k ∧ k < ((2 ^ n : Nat) : Int)
  · by_cases e2 : -1000 ≤ x ∧ x ≤ 1000
    · obtain ⟨T, rfl⟩ : ∃ j : Nat, k = (j : Int) := ⟨k.toNat, by omega⟩
      have hT : T < 16 := by omega
      let s1 : zS := zwI (zwI s 4 4 0) 3 T (n32 x)
      let s2 : zS := zwI s1 67 T (n32 x)
      have ff1 : fr (fun i => i = 1 ∨ i = 7) s s1 := fr_t (fr_wI s 4 4 0 (Or.inr (Or.inr rfl))) (fr_wI _ 3 T _ (Or.inr (Or.inl rfl)))
      have ff : fr (fun i => i = 1 ∨ i = 7) s s2 := fr_t ff1 (fr_wI _ 67 T _ (Or.inr (Or.inl rfl)))
      have v1 : s1.1 67 T = n32 (v T) := hw.2.1.2.2.2.1 T hT
      refine ⟨n32 (v T), s1, s2, ?_, ?_, ⟨n, fun S => if S = T then x else v S, ⟨⟨hw.1.1, hw.1.2.1, hw.1.2.2.1, fun S hS => ?_, fun S hS => ?_⟩, ⟨hw.2.1.1, hw.1.2.1, hw.1.2.2.1, fun S hS => ?_, fun S hS => ?_⟩, ?_⟩, Or.inl rfl⟩, ⟨g, gRel_f hg ff (by decide)⟩, ⟨m, W, q, vRel_f hv ff (by decide)⟩, ⟨m', C, E, cRel_f hc' ff (by decide)⟩, ⟨p, h', c, w, u, a', y, tRel_f ht ff (by decide)⟩, ⟨B, S, G, Q, mRel_f hm ff (by decide)⟩, frEq_fr hf ff (by decide)⟩
      · try dsimp only
        unfold D_X8_worth D_X3_forgetCalm D_X7_replaceWorth
        rw [set7 hw h1 h2, if_pos e, zbs, zif_f (by decide), i8, if_pos e2, zbs, zif_f (by decide), zbs, zgd_t (czin (by omega) (by omega)), zgd_t (czin (by omega) (by omega)), n32_xn (by omega), zbs]
        have v0 : (zwI s 4 4 0).1 3 T = n32 (v T) := hw.1.2.2.2.1 T hT
        rw [v0]
      · try dsimp only
        unfold D_X9_worth
        have hw1 : D_X9_isSet s1 (n32 (T : Int)) = D_X9_isSet s (n32 (T : Int)) := rfl
        rw [hw1, set9 hw h1 h2, if_pos e, zbs, zif_f (by decide), i9, if_pos e2, zbs, zif_f (by decide), zgd_t (czin (by omega) (by omega)), zgd_t (czin (by omega) (by omega)), n32_xn (by omega), v1]
      · try dsimp only
        show s1.1 3 S = _
        rw [show s1 = zwI (zwI s 4 4 0) 3 T (n32 x) from rfl, zwI_at]
        by_cases e3 : S = T
        · rw [if_pos ⟨rfl, e3⟩, if_pos e3]
        · rw [if_neg (fun q => e3 q.2), if_neg e3]; exact hw.1.2.2.2.1 S hS
      · try dsimp only
        have := hw.1.2.2.2.2 S hS
        split <;> omega
      · try dsimp only
        rw [show s2 = zwI s1 67 T (n32 x) from rfl, zwI_at]
        by_cases e3 : S = T
        · rw [if_pos ⟨rfl, e3⟩, if_pos e3]
        · rw [if_neg (fun q => e3 q.2), if_neg e3]; exact hw.2.1.2.2.2.1 S hS
      · try dsimp only
        have := hw.1.2.2.2.2 S hS
        split <;> omega
      · try dsimp only
        rw [if_neg (by omega)]; exact hw.2.2
    · refine cOk_same h (r := -100000) ?_ ?_
      · try dsimp only
        unfold D_X8_worth
        rw [set7 hw h1 h2, if_pos e, zbs, zif_f (by decide), i8, if_neg e2, zbs, zif_t rfl]
      · try dsimp only
        unfold D_X9_worth
        rw [set9 hw h1 h2, if_pos e, zbs, zif_f (by decide), i9, if_neg e2, zbs, zif_t rfl]
  · refine cOk_same h (r := -100000) ?_ ?_
    · try dsimp only
      unfold D_X8_worth
      rw [set7 hw h1 h2, if_neg e, zbs, zif_t rfl]
    · try dsimp only
      unfold D_X9_worth
      rw [set9 hw h1 h2, if_neg e, zbs, zif_t rfl]
theorem share9 {k : Int} (h1 : -2147483648 ≤ k) (h2 : k < 2147483648) : D_X9_isShare (n32 k) = if 0 ≤ k ∧ k ≤ 1 then some 1 else some 0 := by
  unfold D_X9_isShare
  rw [l64_0, l64_1, in9L h1 h2 (by omega) (by omega) (by omega) (by omega)]
  by_cases e : 0 ≤ k ∧ k ≤ 1
  · rw [if_pos e]; rfl
  · rw [if_neg e]; rfl
theorem share8 {k : Int} (h1 : -2147483648 ≤ k) (h2 : k < 2147483648) : D_X8_within (n32 k) 0 1 = if 0 ≤ k ∧ k ≤ 1 then some 1 else some 0 := in8 (lo := 0) (hi := 1) h1 h2 (by omega) (by omega) (by omega) (by omega)
theorem call_give {s : zS} (h : Rel s) (a b c : Int32) : cOk s (fun s => D_X8_give s a b c) (fun s => D_X9_give s a b c) := by
  obtain ⟨k, rfl, h1, h2⟩ := i32_of a
  obtain ⟨j, rfl, h3, h4⟩ := i32_of b
  obtain ⟨x, rfl, h5, h6⟩ := i32_of c
  obtain ⟨⟨n, v, hw, hk⟩, ⟨g, hg⟩, ⟨m, W, q, hv⟩, ⟨m', C, E, hc'⟩, ⟨p, h', c, w, u, a', y, ht⟩, ⟨B, S, G, Q, hm⟩, hf⟩ := id h
  have hn := hw.1.2.2.1
  have i8 : D_X8_within (n32 x) (-10000) 10000 = if -10000 ≤ x ∧ x ≤ 10000 then some 1 else some 0 := by
    rw [show (-10000 : Int32) = n32 (-10000) by decide, l32_10000]
    exact in8 h5 h6 (by omega) (by omega) (by omega) (by omega)
  have i9 : D_X9_in (n32 x).toInt64 (-10000) 10000 = if -10000 ≤ x ∧ x ≤ 10000 then some 1 else some 0 := by
    rw [show (-10000 : Int64) = n64 (-10000) by decide, show (10000 : Int64) = n64 10000 by decide]
    exact in9L h5 h6 (by omega) (by omega) (by omega) (by omega)
  by_cases e : 0 ≤ k ∧ k ≤ 1
  · by_cases e2 : 0 ≤ j ∧ j ≤ (n : Int) - 1
    · by_cases e3 : -10000 ≤ x ∧ x ≤ 10000
      · obtain ⟨sh, rfl⟩ : ∃ t : Nat, k = (t : Int) := ⟨k.toNat, by omega⟩
        obtain ⟨i, rfl⟩ : ∃ t : Nat, j = (t : Int) := ⟨j.toNat, by omega⟩
        obtain ⟨g1, g2, g3⟩ := hg sh i (by omega) (by omega)
        let s1 : zS := zwI s (6 + sh) i (n32 x)
        let s2 : zS := zwI s1 68 (4 * sh + i) (n32 x)
        have ow : own (6 + sh) i = 2 := by
          have : sh = 0 ∨ sh = 1 := by omega
          rcases this with rfl | rfl <;> rfl
        have ff : fr (fun i => i = 2) s s2 := fr_t (fr_wI s _ _ _ (Or.inr ow)) (fr_wI _ 68 _ _ (Or.inr rfl))
        have v1 : s1.1 68 (4 * sh + i) = n32 (g sh i) := by
          rw [show s1 = zwI s (6 + sh) i (n32 x) from rfl, zwI_at, if_neg (by omega)]; exact g2
        have hix : (4 : Int32) * n32 (sh : Int) + n32 (i : Int) = n32 ((4 * sh + i : Nat) : Int) := by
          rw [l32_4, n32_mul, n32_add]; congr 1
        refine ⟨n32 (g sh i), s1, s2, ?_, ?_, ⟨n, v, wRel_f hw ff (by decide), calmK_fr hk hn ff (by decide)⟩, ⟨fun t l => if t = sh ∧ l = i then x else g t l, fun t l ht hl => ⟨?_, ?_, ?_⟩⟩, ⟨m, W, q, vRel_f hv ff (by decide)⟩, ⟨m', C, E, cRel_f hc' ff (by decide)⟩, ⟨p, h', c, w, u, a', y, tRel_f ht ff (by decide)⟩, ⟨B, S, G, Q, mRel_f hm ff (by decide)⟩, frEq_fr hf ff (by decide)⟩
        · try dsimp only
          unfold D_X8_give D_X3_replaceGiven
          rw [share8 h1 h2, if_pos e, zbs, zif_f (by decide), knows7 hw h3 h4, if_pos e2, zbs, zif_f (by decide), i8, if_pos e3, zbs, zif_f (by decide), zgd_t (czin (by omega) (by omega)), zT5 sh (by omega), zgd_t (zoI6 sh (by omega) i (by omega)), zgd_t (czin (by omega) (by omega)), zgd_t (zoI6 sh (by omega) i (by omega)), n32_xn (by omega), zbs, g1]
        · try dsimp only
          unfold D_X9_give
          have hw1 : D_X9_isSide s1 (n32 (i : Int)) = D_X9_isSide s (n32 (i : Int)) := by
            unfold D_X9_isSide
            rw [show s1.1 66 0 = s.1 66 0 by rw [show s1 = zwI s (6 + sh) i (n32 x) from rfl, zwI_at, if_neg (by omega)]]
          rw [share9 h1 h2, if_pos e, zbs, zif_f (by decide), hw1, knows9 hw h3 h4, if_pos e2, zbs, zif_f (by decide), i9, if_pos e3, zbs, zif_f (by decide), hix, zgd_t (czin (by omega) (by omega)), zgd_t (czin (by omega) (by omega)), n32_xn (by omega), v1]
        · try dsimp only
          rw [show s2 = zwI s1 68 (4 * sh + i) (n32 x) from rfl, zwI_at, if_neg (by omega), show s1 = zwI s (6 + sh) i (n32 x) from rfl, zwI_at]
          by_cases e4 : t = sh ∧ l = i
          · rw [if_pos (by omega), if_pos e4]
          · rw [if_neg (by omega), if_neg e4]; exact (hg t l ht hl).1
        · try dsimp only
          rw [show s2 = zwI s1 68 (4 * sh + i) (n32 x) from rfl, zwI_at]
          by_cases e4 : t = sh ∧ l = i
          · rw [if_pos (by omega), if_pos e4]
          · rw [if_neg (by omega), if_neg e4, show s1 = zwI s (6 + sh) i (n32 x) from rfl, zwI_at, if_neg (by omega)]; exact (hg t l ht hl).2.1
        · try dsimp only
          have := (hg t l ht hl).2.2
          split <;> omega
      · refine cOk_same h (r := -100000) ?_ ?_
        · try dsimp only
          unfold D_X8_give
          rw [share8 h1 h2, if_pos e, zbs, zif_f (by decide), knows7 hw h3 h4, if_pos e2, zbs, zif_f (by decide), i8, if_neg e3, zbs, zif_t rfl]
        · try dsimp only
          unfold D_X9_give
          rw [share9 h1 h2, if_pos e, zbs, zif_f (by decide), knows9 hw h3 h4, if_pos e2, zbs, zif_f (by decide), i9, if_neg e3, zbs, zif_t rfl]
    · refine cOk_same h (r := -100000) ?_ ?_
      · try dsimp only
        unfold D_X8_give
        rw [share8 h1 h2, if_pos e, zbs, zif_f (by decide), knows7 hw h3 h4, if_neg e2, zbs, zif_t rfl]
      · try dsimp only
        unfold D_X9_give
        rw [share9 h1 h2, if_pos e, zbs, zif_f (by decide), knows9 hw h3 h4, if_neg e2, zbs, zif_t rfl]
  · refine cOk_same h (r := -100000) ?_ ?_
    · try dsimp only
      unfold D_X8_give
      rw [share8 h1 h2, if_neg e, zbs, zif_t rfl]
    · try dsimp only
      unfold D_X9_give
      rw [share9 h1 h2, if_neg e, zbs, zif_t rfl]
