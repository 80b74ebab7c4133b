/-! the calls place, user and pay -/
section DP
variable {s : zS} {p u : Nat} {h' at' w : Nat → Nat} {c y : Nat → Int}
theorem way_lt (ht : tRel s p h' c w u at' y) {k : Nat} (hk : k < p) : w k < 2 ^ (k + 1) := (ht.2.2.2.1 k hk).2
theorem call_place (h : Rel s) (ht : tRel s p h' c w u at' y) (a b : Int32) : cOk s (fun s => D_X8_place s a b) (fun s => D_X9_place s a b) := by
  obtain ⟨k, rfl, h1, h2⟩ := i32_of a
  obtain ⟨x, rfl, h3, h4⟩ := i32_of b
  have hp := ht.1.2.2
  have i8 : D_X8_within (n32 x) 0 1000 = if 0 ≤ x ∧ x ≤ 1000 then some 1 else some 0 := in8 (lo := 0) (hi := 1000) h3 h4 (by omega) (by omega) (by omega) (by omega)
  have i9 : D_X9_in (n32 x).toInt64 0 1000 = if 0 ≤ x ∧ x ≤ 1000 then some 1 else some 0 := in9L (lo := 0) (hi := 1000) h3 h4 (by omega) (by omega) (by omega) (by omega)
  have k8 : D_X6_knowsPlace s (n32 k) = if 0 ≤ k ∧ k < (p : Int) then some 1 else some 0 := by
    unfold D_X6_knowsPlace
    rw [ht.1.1]
    exact idx8 (by omega) h1 h2
  by_cases e : 0 ≤ k ∧ k < (p : Int)
  · by_cases e2 : 0 ≤ x ∧ x ≤ 1000
    · by_cases e3 : p = 10
      · refine cOk_same h (r := -4) ?_ ?_
        · try dsimp only
          unfold D_X8_place
          rw [k8, if_pos e, zbs, zi1, i8, if_pos e2, zbs, zi1, ht.1.1, zif_t (by rw [e3]; decide)]
        · try dsimp only
          unfold D_X9_place
          rw [ht.1.2.1, idx9 (by omega) h1 h2, if_pos e, zbs, zi1, i9, if_pos e2, zbs, zi1, zif_t (by rw [e3]; rfl)]
      · obtain ⟨on, rfl⟩ : ∃ t : Nat, k = (t : Int) := ⟨k.toNat, by omega⟩
        have hon : on < p := by omega
        have hw50 := ht.2.2.2.1 on hon
        let s1 : zS := zwI (zwI (zwI (zwI s 48 p (n32 (on : Int))) 49 p (n32 x)) 50 p (n32 ((w on ||| 2 ^ p : Nat) : Int))) 47 0 (n32 ((p + 1 : Nat) : Int))
        let s2 : zS := zwI (zwI (zwI s1 71 p (n32 (on : Int))) 72 p (n32 x)) 66 11 (n32 ((p + 1 : Nat) : Int))
        have at2 : ∀ cc kk, s2.1 cc kk = if cc = 66 ∧ kk = 11 then n32 ((p + 1 : Nat) : Int) else if cc = 72 ∧ kk = p then n32 x else if cc = 71 ∧ kk = p then n32 (on : Int) else if cc = 47 ∧ kk = 0 then n32 ((p + 1 : Nat) : Int) else if cc = 50 ∧ kk = p then n32 ((w on ||| 2 ^ p : Nat) : Int) else if cc = 49 ∧ kk = p then n32 x else if cc = 48 ∧ kk = p then n32 (on : Int) else s.1 cc kk := fun cc kk => by
          show (zwI (zwI (zwI (zwI (zwI (zwI (zwI s 48 p (n32 (on : Int))) 49 p (n32 x)) 50 p (n32 ((w on ||| 2 ^ p : Nat) : Int))) 47 0 (n32 ((p + 1 : Nat) : Int))) 71 p (n32 (on : Int))) 72 p (n32 x)) 66 11 (n32 ((p + 1 : Nat) : Int))).1 cc kk = _
          rw [zwI_at, zwI_at, zwI_at, zwI_at, zwI_at, zwI_at, zwI_at]
        refine Rel_t (r := n32 (p : Int)) (s1 := s1) (s' := s2) (p' := p + 1) (u' := u) (h' := fun i => if i = p then on else h' i) (at' := at') (w' := fun i => if i = p then w on ||| 2 ^ p else w i) (c' := fun i => if i = p then x else c i) (y' := y) h ?_ ?_ ?_ ⟨⟨?_, ?_, by omega, by omega⟩, fun k l1 l2 => ?_, ?_, fun k hk => ⟨?_, ?_⟩, ⟨?_, ?_, ht.2.2.2.2.1.2.2⟩, fun i hi => ?_, fun i hi => ?_, ht.2.2.2.2.2.2.2⟩
        · try dsimp only
          have v47 : s.1 47 0 = n32 (p : Int) := ht.1.1
          unfold D_X8_place D_X6_addPlace
          rw [k8, if_pos e, zbs, zi1, i8, if_pos e2, zbs, zi1, v47, zif_f (by rw [l32_10, n32_le (by omega) (by omega) (by omega) (by omega)]; omega), zgd_t (czin (by omega) (by omega)), n32_xn (by omega)]
          dsimp only
          rw [show (zwI s 48 p (n32 (on : Int))).1 47 0 = n32 (p : Int) by rw [zwI_at, if_neg (by omega)]; exact v47, zgd_t (czin (by omega) (by omega)), n32_xn (by omega), zgd_t (czin (by omega) (by omega)), n32_xn (by omega), show (zwI (zwI s 48 p (n32 (on : Int))) 49 p (n32 x)).1 47 0 = n32 (p : Int) by rw [zwI_at, if_neg (by omega), zwI_at, if_neg (by omega)]; exact v47, zgd_t (czin (by omega) (by omega)), n32_xn (by omega), show (zwI (zwI s 48 p (n32 (on : Int))) 49 p (n32 x)).1 50 on = n32 (w on : Int) by rw [zwI_at, if_neg (by omega), zwI_at, if_neg (by omega)]; exact hw50.1, shlL p (by omega), n32_or, show (zwI (zwI (zwI s 48 p (n32 (on : Int))) 49 p (n32 x)) 50 p (n32 ((w on ||| 2 ^ p : Nat) : Int))).1 47 0 = n32 (p : Int) by rw [zwI_at, if_neg (by omega), zwI_at, if_neg (by omega), zwI_at, if_neg (by omega)]; exact v47, nsuc, zwI_at, if_pos ⟨rfl, rfl⟩, n32_pred, zbs]
        · try dsimp only
          have v66 : s1.1 66 11 = n32 (p : Int) := by
            show (zwI (zwI (zwI (zwI s 48 p (n32 (on : Int))) 49 p (n32 x)) 50 p (n32 ((w on ||| 2 ^ p : Nat) : Int))) 47 0 (n32 ((p + 1 : Nat) : Int))).1 66 11 = _
            rw [zwI_at, if_neg (by omega), zwI_at, if_neg (by omega), zwI_at, if_neg (by omega), zwI_at, if_neg (by omega)]; exact ht.1.2.1
          unfold D_X9_place
          rw [v66, idx9 (by omega) h1 h2, if_pos e, zbs, zi1, i9, if_pos e2, zbs, zi1, zif_f (fun q => e3 (by rw [l32_10] at q; have := (n32_eq (by omega) (by omega) (by omega) (by omega)).mp q; omega)), zgd_t (czin (by omega) (by omega)), n32_xn (by omega)]
          dsimp only
          rw [show (zwI s1 71 p (n32 (on : Int))).1 66 11 = n32 (p : Int) by rw [zwI_at, if_neg (by omega)]; exact v66, zgd_t (czin (by omega) (by omega)), n32_xn (by omega), show (zwI (zwI s1 71 p (n32 (on : Int))) 72 p (n32 x)).1 66 11 = n32 (p : Int) by rw [zwI_at, if_neg (by omega), zwI_at, if_neg (by omega)]; exact v66, nsuc, zwI_at, if_pos ⟨rfl, rfl⟩, n32_pred]
        · exact fr_t (fr_wI s 48 p _ (Or.inr rfl)) (fr_t (fr_wI _ 49 p _ (Or.inr rfl)) (fr_t (fr_wI _ 50 p _ (Or.inr rfl)) (fr_t (fr_wI _ 47 0 _ (Or.inr rfl)) (fr_t (fr_wI _ 71 p _ (Or.inr rfl)) (fr_t (fr_wI _ 72 p _ (Or.inr rfl)) (fr_wI _ 66 11 _ (Or.inr rfl)))))))
        · rw [at2]; rfl
        · rw [at2]; rfl
        · try dsimp only
          rw [at2, at2, at2, at2]
          by_cases e4 : k = p
          · subst e4
            simp only [if_true, and_self, if_false, Nat.reduceEqDiff, and_true, and_false, false_and, true_and]
            refine ⟨by omega, e2.1, e2.2, ?_⟩
            rw [if_neg (by omega)]
          · obtain ⟨q1, q2, q3, q4, q5, q6, q7, q8⟩ := ht.2.1 k l1 (by omega)
            simp only [e4, if_false, and_false, Nat.reduceEqDiff, false_and]
            refine ⟨q1, q2, q3, q4, q5, q6, q7, ?_⟩
            rw [if_neg (by omega)]; exact q8
        · try dsimp only
          rw [if_neg (by omega)]; exact ht.2.2.1
        · rw [at2]
          by_cases e4 : k = p
          · subst e4
            simp
          · simp only [e4, if_false, and_false, Nat.reduceEqDiff, false_and]
            exact (ht.2.2.2.1 k (by omega)).1
        · try dsimp only
          by_cases e4 : k = p
          · rw [if_pos e4, e4]
            refine Nat.or_lt_two_pow ?_ (Nat.pow_lt_pow_right (by omega) (by omega))
            exact Nat.lt_of_lt_of_le hw50.2 (Nat.pow_le_pow_right (by omega) (by omega))
          · rw [if_neg e4]; exact (ht.2.2.2.1 k (by omega)).2
        · rw [at2]; exact ht.2.2.2.2.1.1
        · rw [at2]; exact ht.2.2.2.2.1.2.1
        · rw [at2, at2, at2]
          obtain ⟨q1, q2, q3, q4⟩ := ht.2.2.2.2.2.1 i hi
          exact ⟨q1, q2, by omega, q4⟩
        · rw [at2]
          exact ht.2.2.2.2.2.2.1 i hi
    · refine cOk_same h (r := -2) ?_ ?_
      · try dsimp only
        unfold D_X8_place
        rw [k8, if_pos e, zbs, zi1, i8, if_neg e2, zbs, zi0]
      · try dsimp only
        unfold D_X9_place
        rw [ht.1.2.1, idx9 (by omega) h1 h2, if_pos e, zbs, zi1, i9, if_neg e2, zbs, zi0]
  · refine cOk_same h (r := -2) ?_ ?_
    · try dsimp only
      unfold D_X8_place
      rw [k8, if_neg e, zbs, zi0]
    · try dsimp only
      unfold D_X9_place
      rw [ht.1.2.1, idx9 (by omega) h1 h2, if_neg e, zbs, zi0]
theorem call_user (h : Rel s) (ht : tRel s p h' c w u at' y) (a : Int32) : cOk s (fun s => D_X8_user s a) (fun s => D_X9_user s a) := by
  obtain ⟨k, rfl, h1, h2⟩ := i32_of a
  have hp := ht.1.2.2
  have hu := ht.2.2.2.2.1.2.2
  have k8 : D_X6_knowsPlace s (n32 k) = if 0 ≤ k ∧ k < (p : Int) then some 1 else some 0 := by
    unfold D_X6_knowsPlace
    rw [ht.1.1]
    exact idx8 (by omega) h1 h2
  by_cases e : 0 ≤ k ∧ k < (p : Int)
  · by_cases e3 : u = 8
    · refine cOk_same h (r := -4) ?_ ?_
      · try dsimp only
        unfold D_X8_user
        rw [k8, if_pos e, zbs, zi1, ht.2.2.2.2.1.1, zif_t (by rw [e3]; decide)]
      · try dsimp only
        unfold D_X9_user
        rw [ht.1.2.1, idx9 (by omega) h1 h2, if_pos e, zbs, zi1, ht.2.2.2.2.1.2.1, zif_t (by rw [e3]; rfl)]
    · obtain ⟨pl, rfl⟩ : ∃ t : Nat, k = (t : Int) := ⟨k.toNat, by omega⟩
      let s1 : zS := zwI (zwI s 51 u (n32 (pl : Int))) 47 4 (n32 ((u + 1 : Nat) : Int))
      let s2 : zS := zwI (zwI (zwI s1 73 u (n32 (pl : Int))) 74 u 0) 66 14 (n32 ((u + 1 : Nat) : Int))
      have at2 : ∀ cc kk, s2.1 cc kk = if cc = 66 ∧ kk = 14 then n32 ((u + 1 : Nat) : Int) else if cc = 74 ∧ kk = u then 0 else if cc = 73 ∧ kk = u then n32 (pl : Int) else if cc = 47 ∧ kk = 4 then n32 ((u + 1 : Nat) : Int) else if cc = 51 ∧ kk = u then n32 (pl : Int) else s.1 cc kk := fun cc kk => by
        show (zwI (zwI (zwI (zwI (zwI s 51 u (n32 (pl : Int))) 47 4 (n32 ((u + 1 : Nat) : Int))) 73 u (n32 (pl : Int))) 74 u 0) 66 14 (n32 ((u + 1 : Nat) : Int))).1 cc kk = _
        rw [zwI_at, zwI_at, zwI_at, zwI_at, zwI_at]
      refine Rel_t (r := n32 (u : Int)) (s1 := s1) (s' := s2) (p' := p) (u' := u + 1) (h' := h') (at' := fun i => if i = u then pl else at' i) (w' := w) (c' := c) (y' := y) h ?_ ?_ ?_ ⟨⟨?_, ?_, hp⟩, fun k l1 l2 => ?_, ht.2.2.1, fun k hk => ⟨?_, (ht.2.2.2.1 k hk).2⟩, ⟨?_, ?_, by omega⟩, fun i hi => ?_, fun i hi => ?_, fun i hi => ht.2.2.2.2.2.2.2 i (by omega)⟩
      · try dsimp only
        have v47 : s.1 47 4 = n32 (u : Int) := ht.2.2.2.2.1.1
        unfold D_X8_user D_X6_addUser
        rw [k8, if_pos e, zbs, zi1, v47, zif_f (by rw [l32_8, n32_le (by omega) (by omega) (by omega) (by omega)]; omega), zgd_t (czin (by omega) (by omega)), n32_xn (by omega)]
        dsimp only
        rw [show (zwI s 51 u (n32 (pl : Int))).1 47 4 = n32 (u : Int) by rw [zwI_at, if_neg (by omega)]; exact v47, nsuc, zwI_at, if_pos ⟨rfl, rfl⟩, n32_pred, zbs]
      · try dsimp only
        have v11 : s1.1 66 11 = n32 (p : Int) := by
          show (zwI (zwI s 51 u (n32 (pl : Int))) 47 4 (n32 ((u + 1 : Nat) : Int))).1 66 11 = _
          rw [zwI_at, if_neg (by omega), zwI_at, if_neg (by omega)]; exact ht.1.2.1
        have v14 : s1.1 66 14 = n32 (u : Int) := by
          show (zwI (zwI s 51 u (n32 (pl : Int))) 47 4 (n32 ((u + 1 : Nat) : Int))).1 66 14 = _
          rw [zwI_at, if_neg (by omega), zwI_at, if_neg (by omega)]; exact ht.2.2.2.2.1.2.1
        unfold D_X9_user
        rw [v11, idx9 (by omega) h1 h2, if_pos e, zbs, zi1, v14, zif_f (fun q => e3 (by rw [l32_8] at q; have := (n32_eq (by omega) (by omega) (by omega) (by omega)).mp q; omega)), zgd_t (czin (by omega) (by omega)), n32_xn (by omega)]
        dsimp only
        rw [show (zwI s1 73 u (n32 (pl : Int))).1 66 14 = n32 (u : Int) by rw [zwI_at, if_neg (by omega)]; exact v14, zgd_t (czin (by omega) (by omega)), n32_xn (by omega), show (zwI (zwI s1 73 u (n32 (pl : Int))) 74 u 0).1 66 14 = n32 (u : Int) by rw [zwI_at, if_neg (by omega), zwI_at, if_neg (by omega)]; exact v14, nsuc, zwI_at, if_pos ⟨rfl, rfl⟩, n32_pred]
      · exact fr_t (fr_wI s 51 u _ (Or.inr rfl)) (fr_t (fr_wI _ 47 4 _ (Or.inr rfl)) (fr_t (fr_wI _ 73 u _ (Or.inr rfl)) (fr_t (fr_wI _ 74 u _ (Or.inr rfl)) (fr_wI _ 66 14 _ (Or.inr rfl)))))
      · rw [at2]; exact ht.1.1
      · rw [at2]; exact ht.1.2.1
      · rw [at2, at2, at2, at2]; exact ht.2.1 k l1 l2
      · rw [at2]; exact (ht.2.2.2.1 k hk).1
      · rw [at2]; rfl
      · rw [at2]; rfl
      · try dsimp only
        rw [at2, at2, at2]
        by_cases e4 : i = u
        · subst e4
          simp only [if_true, and_self, if_false, Nat.reduceEqDiff, and_true, and_false, false_and, true_and]
          refine ⟨by omega, ?_⟩
          rw [ht.2.2.2.2.2.2.2 i (Nat.le_refl _)]; rfl
        · simp only [e4, if_false, and_false, Nat.reduceEqDiff, false_and]
          exact ht.2.2.2.2.2.1 i (by omega)
      · rw [at2]; exact ht.2.2.2.2.2.2.1 i hi
  · refine cOk_same h (r := -2) ?_ ?_
    · try dsimp only
      unfold D_X8_user
      rw [k8, if_neg e, zbs, zi0]
    · try dsimp only
      unfold D_X9_user
      rw [ht.1.2.1, idx9 (by omega) h1 h2, if_neg e, zbs, zi0]
theorem user8 (ht : tRel s p h' c w u at' y) {k : Int} (h1 : -2147483648 ≤ k) (h2 : k < 2147483648) : D_X6_knowsUser s (n32 k) = if 0 ≤ k ∧ k < (u : Int) then some 1 else some 0 := by
  unfold D_X6_knowsUser
  rw [ht.2.2.2.2.1.1]
  exact idx8 (by have := ht.2.2.2.2.1.2.2; omega) h1 h2
theorem user9 (ht : tRel s p h' c w u at' y) {k : Int} (h1 : -2147483648 ≤ k) (h2 : k < 2147483648) : D_X9_isUser s (n32 k) = if 0 ≤ k ∧ k < (u : Int) then some 1 else some 0 := by
  unfold D_X9_isUser
  rw [ht.2.2.2.2.1.2.1, idx9 (by have := ht.2.2.2.2.1.2.2; omega) h1 h2, zgd_if]
  split <;> rfl
theorem call_pay (h : Rel s) (ht : tRel s p h' c w u at' y) (a b : Int32) : cOk s (fun s => D_X8_pay s a b) (fun s => D_X9_pay s a b) := by
  obtain ⟨k, rfl, h1, h2⟩ := i32_of a
  obtain ⟨x, rfl, h3, h4⟩ := i32_of b
  have hu := ht.2.2.2.2.1.2.2
  have i8 : D_X8_within (n32 x) 0 10000 = if 0 ≤ x ∧ x ≤ 10000 then some 1 else some 0 := in8 (lo := 0) (hi := 10000) h3 h4 (by omega) (by omega) (by omega) (by omega)
  have i9 : D_X9_in (n32 x).toInt64 0 10000 = if 0 ≤ x ∧ x ≤ 10000 then some 1 else some 0 := in9L (lo := 0) (hi := 10000) h3 h4 (by omega) (by omega) (by omega) (by omega)
  by_cases e : 0 ≤ k ∧ k < (u : Int)
  · by_cases e2 : 0 ≤ x ∧ x ≤ 10000
    · obtain ⟨i, rfl⟩ : ∃ t : Nat, k = (t : Int) := ⟨k.toNat, by omega⟩
      have hi : i < u := by omega
      have at2 : ∀ cc kk, (zwI (zwI s 52 i (n32 x)) 74 i (n32 x)).1 cc kk = if cc = 74 ∧ kk = i then n32 x else if cc = 52 ∧ kk = i then n32 x else s.1 cc kk := fun cc kk => by rw [zwI_at, zwI_at]
      refine Rel_t (r := n32 (y i)) (s1 := zwI s 52 i (n32 x)) (s' := zwI (zwI s 52 i (n32 x)) 74 i (n32 x)) (p' := p) (u' := u) (h' := h') (at' := at') (w' := w) (c' := c) (y' := fun j => if j = i then x else y j) h ?_ ?_ ?_ ⟨⟨?_, ?_, ht.1.2.2⟩, fun k l1 l2 => ?_, ht.2.2.1, fun k hk => ⟨?_, (ht.2.2.2.1 k hk).2⟩, ⟨?_, ?_, hu⟩, fun j hj => ?_, fun j hj => ?_, fun j hj => ?_⟩
      · try dsimp only
        unfold D_X8_pay D_X6_replacePay
        rw [user8 ht h1 h2, if_pos e, zbs, zi1, i8, if_pos e2, zbs, zi1, zgd_t (czin (by omega) (by omega)), zgd_t (czin (by omega) (by omega)), n32_xn (by omega), (ht.2.2.2.2.2.2.1 i (by omega)).1, zbs]
      · try dsimp only
        have hk : D_X9_isUser (zwI s 52 i (n32 x)) (n32 (i : Int)) = D_X9_isUser s (n32 (i : Int)) := rfl
        unfold D_X9_pay
        rw [hk, user9 ht h1 h2, if_pos e, zbs, zi1, i9, if_pos e2, zbs, zi1, zgd_t (czin (by omega) (by omega)), zgd_t (czin (by omega) (by omega)), n32_xn (by omega), zwI_at, if_neg (by omega), (ht.2.2.2.2.2.1 i hi).2.2.2]
      · exact fr_t (fr_wI s 52 i _ (Or.inr rfl)) (fr_wI _ 74 i _ (Or.inr rfl))
      · rw [at2]; exact ht.1.1
      · rw [at2]; exact ht.1.2.1
      · rw [at2, at2, at2, at2]; exact ht.2.1 k l1 l2
      · rw [at2]; exact (ht.2.2.2.1 k hk).1
      · rw [at2]; exact ht.2.2.2.2.1.1
      · rw [at2]; exact ht.2.2.2.2.1.2.1
      · try dsimp only
        obtain ⟨q1, q2, q3, q4⟩ := ht.2.2.2.2.2.1 j hj
        rw [at2, at2, at2]
        refine ⟨q1, q2, q3, ?_⟩
        by_cases e4 : j = i
        · rw [if_pos ⟨rfl, e4⟩, if_pos e4]
        · rw [if_neg (fun q => e4 q.2), if_neg (fun q => e4 q.2), if_neg e4]; exact q4
      · try dsimp only
        rw [at2]
        by_cases e4 : j = i
        · rw [if_neg (by omega), if_pos ⟨rfl, e4⟩, if_pos e4]; exact ⟨rfl, e2⟩
        · rw [if_neg (fun q => e4 q.2), if_neg (fun q => e4 q.2), if_neg e4]; exact ht.2.2.2.2.2.2.1 j hj
      · try dsimp only
        rw [if_neg (by omega)]; exact ht.2.2.2.2.2.2.2 j hj
    · refine cOk_same h (r := -2) ?_ ?_
      · try dsimp only
        unfold D_X8_pay
        rw [user8 ht h1 h2, if_pos e, zbs, zi1, i8, if_neg e2, zbs, zi0]
      · try dsimp only
        unfold D_X9_pay
        rw [user9 ht h1 h2, if_pos e, zbs, zi1, i9, if_neg e2, zbs, zi0]
  · refine cOk_same h (r := -2) ?_ ?_
    · try dsimp only
      unfold D_X8_pay
      rw [user8 ht h1 h2, if_neg e, zbs, zi0]
    · try dsimp only
      unfold D_X9_pay
      rw [user9 ht h1 h2, if_neg e, zbs, zi0]
end DP
