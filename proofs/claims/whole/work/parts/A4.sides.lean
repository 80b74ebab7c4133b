/-! the calls sides, worth and give -/
def zfill (c lo hi : Nat) (s : zS) : zS := (fun a j => if a = c ∧ lo ≤ j ∧ j < hi then 0 else s.1 a j, s.2)
theorem zfill_0 {c hi : Nat} {s : zS} : zfill c hi hi s = s := by
  have h : (fun a j => if a = c ∧ hi ≤ j ∧ j < hi then (0 : Int32) else s.1 a j) = s.1 := by
    funext a j
    rw [if_neg (by omega)]
  unfold zfill
  rw [h]
theorem zfill_w {c k hi : Nat} {s : zS} (h : k < hi) : zfill c (k + 1) hi (zwI s c k 0) = zfill c k hi s := by
  unfold zfill
  refine Prod.ext ?_ rfl
  funext a j
  try dsimp only
  rw [zwI_at]
  by_cases e : a = c ∧ j = k
  · rw [if_neg (by omega), if_pos e, if_pos (by omega)]
  · by_cases e2 : a = c ∧ k + 1 ≤ j ∧ j < hi
    · rw [if_pos e2, if_pos (by omega)]
    · rw [if_neg e2, if_neg e, if_neg (by omega)]
theorem zfill_at {c lo hi a j : Nat} {s : zS} : (zfill c lo hi s).1 a j = if a = c ∧ lo ≤ j ∧ j < hi then 0 else s.1 a j := rfl
theorem fr_fill {P : Nat → Prop} (s : zS) (c lo hi : Nat) (h : ∀ j, own c j = 0 ∨ P (own c j)) : fr P s (zfill c lo hi s) := ⟨fun c' k' a b => by
  rw [zfill_at, if_neg (fun q => by
    obtain ⟨rfl, -⟩ := q
    exact (h k').elim a b)], fun _ _ _ _ => rfl⟩
theorem f7_7 : ∀ (m f k : Nat) (s : zS), k + m = 16 → m < f → D_X7_restart_L7 f (n32 (k : Int)) s = some (zfill 3 k 16 s) := by
  intro m
  induction m with
  | zero =>
    intro f k s hk hf
    obtain ⟨f, rfl⟩ : ∃ j, f = j + 1 := ⟨f - 1, by omega⟩
    obtain rfl : k = 16 := by omega
    rw [D_X7_restart_L7_s]
    unfold D_X7_restart_B7
    rw [zif_t (by decide), zfill_0]
  | succ m ih =>
    intro f k s hk hf
    obtain ⟨f, rfl⟩ : ∃ j, f = j + 1 := ⟨f - 1, by omega⟩
    rw [D_X7_restart_L7_s]
    unfold D_X7_restart_B7
    rw [l32_16, zif_f (by rw [n32_le (by omega) (by omega) (by omega) (by omega)]; omega), zgd_t (czin (by omega) (by omega)), n32_xn (by omega), nsuc]
    dsimp only
    rw [ih f (k + 1) _ (by omega) (by omega), zfill_w (by omega)]
theorem f9_22 {s : zS} : ∀ (m f k : Nat) (s : zS), k + m = 16 → m < f → D_X9_sides_L22 f (n32 (k : Int)) s = D_X9_sides_L43 zFU 0 (zfill 67 k 16 s) := by
  intro m
  induction m with
  | zero =>
    intro f k s hk hf
    obtain ⟨f, rfl⟩ : ∃ j, f = j + 1 := ⟨f - 1, by omega⟩
    obtain rfl : k = 16 := by omega
    rw [D_X9_sides_L22_s]
    unfold D_X9_sides_B22
    rw [zif_t (by decide), zfill_0]
  | succ m ih =>
    intro f k s hk hf
    obtain ⟨f, rfl⟩ : ∃ j, f = j + 1 := ⟨f - 1, by omega⟩
    rw [D_X9_sides_L22_s]
    unfold D_X9_sides_B22
    rw [l32_16, zif_f (by rw [n32_le (by omega) (by omega) (by omega) (by omega)]; omega), zgd_t (czin (by omega) (by omega)), n32_xn (by omega), nsuc]
    dsimp only
    rw [ih f (k + 1) _ (by omega) (by omega), zfill_w (by omega)]
theorem f9_43 : ∀ (m f k : Nat) (s : zS), k + m = 8 → m < f → D_X9_sides_L43 f (n32 (k : Int)) s = some (1, zfill 68 k 8 s) := by
  intro m
  induction m with
  | zero =>
    intro f k s hk hf
    obtain ⟨f, rfl⟩ : ∃ j, f = j + 1 := ⟨f - 1, by omega⟩
    obtain rfl : k = 8 := by omega
    rw [D_X9_sides_L43_s]
    unfold D_X9_sides_B43
    rw [zif_t (by decide), zfill_0]
  | succ m ih =>
    intro f k s hk hf
    obtain ⟨f, rfl⟩ : ∃ j, f = j + 1 := ⟨f - 1, by omega⟩
    rw [D_X9_sides_L43_s]
    unfold D_X9_sides_B43
    rw [l32_8, zif_f (by rw [n32_le (by omega) (by omega) (by omega) (by omega)]; omega), zgd_t (czin (by omega) (by omega)), n32_xn (by omega), nsuc]
    dsimp only
    rw [ih f (k + 1) _ (by omega) (by omega), zfill_w (by omega)]
theorem zT5 : ∀ sh : Nat, sh < 2 → zT 5 (n32 (sh : Int)) = 6 + sh := by decide
theorem zoI6 : ∀ sh : Nat, sh < 2 → ∀ i : Nat, i < 4 → zoI (6 + sh) (n32 (i : Int)) = true := by decide
theorem zfill_sw {c d k hi : Nat} {s : zS} (hcd : c ≠ d) (h : k < hi) : zfill d (k + 1) hi (zfill c (k + 1) hi (zwI (zwI s c k 0) d k 0)) = zfill d k hi (zfill c k hi s) := by
  unfold zfill
  refine Prod.ext ?_ rfl
  funext a j
  try dsimp only
  rw [zwI_at, zwI_at]
  (repeat' split) <;> first | rfl | (exfalso; omega)
theorem f3_2 : ∀ (m f k : Nat) (s : zS), k + m = 4 → m < f → D_X3_restart_L2 f (n32 (k : Int)) s = some (zwI (zfill 7 k 4 (zfill 6 k 4 s)) 4 4 0) := by
  intro m
  induction m with
  | zero =>
    intro f k s hk hf
    obtain ⟨f, rfl⟩ : ∃ j, f = j + 1 := ⟨f - 1, by omega⟩
    obtain rfl : k = 4 := by omega
    rw [D_X3_restart_L2_s]
    unfold D_X3_restart_B2 D_X3_forgetCalm
    rw [zif_t (by decide), zfill_0, zfill_0]
    rfl
  | succ m ih =>
    intro f k s hk hf
    obtain ⟨f, rfl⟩ : ∃ j, f = j + 1 := ⟨f - 1, by omega⟩
    have z6 : zT 5 (0 : Int32) = 6 := by decide
    have z7 : zT 5 (1 : Int32) = 7 := by decide
    rw [D_X3_restart_L2_s]
    unfold D_X3_restart_B2
    rw [l32_4, zif_f (by rw [n32_le (by omega) (by omega) (by omega) (by omega)]; omega), zgd_t (by decide), z6, z7, zgd_t (zoI6 0 (by omega) k (by omega)), n32_xn (by omega), nsuc]
    dsimp only
    rw [zgd_t (by decide), zgd_t (zoI6 1 (by omega) k (by omega)), ih f (k + 1) _ (by omega) (by omega), zfill_sw (by omega) (by omega)]
theorem call_sides {s : zS} (h : Rel s) (a : Int32) : cOk s (fun s => D_X8_sides s a) (fun s => D_X9_sides s a) := by
  obtain ⟨k, rfl, h1, h2⟩ := i32_of a
  by_cases e : 1 ≤ k ∧ k ≤ 4
  · obtain ⟨⟨n, v, hw, hk⟩, ⟨g, hg⟩, ⟨m, W, q, hv⟩, ⟨m', C, E, hc'⟩, ⟨p, h', c, w, u, a', y, ht⟩, ⟨B, S, G, Q, hm⟩, hf⟩ := h
    obtain ⟨n', rfl⟩ : ∃ j : Nat, k = (j : Int) := ⟨k.toNat, by omega⟩
    let s1 : zS := zwI (zfill 7 0 4 (zfill 6 0 4 (zfill 3 0 16 (zwI s 2 0 (n32 (n' : Int)))))) 4 4 0
    let s2 : zS := zfill 68 0 8 (zfill 67 0 16 (zwI s1 66 0 (n32 (n' : Int))))
    have e1 : D_X8_sides s (n32 (n' : Int)) = some (1, s1) := by
      unfold D_X8_sides D_X7_restart D_X3_restart
      rw [l32_1, l32_4, in8 h1 h2 (by omega) (by omega) (by omega) (by omega), if_pos e, zbs, zif_f (by decide)]
      dsimp only
      have f1 := f7_7 16 zFU 0 (zwI s 2 0 (n32 (n' : Int))) (by omega) (zFU_lt (by omega))
      have f1' : D_X7_restart_L7 zFU 0 (zwI s 2 0 (n32 (n' : Int))) = _ := f1
      have f2 := f3_2 4 zFU 0 (zfill 3 0 16 (zwI s 2 0 (n32 (n' : Int)))) (by omega) (zFU_lt (by omega))
      have f2' : D_X3_restart_L2 zFU 0 (zfill 3 0 16 (zwI s 2 0 (n32 (n' : Int)))) = _ := f2
      rw [f1', zbs, f2', zbs]
    have e2 : D_X9_sides s1 (n32 (n' : Int)) = some (1, s2) := by
      unfold D_X9_sides
      rw [l64_1, show (4 : Int64) = n64 4 from rfl, in9L h1 h2 (by omega) (by omega) (by omega) (by omega), if_pos e, zbs, zif_f (by decide)]
      dsimp only
      have f1 := f9_22 (s := s) 16 zFU 0 (zwI s1 66 0 (n32 (n' : Int))) (by omega) (zFU_lt (by omega))
      have f1' : D_X9_sides_L22 zFU 0 (zwI s1 66 0 (n32 (n' : Int))) = _ := f1
      have f2 := f9_43 8 zFU 0 (zfill 67 0 16 (zwI s1 66 0 (n32 (n' : Int)))) (by omega) (zFU_lt (by omega))
      have f2' : D_X9_sides_L43 zFU 0 (zfill 67 0 16 (zwI s1 66 0 (n32 (n' : Int)))) = _ := f2
      rw [f1', f2']
    have ff : fr (fun i => i = 1 ∨ i = 2 ∨ i = 7) s s2 := by
      refine fr_t (fr_wI s 2 0 _ (Or.inr (Or.inl rfl))) (fr_t (fr_fill _ 3 0 16 (fun _ => Or.inr (Or.inl rfl))) (fr_t (fr_fill _ 6 0 4 (fun _ => Or.inr (Or.inr (Or.inl rfl)))) (fr_t (fr_fill _ 7 0 4 (fun _ => Or.inr (Or.inr (Or.inl rfl)))) (fr_t (fr_wI _ 4 4 0 (Or.inr (Or.inr (Or.inr rfl)))) (fr_t (fr_wI _ 66 0 _ (Or.inr (Or.inl rfl))) (fr_t (fr_fill _ 67 0 16 (fun _ => Or.inr (Or.inl rfl))) (fr_fill _ 68 0 8 (fun _ => Or.inr (Or.inr (Or.inl rfl))))))))))
    refine ⟨1, s1, s2, e1, e2, ⟨n', fun _ => 0, ⟨⟨rfl, by omega, by omega, fun S hS => ?_, fun _ _ => (show -1000 ≤ (0 : Int) ∧ (0 : Int) ≤ 1000 by decide)⟩, ⟨rfl, by omega, by omega, fun S hS => ?_, fun _ _ => (show -1000 ≤ (0 : Int) ∧ (0 : Int) ≤ 1000 by decide)⟩, rfl⟩, Or.inl rfl⟩, ⟨fun _ _ => 0, fun sh i hs hi => ⟨?_, ?_, (show -10000 ≤ (0 : Int) by decide), (show (0 : Int) ≤ 10000 by decide)⟩⟩, ⟨m, W, q, vRel_f hv ff (by decide)⟩, ⟨m', C, E, cRel_f hc' ff (by decide)⟩, ⟨p, h', c, w, u, a', y, tRel_f ht ff (by decide)⟩, ⟨B, S, G, Q, mRel_f hm ff (by decide)⟩, frEq_fr hf ff (by decide)⟩
    · show s2.1 3 S = _
      have : s2.1 3 S = (zfill 3 0 16 (zwI s 2 0 (n32 (n' : Int)))).1 3 S := rfl
      rw [this, zfill_at, if_pos (by omega)]; rfl
    · show s2.1 67 S = _
      have : s2.1 67 S = (zfill 67 0 16 (zwI s1 66 0 (n32 (n' : Int)))).1 67 S := rfl
      rw [this, zfill_at, if_pos (by omega)]; rfl
    · have : sh = 0 ∨ sh = 1 := by omega
      rcases this with rfl | rfl
      · have : s2.1 6 i = (zfill 6 0 4 (zfill 3 0 16 (zwI s 2 0 (n32 (n' : Int))))).1 6 i := rfl
        rw [this, zfill_at, if_pos (by omega)]; rfl
      · have : s2.1 7 i = (zfill 7 0 4 (zfill 6 0 4 (zfill 3 0 16 (zwI s 2 0 (n32 (n' : Int)))))).1 7 i := rfl
        rw [this, zfill_at, if_pos (by omega)]; rfl
    · show s2.1 68 (4 * sh + i) = _
      rw [show s2 = zfill 68 0 8 (zfill 67 0 16 (zwI s1 66 0 (n32 (n' : Int)))) from rfl, zfill_at, if_pos (by omega)]; rfl
  · refine cOk_same h (r := -2) ?_ ?_
    · try dsimp only
      unfold D_X8_sides
      rw [l32_1, l32_4, in8 h1 h2 (by omega) (by omega) (by omega) (by omega), if_neg e, zbs, zif_t rfl]
    · try dsimp only
      unfold D_X9_sides
      rw [l64_1, show (4 : Int64) = n64 4 from rfl, in9L h1 h2 (by omega) (by omega) (by omega) (by omega), if_neg e, zbs, zif_t rfl]
