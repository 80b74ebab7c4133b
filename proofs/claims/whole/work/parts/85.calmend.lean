/-! the reference's calm share: the end -/
section CN
variable {n m : Nat} {g : Nat → Nat} {v : Nat → Int} {xc : Nat → Rat} {T : Int}
def cmMx (n : Nat) (g : Nat → Nat) (i c : Nat) : Int := if i < n ∧ c < n then (hb (g i) c : Int) else 0
def cmMq (n : Nat) (g : Nat → Nat) (t : Nat → Rat) (i c : Nat) : Rat := if c < 5 then (cmMx n g i c : Rat) else if i < n then t i else 0
theorem cm123 {i : Nat} {rec113 : Int32 → zS → Option (Int32 × zS)} {a1 : Int32} {t : Nat → Rat} {ta tb : Int} (hn : n ≤ 4) (hi : i < n) (hg : g i < 16) (hta : -4611686018427387904 < ta ∧ ta < 4611686018427387904) (htb : 0 < tb ∧ tb < 4611686018427387904) (ht : t i = (ta : Rat) / (tb : Rat)) : ∀ d fu k s, k + d = n → d < fu → s.1 66 0 = n32 (n : Int) → s.1 79 i = n32 (g i : Int) → s.2 80 i = n64 ta → s.2 81 i = n64 tb → mE s 5 (fun r c => if r < i ∨ (r = i ∧ c < k) then cmMq n g t r c else 0) →
    ∃ s', mFrm s s' ∧ mE s' 5 (fun r c => if r < i + 1 then cmMq n g t r c else 0) ∧ D_X9_calm_L123 rec113 a1 (n32 (i : Int)) fu (n32 (k : Int)) s = rec113 (n32 ((i + 1 : Nat) : Int)) s' := by
  intro d
  induction d with
  | zero =>
    intro fu k s hk hf h66 h79 h80 h81 h
    obtain ⟨fu, rfl⟩ : ∃ t, fu = t + 1 := ⟨fu - 1, by omega⟩
    obtain rfl : k = n := by omega
    obtain ⟨s1, e1, f1, g1⟩ := mE_put h (by omega) (show i < 5 by omega) (show 5 < 6 by omega) (a := ta) (b := tb) hta.1 hta.2 (by omega) htb.2 (by omega) ht.symm
    refine ⟨s1, f1, mE_ext g1 (fun r hr c hc => ?_), ?_⟩
    · unfold qUpd
      try dsimp only
      by_cases e : r = i ∧ c = 5
      · rw [if_pos e, if_pos (by omega)]
        unfold cmMq
        rw [if_neg (by omega), if_pos (by omega), e.1]
      · rw [if_neg e]
        by_cases e2 : r < i ∨ (r = i ∧ c < k)
        · rw [if_pos e2, if_pos (by omega)]
        · rw [if_neg e2]
          by_cases e3 : r < i + 1
          · rw [if_pos e3]
            unfold cmMq cmMx
            rw [if_pos (by omega), if_neg (by omega)]; rfl
          · rw [if_neg e3]
    · rw [D_X9_calm_L123_s]
      unfold D_X9_calm_B123
      rw [h66, zif_t (Int32.le_refl _), zgd_t (czin (by omega) (by omega)), zgd_t (czin (by omega) (by omega)), n32_xn (by omega), h80, h81]
      have e1' : D_X9_put s (n32 (i : Int)) (5 : Int32) (n64 ta) (n64 tb) = some s1 := e1
      rw [e1', zbs, nsuc]
  | succ d ih =>
    intro fu k s hk hf h66 h79 h80 h81 h
    obtain ⟨fu, rfl⟩ : ∃ t, fu = t + 1 := ⟨fu - 1, by omega⟩
    rw [D_X9_calm_L123_s]
    unfold D_X9_calm_B123
    rw [h66, zif_f (by rw [c32_le (by omega) (by omega)]; omega), zgd_t (czin (by omega) (by omega)), n32_xn (by omega), h79, x9_has (g i) hg k (by omega), zbs]
    have hstep : ∀ a : Int, a = (hb (g i) k : Int) → ∃ s', mFrm s s' ∧ mE s' 5 (fun r c => if r < i + 1 then cmMq n g t r c else 0) ∧ D_X9_calm_J152 rec113 (D_X9_calm_L123 rec113 a1 (n32 (i : Int)) fu) s a1 (n32 (i : Int)) (n32 (k : Int)) (n32 (i : Int)) (n32 (k : Int)) (n64 a) = rec113 (n32 ((i + 1 : Nat) : Int)) s' := fun a ha => by
      have h01 := hb_01 (g i) k
      obtain ⟨s1, e1, f1, g1⟩ := mE_put1 h (by omega) (show i < 5 by omega) (show k < 6 by omega) (a := a) (by omega) (by omega)
      unfold D_X9_calm_J152
      rw [e1, zbs, nsuc]
      obtain ⟨s2, f2, g2, e2⟩ := ih fu (k + 1) s1 (by omega) (by omega) (by rw [f1.1]; exact h66) (by rw [f1.1]; exact h79) (by rw [f1.2 80 i (by omega) (by omega)]; exact h80) (by rw [f1.2 81 i (by omega) (by omega)]; exact h81) (mE_ext g1 (fun r hr c hc => by
        unfold qUpd
        try dsimp only
        by_cases e : r = i ∧ c = k
        · rw [if_pos e, if_pos (by omega)]
          unfold cmMq
          rw [if_pos (by omega)]
          unfold cmMx
          rw [if_pos (by omega), e.1, e.2, ha]
        · rw [if_neg e]
          by_cases e2 : r < i ∨ (r = i ∧ c < k)
          · rw [if_pos e2, if_pos (by omega)]
          · rw [if_neg e2, if_neg (by omega)]))
      exact ⟨s2, mFrm_t f1 f2, g2, e2⟩
    rcases hb_01 (g i) k with e | e
    · rw [e, zif_t (by decide)]; exact hstep 0 (by rw [e]; rfl)
    · rw [e, zif_f (by decide)]; exact hstep 1 (by rw [e]; rfl)
theorem cm113 {side : Nat} (hn : n ≤ 4) (hT : 1 ≤ T ∧ T ≤ 3375) : ∀ d fu i s, i + d = n → d < fu → csP s n n g v xc T → mE s 5 (fun r c => if r < i then cmMq n g (fun e => xS xc (g e)) r c else 0) →
    ∃ s', mFrm s s' ∧ csP s' n n g v xc T ∧ mE s' 5 (cmMq n g (fun e => xS xc (g e))) ∧ D_X9_calm_L113 (n32 (side : Int)) fu (n32 (i : Int)) s = D_X9_calm_B113 (n32 (side : Int)) (fun _ _ => none) (n32 (n : Int)) s' := by
  intro d
  induction d with
  | zero =>
    intro fu i s hi hf hcs h
    obtain ⟨fu, rfl⟩ : ∃ t, fu = t + 1 := ⟨fu - 1, by omega⟩
    obtain rfl : i = n := by omega
    refine ⟨s, mFrm_r s, hcs, mE_ext h (fun r hr c hc => ?_), ?_⟩
    · try dsimp only
      unfold cmMq cmMx
      (repeat' split) <;> first | rfl | (exfalso; omega)
    · rw [D_X9_calm_L113_s]
      unfold D_X9_calm_B113
      rw [hcs.2.1.1, zif_t (Int32.le_refl _), zif_t (Int32.le_refl _)]
  | succ d ih =>
    intro fu i s hi hf hcs h
    obtain ⟨fu, rfl⟩ : ∃ t, fu = t + 1 := ⟨fu - 1, by omega⟩
    obtain ⟨hu, hx, htf, hg, hgi, hN, hm1⟩ := id hcs
    obtain ⟨ta, tb, t1, t2, t3, t4, t5, -⟩ := htf i (by omega)
    have hp := pow_le4 hn
    rw [D_X9_calm_L113_s]
    have e0 : D_X9_calm_B113 (n32 (side : Int)) (D_X9_calm_L113 (n32 (side : Int)) fu) (n32 (i : Int)) s = D_X9_calm_L123 (D_X9_calm_L113 (n32 (side : Int)) fu) (n32 (side : Int)) (n32 (i : Int)) zFU (0 : Int32) s := by
      unfold D_X9_calm_B113
      rw [hx.1, zif_f (by rw [c32_le (by omega) (by omega)]; omega)]
    rw [e0]
    obtain ⟨s1, f1, g1, e1⟩ := cm123 (g := g) (t := fun e => xS xc (g e)) (rec113 := D_X9_calm_L113 (n32 (side : Int)) fu) (a1 := n32 (side : Int)) hn (show i < n by omega) (by have := hg i (by omega); omega) (show -4611686018427387904 < ta ∧ ta < 4611686018427387904 by omega) (show 0 < tb ∧ tb < 4611686018427387904 by omega) t5 n zFU 0 s (by omega) (zFU_lt (by omega)) hx.1 (hx.2.2 i (by omega)) t1 t2 (mE_ext h (fun r hr c hc => by
      try dsimp only
      by_cases e : r < i
      · rw [if_pos e, if_pos (Or.inl e)]
      · rw [if_neg e, if_neg (by omega)]))
    have e1' : D_X9_calm_L123 (D_X9_calm_L113 (n32 (side : Int)) fu) (n32 (side : Int)) (n32 (i : Int)) zFU (0 : Int32) s = D_X9_calm_L113 (n32 (side : Int)) fu (n32 ((i + 1 : Nat) : Int)) s1 := e1
    rw [e1']
    have hcs1 : csP s1 n n g v xc T := ⟨uOk_f hu (uFrm_m f1), ⟨by rw [f1.1]; exact hx.1, by rw [f1.1]; exact hx.2.1, fun e he => by rw [f1.1]; exact hx.2.2 e he⟩, fun e he => by
      obtain ⟨ta, tb, t1, t2, t3⟩ := htf e he
      exact ⟨ta, tb, by rw [f1.2 80 e (by omega) (by omega)]; exact t1, by rw [f1.2 81 e (by omega) (by omega)]; exact t2, t3⟩, hg, hgi, hN, hm1⟩
    obtain ⟨s2, f2, c2, g2, e2⟩ := ih fu (i + 1) s1 (by omega) (by omega) hcs1 g1
    exact ⟨s2, mFrm_t f1 f2, c2, g2, e2⟩
/-- when all is fixed, the answer is the calm share -/
theorem cm_end {s : zS} {side : Nat} (hn1 : 1 ≤ n) (hn : n ≤ 4) (hT : 1 ≤ T ∧ T ≤ 3375) (hs : side < n) (hrs : ratS (xc side)) (hcs : csP s n n g v xc T) :
    ∃ s', ((D_X9_noRows s).bind fun p108 => D_X9_calm_L113 (n32 (side : Int)) zFU (0 : Int32) p108) = some (1, zwL (zwL s' 66 3 (n64 (xc side).num)) 66 4 (n64 ((xc side).den : Int))) ∧ uFrm s s' := by
  obtain ⟨s1, e1, f1, g1⟩ := r_noRows s
  obtain ⟨hu, hx, htf, hg, hgi, hN, hm1⟩ := id hcs
  have hcs1 : csP s1 n n g v xc T := ⟨uOk_f hu (uFrm_m f1), ⟨by rw [f1.1]; exact hx.1, by rw [f1.1]; exact hx.2.1, fun e he => by rw [f1.1]; exact hx.2.2 e he⟩, fun e he => by
      obtain ⟨ta, tb, t1, t2, t3⟩ := htf e he
      exact ⟨ta, tb, by rw [f1.2 80 e (by omega) (by omega)]; exact t1, by rw [f1.2 81 e (by omega) (by omega)]; exact t2, t3⟩, hg, hgi, hN, hm1⟩
  obtain ⟨s2, f2, c2, g2, e2⟩ := cm113 (side := side) hn hT n zFU 0 s1 (by omega) (zFU_lt (by omega)) hcs1 (mE_ext g1 (fun r hr c hc => by rw [if_neg (by omega)]))
  have e2' : D_X9_calm_L113 (n32 (side : Int)) zFU (0 : Int32) s1 = _ := e2
  rw [e1, zbs, e2']
  unfold D_X9_calm_B113
  rw [c2.2.1.1, zif_t (Int32.le_refl _)]
  have hsm : sMt (cmMx n g) (cmMq n g (fun e => xS xc (g e))) T 4000 := by
    refine ⟨fun i _ c hc => if_pos hc, fun c _ => ⟨1, Or.inl rfl, fun i _ => ?_⟩, fun i hi => ?_, by omega, by omega⟩
    · have := hb_01 (g i) c
      unfold cmMx
      dsimp only
      split <;> omega
    · unfold cmMq
      rw [if_neg (by omega)]
      by_cases e : i < n
      · rw [if_pos e]
        obtain ⟨-, -, -, -, -, -, -, u, u1, u2, u3⟩ := htf i e
        exact ⟨u, u1, by rw [Int.mul_comm T]; exact u2, by rw [Int.mul_comm T]; exact u3⟩
      · rw [if_neg e]
        exact ⟨0, Rat.mul_zero _, by omega, by omega⟩
  have hfit : sFit T 4000 := by
    have hTT : T * T ≤ 3375 * 3375 := Int.mul_le_mul hT.2 hT.2 (by omega) (by omega)
    refine ⟨?_, ?_⟩
    · have e : 30 * (75 * (T * 4000) * (15 * T)) = 135000000 * (T * T) := by grind
      omega
    · have e : 15 * (15 * T * (15 * T)) = 3375 * (T * T) := by grind
      omega
  have hM5 : ∀ k c, n ≤ k → k < 5 → c < 6 → cmMq n g (fun e => xS xc (g e)) k c = 0 := fun k c h1 h2 h3 => by
    unfold cmMq cmMx
    (repeat' split) <;> first | rfl | (exfalso; omega)
  have hrow : ∀ y : Nat → Rat, (∀ c, n ≤ c → c < 5 → y c = 0) → ∀ i, i < n → sum5 (fun c => (cmMx n g i c : Rat) * y c) = zsum n (fun c => ((hb (g i) c : Int) : Rat) * y c) := fun y hy i hi => by
    rw [← zsum_sum5 (n := n) (by omega) (fun c h1 h2 => by rw [hy c h1 h2]; grind)]
    refine zsum_congr n (fun c hc => ?_)
    unfold cmMx
    rw [if_pos ⟨hi, hc⟩]
  rcases r_solve2 hsm hfit (show n ≤ 5 by omega) hM5 (s := s2) (fun r hr c hc => g2 r (by omega) c hc) with ⟨s3, e3, f3, y, ⟨c0, y1, y2⟩, y3, y4⟩ | ⟨s3, x, D, e3, f3, x1, x2, x3, x4, x5, x6⟩
  · exfalso
    exact y2 (linI_null hgi (fun i hi => by rw [← hrow y (fun c h1 _ => y3 c h1) i hi]; exact y4 i (by omega)) c0 y1)
  · rw [e3, zbs]
    have hxx : ∀ c, c < n → x c = xc c := fun c hc => by
      have h1 := linI_null (y := fun c => x c - xc c) hgi (fun i hi => by
        have h2 := x3 i (by omega)
        rw [hrow x (fun c h1 _ => x2 c h1) i hi] at h2
        unfold cmMq at h2
        rw [if_neg (by omega), if_pos hi] at h2
        dsimp only at h2
        rw [xS_zsum hn (hg i hi)] at h2
        have h3 : zsum n (fun c => ((hb (g i) c : Int) : Rat) * (x c - xc c)) = zsum n (fun c => ((hb (g i) c : Int) : Rat) * x c) - zsum n (fun c => ((hb (g i) c : Int) : Rat) * xc c) := by
          rw [← zsum_sub]
          exact zsum_congr n (fun c _ => by grind)
        rw [h3, ← h2]; grind) c hc
      try dsimp only at h1
      grind
    have hcell := x1 side hs
    rw [hxx side hs] at hcell
    have i65 : (6 : Int32) * n32 (side : Int) + (5 : Int32) = n32 ((6 * side + 5 : Nat) : Int) := ix6 side 5
    have hd := (xc side).den_pos
    obtain ⟨q1, q2⟩ := hrs
    dsimp only
    rw [i65, zgd_t (czin (by omega) (by omega)), zgd_t (czin (by omega) (by omega)), n32_xn (by omega), hcell.1, hcell.2, f9_put (by omega) (by omega) (by omega), zbs, rat_n1]
    exact ⟨s3, rfl, uFrm_m (mFrm_t f1 (mFrm_t f2 f3))⟩
end CN
