/-! the ends: the reference's rows are laid -/
section EL
variable {n : Nat} {v : Nat → Int} {q : Nat → Nat} {rec81 : Int64 → Int64 → Int32 → zS → Option (Int32 × zS)} {a1 a2 a8 : Int32} {a3 a5 : Int64}
theorem e128 {i S : Nat} {g : Nat → Nat} {rec93 : Int32 → zS → Option (Int32 × zS)} (hi : i < n) (hS : S < 16) (hg : g i = S) : ∀ d fu k s, k + d = n → d < fu → uOk s n v → mE s 5 (fun r c => if r < i ∨ (r = i ∧ c < k) then cmMq n g (fun e => (v (g e) : Rat)) r c else 0) →
    ∃ s', mFrm s s' ∧ mE s' 5 (fun r c => if r < i + 1 then cmMq n g (fun e => (v (g e) : Rat)) r c else 0) ∧ D_X9_end_L128 rec81 rec93 a1 a2 a3 a5 (n32 ((n : Int) - 1)) a8 (n32 (i : Int)) (n32 (S : Int)) fu (n32 (k : Int)) s = rec93 (n32 ((i + 1 : Nat) : Int)) s' := by
  intro d
  induction d with
  | zero =>
    intro fu k s hk hf hu h
    obtain ⟨fu, rfl⟩ : ∃ t, fu = t + 1 := ⟨fu - 1, by omega⟩
    obtain rfl : k = n := by omega
    have hn := hu.2.2.1
    have hv := hu.2.2.2.2 S hS
    obtain ⟨s1, e1, f1, g1⟩ := mE_put1 h (by omega) (show i < 5 by omega) (show 5 < 6 by omega) (a := v S) (by omega) (by omega)
    refine ⟨s1, f1, mE_ext g1 (fun r hr c hc => ?_), ?_⟩
    · unfold qUpd
      try dsimp only
      by_cases e : r = i ∧ c = 5
      · rw [if_pos e, if_pos (by omega)]
        unfold cmMq
        rw [if_neg (by omega), if_pos (by omega), e.1]
        dsimp only
        rw [hg]
      · rw [if_neg e]
        by_cases e2 : r < i ∨ (r = i ∧ c < k)
        · rw [if_pos e2, if_pos (by omega)]
        · rw [if_neg e2]
          by_cases e3 : r < i + 1
          · rw [if_pos e3]
            unfold cmMq cmMx
            rw [if_pos (by omega), if_neg (by omega)]; rfl
          · rw [if_neg e3]
    · rw [D_X9_end_L128_s]
      unfold D_X9_end_B128
      have e1' : D_X9_put s (n32 (i : Int)) (5 : Int32) (n64 (v S)) (1 : Int64) = some s1 := e1
      rw [hu.1, zif_t (Int32.le_refl _), zgd_t (czin (by omega) (by omega)), n32_xn (by omega), hu.2.2.2.1 S hS, n32_64 (by omega) (by omega), e1', zbs, nsuc]
  | succ d ih =>
    intro fu k s hk hf hu h
    obtain ⟨fu, rfl⟩ : ∃ t, fu = t + 1 := ⟨fu - 1, by omega⟩
    have hn := hu.2.2.1
    rw [D_X9_end_L128_s]
    unfold D_X9_end_B128
    rw [hu.1, zif_f (by rw [c32_le (by omega) (by omega)]; omega), x9_has S hS k (by omega), zbs]
    have hstep : ∀ a : Int, a = (hb S k : Int) → ∃ s', mFrm s s' ∧ mE s' 5 (fun r c => if r < i + 1 then cmMq n g (fun e => (v (g e) : Rat)) r c else 0) ∧ D_X9_end_J157 rec81 rec93 (D_X9_end_L128 rec81 rec93 a1 a2 a3 a5 (n32 ((n : Int) - 1)) a8 (n32 (i : Int)) (n32 (S : Int)) fu) s a1 a2 a3 a5 (n32 ((n : Int) - 1)) a8 (n32 (i : Int)) (n32 (S : Int)) (n32 (k : Int)) (n32 (i : Int)) (n32 (k : Int)) (n64 a) = rec93 (n32 ((i + 1 : Nat) : Int)) s' := fun a ha => by
      have h01 := hb_01 S k
      obtain ⟨s1, e1, f1, g1⟩ := mE_put1 h (by omega) (show i < 5 by omega) (show k < 6 by omega) (a := a) (by omega) (by omega)
      unfold D_X9_end_J157
      rw [e1, zbs, nsuc]
      obtain ⟨s2, f2, g2, e2⟩ := ih fu (k + 1) s1 (by omega) (by omega) (uOk_f hu (uFrm_m f1)) (mE_ext g1 (fun r hr c hc => by
        unfold qUpd
        try dsimp only
        by_cases e : r = i ∧ c = k
        · rw [if_pos e, if_pos (by omega)]
          unfold cmMq
          rw [if_pos (by omega)]
          unfold cmMx
          rw [if_pos (by omega), e.1, e.2, hg, ha]
        · rw [if_neg e]
          by_cases e2 : r < i ∨ (r = i ∧ c < k)
          · rw [if_pos e2, if_pos (by omega)]
          · rw [if_neg e2, if_neg (by omega)]))
      exact ⟨s2, mFrm_t f1 f2, g2, e2⟩
    rcases hb_01 S k with e | e
    · rw [e, zif_t (by decide)]; exact hstep 0 (by rw [e]; rfl)
    · rw [e, zif_f (by decide)]; exact hstep 1 (by rw [e]; rfl)
theorem e93 (hq : ∀ k, k < n - 1 → q k < 16) : ∀ d fu i s, i + d = n → d < fu → uOk s n v → pkE s (n - 1) q → mE s 5 (fun r c => if r < i then cmMq n (eQ n q) (fun e => (v (eQ n q e) : Rat)) r c else 0) →
    ∃ s', mFrm s s' ∧ mE s' 5 (cmMq n (eQ n q) (fun e => (v (eQ n q e) : Rat))) ∧ D_X9_end_L93 rec81 a1 a2 a3 a5 (n32 ((n : Int) - 1)) a8 fu (n32 (i : Int)) s = D_X9_end_B93 rec81 a1 a2 a3 a5 (n32 ((n : Int) - 1)) a8 (fun _ _ => none) (n32 (n : Int)) s' := by
  intro d
  induction d with
  | zero =>
    intro fu i s hi hf hu hpk h
    obtain ⟨fu, rfl⟩ : ∃ t, fu = t + 1 := ⟨fu - 1, by omega⟩
    obtain rfl : i = n := by omega
    refine ⟨s, mFrm_r s, mE_ext h (fun r hr c hc => ?_), ?_⟩
    · try dsimp only
      unfold cmMq cmMx
      (repeat' split) <;> first | rfl | (exfalso; omega)
    · rw [D_X9_end_L93_s]
      unfold D_X9_end_B93
      rw [hu.1, zif_t (Int32.le_refl _), zif_t (Int32.le_refl _)]
  | succ d ih =>
    intro fu i s hi hf hu hpk h
    obtain ⟨fu, rfl⟩ : ∃ t, fu = t + 1 := ⟨fu - 1, by omega⟩
    have hn := hu.2.2.1
    have hp := pow_le4 hn
    have hS : eQ n q i < 16 := by
      unfold eQ
      split
      · exact hq i (by assumption)
      · omega
    have hgo : D_X9_end_B93 rec81 a1 a2 a3 a5 (n32 ((n : Int) - 1)) a8 (D_X9_end_L93 rec81 a1 a2 a3 a5 (n32 ((n : Int) - 1)) a8 fu) (n32 (i : Int)) s = D_X9_end_L128 rec81 (D_X9_end_L93 rec81 a1 a2 a3 a5 (n32 ((n : Int) - 1)) a8 fu) a1 a2 a3 a5 (n32 ((n : Int) - 1)) a8 (n32 (i : Int)) (n32 (eQ n q i : Int)) zFU (0 : Int32) s := by
      unfold D_X9_end_B93
      rw [hu.1, zif_f (by rw [c32_le (by omega) (by omega)]; omega)]
      by_cases e : i < n - 1
      · rw [zif_f (fun w => by have := (n32_eq (by omega) (by omega) (by omega) (by omega)).mp w; omega), zgd_t (czin (by omega) (by omega)), n32_xn (by omega), hpk i e]
        unfold D_X9_end_J123 eQ
        rw [if_pos e]
      · have hin : (i : Int) = (n : Int) - 1 := by omega
        rw [zif_t (by rw [hin]), x9_all hu.1 (by omega), zbs]
        unfold D_X9_end_J123 eQ
        rw [if_neg e]
    rw [D_X9_end_L93_s]
    have hgo' : D_X9_end_B93 rec81 a1 a2 a3 a5 (n32 ((n : Int) - 1)) a8 (fun v0 v1 => D_X9_end_L93 rec81 a1 a2 a3 a5 (n32 ((n : Int) - 1)) a8 fu v0 v1) (n32 (i : Int)) s = _ := hgo
    rw [hgo']
    obtain ⟨s1, f1, g1, e1⟩ := e128 (rec81 := rec81) (rec93 := D_X9_end_L93 rec81 a1 a2 a3 a5 (n32 ((n : Int) - 1)) a8 fu) (a1 := a1) (a2 := a2) (a3 := a3) (a5 := a5) (a8 := a8) (g := eQ n q) (show i < n by omega) hS rfl n zFU 0 s (by omega) (zFU_lt (by omega)) hu (mE_ext h (fun r hr c hc => by
      try dsimp only
      by_cases e : r < i
      · rw [if_pos e, if_pos (Or.inl e)]
      · rw [if_neg e, if_neg (by omega)]))
    have e1' : D_X9_end_L128 rec81 (D_X9_end_L93 rec81 a1 a2 a3 a5 (n32 ((n : Int) - 1)) a8 fu) a1 a2 a3 a5 (n32 ((n : Int) - 1)) a8 (n32 (i : Int)) (n32 (eQ n q i : Int)) zFU (0 : Int32) s = _ := e1
    rw [e1']
    obtain ⟨s2, f2, g2, e2⟩ := ih fu (i + 1) s1 (by omega) (by omega) (uOk_f hu (uFrm_m f1)) (pkE_m hpk f1) g1
    exact ⟨s2, mFrm_t f1 f2, g2, e2⟩
end EL
