/-! the ends: the reference's rows, one after the other -/
section EX
variable {n side : Nat} {v : Nat → Int} {sg : Int} {a2 : Int32}
theorem e81 {M t : Nat} (hs : side < n) (hsg : (sg = -1 ∧ a2 = 0) ∨ (sg = 1 ∧ a2 = 1)) (hM : M + 2 = 2 ^ n) (ht : t = 2 ^ n - n) : ∀ f p s a3 a5 o, cInc (n - 1) t 1 p → 16 ^ (n - 1) < f + cCode (n - 1) p → uOk s n v → pkE s (n - 1) p → endE sg a3 a5 o → bstI (fun q u => eVal n v side q ((sg : Rat) * u)) (cInc (n - 1) t 1) (fun q => cInc (n - 1) t 1 q ∧ cCode (n - 1) q < cCode (n - 1) p) o →
    ∃ s' b3 b5 o', D_X9_end_L81 (n32 (side : Int)) a2 (n32 ((n : Int) - 1)) (n32 (M : Int)) f a3 a5 1 s = ((D_X9_fraction s' b3 b5).bind fun p415 => some (p415.1, p415.2)) ∧ uFrm s s' ∧ endE sg b3 b5 o' ∧ bstI (fun q u => eVal n v side q ((sg : Rat) * u)) (cInc (n - 1) t 1) (cInc (n - 1) t 1) o' := by
  intro f
  induction f with
  | zero =>
    intro p s a3 a5 o hp hf hu hpk hE hI
    have h4 := pow_le4 hu.2.2.1
    have := cCode_bd (n - 1) (cInc_bd (by have := hu.2.1; omega) hp)
    omega
  | succ f ih =>
    intro p s a3 a5 o hp hf hu hpk hE hI
    obtain ⟨u1, hn1, hn, u4, u5⟩ := id hu
    have h4 := pow_le4 hn
    have hbd := cInc_bd (show t + (n - 1) ≤ 16 by omega) hp
    have hcd := cCode_bd (n - 1) hbd
    rw [D_X9_end_L81_s]
    unfold D_X9_end_B81
    rw [zif_f (by decide)]
    obtain ⟨s1, b3, b5, o1, e1, f1, hE1, hI1⟩ := e_row (rec81 := D_X9_end_L81 (n32 (side : Int)) a2 (n32 ((n : Int) - 1)) (n32 (M : Int)) f) (a8 := n32 (M : Int)) hs hsg hu (fun k hk => by have := (hp.2 k hk).2; omega) hp hpk hE hI
    have e1' : ((D_X9_noRows s).bind fun p87 => D_X9_end_L93 (fun v0 v1 v2 v3 => D_X9_end_L81 (n32 (side : Int)) a2 (n32 ((n : Int) - 1)) (n32 (M : Int)) f v0 v1 v2 v3) (n32 (side : Int)) a2 a3 a5 (n32 ((n : Int) - 1)) (n32 (M : Int)) zFU (0 : Int32) p87) = _ := e1
    rw [e1']
    have hK : (n : Int) - 1 = ((n - 1 : Nat) : Int) := by omega
    have hpk1 : pkE s1 (n - 1) p := pkE_m hpk f1
    unfold D_X9_end_J306
    have hlast : n32 ((n : Int) - 1) - (1 : Int32) = n32 (((n - 1 : Nat) : Int) - 1) := by rw [l32_1, n32_sub, hK]
    rw [hlast]
    rcases e312 (rec81 := D_X9_end_L81 (n32 (side : Int)) a2 (n32 ((n : Int) - 1)) (n32 (M : Int)) f) (a1 := n32 (side : Int)) (a2 := a2) (a3 := b3) (a5 := b5) (K := n - 1) (M := M) (show n - 1 ≤ 4 by omega) (by omega) (by omega) hp hpk1 (n - 1) zFU (Nat.le_refl _) (zFU_lt (by omega)) (fun k h1 h2 => by omega) with ⟨e2, hall⟩ | ⟨s2, a, e2, f2, g2, k2, ha, hlt, hge⟩
    · rw [← hK] at e2
      rw [← hK, e2]
      obtain ⟨f, rfl⟩ : ∃ u, f = u + 1 := ⟨f - 1, by omega⟩
      refine ⟨s1, b3, b5, o1, ?_, uFrm_m f1, hE1, hI1 _ (fun q hq => ?_)⟩
      · rw [D_X9_end_L81_s]
        unfold D_X9_end_B81
        rw [zif_t rfl]
      · have hle := cLast hall q hq
        by_cases e : cCode (n - 1) q < cCode (n - 1) p
        · exact Or.inl ⟨hq, e⟩
        · exact Or.inr (cCode_inj (n - 1) (fun k hk => ⟨cInc_bd (by omega) hq k hk, hbd k hk⟩) (by omega))
    · rw [← hK] at e2
      rw [← hK, e2]
      obtain ⟨n1, n2, n3⟩ := cNext_ok (show t + (n - 1) ≤ 16 by omega) hp ha hlt hge
      obtain ⟨s3, c3, c5, o3, e3, f3, hE3, hI3⟩ := ih (cNext p a) s2 b3 b5 o1 n1 (by omega) (uOk_f hu (uFrm_t (uFrm_m f1) f2)) k2 hE1 (hI1 _ (fun q hq => by
          have hle := n3 q hq.1 hq.2
          by_cases e : cCode (n - 1) q < cCode (n - 1) p
          · exact Or.inl ⟨hq.1, e⟩
          · exact Or.inr (cCode_inj (n - 1) (fun k hk => ⟨cInc_bd (by omega) hq.1 k hk, hbd k hk⟩) (by omega))))
      exact ⟨s3, c3, c5, o3, e3, uFrm_t (uFrm_m f1) (uFrm_t f2 f3), hE3, hI3⟩
end EX
