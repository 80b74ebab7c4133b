/-! the reference's calm share -/
section CM
variable {n m : Nat} {g : Nat → Nat} {v : Nat → Int} {xc : Nat → Rat} {T : Int}
theorem linI_null {a : Nat → Nat → Rat} {y : Nat → Rat} (h : linI n n a) (hy : ∀ i, i < n → zsum n (fun c => a i c * y c) = 0) : ∀ c, c < n → y c = 0 := by
  intro j hj
  obtain ⟨c, ⟨rc, hrc, hcne⟩, -, hc⟩ := lin_U (n + 1) n (fun i r => if r < n then a r i else if i = j then 1 else 0) (by omega)
  have hc' : ∀ i, i < n → zsum n (fun r => c r * a r i) + c n * (if i = j then 1 else 0) = 0 := fun i hi => by
    have h1 := hc i hi
    rw [zsum] at h1
    try dsimp only at h1
    rw [if_neg (Nat.lt_irrefl n), zsum_congr n (g := fun r => c r * a r i) (fun r hr => by rw [if_pos hr]; exact Rat.mul_comm _ _)] at h1
    grind
  have hcl : c n ≠ 0 := fun e => hcne (by
    have h1 := h c (fun i hi => by have := hc' i hi; rw [e] at this; grind)
    by_cases e2 : rc = n
    · rw [e2]; exact e
    · exact h1 rc (by omega))
  have h1 : zsum n (fun i => (zsum n (fun r => c r * a r i) + c n * (if i = j then 1 else 0)) * y i) = 0 := zsum_zero n (fun i hi => by rw [hc' i hi]; grind)
  have h2 : zsum n (fun i => (zsum n (fun r => c r * a r i) + c n * (if i = j then 1 else 0)) * y i) = zsum n (fun i => zsum n (fun r => c r * (a r i * y i))) + zsum n (fun i => if i = j then c n * y j else 0) := by
    rw [← zsum_add]
    refine zsum_congr n (fun i _ => ?_)
    have : zsum n (fun r => c r * (a r i * y i)) = zsum n (fun r => c r * a r i) * y i := by rw [← zsum_mulr]; exact zsum_congr n (fun r _ => by grind)
    rw [this]
    by_cases e : i = j
    · rw [if_pos e, if_pos e, e]; grind
    · rw [if_neg e, if_neg e]; grind
  have h3 : zsum n (fun i => zsum n (fun r => c r * (a r i * y i))) = 0 := by
    rw [zsum_swap]
    exact zsum_zero n (fun r hr => by rw [zsum_mul, hy r hr]; grind)
  rw [h2, h3, zsum_single (c := j) hj (fun i _ hi => if_neg hi), if_pos rfl, Rat.zero_add] at h1
  rcases Rat.mul_eq_zero.mp h1 with q | q
  · exact absurd q hcl
  · exact q
theorem tfE_up {s : zS} {t : Nat → Rat} {k : Int} (hk : 1 ≤ k) (hT : 1 ≤ T) (h : tfE s m t T) : tfE s m t (k * T) := fun e he => by
  obtain ⟨ta, tb, t1, t2, t3, t4, t5, u, u1, u2, u3⟩ := h e he
  have hkT : T ≤ k * T := by
    have := Int.mul_le_mul_of_nonneg_right hk (show (0 : Int) ≤ T by omega)
    omega
  refine ⟨ta, tb, t1, t2, by omega, by omega, t5, k * u, ?_, ?_, ?_⟩
  · push_cast; rw [← u1]; grind
  · have a1 := Int.mul_le_mul_of_nonneg_left u2 (show (0 : Int) ≤ k by omega)
    have e : k * -(4000 * T) = -(4000 * (k * T)) := by grind
    omega
  · have a2 := Int.mul_le_mul_of_nonneg_left u3 (show (0 : Int) ≤ k by omega)
    have e : k * (4000 * T) = 4000 * (k * T) := by grind
    omega
/-- fixed sets at the calm share's numbers -/
def csP (s : zS) (n m : Nat) (g : Nat → Nat) (v : Nat → Int) (xc : Nat → Rat) (T : Int) : Prop :=
  uOk s n v ∧ fxE s n m g ∧ tfE s m (fun e => xS xc (g e)) T ∧ (∀ e, e < m → g e < 2 ^ n) ∧ linI m n (fun r c => ((hb (g r) c : Int) : Rat)) ∧ gP m g (2 ^ n - 1) ∧ 1 ≤ m
/-- what the calm share may write -/
theorem fx_fix {s : zS} {S : Nat} {ta tb : Int} (hm : m ≤ 4) (hS : S < 16) (hx : fxE s n m g) : ∃ s', D_X9_fix s (n32 (S : Int)) (n64 ta) (n64 tb) = some s' ∧ uFrm s s' ∧ fxE s' n (m + 1) (gS m g S) ∧ s'.2 80 m = n64 ta ∧ s'.2 81 m = n64 tb ∧ (∀ e, e < m → s'.2 80 e = s.2 80 e ∧ s'.2 81 e = s.2 81 e) ∧ (∀ c k, (c = 66 → k ≠ 23) → c ≠ 79 → s'.1 c k = s.1 c k) ∧ ∀ c k, c ≠ 80 → c ≠ 81 → s'.2 c k = s.2 c k := by
  unfold D_X9_fix
  have h1 : (zwI s 79 m (n32 (S : Int))).1 66 23 = n32 (m : Int) := by rw [zwI_at, if_neg (fun q => by have := q.1; omega)]; exact hx.2.1
  rw [hx.2.1, zgd_t (czin (by omega) (by omega)), n32_xn (by omega)]
  dsimp only
  rw [h1, zgd_t (czin (by omega) (by omega)), n32_xn (by omega)]
  have h2 : (zwL (zwI s 79 m (n32 (S : Int))) 80 m (n64 ta)).1 66 23 = n32 (m : Int) := h1
  rw [h2, zgd_t (czin (by omega) (by omega)), n32_xn (by omega)]
  have h3 : (zwL (zwL (zwI s 79 m (n32 (S : Int))) 80 m (n64 ta)) 81 m (n64 tb)).1 66 23 = n32 (m : Int) := h1
  rw [h3, nsuc]
  refine ⟨_, rfl, ⟨fun c k h66 h79 _ _ _ => ?_, fun c k _ _ _ h80 h81 _ => ?_⟩, ⟨?_, ?_, fun e he => ?_⟩, ?_, ?_, fun e he => ⟨?_, ?_⟩, fun c k h66 h79 => ?_, fun c k h80 h81 => ?_⟩
  · rw [zwI_at, if_neg (fun q => (h66 q.1).1 q.2)]
    show (zwI s 79 m (n32 (S : Int))).1 c k = _
    rw [zwI_at, if_neg (fun q => h79 q.1)]
  · show (zwL (zwL (zwI s 79 m (n32 (S : Int))) 80 m (n64 ta)) 81 m (n64 tb)).2 c k = _
    rw [zwL_at, if_neg (fun q => h81 q.1), zwL_at, if_neg (fun q => h80 q.1)]; rfl
  · rw [zwI_at, if_neg (by omega)]
    show (zwI s 79 m (n32 (S : Int))).1 66 0 = _
    rw [zwI_at, if_neg (by omega)]; exact hx.1
  · rw [zwI_at, if_pos ⟨rfl, rfl⟩]
  · rw [zwI_at, if_neg (by omega)]
    show (zwI s 79 m (n32 (S : Int))).1 79 e = _
    rw [zwI_at]
    unfold gS
    by_cases q : e = m
    · rw [if_pos ⟨rfl, q⟩, if_neg (by omega)]
    · rw [if_neg (fun y => q y.2), if_pos (by omega)]; exact hx.2.2 e (by omega)
  · show (zwL (zwL (zwI s 79 m (n32 (S : Int))) 80 m (n64 ta)) 81 m (n64 tb)).2 80 m = _
    rw [zwL_at, if_neg (by omega), zwL_at, if_pos ⟨rfl, rfl⟩]
  · show (zwL (zwL (zwI s 79 m (n32 (S : Int))) 80 m (n64 ta)) 81 m (n64 tb)).2 81 m = _
    rw [zwL_at, if_pos ⟨rfl, rfl⟩]
  · show (zwL (zwL (zwI s 79 m (n32 (S : Int))) 80 m (n64 ta)) 81 m (n64 tb)).2 80 e = _
    rw [zwL_at, if_neg (by omega), zwL_at, if_neg (by omega)]; rfl
  · show (zwL (zwL (zwI s 79 m (n32 (S : Int))) 80 m (n64 ta)) 81 m (n64 tb)).2 81 e = _
    rw [zwL_at, if_neg (by omega), zwL_at, if_neg (by omega)]; rfl
  · rw [zwI_at, if_neg (fun q => h66 q.1 q.2)]
    show (zwI s 79 m (n32 (S : Int))).1 c k = _
    rw [zwI_at, if_neg (fun q => h79 q.1)]
  · show (zwL (zwL (zwI s 79 m (n32 (S : Int))) 80 m (n64 ta)) 81 m (n64 tb)).2 c k = _
    rw [zwL_at, if_neg (fun q => h81 q.1), zwL_at, if_neg (fun q => h80 q.1)]; rfl
/-- the sets of the best balance are fixed, one by one -/
theorem cm44 {c : Rat} {B : Nat} {bp : Nat → Nat} {rec15 : zS → Option (Int32 × zS)} {a1 : Int32} (hn : n ≤ 4) (hT : 1 ≤ T ∧ T ≤ 3375) (hc : (-10000000000 ≤ c.num ∧ c.num ≤ 10000000000) ∧ (c.den : Int) ≤ T ∧ ∃ z : Int, (T : Rat) * c = (z : Rat)) (hxb : ∀ S, S < 2 ^ n → -4000 ≤ xS xc S ∧ xS xc S ≤ 4000) (hbp : ∀ i, i < B → bp i < 2 ^ n ∧ (v (bp i) : Rat) - xS xc (bp i) = c) (hB : B ≤ 4) : ∀ d fu i s m g, i + d = B → d < fu → csP s n m g v xc T → s.1 66 32 = n32 (B : Int) → (∀ i, i < B → s.1 85 i = n32 (bp i : Int)) →
    ∃ s' m' g', D_X9_calm_L44 rec15 a1 (n64 c.num) (n64 (c.den : Int)) fu (n32 (i : Int)) s = rec15 s' ∧ uFrm s s' ∧ csP s' n m' g' v xc T ∧ m ≤ m' ∧ (i < B → ¬ gDep (gP m g) (bp i) → m < m') := by
  have hp := pow_le4 hn
  intro d
  induction d with
  | zero =>
    intro fu i s m g hi hf hcs h32 h85
    obtain ⟨fu, rfl⟩ : ∃ t, fu = t + 1 := ⟨fu - 1, by omega⟩
    refine ⟨s, m, g, ?_, uFrm_r s, hcs, Nat.le_refl _, fun h => by omega⟩
    rw [D_X9_calm_L44_s]
    unfold D_X9_calm_B44
    rw [h32, zif_t (by rw [c32_le (by omega) (by omega)]; omega)]
  | succ d ih =>
    intro fu i s m g hi hf hcs h32 h85
    obtain ⟨fu, rfl⟩ : ∃ t, fu = t + 1 := ⟨fu - 1, by omega⟩
    obtain ⟨hu, hx, htf, hg, hgi, hN, hm1⟩ := id hcs
    have hmn := linI_le hgi
    obtain ⟨hb2, hbc⟩ := hbp i (by omega)
    obtain ⟨s1, f1, r1⟩ := isFree_is (S := bp i) (show m ≤ 4 by omega) hn (fun e he => by have := hg e he; omega) (by omega) hx.1 hx.2.1 hx.2.2
    have hfd := free_dep (S := bp i) hn hg hb2 hgi
    have hu1 := uOk_f hu (uFrm_j f1)
    have hx1 : fxE s1 n m g := ⟨by rw [f1.1]; exact hx.1, by rw [f1.1]; exact hx.2.1, fun e he => by rw [f1.1]; exact hx.2.2 e he⟩
    have htf1 : tfE s1 m (fun e => xS xc (g e)) T := fun e he => by
      obtain ⟨ta, tb, t1, t2, t3⟩ := htf e he
      exact ⟨ta, tb, by rw [f1.2 80 e (by omega)]; exact t1, by rw [f1.2 81 e (by omega)]; exact t2, t3⟩
    rw [D_X9_calm_L44_s]
    unfold D_X9_calm_B44
    rw [h32, zif_f (by rw [c32_le (by omega) (by omega)]; omega), zgd_t (czin (by omega) (by omega)), n32_xn (by omega), h85 i (by omega)]
    rcases r1 with ⟨e1, hli⟩ | ⟨e1, hli⟩
    · rw [e1, zbs]
      dsimp only
      have h85' : s1.1 85 i = n32 (bp i : Int) := by rw [f1.1]; exact h85 i (by omega)
      have hv := hu1.2.2.2.2 (bp i) (by omega)
      have hd0 : (0 : Int) < (c.den : Int) := by have := c.den_pos; omega
      rw [zif_f (by decide), zgd_t (czin (by omega) (by omega)), zgd_t (czin (by omega) (by omega)), h85', zgd_t (czin (by omega) (by omega)), n32_xn (by omega), hu1.2.2.2.1 (bp i) (by omega), n32_64 (by omega) (by omega), n64_mul, n64_sub]
      obtain ⟨s2, e2, f2, x2, k1, k2, k3, k4, k5⟩ := fx_fix (ta := v (bp i) * (c.den : Int) - c.num) (tb := (c.den : Int)) (S := bp i) (show m ≤ 4 by omega) (by omega) hx1
      rw [e2, zbs, nsuc]
      have hval : xS xc (bp i) = ((v (bp i) * (c.den : Int) - c.num : Int) : Rat) / ((c.den : Int) : Rat) := by
        have h1 : xS xc (bp i) = (v (bp i) : Rat) - c := by grind
        have h2 := rat_md c
        have hdr : ((c.den : Int) : Rat) ≠ 0 := fun e => by have := ratInt_inj (a := (c.den : Int)) (b := 0) (by rw [e]; rfl); omega
        refine rat_cancel hdr ?_
        rw [Rat.mul_comm _ (((v (bp i) * (c.den : Int) - c.num : Int) : Rat) / _), Rat.div_mul_cancel hdr, h1]
        push_cast
        rw [← h2]; grind
      have hxb' := hxb (bp i) hb2
      have hta : -(4000 * (c.den : Int)) ≤ v (bp i) * (c.den : Int) - c.num ∧ v (bp i) * (c.den : Int) - c.num ≤ 4000 * (c.den : Int) := by
        have hdp := rat_pos hd0
        have hdr : ((c.den : Int) : Rat) ≠ 0 := fun e => by rw [e] at hdp; exact absurd hdp (by decide)
        have h3 : xS xc (bp i) * ((c.den : Int) : Rat) = ((v (bp i) * (c.den : Int) - c.num : Int) : Rat) := by rw [hval, Rat.div_mul_cancel hdr]
        have a1 := Rat.mul_le_mul_of_nonneg_right hxb'.1 (Rat.le_of_lt hdp)
        have a2 := Rat.mul_le_mul_of_nonneg_right hxb'.2 (Rat.le_of_lt hdp)
        rw [h3] at a1 a2
        have b1 : (((-4000) * (c.den : Int) : Int) : Rat) ≤ ((v (bp i) * (c.den : Int) - c.num : Int) : Rat) := by rw [Rat.intCast_mul]; exact a1
        have b2 : ((v (bp i) * (c.den : Int) - c.num : Int) : Rat) ≤ ((4000 * (c.den : Int) : Int) : Rat) := by rw [Rat.intCast_mul 4000]; exact a2
        have c1 := Rat.intCast_le_intCast.mp b1
        have c2 := Rat.intCast_le_intCast.mp b2
        omega
      have hcs2 : csP s2 n (m + 1) (gS m g (bp i)) v xc T := by
        refine ⟨uOk_f hu1 f2, x2, fun e he => ?_, fun e he => ?_, hli, ?_, by omega⟩
        · by_cases q : e = m
          · subst q
            have hgS : gS e g (bp i) e = bp i := by unfold gS; rw [if_neg (by omega)]
            dsimp only
            rw [hgS]
            obtain ⟨z, hz⟩ := hc.2.2
            have hTr : (0 : Rat) ≤ (T : Rat) := rat_nn (by omega)
            have hu' : (T : Rat) * xS xc (bp i) = ((T * v (bp i) - z : Int) : Rat) := by
              have h1 : xS xc (bp i) = (v (bp i) : Rat) - c := by grind
              rw [h1]
              push_cast
              rw [← hz]; grind
            have a1 := Rat.mul_le_mul_of_nonneg_left hxb'.1 hTr
            have a2 := Rat.mul_le_mul_of_nonneg_left hxb'.2 hTr
            rw [hu'] at a1 a2
            have b1 : ((T * -4000 : Int) : Rat) ≤ ((T * v (bp i) - z : Int) : Rat) := by rw [Rat.intCast_mul T (-4000)]; exact a1
            have b2 : ((T * v (bp i) - z : Int) : Rat) ≤ ((T * 4000 : Int) : Rat) := by rw [Rat.intCast_mul T 4000]; exact a2
            have c1 := Rat.intCast_le_intCast.mp b1
            have c2 := Rat.intCast_le_intCast.mp b2
            exact ⟨_, _, k1, k2, ⟨hd0, hc.2.1⟩, ⟨by omega, by omega⟩, hval, _, hu', by omega, by omega⟩
          · have hgS : gS m g (bp i) e = g e := by unfold gS; rw [if_pos (by omega)]
            dsimp only
            rw [hgS]
            obtain ⟨ta, tb, t1, t2, t3⟩ := htf1 e (by omega)
            have := k3 e (by omega)
            exact ⟨ta, tb, by rw [this.1]; exact t1, by rw [this.2]; exact t2, t3⟩
        · unfold gS
          by_cases q : e < m
          · rw [if_pos q]; exact hg e q
          · rw [if_neg q]; exact hb2
        · obtain ⟨e, he, ee⟩ := hN
          exact ⟨e, by omega, by unfold gS; rw [if_pos he]; exact ee⟩
      obtain ⟨s3, m3, g3, e3, f3, cs3, h3, -⟩ := ih fu (i + 1) s2 (m + 1) (gS m g (bp i)) (by omega) (by omega) hcs2 (by rw [k4 66 32 (fun _ => by omega) (by omega), f1.1]; exact h32) (fun i hi => by rw [k4 85 i (fun e => by omega) (by omega), f1.1]; exact h85 i hi)
      exact ⟨s3, m3, g3, e3, uFrm_t (uFrm_j f1) (uFrm_t f2 f3), cs3, by omega, fun _ _ => by omega⟩
    · rw [e1, zbs]
      dsimp only
      rw [zif_t rfl, nsuc]
      obtain ⟨s3, m3, g3, e3, f3, cs3, h3, -⟩ := ih fu (i + 1) s1 m g (by omega) (by omega) ⟨hu1, hx1, htf1, hg, hgi, hN, hm1⟩ (by rw [f1.1]; exact h32) (fun i hi => by rw [f1.1]; exact h85 i hi)
      exact ⟨s3, m3, g3, e3, uFrm_t (uFrm_j f1) f3, cs3, h3, fun _ hd => absurd (hfd.mpr hd) hli⟩
end CM
