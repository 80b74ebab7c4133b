/-! the frame is set right again for the next phase -/
theorem sum5_two {f : Nat → Rat} {a b : Nat} (ha : a < 5) (hb : b < 5) (hab : a ≠ b) (h : ∀ c, c < 5 → c ≠ a → c ≠ b → f c = 0) : sum5 f = f a + f b := by
  have e : sum5 f = zsum 5 f := (zsum_sum5 (n := 5) (by omega) (fun c h1 h2 => by omega)).symm
  have e2 : zsum 5 f = zsum 5 (fun c => (if c = a then f a else 0) + if c = b then f b else 0) := zsum_congr 5 (fun c hc => by
    by_cases q : c = a
    · rw [if_pos q, if_neg (by omega), q]; grind
    · rw [if_neg q]
      by_cases q2 : c = b
      · rw [if_pos q2, q2]; grind
      · rw [if_neg q2, h c hc q q2]; grind)
  rw [e, e2, zsum_add, zsum_single (c := a) ha (fun j _ hj => if_neg hj), zsum_single (c := b) hb (fun j _ hj => if_neg hj), if_pos rfl, if_pos rfl]
theorem det_drop {M1 : Nat → Nat → Int} {j1 C : Nat} (hj1 : j1 < 5) (h1 : (fun i => M1 i j1) = zunit 4) (hd : det5 M1 ≠ 0) : ∀ k, k ≤ 5 → det5 (fun i j => if j < k ∧ C ≤ j ∧ j ≠ j1 then vDrop (fun i => M1 i j) i else M1 i j) ≠ 0
  | 0, _ => by
    rw [show (fun i j => if j < 0 ∧ C ≤ j ∧ j ≠ j1 then vDrop (fun i => M1 i j) i else M1 i j) = M1 by
      funext i j
      rw [if_neg (by omega)]]
    exact hd
  | k + 1, hk => by
    have ih := det_drop (C := C) hj1 h1 hd k (by omega)
    by_cases e : C ≤ k ∧ k ≠ j1
    · have hcr := cramR (m := fun i j => if j < k ∧ C ≤ j ∧ j ≠ j1 then vDrop (fun i => M1 i j) i else M1 i j) (b := vDrop (fun i => M1 i k)) (x := fun c => if c = k then 1 else if c = j1 then -(M1 4 k : Rat) else 0) (fun i hi => by
        rw [sum5_two (a := k) (b := j1) (by omega) hj1 e.2 (fun c _ h1 h2 => by rw [if_neg h1, if_neg h2]; grind), if_pos rfl, if_neg (by omega), if_pos rfl, if_neg (by omega), if_neg (by omega)]
        have hc1 : M1 i j1 = zunit 4 i := congrFun h1 i
        rw [hc1]
        unfold vDrop zunit
        by_cases q : i = 4
        · rw [if_pos q, if_pos q, q]; push_cast; grind
        · rw [if_neg q, if_neg q]; push_cast; grind) (show k < 5 by omega)
      rw [if_pos rfl, Rat.one_mul] at hcr
      have hz : zrep (fun i j => if j < k ∧ C ≤ j ∧ j ≠ j1 then vDrop (fun i => M1 i j) i else M1 i j) k (vDrop (fun i => M1 i k)) = fun i j => if j < k + 1 ∧ C ≤ j ∧ j ≠ j1 then vDrop (fun i => M1 i j) i else M1 i j := by
        funext i j
        unfold zrep
        by_cases q : j = k
        · rw [if_pos q, if_pos (by omega), q]
        · rw [if_neg q]
          dsimp only
          by_cases q1 : j < k ∧ C ≤ j ∧ j ≠ j1
          · rw [if_pos q1, if_pos ⟨by omega, q1.2⟩]
          · rw [if_neg q1, if_neg (fun x => q1 ⟨by omega, x.2⟩)]
      rw [hz] at hcr
      have := ratInt_inj hcr
      rw [this]; exact ih
    · rw [show (fun i j => if j < k + 1 ∧ C ≤ j ∧ j ≠ j1 then vDrop (fun i => M1 i j) i else M1 i j) = fun i j => if j < k ∧ C ≤ j ∧ j ≠ j1 then vDrop (fun i => M1 i j) i else M1 i j by
        funext i j
        by_cases q : j < k ∧ C ≤ j ∧ j ≠ j1
        · rw [if_pos q, if_pos ⟨by omega, q.2⟩]
        · have q2 : ¬ (j < k + 1 ∧ C ≤ j ∧ j ≠ j1) := fun x => by
            by_cases q3 : j = k
            · rw [q3] at x; exact e x.2
            · exact q ⟨by omega, x.2⟩
          rw [if_neg q, if_neg q2]]
      exact ih
theorem ph_norm {s : zS} {n C R : Nat} {A : cW → Prop} {E : Rat} {rs cs : Nat → Nat} {cell : Nat → Nat → Int} {idr idc : Nat → cW → Rat} {vr : Nat → Nat → Int} {kr : Nat → Rat} {M : Nat → Nat → Int} {kM : Nat → Rat} {Q V : Int} (hn : n ≤ 4) (hE : -2000 ≤ E ∧ E ≤ 2000) (hfit : 2700 * (15 * Q * (15 * Q * (V + 2000))) < 4611686018427387904) (hA : ∀ w, A w → w.2 = E) (h : bI s A R C rs cs cell idr idc (cX n) vr kr M kM Q V) :
    ∃ (Q' : Int) (M' : Nat → Nat → Int) (kM' : Nat → Rat) (j1 : Nat), Q ≤ Q' ∧ Q' ≤ 15 * Q ∧ bI s A R C rs cs cell idr idc (cX n) vr kr M' kM' Q' (V + 2000) ∧ (∀ j, j < C → (fun i => M' i j) = (fun i => M i j) ∧ kM' j = kM j) ∧ (C ≤ j1 ∧ j1 < 5 ∧ (fun i => M' i j1) = zunit 4 ∧ kM' j1 = E ∧ ∀ j, C ≤ j → j < 5 → j ≠ j1 → M' 4 j = 0) := by
  obtain ⟨e0, hd, ⟨F1, F2, F3, F4, F5, F6, F7, F8, F9, F10⟩, hg, hQ, hV, hb⟩ := h
  have key : ∀ w, A w → (det5 M : Rat) * E = zsum C (fun j => (det5 (zrep M j (zunit 4)) : Rat) * idc j w) + sum5 (fun j => (det5 (zrep M j (zunit 4)) : Rat) * kM j) := fun w a => by
    have h1 := dot5_adj (m := M) (b := zunit 4) (x := cX n w)
    rw [zunit_dot (by omega), cX_4 hn, hA w a] at h1
    rw [h1, ← sum5_split F1]
    refine sum5_congr (fun j hj => ?_)
    by_cases e : j < C
    · rw [if_pos e, F3 w a j e]; grind
    · rw [if_neg e, F4 w a j (by omega) hj]
  obtain ⟨w0, a0, k0⟩ := hd.2.2 (fun _ => 0)
  have hk0 := key w0 a0
  rw [zsum_congr C (fun j hj => by rw [k0 j hj]), zsum_z, Rat.zero_add] at hk0
  have hcz : ∀ j, j < C → det5 (zrep M j (zunit 4)) = 0 := fun j hj => by
    obtain ⟨w1, a1, k1⟩ := hd.2.2 (fun i => if i = j then 1 else 0)
    have hk1 := key w1 a1
    rw [zsum_congr C (fun i hi => by rw [k1 i hi]), zsum_ray hj, ← hk0] at hk1
    apply ratInt_inj
    rw [Rat.intCast_zero]; grind
  obtain ⟨j1, hj1, hj15, hc1⟩ : ∃ j1, C ≤ j1 ∧ j1 < 5 ∧ det5 (zrep M j1 (zunit 4)) ≠ 0 := by
    refine Classical.byContradiction fun hno => F7 ?_
    have hall : ∀ j, j < 5 → det5 (zrep M j (zunit 4)) = 0 := fun j hj => by
      by_cases e : j < C
      · exact hcz j e
      · exact Classical.byContradiction fun q => hno ⟨j, by omega, hj, q⟩
    have h1 := det5_adj (m := M) (b := zunit 4) (i := 4) (by omega)
    rw [hall 0 (by omega), hall 1 (by omega), hall 2 (by omega), hall 3 (by omega), hall 4 (by omega)] at h1
    have h2 : zunit 4 4 = 1 := rfl
    rw [h2] at h1
    omega
  have hdb := det5_pm F6
  -- E by whole numbers
  obtain ⟨zk, hzk⟩ : ∃ z : Nat → Int, ∀ j, j < 5 → (Q : Rat) * kM j = (z j : Rat) ∧ -(Q * V) ≤ z j ∧ z j ≤ Q * V :=
    ⟨fun j => if hj : j < 5 then Classical.choose (F10 j hj) else 0, fun j hj => by dsimp only; rw [dif_pos hj]; exact Classical.choose_spec (F10 j hj)⟩
  obtain ⟨zs, hzs⟩ : ∃ z : Int, (Q : Rat) * ((det5 M : Rat) * E) = (z : Rat) := by
    refine ⟨det5 (zrep M 0 (zunit 4)) * zk 0 + det5 (zrep M 1 (zunit 4)) * zk 1 + det5 (zrep M 2 (zunit 4)) * zk 2 + det5 (zrep M 3 (zunit 4)) * zk 3 + det5 (zrep M 4 (zunit 4)) * zk 4, ?_⟩
    rw [hk0]
    push_cast
    rw [← (hzk 0 (by omega)).1, ← (hzk 1 (by omega)).1, ← (hzk 2 (by omega)).1, ← (hzk 3 (by omega)).1, ← (hzk 4 (by omega)).1]
    unfold sum5
    grind
  obtain ⟨g, hg1, hg15, hgE, hgd⟩ : ∃ g : Int, 1 ≤ g ∧ g ≤ 15 ∧ (∃ z : Int, ((Q * g : Int) : Rat) * E = (z : Rat)) ∧ True := by
    by_cases e : 0 < det5 M
    · exact ⟨det5 M, by omega, by omega, ⟨zs, by push_cast; rw [← hzs]; grind⟩, trivial⟩
    · exact ⟨-det5 M, by omega, by omega, ⟨-zs, by push_cast; rw [← hzs]; grind⟩, trivial⟩
  obtain ⟨zE, hzE⟩ := hgE
  have hQg : Q ≤ Q * g ∧ Q * g ≤ 15 * Q := by
    have a1 := Int.mul_le_mul_of_nonneg_left hg1 (show (0 : Int) ≤ Q by omega)
    have a2 := Int.mul_le_mul_of_nonneg_left hg15 (show (0 : Int) ≤ Q by omega)
    omega
  have hzEb : -(2000 * (Q * g)) ≤ zE ∧ zE ≤ 2000 * (Q * g) := by
    have hQr : (0 : Rat) ≤ ((Q * g : Int) : Rat) := rat_nn (by omega)
    have a1 := Rat.mul_le_mul_of_nonneg_left hE.1 hQr
    have a2 := Rat.mul_le_mul_of_nonneg_left hE.2 hQr
    rw [hzE] at a1 a2
    have b1 : (((Q * g * -2000 : Int)) : Rat) ≤ (zE : Rat) := by rw [Rat.intCast_mul]; exact a1
    have b2 : (zE : Rat) ≤ (((Q * g * 2000 : Int)) : Rat) := by rw [Rat.intCast_mul (Q * g) 2000]; exact a2
    have c1 := Rat.intCast_le_intCast.mp b1
    have c2 := Rat.intCast_le_intCast.mp b2
    omega
  have hV2 : Q * g * (V + 2000) = g * (Q * V) + 2000 * (Q * g) := by grind
  have hgm : ∀ z : Int, -(Q * V) ≤ z → z ≤ Q * V → -(g * (Q * V)) ≤ g * z ∧ g * z ≤ g * (Q * V) := fun z h1 h2 => by
    have a1 := Int.mul_le_mul_of_nonneg_left h1 (show (0 : Int) ≤ g by omega)
    have a2 := Int.mul_le_mul_of_nonneg_left h2 (show (0 : Int) ≤ g by omega)
    have e : g * -(Q * V) = -(g * (Q * V)) := by grind
    omega
  have hM1 : (fun i => zrep M j1 (zunit 4) i j1) = zunit 4 := by funext i; unfold zrep; rw [if_pos rfl]
  have hd1 := det_drop (C := C) hj15 hM1 hc1 5 (Nat.le_refl _)
  have hcol : ∀ j, j ≠ j1 → (fun i => zrep M j1 (zunit 4) i j) = fun i => M i j := fun j hj => by funext i; unfold zrep; rw [if_neg hj]
  refine ⟨Q * g, fun i j => if j < 5 ∧ C ≤ j ∧ j ≠ j1 then vDrop (fun i => zrep M j1 (zunit 4) i j) i else zrep M j1 (zunit 4) i j, fun j => if j = j1 then E else if C ≤ j then kM j - (M 4 j : Rat) * E else kM j, j1, hQg.1, hQg.2, ⟨e0, hd, ⟨F1, F2, fun w a j hj => ?_, fun w a j hj1' hj2' => ?_, F5, fun j hj => ?_, hd1, by omega, fun r hr => ?_, fun j hj => ?_⟩, fun r hr => ?_, by omega, by omega, ?_⟩, fun j hj => ?_, hj1, hj15, ?_, if_pos rfl, fun j hj1' hj2' hj3' => ?_⟩
  · dsimp only
    rw [if_neg (by omega), if_neg (by omega), show (fun i => if j < 5 ∧ C ≤ j ∧ j ≠ j1 then vDrop (fun i => zrep M j1 (zunit 4) i j) i else zrep M j1 (zunit 4) i j) = fun i => M i j by
      funext i
      rw [if_neg (by omega)]
      exact congrFun (hcol j (by omega)) i]
    exact F3 w a j hj
  · dsimp only
    by_cases e : j = j1
    · rw [if_pos e, show (fun i => if j < 5 ∧ C ≤ j ∧ j ≠ j1 then vDrop (fun i => zrep M j1 (zunit 4) i j) i else zrep M j1 (zunit 4) i j) = zunit 4 by
        funext i
        rw [if_neg (by omega), e]
        exact congrFun hM1 i, zunit_dot (by omega), cX_4 hn]
      exact hA w a
    · rw [if_neg e, if_pos hj1', show (fun i => if j < 5 ∧ C ≤ j ∧ j ≠ j1 then vDrop (fun i => zrep M j1 (zunit 4) i j) i else zrep M j1 (zunit 4) i j) = vDrop (fun i => M i j) by
        funext i
        rw [if_pos ⟨hj2', hj1', e⟩, hcol j e]]
      have h1 := F4 w a j hj1' hj2'
      have h2 := dot_lvl (n := n) (u := fun i => M i j) (x := w.1) (E := w.2) (e := w.2) hn
      have h3 : (w.1, w.2) = w := rfl
      rw [h3, h1, hA w a] at h2
      grind
  · by_cases e : C ≤ j ∧ j ≠ j1
    · rw [show (fun i => if j < 5 ∧ C ≤ j ∧ j ≠ j1 then vDrop (fun i => zrep M j1 (zunit 4) i j) i else zrep M j1 (zunit 4) i j) = vDrop (fun i => M i j) by
        funext i
        rw [if_pos ⟨hj, e⟩, hcol j e.2]]
      exact vDrop_pm (F6 j hj)
    · rw [show (fun i => if j < 5 ∧ C ≤ j ∧ j ≠ j1 then vDrop (fun i => zrep M j1 (zunit 4) i j) i else zrep M j1 (zunit 4) i j) = fun i => zrep M j1 (zunit 4) i j by
        funext i
        rw [if_neg (fun x => e x.2)]]
      exact zrep_pm F6 (zunit_pm 4) j hj
  · obtain ⟨z, z1, z2, z3⟩ := F9 r hr
    have := hgm z z2 z3
    refine ⟨g * z, ?_, by omega, by omega⟩
    push_cast
    rw [← z1]; grind
  · obtain ⟨z1, z2, z3⟩ := hzk j hj
    have hb1 := hgm _ z2 z3
    have hQVn : 0 ≤ g * (Q * V) := Int.mul_nonneg (by omega) (Int.mul_nonneg (by omega) (by omega))
    dsimp only
    by_cases e : j = j1
    · refine ⟨zE, ?_, by omega, by omega⟩
      rw [if_pos e]; exact hzE
    · rw [if_neg e]
      by_cases e2 : C ≤ j
      · have hu := pm_4 (F6 j hj)
        have hm : -(2000 * (Q * g)) ≤ M 4 j * zE ∧ M 4 j * zE ≤ 2000 * (Q * g) := by
          rcases hu with q | q | q <;> rw [q] <;> omega
        refine ⟨g * zk j - M 4 j * zE, ?_, by omega, by omega⟩
        rw [if_pos e2]
        rw [Rat.intCast_sub, Rat.intCast_mul (M 4 j), ← hzE]
        push_cast
        rw [← z1]; grind
      · refine ⟨g * zk j, ?_, by omega, by omega⟩
        rw [if_neg e2]
        push_cast
        rw [← z1]; grind
  · have hgr := hg r hr
    have hcl := hd.1 r hr
    have hQVm : 90 * (Q * V) ≤ 90 * (Q * g * (V + 2000)) := by
      have := Int.mul_le_mul_of_nonneg_right hg1 (show (0 : Int) ≤ Q * V from Int.mul_nonneg (by omega) (by omega))
      omega
    refine ⟨by omega, by omega, fun j hj => ?_⟩
    have := hgr.2.2 j hj
    omega
  · have a1 : Q * g * (V + 2000) ≤ 15 * Q * (V + 2000) := Int.mul_le_mul_of_nonneg_right hQg.2 (by omega)
    have a2 : Q * g * (Q * g * (V + 2000)) ≤ 15 * Q * (15 * Q * (V + 2000)) := Int.mul_le_mul hQg.2 a1 (Int.mul_nonneg (by omega) (by omega)) (by omega)
    omega
  · dsimp only
    refine ⟨?_, by rw [if_neg (by omega), if_neg (by omega)]⟩
    funext i
    rw [if_neg (by omega)]
    exact congrFun (hcol j (by omega)) i
  · funext i
    dsimp only
    rw [if_neg (by omega)]
    exact congrFun hM1 i
  · dsimp only
    rw [if_pos ⟨hj2', hj1', hj3'⟩]
    rfl
