/-! the calm share is found -/
def calmE (s : zS) (n : Nat) (x : Nat → Rat) : Prop := ∀ r, r < n → s.2 (33 + r) 0 = n64 (x r).num ∧ s.2 (33 + r) 1 = n64 ((x r).den : Int)
def ratS (q : Rat) : Prop := q.num.natAbs ≤ 1000000000000 ∧ q.den ≤ 10000000
def calmOk (n : Nat) (v : Nat → Int) (x : Nat → Rat) : Prop := xS x (2 ^ n - 1) = (v (2 ^ n - 1) : Rat) ∧ (∀ r, r < n → ratS (x r)) ∧ (∀ G : Nat → Prop, G (2 ^ n - 1) → dcG n v x G) ∧ ∀ S, cNm n S → (v S : Rat) - xS x S ≤ 2000
/-- the strain of it -/
def strOk (n : Nat) (v : Nat → Int) (x : Nat → Rat) (E : Rat) : Prop := ratS E ∧ (∀ S, cNm n S → (v S : Rat) - xS x S ≤ E) ∧ ∃ S, cNm n S ∧ (v S : Rat) - xS x S = E
/-- what is kept of it -/
def calmK (s : zS) (n : Nat) (v : Nat → Int) : Prop := s.1 4 4 = 0 ∨ ∃ x, calmE s n x ∧ calmOk n v x ∧ (2 ≤ n → ∃ E, lvP s E ∧ strOk n v x E)
theorem zT32 : ∀ r : Nat, r < 4 → zT 32 (n32 (r : Int)) = 33 + r := by decide
theorem zshp33 : ∀ r : Nat, r < 4 → zshp (33 + r) = (0, 2, [1, 1]) := by decide
theorem lp134 {n R C : Nat} {rs cs : Nat → Nat} {cell : Nat → Nat → Int} {x : Nat → Rat} (hn : n ≤ 4) (hR : n ≤ R) (hx : ∀ r, r < n → (0 < cell r 0 ∧ cell r 0 ≤ 10000000) ∧ (-1000000000000 ≤ cell r 1 ∧ cell r 1 ≤ 1000000000000) ∧ x r = (cell r 1 : Rat) / (cell r 0 : Rat)) : ∀ m f k s, k + m = n → m < f → s.1 2 0 = n32 (n : Int) → bEnc s R C rs cs cell → calmE s k x →
    ∃ s', D_X3_findCalm_L134 f (n32 (k : Int)) s = some s' ∧ kFrm s s' ∧ calmE s' n x ∧ s'.2 37 = s.2 37 := by
  intro m
  induction m with
  | zero =>
    intro f k s hk hf h2 he hc
    obtain ⟨f, rfl⟩ : ∃ t, f = t + 1 := ⟨f - 1, by omega⟩
    obtain rfl : k = n := by omega
    refine ⟨zwI s 4 4 1, ?_, ⟨fun c j _ _ _ h4 => by rw [zwI_at, if_neg (fun q => h4 q.1 q.2)], fun _ _ _ => rfl⟩, hc, rfl⟩
    rw [D_X3_findCalm_L134_s]
    unfold D_X3_findCalm_B134
    rw [h2, zif_t (Int32.le_refl _)]
  | succ m ih =>
    intro f k s hk hf h2 he hc
    obtain ⟨f, rfl⟩ : ∃ t, f = t + 1 := ⟨f - 1, by omega⟩
    obtain ⟨h3, h4, h5⟩ := hx k (by omega)
    rw [D_X3_findCalm_L134_s]
    unfold D_X3_findCalm_B134
    rw [h2, zif_f (by rw [c32_le (by omega) (by omega)]; omega), zgd_t (czin (by omega) (by omega)), b_const he (by omega), zbs, b_below he (by omega), zbs, zT32 k (by omega), zgd_t (zshp33 k (by omega)), f8_put (zshp33 k (by omega)) h3.1 (by omega) (by omega), zbs, ← h5, nsuc]
    obtain ⟨s2, e2, f2, g2, k2⟩ := ih f (k + 1) (zwL (zwL s (33 + k) 0 (n64 (x k).num)) (33 + k) 1 (n64 ((x k).den : Int))) (by omega) (by omega) h2 (bEnc_I he rfl (fun r hr i hi => by
      have hR20 := he.1
      rw [zwL_at, if_neg (fun q => by have := q.1; omega), zwL_at, if_neg (fun q => by have := q.1; omega)]
      exact he.2.2.2.2.2.2.1 r hr i hi)) (fun r hr => by
      simp only [zwL_at]
      by_cases e : r = k
      · subst e
        refine ⟨?_, ?_⟩
        · rw [if_neg (fun q => by have := q.2; omega), if_pos (And.intro rfl trivial)]
        · rw [if_pos (And.intro rfl trivial)]
      · have := hc r (by omega)
        refine ⟨?_, ?_⟩
        · rw [if_neg (by omega), if_neg (by omega)]; exact this.1
        · rw [if_neg (by omega), if_neg (by omega)]; exact this.2)
    refine ⟨s2, e2, kFrm_t ?_ f2, g2, ?_⟩
    · refine ⟨fun _ _ _ _ _ _ => rfl, fun c j h => ?_⟩
      rw [zwL_at, if_neg (fun q => by have := q.1; omega), zwL_at, if_neg (fun q => by have := q.1; omega)]
    · rw [k2]
      funext j
      rw [zwL_at, if_neg (fun q => by have := q.1; omega), zwL_at, if_neg (fun q => by have := q.1; omega)]
theorem enterAll0 {s : zS} (h : s.1 8 4 = n32 ((0 : Nat) : Int)) : D_X0_enterAll s = some s := by
  unfold D_X0_enterAll
  obtain ⟨g, hg⟩ : ∃ t, zFU = t + 1 := ⟨zFU - 1, by have := zFU_lt (k := 0) (by omega); omega⟩
  rw [hg, D_X0_enterAll_L2_s]
  unfold D_X0_enterAll_B2
  rw [h, zif_t (by decide)]
theorem find_calm {s : zS} {n : Nat} {v : Nat → Int} (hw : wOk s n v) (hk : calmK s n v) : ∃ s' x, D_X3_findCalm s = some s' ∧ kFrm s s' ∧ wOk s' n v ∧ calmE s' n x ∧ calmOk n v x ∧ (2 ≤ n → ∃ E, lvP s' E ∧ strOk n v x E) := by
  obtain ⟨w1, w2, w3, w4, w5⟩ := id hw
  have hp := pow_le4 w3
  have hwk : ∀ s', kFrm s s' → wOk s' n v := fun s' f => ⟨by rw [f.1 2 0 (by omega) (by omega) (by omega) (by omega)]; exact w1, w2, w3, fun S hS => by rw [f.1 3 S (by omega) (by omega) (by omega) (by omega)]; exact w4 S hS, w5⟩
  unfold D_X3_findCalm
  by_cases h44 : s.1 4 4 = 0
  · rw [zif_t h44]
    by_cases hn2 : 2 ≤ n
    · have h4n : 4 ≤ 2 ^ n := by
        have := Nat.pow_le_pow_right (show 0 < 2 by omega) hn2
        omega
      obtain ⟨b, s1, s2, rs, cs, cell, e1, e2, f2, hbb, hPS⟩ := calm_start hw hn2
      obtain ⟨s3, Fz', tf', E', rs', cs', cell', Q', V', x, e3, f3, hPS', ⟨hQ', hV1, hV2⟩, hlp, hxr, -, hst⟩ := lp26 w5 hn2 w3 hbb (n - 1) (by omega) zFU 0 s2 (f0z n) (fun _ => (v (2 ^ n - 1) : Rat)) (b : Rat) rs cs cell 1 5000 1 (by omega) (zFU_lt (by omega)) hPS (by omega) (by decide) (by omega) (Or.inr ⟨rfl, rfl, rfl⟩)
      obtain ⟨E1, l1, l2, l3, l4⟩ := hst rfl (by omega)
      have hNF : ∀ S, cNm n S → NF n (f0z n) (fun _ => (v (2 ^ n - 1) : Rat)) S := fun S hS => ⟨hS, fun hf => by
        have hS2 : S < 2 ^ n := by have := hS.2; omega
        -- move something from a side within to one without
        obtain ⟨i, hi, hbi⟩ : ∃ i, i < n ∧ hb S i = 1 := by
          refine Classical.byContradiction fun hno => ?_
          have h0 : ∀ i, i < 4 → hb S i = 0 := fun i hi => by
            by_cases e : i < n
            · exact (hb_01 S i).elim id (fun q => absurd ⟨i, e, q⟩ hno)
            · exact hb_z hS2 (by omega)
          have := bits_pos S (by omega) (by have := hS.1; omega)
          rw [h0 0 (by omega), h0 1 (by omega), h0 2 (by omega), h0 3 (by omega)] at this
          omega
        obtain ⟨k, hk, hbk⟩ : ∃ k, k < n ∧ hb S k = 0 := by
          refine Classical.byContradiction fun hno => ?_
          have hall : ∀ i, i < n → hb S i = 1 := fun i hi => (hb_01 S i).elim (fun q => absurd ⟨i, hi, q⟩ hno) id
          have hc := bits_pos (2 ^ n - 1 - S) (by omega) (by have := hS.2; omega)
          have h0 : ∀ i, i < 4 → hb (2 ^ n - 1 - S) i = 0 := fun i hi => by
            have h1 := hb_compl n (by omega) S hS2 i hi
            by_cases e : i < n
            · have := hall i e
              have := hb_01 (2 ^ n - 1) i
              omega
            · have := hb_z (n := n) (i := i) (show 2 ^ n - 1 < 2 ^ n by omega) (by omega)
              omega
          rw [h0 0 (by omega), h0 1 (by omega), h0 2 (by omega), h0 3 (by omega)] at hc
          omega
        have hik : i ≠ k := fun q => by rw [q] at hbi; omega
        have hz : ∀ T, xS (fun j => if j = i then 1 else if j = k then -1 else 0) T = (((hb T i : Nat) : Int) : Rat) - (((hb T k : Nat) : Int) : Rat) := fun T => by
          have hi4 : i < 4 := by omega
          have hk4 : k < 4 := by omega
          unfold xS
          match i, k, hi4, hk4, hik with
          | 0, 1, _, _, _ | 0, 2, _, _, _ | 0, 3, _, _, _ | 1, 0, _, _, _ | 1, 2, _, _, _ | 1, 3, _, _, _ | 2, 0, _, _, _ | 2, 1, _, _, _ | 2, 3, _, _, _ | 3, 0, _, _, _ | 3, 1, _, _, _ | 3, 2, _, _, _ => simp <;> grind
          | 0, 0, _, _, h | 1, 1, _, _, h | 2, 2, _, _, h | 3, 3, _, _, h => exact absurd rfl h
          | i + 4, _, h, _, _ => omega
          | _, k + 4, _, h, _ => omega
        have hNi := hb_compl n (by omega) 0 (by omega) i (by omega)
        have hall1 : ∀ j, j < n → hb (2 ^ n - 1) j = 1 := fun j hj => by
          have h : ∀ n, n < 5 → ∀ i, i < 4 → hb (2 ^ n - 1) i = if i < n then 1 else 0 := by decide +kernel
          rw [h n (by omega) j (by omega), if_pos hj]
        have h1 := hf (fun j => x j + 1 * (if j = i then 1 else if j = k then -1 else 0)) x (fun F hF => by
          rw [xS_add, hz, hlp.1 F hF]
          have hF' : F = 2 ^ n - 1 := hF
          rw [hF', hall1 i hi, hall1 k hk]; grind) hlp.1
        rw [xS_add, hz, hbi, hbk] at h1
        have c1 : (((1 : Nat) : Int) : Rat) = 1 := rfl
        have c0 : (((0 : Nat) : Int) : Rat) = 0 := rfl
        rw [c1, c0] at h1
        grind⟩
      obtain ⟨idr, idc, vr, kr, M, kM, j1, hI, -⟩ := id hPS'
      have hbE := hI.1
      have hcx : ∀ r, r < n → (0 < cell' r 0 ∧ cell' r 0 ≤ 10000000) ∧ (-1000000000000 ≤ cell' r 1 ∧ cell' r 1 ≤ 1000000000000) ∧ x r = (cell' r 1 : Rat) / (cell' r 0 : Rat) := fun r hr => by
        have h1 := hI.2.1.1 r (by omega)
        have h2 := hI.2.2.2.1 r (by omega)
        have hQ1 := hI.2.2.2.2.1
        have a1 : Q' * V' ≤ 216000 * 17000 := Int.mul_le_mul hQ' hV2 (by omega) (by omega)
        have hpos := rat_pos h1
        have hne : (cell' r 0 : Rat) ≠ 0 := fun e => by rw [e] at hpos; exact absurd hpos (by decide)
        refine ⟨⟨h1, by omega⟩, ⟨by omega, by omega⟩, ?_⟩
        refine rat_cancel hne ?_
        rw [hxr r hr, Rat.mul_comm, Rat.div_mul_cancel hne]
      obtain ⟨s4, e4, f4, g4, k4⟩ := lp134 w3 (by omega) hcx n zFU 0 s3 (by omega) (zFU_lt (by omega)) (hwk s3 (kFrm_t (kFrm_b f2) f3)).1 hbE (fun r hr => by omega)
      have hfr := kFrm_t (kFrm_b f2) (kFrm_t f3 f4)
      refine ⟨s4, x, ?_, hfr, hwk s4 hfr, g4, ⟨hlp.1 _ rfl, fun r hr => ?_, fun G hG => hlp.2.2 G (fun F hF => ?_), fun S hS => Rat.le_trans (hlp.2.1 S (hNF S hS)) (show (b : Rat) ≤ ((2000 : Int) : Rat) from Rat.intCast_le_intCast.mpr hbb.2)⟩, fun _ => ⟨E1, ⟨by rw [k4]; exact l1.1, by rw [k4]; exact l1.2⟩, l2, fun S hS => l3 S (hNF S hS), ?_⟩⟩
      · rw [e1, zbs]
        dsimp only
        rw [e2, zbs]
        have e3' : D_X3_findCalm_L26 (n32 b) zFU (1 : Int32) (0 : Int32) s2 = D_X3_findCalm_J131 s3 := e3
        rw [e3']
        unfold D_X3_findCalm_J131
        exact e4
      · obtain ⟨q1, q2, q3⟩ := hcx r hr
        have := rat_bd2 (a := cell' r 1) q1.1
        rw [← q3] at this
        unfold ratS
        omega
      · have hF' : F = 2 ^ n - 1 := hF
        intro z hz
        rw [hF']; exact hz _ hG
      · obtain ⟨S, hS, h⟩ := l4
        exact ⟨S, hS.1, h⟩
    · obtain rfl : n = 1 := by omega
      obtain ⟨b, s1, e1, f1, g1, gc⟩ := lay_whole hw
      have hvN := w5 1 (by omega)
      have hrow : whT 1 v b 0 = rWhK 0 1 1 (v 1) 0 := by unfold whT; rw [if_pos (by omega)]
      have hh : hb 1 0 = 1 := rfl
      have hcx : ∀ r, r < 1 → (0 < whT 1 v b r 0 ∧ whT 1 v b r 0 ≤ 10000000) ∧ (-1000000000000 ≤ whT 1 v b r 1 ∧ whT 1 v b r 1 ≤ 1000000000000) ∧ (fun _ : Nat => (v 1 : Rat)) r = (whT 1 v b r 1 : Rat) / (whT 1 v b r 0 : Rat) := fun r hr => by
        obtain rfl : r = 0 := by omega
        rw [hrow]
        have k0 : rWhK 0 1 1 (v 1) 0 0 = 1 := rfl
        have k1 : rWhK 0 1 1 (v 1) 0 1 = v 1 := by
          unfold rWhK
          rw [if_neg (by omega), if_pos rfl, show 1 - 1 = 0 from rfl, hh]; omega
        rw [k0, k1]
        refine ⟨by omega, by omega, ?_⟩
        dsimp only
        rw [Rat.intCast_one]; grind
      obtain ⟨s4, e4, f4, g4, k4⟩ := lp134 (x := fun _ => (v 1 : Rat)) (by omega) (by omega) hcx 1 zFU 0 s1 (by omega) (zFU_lt (by omega)) (wOk_f hw f1).1 g1 (fun r hr => by omega)
      have hfr := kFrm_t (kFrm_b f1) f4
      refine ⟨s4, fun _ => (v 1 : Rat), ?_, hfr, hwk s4 hfr, g4, ⟨?_, fun r _ => ?_, fun G _ => Or.inl (fun S hS => ?_), fun S hS => by have := hS.1; have := hS.2; omega⟩, fun h => by omega⟩
      · rw [e1, zbs]
        dsimp only
        rw [enterAll0 g1.2.2.2.1, zbs]
        obtain ⟨g, hg⟩ : ∃ t, zFU = t + 1 := ⟨zFU - 1, by have := zFU_lt (k := 0) (by omega); omega⟩
        have hg' : D_X3_findCalm_L26 (n32 b) zFU (1 : Int32) (0 : Int32) s1 = D_X3_findCalm_J131 s1 := by
          rw [hg, D_X3_findCalm_L26_s]
          unfold D_X3_findCalm_B26
          rw [zif_f (by decide), g1.2.2.2.1, zif_t (by decide)]
        rw [hg']
        unfold D_X3_findCalm_J131
        exact e4
      · rw [xS_all w3]
        simp only [zsum]
        grind
      · show ((v 1 : Rat)).num.natAbs ≤ _ ∧ ((v 1 : Rat)).den ≤ _
        rw [Rat.num_intCast, Rat.den_intCast]; omega
      · have := hS.1; have := hS.2; omega
  · rw [zif_f h44]
    rcases hk with h | ⟨x, h1, h2, h3⟩
    · exact absurd h h44
    · exact ⟨s, x, rfl, kFrm_r s, hw, h1, h2, h3⟩
