/-! is a set free: the answer -/
section IG
variable {m n : Nat}
def fBd : Nat → Int
  | 0 => 1
  | j + 1 => 2 * (fBd j * fBd j)
theorem fBd_pos : ∀ j, 1 ≤ fBd j
  | 0 => by decide
  | j + 1 => by
    have h := fBd_pos j
    have : 1 * 1 ≤ fBd j * fBd j := Int.mul_le_mul h h (by omega) (by omega)
    rw [fBd]; omega
theorem fBd_mono (j : Nat) : fBd j ≤ fBd (j + 1) := by
  have h := fBd_pos j
  have : fBd j * 1 ≤ fBd j * fBd j := Int.mul_le_mul_of_nonneg_left h (by omega)
  rw [fBd]; omega
theorem fBd4 : ∀ j, j < 5 → fBd j ≤ 32768 := by decide
/-- the elimination's invariant -/
def iIv (m n k j : Nat) (o A : Nat → Nat → Int) : Prop :=
  (linI (m + 1) n (fun r c => (o r c : Rat)) ↔ linI (m + 1) n (fun r c => (A r c : Rat))) ∧ (∀ r, r ≤ m → ∀ c, c < 4 → -fBd j ≤ A r c ∧ A r c ≤ fBd j) ∧
  (∃ pc : Nat → Nat, ∀ r, r < k → pc r < j ∧ A r (pc r) ≠ 0 ∧ ∀ r', r < r' → r' ≤ m → A r' (pc r) = 0) ∧ ∀ r, k ≤ r → r ≤ m → ∀ c, c < j → A r c = 0
theorem iIv_skip {k j : Nat} {o A : Nat → Nat → Int} (h : iIv m n k j o A) (hz : ∀ r, k ≤ r → r ≤ m → A r j = 0) : iIv m n k (j + 1) o A := by
  obtain ⟨h1, h2, ⟨pc, h3⟩, h4⟩ := h
  have := fBd_mono j
  refine ⟨h1, fun r hr c hc => by have := h2 r hr c hc; omega, ⟨pc, fun r hr => ⟨by have := (h3 r hr).1; omega, (h3 r hr).2⟩⟩, fun r hr1 hr2 c hc => ?_⟩
  by_cases e : c = j
  · rw [e]; exact hz r hr1 hr2
  · exact h4 r hr1 hr2 c (by omega)
theorem iIv_step {k j p : Nat} {o A : Nat → Nat → Int} (h : iIv m n k j o A) (hj : j < n) (hn : n ≤ 4) (hkp : k ≤ p) (hp : p ≤ m) (hA : A p j ≠ 0) : iIv m n (k + 1) (j + 1) o (clrZ k j (fun r c => A (zswp k p r) c)) := by
  obtain ⟨h1, h2, ⟨pc, h3⟩, h4⟩ := h
  have hsk : zswp k p k = p := by unfold zswp; rw [if_pos rfl]
  have hsm : ∀ r, r ≤ m → zswp k p r ≤ m := fun r hr => by unfold zswp; (repeat' split) <;> omega
  have hsl : ∀ r, r < k → zswp k p r = r := fun r hr => zswp_fix (by omega) (by omega)
  have hsg : ∀ r, k ≤ r → k ≤ zswp k p r := fun r hr => by unfold zswp; (repeat' split) <;> omega
  have hp1 := fBd_pos j
  refine ⟨?_, fun r hr c hc => ?_, ⟨fun r => if r = k then j else pc r, fun r hr => ?_⟩, fun r hr1 hr2 c hc => ?_⟩
  · rw [h1, ← linI_swp' (k := m + 1) (x := k) (y := p) (a := fun r c => (A r c : Rat)) (by omega) (by omega), ← linI_clr (k := k) (p := (A p j : Rat)) (f := fun r => (A (zswp k p r) j : Rat)) (by omega) (fun e => hA (ratInt_inj (by rw [e]; rfl)))]
    have e : clrR k (A p j : Rat) (fun r => (A (zswp k p r) j : Rat)) (fun r c => (A (zswp k p r) c : Rat)) = fun r c => ((clrZ k j (fun r c => A (zswp k p r) c) r c : Int) : Rat) := by
      funext r c
      unfold clrR clrZ
      by_cases q : k < r
      · rw [if_pos q, if_pos q]
        dsimp only
        rw [hsk]
        push_cast
        grind
      · rw [if_neg q, if_neg q]
    rw [e]
  · unfold clrZ
    have b1 := h2 _ (hsm r hr) c hc
    have b2 := h2 p hp j (by omega)
    have b3 := h2 p hp c hc
    have b4 := h2 _ (hsm r hr) j (by omega)
    have hm := fBd_mono j
    by_cases q : k < r
    · rw [if_pos q]
      dsimp only
      rw [hsk]
      have m1 := abs_mul b1.1 b1.2 b2.1 b2.2
      have m2 := abs_mul b3.1 b3.2 b4.1 b4.2
      rw [fBd]; omega
    · rw [if_neg q]
      dsimp only
      omega
  · dsimp only
    by_cases e : r = k
    · subst e
      rw [if_pos rfl]
      refine ⟨by omega, ?_, fun r' hr1 hr2 => ?_⟩
      · unfold clrZ
        rw [if_neg (Nat.lt_irrefl _)]
        dsimp only
        rw [hsk]; exact hA
      · unfold clrZ
        rw [if_pos hr1]
        dsimp only
        rw [Int.mul_comm]; omega
    · rw [if_neg e]
      obtain ⟨k1, k2, k3⟩ := h3 r (by omega)
      refine ⟨by omega, ?_, fun r' hr1 hr2 => ?_⟩
      · unfold clrZ
        rw [if_neg (by omega)]
        dsimp only
        rw [hsl r (by omega)]; exact k2
      · have hz : ∀ q, r < q → q ≤ m → A (zswp k p q) (pc r) = 0 := fun q hq1 hq2 => by
          refine k3 _ ?_ (hsm q hq2)
          by_cases e2 : q < k
          · rw [hsl q e2]; exact hq1
          · have := hsg q (by omega); omega
        unfold clrZ
        by_cases q : k < r'
        · rw [if_pos q]
          dsimp only
          rw [hz r' hr1 hr2, hz k (by omega) (by omega)]; simp
        · rw [if_neg q]
          exact hz r' hr1 hr2
  · have hz : ∀ q, k ≤ q → q ≤ m → ∀ c, c < j → A (zswp k p q) c = 0 := fun q hq1 hq2 c hc => h4 _ (hsg q hq1) (hsm q hq2) c hc
    unfold clrZ
    rw [if_pos (by omega)]
    dsimp only
    by_cases e : c = j
    · rw [e, Int.mul_comm]; omega
    · rw [hz r (by omega) hr2 c (by omega), hz k (Nat.le_refl _) (by omega) c (by omega)]; simp
theorem if90 {k j : Nat} {o A : Nat → Nat → Int} {rec79 : Int32 → Int32 → zS → Option (Int32 × zS)} {s : zS} (hm : m ≤ 4) (hn : n ≤ 4) (hj : j < n) (h23 : s.1 66 23 = n32 (m : Int)) (h : iIv m n k j o A) (he : iE s m A) : ∀ d fu p, p + d = m + 1 → k ≤ p → d < fu → (∀ r, k ≤ r → r < p → A r j = 0) →
    ∃ (s' : zS) (k' : Nat) (A' : Nat → Nat → Int), D_X9_isFree_L90 rec79 s (n32 (k : Int)) (n32 (j : Int)) fu (n32 (p : Int)) = rec79 (n32 (k' : Int)) (n32 ((j + 1 : Nat) : Int)) s' ∧ jFrm s s' ∧ iE s' m A' ∧ iIv m n k' (j + 1) o A' ∧ k' ≤ m + 1 := by
  intro d
  induction d with
  | zero =>
    intro fu p hp hkp hf hz
    obtain ⟨fu, rfl⟩ : ∃ t, fu = t + 1 := ⟨fu - 1, by omega⟩
    refine ⟨s, k, A, ?_, jFrm_r s, he, iIv_skip h (fun r h1 h2 => hz r h1 (by omega)), by omega⟩
    rw [D_X9_isFree_L90_s]
    unfold D_X9_isFree_B90 D_X9_isFree_J121
    rw [h23, zif_t (by rw [c32_lt (by omega) (by omega)]; omega), zif_t (by rw [c32_lt (by omega) (by omega)]; omega), nsuc]
  | succ d ih =>
    intro fu p hp hkp hf hz
    obtain ⟨fu, rfl⟩ : ∃ t, fu = t + 1 := ⟨fu - 1, by omega⟩
    have hb := h.2.1 p (by omega) j (by omega)
    have h4 := fBd4 j (by omega)
    rw [D_X9_isFree_L90_s]
    unfold D_X9_isFree_B90
    rw [h23, zif_f (by rw [c32_lt (by omega) (by omega)]; omega), ix4, zgd_t (czin (by omega) (by omega)), n32_xn (by omega), he p (by omega) j (by omega)]
    by_cases e : A p j = 0
    · rw [zif_t (by rw [l64_0, lgc_eq (by omega) (by omega) (by omega) (by omega)]; exact e), nsuc]
      exact ih fu (p + 1) (by omega) (by omega) (by omega) (fun r h1 h2 => by
        by_cases e2 : r = p
        · rw [e2]; exact e
        · exact hz r h1 (by omega))
    · rw [zif_f (by rw [l64_0, lgc_eq (by omega) (by omega) (by omega) (by omega)]; exact e)]
      unfold D_X9_isFree_J121
      rw [h23, zif_f (by rw [c32_lt (by omega) (by omega)]; omega)]
      obtain ⟨s1, e1, f1, g1⟩ := if133 (A := A) (rec79 := rec79) (k := k) (j := j) hm (show p ≤ m by omega) (by omega) 4 zFU 0 s (by omega) (zFU_lt (by omega)) (iE_ext he (fun r' hr' c' hc' => by rw [if_neg (by omega)]))
      have e1' : D_X9_isFree_L133 rec79 (n32 (k : Int)) (n32 (j : Int)) (n32 (p : Int)) zFU (0 : Int32) s = D_X9_isFree_L200 rec79 (n32 (k : Int)) (n32 (j : Int)) zFU (n32 ((k + 1 : Nat) : Int)) s1 := e1
      rw [e1']
      obtain ⟨s2, e2, f2, g2⟩ := if200 (A := fun r' c' => A (zswp k p r') c') (rec79 := rec79) (k := k) (j := j) hm (by omega) (by omega) (m - k) zFU (k + 1) s1 (by omega) (by omega) (zFU_lt (by omega)) (by rw [f1.1]; exact h23) (iE_ext g1 (fun r' hr' c' hc' => by rw [if_neg (by omega)]))
      exact ⟨s2, k + 1, _, e2, jFrm_t f1 f2, g2, iIv_step h hj hn hkp (by omega) e, by omega⟩
theorem if79 {o : Nat → Nat → Int} (hm : m ≤ 4) (hn : n ≤ 4) : ∀ d fu k j s A, j + d = n → d < fu → k ≤ m + 1 → s.1 66 0 = n32 (n : Int) → s.1 66 23 = n32 (m : Int) → iIv m n k j o A → iE s m A →
    ∃ s', jFrm s s' ∧ ((D_X9_isFree_L79 fu (n32 (k : Int)) (n32 (j : Int)) s = some (1, s') ∧ linI (m + 1) n (fun r c => (o r c : Rat))) ∨ (D_X9_isFree_L79 fu (n32 (k : Int)) (n32 (j : Int)) s = some (0, s') ∧ ¬ linI (m + 1) n (fun r c => (o r c : Rat)))) := by
  intro d
  induction d with
  | zero =>
    intro fu k j s A hj hf hk h0 h23 h he
    obtain ⟨fu, rfl⟩ : ∃ t, fu = t + 1 := ⟨fu - 1, by omega⟩
    obtain rfl : j = n := by omega
    refine ⟨s, jFrm_r s, ?_⟩
    rw [D_X9_isFree_L79_s]
    unfold D_X9_isFree_B79
    rw [h0, h23, zif_t (Int32.le_refl _), show n32 (m : Int) + (1 : Int32) = n32 ((m + 1 : Nat) : Int) from nsuc m]
    obtain ⟨h1, h2, ⟨pc, h3⟩, h4⟩ := h
    by_cases e : k = m + 1
    · left
      refine ⟨by rw [zif_t (by rw [e])], h1.mpr (linI_tri (pc := pc) (fun r hr => ⟨(h3 r (by omega)).1, fun q => (h3 r (by omega)).2.1 (ratInt_inj (by rw [q]; rfl))⟩) (fun r r' hr hr' => by rw [(h3 r (by omega)).2.2 r' hr (by omega)]; rfl))⟩
    · right
      refine ⟨by rw [zif_f (by rw [n32_eq (by omega) (by omega) (by omega) (by omega)]; omega)], fun hl => ?_⟩
      have := h1.mp hl (fun r => if r = m then 1 else 0) (fun c hc => by
        rw [zsum_single (c := m) (by omega) (fun r hr hne => by rw [if_neg hne]; grind), if_pos rfl]
        dsimp only
        rw [h4 m (by omega) (Nat.le_refl _) c hc]; simp) m (by omega)
      rw [if_pos rfl] at this
      exact absurd this (by decide)
  | succ d ih =>
    intro fu k j s A hj hf hk h0 h23 h he
    obtain ⟨fu, rfl⟩ : ∃ t, fu = t + 1 := ⟨fu - 1, by omega⟩
    rw [D_X9_isFree_L79_s]
    unfold D_X9_isFree_B79
    rw [h0, zif_f (by rw [c32_le (by omega) (by omega)]; omega)]
    obtain ⟨s1, k1, A1, e1, f1, g1, i1, hk1⟩ := if90 (rec79 := D_X9_isFree_L79 fu) hm hn (show j < n by omega) h23 h he (m + 1 - k) zFU k (by omega) (Nat.le_refl _) (zFU_lt (by omega)) (fun r h1 h2 => by omega)
    rw [e1]
    obtain ⟨s2, f2, r2⟩ := ih fu k1 (j + 1) s1 A1 (by omega) (by omega) hk1 (by rw [f1.1]; exact h0) (by rw [f1.1]; exact h23) i1 g1
    exact ⟨s2, jFrm_t f1 f2, r2⟩
/-- the rows laid -/
def gS (m : Nat) (g : Nat → Nat) (S r : Nat) : Nat := if r < m then g r else S
theorem if32 {r T : Nat} {o : Nat → Nat → Int} {rec2 : Int32 → zS → Option (Int32 × zS)} {a1 : Int32} (hT : T < 16) (hr : r ≤ 4) : ∀ d fu c s, c + d = 4 → d < fu → (∀ r', r' ≤ r → ∀ c', c' < 4 → (r' < r ∨ c' < c) → s.2 82 (4 * r' + c') = n64 (o r' c')) → (∀ c', c' < 4 → o r c' = (hb T c' : Int)) →
    ∃ s', D_X9_isFree_L32 rec2 a1 (n32 (r : Int)) (n32 (T : Int)) fu (n32 (c : Int)) s = rec2 (n32 ((r + 1 : Nat) : Int)) s' ∧ jFrm s s' ∧ ∀ r', r' ≤ r → ∀ c', c' < 4 → s'.2 82 (4 * r' + c') = n64 (o r' c') := by
  intro d
  induction d with
  | zero =>
    intro fu c s hc hf h ho
    obtain ⟨fu, rfl⟩ : ∃ t, fu = t + 1 := ⟨fu - 1, by omega⟩
    refine ⟨s, ?_, jFrm_r s, fun r' hr' c' hc' => h r' hr' c' hc' (Or.inr (by omega))⟩
    rw [D_X9_isFree_L32_s]
    unfold D_X9_isFree_B32
    rw [zif_t (by rw [l32_4, show n32 4 = n32 ((4 : Nat) : Int) from rfl, c32_le (by omega) (by omega)]; omega), nsuc]
  | succ d ih =>
    intro fu c s hc hf h ho
    obtain ⟨fu, rfl⟩ : ∃ t, fu = t + 1 := ⟨fu - 1, by omega⟩
    rw [D_X9_isFree_L32_s]
    unfold D_X9_isFree_B32 D_X9_isFree_J62
    rw [zif_f (by rw [l32_4, show n32 4 = n32 ((4 : Nat) : Int) from rfl, c32_le (by omega) (by omega)]; omega), x9_has T hT c (by omega), zbs, ix4, zgd_t (czin (by omega) (by omega)), zgd_t (czin (by omega) (by omega)), n32_xn (by omega), nsuc]
    have hnext : ∀ x : Int, x = (hb T c : Int) → ∃ s', D_X9_isFree_L32 rec2 a1 (n32 (r : Int)) (n32 (T : Int)) fu (n32 ((c + 1 : Nat) : Int)) (zwL s 82 (4 * r + c) (n64 x)) = rec2 (n32 ((r + 1 : Nat) : Int)) s' ∧ jFrm s s' ∧ ∀ r', r' ≤ r → ∀ c', c' < 4 → s'.2 82 (4 * r' + c') = n64 (o r' c') := fun x hx => by
      obtain ⟨s2, e2, f2, g2⟩ := ih fu (c + 1) (zwL s 82 (4 * r + c) (n64 x)) (by omega) (by omega) (fun r' hr' c' hc' hor => by
        rw [zwL_at]
        by_cases q : r' = r ∧ c' = c
        · rw [if_pos ⟨rfl, by omega⟩, q.1, q.2, ho c (by omega), hx]
        · rw [if_neg (fun y => q (by have := y.2; omega))]
          exact h r' hr' c' hc' (by omega)) ho
      exact ⟨s2, e2, jFrm_t (jFrm_w _ _ _) f2, g2⟩
    rcases hb_01 T c with e | e
    · rw [e, zif_t (by decide)]; exact hnext 0 (by rw [e]; rfl)
    · rw [e, zif_f (by decide)]; exact hnext 1 (by rw [e]; rfl)
theorem if2 {g : Nat → Nat} {S : Nat} (hm : m ≤ 4) (hg : ∀ e, e < m → g e < 16) (hS : S < 16) : ∀ d fu r s, r + d = m + 1 → d < fu → s.1 66 23 = n32 (m : Int) → (∀ e, e < m → s.1 79 e = n32 (g e : Int)) → (∀ r', r' < r → ∀ c', c' < 4 → s.2 82 (4 * r' + c') = n64 (hb (gS m g S r') c' : Int)) →
    ∃ s', D_X9_isFree_L2 (n32 (S : Int)) fu (n32 (r : Int)) s = D_X9_isFree_L79 zFU (0 : Int32) (0 : Int32) s' ∧ jFrm s s' ∧ iE s' m (fun r c => (hb (gS m g S r) c : Int)) := by
  intro d
  induction d with
  | zero =>
    intro fu r s hr hf h23 hgs h
    obtain ⟨fu, rfl⟩ : ∃ t, fu = t + 1 := ⟨fu - 1, by omega⟩
    refine ⟨s, ?_, jFrm_r s, fun r' hr' c' hc' => h r' (by omega) c' hc'⟩
    rw [D_X9_isFree_L2_s]
    unfold D_X9_isFree_B2
    rw [h23, zif_t (by rw [c32_lt (by omega) (by omega)]; omega)]
  | succ d ih =>
    intro fu r s hr hf h23 hgs h
    obtain ⟨fu, rfl⟩ : ∃ t, fu = t + 1 := ⟨fu - 1, by omega⟩
    rw [D_X9_isFree_L2_s]
    unfold D_X9_isFree_B2
    rw [h23, zif_f (by rw [c32_lt (by omega) (by omega)]; omega)]
    have hnext : ∀ T : Nat, T = gS m g S r → T < 16 → ∃ s', D_X9_isFree_J28 (D_X9_isFree_L2 (n32 (S : Int)) fu) s (n32 (S : Int)) (n32 (r : Int)) (n32 (T : Int)) = D_X9_isFree_L79 zFU (0 : Int32) (0 : Int32) s' ∧ jFrm s s' ∧ iE s' m (fun r c => (hb (gS m g S r) c : Int)) := fun T hT hT16 => by
      unfold D_X9_isFree_J28
      obtain ⟨s1, e1, f1, g1⟩ := if32 (o := fun r c => (hb (gS m g S r) c : Int)) (rec2 := D_X9_isFree_L2 (n32 (S : Int)) fu) (a1 := n32 (S : Int)) (r := r) hT16 (by omega) 4 zFU 0 s (by omega) (zFU_lt (by omega)) (fun r' hr' c' hc' hor => h r' (by omega) c' hc') (fun c' hc' => by rw [hT])
      have e1' : D_X9_isFree_L32 (D_X9_isFree_L2 (n32 (S : Int)) fu) (n32 (S : Int)) (n32 (r : Int)) (n32 (T : Int)) zFU (0 : Int32) s = D_X9_isFree_L2 (n32 (S : Int)) fu (n32 ((r + 1 : Nat) : Int)) s1 := e1
      rw [e1']
      obtain ⟨s2, e2, f2, g2⟩ := ih fu (r + 1) s1 (by omega) (by omega) (by rw [f1.1]; exact h23) (fun e he => by rw [f1.1]; exact hgs e he) (fun r' hr' c' hc' => g1 r' (by omega) c' hc')
      exact ⟨s2, e2, jFrm_t f1 f2, g2⟩
    by_cases e : r = m
    · rw [zif_t (by rw [e])]
      exact hnext S (by unfold gS; rw [if_neg (by omega)]) hS
    · rw [zif_f (by rw [n32_eq (by omega) (by omega) (by omega) (by omega)]; omega), zgd_t (czin (by omega) (by omega)), n32_xn (by omega), hgs r (by omega)]
      exact hnext (g r) (by unfold gS; rw [if_pos (by omega)]) (hg r (by omega))
/-- free: the fixed ones and it are independent -/
theorem isFree_is {s : zS} {g : Nat → Nat} {S : Nat} (hm : m ≤ 4) (hn : n ≤ 4) (hg : ∀ e, e < m → g e < 16) (hS : S < 16) (h0 : s.1 66 0 = n32 (n : Int)) (h23 : s.1 66 23 = n32 (m : Int)) (hgs : ∀ e, e < m → s.1 79 e = n32 (g e : Int)) :
    ∃ s', jFrm s s' ∧ ((D_X9_isFree s (n32 (S : Int)) = some (1, s') ∧ linI (m + 1) n (fun r c => ((hb (gS m g S r) c : Int) : Rat))) ∨ (D_X9_isFree s (n32 (S : Int)) = some (0, s') ∧ ¬ linI (m + 1) n (fun r c => ((hb (gS m g S r) c : Int) : Rat)))) := by
  obtain ⟨s1, e1, f1, g1⟩ := if2 hm hg hS (m + 1) zFU 0 s (by omega) (zFU_lt (by omega)) h23 hgs (fun r' hr' => by omega)
  obtain ⟨s2, f2, r2⟩ := if79 (o := fun r c => (hb (gS m g S r) c : Int)) hm hn n zFU 0 0 s1 _ (by omega) (zFU_lt (by omega)) (by omega) (by rw [f1.1]; exact h0) (by rw [f1.1]; exact h23) ⟨Iff.rfl, fun r hr c hc => by
      have := hb_01 (gS m g S r) c
      show -(1 : Int) ≤ _ ∧ _ ≤ (1 : Int)
      omega, ⟨fun _ => 0, fun r hr => by omega⟩, fun r _ _ c hc => by omega⟩ g1
  refine ⟨s2, jFrm_t f1 f2, ?_⟩
  have e1' : D_X9_isFree s (n32 (S : Int)) = D_X9_isFree_L79 zFU (n32 ((0 : Nat) : Int)) (n32 ((0 : Nat) : Int)) s1 := e1
  rw [e1']
  exact r2
theorem xS_zsum {S : Nat} {z : Nat → Rat} (hn : n ≤ 4) (hS : S < 2 ^ n) : xS z S = zsum n (fun j => (((hb S j : Nat) : Int) : Rat) * z j) := by
  have hz : ∀ i, n ≤ i → hb S i = 0 := fun i hi => hb_z hS hi
  unfold xS
  have hc : n = 0 ∨ n = 1 ∨ n = 2 ∨ n = 3 ∨ n = 4 := by omega
  rcases hc with rfl | rfl | rfl | rfl | rfl
  · rw [hz 0 (by omega), hz 1 (by omega), hz 2 (by omega), hz 3 (by omega)]; simp [zsum]; grind
  · rw [hz 1 (by omega), hz 2 (by omega), hz 3 (by omega)]; simp [zsum]; grind
  · rw [hz 2 (by omega), hz 3 (by omega)]; simp [zsum]; grind
  · rw [hz 3 (by omega)]; simp [zsum]; grind
  · simp only [zsum]; grind
/-- in words of directions -/
theorem free_dep {g : Nat → Nat} {S : Nat} (hn : n ≤ 4) (hg : ∀ e, e < m → g e < 2 ^ n) (hS : S < 2 ^ n) (hi : linI m n (fun r c => ((hb (g r) c : Int) : Rat))) : linI (m + 1) n (fun r c => ((hb (gS m g S r) c : Int) : Rat)) ↔ ¬ gDep (fun F => ∃ e, e < m ∧ g e = F) S := by
  have hgSm : gS m g S m = S := by unfold gS; rw [if_neg (by omega)]
  have hgSl : ∀ r, r < m → gS m g S r = g r := fun r hr => by unfold gS; rw [if_pos hr]
  constructor
  · intro h hd
    obtain ⟨z, hz⟩ := lin_V (m + 1) _ (fun r => if r = m then 1 else 0) h
    have h1 := hd z (fun F hF => by
      obtain ⟨e, he, rfl⟩ := hF
      have := hz e (by omega)
      rw [if_neg (by omega)] at this
      rw [xS_zsum hn (hg e he), ← this]
      exact zsum_congr n (fun j _ => by rw [hgSl e he]))
    have h2 := hz m (by omega)
    rw [if_pos rfl] at h2
    rw [xS_zsum hn hS] at h1
    rw [zsum_congr n (g := fun j => (((hb S j : Nat) : Int) : Rat) * z j) (fun j _ => by rw [hgSm]), h1] at h2
    exact absurd h2 (by decide)
  · intro hd
    refine Classical.byContradiction fun hno => hd ?_
    have hex : ∃ c : Nat → Rat, (∀ j, j < n → zsum (m + 1) (fun r => c r * ((hb (gS m g S r) j : Int) : Rat)) = 0) ∧ ¬ ∀ r, r < m + 1 → c r = 0 := by
      refine Classical.byContradiction fun q => hno (fun c hc => ?_)
      exact Classical.byContradiction fun q2 => q ⟨c, hc, q2⟩
    obtain ⟨c, hc1, hc2⟩ := hex
    have hsplit : ∀ j, j < n → zsum m (fun r => c r * ((hb (g r) j : Int) : Rat)) + c m * ((hb S j : Int) : Rat) = 0 := fun j hj => by
      have := hc1 j hj
      rw [zsum, hgSm, zsum_congr m (fun r hr => by rw [hgSl r hr])] at this
      exact this
    have hcm : c m ≠ 0 := fun e => hc2 (by
      have h1 := hi c (fun j hj => by have := hsplit j hj; rw [e] at this; grind)
      intro r hr
      by_cases e2 : r = m
      · rw [e2]; exact e
      · exact h1 r (by omega))
    intro z hz
    refine rat_cancel hcm ?_
    have h1 : zsum n (fun j => (zsum m (fun r => c r * ((hb (g r) j : Int) : Rat)) + c m * ((hb S j : Int) : Rat)) * z j) = 0 := zsum_zero n (fun j hj => by rw [hsplit j hj]; grind)
    have h2 : zsum n (fun j => (zsum m (fun r => c r * ((hb (g r) j : Int) : Rat)) + c m * ((hb S j : Int) : Rat)) * z j) = zsum n (fun j => zsum m (fun r => c r * (((hb (g r) j : Int) : Rat) * z j))) + c m * zsum n (fun j => ((hb S j : Int) : Rat) * z j) := by
      rw [← zsum_mul, ← zsum_add]
      refine zsum_congr n (fun j _ => ?_)
      have : zsum m (fun r => c r * (((hb (g r) j : Int) : Rat) * z j)) = zsum m (fun r => c r * ((hb (g r) j : Int) : Rat)) * z j := by
        rw [← zsum_mulr]; exact zsum_congr m (fun r _ => by grind)
      rw [this]; grind
    have h3 : zsum n (fun j => zsum m (fun r => c r * (((hb (g r) j : Int) : Rat) * z j))) = 0 := by
      rw [zsum_swap]
      refine zsum_zero m (fun r hr => ?_)
      rw [zsum_mul, ← xS_zsum hn (hg r hr), hz (g r) ⟨r, hr, rfl⟩]; grind
    rw [h2, h3, ← xS_zsum hn hS] at h1
    grind
end IG
