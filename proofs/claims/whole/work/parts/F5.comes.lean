/-! claims: all orders, by both -/
theorem nt_div {a b : Nat} (ha : a < 2147483648) (hb : b < 2147483648) : n32 (a : Int) / n32 (b : Int) = n32 ((a / b : Nat) : Int) := by
  rw [n32_div (by omega) (by omega) (by omega) (by omega)]; rfl
theorem nt_mod {a b : Nat} (ha : a < 2147483648) (hb : b < 2147483648) : n32 (a : Int) - n32 (a : Int) / n32 (b : Int) * n32 (b : Int) = n32 ((a % b : Nat) : Int) := by
  rw [n32_rem (by omega) (by omega) (by omega) (by omega)]; rfl
section CO
variable {s : zS} {m k : Nat} {C : Nat → Int} {E : Int}
/-- what is left when a set has come -/
def lfV (C : Nat → Int) (m : Nat) (E : Int) (S : Nat) : Int := if 0 < E - ldV C m S then E - ldV C m S else 0
def tkV (C : Nat → Int) (m : Nat) (E : Int) (k S : Nat) : Int := if lfV C m E S < C k then lfV C m E S else C k
theorem lf_bd (hc : cRel s m C E) {S : Nat} : 0 ≤ lfV C m E S ∧ lfV C m E S ≤ 6000 := by
  have h1 := tot_bd hc S
  have h2 := hc.2.2.2.2
  unfold lfV
  split <;> omega
theorem tk_bd (hc : cRel s m C E) (hk : k < m) {S : Nat} : 0 ≤ tkV C m E k S ∧ tkV C m E k S ≤ 1000 := by
  have h1 := lf_bd hc (S := S)
  have h2 := (hc.2.1 k hk).2.2
  unfold tkV
  split <;> omega
theorem c_claimed (hc : cRel s m C E) {S : Nat} (hS : S < 2 ^ m) : D_X1_claimedBy s (n32 (S : Int)) = some (n32 (ldV C m S)) := by
  have hm := hc.1.2.2
  have hp := pow_le8 (show m ≤ 8 by omega)
  rw [← ld_zit]
  refine zfold (lo := 0) (hi := m) (step := fun i (t : Int) => if S.testBit i then t + C i else t) (fin := fun t : Int => some (n32 t)) (fun f i t => D_X1_claimedBy_L4 s (n32 (S : Int)) f (n32 t) (n32 (i : Int))) (fun f i t _ hi => ?_) (fun f t => ?_) m zFU 0 0 (by omega) (by omega) (zFU_lt (by omega))
  · try dsimp only
    rw [D_X1_claimedBy_L4_s]
    unfold D_X1_claimedBy_B4
    rw [hc.1.1, zif_f (by rw [c32_le (by omega) (by omega)]; omega), x8_hasL S (by omega) i (by omega), in_ite, nsuc]
    cases S.testBit i
    · rw [if_neg (by decide), zi0]; rfl
    · rw [if_pos rfl, zi1, zgd_t (czin (by omega) (by omega)), n32_xn (by omega), (hc.2.1 i hi).1, n32_add]; rfl
  · try dsimp only
    rw [D_X1_claimedBy_L4_s]
    unfold D_X1_claimedBy_B4
    rw [hc.1.1, zif_t (Int32.le_refl _)]
def toF (C : Nat → Int) (m : Nat) (E : Int) (k S : Nat) : Int := if S.testBit k then 0 else ((facN (pc8 S) * facN (m - 1 - pc8 S) : Nat) : Int) * tkV C m E k S
theorem sI_zit {f : Nat → Int} : ∀ n : Nat, zit (fun i (t : Int) => t + f i) n 0 0 = sI f n := by
  intro n
  induction n with
  | zero => rfl
  | succ n ih => rw [zit_last, Nat.zero_add, ih, sI]
theorem c_taken (hc : cRel s m C E) (hk : k < m) : D_X1_takenInOrders s (n32 (k : Int)) = some (n32 (sI (toF C m E k) (2 ^ m))) := by
  have hm := hc.1.2.2
  have hp := pow_le8 (show m ≤ 8 by omega)
  rw [← sI_zit]
  refine zfold (lo := 0) (hi := 2 ^ m) (step := fun S (t : Int) => t + toF C m E k S) (fin := fun t : Int => some (n32 t)) (fun f S t => D_X1_takenInOrders_L4 s (n32 (k : Int)) f (n32 t) (n32 (S : Int))) (fun f S t _ hS => ?_) (fun f t => ?_) (2 ^ m) zFU 0 0 (by omega) (by omega) (zFU_lt (by omega))
  · have b1 := tot_bd hc S
    have b2 := hc.2.2.2.2
    have b3 := lf_bd hc (S := S)
    have b4 := (hc.2.1 k hk).2.2
    try dsimp only
    rw [D_X1_takenInOrders_L4_s]
    unfold D_X1_takenInOrders_B4 toF
    rw [hc.1.1, shlL m (by omega), zif_f (by rw [c32_le (by omega) (by omega)]; omega), x8_hasL S (by omega) k (by omega), in_ite, nsuc]
    cases q : S.testBit k
    · have hlt := pc8_lt m (by omega) S hS k hk q
      have hmx : zmax 0 (n32 E - n32 (ldV C m S)) = n32 (lfV C m E S) := by rw [l32_0, n32_sub, zmax_n (by omega) (by omega)]; rfl
      have hmn : zmin (n32 (C k)) (n32 (lfV C m E S)) = n32 (tkV C m E k S) := by rw [zmin_n (by omega) (by omega)]; rfl
      rw [if_neg (by decide), zi0, c_claimed hc hS, zbs, j6_pc8 S (by omega), zbs, c_behind hlt (by omega), zbs, zgd_t (czin (by omega) (by omega)), n32_xn (by omega), (hc.2.1 k hk).1, hc.2.2.1, hmx, hmn, n32_mul, n32_add, if_neg (by decide)]
    · rw [if_pos rfl, zi1, if_pos rfl, Int.add_zero]
  · try dsimp only
    rw [D_X1_takenInOrders_L4_s]
    unfold D_X1_takenInOrders_B4
    rw [hc.1.1, shlL m (by omega), zif_t (Int32.le_refl _)]
theorem to_bd (hc : cRel s m C E) (hk : k < m) : ∀ n : Nat, n ≤ 2 ^ m → 0 ≤ sI (toF C m E k) n ∧ sI (toF C m E k) n ≤ 144000 * (n : Int) := by
  have hm := hc.1.2.2
  have hp := pow_le8 (show m ≤ 8 by omega)
  have hfac : ∀ m : Nat, m < 7 → ∀ b : Nat, b < m → facN b * facN (m - 1 - b) ≤ 144 := by decide
  intro n
  induction n with
  | zero => intro _; simp [sI]
  | succ n ih =>
    intro hn
    have h1 := ih (by omega)
    have h2 := tk_bd hc hk (S := n)
    rw [sI]
    have h3 : 0 ≤ toF C m E k n ∧ toF C m E k n ≤ 144000 := by
      unfold toF
      cases q : n.testBit k
      · have hlt := pc8_lt m (by omega) n (by omega) k hk q
        have h4 := hfac m (by omega) (pc8 n) hlt
        have h5 := abs_mul (a := ((facN (pc8 n) * facN (m - 1 - pc8 n) : Nat) : Int)) (b := tkV C m E k n) (A := 144) (B := 1000) (by omega) (by omega) (by omega) h2.2
        have h6 := Int.mul_nonneg (show (0 : Int) ≤ ((facN (pc8 n) * facN (m - 1 - pc8 n) : Nat) : Int) by omega) h2.1
        rw [if_neg (by decide)]
        omega
      · rw [if_pos rfl]; omega
    omega
/-- the set of a number's first digits -/
def snN (m : Nat) : Nat → Nat → Nat → Nat
  | 0, t, _ => t
  | p + 1, t, a => snN m p (t ||| 2 ^ (a % m)) (a / m)
theorem sn_last : ∀ p t a : Nat, snN m (p + 1) t a = snN m p t a ||| 2 ^ (a / m ^ p % m) := by
  intro p
  induction p with
  | zero => intro t a; rw [snN, snN, snN, Nat.pow_zero, Nat.div_one]
  | succ p ih =>
    intro t a
    rw [snN, ih, snN, Nat.pow_succ, Nat.mul_comm (m ^ p) m, ← Nat.div_div_eq_div_mul]
theorem sn_ones (hm : 1 ≤ m) : ∀ p t a : Nat, onesV m (snN m p t a) ≤ onesV m t + (p : Int) ∧ (onesV m (snN m p t a) = onesV m t + (p : Int) ↔ pmB m p t a = true) := by
  intro p
  induction p with
  | zero => intro t a; rw [snN, pmB]; exact ⟨by omega, fun _ => rfl, fun _ => by omega⟩
  | succ p ih =>
    intro t a
    have hr : a % m < m := Nat.mod_lt _ hm
    obtain ⟨i1, i2⟩ := ih (t ||| 2 ^ (a % m)) (a / m)
    rw [snN, pmB]
    cases q : t.testBit (a % m)
    · have ho := ones_put hr q
      rw [Bool.not_false, Bool.true_and, ← i2]
      push_cast
      constructor
      · omega
      · omega
    · have ho : onesV m (t ||| 2 ^ (a % m)) = onesV m t := ld_congr m (fun i hi => by
        rw [or_bit]
        by_cases q2 : a % m = i
        · rw [← q2, q]; rfl
        · rw [decide_eq_false q2, Bool.or_false])
      rw [Bool.not_true, Bool.false_and]
      push_cast
      refine ⟨by omega, fun h => by omega, fun h => absurd h (by decide)⟩
theorem sn_lt (hm : 1 ≤ m) {t a : Nat} (ht : t < 2 ^ m) : ∀ p, snN m p t a < 2 ^ m := by
  intro p
  induction p with
  | zero => exact ht
  | succ p ih =>
    rw [sn_last]
    exact or_ltp ih (Nat.mod_lt _ hm)
/-- all cells but those of the order -/
def oFrm (s s' : zS) : Prop := (∀ c l, c ≠ 87 → s'.1 c l = s.1 c l) ∧ s'.2 = s.2
theorem oFrm_r (s : zS) : oFrm s s := ⟨fun _ _ _ => rfl, rfl⟩
theorem oFrm_t {s s' s'' : zS} (h : oFrm s s') (h' : oFrm s' s'') : oFrm s s'' := ⟨fun c l a => (h'.1 c l a).trans (h.1 c l a), h'.2.trans h.2⟩
theorem oFrm_fr {s s' : zS} (h : oFrm s s') (P : Nat → Prop) : fr P s s' := ⟨fun c l a _ => h.1 c l (fun q => a (by rw [q]; rfl)), fun c l _ _ => by rw [h.2]⟩
theorem cRel_o {s' : zS} (hc : cRel s m C E) (h : oFrm s s') : cRel s' m C E := cRel_f hc (oFrm_fr h (fun _ => False)) (fun q => q)
theorem r_co125 (hc : cRel s m C E) (hk : k < m) {code : Nat} (ho : ∀ p, p < m → s.1 87 p = n32 ((code / m ^ p % m : Nat) : Int)) {rec35 : Int64 → Int32 → zS → Option (Int64 × zS)} {a4 a5 : Int32} : ∀ (d f p : Nat) (x : Int), p + d = m → d < f → pmB m d (snN m p 0 code) (code / m ^ p) = true → D_X9_comes_L125 rec35 s (n32 (k : Int)) a4 a5 f (n64 x) (n32 (lfV C m E (snN m p 0 code))) (n32 (p : Int)) = rec35 (n64 (x + tkS m k (tkV C m E k) d (snN m p 0 code) (code / m ^ p))) (a5 + 1) s := by
  have hm := hc.1.2.2
  intro d
  induction d with
  | zero =>
    intro f p x hp hf _
    obtain ⟨f, rfl⟩ : ∃ t, f = t + 1 := ⟨f - 1, by omega⟩
    obtain rfl : p = m := by omega
    rw [D_X9_comes_L125_s]
    unfold D_X9_comes_B125
    rw [hc.1.2.1, zif_t (Int32.le_refl _), tkS, Int.add_zero]
  | succ d ih =>
    intro f p x hp hf hpm
    obtain ⟨f, rfl⟩ : ∃ t, f = t + 1 := ⟨f - 1, by omega⟩
    rw [pmB, Bool.and_eq_true] at hpm
    obtain ⟨hp1, hp2⟩ := hpm
    have hr : code / m ^ p % m < m := Nat.mod_lt _ (by omega)
    have hdv : code / m ^ p / m = code / m ^ (p + 1) := by rw [Nat.pow_succ, Nat.div_div_eq_div_mul]
    rw [← sn_last, hdv] at hp2
    have ih' := ih f (p + 1) (x + if code / m ^ p % m = k then tkV C m E k (snN m p 0 code) else 0) (by omega) (by omega) hp2
    rw [tkS, ← sn_last, hdv, ← Int.add_assoc]
    rw [← ih']
    have hop := ho p (by omega)
    have hcr := hc.2.1 _ hr
    have hl := lf_bd hc (S := snN m p 0 code)
    have hnb : (snN m p 0 code).testBit (code / m ^ p % m) = false := by simpa using hp1
    have hput : ldV C m (snN m (p + 1) 0 code) = ldV C m (snN m p 0 code) + C (code / m ^ p % m) := by rw [sn_last]; exact ld_put hr hnb
    have hlf : lfV C m E (snN m (p + 1) 0 code) = lfV C m E (snN m p 0 code) - tkV C m E (code / m ^ p % m) (snN m p 0 code) := by
      have := hcr.2.2
      unfold tkV lfV
      rw [hput]
      (repeat' split) <;> omega
    have h168 : ∀ t : Int, 0 ≤ t → t ≤ 6000 → t = tkV C m E (code / m ^ p % m) (snN m p 0 code) → D_X9_comes_J168 rec35 (D_X9_comes_L125 rec35 s (n32 (k : Int)) a4 a5 f) s (n32 (k : Int)) (n64 x) a4 a5 (n32 (lfV C m E (snN m p 0 code))) (n32 (p : Int)) (n32 t) = D_X9_comes_L125 rec35 s (n32 (k : Int)) a4 a5 f (n64 (x + if code / m ^ p % m = k then tkV C m E k (snN m p 0 code) else 0)) (n32 (lfV C m E (snN m (p + 1) 0 code))) (n32 ((p + 1 : Nat) : Int)) := fun t h0 h1 ht => by
      unfold D_X9_comes_J168 D_X9_comes_J196
      rw [zgd_t (czin (by omega) (by omega)), n32_xn (by omega), hop, n32_sub, nsuc, hlf, ← ht]
      by_cases q : code / m ^ p % m = k
      · rw [zif_t (by rw [q]), n32_64 (by omega) (by omega), n64_add, if_pos q, ht, q]
      · rw [zif_f (fun z => q (by have := (n32_eq (by omega) (by omega) (by omega) (by omega)).mp z; omega)), l64_0, n64_add, if_neg q]
    rw [D_X9_comes_L125_s]
    unfold D_X9_comes_B125
    rw [hc.1.2.1, zif_f (by rw [c32_le (by omega) (by omega)]; omega), zgd_t (czin (by omega) (by omega)), n32_xn (by omega), hop, zgd_t (czin (by omega) (by omega)), n32_xn (by omega), hcr.2.1]
    by_cases q : lfV C m E (snN m p 0 code) ≤ C (code / m ^ p % m)
    · rw [zif_t (by rw [n32_le (by omega) (by omega) (by omega) (by omega)]; omega)]
      exact h168 _ hl.1 hl.2 (by unfold tkV; split <;> omega)
    · rw [zif_f (by rw [n32_le (by omega) (by omega) (by omega) (by omega)]; omega), zgd_t (czin (by omega) (by omega)), zgd_t (czin (by omega) (by omega))]
      exact h168 _ (by omega) (by omega) (by unfold tkV; split <;> omega)
theorem r_co52 (hk : k < m) {code : Nat} (hcode : code < 50000) {rec35 : Int64 → Int32 → zS → Option (Int64 × zS)} {a4 a5 : Int32} {x : Int} : ∀ (d f p : Nat) (s : zS), p + d = m → d < f → cRel s m C E → (∀ l, l < p → s.1 87 l = n32 ((code / m ^ l % m : Nat) : Int)) → ∃ s', oFrm s s' ∧ D_X9_comes_L52 rec35 (n32 (k : Int)) (n64 x) a4 a5 f (n32 ((code / m ^ p : Nat) : Int)) (n32 (snN m p 0 code : Int)) (n32 (p : Int)) s = rec35 (n64 (x + gvS m k (tkV C m E k) m 0 code)) (a5 + 1) s' := by
  intro d
  induction d with
  | zero =>
    intro f p s hp hf hc ho
    obtain ⟨f, rfl⟩ : ∃ t, f = t + 1 := ⟨f - 1, by omega⟩
    obtain rfl : p = m := by omega
    have hm := hc.1.2.2
    have hsn := sn_lt (m := p) (t := 0) (a := code) (by omega) Nat.one_le_two_pow p
    obtain ⟨o1, o2⟩ := sn_ones (m := p) (by omega) p 0 code
    have hz : onesV p 0 = 0 := by
      clear o1 o2 hsn ho hc hk hp
      have : ∀ l, onesV l 0 = 0 := by
        intro l
        induction l with
        | zero => rfl
        | succ l ih =>
          have h1 : onesV (l + 1) 0 = onesV l 0 + if Nat.testBit 0 l then 1 else 0 := rfl
          rw [h1, ih, Nat.zero_testBit]; rfl
      exact this p
    have hob := ones_bd (D := snN p p 0 code) p
    refine ⟨s, oFrm_r s, ?_⟩
    rw [D_X9_comes_L52_s]
    unfold D_X9_comes_B52
    rw [hc.1.2.1, zif_t (Int32.le_refl _), bits_D hc hsn, zbs, gv_is p 0 code (Nat.zero_testBit _)]
    rw [hz, Int.zero_add] at o2
    by_cases q : pmB p p 0 code = true
    · have h125 := r_co125 hc hk ho (rec35 := rec35) (a4 := a4) (a5 := a5) p zFU 0 x (by omega) (zFU_lt (by omega)) (by rw [Nat.pow_zero, Nat.div_one]; exact q)
      rw [Nat.pow_zero, Nat.div_one, show snN p 0 0 code = 0 from rfl] at h125
      have hlf0 : lfV C p E 0 = E := by
        have hl0 : ldV C p 0 = 0 := by
          have : ∀ l, ldV C l 0 = 0 := by
            intro l
            induction l with
            | zero => rfl
            | succ l ih => rw [ldV, ih, Nat.zero_testBit]; rfl
          exact this p
        have := hc.2.2.2.2
        unfold lfV
        rw [hl0]
        split <;> omega
      rw [hlf0] at h125
      rw [zif_t (by rw [o2.mpr q]), if_pos q, hc.2.2.2.1]
      exact h125
    · rw [zif_f (fun z => q (o2.mp ((n32_eq (by omega) (by omega) (by omega) (by omega)).mp z))), if_neg q, Int.add_zero]
  | succ d ih =>
    intro f p s hp hf hc ho
    obtain ⟨f, rfl⟩ : ∃ t, f = t + 1 := ⟨f - 1, by omega⟩
    have hm := hc.1.2.2
    have hr : code / m ^ p % m < m := Nat.mod_lt _ (by omega)
    have hle : code / m ^ p ≤ code := Nat.div_le_self _ _
    have hdv : code / m ^ p / m = code / m ^ (p + 1) := by rw [Nat.pow_succ, Nat.div_div_eq_div_mul]
    have hm0 : ¬ n32 (m : Int) = 0 := fun q => by rw [l32_0] at q; have := (n32_eq (by omega) (by omega) (by omega) (by omega)).mp q; omega
    have e8 : (zwI s 87 p (n32 ((code / m ^ p % m : Nat) : Int))).1 66 8 = n32 (m : Int) := by rw [zwI_at, if_neg (by omega)]; exact hc.1.2.1
    have e87 : (zwI s 87 p (n32 ((code / m ^ p % m : Nat) : Int))).1 87 p = n32 ((code / m ^ p % m : Nat) : Int) := by rw [zwI_at, if_pos ⟨rfl, rfl⟩]
    rw [D_X9_comes_L52_s]
    unfold D_X9_comes_B52
    rw [hc.1.2.1, zif_f (by rw [c32_le (by omega) (by omega)]; omega), zif_f hm0, zgd_t (czin (by omega) (by omega)), nt_mod (by omega) (by omega), n32_xn (by omega)]
    dsimp only
    rw [e8, zif_f hm0, zgd_t (czin (by omega) (by omega)), e87, nt_div (by omega) (by omega), hdv, shlL _ (by omega), n32_or, nsuc, ← sn_last]
    have hfr : oFrm s (zwI s 87 p (n32 ((code / m ^ p % m : Nat) : Int))) := ⟨fun c l h => by rw [zwI_at, if_neg (fun q => h q.1)], rfl⟩
    obtain ⟨s', f1, e1⟩ := ih f (p + 1) (zwI s 87 p (n32 ((code / m ^ p % m : Nat) : Int))) (by omega) (by omega) (cRel_o hc hfr) (fun l hl => by
      rw [zwI_at]
      by_cases q : l = p
      · rw [if_pos ⟨rfl, q⟩, q]
      · rw [if_neg (fun z => q z.2)]; exact ho l (by omega))
    exact ⟨s', oFrm_t hfr f1, e1⟩
theorem r_comes (hc : cRel s m C E) (hk : k < m) : ∃ s', oFrm s s' ∧ D_X9_comes s (n32 (k : Int)) = some (n64 (sI (toF C m E k) (2 ^ m)), s') := by
  have hm := hc.1.2.2
  have hpw : m ^ m ≤ 46656 := by
    have : m = 1 ∨ m = 2 ∨ m = 3 ∨ m = 4 ∨ m = 5 ∨ m = 6 := by omega
    rcases this with rfl | rfl | rfl | rfl | rfl | rfl <;> decide
  have h8 := zfold (lo := 0) (hi := m) (step := fun _ (t : Nat) => t * m) (fin := fun t : Nat => D_X9_comes_L35 (n32 (k : Int)) (n32 (t : Int)) zFU (n64 0) 0 s) (fun f p t => D_X9_comes_L8 s (n32 (k : Int)) 0 f (n32 (t : Int)) (n32 (p : Int))) (fun f p t _ hp => by
    try dsimp only
    rw [D_X9_comes_L8_s]
    unfold D_X9_comes_B8
    rw [hc.1.2.1, zif_f (by rw [c32_le (by omega) (by omega)]; omega), n32_mul, nsuc, ← Int.natCast_mul]) (fun f t => by
    try dsimp only
    rw [D_X9_comes_L8_s]
    unfold D_X9_comes_B8
    rw [hc.1.2.1, zif_t (Int32.le_refl _)]; rfl) m zFU 0 1 (by omega) (by omega) (zFU_lt (by omega))
  have hz : ∀ n l (t : Nat), zit (fun _ (t : Nat) => t * m) n l t = t * m ^ n := by
    intro n
    induction n with
    | zero => intro l t; rw [zit, Nat.pow_zero, Nat.mul_one]
    | succ n ih => intro l t; rw [zit, ih, Nat.pow_succ, Nat.mul_assoc, Nat.mul_comm m]
  rw [hz, Nat.one_mul] at h8
  obtain ⟨t', hR, -, he⟩ := zloop (fun f c (t : Int × zS) => D_X9_comes_L35 (n32 (k : Int)) (n32 ((m ^ m : Nat) : Int)) f (n64 t.1) (n32 (c : Int)) t.2) (m ^ m) (fun c t => t.1 = sI (gvS m k (tkV C m E k) m 0) c ∧ oFrm s t.2) (fun t => some (n64 t.1, t.2)) (fun t => t.1 = sI (gvS m k (tkV C m E k) m 0) (m ^ m) ∧ oFrm s t.2) (fun f c t hcm ht => by
    obtain ⟨h1, h2⟩ := ht
    obtain ⟨s', f1, e1⟩ := r_co52 (C := C) (E := E) hk (code := c) (by omega) (rec35 := D_X9_comes_L35 (n32 (k : Int)) (n32 ((m ^ m : Nat) : Int)) f) (a4 := n32 ((m ^ m : Nat) : Int)) (a5 := n32 (c : Int)) (x := t.1) m zFU 0 t.2 (by omega) (zFU_lt (by omega)) (cRel_o hc h2) (fun l hl => by omega)
    rw [Nat.pow_zero, Nat.div_one, nsuc] at e1
    refine ⟨(t.1 + gvS m k (tkV C m E k) m 0 c, s'), ⟨?_, oFrm_t h2 f1⟩, ?_⟩
    · try dsimp only
      rw [sI, h1]
    · try dsimp only
      rw [D_X9_comes_L35_s]
      unfold D_X9_comes_B35
      rw [zif_f (by rw [c32_le (by omega) (by omega)]; omega)]
      exact e1) (fun f t ht => by
    refine ⟨ht, ?_⟩
    try dsimp only
    rw [D_X9_comes_L35_s]
    unfold D_X9_comes_B35
    rw [zif_t (Int32.le_refl _)]) (m ^ m) zFU 0 (0, s) (by omega) (zFU_lt (by omega)) ⟨rfl, oFrm_r s⟩
  refine ⟨t'.2, hR.2, ?_⟩
  have h8' : D_X9_comes s (n32 (k : Int)) = _ := h8
  have hs := orders_sum (f := tkV C m E k) hk hm
  have he' : D_X9_comes_L35 (n32 (k : Int)) (n32 ((m ^ m : Nat) : Int)) zFU (n64 0) 0 s = _ := he
  rw [h8', he', hR.1, hs]
  rfl
end CO
