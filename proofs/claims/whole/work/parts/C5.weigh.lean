/-! the calls voter, weight and quota -/
theorem shl2 : ∀ i : Nat, i < 8 → (2 : Int32) <<< (n32 (i : Int) &&& 31) = n32 ((2 ^ (i + 1) : Nat) : Int) := by decide +kernel
theorem top_bit : ∀ j : Nat, j < 8 → ∀ S : Nat, S < 256 → 2 ^ j ≤ S → S < 2 ^ (j + 1) → S.testBit j = true := by decide +kernel
section AU
variable {a0 a2 K m : Nat} {W : Nat → Int}
theorem au18 {a1 : Int32} {j : Nat} {rec2 : Int32 → zS → Option zS} (h0 : zshp a0 = (1, K, [])) (h2 : zshp a2 = (1, 2 ^ K, [])) (hK : K ≤ 8) (hm : m ≤ K) (hj : j < m) (hne : a0 ≠ a2) : ∀ (d f S : Nat) (s : zS), S + d = 2 ^ (j + 1) → 2 ^ j ≤ S → d < f → s.1 a0 j = n32 (W j) → (∀ T, T < S → s.1 a2 T = n32 (ldV W m T)) →
    ∃ s', D_X5_addUp_L18 rec2 a0 a1 a2 (n32 (j : Int)) f (n32 (S : Int)) s = rec2 (n32 ((j + 1 : Nat) : Int)) s' ∧ (∀ c k, c ≠ a2 → s'.1 c k = s.1 c k) ∧ s'.2 = s.2 ∧ ∀ T, T < 2 ^ (j + 1) → s'.1 a2 T = n32 (ldV W m T) := by
  have hp : 2 ^ (j + 1) ≤ 2 ^ K := Nat.pow_le_pow_right (by omega) (by omega)
  have hp8 : 2 ^ K ≤ 2 ^ 8 := Nat.pow_le_pow_right (by omega) hK
  have hl : zlen a2 = 2 ^ K := by unfold zlen; rw [h2]; rfl
  have zo2 : ∀ T : Nat, T < 2 ^ K → zoI a2 (n32 (T : Int)) = true := fun T hT => by
    unfold zoI
    rw [h2, czin (by omega) hT]; rfl
  have zo0 : zoI a0 (n32 (j : Int)) = true := by
    unfold zoI
    rw [h0, czin (by omega) (show j < K by omega)]; rfl
  have h2j : 1 ≤ 2 ^ j := Nat.one_le_two_pow
  intro d
  induction d with
  | zero =>
    intro f S s hS hl2 hf hw hT
    obtain ⟨f, rfl⟩ : ∃ t, f = t + 1 := ⟨f - 1, by omega⟩
    refine ⟨s, ?_, fun _ _ _ => rfl, rfl, fun T h => hT T (by omega)⟩
    rw [D_X5_addUp_L18_s]
    unfold D_X5_addUp_B18
    rw [shl2 j (by omega), zif_t (by rw [c32_le (by omega) (by omega)]; omega), nsuc]
  | succ d ih =>
    intro f S s hS hl2 hf hw hT
    obtain ⟨f, rfl⟩ : ∃ t, f = t + 1 := ⟨f - 1, by omega⟩
    have htb := top_bit j (by omega) S (by omega) hl2 (by omega)
    have hsb := sub_bit S (by omega) j (by omega) htb
    have hld : ldV W m S = ldV W m (S - 2 ^ j) + W j := ld_add htb (by rw [hsb j (by omega), decide_eq_false (by omega), Bool.and_false]) m hj (fun i hi hne => by rw [hsb i (by omega), decide_eq_true (show i ≠ j from hne), Bool.and_true])
    rw [D_X5_addUp_L18_s]
    unfold D_X5_addUp_B18
    rw [shl2 j (by omega), zif_f (by rw [c32_le (by omega) (by omega)]; omega), h2, zgd_t (show 1 ≤ (1, 2 ^ K, ([] : List Nat)).1 ∧ (1, 2 ^ K, ([] : List Nat)).1 ≤ 5 from ⟨Nat.le_refl 1, Nat.le_of_ble_eq_true rfl⟩), hl, show Int32.ofNat (2 ^ K) = n32 ((2 ^ K : Nat) : Int) from n32_nI _, zif_f (by rw [c32_le (by omega) (by omega)]; omega), shlL j (by omega), n32_sub, show (S : Int) - ((2 ^ j : Nat) : Int) = ((S - 2 ^ j : Nat) : Int) by omega, zgd_t (zo2 _ (by omega)), zgd_t zo0, zgd_t (zo2 _ (by omega)), n32_xn (by omega), n32_xn (by omega), n32_xn (by omega), hT (S - 2 ^ j) (by omega), hw, n32_add, ← hld, nsuc]
    dsimp only
    obtain ⟨s', e1, f1, g1, k1⟩ := ih f (S + 1) (zwI s a2 S (n32 (ldV W m S))) (by omega) (by omega) (by omega) (by rw [zwI_at, if_neg (fun q => hne q.1)]; exact hw) (fun T h => by
      rw [zwI_at]
      by_cases e : T = S
      · rw [if_pos ⟨rfl, e⟩, e]
      · rw [if_neg (fun q => e q.2)]; exact hT T (by omega))
    exact ⟨s', e1, fun c k hc => by rw [f1 c k hc, zwI_at, if_neg (fun q => hc q.1)], g1, k1⟩
theorem au2 (h0 : zshp a0 = (1, K, [])) (h2 : zshp a2 = (1, 2 ^ K, [])) (hK : K ≤ 8) (hm : m ≤ K) (hne : a0 ≠ a2) : ∀ (d f j : Nat) (s : zS), j + d = m → d < f → (∀ i, i < m → s.1 a0 i = n32 (W i)) → (∀ T, T < 2 ^ j → s.1 a2 T = n32 (ldV W m T)) →
    ∃ s', D_X5_addUp_L2 a0 (n32 (m : Int)) a2 f (n32 (j : Int)) s = some s' ∧ (∀ c k, c ≠ a2 → s'.1 c k = s.1 c k) ∧ s'.2 = s.2 ∧ ∀ T, T < 2 ^ m → s'.1 a2 T = n32 (ldV W m T) := by
  have hl : zlen a0 = K := by unfold zlen; rw [h0]; rfl
  intro d
  induction d with
  | zero =>
    intro f j s hj hf hw hT
    obtain ⟨f, rfl⟩ : ∃ t, f = t + 1 := ⟨f - 1, by omega⟩
    obtain rfl : j = m := by omega
    refine ⟨s, ?_, fun _ _ _ => rfl, rfl, hT⟩
    rw [D_X5_addUp_L2_s]
    unfold D_X5_addUp_B2
    rw [zif_t (Int32.le_refl _)]
  | succ d ih =>
    intro f j s hj hf hw hT
    obtain ⟨f, rfl⟩ : ∃ t, f = t + 1 := ⟨f - 1, by omega⟩
    rw [D_X5_addUp_L2_s]
    unfold D_X5_addUp_B2
    have h2j : 2 ^ j + 2 ^ j = 2 ^ (j + 1) := by rw [Nat.pow_succ]; omega
    rw [zif_f (by rw [c32_le (by omega) (by omega)]; omega), h0, zgd_t (show 1 ≤ (1, K, ([] : List Nat)).1 ∧ (1, K, ([] : List Nat)).1 ≤ 5 from ⟨Nat.le_refl 1, Nat.le_of_ble_eq_true rfl⟩), hl, show Int32.ofNat K = n32 (K : Int) from n32_nI _, zif_f (by rw [c32_le (by omega) (by omega)]; omega), shlL j (by omega)]
    obtain ⟨s1, e1, f1, g1, k1⟩ := au18 (W := W) (a1 := n32 (m : Int)) (rec2 := D_X5_addUp_L2 a0 (n32 (m : Int)) a2 f) h0 h2 hK hm (show j < m by omega) hne (2 ^ j) zFU (2 ^ j) s h2j (Nat.le_refl _) (zFU_lt (by
      have h8 : 2 ^ j ≤ 2 ^ 8 := Nat.pow_le_pow_right (by omega) (by omega)
      omega)) (hw j (by omega)) hT
    obtain ⟨s2, e2, f2, g2, k2⟩ := ih f (j + 1) s1 (by omega) (by omega) (fun i hi => by rw [f1 a0 i hne]; exact hw i hi) k1
    exact ⟨s2, e1.trans e2, fun c k hc => (f2 c k hc).trans (f1 c k hc), g2.trans g1, k2⟩
theorem add_up {s : zS} (h0 : zshp a0 = (1, K, [])) (h2 : zshp a2 = (1, 2 ^ K, [])) (hK : K ≤ 8) (hm : m ≤ K) (hne : a0 ≠ a2) (hw : ∀ i, i < m → s.1 a0 i = n32 (W i)) (hz : s.1 a2 0 = 0) : ∃ s', D_X5_addUp s a0 (n32 (m : Int)) a2 = some s' ∧ (∀ c k, c ≠ a2 → s'.1 c k = s.1 c k) ∧ s'.2 = s.2 ∧ ∀ T, T < 2 ^ m → s'.1 a2 T = n32 (ldV W m T) := by
  have hl0 : ldV W m 0 = 0 := by
    clear hm hw
    induction m with
    | zero => rfl
    | succ m ih => rw [ldV, ih, Nat.zero_testBit]; rfl
  exact au2 h0 h2 hK hm hne m zFU 0 s (by omega) (zFU_lt (by omega)) hw (fun T hT => by
    obtain rfl : T = 0 := by
      rw [Nat.pow_zero] at hT
      omega
    rw [hz, hl0]; rfl)
end AU
section WG
variable {s : zS} {m : Nat} {W : Nat → Int} {q : Int}
theorem rep_weight {j : Nat} (hm : m ≤ 8) (hj : j < m) (h0 : s.1 38 0 = n32 (m : Int)) (hw : ∀ i, i < m → i ≠ j → s.1 39 i = n32 (W i)) (hz : s.1 40 0 = 0) : ∃ s', D_X5_replaceWeight s (n32 (j : Int)) (n32 (W j)) = some (s.1 39 j, s') ∧ (∀ c k, c ≠ 39 → c ≠ 40 → (c = 38 → k ≠ 9) → s'.1 c k = s.1 c k) ∧ s'.2 = s.2 ∧ (∀ i, i < m → s'.1 39 i = n32 (W i)) ∧ (∀ T, T < 2 ^ m → s'.1 40 T = n32 (ldV W m T)) ∧ s'.1 38 9 = 0 := by
  obtain ⟨s1, e1, f1, g1, k1⟩ := add_up (a0 := 39) (a2 := 40) (K := 8) (m := m) (W := W) (s := zwI s 39 j (n32 (W j))) rfl rfl (by omega) hm (by omega) (fun i hi => by
    rw [zwI_at]
    by_cases e : i = j
    · rw [if_pos ⟨rfl, e⟩, e]
    · rw [if_neg (fun q => e q.2)]; exact hw i hi e) (by rw [zwI_at, if_neg (by omega)]; exact hz)
  refine ⟨zwI s1 38 9 0, ?_, fun c k h1 h2 h3 => ?_, ?_, fun i hi => ?_, fun T hT => ?_, ?_⟩
  · have h38 : (zwI s 39 j (n32 (W j))).1 38 0 = n32 (m : Int) := h0
    unfold D_X5_replaceWeight
    rw [zgd_t (czin (by omega) (by omega)), zgd_t (czin (by omega) (by omega)), n32_xn (by omega)]
    dsimp only
    rw [h38, e1, zbs]
  · rw [zwI_at, if_neg (fun q => h3 q.1 q.2), f1 c k h2, zwI_at, if_neg (fun q => h1 q.1)]
  · exact g1
  · rw [zwI_at, if_neg (by omega), f1 39 i (by omega), zwI_at]
    by_cases e : i = j
    · rw [if_pos ⟨rfl, e⟩, e]
    · rw [if_neg (fun q => e q.2)]; exact hw i hi e
  · rw [zwI_at, if_neg (by omega)]; exact k1 T hT
  · rw [zwI_at, if_pos ⟨rfl, rfl⟩]
theorem fr3 {s' : zS} (h : ∀ c k, (c ≠ 38 ∧ c ≠ 39 ∧ c ≠ 40 ∧ c ≠ 69) → (c = 66 → k ≠ 5 ∧ k ≠ 7) → s'.1 c k = s.1 c k) (h2 : s'.2 = s.2) : fr (fun i => i = 3) s s' := by
  refine ⟨fun c k a b => h c k ⟨?_, ?_, ?_, ?_⟩ ?_, fun c k _ _ => by rw [h2]⟩
  · rintro rfl; exact b rfl
  · rintro rfl; exact b rfl
  · rintro rfl; exact b rfl
  · rintro rfl; exact b rfl
  · rintro rfl
    refine ⟨?_, ?_⟩ <;> (rintro rfl; exact b rfl)
/-- what changes the voters alone -/
theorem Rel_v {s' : zS} {r : Int32} {c8 c9 : zS → Option (Int32 × zS)} {s1 : zS} {m' : Nat} {W' : Nat → Int} {q' : Int} (h : Rel s) (h8 : c8 s = some (r, s1)) (h9 : c9 s1 = some (r, s')) (ff : fr (fun i => i = 3) s s') (hv : vRel s' m' W' q') : cOk s c8 c9 := by
  obtain ⟨⟨n, v, hw, hk⟩, ⟨g, hg⟩, -, ⟨m', C, E, hc'⟩, ⟨p, h', c, w, u, a', y, ht⟩, ⟨B, S, G, Q, hm⟩, hf⟩ := h
  exact ⟨r, s1, s', h8, h9, ⟨n, v, wRel_f hw ff (by decide), calmK_fr hk hw.1.2.2.1 ff (by decide)⟩, ⟨g, gRel_f hg ff (by decide)⟩, ⟨_, _, _, hv⟩, ⟨m', C, E, cRel_f hc' ff (by decide)⟩, ⟨p, h', c, w, u, a', y, tRel_f ht ff (by decide)⟩, ⟨B, S, G, Q, mRel_f hm ff (by decide)⟩, frEq_fr hf ff (by decide)⟩
theorem load_0 (hv : vRel s m W q) : s.1 40 0 = 0 := by
  have hp := pow_le8 hv.1.2.2
  have hl0 : ∀ m, ldV W m 0 = 0 := by
    intro m
    induction m with
    | zero => rfl
    | succ m ih => rw [ldV, ih, Nat.zero_testBit]; rfl
  rw [hv.2.2.2.1 0 (by omega), hl0]; rfl
theorem call_voter (h : Rel s) (hv : vRel s m W q) (a : Int32) : cOk s (fun s => D_X8_voter s a) (fun s => D_X9_voter s a) := by
  obtain ⟨x, rfl, h1, h2⟩ := i32_of a
  have hm := hv.1.2.2
  have i8 : D_X8_within (n32 x) 0 50 = if 0 ≤ x ∧ x ≤ 50 then some 1 else some 0 := in8 (lo := 0) (hi := 50) h1 h2 (by omega) (by omega) (by omega) (by omega)
  have i9 : D_X9_in (n32 x).toInt64 0 50 = if 0 ≤ x ∧ x ≤ 50 then some 1 else some 0 := in9L (lo := 0) (hi := 50) h1 h2 (by omega) (by omega) (by omega) (by omega)
  by_cases e : 0 ≤ x ∧ x ≤ 50
  · by_cases e2 : m = 8
    · refine cOk_same h (r := -4) ?_ ?_
      · try dsimp only
        unfold D_X8_voter
        rw [i8, if_pos e, zbs, zi1, hv.1.1, zif_t (by rw [e2]; decide)]
      · try dsimp only
        unfold D_X9_voter
        rw [i9, if_pos e, zbs, zi1, hv.1.2.1, zif_t (by rw [e2]; rfl)]
    · have hW' : ∀ i, i < m + 1 → i ≠ m → (fun i => if i = m then x else W i) i = W i := fun i _ hi => if_neg hi
      obtain ⟨s1, e1, f1, g1, k1, k2, k3⟩ := rep_weight (s := zwI s 38 0 (n32 ((m + 1 : Nat) : Int))) (m := m + 1) (W := fun i => if i = m then x else W i) (j := m) (by omega) (by omega) (by rw [zwI_at, if_pos ⟨rfl, rfl⟩]) (fun i hi hne => by
        rw [zwI_at, if_neg (by omega), (hv.2.1 i (by omega)).1]
        try dsimp only
        rw [if_neg hne]) (by rw [zwI_at, if_neg (by omega)]; exact load_0 hv)
      try dsimp only at e1
      rw [if_pos rfl] at e1
      have h380 : s1.1 38 0 = n32 ((m + 1 : Nat) : Int) := by rw [f1 38 0 (by omega) (by omega) (fun _ => by omega), zwI_at, if_pos ⟨rfl, rfl⟩]
      have fall : ∀ c k, c ≠ 38 → c ≠ 39 → c ≠ 40 → s1.1 c k = s.1 c k := fun c k a b d => by rw [f1 c k b d (fun q => absurd q a), zwI_at, if_neg (fun q => a q.1)]
      have h665 : s1.1 66 5 = n32 (m : Int) := (fall 66 5 (by omega) (by omega) (by omega)).trans hv.1.2.1
      have hms : n32 ((m + 1 : Nat) : Int) - 1 = n32 (m : Int) := by rw [l32_1, n32_sub]; congr 1; omega
      refine Rel_v (r := n32 (m : Int)) (s1 := s1) (s' := zwI (zwI s1 69 m (n32 x)) 66 5 (n32 ((m + 1 : Nat) : Int))) (m' := m + 1) (W' := fun i => if i = m then x else W i) (q' := q) h ?_ ?_ (fr3 (fun c k a b => ?_) ?_) ⟨⟨?_, ?_, by omega⟩, fun i hi => ⟨?_, ?_, ?_⟩, ⟨?_, ?_, hv.2.2.1.2.2⟩, fun S hS => ?_, Or.inl ?_, ?_⟩
      · try dsimp only
        unfold D_X8_voter D_X5_addVoter
        rw [i8, if_pos e, zbs, zi1, hv.1.1, zif_f (by rw [l32_8, n32_le (by omega) (by omega) (by omega) (by omega)]; omega), nsuc]
        dsimp only
        rw [show (zwI s 38 0 (n32 ((m + 1 : Nat) : Int))).1 38 0 = n32 ((m + 1 : Nat) : Int) by rw [zwI_at, if_pos ⟨rfl, rfl⟩], hms, e1, zbs, h380, hms, zbs]
      · try dsimp only
        unfold D_X9_voter
        rw [i9, if_pos e, zbs, zi1, h665, zif_f (fun q => e2 (by rw [l32_8] at q; have := (n32_eq (by omega) (by omega) (by omega) (by omega)).mp q; omega)), zgd_t (czin (by omega) (by omega)), n32_xn (by omega)]
        dsimp only
        rw [show (zwI s1 69 m (n32 x)).1 66 5 = n32 (m : Int) by rw [zwI_at, if_neg (by omega)]; exact h665, nsuc, zwI_at, if_pos ⟨rfl, rfl⟩, hms]
      · rw [zwI_at, if_neg (fun q => by have := b q.1; omega), zwI_at, if_neg (fun q => by omega)]
        exact fall c k a.1 a.2.1 a.2.2.1
      · exact g1
      · rw [zwI_at, if_neg (by omega), zwI_at, if_neg (by omega)]; exact h380
      · rw [zwI_at, if_pos ⟨rfl, rfl⟩]
      · rw [zwI_at, if_neg (by omega), zwI_at, if_neg (by omega)]; exact k1 i hi
      · rw [zwI_at, if_neg (by omega), zwI_at]
        try dsimp only
        by_cases e3 : i = m
        · rw [if_pos ⟨rfl, e3⟩, if_pos e3]
        · rw [if_neg (fun q => e3 q.2), if_neg e3, fall 69 i (by omega) (by omega) (by omega)]; exact (hv.2.1 i (by omega)).2.1
      · try dsimp only
        by_cases e3 : i = m
        · rw [if_pos e3]; exact e
        · rw [if_neg e3]; exact (hv.2.1 i (by omega)).2.2
      · rw [zwI_at, if_neg (by omega), zwI_at, if_neg (by omega), f1 38 1 (by omega) (by omega) (fun _ => by omega), zwI_at, if_neg (by omega)]; exact hv.2.2.1.1
      · rw [zwI_at, if_neg (by omega), zwI_at, if_neg (by omega), fall 66 7 (by omega) (by omega) (by omega)]; exact hv.2.2.1.2.1
      · rw [zwI_at, if_neg (by omega), zwI_at, if_neg (by omega)]; exact k2 S hS
      · rw [zwI_at, if_neg (by omega), zwI_at, if_neg (by omega)]; exact k3
      · rw [zwI_at, if_neg (by omega), zwI_at, if_neg (by omega), fall 43 0 (by omega) (by omega) (by omega)]; exact hv.2.2.2.2.2
  · refine cOk_same h (r := -2) ?_ ?_
    · try dsimp only
      unfold D_X8_voter
      rw [i8, if_neg e, zbs, zi0]
    · try dsimp only
      unfold D_X9_voter
      rw [i9, if_neg e, zbs, zi0]
theorem call_weight (h : Rel s) (hv : vRel s m W q) (a b : Int32) : cOk s (fun s => D_X8_weight s a b) (fun s => D_X9_weight s a b) := by
  obtain ⟨k, rfl, h1, h2⟩ := i32_of a
  obtain ⟨x, rfl, h3, h4⟩ := i32_of b
  have hm := hv.1.2.2
  have i8 : D_X8_within (n32 x) 0 50 = if 0 ≤ x ∧ x ≤ 50 then some 1 else some 0 := in8 (lo := 0) (hi := 50) h3 h4 (by omega) (by omega) (by omega) (by omega)
  have i9 : D_X9_in (n32 x).toInt64 0 50 = if 0 ≤ x ∧ x ≤ 50 then some 1 else some 0 := in9L (lo := 0) (hi := 50) h3 h4 (by omega) (by omega) (by omega) (by omega)
  by_cases e : 0 ≤ k ∧ k < (m : Int)
  · by_cases e2 : 0 ≤ x ∧ x ≤ 50
    · obtain ⟨j, rfl⟩ : ∃ t : Nat, k = (t : Int) := ⟨k.toNat, by omega⟩
      have hj : j < m := by omega
      obtain ⟨s1, e1, f1, g1, k1, k2, k3⟩ := rep_weight (s := s) (m := m) (W := fun i => if i = j then x else W i) (j := j) hm hj hv.1.1 (fun i hi hne => by
        rw [(hv.2.1 i (by omega)).1]
        try dsimp only
        rw [if_neg hne]) (load_0 hv)
      try dsimp only at e1
      rw [if_pos rfl] at e1
      have fall : ∀ c k, c ≠ 38 → c ≠ 39 → c ≠ 40 → s1.1 c k = s.1 c k := fun c k a b d => f1 c k b d (fun q => absurd q a)
      refine Rel_v (r := n32 (W j)) (s1 := s1) (s' := zwI s1 69 j (n32 x)) (m' := m) (W' := fun i => if i = j then x else W i) (q' := q) h ?_ ?_ (fr3 (fun c k a b => ?_) ?_) ⟨⟨?_, ?_, hm⟩, fun i hi => ⟨?_, ?_, ?_⟩, ⟨?_, ?_, hv.2.2.1.2.2⟩, fun S hS => ?_, Or.inl ?_, ?_⟩
      · try dsimp only
        unfold D_X8_weight
        rw [voter8 hv h1 h2, if_pos e, zbs, zi1, i8, if_pos e2, zbs, zi1, e1, zbs, (hv.2.1 j hj).1]
      · try dsimp only
        have hk : D_X9_isVoter s1 (n32 (j : Int)) = D_X9_isVoter s (n32 (j : Int)) := by
          unfold D_X9_isVoter
          rw [fall 66 5 (by omega) (by omega) (by omega)]
        unfold D_X9_weight
        rw [hk, voter9 hv h1 h2, if_pos e, zbs, zi1, i9, if_pos e2, zbs, zi1, zgd_t (czin (by omega) (by omega)), zgd_t (czin (by omega) (by omega)), n32_xn (by omega), fall 69 j (by omega) (by omega) (by omega), (hv.2.1 j hj).2.1]
      · rw [zwI_at, if_neg (fun q => by omega)]
        exact fall c k a.1 a.2.1 a.2.2.1
      · exact g1
      · rw [zwI_at, if_neg (by omega), f1 38 0 (by omega) (by omega) (fun _ => by omega)]; exact hv.1.1
      · rw [zwI_at, if_neg (by omega), fall 66 5 (by omega) (by omega) (by omega)]; exact hv.1.2.1
      · rw [zwI_at, if_neg (by omega)]; exact k1 i hi
      · rw [zwI_at]
        try dsimp only
        by_cases e3 : i = j
        · rw [if_pos ⟨rfl, e3⟩, if_pos e3]
        · rw [if_neg (fun q => e3 q.2), if_neg e3, fall 69 i (by omega) (by omega) (by omega)]; exact (hv.2.1 i hi).2.1
      · try dsimp only
        by_cases e3 : i = j
        · rw [if_pos e3]; exact e2
        · rw [if_neg e3]; exact (hv.2.1 i hi).2.2
      · rw [zwI_at, if_neg (by omega), f1 38 1 (by omega) (by omega) (fun _ => by omega)]; exact hv.2.2.1.1
      · rw [zwI_at, if_neg (by omega), fall 66 7 (by omega) (by omega) (by omega)]; exact hv.2.2.1.2.1
      · rw [zwI_at, if_neg (by omega)]; exact k2 S hS
      · rw [zwI_at, if_neg (by omega)]; exact k3
      · rw [zwI_at, if_neg (by omega), fall 43 0 (by omega) (by omega) (by omega)]; exact hv.2.2.2.2.2
    · refine cOk_same h (r := -2) ?_ ?_
      · try dsimp only
        unfold D_X8_weight
        rw [voter8 hv h1 h2, if_pos e, zbs, zi1, i8, if_neg e2, zbs, zi0]
      · try dsimp only
        unfold D_X9_weight
        rw [voter9 hv h1 h2, if_pos e, zbs, zi1, i9, if_neg e2, zbs, zi0]
  · refine cOk_same h (r := -2) ?_ ?_
    · try dsimp only
      unfold D_X8_weight
      rw [voter8 hv h1 h2, if_neg e, zbs, zi0]
    · try dsimp only
      unfold D_X9_weight
      rw [voter9 hv h1 h2, if_neg e, zbs, zi0]
theorem call_quota (h : Rel s) (hv : vRel s m W q) (a : Int32) : cOk s (fun s => D_X8_quota s a) (fun s => D_X9_quota s a) := by
  obtain ⟨x, rfl, h1, h2⟩ := i32_of a
  have i8 : D_X8_within (n32 x) 1 400 = if 1 ≤ x ∧ x ≤ 400 then some 1 else some 0 := in8 (lo := 1) (hi := 400) h1 h2 (by omega) (by omega) (by omega) (by omega)
  have i9 : D_X9_in (n32 x).toInt64 1 400 = if 1 ≤ x ∧ x ≤ 400 then some 1 else some 0 := in9L (lo := 1) (hi := 400) h1 h2 (by omega) (by omega) (by omega) (by omega)
  by_cases e : 1 ≤ x ∧ x ≤ 400
  · refine Rel_v (r := n32 q) (s1 := zwI (zwI s 38 1 (n32 x)) 38 9 0) (s' := zwI (zwI (zwI s 38 1 (n32 x)) 38 9 0) 66 7 (n32 x)) (m' := m) (W' := W) (q' := x) h ?_ ?_ (fr3 (fun c k a b => ?_) rfl) ⟨⟨?_, ?_, hv.1.2.2⟩, fun i hi => ⟨?_, ?_, (hv.2.1 i hi).2.2⟩, ⟨?_, ?_, e⟩, fun S hS => ?_, Or.inl ?_, ?_⟩
    · try dsimp only
      unfold D_X8_quota D_X5_replaceQuota
      rw [i8, if_pos e, zbs, zi1, hv.2.2.1.1, zbs]
    · try dsimp only
      unfold D_X9_quota
      rw [i9, if_pos e, zbs, zi1]
      dsimp only
      rw [zwI_at, if_neg (by omega), zwI_at, if_neg (by omega), hv.2.2.1.2.1]
    · rw [zwI_at, if_neg (fun q => by have := b q.1; omega), zwI_at, if_neg (fun q => by omega), zwI_at, if_neg (fun q => by omega)]
    · rw [zwI_at, if_neg (by omega), zwI_at, if_neg (by omega), zwI_at, if_neg (by omega)]; exact hv.1.1
    · rw [zwI_at, if_neg (by omega), zwI_at, if_neg (by omega), zwI_at, if_neg (by omega)]; exact hv.1.2.1
    · rw [zwI_at, if_neg (by omega), zwI_at, if_neg (by omega), zwI_at, if_neg (by omega)]; exact (hv.2.1 i hi).1
    · rw [zwI_at, if_neg (by omega), zwI_at, if_neg (by omega), zwI_at, if_neg (by omega)]; exact (hv.2.1 i hi).2.1
    · rw [zwI_at, if_neg (by omega), zwI_at, if_neg (by omega), zwI_at, if_pos ⟨rfl, rfl⟩]
    · rw [zwI_at, if_pos ⟨rfl, rfl⟩]
    · rw [zwI_at, if_neg (by omega), zwI_at, if_neg (by omega), zwI_at, if_neg (by omega)]; exact hv.2.2.2.1 S hS
    · rw [zwI_at, if_neg (by omega), zwI_at, if_pos ⟨rfl, rfl⟩]
    · rw [zwI_at, if_neg (by omega), zwI_at, if_neg (by omega), zwI_at, if_neg (by omega)]; exact hv.2.2.2.2.2
  · refine cOk_same h (r := -2) ?_ ?_
    · try dsimp only
      unfold D_X8_quota
      rw [i8, if_neg e, zbs, zi0]
    · try dsimp only
      unfold D_X9_quota
      rw [i9, if_neg e, zbs, zi0]
end WG
