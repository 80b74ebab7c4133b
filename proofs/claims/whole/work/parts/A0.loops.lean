/-! loops that go up, in one lemma each -/
def zit {τ : Type} (step : Nat → τ → τ) : Nat → Nat → τ → τ
  | 0, _, t => t
  | m + 1, k, t => zit step m (k + 1) (step k t)
theorem zfold {τ β : Type} {step : Nat → τ → τ} {lo hi : Nat} {fin : τ → β} (F : Nat → Nat → τ → β) (hs : ∀ f k t, lo ≤ k → k < hi → F (f + 1) k t = F f (k + 1) (step k t)) (he : ∀ f t, F (f + 1) hi t = fin t) : ∀ m f k t, k + m = hi → lo ≤ k → m < f → F f k t = fin (zit step m k t) := by
  intro m
  induction m with
  | zero =>
    intro f k t hk _ hf
    obtain ⟨f, rfl⟩ : ∃ j, f = j + 1 := ⟨f - 1, by omega⟩
    obtain rfl : k = hi := by omega
    exact he f t
  | succ m ih =>
    intro f k t hk hl hf
    obtain ⟨f, rfl⟩ : ∃ j, f = j + 1 := ⟨f - 1, by omega⟩
    rw [hs f k t hl (by omega)]
    exact ih f (k + 1) (step k t) (by omega) (by omega) (by omega)
/-- the same where what is kept holds something -/
theorem zfoldP {τ β : Type} {step : Nat → τ → τ} {lo hi : Nat} {fin : τ → β} (P : Nat → τ → Prop) (F : Nat → Nat → τ → β) (hs : ∀ f k t, lo ≤ k → k < hi → P k t → P (k + 1) (step k t) ∧ F (f + 1) k t = F f (k + 1) (step k t)) (he : ∀ f t, P hi t → F (f + 1) hi t = fin t) : ∀ m f k t, k + m = hi → lo ≤ k → m < f → P k t → P hi (zit step m k t) ∧ F f k t = fin (zit step m k t) := by
  intro m
  induction m with
  | zero =>
    intro f k t hk _ hf hP
    obtain ⟨f, rfl⟩ : ∃ j, f = j + 1 := ⟨f - 1, by omega⟩
    obtain rfl : k = hi := by omega
    exact ⟨hP, he f t hP⟩
  | succ m ih =>
    intro f k t hk hl hf hP
    obtain ⟨f, rfl⟩ : ∃ j, f = j + 1 := ⟨f - 1, by omega⟩
    obtain ⟨h1, h2⟩ := hs f k t hl (by omega) hP
    rw [h2]
    exact ih f (k + 1) (step k t) (by omega) (by omega) (by omega) h1
theorem zit_congr {τ : Type} {s1 s2 : Nat → τ → τ} : ∀ m k t, (∀ j t, k ≤ j → j < k + m → s1 j t = s2 j t) → zit s1 m k t = zit s2 m k t
  | 0, _, _, _ => rfl
  | m + 1, k, t, h => by
    rw [zit, zit, h k t (by omega) (by omega)]
    exact zit_congr m (k + 1) _ (fun j t h1 h2 => h j t (by omega) (by omega))
theorem zit_add {τ : Type} {step : Nat → τ → τ} : ∀ a b k t, zit step (a + b) k t = zit step b (k + a) (zit step a k t)
  | 0, b, k, t => by rw [Nat.zero_add]; rfl
  | a + 1, b, k, t => by
    rw [Nat.add_right_comm, zit, zit, zit_add a b (k + 1), Nat.add_assoc k 1 a, Nat.add_comm 1 a]
theorem zit_last {τ : Type} {step : Nat → τ → τ} (m k : Nat) (t : τ) : zit step (m + 1) k t = step (k + m) (zit step m k t) := zit_add m 1 k t
/-- what stays true along a loop -/
theorem zit_inv {τ : Type} {step : Nat → τ → τ} (P : Nat → τ → Prop) : ∀ m k t, P k t → (∀ j t, k ≤ j → j < k + m → P j t → P (j + 1) (step j t)) → P (k + m) (zit step m k t)
  | 0, _, _, h, _ => h
  | m + 1, k, t, h, hs => by
    rw [zit, ← Nat.add_assoc, Nat.add_right_comm]
    exact zit_inv P m (k + 1) _ (hs k t (by omega) (by omega) h) (fun j t h1 h2 => hs j t (by omega) (by omega))
/-- what two loops keep alike -/
theorem zit_rel {τ υ : Type} {s1 : Nat → τ → τ} {s2 : Nat → υ → υ} (P : Nat → τ → υ → Prop) : ∀ m k t u, P k t u → (∀ j t u, k ≤ j → j < k + m → P j t u → P (j + 1) (s1 j t) (s2 j u)) → P (k + m) (zit s1 m k t) (zit s2 m k u)
  | 0, _, _, _, h, _ => h
  | m + 1, k, t, u, h, hs => by
    rw [zit, zit, ← Nat.add_assoc, Nat.add_right_comm]
    exact zit_rel P m (k + 1) _ _ (hs k t u (by omega) (by omega) h) (fun j t u h1 h2 => hs j t u (by omega) (by omega))
/-- the first that a test takes -/
def zfst {β : Type} (p : Nat → Bool) (val : Nat → β) (d : β) : Nat → Nat → β
  | 0, _ => d
  | m + 1, k => if p k then val k else zfst p val d m (k + 1)
theorem zfirst {β : Type} {p : Nat → Bool} {val : Nat → β} {d : β} {lo hi : Nat} (F : Nat → Nat → β) (hs : ∀ f k, lo ≤ k → k < hi → F (f + 1) k = if p k then val k else F f (k + 1)) (he : ∀ f, F (f + 1) hi = d) : ∀ m f k, k + m = hi → lo ≤ k → m < f → F f k = zfst p val d m k := by
  intro m
  induction m with
  | zero =>
    intro f k hk _ hf
    obtain ⟨f, rfl⟩ : ∃ j, f = j + 1 := ⟨f - 1, by omega⟩
    obtain rfl : k = hi := by omega
    exact he f
  | succ m ih =>
    intro f k hk hl hf
    obtain ⟨f, rfl⟩ : ∃ j, f = j + 1 := ⟨f - 1, by omega⟩
    rw [hs f k hl (by omega), zfst, ih f (k + 1) (by omega) (by omega) (by omega)]
theorem zfst_congr {β : Type} {p q : Nat → Bool} {val : Nat → β} {d : β} : ∀ m k, (∀ j, k ≤ j → j < k + m → p j = q j) → zfst p val d m k = zfst q val d m k
  | 0, _, _ => rfl
  | m + 1, k, h => by
    rw [zfst, zfst, h k (by omega) (by omega), zfst_congr m (k + 1) (fun j h1 h2 => h j (by omega) (by omega))]
/-! bits of sets -/
theorem has9_8 (a b : Int32) : D_X9_has a b = D_X8_has a b := rfl
theorem in_ite {α β : Type} {c : Prop} [Decidable c] {a b : α} {f : α → Option β} : (if c then some a else some b).bind f = if c then f a else f b := by split <;> rfl
theorem x8_hasL : ∀ S : Nat, S < 1024 → ∀ i : Nat, i < 10 → D_X8_has (n32 (S : Int)) (n32 (i : Int)) = if S.testBit i then some 1 else some 0 := by decide +kernel
theorem x9_hasL (S : Nat) (hS : S < 1024) (i : Nat) (hi : i < 10) : D_X9_has (n32 (S : Int)) (n32 (i : Int)) = if S.testBit i then some 1 else some 0 := x8_hasL S hS i hi
theorem shlL : ∀ i : Nat, i < 11 → (1 : Int32) <<< (n32 (i : Int) &&& 31) = n32 ((2 ^ i : Nat) : Int) := by decide +kernel
theorem zgd_ite {α : Type} {c d : Prop} [Decidable c] [Decidable d] {x : Option α} (h : c) : zgd c x = x := zgd_t h
theorem zit_id {τ : Type} {step : Nat → τ → τ} : ∀ m k t, (∀ j t, k ≤ j → j < k + m → step j t = t) → zit step m k t = t
  | 0, _, _, _ => rfl
  | m + 1, k, t, h => by
    rw [zit, h k t (by omega) (by omega)]
    exact zit_id m (k + 1) t (fun j t h1 h2 => h j t (by omega) (by omega))
/-- all of a stretch -/
def zall (p : Nat → Bool) : Nat → Nat → Bool
  | 0, _ => true
  | m + 1, k => p k && zall p m (k + 1)
theorem zall_iff {p : Nat → Bool} : ∀ m k, zall p m k = true ↔ ∀ j, k ≤ j → j < k + m → p j = true
  | 0, k => ⟨fun _ j h1 h2 => by omega, fun _ => rfl⟩
  | m + 1, k => by
    rw [zall, Bool.and_eq_true, zall_iff m (k + 1)]
    constructor
    · rintro ⟨h1, h2⟩ j h3 h4
      by_cases e : j = k
      · rw [e]; exact h1
      · exact h2 j (by omega) (by omega)
    · intro h
      exact ⟨h k (by omega) (by omega), fun j h1 h2 => h j (by omega) (by omega)⟩
theorem zall_congr {p q : Nat → Bool} (m k : Nat) (h : ∀ j, k ≤ j → j < k + m → p j = q j) : zall p m k = zall q m k := by
  induction m generalizing k with
  | zero => rfl
  | succ m ih => rw [zall, zall, h k (by omega) (by omega), ih (k + 1) (fun j h1 h2 => h j (by omega) (by omega))]
theorem zit_and {p : Nat → Bool} : ∀ m k b, zit (fun k b => b && p k) m k b = (b && zall p m k)
  | 0, _, b => by rw [zit, zall, Bool.and_true]
  | m + 1, k, b => by
    rw [zit, zit_and m (k + 1), zall, Bool.and_assoc]
theorem zchk {β : Type} {p : Nat → Bool} {ok bad : β} {lo hi : Nat} (F : Nat → Nat → β) (hs : ∀ f k, lo ≤ k → k < hi → F (f + 1) k = if p k then F f (k + 1) else bad) (he : ∀ f, F (f + 1) hi = ok) : ∀ m f k, k + m = hi → lo ≤ k → m < f → F f k = if zall p m k then ok else bad := by
  intro m
  induction m with
  | zero =>
    intro f k hk _ hf
    obtain ⟨f, rfl⟩ : ∃ j, f = j + 1 := ⟨f - 1, by omega⟩
    obtain rfl : k = hi := by omega
    rw [he f, zall, if_pos rfl]
  | succ m ih =>
    intro f k hk hl hf
    obtain ⟨f, rfl⟩ : ∃ j, f = j + 1 := ⟨f - 1, by omega⟩
    rw [hs f k hl (by omega), zall, ih f (k + 1) (by omega) (by omega) (by omega)]
    cases p k <;> rfl
/-- a test's answer -/
def zfl (b : Bool) : Int32 := if b then 1 else 0
theorem zfl_0 {b : Bool} : zfl b = 0 ↔ b = false := by cases b <;> decide
theorem zfl_t : zfl true = 1 := rfl
theorem zfl_f : zfl false = 0 := rfl
theorem n32_0r (t : Int) : n32 t + 0 = n32 t := by rw [l32_0, n32_add, Int.add_zero]
theorem tb_hi {S n i : Nat} (h : S < 2 ^ n) (hi : n ≤ i) : S.testBit i = false := Nat.testBit_lt_two_pow (Nat.lt_of_lt_of_le h (Nat.pow_le_pow_right (by omega) hi))
