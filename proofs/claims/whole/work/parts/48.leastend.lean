/-! the end of the least pay's drive -/
section LE
variable {W : Type} {A : W → Prop} {R C : Nat} {rs cs : Nat → Nat} {cell : Nat → Nat → Int} {idr idc : Nat → W → Rat} {room : Nat → W → Rat} {Nm : Nat → Prop}
/-- a column that nobody stops: a ray along which all rooms rise -/
theorem ray_ex {c : Nat} (hd : dInv A R C cell idr idc) (hN : bN A room R C rs cs idr idc) (hP : bP Nm R C rs cs) (h0 : ∀ S, Nm S → S ≠ 0) (hc : c < C) (hno : ∀ r, r < R → ¬ isCnd rs cell c r) : ∃ w0 w1, A w0 ∧ A w1 ∧ (∀ S, Nm S → room S w0 ≤ room S w1) ∧ ∀ r, r < R → (cell r 0 : Rat) * idr r w1 = (cell r 0 : Rat) * idr r w0 + (cell r (2 + c) : Rat) := by
  obtain ⟨d1, d2, d3⟩ := hd
  obtain ⟨n1, n2, -⟩ := hN
  obtain ⟨w0, a0, e0⟩ := d3 (fun _ => 0)
  obtain ⟨w1, a1, e1⟩ := d3 (fun j => if j = c then 1 else 0)
  have hr : ∀ r, r < R → (cell r 0 : Rat) * idr r w1 = (cell r 0 : Rat) * idr r w0 + (cell r (2 + c) : Rat) := fun r h1 => by
    have f0 := d2 w0 a0 r h1
    have f1 := d2 w1 a1 r h1
    unfold rV at f0 f1
    rw [zsum_zero C (fun j hj => by rw [e0 j hj]; grind)] at f0
    rw [zsum_congr C (g := fun j => (cell r (2 + j) : Rat) * (if j = c then 1 else 0)) (fun j hj => by rw [e1 j hj]), zsum_ray hc] at f1
    rw [f0, f1]
    grind
  refine ⟨w0, w1, a0, a1, fun S hS => ?_, hr⟩
  rcases hP S hS with ⟨r, h1, h2⟩ | ⟨j, h1, h2⟩
  · have hn : rs r ≠ 0 := by rw [h2]; exact h0 S hS
    rw [← h2, ← n1 w0 a0 r h1 hn, ← n1 w1 a1 r h1 hn]
    have hnn : 0 ≤ cell r (2 + c) := by
      by_cases q : 0 ≤ cell r (2 + c)
      · exact q
      · exact absurd ⟨Nat.pos_of_ne_zero hn, by omega⟩ (hno r h1)
    have p := rat_pos (d1 r h1)
    have q := rat_nn hnn
    refine Rat.le_of_mul_le_mul_left (c := (cell r 0 : Rat)) ?_ p
    rw [hr r h1]
    grind
  · have hn : cs j ≠ 0 := by rw [h2]; exact h0 S hS
    rw [← h2, ← n2 w0 a0 j h1 hn, ← n2 w1 a1 j h1 hn, e0 j h1, e1 j h1]
    split <;> decide
end LE
