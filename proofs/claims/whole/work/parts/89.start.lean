/-! what a new object holds -/
theorem rel_0 : Rel sx_0 := by
  refine ⟨((0, 0, fun _ _ => none), [], (0, fun _ => 0), (0, -1)), ⟨⟨Nat.zero_le _, Nat.zero_le _, fun w j x h => (by cases h), fun _ _ _ => rfl⟩, fun T h => (by cases h), Nat.zero_le _, Nat.zero_le _⟩, ⟨⟨rfl, rfl, fun w j h => absurd h (Nat.not_lt_zero _)⟩, ?_, Or.inl rfl, ⟨0, by omega, rfl, rfl, fun i T _ h => (by cases h)⟩, ⟨rfl, fun k h => absurd h (Nat.not_lt_zero _)⟩, rfl, rfl⟩, ⟨⟨rfl, rfl, fun w j h => absurd h (Nat.not_lt_zero _)⟩, ⟨rfl, fun i T h => (by cases h)⟩, ⟨rfl, fun k h => absurd h (Nat.not_lt_zero _)⟩, rfl, rfl⟩⟩
  intro S hS
  have hS : S < 1 := hS
  obtain rfl : S = 0 := by omega
  intro hp
  exact ⟨rfl, fun _ => ⟨rfl, rfl⟩⟩
