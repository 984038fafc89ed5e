/-! the beginning -/
theorem Sim_0 : Sim 0 1 false d0 := by
  refine ⟨(0, 0, 0, 0, 0, 0, fun _ => 0, fun _ => 0, fun _ => 0, fun _ => 0, fun _ => 0), (fun _ => 0, fun _ => 0, fun _ => 0, fun _ => 0, 0, 0, 0, 0), Or.inl rfl, ?_, ?_, ?_, ?_, ?_, ⟨?_, ?_⟩, ?_, ?_, ?_, ?_⟩
  · exact ⟨by decide, by decide, by decide, by decide, by decide, by decide, fun c h => absurd h (Nat.not_lt_zero c), fun c h => absurd h (Nat.not_lt_zero c), fun c h => absurd h (Nat.not_lt_zero c), fun h => absurd h (Nat.not_lt_zero 0)⟩
  · exact ⟨rfl, rfl, rfl, rfl, rfl, rfl, fun c h => absurd h (Nat.not_lt_zero c), fun c h => absurd h (Nat.not_lt_zero c), fun c h => absurd h (Nat.not_lt_zero c)⟩
  · exact ⟨rfl, rfl, rfl, rfl, rfl, rfl, fun c h => absurd h (Nat.not_lt_zero c), fun c h => absurd h (Nat.not_lt_zero c), fun c h => absurd h (Nat.not_lt_zero c)⟩
  · exact ⟨⟨fun p h => absurd h (Nat.not_lt_zero p), fun p h => absurd h (Nat.not_lt_zero p), fun p h => absurd h (Nat.not_lt_zero p), fun p h => absurd h (Nat.not_lt_zero p), by decide, by decide, by decide⟩, by decide, ⟨fun p h => absurd h (Nat.not_lt_zero p), fun p h => absurd h (Nat.not_lt_zero p), fun p h => absurd h (Nat.not_lt_zero p), fun p h => absurd h (Nat.not_lt_zero p), rfl, rfl, rfl, rfl⟩, ⟨fun p h => absurd h (Nat.not_lt_zero p), fun p h => absurd h (Nat.not_lt_zero p), fun p h => absurd h (Nat.not_lt_zero p), fun p h => absurd h (Nat.not_lt_zero p), rfl, rfl, rfl, rfl⟩⟩
  · exact ⟨rfl, 0, fun _ => 0, by decide, rfl, rfl, fun i h => absurd h (Nat.not_lt_zero i)⟩
  · exact ⟨fun _ _ => rfl, rfl, rfl, rfl, rfl⟩
  · exact ⟨fun _ _ => rfl, rfl, rfl, rfl, rfl⟩
  · exact ⟨0, fun _ => 0, by decide, rfl, rfl, fun i h => absurd h (Nat.not_lt_zero i)⟩
  · exact ⟨false, false, rfl, rfl, rfl, fun h => absurd h (by decide), fun h => absurd h (by decide)⟩
  · exact ⟨0, by decide, rfl⟩
  · exact ⟨Or.inl rfl, Or.inl rfl, rfl⟩
