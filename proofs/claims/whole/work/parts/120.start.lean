theorem inv_start : Inv I0 L0 := by
  refine ⟨⟨0, ?_, ?_⟩, ⟨0, 0, by omega, by omega, rfl, rfl, rfl, fun j h => absurd h (by omega)⟩, ?_, ?_, ?_, ⟨0, by omega, rfl, rfl, fun j h => absurd h (by omega)⟩⟩
  · refine ⟨by omega, rfl, ?_, ?_, ?_, ?_, ?_, fun h => absurd h (by omega), fun k h => absurd h (by omega)⟩ <;> exact ⟨by decide, by decide⟩
  · refine ⟨rfl, fun j h1 h2 => ?_, fun k f h => absurd h (by omega), fun k h => absurd h (by omega)⟩
    rcases (show j = 1 ∨ j = 2 ∨ j = 3 ∨ j = 4 ∨ j = 5 ∨ j = 6 by omega) with rfl | rfl | rfl | rfl | rfl | rfl <;> rfl
  · intro k hk
    rcases (show k = 0 ∨ k = 1 by omega) with rfl | rfl <;> exact Or.inl ⟨rfl, rfl⟩
  · intro i hi
    left
    simp [I0, hi]
  · intro k hk
    rcases (show k = 0 ∨ k = 1 ∨ k = 2 ∨ k = 3 by omega) with rfl | rfl | rfl | rfl <;> exact Or.inl ⟨rfl, rfl⟩
