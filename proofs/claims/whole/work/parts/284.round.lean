theorem m_lay60x {I : MI} {L : ML} {o M j X : Nat} {x y : Nat → Nat} (v3 v4 z7 : Int32) (hM : M ≤ 7) (ho : o + 2 * M ≤ 96) (hj : j + 1 < M) (hX : X < 64) (h : ∀ j, j < M → L 247 (o + 2 * j) = lN (x j) ∧ L 247 (o + 2 * j + 1) = lN (y j) ∧ x j ≤ 99 ∧ y j ≤ 99) : ∃ r, lp (fun s => b_X11_layWays_60 (nI o) (nI M) v3 v4 (nI (j + 1)) (nI X) I L s.1 s.2) FU (z7, (1 : Int32)) = some r := by
  obtain ⟨r, hr, _⟩ := lp_inv (f := fun s => b_X11_layWays_60 (nI o) (nI M) v3 v4 (nI (j + 1)) (nI X) I L s.1 s.2) (fun t s => s.2 = nI (t + 1)) (fun _ => True) (M - 1)
    (fun t s ht hP => by
      obtain ⟨a, b⟩ := s
      dsimp only at hP
      subst hP
      simp only [b_X11_layWays_60]
      have hw : f_X11_wayOf (nI o) (nI (t + 1)) (nI (j + 1)) I L = some (nI (ds x y (t + 1) (j + 1))) := m_wayOf ho (by omega) hj h
      rw [if_neg (nI_ge (by omega) (by omega)), sub1, has6' X hX t (by omega), bd1_s, ix7m, gi_n (by omega) (by omega), cl_n (by omega), hw, bd1_s, nI_1, some_if, bd1_s, some_if, bd1_s, nm_s]
      exact ⟨_, rfl, rfl⟩)
    (fun s hP => by
      obtain ⟨a, b⟩ := s
      dsimp only at hP
      subst hP
      simp only [b_X11_layWays_60]
      rw [if_pos (nI_le (by omega) (by omega))]
      exact ⟨_, rfl, trivial⟩)
    FU (show M - 1 < 2000 by omega) (z7, (1 : Int32)) rfl
  exact ⟨r, hr⟩
