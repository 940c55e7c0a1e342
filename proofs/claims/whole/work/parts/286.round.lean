theorem shlm' : ∀ M, 0 < M → M ≤ 7 → (1 : Int32) <<< ((nI M - (1 : Int32)) &&& (31 : Int32)) = nI (2 ^ (M - 1)) ∧ 1 ≤ 2 ^ (M - 1) ∧ 2 ^ (M - 1) ≤ 64 ∧ 2 ^ M - 2 = 2 * (2 ^ (M - 1) - 1) ∧ ∀ t, t < M - 1 → (2 ^ (M - 1) - 1).testBit t = true := by
  intro M h0 h1
  rcases (show M = 1 ∨ M = 2 ∨ M = 3 ∨ M = 4 ∨ M = 5 ∨ M = 6 ∨ M = 7 by omega) with rfl | rfl | rfl | rfl | rfl | rfl | rfl <;> decide +kernel
theorem m_lay {I : MI} {L : ML} {o M : Nat} {x y : Nat → Nat} (hM0 : 0 < M) (hM : M ≤ 7) (ho : o + 2 * M ≤ 96) (hd : ∀ a b, ds x y a b ≤ 198) (h : ∀ j, j < M → L 247 (o + 2 * j) = lN (x j) ∧ L 247 (o + 2 * j + 1) = lN (y j) ∧ x j ≤ 99 ∧ y j ≤ 99) : ∃ J, f_X11_layWays (nI o) (nI M) I L = some J ∧ (∀ i, i ≠ 254 → J i = I i) ∧ ∀ m', 0 < m' → m' < 2 ^ (M - 1) → ∀ t, t + 1 < M → J 254 (7 * m' + t) = nI (Dt (ds x y) M m' t) := by
  obtain ⟨e1, e2, e3, _, _⟩ := shlm' M hM0 hM
  unfold f_X11_layWays
  rw [e1, nm_s]
  obtain ⟨J, j1, j2, j3⟩ := lp_inv (f := fun s => b_X11_layWays_9 (nI o) (nI M) (nI (2 ^ (M - 1))) L s.1 s.2) (fun k s => s.1 = nI (k + 1) ∧ (∀ i, i ≠ 254 → s.2 i = I i) ∧ ∀ m', 0 < m' → m' < k + 1 → ∀ t, t + 1 < M → s.2 254 (7 * m' + t) = nI (Dt (ds x y) M m' t)) (fun J => (∀ i, i ≠ 254 → J i = I i) ∧ ∀ m', 0 < m' → m' < 2 ^ (M - 1) → ∀ t, t + 1 < M → J 254 (7 * m' + t) = nI (Dt (ds x y) M m' t)) (2 ^ (M - 1) - 1)
    (fun k s hk hP => by
      obtain ⟨w, K⟩ := s
      obtain ⟨q1, q2, q3⟩ := hP
      dsimp only at q1 q2 q3
      subst q1
      simp only [b_X11_layWays_9]
      obtain ⟨J, a1, a2, a3⟩ := m_lay18 (I := K) (m := k + 1) (nI (2 ^ (M - 1))) hM ho (by omega) (by omega) hd h q3
      rw [if_neg (nI_ge (by omega) (by omega)), a1, bd1_s, nm_s, nI_1]
      exact ⟨_, rfl, rfl, fun i hi => (a2 i hi).trans (q2 i hi), a3⟩)
    (fun s hP => by
      obtain ⟨w, K⟩ := s
      obtain ⟨q1, q2, q3⟩ := hP
      dsimp only at q1 q2 q3
      subst q1
      simp only [b_X11_layWays_9]
      rw [if_pos (nI_le (by omega) (by omega))]
      exact ⟨_, rfl, q2, fun m' a b => q3 m' a (by omega)⟩)
    FU (show 2 ^ (M - 1) - 1 < 2000 by omega) ((1 : Int32), I) ⟨rfl, fun _ _ => rfl, fun m' a b => absurd b (by omega)⟩
  rw [j1, bd1_s]
  exact ⟨J, rfl, j2, j3⟩
