theorem ok_round (a1 : Int32) (a2 : Int32) (a3 : Int32) (a4 : Int32) (a5 : Int32) {I : MI} {L : ML} (h : Inv I L) : ∃ (r : Int32) (I1 : MI) (I2 : MI), f_X10_round a1 a2 a3 a4 a5 I L = some (r, I1) ∧ f_X11_round a1 a2 a3 a4 a5 I1 L = some (r, I2) ∧ Inv I2 L := by
  unfold f_X10_round f_X11_round
  rw [s_within, bd1_s, if_b, s_within, bd1_s, if_b, show (0 : Int64) = (0 : Int32).toInt64 from rfl, show (2 : Int64) = (2 : Int32).toInt64 from rfl, show (7 : Int64) = (7 : Int32).toInt64 from rfl, show (1 : Int64) = (1 : Int32).toInt64 from rfl]
  simp only [s_in32, bd1_s, if_b]
  by_cases c1 : (2 : Int32) ≤ a4 ∧ a4 ≤ 7
  · by_cases c2 : (0 : Int32) ≤ a5 ∧ a5 ≤ 1
    · simp only [if_pos c1, if_pos c2]
      obtain ⟨P, hP2, hP, rfl⟩ : ∃ N : Nat, 2 ≤ N ∧ N ≤ 7 ∧ a4 = nI N := by
        have z1 : (2 : Int32).toInt = 2 := rfl
        have z2 : (7 : Int32).toInt = 7 := rfl
        rw [fa_le, fa_le, z1, z2] at c1
        obtain ⟨k, h1, h2, h3⟩ := rg_n (x := a4) (a := 2) (b := 7) c1 (by omega)
        exact ⟨k, h1, h2, h3⟩
      rcases pairs_cases h.2.2.2.2.1 a1 a2 a3 (show P ≤ 12 by omega) 99 with ⟨r, x1, x2, x3⟩ | ⟨s, i, z, hs, hz, hi, rfl, rfl, q1, q2, q3, x1, x2, x3, x4⟩
      · rw [x1, bd1_s, if_neg x2]
        refine ⟨r, I, I, rfl, ?_, h⟩
        rcases x3 with ⟨rfl, x4⟩ | ⟨x4, x5, x6⟩ | ⟨rfl, x5, x6, x7⟩
        · rw [x4, bd1_s, if_pos rfl]
        · rw [x5, bd1_s, if_neg (by decide), x6, bd1_s, if_neg x4]
        · rw [x5, bd1_s, if_neg (by decide), x6, bd1_s, if_pos (by decide), nm_s, x7, bd1_s, if_pos rfl]
      · sorry
    · simp only [if_pos c1, if_neg c2]
      refine ⟨-1, I, I, rfl, ?_, h⟩
      rw [m_isLane, bd1_s, if_b, ite_self]
  · simp only [if_neg c1]
    refine ⟨-1, I, I, rfl, ?_, h⟩
    rw [m_isLane, bd1_s, if_b, ite_self]
