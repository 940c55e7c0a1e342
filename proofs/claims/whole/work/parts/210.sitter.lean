/-! ===== sitter, growth, as, seed, feed ===== -/
theorem gi_l {β : Type} {j : Int32} (k : Nat) {n : Nat} {o : Option β} (e : j = nI k) (h : k < n) (hn : n < 2 ^ 31) : gi j n o = o := by
  rw [e]
  exact gi_n h hn
theorem cl_n {k : Nat} (h : k < 2 ^ 31) : (nI k).toNatClampNeg = k := nI_clamp h
theorem ok_sitter (a1 : Int32) (a2 : Int32) {I : MI} {L : ML} (h : Inv I L) : ∃ (r : Int32), f_X10_sitter a1 a2 I L = some r ∧ f_X11_sitter a1 a2 I L = some r ∧ Inv I L := by
  obtain ⟨n, hW, hR⟩ := h.1
  have hn := hW.1
  have e1 : I 245 1 = nI n := by rw [← hW.2.1]; exact (hR.2.1 1 (by omega) (by omega)).symm
  unfold f_X10_sitter f_X11_sitter
  rw [s_has a1 L hn hW.2.1, s_isSitter a1 L hn e1, bd1_s, bd1_s, if_b, if_b]
  rcases has_cases a1 hn with ⟨k, hk, rfl⟩ | hno
  · rw [if_pos (nI_sit hk hn), if_pos (nI_sit hk hn), show (0 : Int64) = (0 : Int32).toInt64 from rfl, show (10 : Int64) = (10 : Int32).toInt64 from rfl, s_in32, bd1_s, if_b, gi_n (by omega) (by omega), cl_n (by omega)]
    have hm := fun f hf => hR.2.2.1 k f hk hf
    have hok := hW.2.2.2.2.2.2.2.2 k hk
    by_cases c0 : a2 = (0 : Int32)
    · subst c0
      rw [if_pos (show (0 : Int32) ≤ (0 : Int32) ∧ (0 : Int32) ≤ 10 by decide), gi_l (7 + k) (by rw [← nI_add]; rfl) (by omega) (by omega), show ((7 : Int32) + (6 : Int32) * (0 : Int32) + nI k) = nI (7 + k) by (rw [← nI_add]; rfl), cl_n (by omega)]
      refine ⟨I (3 + 2 + k) 0, by simp (decide := true), ?_, h⟩
      rw [hm 0 (by omega)]
      simp (decide := true) [mrec, nm_s, bd1_s, some_if, show 0 + 7 + 6 * 0 + k = 7 + k by omega]
    by_cases c1 : a2 = (1 : Int32)
    · subst c1
      rw [if_pos (show (0 : Int32) ≤ (1 : Int32) ∧ (1 : Int32) ≤ 10 by decide), gi_l (13 + k) (by rw [← nI_add]; rfl) (by omega) (by omega), show ((7 : Int32) + (6 : Int32) * (1 : Int32) + nI k) = nI (13 + k) by (rw [← nI_add]; rfl), cl_n (by omega)]
      refine ⟨I (3 + 2 + k) 1, by simp (decide := true), ?_, h⟩
      rw [hm 1 (by omega)]
      simp (decide := true) [mrec, nm_s, bd1_s, some_if, show 0 + 7 + 6 * 1 + k = 13 + k by omega]
    by_cases c2 : a2 = (2 : Int32)
    · subst c2
      rw [if_pos (show (0 : Int32) ≤ (2 : Int32) ∧ (2 : Int32) ≤ 10 by decide), gi_l (19 + k) (by rw [← nI_add]; rfl) (by omega) (by omega), show ((7 : Int32) + (6 : Int32) * (2 : Int32) + nI k) = nI (19 + k) by (rw [← nI_add]; rfl), cl_n (by omega)]
      refine ⟨I (3 + 2 + k) 2, by simp (decide := true), ?_, h⟩
      rw [hm 2 (by omega)]
      simp (decide := true) [mrec, nm_s, bd1_s, some_if, show 0 + 7 + 6 * 2 + k = 19 + k by omega]
    by_cases c3 : a2 = (3 : Int32)
    · subst c3
      rw [if_pos (show (0 : Int32) ≤ (3 : Int32) ∧ (3 : Int32) ≤ 10 by decide), gi_l (25 + k) (by rw [← nI_add]; rfl) (by omega) (by omega), show ((7 : Int32) + (6 : Int32) * (3 : Int32) + nI k) = nI (25 + k) by (rw [← nI_add]; rfl), cl_n (by omega)]
      refine ⟨I (3 + 2 + k) 3, by simp (decide := true), ?_, h⟩
      rw [hm 3 (by omega)]
      simp (decide := true) [mrec, nm_s, bd1_s, some_if, show 0 + 7 + 6 * 3 + k = 25 + k by omega]
    by_cases c4 : a2 = (4 : Int32)
    · subst c4
      rw [if_pos (show (0 : Int32) ≤ (4 : Int32) ∧ (4 : Int32) ≤ 10 by decide), gi_l (31 + k) (by rw [← nI_add]; rfl) (by omega) (by omega), show ((7 : Int32) + (6 : Int32) * (4 : Int32) + nI k) = nI (31 + k) by (rw [← nI_add]; rfl), cl_n (by omega)]
      refine ⟨I (3 + 2 + k) 4, by simp (decide := true), ?_, h⟩
      rw [hm 4 (by omega)]
      simp (decide := true) [mrec, nm_s, bd1_s, some_if, show 0 + 7 + 6 * 4 + k = 31 + k by omega]
    by_cases c5 : a2 = (5 : Int32)
    · subst c5
      rw [if_pos (show (0 : Int32) ≤ (5 : Int32) ∧ (5 : Int32) ≤ 10 by decide), gi_l (37 + k) (by rw [← nI_add]; rfl) (by omega) (by omega), show ((7 : Int32) + (6 : Int32) * (5 : Int32) + nI k) = nI (37 + k) by (rw [← nI_add]; rfl), cl_n (by omega)]
      refine ⟨I (3 + 2 + k) 5, by simp (decide := true), ?_, h⟩
      rw [hm 5 (by omega)]
      simp (decide := true) [mrec, nm_s, bd1_s, some_if, show 0 + 7 + 6 * 5 + k = 37 + k by omega]
    by_cases c6 : a2 = (6 : Int32)
    · subst c6
      rw [if_pos (show (0 : Int32) ≤ (6 : Int32) ∧ (6 : Int32) ≤ 10 by decide), gi_l (43 + k) (by rw [← nI_add]; rfl) (by omega) (by omega), show ((7 : Int32) + (6 : Int32) * (6 : Int32) + nI k) = nI (43 + k) by (rw [← nI_add]; rfl), cl_n (by omega)]
      refine ⟨I (3 + 2 + k) 6, by simp (decide := true), ?_, h⟩
      rw [hm 6 (by omega)]
      simp (decide := true) [mrec, nm_s, bd1_s, some_if, show 0 + 7 + 6 * 6 + k = 43 + k by omega]
    by_cases c7 : a2 = (7 : Int32)
    · subst c7
      rw [if_pos (show (0 : Int32) ≤ (7 : Int32) ∧ (7 : Int32) ≤ 10 by decide), gi_l (49 + k) (by rw [← nI_add]; rfl) (by omega) (by omega), show ((7 : Int32) + (6 : Int32) * (7 : Int32) + nI k) = nI (49 + k) by (rw [← nI_add]; rfl), cl_n (by omega)]
      refine ⟨I (3 + 2 + k) 7, by simp (decide := true), ?_, h⟩
      rw [hm 7 (by omega)]
      simp (decide := true) [mrec, nm_s, bd1_s, some_if, show 0 + 7 + 6 * 7 + k = 49 + k by omega]
    by_cases c8 : a2 = (8 : Int32)
    · subst c8
      rw [if_pos (show (0 : Int32) ≤ (8 : Int32) ∧ (8 : Int32) ≤ 10 by decide), gi_l (55 + k) (by rw [← nI_add]; rfl) (by omega) (by omega), show ((7 : Int32) + (6 : Int32) * (8 : Int32) + nI k) = nI (55 + k) by (rw [← nI_add]; rfl), cl_n (by omega)]
      refine ⟨I (3 + 2 + k) 8, by simp (decide := true), ?_, h⟩
      rw [hm 8 (by omega)]
      simp (decide := true) [mrec, nm_s, bd1_s, some_if, show 0 + 7 + 6 * 8 + k = 55 + k by omega]
    by_cases c9 : a2 = (9 : Int32)
    · subst c9
      rw [if_pos (show (0 : Int32) ≤ (9 : Int32) ∧ (9 : Int32) ≤ 10 by decide), gi_l (61 + k) (by rw [← nI_add]; rfl) (by omega) (by omega), show ((7 : Int32) + (6 : Int32) * (9 : Int32) + nI k) = nI (61 + k) by (rw [← nI_add]; rfl), cl_n (by omega)]
      refine ⟨I (3 + 2 + k) 9, ?_, ?_, h⟩
      · have h9 := hok.2.2.2.2.2.2.2.2.2.1
        simp (decide := true) only [↓reduceIte, some_if, bd1_s]
        have e9 : I (3 + 2 + k) 9 = 0 ∨ I (3 + 2 + k) 9 = 1 := by
          rw [fa_eq, fa_eq]
          have z0 : (0 : Int32).toInt = 0 := rfl
          have z1 : (1 : Int32).toInt = 1 := rfl
          have := h9.1; have := h9.2
          omega
        rcases e9 with e | e <;> rw [e] <;> rfl
      · rw [hm 9 (by omega)]
        simp (decide := true) [mrec, nm_s, bd1_s, some_if, show 0 + 7 + 6 * 9 + k = 61 + k by omega]
    by_cases c10 : a2 = (10 : Int32)
    · subst c10
      rw [if_pos (show (0 : Int32) ≤ (10 : Int32) ∧ (10 : Int32) ≤ 10 by decide), gi_l (67 + k) (by rw [← nI_add]; rfl) (by omega) (by omega), show ((7 : Int32) + (6 : Int32) * (10 : Int32) + nI k) = nI (67 + k) by (rw [← nI_add]; rfl), cl_n (by omega)]
      refine ⟨I (3 + 2 + k) 10, by simp (decide := true), ?_, h⟩
      rw [hm 10 (by omega)]
      simp (decide := true) only [mrec, nm_s, bd1_s, some_if, show 0 + 67 + k = 67 + k by omega, ↓reduceIte]
      by_cases c : I 245 (67 + k) < 0
      · rw [if_pos c, if_neg (by rw [← i32_nlt]; exact fun q => q c)]
      · rw [if_neg c, if_pos (i32_nlt.mp c)]
    · refine ⟨-1, by rw [if_neg c0, if_neg c1, if_neg c2, if_neg c3, if_neg c4, if_neg c5, if_neg c6, if_neg c7, if_neg c8, if_neg c9, if_neg c10], ?_, h⟩
      rw [if_neg]
      intro q
      rw [fa_le, fa_le] at q
      rw [fa_eq] at c0 c1 c2 c3 c4 c5 c6 c7 c8 c9 c10
      have z0 : (0 : Int32).toInt = 0 := rfl
      have z1 : (1 : Int32).toInt = 1 := rfl
      have z2 : (2 : Int32).toInt = 2 := rfl
      have z3 : (3 : Int32).toInt = 3 := rfl
      have z4 : (4 : Int32).toInt = 4 := rfl
      have z5 : (5 : Int32).toInt = 5 := rfl
      have z6 : (6 : Int32).toInt = 6 := rfl
      have z7 : (7 : Int32).toInt = 7 := rfl
      have z8 : (8 : Int32).toInt = 8 := rfl
      have z9 : (9 : Int32).toInt = 9 := rfl
      have z10 : (10 : Int32).toInt = 10 := rfl
      omega
  · exact ⟨-1, by rw [if_neg hno], by rw [if_neg hno], h⟩
