theorem ix7 (o k : Nat) : ((nI o + (7 : Int32)) + nI k) = nI (o + 7 + k) := by rw [show (7 : Int32) = nI 7 from rfl, nI_add, nI_add]
theorem ix13 (o k : Nat) : ((nI o + (13 : Int32)) + nI k) = nI (o + 13 + k) := by rw [show (13 : Int32) = nI 13 from rfl, nI_add, nI_add]
theorem ix19 (o k : Nat) : ((nI o + (19 : Int32)) + nI k) = nI (o + 19 + k) := by rw [show (19 : Int32) = nI 19 from rfl, nI_add, nI_add]
theorem ix25 (o k : Nat) : ((nI o + (25 : Int32)) + nI k) = nI (o + 25 + k) := by rw [show (25 : Int32) = nI 25 from rfl, nI_add, nI_add]
theorem ix31 (o k : Nat) : ((nI o + (31 : Int32)) + nI k) = nI (o + 31 + k) := by rw [show (31 : Int32) = nI 31 from rfl, nI_add, nI_add]
theorem ix37 (o k : Nat) : ((nI o + (37 : Int32)) + nI k) = nI (o + 37 + k) := by rw [show (37 : Int32) = nI 37 from rfl, nI_add, nI_add]
theorem ix43 (o k : Nat) : ((nI o + (43 : Int32)) + nI k) = nI (o + 43 + k) := by rw [show (43 : Int32) = nI 43 from rfl, nI_add, nI_add]
theorem ix49 (o k : Nat) : ((nI o + (49 : Int32)) + nI k) = nI (o + 49 + k) := by rw [show (49 : Int32) = nI 49 from rfl, nI_add, nI_add]
theorem ix55 (o k : Nat) : ((nI o + (55 : Int32)) + nI k) = nI (o + 55 + k) := by rw [show (55 : Int32) = nI 55 from rfl, nI_add, nI_add]
theorem ix61 (o k : Nat) : ((nI o + (61 : Int32)) + nI k) = nI (o + 61 + k) := by rw [show (61 : Int32) = nI 61 from rfl, nI_add, nI_add]
theorem ix67 (o k : Nat) : ((nI o + (67 : Int32)) + nI k) = nI (o + 67 + k) := by rw [show (67 : Int32) = nI 67 from rfl, nI_add, nI_add]
theorem iy1 (o : Nat) : (nI o + (1 : Int32)) = nI (o + 1) := by rw [show (1 : Int32) = nI 1 from rfl, nI_add]
theorem iy2 (o : Nat) : (nI o + (2 : Int32)) = nI (o + 2) := by rw [show (2 : Int32) = nI 2 from rfl, nI_add]
theorem iy3 (o : Nat) : (nI o + (3 : Int32)) = nI (o + 3) := by rw [show (3 : Int32) = nI 3 from rfl, nI_add]
theorem iy4 (o : Nat) : (nI o + (4 : Int32)) = nI (o + 4) := by rw [show (4 : Int32) = nI 4 from rfl, nI_add]
theorem iy5 (o : Nat) : (nI o + (5 : Int32)) = nI (o + 5) := by rw [show (5 : Int32) = nI 5 from rfl, nI_add]
theorem iy6 (o : Nat) : (nI o + (6 : Int32)) = nI (o + 6) := by rw [show (6 : Int32) = nI 6 from rfl, nI_add]
theorem iy7 (o : Nat) : (nI o + (7 : Int32)) = nI (o + 7) := by rw [show (7 : Int32) = nI 7 from rfl, nI_add]
theorem mmax0 (x : Int32) : mmax 0 x = if 0 ≤ x then x else 0 := by
  unfold mmax
  by_cases h : 0 < x
  · rw [if_pos h, if_pos (fa_of_lt h).1]
  · rw [if_neg h]
    by_cases h2 : 0 ≤ x
    · rw [if_pos h2]
      rw [fa_lt] at h
      rw [fa_le] at h2
      rw [fa_eq]
      omega
    · rw [if_neg h2]
theorem m_isNight {I : MI} {o : Nat} (L : ML) (ho : o + 73 ≤ 1752) : f_X11_isNight (nI o) I L = some (b01 (I 245 (o + 2) ≤ I 245 (o + 4) - I 245 (o + 4) / 24 * 24)) := by
  unfold f_X11_isNight
  simp (disch := omega) only [iy4, iy2, gi_n, cl_n, nm_s, some_if, if_01, bd1_s, gd_b]
  exact congrArg some (b01_iff (by rw [i32_nlt]))
theorem e012 {x : Int32} (h : rg x 0 2) : x = 0 ∨ x = 1 ∨ x = 2 := by
  rw [fa_eq, fa_eq, fa_eq]
  have z0 : (0 : Int32).toInt = 0 := rfl
  have z1 : (1 : Int32).toInt = 1 := rfl
  have z2 : (2 : Int32).toInt = 2 := rfl
  have := h.1; have := h.2
  omega
theorem e01 {x : Int32} (h : rg x 0 1) : x = 0 ∨ x = 1 := by
  rw [fa_eq, fa_eq]
  have z0 : (0 : Int32).toInt = 0 := rfl
  have z1 : (1 : Int32).toInt = 1 := rfl
  have := h.1; have := h.2
  omega
theorem i32_add0 (x : Int32) : x + 0 = x := by simp
theorem m_growthIn {I : MI} {o k : Nat} (sky : Int32) (L : ML) (ho : o + 73 ≤ 1752) (hk : k < 6) (hs : okR (mrec (I 245) o k)) : f_X11_growthIn (nI o) (nI k) sky I L = some (growR (mrec (I 245) o k) sky (b01 (I 245 (o + 2) ≤ I 245 (o + 4) - I 245 (o + 4) / 24 * 24))) := by
  have h7 := e012 hs.2.2.2.2.2.2.2.1
  have h9 := e01 hs.2.2.2.2.2.2.2.2.2.1
  unfold f_X11_growthIn
  simp (config := { maxSteps := 2000000 }) (disch := omega) only [ix7, ix25, ix61, ix31, ix49, ix19, ix55, gi_n, cl_n, nm_s, some_if, bd1_s, m_isNight L ho]
  generalize b01 (I 245 (o + 2) ≤ I 245 (o + 4) - I 245 (o + 4) / 24 * 24) = nt
  have m0 : mrec (I 245) o k 0 = I 245 (o + 7 + k) := by unfold mrec; rw [if_neg (by decide)]
  have m2 : mrec (I 245) o k 2 = I 245 (o + 19 + k) := by unfold mrec; rw [if_neg (by decide)]
  have m3 : mrec (I 245) o k 3 = I 245 (o + 25 + k) := by unfold mrec; rw [if_neg (by decide)]
  have m4 : mrec (I 245) o k 4 = I 245 (o + 31 + k) := by unfold mrec; rw [if_neg (by decide)]
  have m7 : mrec (I 245) o k 7 = I 245 (o + 49 + k) := by unfold mrec; rw [if_neg (by decide)]
  have m8 : mrec (I 245) o k 8 = I 245 (o + 55 + k) := by unfold mrec; rw [if_neg (by decide)]
  have m9 : mrec (I 245) o k 9 = I 245 (o + 61 + k) := by unfold mrec; rw [if_neg (by decide)]
  unfold growR
  rw [m7] at h7
  rw [m9] at h9
  simp only [m0, m2, m3, m4, m7, m8, m9, mmax0]
  generalize I 245 (o + 7 + k) = x0
  generalize I 245 (o + 19 + k) = x2 at *
  generalize I 245 (o + 25 + k) = x3 at *
  generalize I 245 (o + 31 + k) = x4 at *
  generalize I 245 (o + 49 + k) = x7 at *
  generalize I 245 (o + 55 + k) = x8 at *
  generalize I 245 (o + 61 + k) = x9 at *
  rcases h7 with rfl | rfl | rfl <;> rcases h9 with rfl | rfl <;> by_cases q2 : x0 = 2 <;> by_cases q3 : x0 = 3 <;> by_cases q4 : x0 = 4 <;> by_cases q5 : x0 = 5 <;> simp (decide := true) [q2, q3, q4, q5]
theorem ok_growth (a1 : Int32) (a2 : Int32) {I : MI} {L : ML} (h : Inv I L) : ∃ (r : Int32), f_X10_growth a1 a2 I L = some r ∧ f_X11_growth a1 a2 I L = some r ∧ Inv I L := by
  obtain ⟨n, hW, hR⟩ := h.1
  have hn := hW.1
  have e1 : I 245 1 = nI n := by rw [← hW.2.1]; exact (hR.2.1 1 (by omega) (by omega)).symm
  unfold f_X10_growth f_X11_growth
  rw [s_has a1 L hn hW.2.1, s_isSitter a1 L hn e1, bd1_s, bd1_s, if_b, if_b]
  rcases has_cases a1 hn with ⟨k, hk, rfl⟩ | hno
  · rw [if_pos (nI_sit hk hn), if_pos (nI_sit hk hn), show (0 : Int64) = (0 : Int32).toInt64 from rfl, show (2 : Int64) = (2 : Int32).toInt64 from rfl, s_in32, s_within, bd1_s, bd1_s, if_b, if_b, gi_n (by omega) (by omega), cl_n (by omega)]
    by_cases c : (0 : Int32) ≤ a2 ∧ a2 ≤ 2
    · rw [if_pos c, if_pos c, s_isNight, bd1_s, s_grows, bd1_s]
      have hm : ∀ f, f ≤ 10 → I (3 + 2 + k) f = mrec (I 245) 0 k f := fun f hf => hR.2.2.1 k f hk hf
      have hok : okR (mrec (I 245) 0 k) := okR_congr (fun f hf => (hm f hf).symm) (hW.2.2.2.2.2.2.2.2 k hk)
      have hg := m_growthIn (o := 0) a2 L (by omega) (by omega : k < 6) hok
      rw [show (0 : Int32) = nI 0 from rfl, hg, bd1_s, bd1_s]
      refine ⟨_, rfl, ?_, h⟩
      have hg2 : growR (mrec (I 245) 0 k) = growR (I (3 + 2 + k)) := by
        funext sk nt
        unfold growR
        rw [hm 0 (by omega), hm 2 (by omega), hm 3 (by omega), hm 4 (by omega), hm 7 (by omega), hm 8 (by omega), hm 9 (by omega)]
      rw [hg2]
      rw [show I 245 (0 + 2) = I 3 2 from (hR.2.1 2 (by omega) (by omega)).symm, show I 245 (0 + 4) = I 3 4 from (hR.2.1 4 (by omega) (by omega)).symm]
    · exact ⟨-1, by rw [if_neg c], by rw [if_neg c, bd1_s], h⟩
  · exact ⟨-1, by rw [if_neg hno], by rw [if_neg hno, bd1_s], h⟩
