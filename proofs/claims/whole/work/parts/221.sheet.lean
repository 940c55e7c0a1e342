/-- a sheet's row, all 0 -/
theorem s_begin {I : MI} {L : ML} {s : Nat} (a n : Int32) : f_X5_begin s a n I L = some (up2 (up2 I s 0 a) s 1 n, va_up L (s + 1) (fun i => if i < 24 then 0 else L (s + 1) i)) := by
  unfold f_X5_begin
  simp only [nm_s]
  refine (bd1_of (lp_forF (fun k => (nI k, va_up L (s + 1) (fun i => if i < k then 0 else L (s + 1) i))) 24 ?_ (fun k hk => ?_) (x := va_up L (s + 1) (fun i => if i < 24 then 0 else L (s + 1) i)) ?_ (by omega))).trans rfl
  · refine Prod.ext rfl (funext fun a => ?_)
    by_cases e : a = s + 1
    · subst e; simp [va_up]
    · simp [va_up, e]
  · simp (disch := omega) only [b_X5_begin_12, if_neg (show ¬ (24 : Int32) ≤ nI k from nI_ge (b := 24) hk (by omega)), gi_n, cl_n, nm_s, nI_1]
    refine congrArg (fun z => some (Sum.inl (nI (k + 1), z))) (funext fun a => funext fun i => ?_)
    rw [uq2_at]
    by_cases e : a = s + 1
    · subst e
      by_cases e2 : i = k
      · subst e2; simp [va_up]
      · have : (i < k + 1) = (i < k) := propext (by omega)
        simp [va_up, e2, this]
    · simp [va_up, e]
  · simp only [b_X5_begin_12, if_pos (show (24 : Int32) ≤ nI 24 by decide)]
theorem e24 (k z : Nat) : ((24 : Int32) * nI k) + nI z = nI (24 * k + z) := by rw [show (24 : Int32) = nI 24 from rfl, pk_mul, nI_add]
theorem m_zero {I : MI} {L : ML} {k : Nat} (v3 : Int32) (hk : k < 4) : lp (fun s => b_X11_sheet_51 (nI k) v3 I s.1 s.2) FU ((0 : Int32), L) = some (va_up L 247 (fun i => if 24 * k ≤ i ∧ i < 24 * k + 24 then 0 else L 247 i)) := by
  refine lp_forF (fun z => (nI z, va_up L 247 (fun i => if 24 * k ≤ i ∧ i < 24 * k + z then 0 else L 247 i))) 24 ?_ (fun z hz => ?_) ?_ (by omega)
  · refine Prod.ext rfl (funext fun a => ?_)
    by_cases e : a = 247
    · subst e
      refine funext fun i => ?_
      have : ¬ (24 * k ≤ i ∧ i < 24 * k + 0) := by omega
      simp only [va_up, if_true, if_neg this]
    · simp [va_up, e]
  · simp (disch := omega) only [b_X11_sheet_51, if_neg (show ¬ (24 : Int32) ≤ nI z from nI_ge (b := 24) hz (by omega)), e24, gi_n, cl_n, nm_s, nI_1]
    refine congrArg (fun y => some (Sum.inl (nI (z + 1), y))) (funext fun a => funext fun i => ?_)
    rw [uq2_at]
    by_cases e : a = 247
    · subst e
      by_cases e2 : i = 24 * k + z
      · subst e2
        rw [if_pos ⟨rfl, rfl⟩]
        simp only [va_up, if_true]
        rw [if_pos (by omega)]
      · rw [if_neg (fun q => e2 q.2)]
        simp only [va_up, if_true]
        by_cases c : 24 * k ≤ i ∧ i < 24 * k + z
        · rw [if_pos c, if_pos (by omega)]
        · rw [if_neg c, if_neg (by omega)]
    · simp [va_up, e]
  · simp only [b_X11_sheet_51, if_pos (show (24 : Int32) ≤ nI 24 by decide)]
theorem ok_sheet (a1 : Int32) (a2 : Int32) (a3 : Int32) {I : MI} {L : ML} (h : Inv I L) : ∃ (r : Int32) (I1 : MI) (L1 : ML) (I2 : MI) (L2 : ML), f_X10_sheet a1 a2 a3 I L = some (r, I1, L1) ∧ f_X11_sheet a1 a2 a3 I1 L1 = some (r, I2, L2) ∧ Inv I2 L2 := by
  unfold f_X10_sheet f_X11_sheet
  simp only [s_within, bd1_s, if_b, m_isSheet, show (0 : Int64) = (0 : Int32).toInt64 from rfl, show (3 : Int64) = (3 : Int32).toInt64 from rfl, s_in32]
  by_cases c1 : (0 : Int32) ≤ a1 ∧ a1 ≤ 3
  · by_cases c2 : (0 : Int32) ≤ a2 ∧ a2 ≤ 3
    · simp only [if_pos c1, if_pos c2]
      by_cases c3 : a3 ≤ 24
      · by_cases c4 : 0 ≤ a3
        · simp only [if_pos c3, if_pos c4]
          obtain ⟨k, hk, rfl⟩ := (in_n (b := 3) (by omega)).mp c1
          obtain ⟨a, ha, rfl⟩ := (in_n (b := 3) (by omega)).mp c2
          obtain ⟨n, hn, rfl⟩ := (in_n (b := 24) (by omega)).mp ⟨c4, c3⟩
          simp (disch := omega) only [gi_n, cl_n, nm_s, s_begin, bd2_s, m_zero, bd1_s]
          refine ⟨_, _, _, _, _, rfl, rfl, ?_⟩
          obtain ⟨hC, hU, hI, hB, hS, hT⟩ := h
          have tr : ∀ i, i ≠ 199 + 2 * k → i ≠ 248 → i ≠ 249 → up2 (up2 (up2 (up2 I (199 + 2 * k) 0 (nI a)) (199 + 2 * k) 1 (nI n)) 248 k (nI a)) 249 k (nI n) i = I i := fun i q1 q2 q3 => by rw [up2_ne q3, up2_ne q2, up2_ne q1, up2_ne q1]
          refine ⟨hC.congr (tr _ (by omega) (by omega) (by omega)) (fun k hk => tr _ (by omega) (by omega) (by omega)) (fun j _ => by rw [tr _ (by omega) (by omega) (by omega)]), hU.congr (tr _ (by omega) (by omega) (by omega)) (fun i _ _ => tr _ (by omega) (by omega) (by omega)) (by rw [tr _ (by omega) (by omega) (by omega)]) (fun j _ _ => by rw [tr _ (by omega) (by omega) (by omega)]), hI.congr (fun i _ _ => tr _ (by omega) (by omega) (by omega)) (tr _ (by omega) (by omega) (by omega)) (fun j _ _ => by rw [tr _ (by omega) (by omega) (by omega)]), fun i hi => ?_, fun j hj => ?_, hT.congr (by rw [tr _ (by omega) (by omega) (by omega)]) (tr _ (by omega) (by omega) (by omega)) (by rw [tr _ (by omega) (by omega) (by omega)]) (tr _ (by omega) (by omega) (by omega))⟩
          · rw [tr i (fun q => by rw [q, kd_sh' k (by omega)] at hi; exact absurd hi (by decide)) (fun q => by rw [q] at hi; exact absurd hi (by decide)) (fun q => by rw [q] at hi; exact absurd hi (by decide))]
            exact hB i hi
          · by_cases e : j = k
            · subst e
              refine Or.inr ⟨a, n, by omega, hn, ?_, ?_, ?_, ?_, fun i hi => ?_⟩
              · rw [up2_ne (by omega), up2_ne (by omega), up2_n (by decide), up2_s]
              · rw [up2_ne (by omega), up2_s]
              · rw [up2_ne (by omega), up2_ne (by omega), up2_s]
              · rw [up2_s]
              · have e1 : (200 + 2 * j = 247) = False := eq_false (by omega)
                have e2 : (200 + 2 * j = 199 + 2 * j + 1) = True := eq_true (by omega)
                have e3 : (24 * j ≤ 24 * j + i ∧ 24 * j + i < 24 * j + 24) = True := eq_true (by omega)
                have e4 : (i < 24) = True := eq_true hi
                simp only [va_up, e1, e2, e3, e4, if_true, if_false]
            · rcases hS j hj with ⟨x, y⟩ | ⟨b, m, q⟩
              · exact Or.inl ⟨by rw [tr _ (by omega) (by omega) (by omega)]; exact x, by rw [up2_n e, up2_ne (by omega), up2_ne (by omega), up2_ne (by omega)]; exact y⟩
              · refine Or.inr ⟨b, m, ?_⟩
                rw [tr _ (by omega) (by omega) (by omega), up2_ne (show (248 : Nat) ≠ 249 by omega), up2_n e, up2_n e, up2_ne (show (248 : Nat) ≠ 199 + 2 * k by omega), up2_ne (show (248 : Nat) ≠ 199 + 2 * k by omega), up2_ne (show (249 : Nat) ≠ 248 by omega), up2_ne (show (249 : Nat) ≠ 199 + 2 * k by omega), up2_ne (show (249 : Nat) ≠ 199 + 2 * k by omega)]
                obtain ⟨q1, q2, q3, q4, q5, q6, q7⟩ := q
                refine ⟨q1, q2, q3, q4, q5, q6, fun i hi => ?_⟩
                have e1 : (200 + 2 * j = 247) = False := eq_false (by omega)
                have e2 : (200 + 2 * j = 199 + 2 * k + 1) = False := eq_false (by omega)
                have e3 : (24 * k ≤ 24 * j + i ∧ 24 * j + i < 24 * k + 24) = False := eq_false (by omega)
                have e5 : (247 = 199 + 2 * k + 1) = False := eq_false (by omega)
                simp only [va_up, e1, e2, e3, e5, if_true, if_false]
                exact q7 i hi
        · simp only [if_pos c3, if_neg c4]
          exact ⟨-14, I, L, I, L, rfl, rfl, h⟩
      · simp only [if_neg c3]
        exact ⟨-1, I, L, I, L, rfl, rfl, h⟩
    · simp only [if_pos c1, if_neg c2]
      exact ⟨-1, I, L, I, L, rfl, rfl, h⟩
  · simp only [if_neg c1]
    exact ⟨-1, I, L, I, L, rfl, rfl, h⟩
