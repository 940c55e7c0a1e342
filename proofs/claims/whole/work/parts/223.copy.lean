theorem e24b (k i z : Nat) : (((24 : Int32) * nI k) + nI i) + nI z = nI (24 * k + i + z) := by rw [e24, nI_add]
theorem m_held {I : MI} {L : ML} {k i m : Nat} (v3 v4 : Int32) (hk : k < 4) (hi : i + m ≤ 24) : lp (fun s => b_X11_copy_96 (nI k) (nI i) v3 v4 (nI m) I s.1 s.2) FU ((0 : Int32), L) = some (va_up L 253 (fun q => if q < m then L 247 (24 * k + i + q) else L 253 q)) := by
  refine lp_forF (fun z => (nI z, va_up L 253 (fun q => if q < z then L 247 (24 * k + i + q) else L 253 q))) m ?_ (fun z hz => ?_) ?_ (by omega)
  · refine Prod.ext rfl (funext fun a => ?_)
    by_cases e : a = 253
    · subst e; simp [va_up]
    · simp [va_up, e]
  · simp (disch := omega) only [b_X11_copy_96, if_neg (nI_ge hz (by omega)), e24b, gi_n, cl_n, nm_s, nI_1]
    refine congrArg (fun y => some (Sum.inl (nI (z + 1), y))) (funext fun a => funext fun q => ?_)
    rw [uq2_at]
    by_cases e : a = 253
    · subst e
      by_cases e2 : q = z
      · subst e2
        rw [if_pos ⟨rfl, rfl⟩]
        simp (decide := true) only [va_up, if_true, if_false, Nat.lt_succ_self]
      · rw [if_neg (fun w => e2 w.2)]
        have : (q < z + 1) = (q < z) := propext (by omega)
        simp only [va_up, if_true, this]
    · rw [if_neg (fun w => e w.1)]
      simp [va_up, e]
  · simp only [b_X11_copy_96, if_pos (nI_le (Nat.le_refl m) (by omega))]
theorem m_unheld {I : MI} {L : ML} {k i m : Nat} (hk : k < 4) (hi : i + m ≤ 24) : lp (fun s => b_X11_copy_133 (nI k) (nI i) (nI m) I s.1 s.2) FU ((0 : Int32), L) = some (va_up L 247 (fun q => if 24 * k + i ≤ q ∧ q < 24 * k + i + m then L 253 (q - (24 * k + i)) else L 247 q)) := by
  refine lp_forF (fun z => (nI z, va_up L 247 (fun q => if 24 * k + i ≤ q ∧ q < 24 * k + i + z then L 253 (q - (24 * k + i)) else L 247 q))) m ?_ (fun z hz => ?_) ?_ (by omega)
  · refine Prod.ext rfl (funext fun a => ?_)
    by_cases e : a = 247
    · subst e
      refine funext fun q => ?_
      have : ¬ (24 * k + i ≤ q ∧ q < 24 * k + i + 0) := by omega
      simp only [va_up, if_true, if_neg this]
    · simp [va_up, e]
  · simp (disch := omega) only [b_X11_copy_133, if_neg (nI_ge hz (by omega)), e24b, gi_n, cl_n, nm_s, nI_1]
    refine congrArg (fun y => some (Sum.inl (nI (z + 1), y))) (funext fun a => funext fun q => ?_)
    rw [uq2_at]
    by_cases e : a = 247
    · subst e
      by_cases e2 : q = 24 * k + i + z
      · subst e2
        rw [if_pos ⟨rfl, rfl⟩]
        have e3 : (24 * k + i ≤ 24 * k + i + z ∧ 24 * k + i + z < 24 * k + i + (z + 1)) = True := eq_true (by omega)
        have e4 : 24 * k + i + z - (24 * k + i) = z := by omega
        simp (decide := true) only [va_up, if_true, if_false, e3, e4]
      · rw [if_neg (fun w => e2 w.2)]
        have : (24 * k + i ≤ q ∧ q < 24 * k + i + (z + 1)) = (24 * k + i ≤ q ∧ q < 24 * k + i + z) := propext (by omega)
        simp only [va_up, if_true, this]
    · rw [if_neg (fun w => e w.1)]
      simp [va_up, e]
  · simp only [b_X11_copy_133, if_pos (nI_le (Nat.le_refl m) (by omega))]
theorem ok_copy (a1 : Int32) (a2 : Int32) (a3 : Int32) (a4 : Int32) (a5 : Int32) {I : MI} {L : ML} (h : Inv I L) : ∃ (r : Int32) (L1 : ML) (L2 : ML), f_X10_copy a1 a2 a3 a4 a5 I L = some (r, L1) ∧ f_X11_copy a1 a2 a3 a4 a5 I L1 = some (r, L2) ∧ Inv I L2 := by
  unfold f_X10_copy f_X11_copy
  simp only [s_within, bd1_s, if_b, m_isSheet, s_isNothing]
  by_cases c1 : (0 : Int32) ≤ a1 ∧ a1 ≤ 3
  · by_cases c2 : (0 : Int32) ≤ a3 ∧ a3 ≤ 3
    · simp only [if_pos c1, if_pos c2]
      obtain ⟨k, hk, rfl⟩ := (in_n (b := 3) (by omega)).mp c1
      obtain ⟨k2, hk2, rfl⟩ := (in_n (b := 3) (by omega)).mp c2
      simp (disch := omega) only [gi_n, cl_n]
      have m1 : (-1 : Int32).toInt = -1 := rfl
      have nn : ∀ b : Nat, b < 4 → ¬ nI b = (-1 : Int32) := fun b hb z => by
        rw [fa_eq, nI_bd (by omega)] at z
        omega
      rcases h.2.2.2.2.1 k (by omega) with ⟨x, y⟩ | ⟨b, n, hb, hn, q1, q2, q3, q4, q5⟩
      · simp only [if_pos x, y]
        exact ⟨-11, L, L, rfl, by rw [if_pos (by decide)], h⟩
      · simp only [q1, if_neg (nn b hb), q4, if_neg (nI_pos (show n < 2 ^ 31 by omega))]
        rcases h.2.2.2.2.1 k2 (by omega) with ⟨x, y⟩ | ⟨b2, n2, hb2, hn2, p1, p2, p3, p4, p5⟩
        · simp only [if_pos x, y]
          exact ⟨-11, L, L, rfl, by rw [if_neg (by decide)], h⟩
        · simp only [p1, if_neg (nn b2 hb2), p4, if_pos (nI_pos' (show n2 < 2 ^ 31 by omega)), q2, p2]
          by_cases e : b = b2
          · subst e
            simp only [if_true, s_holds _ _ L hn q3, s_holds _ _ L hn2 p3, bd1_s, if_b]
            simp only [fun (L : ML) => m_against (nI b) a2 a5 L (show k < 4 by omega) hn q4, fun (L : ML) => m_against (nI b) a4 a5 L (show k2 < 4 by omega) hn2 p4, q2, p2, if_true, bd1_s]
            by_cases d1 : 0 ≤ a2.toInt ∧ 0 ≤ a5.toInt ∧ a2.toInt + a5.toInt ≤ n
            · simp only [if_pos d1]
              by_cases d2 : 0 ≤ a4.toInt ∧ 0 ≤ a5.toInt ∧ a4.toInt + a5.toInt ≤ n2
              · simp only [if_pos d2]
                have z0 : (0 : Int32).toInt = 0 := rfl
                obtain ⟨i, hi, rfl⟩ := nI_of (x := a2) (by rw [fa_lt]; omega)
                obtain ⟨m, hm, rfl⟩ := nI_of (x := a5) (by rw [fa_lt]; omega)
                obtain ⟨j, hj, rfl⟩ := nI_of (x := a4) (by rw [fa_lt]; omega)
                rw [nI_bd hi, nI_bd hm] at d1
                rw [nI_bd hj, nI_bd hm] at d2
                rw [gd_t (by rw [cl_n hi, cl_n hm, cl_n hj]; exact ⟨nI_pos hi, nI_pos hj, nI_pos hm, by omega, by omega⟩), nm_s, cl_n hi, cl_n hm, cl_n hj]
                refine ⟨nI m, _, va_up (va_up (va_up L (199 + 2 * k2 + 1) (va_cpy (L (199 + 2 * k + 1)) (L (199 + 2 * k2 + 1)) i j m)) 253 (fun q => if q < m then L 247 (24 * k + i + q) else L 253 q)) 247 (fun q => if 24 * k2 + j ≤ q ∧ q < 24 * k2 + j + m then (if q - (24 * k2 + j) < m then L 247 (24 * k + i + (q - (24 * k2 + j))) else L 253 (q - (24 * k2 + j))) else L 247 q), rfl, ?_, h.shL (fun z hz => ?_)⟩
                · rw [if_neg (by decide), if_pos (by decide), m_held _ _ (by omega) (by omega), bd1_s, m_unheld (by omega) (by omega), bd1_s]
                  have f1 : (247 = 199 + 2 * k2 + 1) = False := eq_false (by omega)
                  have f2 : (253 = 199 + 2 * k2 + 1) = False := eq_false (by omega)
                  simp (decide := true) only [va_up, f1, f2, if_false, if_true]
                · rcases h.2.2.2.2.1 z hz with w | ⟨b3, n3, w1, w2, w3, w4, w5, w6, w7⟩
                  · exact Or.inl w
                  · refine Or.inr ⟨b3, n3, w1, w2, w3, w4, w5, w6, fun y hy => ?_⟩
                    have f1 : (200 + 2 * z = 247) = False := eq_false (by omega)
                    have f2 : (200 + 2 * z = 253) = False := eq_false (by omega)
                    by_cases ez : z = k2
                    · subst ez
                      have f3 : (200 + 2 * z = 199 + 2 * z + 1) = True := eq_true (by omega)
                      simp only [va_up, f1, f2, f3, if_false, if_true]
                      by_cases cy : j ≤ y ∧ y < j + m
                      · rw [pk_cpy_in cy.1 cy.2, if_pos (by omega), if_pos (by omega), show 199 + 2 * k + 1 = 200 + 2 * k by omega, q5 _ (by omega)]
                        exact congrArg (L 247) (by omega)
                      · rw [pk_cpy_out (by omega), if_neg (by omega), show 199 + 2 * z + 1 = 200 + 2 * z by omega]
                        exact w7 y hy
                    · have f3 : (200 + 2 * z = 199 + 2 * k2 + 1) = False := eq_false (by omega)
                      have f4 : (24 * k2 + j ≤ 24 * z + y ∧ 24 * z + y < 24 * k2 + j + m) = False := eq_false (by omega)
                      simp only [va_up, f1, f2, f3, f4, if_false, if_true]
                      exact w7 y hy
              · simp only [if_neg d2]
                exact ⟨-13, L, L, rfl, by rw [if_neg (by decide), if_neg (by decide)], h⟩
            · simp only [if_neg d1]
              exact ⟨-13, L, L, rfl, by rw [if_pos (by decide)], h⟩
          · have e2 : ¬ nI b = nI b2 := fun z => e ((nI_eq (by omega) (by omega)).mp z)
            simp only [if_neg e2]
            exact ⟨-12, L, L, rfl, rfl, h⟩
    · simp only [if_pos c1, if_neg c2]
      exact ⟨-1, L, L, rfl, rfl, h⟩
  · simp only [if_neg c1]
    exact ⟨-1, L, L, rfl, rfl, h⟩
