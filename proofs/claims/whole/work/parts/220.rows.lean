/-! ===== sheets: when a row is refused ===== -/
theorem lg_le {x y : Int64} : lg_cmp x y ≤ 0 ↔ x ≤ y := by
  rw [← i32_nlt, lg_gt, fa_lt64, fa_le64]
  omega
theorem nI_bd {n : Nat} (h : n < 2 ^ 31) : (nI n).toInt = (n : Int) := nI_toInt h
theorem s_holds {I : MI} {s z : Nat} (i n : Int32) (L : ML) (hz : z ≤ 24) (h : I s 1 = nI z) : f_X5_holds s i n I L = some (b01 (0 ≤ i.toInt ∧ 0 ≤ n.toInt ∧ i.toInt + n.toInt ≤ z)) := by
  simp only [f_X5_holds, some_if, bd1_s, if_01, if_0b, gd_b, h]
  refine congrArg some (b01_iff ?_)
  have hz2 := nI_bd (n := z) (by omega)
  have z0 : (0 : Int32).toInt = 0 := rfl
  have r1 := fb_rng i
  have r2 := fb_rng n
  rw [fa_lt, fa_lt n, fa_lt (nI z), fa_lt, hz2, z0]
  by_cases c : 0 ≤ i.toInt
  · rw [fb_subI (by rw [hz2]; omega) (by rw [hz2]; omega), hz2]
    omega
  · omega
theorem m_against {I : MI} {k z : Nat} (a2 a3 a4 : Int32) (L : ML) (hk : k < 4) (hz : z ≤ 24) (h : I 249 k = nI z) : f_X11_against (nI k) a2 a3 a4 I L = some (if I 248 k = a2 then (if 0 ≤ a3.toInt ∧ 0 ≤ a4.toInt ∧ a3.toInt + a4.toInt ≤ z then 0 else -13) else -12) := by
  have hz2 := nI_bd (n := z) (by omega)
  have z0 : (0 : Int32).toInt = 0 := rfl
  have r1 := fb_rng a3
  have r2 := fb_rng a4
  unfold f_X11_against
  simp (disch := omega) only [gi_n, cl_n, h, if_pos (nI_pos' (show z < 2 ^ 31 by omega)), some_if, bd1_s, lg_le]
  refine congrArg some ?_
  by_cases c : I 248 k = a2
  · rw [if_pos c, if_pos c]
    have e1 : a3 < 0 ↔ a3.toInt < 0 := by rw [fa_lt, z0]
    have e2 : a4 < 0 ↔ a4.toInt < 0 := by rw [fa_lt, z0]
    have e3 : a3.toInt64 + a4.toInt64 ≤ (nI z).toInt64 ↔ a3.toInt + a4.toInt ≤ z := by
      rw [fa_le64, fb_addL (by rw [Int32.toInt_toInt64, Int32.toInt_toInt64]; omega) (by rw [Int32.toInt_toInt64, Int32.toInt_toInt64]; omega), Int32.toInt_toInt64, Int32.toInt_toInt64, Int32.toInt_toInt64, hz2]
    by_cases c1 : a3 < 0
    · rw [if_pos c1, if_neg (fun q => by have := e1.mp c1; omega)]
    · rw [if_neg c1]
      have c1' : ¬ a3.toInt < 0 := fun q => c1 (e1.mpr q)
      by_cases c2 : a4 < 0
      · rw [if_pos c2, if_neg (fun q => by have := e2.mp c2; omega)]
      · rw [if_neg c2]
        have c2' : ¬ a4.toInt < 0 := fun q => c2 (e2.mpr q)
        by_cases c3 : a3.toInt64 + a4.toInt64 ≤ (nI z).toInt64
        · rw [if_pos c3, if_pos ⟨by omega, by omega, e3.mp c3⟩]
        · rw [if_neg c3, if_neg (fun q => c3 (e3.mpr q.2.2))]
  · rw [if_neg c, if_neg c]
theorem m_againstN {I : MI} {k : Nat} (a2 a3 a4 : Int32) (L : ML) (hk : k < 4) (h : I 249 k = -1) : f_X11_against (nI k) a2 a3 a4 I L = some (-11) := by
  unfold f_X11_against
  simp (disch := omega) only [gi_n, cl_n, h]
  rw [if_neg (by decide)]
theorem against_congr {I I' : MI} {L L' : ML} (a1 a2 a3 a4 : Int32) (h1 : I' 248 = I 248) (h2 : I' 249 = I 249) : f_X11_against a1 a2 a3 a4 I' L' = f_X11_against a1 a2 a3 a4 I L := by
  unfold f_X11_against
  rw [h1, h2]
theorem m_isSheet (a : Int32) : f_X11_isSheet a = some (b01 ((0 : Int32) ≤ a ∧ a ≤ 3)) := by
  unfold f_X11_isSheet
  rw [show (0 : Int64) = (0 : Int32).toInt64 from rfl, show (3 : Int64) = (3 : Int32).toInt64 from rfl, s_in32, bd1_s, gd_b]
theorem m_isLane (a b : Int32) : f_X11_isLane a b = some (b01 (((0 : Int32) ≤ a ∧ a ≤ 3) ∧ ((0 : Int32) ≤ b ∧ b ≤ 3))) := by
  unfold f_X11_isLane
  rw [m_isSheet, bd1_s, show (0 : Int64) = (0 : Int32).toInt64 from rfl, show (3 : Int64) = (3 : Int32).toInt64 from rfl, s_in32, bd1_s, if_b, if_b]
  simp only [some_if, if_10, if_b0, bd1_s, gd_b]
theorem s_isNothing (s : Nat) (I : MI) (L : ML) : f_X5_isNothing s I L = some (b01 (I s 0 = -1)) := by
  simp only [f_X5_isNothing, some_if, if_10, bd1_s, gd_b]
/-- a row that is asked for is there, or it is refused, alike on both sides -/
theorem row_cases {I : MI} {L : ML} (hS : InvS I L) (a1 a2 a3 a4 : Int32) :
    (∃ r : Int32, f_X10_refusesRow a1 a2 a3 a4 I L = some r ∧ r ≠ 0 ∧ ((r = -1 ∧ f_X11_isLane a1 a2 = some 0) ∨ (¬ 0 ≤ r ∧ f_X11_isLane a1 a2 = some 1 ∧ f_X11_against a1 a2 a3 a4 I L = some r))) ∨
    (∃ k a n i m : Nat, k < 4 ∧ a < 4 ∧ n ≤ 24 ∧ i + m ≤ n ∧ a1 = nI k ∧ a2 = nI a ∧ a3 = nI i ∧ a4 = nI m ∧ I (199 + 2 * k) 0 = nI a ∧ I 248 k = nI a ∧ I (199 + 2 * k) 1 = nI n ∧ I 249 k = nI n ∧ (∀ i, i < 24 → L (200 + 2 * k) i = L 247 (24 * k + i)) ∧ f_X10_refusesRow a1 a2 a3 a4 I L = some 0 ∧ f_X11_isLane a1 a2 = some 1 ∧ f_X11_against a1 a2 a3 a4 I L = some 0) := by
  unfold f_X10_refusesRow
  simp only [s_within, bd1_s, if_b, m_isLane]
  by_cases c1 : (0 : Int32) ≤ a1 ∧ a1 ≤ 3
  · by_cases c2 : (0 : Int32) ≤ a2 ∧ a2 ≤ 3
    · obtain ⟨k, hk, rfl⟩ := (in_n (b := 3) (by omega)).mp c1
      obtain ⟨a, ha, rfl⟩ := (in_n (b := 3) (by omega)).mp c2
      rw [if_pos c1, if_pos c2, gi_n (by omega) (by omega), cl_n (by omega), s_isNothing, bd1_s, if_b, b01_t ⟨c1, c2⟩]
      rcases hS k (by omega) with ⟨x, y⟩ | ⟨b, n, hb, hn, q1, q2, q3, q4, q5⟩
      · rw [if_pos x]
        exact Or.inl ⟨-11, rfl, by decide, Or.inr ⟨by decide, rfl, m_againstN _ _ _ L (by omega) y⟩⟩
      · have nb : ¬ I (199 + 2 * k) 0 = -1 := fun z => by
          rw [q1, fa_eq, nI_bd (by omega)] at z
          have e : (-1 : Int32).toInt = -1 := rfl
          omega
        rw [if_neg nb, s_holds a3 a4 L hn q3, bd1_s, if_b, m_against _ _ _ L (by omega) hn q4, q1, q2]
        by_cases e : b = a
        · subst e
          rw [if_pos rfl, if_pos rfl]
          by_cases c3 : 0 ≤ a3.toInt ∧ 0 ≤ a4.toInt ∧ a3.toInt + a4.toInt ≤ n
          · rw [if_pos c3, if_pos c3]
            obtain ⟨i, hi, rfl⟩ := nI_of (x := a3) (by rw [fa_lt]; have e : (0 : Int32).toInt = 0 := rfl; omega)
            obtain ⟨m, hm, rfl⟩ := nI_of (x := a4) (by rw [fa_lt]; have e : (0 : Int32).toInt = 0 := rfl; omega)
            rw [nI_bd hi, nI_bd hm] at c3
            exact Or.inr ⟨k, b, n, i, m, by omega, hb, hn, by omega, rfl, rfl, rfl, rfl, q1, q2, q3, q4, q5, rfl, rfl, rfl⟩
          · rw [if_neg c3, if_neg c3]
            exact Or.inl ⟨-13, rfl, by decide, Or.inr ⟨by decide, rfl, rfl⟩⟩
        · have e2 : ¬ nI b = nI a := fun z => e ((nI_eq (by omega) (by omega)).mp z)
          rw [if_neg e2, if_neg e2]
          exact Or.inl ⟨-12, rfl, by decide, Or.inr ⟨by decide, rfl, rfl⟩⟩
    · rw [if_pos c1, if_neg c2, b01_f (fun q => c2 q.2)]
      exact Or.inl ⟨-1, rfl, by decide, Or.inl ⟨rfl, rfl⟩⟩
  · rw [if_neg c1, b01_f (fun q => c1 q.1)]
    exact Or.inl ⟨-1, rfl, by decide, Or.inl ⟨rfl, rfl⟩⟩
