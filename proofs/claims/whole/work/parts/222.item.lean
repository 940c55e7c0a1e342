theorem Inv.sh {I I' : MI} {L L' : ML} (h : Inv I L) (tr : ∀ i, (i < 199 ∨ 206 ≤ i) → i ≠ 248 → i ≠ 249 → I' i = I i) (t6 : ∀ i, kd i = 6 → I' i = I i) (hS : InvS I' L') : Inv I' L' := by
  obtain ⟨hC, hU, hI, hB, -, hT⟩ := h
  exact ⟨hC.congr (tr _ (by omega) (by omega) (by omega)) (fun k hk => tr _ (by omega) (by omega) (by omega)) (fun j _ => by rw [tr _ (by omega) (by omega) (by omega)]), hU.congr (tr _ (by omega) (by omega) (by omega)) (fun i _ _ => tr _ (by omega) (by omega) (by omega)) (by rw [tr _ (by omega) (by omega) (by omega)]) (fun j _ _ => by rw [tr _ (by omega) (by omega) (by omega)]), hI.congr (fun i _ _ => tr _ (by omega) (by omega) (by omega)) (tr _ (by omega) (by omega) (by omega)) (fun j _ _ => by rw [tr _ (by omega) (by omega) (by omega)]), fun i hi => by rw [t6 i hi]; exact hB i hi, hS, hT.congr (by rw [tr _ (by omega) (by omega) (by omega)]) (tr _ (by omega) (by omega) (by omega)) (by rw [tr _ (by omega) (by omega) (by omega)]) (tr _ (by omega) (by omega) (by omega))⟩
theorem Inv.shL {I : MI} {L L' : ML} (h : Inv I L) (hS : InvS I L') : Inv I L' := ⟨h.1, h.2.1, h.2.2.1, h.2.2.2.1, hS, h.2.2.2.2.2⟩
theorem ok_drop (a1 : Int32) {I : MI} {L : ML} (h : Inv I L) : ∃ (r : Int32) (I1 : MI) (I2 : MI), f_X10_drop a1 I L = some (r, I1) ∧ f_X11_drop a1 I1 L = some (r, I2) ∧ Inv I2 L := by
  unfold f_X10_drop f_X11_drop f_X5_becomeNothing
  simp only [s_within, bd1_s, if_b, m_isSheet, nm_s, s_isNothing]
  by_cases c1 : (0 : Int32) ≤ a1 ∧ a1 ≤ 3
  · simp only [if_pos c1]
    obtain ⟨k, hk, rfl⟩ := (in_n (b := 3) (by omega)).mp c1
    simp (disch := omega) only [gi_n, cl_n]
    rcases h.2.2.2.2.1 k (by omega) with ⟨x, y⟩ | ⟨b, n, hb, hn, q1, q2, q3, q4, q5⟩
    · refine ⟨-11, I, I, by rw [if_pos x], by rw [y, if_neg (by decide)], h⟩
    · have nb : ¬ I (199 + 2 * k) 0 = -1 := fun z => by
        rw [q1, fa_eq, nI_bd (by omega)] at z
        have e : (-1 : Int32).toInt = -1 := rfl
        omega
      have e9 : up2 (up2 I (199 + 2 * k) 0 (-1)) (199 + 2 * k) 1 0 249 k = nI n := by rw [up2_ne (by omega), up2_ne (by omega)]; exact q4
      refine ⟨nI n, _, up2 (up2 (up2 I (199 + 2 * k) 0 (-1)) (199 + 2 * k) 1 0) 249 k (-1), by rw [if_neg nb, q3], by rw [e9, if_pos (nI_pos' (by omega))], h.sh (fun i q1 q2 q3 => by rw [up2_ne q3, up2_ne (by omega), up2_ne (by omega)]) (fun i hi => by
        have e1 : i ≠ 249 := fun q => by rw [q] at hi; exact absurd hi (by decide)
        have e2 : i ≠ 199 + 2 * k := fun q => by rw [q, kd_sh' k (by omega)] at hi; exact absurd hi (by decide)
        rw [up2_ne e1, up2_ne e2, up2_ne e2]) (fun j hj => ?_)⟩
      by_cases e : j = k
      · subst e
        exact Or.inl ⟨by rw [up2_ne (by omega), up2_n (by decide), up2_s], up2_s⟩
      · rcases h.2.2.2.2.1 j hj with ⟨x, y⟩ | ⟨b2, m, q⟩
        · exact Or.inl ⟨by rw [up2_ne (by omega), up2_ne (by omega), up2_ne (by omega)]; exact x, by rw [up2_n e, up2_ne (by omega), up2_ne (by omega)]; exact y⟩
        · refine Or.inr ⟨b2, m, ?_⟩
          rw [up2_ne (show 199 + 2 * j ≠ 249 by omega), up2_ne (show 199 + 2 * j ≠ 199 + 2 * k by omega), up2_ne (show 199 + 2 * j ≠ 199 + 2 * k by omega), up2_ne (show (248 : Nat) ≠ 249 by omega), up2_ne (show (248 : Nat) ≠ 199 + 2 * k by omega), up2_ne (show (248 : Nat) ≠ 199 + 2 * k by omega), up2_n e, up2_ne (show (249 : Nat) ≠ 199 + 2 * k by omega), up2_ne (show (249 : Nat) ≠ 199 + 2 * k by omega)]
          exact q
  · simp only [if_neg c1]
    exact ⟨-1, I, I, rfl, rfl, h⟩
/-- the lowest bits of a lane -/
def cutL (a : Nat) (v : Int64) : Int64 := if a = 0 then v.toInt32.toInt8.toInt32.toInt64 else if a = 1 then v.toInt32.toInt16.toInt32.toInt64 else if a = 2 then v.toInt32.toInt64 else v
theorem s_cut {I : MI} {s a : Nat} (v : Int64) (L : ML) (ha : a < 4) (h : I s 0 = nI a) : f_X5_cut s v I L = some (cutL a v) := by
  unfold f_X5_cut cutL
  rw [nm_s, h]
  rcases (show a = 0 ∨ a = 1 ∨ a = 2 ∨ a = 3 by omega) with rfl | rfl | rfl | rfl <;> rfl
theorem m_cut {a : Nat} (v : Int64) (ha : a < 4) : f_X11_cut (nI a) v = some (cutL a v) := by
  unfold f_X11_cut cutL
  rcases (show a = 0 ∨ a = 1 ∨ a = 2 ∨ a = 3 by omega) with rfl | rfl | rfl | rfl <;> rfl
theorem s_put {I : MI} {s a n i : Nat} (v : Int64) (L : ML) (ha : a < 4) (hn : n ≤ 24) (hi : i < n) (h0 : I s 0 = nI a) (h1 : I s 1 = nI n) : f_X5_put s (nI i) v I L = some (uq2 L (s + 1) i (cutL a v)) := by
  unfold f_X5_put
  rw [s_holds _ _ L hn h1, bd1_s, if_b, if_pos, s_cut v L ha h0, bd1_s, gi_n (by omega) (by omega), cl_n (by omega), nm_s, bd1_s]
  rw [nI_bd (by omega)]
  have e : (1 : Int32).toInt = 1 := rfl
  omega
theorem ok_item (a1 : Int32) (a2 : Int32) (a3 : Int32) (a4 : Int64) {I : MI} {L : ML} (h : Inv I L) : ∃ (r : Int64) (L1 : ML) (L2 : ML), f_X10_item a1 a2 a3 a4 I L = some (r, L1) ∧ f_X11_item a1 a2 a3 a4 I L1 = some (r, L2) ∧ Inv I L2 := by
  unfold f_X10_item f_X11_item
  rcases row_cases h.2.2.2.2.1 a1 a2 a3 1 with ⟨r, e1, e2, e3⟩ | ⟨k, a, n, i, m, hk, ha, hn, him, rfl, rfl, rfl, e4, q1, q2, q3, q4, q5, e1, e2, e3⟩
  · rw [e1, bd1_s, if_neg e2]
    rcases e3 with ⟨rfl, e4⟩ | ⟨e4, e5, e6⟩
    · exact ⟨_, L, L, rfl, by rw [e4, bd1_s, if_pos rfl]; rfl, h⟩
    · exact ⟨_, L, L, rfl, by rw [e5, bd1_s, if_neg (by decide), e6, bd1_s, if_neg e4], h⟩
  · have hm : m = 1 := by
      have : nI 1 = nI m := e4
      exact ((nI_eq (by omega) (by omega)).mp this).symm
    subst hm
    rw [e1, bd1_s, if_pos rfl, gi_n (by omega) (by omega), cl_n (by omega), s_put a4 L ha hn (by omega) q1 q3, bd1_s, gi_n (by omega) (by omega), cl_n (by omega)]
    refine ⟨cutL a a4, _, uq2 (uq2 L (199 + 2 * k + 1) i (cutL a a4)) 247 (24 * k + i) (cutL a a4), by rw [uq2_at, if_pos ⟨rfl, rfl⟩], ?_, h.shL (fun j hj => ?_)⟩
    · rw [e2, bd1_s, if_neg (by decide), against_congr (L := L) _ _ _ _ rfl rfl, e3, bd1_s, if_pos (by decide), m_cut a4 ha, bd1_s, e24, gi_n (by omega) (by omega), cl_n (by omega), nm_s, gi_n (by omega) (by omega), uq2_at, if_pos ⟨rfl, rfl⟩]
    · rcases h.2.2.2.2.1 j hj with x | ⟨b, z, p1, p2, p3, p4, p5, p6, p7⟩
      · exact Or.inl x
      · refine Or.inr ⟨b, z, p1, p2, p3, p4, p5, p6, fun y hy => ?_⟩
        rw [uq2_at, uq2_at, uq2_at, uq2_at]
        by_cases e : j = k
        · subst e
          by_cases ey : y = i
          · subst ey
            rw [if_neg (by omega), if_pos (by omega), if_pos (by omega)]
          · rw [if_neg (by omega), if_neg (by omega), if_neg (by omega), if_neg (by omega)]
            exact p7 y hy
        · rw [if_neg (by omega), if_neg (by omega), if_neg (by omega), if_neg (by omega)]
          exact p7 y hy
