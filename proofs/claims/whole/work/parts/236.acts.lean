theorem nI0 {n : Nat} (hn : n ≤ 6) : (0 : Int32) < nI n ↔ 0 < n := by
  have z : (0 : Int32).toInt = 0 := rfl
  rw [fa_lt, nI_bd (by omega), z]
  omega
theorem i73 (k : Nat) : (73 : Int32) * ((1 : Int32) + nI k) = nI (73 * (1 + k)) := by
  rw [show (1 : Int32) = nI 1 from rfl, nI_add, show (73 : Int32) = nI 73 from rfl, pk_mul]
theorem gi00 {β : Type} {o : Option β} : gi (0 : Int32) 1752 o = o := gi_t (vp_in_nI (n := 0) (by omega) (by omega))
theorem c0' : (0 : Int32).toNatClampNeg = 0 := rfl
theorem m_sit0 {I : MI} {n : Nat} (L : ML) (hn : n ≤ 6) (h : I 245 1 = nI n) : f_X11_sittingIn (0 : Int32) I L = some (bx_sum (fun k => b01 (¬ 0 ≤ I 245 (0 + 67 + k))) n) := m_sittingIn (o := 0) L (by omega) hn h
theorem ok_image (a1 : Int32) {I : MI} {L : ML} (h : Inv I L) : ∃ (r : Int32) (I1 : MI) (I2 : MI), f_X10_image a1 I L = some (r, I1) ∧ f_X11_image a1 I1 L = some (r, I2) ∧ Inv I2 L := by
  obtain ⟨n, hW, hR⟩ := h.1
  have hn := hW.1
  have e1 := RW.n1 hW hR
  obtain ⟨hC, hU, hI, hB, hS, hT⟩ := h
  unfold f_X10_image f_X11_image
  rw [s_within, bd1_s, if_b, s_stands, bd1_s, if_b, show (0 : Int64) = (0 : Int32).toInt64 from rfl, show (1 : Int64) = (1 : Int32).toInt64 from rfl, s_in32]
  simp only [bd1_s, if_b, gi00, c0']
  by_cases c1 : (0 : Int32) ≤ a1 ∧ a1 ≤ 1
  · simp only [if_pos c1]
    obtain ⟨k, hk, rfl⟩ := (in_n (b := 1) (by omega)).mp c1
    rw [hW.2.1]
    by_cases c2 : n = 0
    · rw [if_neg (fun q => by have := (nI0 hn).mp q; omega)]
      refine ⟨-2, I, I, rfl, ?_, hC, hU, hI, hB, hS, hT⟩
      rw [if_pos (show I 245 0 = 0 by rw [hR.1, if_pos c2])]
    · rw [if_pos ((nI0 hn).mpr (by omega)), gi_n (by omega) (by omega), cl_n (by omega), s9_take L (by omega) (hB.at (by omega) (by decide)), bd1_s, s_sitting L hn (by rw [tk_o (by omega)]; exact hW.2.1), bd1_s]
      generalize hT1 : tkN I (182 + 8 * k) 3 6 = T
      have t0 : ∀ i, (i < 182 + 8 * k ∨ 182 + 8 * k + 8 ≤ i) → T i = I i := fun i a => by rw [← hT1, tk_o a]
      have t1 : ∀ j, 1 ≤ j → j ≤ 6 → T (182 + 8 * k) j = I 3 j := fun j a b => by rw [← hT1, tk_h a b]
      have t2 : ∀ q f, q < 6 → f ≤ 10 → T (182 + 8 * k + 2 + q) f = I (3 + 2 + q) f := fun q f a b => by rw [← hT1, tk_s a b]
      have t5 : InvB T := by rw [← hT1]; exact tk_B hB (by omega) (by decide)
      refine ⟨bx_sum (fun q => b01 (I (3 + 2 + q) 10 = -4)) n, T, up2 (cpR T 0 (73 * (1 + k)) 73) 246 k 1, ?_, ?_, ?_⟩
      · refine congrArg (fun z => some (z, T)) (bx_sum_congr (fun q hq => ?_))
        rw [t0 _ (by omega)]
      · rw [if_neg (show ¬ T 245 0 = 0 by rw [t0 _ (by omega), hR.1, if_neg c2]; decide), i73, show (0 : Int32) = nI 0 from rfl, m_copyRow L (by omega) (by omega) (by omega), bd1_s, gi_n (by omega) (by omega), nm_s]
        rw [show nI 0 = (0 : Int32) from rfl, m_sit0 L hn (by rw [up2_ne (by omega), cpR_n (by omega), t0 _ (by omega)]; exact e1), bd1_s]
        refine congrArg (fun z => some (z, up2 (cpR T 0 (73 * (1 + k)) 73) 246 k 1)) ?_
        rw [← sit_eq hR]
        refine bx_sum_congr (fun q hq => ?_)
        rw [up2_ne (by omega), cpR_n (by omega), t0 _ (by omega)]
      · have c0 : ∀ i, i ≠ 245 → i ≠ 246 → up2 (cpR T 0 (73 * (1 + k)) 73) 246 k 1 i = T i := fun i a b => by rw [up2_ne b, cpR_o a]
        have c5 : ∀ j, (j < 73 * (1 + k) ∨ 73 * (1 + k) + 73 ≤ j) → up2 (cpR T 0 (73 * (1 + k)) 73) 246 k 1 245 j = I 245 j := fun j a => by rw [up2_ne (by omega), cpR_n a, t0 _ (by omega)]
        have c6 : ∀ j, j < 73 → up2 (cpR T 0 (73 * (1 + k)) 73) 246 k 1 245 (73 * (1 + k) + j) = I 245 (0 + j) := fun j a => by rw [up2_ne (by omega), cpR_i a, t0 _ (by omega)]
        refine ⟨hC.congr (by rw [c0 _ (by omega) (by omega), t0 _ (by omega)]) (fun q hq => by rw [c0 _ (by omega) (by omega), t0 _ (by omega)]) (fun j hj => c5 j (by omega)), hU.congr (by rw [c0 _ (by omega) (by omega), t0 _ (by omega)]) (fun i a b => by rw [c0 _ (by omega) (by omega), t0 _ (by omega)]) (by rw [c0 _ (by omega) (by omega), t0 _ (by omega)]) (fun j a b => c5 j (by omega)), ?_, ?_, ?_, ?_⟩
        · intro q hq
          by_cases e : q = k
          · subst e
            refine Or.inr ⟨up2_s, n, by omega, hW.congr (fun j a b => by rw [c0 _ (by omega) (by omega), t1 j a b]) (fun z hz f hf => by rw [c0 _ (by omega) (by omega), t2 z f (by omega) hf]), hR.congr hn (fun j a b => by rw [c0 _ (by omega) (by omega), t1 j a b]) (fun z hz f hf => by rw [c0 _ (by omega) (by omega), t2 z f (by omega) hf]) (fun j hj => c6 j hj)⟩
          · rcases hI q hq with ⟨a, b⟩ | ⟨a, m, hm, x, y⟩
            · exact Or.inl ⟨by rw [c0 _ (by omega) (by omega), t0 _ (by omega)]; exact a, by rw [up2_n e, cpR_o (by omega), t0 _ (by omega)]; exact b⟩
            · have h6 := x.1
              refine Or.inr ⟨by rw [up2_n e, cpR_o (by omega), t0 _ (by omega)]; exact a, m, hm, x.congr (fun j _ _ => by rw [c0 _ (by omega) (by omega), t0 _ (by omega)]) (fun z hz f _ => by rw [c0 _ (by omega) (by omega), t0 _ (by omega)]), y.congr h6 (fun j _ _ => by rw [c0 _ (by omega) (by omega), t0 _ (by omega)]) (fun z hz f _ => by rw [c0 _ (by omega) (by omega), t0 _ (by omega)]) (fun j hj => c5 _ (by omega))⟩
        · exact t5.cg (fun i hi => by
            have z5 : i ≠ 245 := fun q => by rw [q] at hi; exact absurd hi (by decide)
            have z4 : i ≠ 246 := fun q => by rw [q] at hi; exact absurd hi (by decide)
            rw [c0 i z5 z4])
        · exact hS.congr (fun k hk => by rw [c0 _ (by omega) (by omega), t0 _ (by omega)]) (by rw [c0 _ (by omega) (by omega), t0 _ (by omega)]) (by rw [c0 _ (by omega) (by omega), t0 _ (by omega)]) (fun _ _ => rfl) rfl
        · exact hT.congr (by rw [c0 _ (by omega) (by omega), t0 _ (by omega)]) (by rw [c0 _ (by omega) (by omega), t0 _ (by omega)]) (by rw [c0 _ (by omega) (by omega), t0 _ (by omega)]) (by rw [c0 _ (by omega) (by omega), t0 _ (by omega)])
  · simp only [if_neg c1]
    exact ⟨-1, I, I, rfl, rfl, hC, hU, hI, hB, hS, hT⟩
theorem ok_restore (a1 : Int32) {I : MI} {L : ML} (h : Inv I L) : ∃ (r : Int32) (I1 : MI) (I2 : MI), f_X10_restore a1 I L = some (r, I1) ∧ f_X11_restore a1 I1 L = some (r, I2) ∧ Inv I2 L := by
  obtain ⟨hC, hU, hI, hB, hS, hT⟩ := h
  unfold f_X10_restore f_X11_restore
  rw [s_within, bd1_s, if_b, s_stands, show (0 : Int64) = (0 : Int32).toInt64 from rfl, show (1 : Int64) = (1 : Int32).toInt64 from rfl, s_in32]
  simp only [bd1_s, if_b]
  by_cases c1 : (0 : Int32) ≤ a1 ∧ a1 ≤ 1
  · simp only [if_pos c1]
    obtain ⟨k, hk, rfl⟩ := (in_n (b := 1) (by omega)).mp c1
    rw [gi_n (by omega) (by omega), cl_n (by omega), gi_n (by omega) (by omega)]
    rcases hI k (by omega) with ⟨a, b⟩ | ⟨a, n, hm, hW, hR⟩
    · rw [a, if_neg (by decide)]
      exact ⟨-2, I, I, rfl, by rw [gi_n (by omega) (by omega), b, if_pos rfl], hC, hU, hI, hB, hS, hT⟩
    · have hn := hW.1
      rw [hW.2.1, if_pos ((nI0 hn).mpr hm), s9_take L (by omega) (hB.at (by omega) (kd_img' k (by omega))), bd1_s]
      unfold f_X3_forget
      rw [nm_s, bd1_s]
      generalize hT1 : tkN I 3 (182 + 8 * k) 6 = T
      have t0 : ∀ i, (i < 3 ∨ 11 ≤ i) → T i = I i := fun i a => by rw [← hT1, tk_o (by omega)]
      have t1 : ∀ j, 1 ≤ j → j ≤ 6 → T 3 j = I (182 + 8 * k) j := fun j a b => by rw [← hT1, tk_h a b]
      have t2 : ∀ q f, q < 6 → f ≤ 10 → T (3 + 2 + q) f = I (182 + 8 * k + 2 + q) f := fun q f a b => by rw [← hT1, tk_s a b]
      have t5 : InvB T := by rw [← hT1]; exact tk_B hB (by omega) (kd_img' k (by omega))
      rw [s_sitting L hn (by rw [up2_ne (by omega), t1 1 (by omega) (by omega)]; exact hW.2.1), bd1_s]
      refine ⟨bx_sum (fun q => b01 (I (182 + 8 * k + 2 + q) 10 = -4)) n, up2 T 19 2 0, up2 (cpR (up2 T 19 2 0) (73 * (1 + k)) 0 73) 244 2 0, ?_, ?_, ?_⟩
      · refine congrArg (fun z => some (z, up2 T 19 2 0)) (bx_sum_congr (fun q hq => ?_))
        rw [up2_ne (by omega), t2 q 10 (by omega) (by omega)]
      · have e6 : up2 T 19 2 0 246 k = 1 := by rw [up2_ne (by omega), t0 _ (by omega)]; exact a
        rw [gi_n (by omega) (by omega), e6, if_neg (by decide), i73, show f_X11_copyRow (nI (73 * (1 + k))) (0 : Int32) = f_X11_copyRow (nI (73 * (1 + k))) (nI 0) from rfl, m_copyRow L (by omega) (by omega) (by omega), bd1_s, nm_s, m_sit0 (n := n) L hn (by
          rw [up2_ne (by omega), show 1 = 0 + 1 by omega, cpR_i (by omega), up2_ne (by omega), t0 _ (by omega), ← hW.2.1]
          exact (hR.2.1 1 (by omega) (by omega)).symm), bd1_s]
        refine congrArg (fun z => some (z, up2 (cpR (up2 T 19 2 0) (73 * (1 + k)) 0 73) 244 2 0)) ?_
        rw [← sit_eq hR]
        refine bx_sum_congr (fun q hq => ?_)
        rw [up2_ne (by omega), show 0 + 67 + q = 0 + (67 + q) by omega, cpR_i (by omega), up2_ne (by omega), t0 _ (by omega), show 73 * (1 + k) + (67 + q) = 73 * (1 + k) + 67 + q by omega]
      · have c0 : ∀ i, i ≠ 245 → i ≠ 244 → i ≠ 19 → up2 (cpR (up2 T 19 2 0) (73 * (1 + k)) 0 73) 244 2 0 i = T i := fun i a b c => by rw [up2_ne b, cpR_o a, up2_ne c]
        have c5 : ∀ j, 73 ≤ j → up2 (cpR (up2 T 19 2 0) (73 * (1 + k)) 0 73) 244 2 0 245 j = I 245 j := fun j a => by rw [up2_ne (by omega), cpR_n (by omega), up2_ne (by omega), t0 _ (by omega)]
        have c6 : ∀ j, j < 73 → up2 (cpR (up2 T 19 2 0) (73 * (1 + k)) 0 73) 244 2 0 245 (0 + j) = I 245 (73 * (1 + k) + j) := fun j a => by rw [up2_ne (by omega), cpR_i a, up2_ne (by omega), t0 _ (by omega)]
        obtain ⟨u, p, hu, hp, q1, q2, q3, q4⟩ := hU
        refine ⟨⟨n, hW.congr (fun j a b => by rw [c0 _ (by omega) (by omega) (by omega), t1 j a b]) (fun z hz f hf => by rw [c0 _ (by omega) (by omega) (by omega), t2 z f (by omega) hf]), hR.congr hn (fun j a b => by rw [c0 _ (by omega) (by omega) (by omega), t1 j a b]) (fun z hz f hf => by rw [c0 _ (by omega) (by omega) (by omega), t2 z f (by omega) hf]) (fun j hj => c6 j hj)⟩, ⟨0, p, by omega, hp, by rw [up2_ne (by omega), cpR_o (by omega), up2_s]; rfl, up2_s, by rw [up2_ne (by omega), cpR_o (by omega), up2_n (by decide), t0 _ (by omega)]; exact q3, fun j hj => absurd hj (by omega)⟩, ?_, ?_, ?_, ?_⟩
        · exact hI.congr (fun i a b => by rw [c0 _ (by omega) (by omega) (by omega), t0 _ (by omega)]) (by rw [c0 _ (by omega) (by omega) (by omega), t0 _ (by omega)]) (fun j a b => c5 j a)
        · exact t5.cg (fun i hi => by
            have z5 : i ≠ 245 := fun q => by rw [q] at hi; exact absurd hi (by decide)
            have z4 : i ≠ 244 := fun q => by rw [q] at hi; exact absurd hi (by decide)
            have z9 : i ≠ 19 := fun q => by rw [q] at hi; exact absurd hi (by decide)
            rw [c0 i z5 z4 z9])
        · exact hS.congr (fun k hk => by rw [c0 _ (by omega) (by omega) (by omega), t0 _ (by omega)]) (by rw [c0 _ (by omega) (by omega) (by omega), t0 _ (by omega)]) (by rw [c0 _ (by omega) (by omega) (by omega), t0 _ (by omega)]) (fun _ _ => rfl) rfl
        · exact hT.congr (by rw [c0 _ (by omega) (by omega) (by omega), t0 _ (by omega)]) (by rw [c0 _ (by omega) (by omega) (by omega), t0 _ (by omega)]) (by rw [up2_n (by decide), cpR_o (by omega), up2_ne (by omega), t0 _ (by omega)]) (by rw [c0 _ (by omega) (by omega) (by omega), t0 _ (by omega)])
  · simp only [if_neg c1]
    exact ⟨-1, I, I, rfl, rfl, hC, hU, hI, hB, hS, hT⟩
