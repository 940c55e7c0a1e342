theorem ok_feed (a1 : Int32) {I : MI} {L : ML} (h : Inv I L) : ∃ (r : Int32) (I1 : MI) (I2 : MI), f_X10_feed a1 I L = some (r, I1) ∧ f_X11_feed a1 I1 L = some (r, I2) ∧ Inv I2 L := by
  obtain ⟨t, h1, h2, h3, h4⟩ := h.2.2.2.2.2
  unfold f_X10_feed f_X11_feed f_X7_put
  simp only [s_within, bd1_s, if_b, show (0 : Int64) = (0 : Int32).toInt64 from rfl, show (255 : Int64) = (255 : Int32).toInt64 from rfl, s_in32, nm_s, h2]
  by_cases c : (0 : Int32) ≤ a1 ∧ a1 ≤ 255
  · simp only [if_pos c]
    by_cases ct : t = 90
    · subst ct
      refine ⟨-3, I, I, ?_, ?_, h⟩
      · rw [if_neg (by decide)]; rfl
      · rw [h3]; rfl
    · have hlt : nI t < (90 : Int32) := nI_lt (a := t) (b := 90) (by omega) (by omega)
      rw [if_pos hlt, gi_n (by omega) (by omega), cl_n (by omega)]
      simp only [up2_ne (show (1 : Nat) ≠ 2 by decide), h2, bd2_s, up2_s]
      refine ⟨nI t + 1, _, up2 (up2 (up2 (up2 I 2 t a1) 1 1 (nI t + 1)) 250 t a1) 244 7 (nI t + 1), rfl, ?_, ?_⟩
      · have e1 : up2 (up2 I 2 t a1) 1 1 (nI t + 1) 244 7 = nI t := by rw [up2_ne (by decide), up2_ne (by decide)]; exact h3
        rw [e1, if_neg (show ¬ nI t = (90 : Int32) from fun q => ct ((nI_eq (a := t) (b := 90) (by omega) (by omega)).mp q)), gi_n (by omega) (by omega), cl_n (by omega), up2_ne (show (244 : Nat) ≠ 250 by decide), e1]
      · have tr : ∀ i, i ≠ 1 → i ≠ 2 → i ≠ 244 → i ≠ 250 → up2 (up2 (up2 (up2 I 2 t a1) 1 1 (nI t + 1)) 250 t a1) 244 7 (nI t + 1) i = I i := fun i q1 q2 q3 q4 => by rw [up2_ne q3, up2_ne q4, up2_ne q1, up2_ne q2]
        obtain ⟨hC, hU, hI, hB, hS, hT⟩ := h
        refine ⟨hC.congr (tr _ (by decide) (by decide) (by decide) (by decide)) (fun k hk => tr _ (by omega) (by omega) (by omega) (by omega)) (fun j _ => by rw [tr _ (by decide) (by decide) (by decide) (by decide)]), hU.congr (tr _ (by decide) (by decide) (by decide) (by decide)) (fun i _ _ => tr _ (by omega) (by omega) (by omega) (by omega)) (by rw [up2_n (by decide), up2_ne (by decide), up2_ne (by decide), up2_ne (by decide)]) (fun j _ _ => by rw [tr _ (by decide) (by decide) (by decide) (by decide)]), hI.congr (fun i _ _ => tr _ (by omega) (by omega) (by omega) (by omega)) (tr _ (by decide) (by decide) (by decide) (by decide)) (fun j _ _ => by rw [tr _ (by decide) (by decide) (by decide) (by decide)]), fun i hi => ?_, hS.congr (fun k hk => tr _ (by omega) (by omega) (by omega) (by omega)) (tr _ (by decide) (by decide) (by decide) (by decide)) (tr _ (by decide) (by decide) (by decide) (by decide)) (fun _ _ => rfl) rfl, t + 1, by omega, ?_, ?_, fun j hj => ?_⟩
        · rw [tr i (fun q => by rw [q] at hi; exact absurd hi (by decide)) (fun q => by rw [q] at hi; exact absurd hi (by decide)) (fun q => by rw [q] at hi; exact absurd hi (by decide)) (fun q => by rw [q] at hi; exact absurd hi (by decide))]
          exact hB i hi
        · rw [up2_ne (by decide), up2_ne (by decide), up2_s, nI_1]
        · rw [up2_s, nI_1]
        · rw [up2_ne (by decide), up2_ne (by decide), up2_ne (by decide), up2_ne (show (250 : Nat) ≠ 244 by decide)]
          by_cases e : j = t
          · subst e
            rw [up2_s, up2_s]
            have q1 := c.1
            have q2 := c.2
            rw [fa_le] at q1 q2
            exact ⟨rfl, q1, q2⟩
          · rw [up2_n e, up2_n e, up2_ne (by decide), up2_ne (by decide)]
            exact h4 j (by omega)
  · simp only [if_neg c]
    exact ⟨-1, I, I, rfl, rfl, h⟩
