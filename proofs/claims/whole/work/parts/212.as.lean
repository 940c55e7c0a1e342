theorem s_under {I : MI} (L : ML) : ∀ (a b : Nat), 1 ≤ a → a ≤ 5 → b ≤ 5 → f_X10_isUnder (nI a) (nI b) I L = some (b01 (b = 0 ∨ b = a ∨ (b = 1 ∧ a < 4) ∨ (b = 4 ∧ a = 5))) := by
  intro a b h1 h2 h3
  rcases (show a = 1 ∨ a = 2 ∨ a = 3 ∨ a = 4 ∨ a = 5 by omega) with rfl | rfl | rfl | rfl | rfl <;> rcases (show b = 0 ∨ b = 1 ∨ b = 2 ∨ b = 3 ∨ b = 4 ∨ b = 5 by omega) with rfl | rfl | rfl | rfl | rfl | rfl <;> rfl
theorem rg_n {x : Int32} {a b : Nat} (h : rg x a b) (hb : b < 2 ^ 31) : ∃ k : Nat, a ≤ k ∧ k ≤ b ∧ x = nI k := by
  obtain ⟨k, hk, rfl⟩ := nI_of (x := x) (by rw [i32_nlt, fa_le]; have := h.1; have z0 : (0 : Int32).toInt = 0 := rfl; omega)
  have h1 := h.1
  have h2 := h.2
  rw [nI_toInt hk] at h1 h2
  exact ⟨k, by omega, by omega, rfl⟩
theorem in_n {a : Int32} {b : Nat} (hb : b < 2 ^ 31) : ((0 : Int32) ≤ a ∧ a ≤ nI b) ↔ ∃ k, k ≤ b ∧ a = nI k := by
  constructor
  · intro ⟨h1, h2⟩
    obtain ⟨k, hk, rfl⟩ := nI_of (x := a) (i32_nlt.mpr h1)
    exact ⟨k, (nI_leI hk hb).mp h2, rfl⟩
  · rintro ⟨k, hk, rfl⟩
    exact ⟨nI_pos' (by omega), nI_le hk hb⟩
theorem ok_as (a1 : Int32) (a2 : Int32) {I : MI} {L : ML} (h : Inv I L) : ∃ (r : Int32), f_X10_as a1 a2 I L = some r ∧ f_X11_as a1 a2 I L = some r ∧ Inv I L := by
  obtain ⟨n, hW, hR⟩ := h.1
  have hn := hW.1
  have e1 : I 245 1 = nI n := by rw [← hW.2.1]; exact (hR.2.1 1 (by omega) (by omega)).symm
  unfold f_X10_as f_X11_as
  rw [s_has a1 L hn hW.2.1, s_isSitter a1 L hn e1, bd1_s, bd1_s, if_b, if_b]
  rcases has_cases a1 hn with ⟨k, hk, rfl⟩ | hno
  · rw [if_pos (nI_sit hk hn), if_pos (nI_sit hk hn), show (0 : Int64) = (0 : Int32).toInt64 from rfl, show (5 : Int64) = (5 : Int32).toInt64 from rfl, s_in32, s_within, bd1_s, bd1_s, if_b, if_b, gi_n (by omega) (by omega), cl_n (by omega)]
    by_cases c : (0 : Int32) ≤ a2 ∧ a2 ≤ 5
    · rw [if_pos c, if_pos c]
      obtain ⟨b, hb, rfl⟩ := (in_n (b := 5) (by omega)).mp c
      obtain ⟨a, h1, h2, ha⟩ := rg_n (a := 1) (b := 5) (hW.2.2.2.2.2.2.2.2 k hk).1 (by omega)
      have hm : I 245 (7 + k) = nI a := by
        have := hR.2.2.1 k 0 hk (by omega)
        rw [ha] at this
        rw [this]
        unfold mrec
        rw [if_neg (by decide), show 0 + 7 + 6 * 0 + k = 7 + k by omega]
      rw [show (7 : Int32) + nI k = nI (7 + k) by (rw [← nI_add]; rfl), gi_n (by omega) (by omega), cl_n (by omega), nm_s, hm, ha, s_under L a b h1 h2 hb]
      rcases (show a = 1 ∨ a = 2 ∨ a = 3 ∨ a = 4 ∨ a = 5 by omega) with rfl | rfl | rfl | rfl | rfl <;> rcases (show b = 0 ∨ b = 1 ∨ b = 2 ∨ b = 3 ∨ b = 4 ∨ b = 5 by omega) with rfl | rfl | rfl | rfl | rfl | rfl <;> exact ⟨_, rfl, rfl, h⟩
    · exact ⟨-1, by rw [if_neg c], by rw [if_neg c], h⟩
  · exact ⟨-1, by rw [if_neg hno], by rw [if_neg hno], h⟩
theorem ok_seed (a1 : Int32) {I : MI} {L : ML} (h : Inv I L) : ∃ (r : Int32) (I1 : MI) (I2 : MI), f_X10_seed a1 I L = some (r, I1) ∧ f_X11_seed a1 I1 L = some (r, I2) ∧ Inv I2 L := by
  unfold f_X10_seed f_X11_seed
  simp only [s_within, bd1_s, if_b, show (1 : Int64) = (1 : Int32).toInt64 from rfl, show (2147483646 : Int64) = (2147483646 : Int32).toInt64 from rfl, s_in32, nm_s]
  by_cases c : (1 : Int32) ≤ a1 ∧ a1 ≤ 2147483646
  · simp only [if_pos c, gi_l 6 (show (6 : Int32) = nI 6 from rfl) (show 6 < 1752 by omega) (by omega), show (6 : Int32).toNatClampNeg = 6 from rfl, up2_ne (show (245 : Nat) ≠ 3 by decide)]
    obtain ⟨⟨n, hW, hR⟩, hU, hI, hB, hS, hT⟩ := h
    have hn := hW.1
    have e6 : I 3 6 = I 245 6 := hR.2.1 6 (by omega) (by omega)
    refine ⟨_, _, _, rfl, by rw [up2_ne (by decide), e6], ⟨n, ?_, ?_⟩, ?_, ?_, ?_, ?_, ?_⟩
    · obtain ⟨b1, b2, b3, b4, b5, b6, b7, b8, b9⟩ := hW
      refine ⟨b1, ?_, ?_, ?_, ?_, ?_, ?_, ?_, fun k hk => okR_congr (fun f _ => ?_) (b9 k hk)⟩
      · rw [up2_ne (by decide), up2_n (by decide)]; exact b2
      · rw [up2_ne (by decide), up2_n (by decide)]; exact b3
      · rw [up2_ne (by decide), up2_n (by decide)]; exact b4
      · rw [up2_ne (by decide), up2_n (by decide)]; exact b5
      · rw [up2_ne (by decide), up2_n (by decide)]; exact b6
      · rw [up2_ne (by decide), up2_s]
        have h1 := c.1
        have h2 := c.2
        rw [fa_le] at h1 h2
        exact ⟨h1, h2⟩
      · rw [up2_ne (by decide), up2_n (by decide)]; exact b8
      · rw [up2_ne (by omega), up2_ne (by omega)]
    · obtain ⟨b1, b2, b3, b4⟩ := hR
      refine ⟨?_, fun j h1 h2 => ?_, fun k f hk hf => ?_, fun k hk => ?_⟩
      · rw [up2_n (by decide), up2_ne (by decide)]; exact b1
      · by_cases e : j = 6
        · subst e; rw [up2_ne (by decide), up2_s, up2_s]
        · rw [up2_ne (by decide), up2_n e, up2_n (by omega), up2_ne (by decide)]; exact b2 j h1 h2
      · rw [up2_ne (by omega), up2_ne (by omega), b3 k f hk hf]
        unfold mrec
        rw [up2_n (by omega), up2_n (by omega), up2_ne (by decide)]
      · rw [up2_n (by omega), up2_ne (by decide)]; exact b4 k hk
    · exact hU.congr (by rw [up2_ne (by decide), up2_ne (by decide)]) (fun i h1 h2 => by rw [up2_ne (by omega), up2_ne (by omega)]) (by rw [up2_ne (by decide), up2_ne (by decide)]) (fun j h1 h2 => by rw [up2_n (by omega), up2_ne (by decide)])
    · exact hI.congr (fun i h1 h2 => by rw [up2_ne (by omega), up2_ne (by omega)]) (by rw [up2_ne (by decide), up2_ne (by decide)]) (fun j h1 h2 => by rw [up2_n (by omega), up2_ne (by decide)])
    · intro i hi
      have e3 : i ≠ 3 := fun q => by rw [q] at hi; exact absurd hi (by decide)
      have e4 : i ≠ 245 := fun q => by rw [q] at hi; exact absurd hi (by decide)
      rw [up2_ne e4, up2_ne e3]
      exact hB i hi
    · exact hS.congr (fun k hk => by rw [up2_ne (by omega), up2_ne (by omega)]) (by rw [up2_ne (by decide), up2_ne (by decide)]) (by rw [up2_ne (by decide), up2_ne (by decide)]) (fun _ _ => rfl) rfl
    · exact hT.congr (by rw [up2_ne (by decide), up2_ne (by decide)]) (by rw [up2_ne (by decide), up2_ne (by decide)]) (by rw [up2_ne (by decide), up2_ne (by decide)]) (by rw [up2_ne (by decide), up2_ne (by decide)])
  · simp only [if_neg c]
    exact ⟨-1, I, I, rfl, rfl, h⟩
