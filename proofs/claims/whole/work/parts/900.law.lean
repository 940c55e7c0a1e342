theorem lg_self (x : Int64) : lg_cmp x x = 0 := by
  unfold lg_cmp
  rw [if_neg (fun h => Int64.lt_irrefl h), if_pos rfl]
theorem z3_in {k Lx j : Nat} (h : 7 * k + 7 ≤ Lx) (hL : Lx ≤ 448) (hj : j < 7) : vp_in (nI (7 * k) + nI j) Lx := by
  rw [nI_add]
  exact vp_in_nI (by omega) (by omega)
set_option maxHeartbeats 4000000 in
theorem law_step (xs : Nat → Int32) {Lx k : Nat} (hL : Lx ≤ 448) (hk : 7 * k + 7 ≤ Lx) {I : MI} {L : ML} (h : Inv I L) : ∃ (I' : MI) (L' : ML), b_L_law_18 xs Lx (nI (7 * k)) I L = some (.inl (nI (7 * (k + 1)), I', L')) ∧ Inv I' L' := by
  have hc : ¬ ((Int32.ofNat Lx) - (7 : Int32)) < nI (7 * k) := by
    have e : (Int32.ofNat Lx) - (7 : Int32) = nI (Lx - 7) := pk_sub (a := Lx) (b := 7) (by omega)
    rw [e]
    exact nI_nlt (by omega) (by omega)
  have g0 : ∀ {β : Type} (o : Option β), gi (nI (7 * k)) Lx o = o := fun o => gi_n (by omega) (by omega)
  have g1 : ∀ {β : Type} (o : Option β), gi (nI (7 * k) + (1 : Int32)) Lx o = o := fun o => gi_t (z3_in (j := 1) hk hL (by omega))
  have g2 : ∀ {β : Type} (o : Option β), gi (nI (7 * k) + (2 : Int32)) Lx o = o := fun o => gi_t (z3_in (j := 2) hk hL (by omega))
  have g3 : ∀ {β : Type} (o : Option β), gi (nI (7 * k) + (3 : Int32)) Lx o = o := fun o => gi_t (z3_in (j := 3) hk hL (by omega))
  have g4 : ∀ {β : Type} (o : Option β), gi (nI (7 * k) + (4 : Int32)) Lx o = o := fun o => gi_t (z3_in (j := 4) hk hL (by omega))
  have g5 : ∀ {β : Type} (o : Option β), gi (nI (7 * k) + (5 : Int32)) Lx o = o := fun o => gi_t (z3_in (j := 5) hk hL (by omega))
  have g6 : ∀ {β : Type} (o : Option β), gi (nI (7 * k) + (6 : Int32)) Lx o = o := fun o => gi_t (z3_in (j := 6) hk hL (by omega))
  have e7 : nI (7 * k) + (7 : Int32) = nI (7 * (k + 1)) := by
    rw [show 7 * (k + 1) = 7 * k + 7 by omega, ← nI_add]
    rfl
  unfold b_L_law_18
  rw [if_neg hc, g0, nm_s]
  generalize (xs (nI (7 * k)).toNatClampNeg) &&& (63 : Int32) = x3
  by_cases q0 : x3 = (0 : Int32)
  · rw [if_pos q0]
    obtain ⟨r, I1, I2, h1, h2, h3⟩ := ok_feed (xs ((nI (7 * k)) + (1 : Int32)).toNatClampNeg) h
    exact ⟨I2, L, by simp only [g1, g2, g3, g4, g5, g6, h1, h2, bd1_s, bd2_s, bd3_s, nm_s, e7, lg_self, ↓reduceIte], h3⟩
  rw [if_neg q0]
  by_cases q1 : x3 = (1 : Int32)
  · rw [if_pos q1]
    obtain ⟨r, I1, I2, h1, h2, h3⟩ := ok_wall  h
    exact ⟨I2, L, by simp only [g1, g2, g3, g4, g5, g6, h1, h2, bd1_s, bd2_s, bd3_s, nm_s, e7, lg_self, ↓reduceIte], h3⟩
  rw [if_neg q1]
  by_cases q2 : x3 = (2 : Int32)
  · rw [if_pos q2]
    obtain ⟨r, h1, h2, h3⟩ := ok_sitter (xs ((nI (7 * k)) + (1 : Int32)).toNatClampNeg) (xs ((nI (7 * k)) + (2 : Int32)).toNatClampNeg) h
    exact ⟨I, L, by simp only [g1, g2, g3, g4, g5, g6, h1, h2, bd1_s, bd2_s, bd3_s, nm_s, e7, lg_self, ↓reduceIte], h3⟩
  rw [if_neg q2]
  by_cases q3 : x3 = (3 : Int32)
  · rw [if_pos q3]
    obtain ⟨r, h1, h2, h3⟩ := ok_growth (xs ((nI (7 * k)) + (1 : Int32)).toNatClampNeg) (xs ((nI (7 * k)) + (2 : Int32)).toNatClampNeg) h
    exact ⟨I, L, by simp only [g1, g2, g3, g4, g5, g6, h1, h2, bd1_s, bd2_s, bd3_s, nm_s, e7, lg_self, ↓reduceIte], h3⟩
  rw [if_neg q3]
  by_cases q4 : x3 = (4 : Int32)
  · rw [if_pos q4]
    obtain ⟨r, h1, h2, h3⟩ := ok_as (xs ((nI (7 * k)) + (1 : Int32)).toNatClampNeg) (xs ((nI (7 * k)) + (2 : Int32)).toNatClampNeg) h
    exact ⟨I, L, by simp only [g1, g2, g3, g4, g5, g6, h1, h2, bd1_s, bd2_s, bd3_s, nm_s, e7, lg_self, ↓reduceIte], h3⟩
  rw [if_neg q4]
  by_cases q5 : x3 = (5 : Int32)
  · rw [if_pos q5]
    obtain ⟨r, I1, I2, h1, h2, h3⟩ := ok_hours (xs ((nI (7 * k)) + (1 : Int32)).toNatClampNeg) h
    exact ⟨I2, L, by simp only [g1, g2, g3, g4, g5, g6, h1, h2, bd1_s, bd2_s, bd3_s, nm_s, e7, lg_self, ↓reduceIte], h3⟩
  rw [if_neg q5]
  by_cases q6 : x3 = (6 : Int32)
  · rw [if_pos q6]
    obtain ⟨r, I1, I2, h1, h2, h3⟩ := ok_crust (xs ((nI (7 * k)) + (1 : Int32)).toNatClampNeg) h
    exact ⟨I2, L, by simp only [g1, g2, g3, g4, g5, g6, h1, h2, bd1_s, bd2_s, bd3_s, nm_s, e7, lg_self, ↓reduceIte], h3⟩
  rw [if_neg q6]
  by_cases q7 : x3 = (7 : Int32)
  · rw [if_pos q7]
    obtain ⟨r, I1, I2, h1, h2, h3⟩ := ok_news (xs ((nI (7 * k)) + (1 : Int32)).toNatClampNeg) (xs ((nI (7 * k)) + (2 : Int32)).toNatClampNeg) h
    exact ⟨I2, L, by simp only [g1, g2, g3, g4, g5, g6, h1, h2, bd1_s, bd2_s, bd3_s, nm_s, e7, lg_self, ↓reduceIte], h3⟩
  rw [if_neg q7]
  by_cases q8 : x3 = (8 : Int32)
  · rw [if_pos q8]
    obtain ⟨r, I1, I2, h1, h2, h3⟩ := ok_praise (xs ((nI (7 * k)) + (1 : Int32)).toNatClampNeg) h
    exact ⟨I2, L, by simp only [g1, g2, g3, g4, g5, g6, h1, h2, bd1_s, bd2_s, bd3_s, nm_s, e7, lg_self, ↓reduceIte], h3⟩
  rw [if_neg q8]
  by_cases q9 : x3 = (9 : Int32)
  · rw [if_pos q9]
    obtain ⟨r, I1, I2, h1, h2, h3⟩ := ok_cloak (xs ((nI (7 * k)) + (1 : Int32)).toNatClampNeg) (xs ((nI (7 * k)) + (2 : Int32)).toNatClampNeg) h
    exact ⟨I2, L, by simp only [g1, g2, g3, g4, g5, g6, h1, h2, bd1_s, bd2_s, bd3_s, nm_s, e7, lg_self, ↓reduceIte], h3⟩
  rw [if_neg q9]
  by_cases q10 : x3 = (10 : Int32)
  · rw [if_pos q10]
    obtain ⟨r, I1, I2, h1, h2, h3⟩ := ok_heir (xs ((nI (7 * k)) + (1 : Int32)).toNatClampNeg) h
    exact ⟨I2, L, by simp only [g1, g2, g3, g4, g5, g6, h1, h2, bd1_s, bd2_s, bd3_s, nm_s, e7, lg_self, ↓reduceIte], h3⟩
  rw [if_neg q10]
  by_cases q11 : x3 = (11 : Int32)
  · rw [if_pos q11]
    obtain ⟨r, I1, I2, h1, h2, h3⟩ := ok_undo  h
    exact ⟨I2, L, by simp only [g1, g2, g3, g4, g5, g6, h1, h2, bd1_s, bd2_s, bd3_s, nm_s, e7, lg_self, ↓reduceIte], h3⟩
  rw [if_neg q11]
  by_cases q12 : x3 = (12 : Int32)
  · rw [if_pos q12]
    obtain ⟨r, I1, I2, h1, h2, h3⟩ := ok_seed (xs ((nI (7 * k)) + (1 : Int32)).toNatClampNeg) h
    exact ⟨I2, L, by simp only [g1, g2, g3, g4, g5, g6, h1, h2, bd1_s, bd2_s, bd3_s, nm_s, e7, lg_self, ↓reduceIte], h3⟩
  rw [if_neg q12]
  by_cases q13 : x3 = (13 : Int32)
  · rw [if_pos q13]
    obtain ⟨r, I1, I2, h1, h2, h3⟩ := ok_image (xs ((nI (7 * k)) + (1 : Int32)).toNatClampNeg) h
    exact ⟨I2, L, by simp only [g1, g2, g3, g4, g5, g6, h1, h2, bd1_s, bd2_s, bd3_s, nm_s, e7, lg_self, ↓reduceIte], h3⟩
  rw [if_neg q13]
  by_cases q14 : x3 = (14 : Int32)
  · rw [if_pos q14]
    obtain ⟨r, I1, I2, h1, h2, h3⟩ := ok_restore (xs ((nI (7 * k)) + (1 : Int32)).toNatClampNeg) h
    exact ⟨I2, L, by simp only [g1, g2, g3, g4, g5, g6, h1, h2, bd1_s, bd2_s, bd3_s, nm_s, e7, lg_self, ↓reduceIte], h3⟩
  rw [if_neg q14]
  by_cases q15 : x3 = (15 : Int32)
  · rw [if_pos q15]
    obtain ⟨r, I1, I2, h1, h2, h3⟩ := ok_strain (xs ((nI (7 * k)) + (1 : Int32)).toNatClampNeg) (xs ((nI (7 * k)) + (2 : Int32)).toNatClampNeg) h
    exact ⟨I2, L, by simp only [g1, g2, g3, g4, g5, g6, h1, h2, bd1_s, bd2_s, bd3_s, nm_s, e7, lg_self, ↓reduceIte], h3⟩
  rw [if_neg q15]
  by_cases q16 : x3 = (16 : Int32)
  · rw [if_pos q16]
    obtain ⟨r, I1, I2, h1, h2, h3⟩ := ok_down (xs ((nI (7 * k)) + (1 : Int32)).toNatClampNeg) h
    exact ⟨I2, L, by simp only [g1, g2, g3, g4, g5, g6, h1, h2, bd1_s, bd2_s, bd3_s, nm_s, e7, lg_self, ↓reduceIte], h3⟩
  rw [if_neg q16]
  by_cases q17 : x3 = (17 : Int32)
  · rw [if_pos q17]
    obtain ⟨r, I1, I2, h1, h2, h3⟩ := ok_duel (xs ((nI (7 * k)) + (1 : Int32)).toNatClampNeg) (xs ((nI (7 * k)) + (2 : Int32)).toNatClampNeg) h
    exact ⟨I2, L, by simp only [g1, g2, g3, g4, g5, g6, h1, h2, bd1_s, bd2_s, bd3_s, nm_s, e7, lg_self, ↓reduceIte], h3⟩
  rw [if_neg q17]
  by_cases q18 : x3 = (18 : Int32)
  · rw [if_pos q18]
    obtain ⟨r, I1, I2, h1, h2, h3⟩ := ok_honour (xs ((nI (7 * k)) + (1 : Int32)).toNatClampNeg) h
    exact ⟨I2, L, by simp only [g1, g2, g3, g4, g5, g6, h1, h2, bd1_s, bd2_s, bd3_s, nm_s, e7, lg_self, ↓reduceIte], h3⟩
  rw [if_neg q18]
  by_cases q19 : x3 = (19 : Int32)
  · rw [if_pos q19]
    obtain ⟨r, I1, I2, h1, h2, h3⟩ := ok_eat (xs ((nI (7 * k)) + (1 : Int32)).toNatClampNeg) (xs ((nI (7 * k)) + (2 : Int32)).toNatClampNeg) (xs ((nI (7 * k)) + (3 : Int32)).toNatClampNeg) h
    exact ⟨I2, L, by simp only [g1, g2, g3, g4, g5, g6, h1, h2, bd1_s, bd2_s, bd3_s, nm_s, e7, lg_self, ↓reduceIte], h3⟩
  rw [if_neg q19]
  by_cases q20 : x3 = (20 : Int32)
  · rw [if_pos q20]
    obtain ⟨r, I1, I2, h1, h2, h3⟩ := ok_train (xs ((nI (7 * k)) + (1 : Int32)).toNatClampNeg) (xs ((nI (7 * k)) + (2 : Int32)).toNatClampNeg) (xs ((nI (7 * k)) + (3 : Int32)).toNatClampNeg) h
    exact ⟨I2, L, by simp only [g1, g2, g3, g4, g5, g6, h1, h2, bd1_s, bd2_s, bd3_s, nm_s, e7, lg_self, ↓reduceIte], h3⟩
  rw [if_neg q20]
  by_cases q21 : x3 = (21 : Int32)
  · rw [if_pos q21]
    obtain ⟨r, I1, I2, h1, h2, h3⟩ := ok_dusk (xs ((nI (7 * k)) + (1 : Int32)).toNatClampNeg) h
    exact ⟨I2, L, by simp only [g1, g2, g3, g4, g5, g6, h1, h2, bd1_s, bd2_s, bd3_s, nm_s, e7, lg_self, ↓reduceIte], h3⟩
  rw [if_neg q21]
  by_cases q22 : x3 = (22 : Int32)
  · rw [if_pos q22]
    obtain ⟨r, I1, I2, L2, h1, h2, h3⟩ := ok_odds (xs ((nI (7 * k)) + (1 : Int32)).toNatClampNeg) (xs ((nI (7 * k)) + (2 : Int32)).toNatClampNeg) (xs ((nI (7 * k)) + (3 : Int32)).toNatClampNeg) (xs ((nI (7 * k)) + (4 : Int32)).toNatClampNeg) (xs ((nI (7 * k)) + (5 : Int32)).toNatClampNeg) h
    exact ⟨I2, L2, by simp only [g1, g2, g3, g4, g5, g6, h1, h2, bd1_s, bd2_s, bd3_s, nm_s, e7, lg_self, ↓reduceIte], h3⟩
  rw [if_neg q22]
  by_cases q23 : x3 = (23 : Int32)
  · rw [if_pos q23]
    obtain ⟨r, I1, I2, L2, h1, h2, h3⟩ := ok_challenge (xs ((nI (7 * k)) + (1 : Int32)).toNatClampNeg) (xs ((nI (7 * k)) + (2 : Int32)).toNatClampNeg) (xs ((nI (7 * k)) + (3 : Int32)).toNatClampNeg) h
    exact ⟨I2, L2, by simp only [g1, g2, g3, g4, g5, g6, h1, h2, bd1_s, bd2_s, bd3_s, nm_s, e7, lg_self, ↓reduceIte], h3⟩
  rw [if_neg q23]
  by_cases q24 : x3 = (24 : Int32)
  · rw [if_pos q24]
    obtain ⟨r, I1, I2, h1, h2, h3⟩ := ok_game (xs ((nI (7 * k)) + (1 : Int32)).toNatClampNeg) (xs ((nI (7 * k)) + (2 : Int32)).toNatClampNeg) (xs ((nI (7 * k)) + (3 : Int32)).toNatClampNeg) h
    exact ⟨I2, L, by simp only [g1, g2, g3, g4, g5, g6, h1, h2, bd1_s, bd2_s, bd3_s, nm_s, e7, lg_self, ↓reduceIte], h3⟩
  rw [if_neg q24]
  by_cases q25 : x3 = (25 : Int32)
  · rw [if_pos q25]
    obtain ⟨r, I1, L1, I2, L2, h1, h2, h3⟩ := ok_sheet (xs ((nI (7 * k)) + (1 : Int32)).toNatClampNeg) (xs ((nI (7 * k)) + (2 : Int32)).toNatClampNeg) (xs ((nI (7 * k)) + (3 : Int32)).toNatClampNeg) h
    exact ⟨I2, L2, by simp only [g1, g2, g3, g4, g5, g6, h1, h2, bd1_s, bd2_s, bd3_s, nm_s, e7, lg_self, ↓reduceIte], h3⟩
  rw [if_neg q25]
  by_cases q26 : x3 = (26 : Int32)
  · rw [if_pos q26]
    obtain ⟨r, I1, I2, h1, h2, h3⟩ := ok_drop (xs ((nI (7 * k)) + (1 : Int32)).toNatClampNeg) h
    exact ⟨I2, L, by simp only [g1, g2, g3, g4, g5, g6, h1, h2, bd1_s, bd2_s, bd3_s, nm_s, e7, lg_self, ↓reduceIte], h3⟩
  rw [if_neg q26]
  by_cases q27 : x3 = (27 : Int32)
  · rw [if_pos q27]
    obtain ⟨r, L1, L2, h1, h2, h3⟩ := ok_item (xs ((nI (7 * k)) + (1 : Int32)).toNatClampNeg) (xs ((nI (7 * k)) + (2 : Int32)).toNatClampNeg) (xs ((nI (7 * k)) + (3 : Int32)).toNatClampNeg) ((((xs ((nI (7 * k)) + (4 : Int32)).toNatClampNeg).toInt64) <<< ((32 : Int32).toInt64 &&& (63 : Int64))) ||| (((xs ((nI (7 * k)) + (5 : Int32)).toNatClampNeg).toInt64) &&& (4294967295 : Int64))) h
    exact ⟨I, L2, by simp only [g1, g2, g3, g4, g5, g6, h1, h2, bd1_s, bd2_s, bd3_s, nm_s, e7, lg_self, ↓reduceIte], h3⟩
  rw [if_neg q27]
  by_cases q28 : x3 = (28 : Int32)
  · rw [if_pos q28]
    obtain ⟨r, L1, L2, h1, h2, h3⟩ := ok_copy (xs ((nI (7 * k)) + (1 : Int32)).toNatClampNeg) (xs ((nI (7 * k)) + (2 : Int32)).toNatClampNeg) (xs ((nI (7 * k)) + (3 : Int32)).toNatClampNeg) (xs ((nI (7 * k)) + (4 : Int32)).toNatClampNeg) (xs ((nI (7 * k)) + (5 : Int32)).toNatClampNeg) h
    exact ⟨I, L2, by simp only [g1, g2, g3, g4, g5, g6, h1, h2, bd1_s, bd2_s, bd3_s, nm_s, e7, lg_self, ↓reduceIte], h3⟩
  rw [if_neg q28]
  by_cases q29 : x3 = (29 : Int32)
  · rw [if_pos q29]
    obtain ⟨r, I1, L1, I2, L2, h1, h2, h3⟩ := ok_film (xs ((nI (7 * k)) + (1 : Int32)).toNatClampNeg) (xs ((nI (7 * k)) + (2 : Int32)).toNatClampNeg) (xs ((nI (7 * k)) + (3 : Int32)).toNatClampNeg) (xs ((nI (7 * k)) + (4 : Int32)).toNatClampNeg) (xs ((nI (7 * k)) + (5 : Int32)).toNatClampNeg) h
    exact ⟨I2, L2, by simp only [g1, g2, g3, g4, g5, g6, h1, h2, bd1_s, bd2_s, bd3_s, nm_s, e7, lg_self, ↓reduceIte], h3⟩
  rw [if_neg q29]
  by_cases q30 : x3 = (30 : Int32)
  · rw [if_pos q30]
    obtain ⟨r, I1, I2, h1, h2, h3⟩ := ok_round (xs ((nI (7 * k)) + (1 : Int32)).toNatClampNeg) (xs ((nI (7 * k)) + (2 : Int32)).toNatClampNeg) (xs ((nI (7 * k)) + (3 : Int32)).toNatClampNeg) (xs ((nI (7 * k)) + (4 : Int32)).toNatClampNeg) (xs ((nI (7 * k)) + (5 : Int32)).toNatClampNeg) h
    exact ⟨I2, L, by simp only [g1, g2, g3, g4, g5, g6, h1, h2, bd1_s, bd2_s, bd3_s, nm_s, e7, lg_self, ↓reduceIte], h3⟩
  rw [if_neg q30]
  by_cases q31 : x3 = (31 : Int32)
  · rw [if_pos q31]
    obtain ⟨r, I1, h1, h2, h3⟩ := ok_goesOn (xs ((nI (7 * k)) + (1 : Int32)).toNatClampNeg) (xs ((nI (7 * k)) + (2 : Int32)).toNatClampNeg) (xs ((nI (7 * k)) + (3 : Int32)).toNatClampNeg) (xs ((nI (7 * k)) + (4 : Int32)).toNatClampNeg) (xs ((nI (7 * k)) + (5 : Int32)).toNatClampNeg) h
    exact ⟨I1, L, by simp only [g1, g2, g3, g4, g5, g6, h1, h2, bd1_s, bd2_s, bd3_s, nm_s, e7, lg_self, ↓reduceIte], h3⟩
  rw [if_neg q31]
  by_cases q32 : x3 = (32 : Int32)
  · rw [if_pos q32]
    obtain ⟨r, I1, h1, h2, h3⟩ := ok_told (xs ((nI (7 * k)) + (1 : Int32)).toNatClampNeg) (xs ((nI (7 * k)) + (2 : Int32)).toNatClampNeg) (xs ((nI (7 * k)) + (3 : Int32)).toNatClampNeg) (xs ((nI (7 * k)) + (4 : Int32)).toNatClampNeg) (xs ((nI (7 * k)) + (5 : Int32)).toNatClampNeg) h
    exact ⟨I1, L, by simp only [g1, g2, g3, g4, g5, g6, h1, h2, bd1_s, bd2_s, bd3_s, nm_s, e7, lg_self, ↓reduceIte], h3⟩
  rw [if_neg q32]
  by_cases q33 : x3 = (33 : Int32)
  · rw [if_pos q33]
    obtain ⟨r, I1, I2, h1, h2, h3⟩ := ok_ate (xs ((nI (7 * k)) + (1 : Int32)).toNatClampNeg) (xs ((nI (7 * k)) + (2 : Int32)).toNatClampNeg) (xs ((nI (7 * k)) + (3 : Int32)).toNatClampNeg) (xs ((nI (7 * k)) + (4 : Int32)).toNatClampNeg) (xs ((nI (7 * k)) + (5 : Int32)).toNatClampNeg) (xs ((nI (7 * k)) + (6 : Int32)).toNatClampNeg) h
    exact ⟨I2, L, by simp only [g1, g2, g3, g4, g5, g6, h1, h2, bd1_s, bd2_s, bd3_s, nm_s, e7, lg_self, ↓reduceIte], h3⟩
  rw [if_neg q33]
  by_cases q34 : x3 = (34 : Int32)
  · rw [if_pos q34]
    obtain ⟨r, h1, h2, h3⟩ := ok_count (xs ((nI (7 * k)) + (1 : Int32)).toNatClampNeg) h
    exact ⟨I, L, by simp only [g1, g2, g3, g4, g5, g6, h1, h2, bd1_s, bd2_s, bd3_s, nm_s, e7, lg_self, ↓reduceIte], h3⟩
  rw [if_neg q34]
  exact ⟨I, L, by rw [nm_s, e7], h⟩
theorem law_pure (xs : Nat → Int32) (Lx : Nat) (hL : Lx ≤ 448) : ∃ (I' : MI) (L' : ML), lp (fun s => b_L_law_18 xs Lx s.1 s.2.1 s.2.2) FU (0, I0, L0) = some (I', L') := by
  obtain ⟨x, h1, -⟩ := lp_inv (f := fun (s : Int32 × MI × ML) => b_L_law_18 xs Lx s.1 s.2.1 s.2.2) (fun k s => s.1 = nI (7 * k) ∧ Inv s.2.1 s.2.2) (fun _ => True) (Lx / 7) (fun k s hk hP => by
    obtain ⟨z, I, L⟩ := s
    obtain ⟨hz, hI⟩ := hP
    dsimp only at hz hI ⊢
    subst hz
    obtain ⟨I', L', a1, a2⟩ := law_step xs hL (k := k) (by omega) hI
    exact ⟨(nI (7 * (k + 1)), I', L'), a1, rfl, a2⟩) (fun s hP => by
    obtain ⟨z, I, L⟩ := s
    obtain ⟨hz, hI⟩ := hP
    dsimp only at hz hI ⊢
    subst hz
    refine ⟨(I, L), ?_, trivial⟩
    unfold b_L_law_18
    rw [if_pos ?_]
    have e1 : ((Int32.ofNat Lx) - (7 : Int32)).toInt = (Lx : Int) - 7 := pk_sub_toInt (a := Lx) (b := 7) (by omega) (by omega)
    rw [Int32.lt_iff_toInt_lt, e1, nI_toInt (by omega)]
    omega) FU (by show Lx / 7 < 2000; omega) (0, I0, L0) ⟨rfl, inv_start⟩
  exact ⟨x.1, x.2, h1⟩
