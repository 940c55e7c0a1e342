theorem m_odds1 {I : MI} {L : ML} {n : Nat} (a1 a2 a3 a4 a5 : Int32) (hn : n ≤ 6) (e1 : I 245 1 = nI n) (q : ¬ ((((0 : Int32) ≤ a3 ∧ a3 ≤ 10) ∧ ((0 : Int32) ≤ a4 ∧ a4 ≤ 10)) ∧ ((0 : Int32) ≤ a5 ∧ a5 ≤ 1)) ∨ ¬ ((0 ≤ a1 ∧ a1 < nI n) ∧ (0 ≤ a2 ∧ a2 < nI n) ∧ ¬ a1 = a2)) : f_X11_odds a1 a2 a3 a4 a5 I L = some (-1, I, L) := by
  unfold f_X11_odds
  rw [m_areTwo a1 a2 L hn e1, bd1_s, if_b]
  by_cases z : (0 ≤ a1 ∧ a1 < nI n) ∧ (0 ≤ a2 ∧ a2 < nI n) ∧ ¬ a1 = a2
  · rw [if_pos z, m_isSpan, bd1_s, if_b]
    by_cases y : ((0 : Int32) ≤ a3 ∧ a3 ≤ 10) ∧ ((0 : Int32) ≤ a4 ∧ a4 ≤ 10)
    · rw [if_pos y, show (0 : Int64) = (0 : Int32).toInt64 from rfl, show (1 : Int64) = (1 : Int32).toInt64 from rfl, s_in32, bd1_s, if_b, if_neg (fun w => q.elim (fun v => v ⟨y, w⟩) (fun v => v z))]
    · rw [if_neg y]
  · rw [if_neg z]
theorem ok_odds (a1 : Int32) (a2 : Int32) (a3 : Int32) (a4 : Int32) (a5 : Int32) {I : MI} {L : ML} (h : Inv I L) : ∃ (r : Int64) (I1 : MI) (I2 : MI) (L2 : ML), f_X10_odds a1 a2 a3 a4 a5 I L = some (r, I1) ∧ f_X11_odds a1 a2 a3 a4 a5 I1 L = some (r, I2, L2) ∧ Inv I2 L2 := by
  obtain ⟨n, hW, hR⟩ := h.1
  have hn := hW.1
  have e1 := RW.n1 hW hR
  unfold f_X10_odds f_X10_refusesTwo
  rw [s_within, bd1_s, if_b, s_within, bd1_s, if_b, s_within, bd1_s, if_b, s_has a1 L hn hW.2.1, bd1_s, if_b, s_has a2 L hn hW.2.1, bd1_s, if_b]
  have bad := fun q => m_odds1 (L := L) a1 a2 a3 a4 a5 hn e1 q
  by_cases c1 : (0 : Int32) ≤ a3 ∧ a3 ≤ 10
  · by_cases c2 : (0 : Int32) ≤ a4 ∧ a4 ≤ 10
    · by_cases c3 : (0 : Int32) ≤ a5 ∧ a5 ≤ 1
      · rw [if_pos c1, if_pos c2, if_pos c3]
        obtain ⟨N, hN, rfl⟩ := (in_n (b := 10) (by omega)).mp c1
        obtain ⟨p, hp, rfl⟩ := (in_n (b := 10) (by omega)).mp c2
        rcases has_cases a1 hn with ⟨k, hk, rfl⟩ | hno
        · rcases has_cases a2 hn with ⟨q, hq, rfl⟩ | hno
          · rw [if_pos (nI_sit hk hn), if_pos (nI_sit hq hn)]
            by_cases e : k = q
            · subst e
              rw [if_pos rfl, bd1_s, if_neg (by decide)]
              exact ⟨_, I, I, L, rfl, bad (Or.inr (fun z => z.2.2 rfl)), h⟩
            · have cn : ¬ nI k = nI q := fun z => e ((nI_eq (by omega) (by omega)).mp z)
              have ct : (0 ≤ nI k ∧ nI k < nI n) ∧ (0 ≤ nI q ∧ nI q < nI n) ∧ ¬ nI k = nI q := ⟨nI_sit hk hn, nI_sit hq hn, cn⟩
              have good : ∀ (K : MI), K 245 1 = nI n → f_X11_odds (nI k) (nI q) (nI N) (nI p) a5 K L = bd1 (f_X11_isDown (0 : Int32) (nI k) K L) (fun r10 => (if r10 = 0 then bd1 (f_X11_isDown (0 : Int32) (nI q) K L) (fun r13 => (if r13 = 0 then bd2 (f_X11_findOdds (nI k) (nI q) (nI N) (nI p) K L) (fun I16 L17 => nm (L17 244 12) (fun x19 => nm (L17 244 13) (fun x20 => bd1 (lp (fun s => b_X11_odds_76 a5 I16 L17 s.1 s.2) FU (x19, x20)) (fun y25 => bd1 ((if a5 = 0 then gd (¬ y25 = 0) (some ((L17 244 12) / y25)) else gd (¬ y25 = 0) (some ((L17 244 13) / y25)))) (fun y26 => some (y26, I16, L17)))))) else some (((-2 : Int64), K, L)))) else some (((-2 : Int64), K, L)))) := fun K eK => by
                unfold f_X11_odds
                rw [m_areTwo _ _ L hn eK, bd1_s, if_b, if_pos ct, m_isSpan, bd1_s, if_b, if_pos ⟨c1, c2⟩, show f_X11_in a5.toInt64 (0 : Int64) (1 : Int64) = f_X11_in a5.toInt64 (0 : Int32).toInt64 (1 : Int32).toInt64 from rfl, s_in32, bd1_s, if_b, if_pos c3]
              rw [if_neg cn, gi_n (by omega) (by omega), cl_n (by omega), s_sits, bd1_s, if_b, gi_n (by omega) (by omega), cl_n (by omega), s_sits, bd1_s, if_b]
              by_cases s1 : I (3 + 2 + k) 10 = -4
              · rw [if_pos s1]
                by_cases s2 : I (3 + 2 + q) 10 = -4
                · obtain ⟨T0, y1, y2⟩ := s_weigh (N := N) (p := p) L h.2.2.2.1 hN
                  obtain ⟨T, z1, z2⟩ := s_outw L hW hk hq hN hp y2
                  have hw : waysN I k q N p ≤ 10 ^ N := V_le hp _ _ _ _
                  have ht := ten_le hN
                  rw [if_pos s2, bd1_s, bd1_s, if_pos rfl, y1, bd1_s, gi_n (by omega) (by omega), gi_n (by omega) (by omega), z1, bd2_s, s_lowest a5 L z2.2.2.1 hN hw, bd1_s]
                  have kT := z2.Kp
                  obtain ⟨hW', hR'⟩ := kT.wall hW hR
                  have t1 : T (3 + 2 + k) 10 = -4 := by rw [kT.1 _ (by omega)]; exact s1
                  have t2 : T (3 + 2 + q) 10 = -4 := by rw [kT.1 _ (by omega)]; exact s2
                  obtain ⟨J, w1, w2⟩ := m_findOdds L hW' hR' hk hq hN hp t1 t2
                  rw [ways_congr (kT.1 3 (by omega)) (kT.1 _ (by omega)) (kT.1 _ (by omega))] at w1
                  obtain ⟨_, _, g3⟩ := low_gcd (w := waysN I k q N p) (N := N)
                  have gle : Nat.gcd (waysN I k q N p) (10 ^ N) ≤ 10 ^ N := Nat.le_of_dvd (Nat.pow_pos (by omega)) (Nat.gcd_dvd_right _ _)
                  have nz : ¬ lN (Nat.gcd (waysN I k q N p) (10 ^ N)) = 0 := fun z => by
                    rw [show (0 : Int64) = lN 0 from rfl, pk_lEQ (by omega) (by omega)] at z
                    omega
                  refine ⟨_, T, J, LF L (lN (waysN I k q N p)) (lN (10 ^ N)), rfl, ?_, h.keep (kT.tr w2.Kp) (w2.B z2.2.1) (fun s hs => LF_o (by omega)) (LF_o (by omega))⟩
                  rw [good T (RW.n1 hW' hR'), m_down0 L (by omega), bd1_s, hR'.c10 hk t1, if_pos (show b01 ((0 : Int32) ≤ -1) = 0 by decide), m_down0 L (by omega), bd1_s, hR'.c10 hq t2, if_pos (show b01 ((0 : Int32) ≤ -1) = 0 by decide), w1, bd2_s, nm_s, nm_s, (LF_a _ _ _).1, (LF_a _ _ _).2, m_euclid a5 34 FU _ _ (by omega) (by omega) (by omega) (show 2 * 34 + 1 < 2000 by omega), bd1_s, gd_t nz, gd_t nz, pk_lDiv (by omega) g3 (by omega), pk_lDiv (by omega) g3 (by omega), some_if, bd1_s]
                · rw [if_neg s2, bd1_s, bd1_s, if_neg (by decide)]
                  refine ⟨_, I, I, L, rfl, ?_, h⟩
                  have := (hR.up hq s2).2
                  rw [show 0 + 67 + q = 67 + q by omega] at this
                  rw [good I e1, m_down0 L (by omega), bd1_s, hR.c10 hk s1, if_pos (show b01 ((0 : Int32) ≤ -1) = 0 by decide), m_down0 L (by omega), bd1_s, b01_t this, if_neg (by decide)]
                  rfl
              · rw [if_neg s1, bd1_s, bd1_s, if_neg (by decide)]
                refine ⟨_, I, I, L, rfl, ?_, h⟩
                have := (hR.up hk s1).2
                rw [show 0 + 67 + k = 67 + k by omega] at this
                rw [good I e1, m_down0 L (by omega), bd1_s, b01_t this, if_neg (by decide)]
                rfl
          · rw [if_pos (nI_sit hk hn), if_neg hno, bd1_s, if_neg (by decide)]
            exact ⟨_, I, I, L, rfl, bad (Or.inr (fun z => hno z.2.1)), h⟩
        · rw [if_neg hno, bd1_s, if_neg (by decide)]
          exact ⟨_, I, I, L, rfl, bad (Or.inr (fun z => hno z.1)), h⟩
      · rw [if_pos c1, if_pos c2, if_neg c3]
        exact ⟨_, I, I, L, rfl, bad (Or.inl (fun z => c3 z.2)), h⟩
    · rw [if_pos c1, if_neg c2]
      exact ⟨_, I, I, L, rfl, bad (Or.inl (fun z => c2 z.1.2)), h⟩
  · rw [if_neg c1]
    exact ⟨_, I, I, L, rfl, bad (Or.inl (fun z => c1 z.1.1)), h⟩
