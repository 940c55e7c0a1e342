/-! ===== eat ===== -/
def pop (m : Nat) : Nat := m % 2 + m / 2 % 2 + m / 4 % 2 + m / 8 % 2 + m / 16 % 2 + m / 32 % 2 + m / 64 % 2 + m / 128 % 2
theorem s_bitCount' : ∀ m, m < 256 → f_J6_bitCount_0f7a4 (nI m) = some (nI (pop m)) := by decide +kernel
theorem s_bitCount {m : Nat} (h : m < 256) : f_J6_bitCount_0f7a4 (nI m) = some (nI (pop m)) := s_bitCount' m h
theorem m_ones' : ∀ m, m < 256 → f_X11_ones (nI m) = some (nI (pop m)) := by decide +kernel
theorem m_ones {m : Nat} (h : m < 256) : f_X11_ones (nI m) = some (nI (pop m)) := m_ones' m h
theorem pop_le (m : Nat) : pop m ≤ 8 := by
  unfold pop
  omega
theorem shl_1 : ∀ N, N ≤ 8 → (1 : Int32) <<< (nI N &&& (31 : Int32)) = nI (2 ^ N) := by decide +kernel
theorem two_le {N : Nat} (h : N ≤ 8) : 1 ≤ 2 ^ N ∧ 2 ^ N ≤ 256 := ⟨Nat.one_le_two_pow, Nat.pow_le_pow_right (n := 2) (by omega) h⟩
theorem m_rowEat {I : MI} {n k : Nat} {dusk hr d : Int32} {R : Nat → Nat → Int32} (L : ML) (hn : n ≤ 6) (hk : k < n) (h : MRow I 219 n dusk hr d R) (m : Bool) : ∃ J, (if (if m then (1 : Int32) else 0) = 0 then some I else bd1 (f_X11_eats (219 : Int32) (nI k) I L) (fun I20 => some I20)) = some J ∧ TF I J ∧ MRow J 219 n dusk hr d (fun q => if q = k then mealR m (R q) else R q) := by
  cases m
  · refine ⟨I, rfl, TF.rf I, ?_⟩
    have e : (fun q => if q = k then mealR false (R q) else R q) = R := funext fun q => by
      by_cases c : q = k
      · rw [if_pos c]; rfl
      · rw [if_neg c]
    rw [e]
    exact h
  · obtain ⟨h1, h2, h4, h6, h7⟩ := h
    obtain ⟨r1, r2, r3⟩ := h7 k hk
    obtain ⟨J, j1, j2, j3, j4, j5⟩ := m_eats (I := I) (o := 219) (k := k) L (by omega) (by omega) (okR_congr r1 r2) r3
    have j1' : f_X11_eats (219 : Int32) (nI k) I L = some J := j1
    refine ⟨J, by rw [j1', bd1_s]; rfl, ⟨j2, fun j hj => j3 j (fun f hf => by omega)⟩, by rw [j3 _ (fun f hf => by omega)]; exact h1, by rw [j3 _ (fun f hf => by omega)]; exact h2, by rw [j3 _ (fun f hf => by omega)]; exact h4, by rw [j3 _ (fun f hf => by omega)]; exact h6, fun q hq => ?_⟩
    by_cases e : q = k
    · subst e
      simp only [if_true]
      exact ⟨fun f hf => (j4 f hf).trans (eat_congr r1 hf), r2.eat, j5⟩
    · simp only [if_neg e]
      obtain ⟨a, b, c⟩ := h7 q hq
      refine ⟨fun f hf => ?_, b, by rw [j3 _ (fun g hg => by omega)]; exact c⟩
      rw [← a f hf]
      unfold mrec
      by_cases e10 : f = 10
      · rw [if_pos e10, if_pos e10, j3 _ (fun g hg => by omega)]
      · rw [if_neg e10, if_neg e10, j3 _ (fun g hg => by omega)]
/-- the meals of sitter k, and no others' -/
def only (k : Nat) (E : Nat → Bool) (q : Nat) : Nat → Bool := if q = k then E else no
theorem m_eatStep {I : MI} {n k t : Nat} {dusk hr d : Int32} {S : Nat → Nat → Int32} {E : Nat → Bool} (L : ML) (hn : n ≤ 6) (hk : k < n) (hh : rg hr 0 9999) (ht : t < 100) (h : MRow I 219 n dusk (hr + nI t) (drN d t) (fun q => trN (only k E q) (S q) d dusk hr hr t)) : ∃ J0 J, (if (if E t then (1 : Int32) else 0) = 0 then some I else bd1 (f_X11_eats (219 : Int32) (nI k) I L) (fun I20 => some I20)) = some J0 ∧ f_X11_passes (219 : Int32) J0 L = some J ∧ TF I J ∧ MRow J 219 n dusk (hr + nI (t + 1)) (drN d (t + 1)) (fun q => trN (only k E q) (S q) d dusk hr hr (t + 1)) := by
  obtain ⟨J0, a1, a2, a3⟩ := m_rowEat L hn hk h (E t)
  obtain ⟨J, b1, b2, b3, b4⟩ := m_tryStep L hn hh ht a3
  refine ⟨J0, J, a1, b1, a2.tr b2, ?_⟩
  have e : (fun q => passR ((fun q => if q = k then mealR (E t) ((fun q => trN (only k E q) (S q) d dusk hr hr t) q) else (fun q => trN (only k E q) (S q) d dusk hr hr t) q) q) (skN d t) (ngN dusk hr t) (hr + nI t)) = fun q => trN (only k E q) (S q) d dusk hr hr (t + 1) := funext fun q => by
    show _ = passR (mealR (only k E q t) (trN (only k E q) (S q) d dusk hr hr t)) (skN d t) (ngN dusk hr t) (hr + nI t)
    by_cases c : q = k
    · simp only [if_pos c]
      unfold only
      rw [if_pos c]
    · simp only [if_neg c]
      unfold only
      rw [if_neg c]
      rfl
  rw [← e]
  exact b4
theorem only_k (k : Nat) (E : Nat → Bool) : only k E k = E := if_pos rfl
theorem m_sitsBy {T : MI} {n k N : Nat} (m : Int32) (L : ML) (hW : okW T 3 n) (hR : RW T 3 n 0) (hk : k < n) (hN : N ≤ 8) : ∃ J, f_X11_sitsBy (nI k) m (nI N) T L = some (nI (satN (bitE m) (T (3 + 2 + k)) (T 3 6) (T 3 2) (T 3 4) N), J) ∧ TF T J := by
  have hn := hW.1
  have hh : rg (T 3 4) 0 9999 := hW.2.2.2.2.1
  obtain ⟨J0, j1, j2, j3⟩ := m_try L hW hR
  unfold f_X11_sitsBy
  rw [j1, bd1_s]
  obtain ⟨y, hy, J, rfl, hJ⟩ := lp_inv (f := fun s => b_X11_sitsBy_14 (nI k) m (nI N) L s.1 s.2.1 s.2.2) (fun t s => ∃ J, s = (nI (satN (bitE m) (T (3 + 2 + k)) (T 3 6) (T 3 2) (T 3 4) t), nI t, J) ∧ TF T J ∧ MRow J 219 n (T 3 2) (T 3 4 + nI t) (drN (T 3 6) t) (fun q => trN (only k (bitE m) q) (T (3 + 2 + q)) (T 3 6) (T 3 2) (T 3 4) (T 3 4) t)) (fun x => ∃ J, x = (nI (satN (bitE m) (T (3 + 2 + k)) (T 3 6) (T 3 2) (T 3 4) N), J) ∧ TF T J) N
    (fun t s ht hP => by
      obtain ⟨K, rfl, hK, hM⟩ := hP
      simp only [b_X11_sitsBy_14]
      obtain ⟨K0, J, w1, w2, w3, w4⟩ := m_eatStep L hn hk hh (by omega) hM
      have e10 : mrec (J 245) 219 k 10 = trN (only k (bitE m) k) (T (3 + 2 + k)) (T 3 6) (T 3 2) (T 3 4) (T 3 4) (t + 1) 10 := (w4.2.2.2.2 k hk).1 10 (by omega)
      rw [only_k] at e10
      have ec : (0 ≤ J 245 (219 + 67 + k)) ↔ ¬ trN (bitE m) (T (3 + 2 + k)) (T 3 6) (T 3 2) (T 3 4) 0 (t + 1) 10 = -4 := by
        rw [← (tr_off (t + 1) (fun t ht => ⟨offh hh t (by omega), off0 t (by omega)⟩)).2, ← e10, mrec10, Decidable.not_not]
      rw [if_neg (nI_ge ht (by omega)), m_has m (by omega), bd1_s, w1, bd1_s, w2, bd1_s, show (219 : Int32) = nI 219 from rfl, m_isDown L (by omega), bd1_s, if_b, some_if, bd1_s, nm_s, nm_s, nI_1]
      refine ⟨_, rfl, J, ?_, hK.tr w3, w4⟩
      refine congrArg (fun z => (z, nI (t + 1), J)) ?_
      show _ = nI (satN (bitE m) (T (3 + 2 + k)) (T 3 6) (T 3 2) (T 3 4) t + (if trN (bitE m) (T (3 + 2 + k)) (T 3 6) (T 3 2) (T 3 4) 0 (t + 1) 10 = -4 then 1 else 0))
      by_cases c : trN (bitE m) (T (3 + 2 + k)) (T 3 6) (T 3 2) (T 3 4) 0 (t + 1) 10 = -4
      · rw [if_pos c, if_neg (fun q => ec.mp q c), nI_1]
      · rw [if_neg c, if_pos (ec.mpr c), Int32.add_zero]
        exact congrArg nI (Nat.add_zero _).symm)
    (fun s hP => by
      obtain ⟨K, rfl, hK, hM⟩ := hP
      simp only [b_X11_sitsBy_14]
      rw [if_pos (nI_le (Nat.le_refl N) (by omega))]
      exact ⟨_, rfl, K, rfl, hK⟩)
    FU (show N < 2000 by omega) ((0 : Int32), (0 : Int32), J0) ⟨J0, rfl, j2, by
      show MRow J0 219 n (T 3 2) (T 3 4 + 0) (T 3 6) (fun q => T (3 + 2 + q))
      rw [Int32.add_zero]
      exact j3⟩
  rw [hy, bd2_s]
  exact ⟨J, rfl, hJ⟩
def satM (I : MI) (k N m : Nat) : Nat := satN (bitE (nI m)) (I (3 + 2 + k)) (I 3 6) (I 3 2) (I 3 4) N
abbrev takes (I : MI) (k N c b m : Nat) : Prop := pop m ≤ c ∧ (satM I k N b < satM I k N m ∨ (satM I k N m = satM I k N b ∧ pop m < pop b))
def bst (I : MI) (k N c : Nat) : Nat → Nat
  | 0 => 0
  | j + 1 => if takes I k N c (bst I k N c j) (j + 1) then j + 1 else bst I k N c j
theorem bst_le (I : MI) (k N c : Nat) : ∀ j, bst I k N c j ≤ j
  | 0 => Nat.le_refl 0
  | j + 1 => by
    have := bst_le I k N c j
    show (if takes I k N c (bst I k N c j) (j + 1) then j + 1 else bst I k N c j) ≤ j + 1
    by_cases q : takes I k N c (bst I k N c j) (j + 1)
    · rw [if_pos q]; omega
    · rw [if_neg q]; omega
theorem s_satM {I T : MI} {n k N : Nat} (m : Nat) (L : ML) (hW : okW I 3 n) (hk : k < n) (hT : TS I T) (hs : I (3 + 2 + k) 10 = -4) (hN : N ≤ 60) : ∃ T', f_X1_hoursSat (3 + 2 + k) (nI N) (nI m) T L = some (nI (satM I k N m), T') ∧ TS I T' := by
  have h6 := hW.1
  have h9 := e01 (hW.2.2.2.2.2.2.2.2 k hk).2.2.2.2.2.2.2.2.2.1
  have tk : T (3 + 2 + k) = I (3 + 2 + k) := hT.o (by omega)
  obtain ⟨r, a, b⟩ := s_hoursSat (I := T) (a := 3 + 2 + k) (N := N) (nI m) L hT.LK (by omega) (by rw [tk]; exact h9) (by rw [tk]; exact hs) hN
  rw [tk] at a
  exact ⟨_, a, hT.va b⟩
theorem satM_le (I : MI) (k N m : Nat) : satM I k N m ≤ N := sat_le _ _ _ _ _ _
theorem ok_eat (a1 : Int32) (a2 : Int32) (a3 : Int32) {I : MI} {L : ML} (h : Inv I L) : ∃ (r : Int32) (I1 : MI) (I2 : MI), f_X10_eat a1 a2 a3 I L = some (r, I1) ∧ f_X11_eat a1 a2 a3 I1 L = some (r, I2) ∧ Inv I2 L := by
  obtain ⟨n, hW, hR⟩ := h.1
  have hn := hW.1
  have e1 := RW.n1 hW hR
  unfold f_X10_eat f_X11_eat
  rw [s_within, bd1_s, if_b, s_within, bd1_s, if_b, s_refusesOne a1 L hn hW.2.1, bd1_s, show (0 : Int64) = (0 : Int32).toInt64 from rfl, show (1 : Int64) = (1 : Int32).toInt64 from rfl, show (8 : Int64) = (8 : Int32).toInt64 from rfl]
  simp only [s_in32, bd1_s, if_b]
  by_cases c1 : (1 : Int32) ≤ a2 ∧ a2 ≤ 8
  · by_cases c2 : (0 : Int32) ≤ a3 ∧ a3 ≤ 1
    · simp only [if_pos c1, if_pos c2]
      rcases has_cases a1 hn with ⟨k, hk, rfl⟩ | hno
      · rw [if_pos (nI_sit hk hn), cl_n (by omega)]
        by_cases c3 : I (3 + 2 + k) 10 = -4
        · rw [if_pos c3, if_pos rfl, s_look, bd1_s, gi_n (by omega) (by omega)]
          obtain ⟨N, hN1, hN2, rfl⟩ : ∃ N : Nat, 1 ≤ N ∧ N ≤ 8 ∧ a2 = nI N := by
            have z1 : (1 : Int32).toInt = 1 := rfl
            have z2 : (8 : Int32).toInt = 8 := rfl
            rw [fa_le, fa_le, z1, z2] at c1
            obtain ⟨k, h1, h2, h3⟩ := rg_n (x := a2) (a := 1) (b := 8) c1 (by omega)
            exact ⟨k, h1, h2, h3⟩
          obtain ⟨p1, p2⟩ := two_le hN2
          have hok := hW.2.2.2.2.2.2.2.2 k hk
          obtain ⟨c, hc0, hc9, ec⟩ := rg_n (x := I (3 + 2 + k) 6) (a := 0) (b := 9) hok.2.2.2.2.2.2.1 (by omega)
          unfold f_X1_bestMeals
          obtain ⟨T0, u1, u2⟩ := s_satM (N := N) 0 L hW hk (Or.inl rfl : TS I (lkF I)) c3 (by omega)
          have u1' : f_X1_hoursSat (3 + 2 + k) (nI N) (0 : Int32) (lkF I) L = some (nI (satM I k N 0), T0) := u1
          rw [u1', bd2_s]
          obtain ⟨x, hx, T, rfl, hT⟩ := lp_inv (f := fun s => b_X1_bestMeals_14 (3 + 2 + k) (nI N) L s.1 s.2.1 s.2.2.1 s.2.2.2) (fun j s => ∃ T, s = (nI (bst I k N c j), nI (satM I k N (bst I k N c j)), nI (j + 1), T) ∧ TS I T) (fun x => ∃ T, x = (nI (bst I k N c (2 ^ N - 1)), T) ∧ TS I T) (2 ^ N - 1)
            (fun j s hj hP => by
              obtain ⟨T, rfl, hT⟩ := hP
              simp only [b_X1_bestMeals_14]
              have hb := bst_le I k N c j
              have w1 := satM_le I k N (j + 1)
              have w2 := satM_le I k N (bst I k N c j)
              have tk : T (3 + 2 + k) 6 = nI c := by rw [hT.o (by omega)]; exact ec
              have pl := pop_le (j + 1)
              have pl2 := pop_le (bst I k N c j)
              rw [shl_1 N hN2, if_neg (nI_ge (by omega) (by omega)), s_bitCount (by omega), bd1_s, tk]
              by_cases q1 : pop (j + 1) ≤ c
              · obtain ⟨T', y1, y2⟩ := s_satM (N := N) (j + 1) L hW hk hT c3 (by omega)
                rw [if_pos (nI_le q1 (by omega)), y1, bd2_s, bd1_s, s_bitCount (by omega), bd1_s, some_if, bd1_s]
                by_cases q2 : satM I k N (bst I k N c j) < satM I k N (j + 1)
                · have tt : takes I k N c (bst I k N c j) (j + 1) := ⟨q1, Or.inl q2⟩
                  rw [if_pos (nI_lt q2 (by omega)), bd3_s, nm_s, nI_1]
                  refine ⟨_, rfl, T', ?_, y2⟩
                  show _ = (nI (if takes I k N c (bst I k N c j) (j + 1) then j + 1 else bst I k N c j), nI (satM I k N (if takes I k N c (bst I k N c j) (j + 1) then j + 1 else bst I k N c j)), nI (j + 1 + 1), T')
                  rw [if_pos tt]
                · rw [if_neg (fun z => q2 ((nI_ltI (by omega) (by omega)).mp z))]
                  by_cases q3 : satM I k N (j + 1) = satM I k N (bst I k N c j)
                  · rw [if_pos (by rw [q3])]
                    by_cases q4 : pop (j + 1) < pop (bst I k N c j)
                    · have tt : takes I k N c (bst I k N c j) (j + 1) := ⟨q1, Or.inr ⟨q3, q4⟩⟩
                      rw [if_neg (show ¬ nI (pop (bst I k N c j)) ≤ nI (pop (j + 1)) from nI_ge q4 (by omega)), if_neg (by decide), bd3_s, nm_s, nI_1]
                      refine ⟨_, rfl, T', ?_, y2⟩
                      show _ = (nI (if takes I k N c (bst I k N c j) (j + 1) then j + 1 else bst I k N c j), nI (satM I k N (if takes I k N c (bst I k N c j) (j + 1) then j + 1 else bst I k N c j)), nI (j + 1 + 1), T')
                      rw [if_pos tt]
                    · have tt : ¬ takes I k N c (bst I k N c j) (j + 1) := fun z => by
                        rcases z.2 with z | z
                        · exact q2 z
                        · exact q4 z.2
                      rw [if_pos (show nI (pop (bst I k N c j)) ≤ nI (pop (j + 1)) from nI_le (by omega) (by omega)), if_pos rfl, bd3_s, nm_s, nI_1]
                      refine ⟨_, rfl, T', ?_, y2⟩
                      show _ = (nI (if takes I k N c (bst I k N c j) (j + 1) then j + 1 else bst I k N c j), nI (satM I k N (if takes I k N c (bst I k N c j) (j + 1) then j + 1 else bst I k N c j)), nI (j + 1 + 1), T')
                      rw [if_neg tt]
                  · have tt : ¬ takes I k N c (bst I k N c j) (j + 1) := fun z => by
                      rcases z.2 with z | z
                      · exact q2 z
                      · exact q3 z.1
                    rw [if_neg (fun z => q3 ((nI_eq (by omega) (by omega)).mp z)), bd3_s, nm_s, nI_1]
                    refine ⟨_, rfl, T', ?_, y2⟩
                    show _ = (nI (if takes I k N c (bst I k N c j) (j + 1) then j + 1 else bst I k N c j), nI (satM I k N (if takes I k N c (bst I k N c j) (j + 1) then j + 1 else bst I k N c j)), nI (j + 1 + 1), T')
                    rw [if_neg tt]
              · have tt : ¬ takes I k N c (bst I k N c j) (j + 1) := fun z => q1 z.1
                rw [if_neg (nI_ge (by omega) (by omega)), bd3_s, nm_s, nI_1]
                refine ⟨_, rfl, T, ?_, hT⟩
                show _ = (nI (if takes I k N c (bst I k N c j) (j + 1) then j + 1 else bst I k N c j), nI (satM I k N (if takes I k N c (bst I k N c j) (j + 1) then j + 1 else bst I k N c j)), nI (j + 1 + 1), T)
                rw [if_neg tt])
            (fun s hP => by
              obtain ⟨T, rfl, hT⟩ := hP
              simp only [b_X1_bestMeals_14]
              rw [shl_1 N hN2, if_pos (nI_le (by omega) (by omega))]
              exact ⟨_, rfl, T, rfl, hT⟩)
            FU (show 2 ^ N - 1 < 2000 by omega) ((0 : Int32), nI (satM I k N 0), (1 : Int32), T0) ⟨T0, rfl, u2⟩
          rw [hx, bd2_s, bd2_s]
          have hb := bst_le I k N c (2 ^ N - 1)
          have hfin : ∃ T', bd2 (if a3 = 0 then bd2 (f_X1_hoursSat (3 + 2 + k) (nI N) (nI (bst I k N c (2 ^ N - 1))) T L) (fun r21 I22 => some (r21, I22)) else some (nI (bst I k N c (2 ^ N - 1)), T)) (fun y16 I17 => some (y16, I17)) = some (if a3 = 0 then nI (satM I k N (bst I k N c (2 ^ N - 1))) else nI (bst I k N c (2 ^ N - 1)), T') ∧ TS I T' := by
            by_cases z : a3 = 0
            · obtain ⟨T', y1, y2⟩ := s_satM (N := N) (bst I k N c (2 ^ N - 1)) L hW hk hT c3 (by omega)
              rw [if_pos z, y1, bd2_s, bd2_s, if_pos z]
              exact ⟨T', rfl, y2⟩
            · rw [if_neg z, bd2_s, if_neg z]
              exact ⟨T, rfl, hT⟩
          obtain ⟨T2, hf1, hf2⟩ := hfin
          rw [hf1]
          have kT := hf2.Kp
          have bT := hf2.B h.2.2.2.1
          obtain ⟨hW', hR'⟩ := kT.wall hW hR
          have s10 : T2 (3 + 2 + k) 10 = -4 := by rw [kT.1 _ (by omega)]; exact c3
          have ei : (43 : Int32) + nI k = nI (43 + k) := nI_add 43 k
          have sitR : ∀ (K : MI), TF T2 K → ∀ m, m < 256 → ∃ J, f_X11_sitsBy (nI k) (nI m) (nI N) K L = some (nI (satM I k N m), J) ∧ TF T2 J ∧ J 245 (43 + k) = nI c := fun K hK m hm => by
            obtain ⟨hW2, hR2⟩ := hK.Kp.wall hW' hR'
            obtain ⟨J, a, b⟩ := m_sitsBy (nI m) L hW2 hR2 hk hN2
            have k3 : K 3 = I 3 := by rw [hK.1 3 (by omega)]; exact kT.1 3 (by omega)
            have kk : K (3 + 2 + k) = I (3 + 2 + k) := by rw [hK.1 _ (by omega)]; exact kT.1 _ (by omega)
            rw [k3, kk] at a
            refine ⟨J, a, hK.tr b, ?_⟩
            rw [(hK.tr b).2 _ (by omega), show 43 + k = 7 + 6 * 6 + k by omega, hR'.c hk 6 (by omega), kT.1 _ (by omega)]
            exact ec
          obtain ⟨y, hy, J, rfl, hJ⟩ := lp_inv (f := fun s => b_X11_eat_53 (nI k) (nI N) a3 L s.1 s.2.1 s.2.2.1 s.2.2.2) (fun j s => ∃ J, TF T2 J ∧ ((j = 0 ∧ s = (0, -1, 0, J)) ∨ ∃ i, j = i + 1 ∧ s = (nI (bst I k N c i), nI (satM I k N (bst I k N c i)), nI j, J))) (fun x => ∃ J, x = (nI (bst I k N c (2 ^ N - 1)), nI (satM I k N (bst I k N c (2 ^ N - 1))), J) ∧ TF T2 J) (2 ^ N)
            (fun j s hj hP => by
              obtain ⟨K, hK, hs⟩ := hP
              rcases hs with ⟨rfl, rfl⟩ | ⟨i, rfl, rfl⟩
              · simp only [b_X11_eat_53]
                obtain ⟨J, y1, y2, y3⟩ := sitR K hK 0 (by omega)
                have y1' : f_X11_sitsBy (nI k) (0 : Int32) (nI N) K L = some (nI (satM I k N 0), J) := y1
                have o0 : f_X11_ones (0 : Int32) = some (nI 0) := m_ones (m := 0) (by omega)
                have w1 := satM_le I k N 0
                rw [shl_1 N hN2, if_neg (show ¬ nI (2 ^ N) ≤ (0 : Int32) from nI_ge (a := 0) (by omega) (by omega)), y1', bd2_s, o0, bd1_s, ei, gi_n (by omega) (by omega), cl_n (by omega), y3, if_neg (show ¬ nI c < nI 0 from fun z => by have := (nI_ltI (by omega) (by omega)).mp z; omega), if_pos (show (-1 : Int32) < nI (satM I k N 0) by
                  rw [fa_lt, nI_bd (by omega)]
                  have e : (-1 : Int32).toInt = -1 := rfl
                  omega), bd1_s, if_neg (by decide), bd1_s, if_neg (by decide), bd1_s, nm_s]
                exact ⟨_, rfl, J, y2, Or.inr ⟨0, rfl, rfl⟩⟩
              · simp only [b_X11_eat_53]
                have hb := bst_le I k N c i
                obtain ⟨J, y1, y2, y3⟩ := sitR K hK (i + 1) (by omega)
                have w1 := satM_le I k N (i + 1)
                have w2 := satM_le I k N (bst I k N c i)
                have pl := pop_le (i + 1)
                have pl2 := pop_le (bst I k N c i)
                rw [shl_1 N hN2, if_neg (nI_ge (by omega) (by omega)), y1, bd2_s, m_ones (by omega), bd1_s, ei, gi_n (by omega) (by omega), cl_n (by omega), y3, bd1_s, m_ones (by omega), bd1_s]
                have key : (if nI c < nI (pop (i + 1)) then some (0 : Int32) else if nI (satM I k N (bst I k N c i)) < nI (satM I k N (i + 1)) then some 1 else if nI (satM I k N (i + 1)) = nI (satM I k N (bst I k N c i)) then (if nI (pop (bst I k N c i)) ≤ nI (pop (i + 1)) then some 0 else some 1) else some 0) = some (b01 (takes I k N c (bst I k N c i) (i + 1))) := by
                  by_cases q1 : pop (i + 1) ≤ c
                  · rw [if_neg (fun z => by have := (nI_ltI (by omega) (by omega)).mp z; omega)]
                    by_cases q2 : satM I k N (bst I k N c i) < satM I k N (i + 1)
                    · rw [if_pos (nI_lt q2 (by omega)), b01_t ⟨q1, Or.inl q2⟩]
                    · rw [if_neg (fun z => q2 ((nI_ltI (by omega) (by omega)).mp z))]
                      by_cases q3 : satM I k N (i + 1) = satM I k N (bst I k N c i)
                      · rw [if_pos (by rw [q3])]
                        by_cases q4 : pop (i + 1) < pop (bst I k N c i)
                        · rw [if_neg (nI_ge q4 (by omega)), b01_t ⟨q1, Or.inr ⟨q3, q4⟩⟩]
                        · rw [if_pos (nI_le (by omega) (by omega)), b01_f (fun z => by
                            rcases z.2 with z | z
                            · exact q2 z
                            · exact q4 z.2)]
                      · rw [if_neg (fun z => q3 ((nI_eq (by omega) (by omega)).mp z)), b01_f (fun z => by
                          rcases z.2 with z | z
                          · exact q2 z
                          · exact q3 z.1)]
                  · rw [if_pos (nI_lt (by omega) (by omega)), b01_f (fun z => q1 z.1)]
                rw [key, bd1_s, if_b, if_b, some_if, bd1_s, some_if, bd1_s, nm_s, nI_1]
                refine ⟨_, rfl, J, y2, Or.inr ⟨i + 1, rfl, ?_⟩⟩
                show _ = (nI (if takes I k N c (bst I k N c i) (i + 1) then i + 1 else bst I k N c i), nI (satM I k N (if takes I k N c (bst I k N c i) (i + 1) then i + 1 else bst I k N c i)), nI (i + 1 + 1), J)
                by_cases tt : takes I k N c (bst I k N c i) (i + 1)
                · rw [if_pos tt, if_pos tt, if_pos tt]
                · rw [if_neg tt, if_neg tt, if_neg tt])
            (fun s hP => by
              obtain ⟨K, hK, hs⟩ := hP
              rcases hs with ⟨z, rfl⟩ | ⟨i, hi, rfl⟩
              · omega
              · simp only [b_X11_eat_53]
                rw [shl_1 N hN2, if_pos (nI_le (Nat.le_refl _) (by omega)), show 2 ^ N - 1 = i by omega]
                exact ⟨_, rfl, K, rfl, hK⟩)
            FU (show 2 ^ N < 2000 by omega) ((0 : Int32), (-1 : Int32), (0 : Int32), T2) ⟨T2, TF.rf T2, Or.inl ⟨rfl, rfl⟩⟩
          refine ⟨_, T2, J, rfl, ?_, h.tried kT bT hJ⟩
          rw [s_isSitter _ L hn (RW.n1 hW' hR'), bd1_s, if_b, if_pos (nI_sit hk hn), m_down0 L (by omega), bd1_s, hR'.c10 hk s10, if_pos (show b01 ((0 : Int32) ≤ -1) = 0 by decide), hy, bd3_s, some_if, bd1_s]
        · rw [if_neg c3, if_neg (by decide)]
          refine ⟨-2, I, I, rfl, ?_, h⟩
          have := (hR.up hk c3).2
          rw [show 0 + 67 + k = 67 + k by omega] at this
          rw [s_isSitter _ L hn e1, bd1_s, if_b, if_pos (nI_sit hk hn), m_down0 L (by omega), bd1_s, b01_t this, if_neg (by decide)]
      · rw [if_neg hno, if_neg (by decide)]
        refine ⟨-1, I, I, rfl, ?_, h⟩
        rw [s_isSitter _ L hn e1, bd1_s, if_b, if_neg hno]
    · simp only [if_pos c1, if_neg c2]
      refine ⟨-1, I, I, rfl, ?_, h⟩
      rw [s_isSitter _ L hn e1, bd1_s, if_b]
      by_cases z : (0 : Int32) ≤ a1 ∧ a1 < nI n
      · rw [if_pos z]
      · rw [if_neg z]
  · simp only [if_neg c1]
    refine ⟨-1, I, I, rfl, ?_, h⟩
    rw [s_isSitter _ L hn e1, bd1_s, if_b]
    by_cases z : (0 : Int32) ≤ a1 ∧ a1 < nI n
    · rw [if_pos z]
    · rw [if_neg z]
