def LF (L : ML) (a b : Int64) : ML := uq2 (uq2 L 244 12 a) 244 13 b
theorem LF_13 (L : ML) (a b c : Int64) : uq2 (LF L a b) 244 13 c = LF L a c := funext fun i => funext fun j => by
  unfold LF
  rw [uq2_at, uq2_at, uq2_at, uq2_at, uq2_at]
  by_cases e : i = 244 ∧ j = 13
  · rw [if_pos e, if_pos e]
  · rw [if_neg e, if_neg e, if_neg e]
theorem LF_12 (L : ML) (a b c : Int64) : uq2 (LF L a b) 244 12 c = LF L c b := funext fun i => funext fun j => by
  unfold LF
  rw [uq2_at, uq2_at, uq2_at, uq2_at, uq2_at]
  by_cases e : i = 244 ∧ j = 12
  · rw [if_pos e, if_neg (by omega), if_pos e]
  · rw [if_neg e, if_neg e, if_neg e]
theorem LF_a (L : ML) (a b : Int64) : LF L a b 244 12 = a ∧ LF L a b 244 13 = b := by
  unfold LF
  refine ⟨?_, ?_⟩
  · rw [uq2_at, if_neg (by omega), uq2_at, if_pos ⟨rfl, rfl⟩]
  · rw [uq2_at, if_pos ⟨rfl, rfl⟩]
theorem LF_o {L : ML} {a b : Int64} {i : Nat} (h : i ≠ 244) : LF L a b i = L i := by
  unfold LF
  rw [uq2_ne h, uq2_ne h]
theorem LF_LF (L : ML) (a b c d : Int64) : LF (LF L a b) c d = LF L c d := by
  show uq2 (uq2 (LF L a b) 244 12 c) 244 13 d = LF L c d
  rw [LF_12, LF_13]
theorem MRow.R {J : MI} {o n : Nat} {dusk hr d : Int32} {R R' : Nat → Nat → Int32} (h : MRow J o n dusk hr d R) (e : ∀ q, q < n → R q = R' q) : MRow J o n dusk hr d R' := by
  obtain ⟨h1, h2, h4, h6, h7⟩ := h
  exact ⟨h1, h2, h4, h6, fun q hq => by rw [← e q hq]; exact h7 q hq⟩
theorem m_findOdds {T : MI} {n k q N p : Nat} (L : ML) (hW : okW T 3 n) (hR : RW T 3 n 0) (hk : k < n) (hq : q < n) (hN : N ≤ 10) (hp : p ≤ 10) (s1 : T (3 + 2 + k) 10 = -4) (s2 : T (3 + 2 + q) 10 = -4) : ∃ J, f_X11_findOdds (nI k) (nI q) (nI N) (nI p) T L = some (J, LF L (lN (waysN T k q N p)) (lN (10 ^ N))) ∧ TF T J := by
  have hn := hW.1
  have hh : rg (T 3 4) 0 9999 := hW.2.2.2.2.1
  obtain ⟨p1, p2⟩ := two_le10 hN
  unfold f_X11_findOdds
  rw [nm_s, nm_s]
  have hl : lp (fun s => b_X11_findOdds_13 (nI k) (nI q) (nI N) (nI p) T s.1 s.2) FU ((0 : Int32), uq2 (uq2 L 244 12 0) 244 13 1) = some (LF L 0 (lN (10 ^ N))) := by
    refine lp_forF (fun j => (nI j, LF L 0 (lN (10 ^ j)))) N rfl (fun j hj => ?_) ?_ (by omega)
    · simp only [b_X11_findOdds_13]
      rw [if_neg (nI_ge hj (by omega)), nm_s, nm_s, nI_1, (LF_a _ _ _).2, show (10 : Int64) = lN 10 from rfl, lN_mul, LF_13, ← Nat.pow_succ]
    · simp only [b_X11_findOdds_13]
      rw [if_pos (nI_le (Nat.le_refl _) (by omega))]
  rw [hl, bd1_s]
  generalize hD : (fun z => WN p N z * indN (gaN T k) (gaN T q) (lnN T k) (lnN T q) N 0 (stN T k) (stN T q) z) = D
  obtain ⟨y, hy, J, rfl, hJ⟩ := lp_inv (f := fun s => b_X11_findOdds_40 (nI k) (nI q) (nI N) (nI p) s.1 s.2.1 s.2.2) (fun z s => ∃ J, s = (nI z, J, LF L (lN (sumN D z)) (lN (10 ^ N))) ∧ TF T J) (fun x => ∃ J, x = (J, LF L (lN (sumN D (2 ^ N))) (lN (10 ^ N))) ∧ TF T J) (2 ^ N)
    (fun z s hz hP => by
      obtain ⟨K, rfl, hK⟩ := hP
      simp only [b_X11_findOdds_40]
      obtain ⟨hW2, hR2⟩ := hK.Kp.wall hW hR
      obtain ⟨J0, j1, j2, j3⟩ := m_try (LF L (lN (sumN D z)) (lN (10 ^ N))) hW2 hR2
      have k3 : K 3 = T 3 := hK.1 3 (by omega)
      rw [k3] at j3
      have j3' : MRow J0 219 n (T 3 2) (T 3 4) (T 3 6) (fun i => T (3 + 2 + i)) := j3.R (fun i hi => hK.1 _ (by omega))
      obtain ⟨J, S, w1, w2, w3, w4⟩ := m_mask (nI k) (nI q) (LF L (lN (sumN D z)) (lN (10 ^ N))) hW hk hq hN hp hz s1 s2 j3'
      have tfJ := (hK.tr j2).tr w2
      have g4 : J 245 4 = T 3 4 := by rw [tfJ.2 4 (by omega)]; exact (hR.2.1 4 (by omega) (by omega)).symm
      have dk := m_downIn (J := J) (k := k) (LF L (lN (sumN D z)) (lN (10 ^ N))) (by omega) g4 hh
      have dq := m_downIn (J := J) (k := q) (LF L (lN (sumN D z)) (lN (10 ^ N))) (by omega) g4 hh
      have mk : mrec (J 245) 219 k 10 = S k 10 := (w3.2.2.2.2 k hk).1 10 (by omega)
      have mq : mrec (J 245) 219 q 10 = S q 10 := (w3.2.2.2.2 q hq).1 10 (by omega)
      rw [mk] at dk
      rw [mq] at dq
      have nm6 : ∀ u : Nat, u < 100 → ¬ nI (u + 1) = (1000000 : Int32) := fun u hu z => by
        rw [fa_eq, nI_bd (by omega)] at z
        have e : (1000000 : Int32).toInt = 1000000 := rfl
        omega
      have key : bd1 (f_X11_downIn (nI q) J (LF L (lN (sumN D z)) (lN (10 ^ N)))) (fun r31 => bd1 ((if r31 = (1000000 : Int32) then some (0 : Int64) else bd1 (f_X11_downIn (nI k) J (LF L (lN (sumN D z)) (lN (10 ^ N)))) (fun r39 => bd1 (f_X11_downIn (nI q) J (LF L (lN (sumN D z)) (lN (10 ^ N)))) (fun r41 => (if r39 ≤ r41 then some (0 : Int64) else some (lN (WN p N z))))))) (fun y33 => nm (uq2 (LF L (lN (sumN D z)) (lN (10 ^ N))) 244 12 ((LF L (lN (sumN D z)) (lN (10 ^ N)) 244 12) + y33)) (fun L36 => nm (nI z + (1 : Int32)) (fun x37 => some ((Sum.inl (x37, J, L36) : (Int32 × MI × ML) ⊕ (MI × ML))))))) = some (Sum.inl (nI (z + 1), J, LF L (lN (sumN D (z + 1))) (lN (10 ^ N)))) := by
        have fin : ∀ v : Int64, v = lN (D z) → nm (uq2 (LF L (lN (sumN D z)) (lN (10 ^ N))) 244 12 ((LF L (lN (sumN D z)) (lN (10 ^ N)) 244 12) + v)) (fun L36 => nm (nI z + (1 : Int32)) (fun x37 => some ((Sum.inl (x37, J, L36) : (Int32 × MI × ML) ⊕ (MI × ML))))) = some (Sum.inl (nI (z + 1), J, LF L (lN (sumN D (z + 1))) (lN (10 ^ N)))) := fun v hv => by
          rw [nm_s, nm_s, nI_1, (LF_a _ _ _).1, hv, lN_add, LF_12]
          rfl
        have Dz : D z = WN p N z * indN (gaN T k) (gaN T q) (lnN T k) (lnN T q) N 0 (stN T k) (stN T q) z := by rw [← hD]
        rcases w4.2 with ⟨xa, xb, x1, x2, x3, x4, x5, x6, x7⟩ | ⟨d, u, u1, u2, u3⟩ | ⟨d, u, u1, u2, u3⟩
        · rw [dq.1 x2, bd1_s, if_pos rfl, bd1_s]
          refine fin 0 ?_
          rw [Dz, x7, Nat.sub_self]
          rfl
        · have f0 : (0 : Int64) = lN (D z) := by rw [Dz, d]; rfl
          rcases u3 with w | ⟨v, v1, v2, v3⟩
          · rw [dq.1 w, bd1_s, if_pos rfl, bd1_s]
            exact fin 0 f0
          · rw [dq.2 v (by omega) v3, bd1_s, if_neg (nm6 v (by omega)), dk.2 u (by omega) u2, bd1_s, bd1_s, if_pos (nI_le (by omega) (by omega)), bd1_s]
            exact fin 0 f0
        · have f1 : lN (WN p N z) = lN (D z) := by rw [Dz, d, Nat.mul_one]
          rw [dq.2 u (by omega) u2, bd1_s, if_neg (nm6 u (by omega))]
          rcases u3 with w | ⟨v, v1, v2, v3⟩
          · rw [dk.1 w, bd1_s, bd1_s, if_neg (fun z => by
              rw [fa_le, nI_bd (by omega)] at z
              have e : (1000000 : Int32).toInt = 1000000 := rfl
              omega), bd1_s]
            exact fin _ f1
          · rw [dk.2 v (by omega) v3, bd1_s, bd1_s, if_neg (nI_ge (by omega) (by omega)), bd1_s]
            exact fin _ f1
      rw [shl_10 N hN, if_neg (nI_ge hz (by omega)), j1, bd1_s, w1, bd2_s]
      exact ⟨_, key, J, rfl, tfJ⟩)
    (fun s hP => by
      obtain ⟨K, rfl, hK⟩ := hP
      simp only [b_X11_findOdds_40]
      rw [shl_10 N hN, if_pos (nI_le (Nat.le_refl _) (by omega))]
      exact ⟨_, rfl, K, rfl, hK⟩)
    FU (show 2 ^ N < 2000 by omega) ((0 : Int32), T, LF L 0 (lN (10 ^ N))) ⟨T, rfl, TF.rf T⟩
  have hs : sumN D (2 ^ N) = waysN T k q N p := by rw [← hD]; exact V_sum hp N 0 _ _
  rw [hy, bd2_s, hs]
  exact ⟨J, rfl, hJ⟩
def chN (I : MI) (k N p : Nat) : Nat → Int32 × Int64
  | 0 => (-4, -1)
  | j + 1 => if j = k then chN I k N p j else if I (3 + 2 + j) 10 = -4 then (if lN (waysN I k j N p) ≤ (chN I k N p j).2 then chN I k N p j else (nI j, lN (waysN I k j N p))) else chN I k N p j
theorem WS.Kp {I T : MI} {N p : Nat} (h : WS I T N p) : Kp I T := ⟨fun i hi => h.1 i (by omega), by rw [h.1 _ (by omega)], by rw [h.1 _ (by omega)], fun j _ => by rw [h.1 _ (by omega)], h.1 _ (by omega), h.1 _ (by omega), h.1 _ (by omega), h.1 _ (by omega)⟩
theorem m_isSpan (a b : Int32) : f_X11_isSpan a b = some (b01 (((0 : Int32) ≤ a ∧ a ≤ 10) ∧ ((0 : Int32) ≤ b ∧ b ≤ 10))) := by
  unfold f_X11_isSpan
  rw [show (0 : Int64) = (0 : Int32).toInt64 from rfl, show (10 : Int64) = (10 : Int32).toInt64 from rfl, s_in32, bd1_s, s_in32, bd1_s, if_b, if_b]
  simp only [some_if, if_10, if_b0, bd1_s, gd_b]
theorem ways_congr {I T : MI} {k q N p : Nat} (h3 : T 3 = I 3) (hk : T (3 + 2 + k) = I (3 + 2 + k)) (hq : T (3 + 2 + q) = I (3 + 2 + q)) : waysN T k q N p = waysN I k q N p := by
  have g1 : gaN T k = gaN I k := funext fun y => funext fun t => by unfold gaN; rw [h3, hk]
  have g2 : gaN T q = gaN I q := funext fun y => funext fun t => by unfold gaN; rw [h3, hq]
  unfold waysN lnN stN
  rw [g1, g2, hk, hq]
theorem ok_challenge (a1 : Int32) (a2 : Int32) (a3 : Int32) {I : MI} {L : ML} (h : Inv I L) : ∃ (r : Int32) (I1 : MI) (I2 : MI) (L2 : ML), f_X10_challenge a1 a2 a3 I L = some (r, I1) ∧ f_X11_challenge a1 a2 a3 I1 L = some (r, I2, L2) ∧ Inv I2 L2 := by
  obtain ⟨n, hW, hR⟩ := h.1
  have hn := hW.1
  have e1 := RW.n1 hW hR
  unfold f_X10_challenge f_X11_challenge
  rw [s_within, bd1_s, if_b, s_within, bd1_s, if_b, s_refusesOne a1 L hn hW.2.1, bd1_s]
  simp only [m_isSpan, bd1_s, if_b]
  have refuse : ¬ (((0 : Int32) ≤ a2 ∧ a2 ≤ 10) ∧ ((0 : Int32) ≤ a3 ∧ a3 ≤ 10)) → (bd1 (f_X11_isSitter a1 I L) fun r1 => if r1 = 0 then some ((-1 : Int32), I, L) else if ((0 : Int32) ≤ a2 ∧ a2 ≤ 10) ∧ ((0 : Int32) ≤ a3 ∧ a3 ≤ 10) then bd1 (f_X11_isDown (0 : Int32) a1 I L) (fun r7 => (if r7 = 0 then bd3 (lp (fun s => b_X11_challenge_42 a1 a2 a3 s.1 s.2.1 s.2.2.1 s.2.2.2.1 s.2.2.2.2) FU (((-4 : Int32), (-1 : Int64), (0 : Int32), I, L))) (fun y35 I36 L37 => some (y35, I36, L37)) else some (((-2 : Int32), I, L)))) else some ((-1 : Int32), I, L)) = some (-1, I, L) := fun q => by
    rw [s_isSitter _ L hn e1, bd1_s, if_b, if_neg q, ite_self]
  by_cases c1 : (0 : Int32) ≤ a2 ∧ a2 ≤ 10
  · by_cases c2 : (0 : Int32) ≤ a3 ∧ a3 ≤ 10
    · rw [if_pos c1, if_pos c2]
      obtain ⟨N, hN, rfl⟩ := (in_n (b := 10) (by omega)).mp c1
      obtain ⟨p, hp, rfl⟩ := (in_n (b := 10) (by omega)).mp c2
      rcases has_cases a1 hn with ⟨k, hk, rfl⟩ | hno
      · rw [if_pos (nI_sit hk hn), cl_n (by omega)]
        by_cases c3 : I (3 + 2 + k) 10 = -4
        · obtain ⟨T0, y1, y2⟩ := s_weigh (N := N) (p := p) L h.2.2.2.1 hN
          rw [if_pos c3, if_pos rfl, y1, bd1_s]
          obtain ⟨x, hx, T, rfl, hT⟩ := lp_inv (f := fun s => b_X10_challenge_62 (nI k) L s.1 s.2.1 s.2.2.1 s.2.2.2) (fun j s => ∃ T, s = ((chN I k N p j).1, (chN I k N p j).2, nI j, T) ∧ WS I T N p) (fun x => ∃ T, x = ((chN I k N p n).1, T) ∧ WS I T N p) n
            (fun j s hj hP => by
              obtain ⟨T, rfl, hT⟩ := hP
              simp only [b_X10_challenge_62]
              have t3 : T 3 1 = nI n := by rw [hT.1 _ (by omega)]; exact hW.2.1
              have tj : T (3 + 2 + j) = I (3 + 2 + j) := hT.1 _ (by omega)
              have hc : chN I k N p (j + 1) = if j = k then chN I k N p j else if I (3 + 2 + j) 10 = -4 then (if lN (waysN I k j N p) ≤ (chN I k N p j).2 then chN I k N p j else (nI j, lN (waysN I k j N p))) else chN I k N p j := rfl
              rw [t3, if_neg (nI_ge hj (by omega)), gi_n (by omega) (by omega), cl_n (by omega), s_sits, bd1_s, if_b, tj, gi_n (by omega) (by omega), gi_n (by omega) (by omega), cl_n (by omega), hc]
              by_cases e : j = k
              · rw [if_pos (by rw [e]), bd3_s, nm_s, nI_1, if_pos e]
                exact ⟨_, rfl, T, rfl, hT⟩
              · rw [if_neg (fun z => e ((nI_eq (by omega) (by omega)).mp z)), if_neg e]
                by_cases c : I (3 + 2 + j) 10 = -4
                · obtain ⟨T', z1, z2⟩ := s_outw L hW hk hj hN hp hT
                  rw [if_pos c, z1, bd2_s, if_pos c]
                  by_cases d : lN (waysN I k j N p) ≤ (chN I k N p j).2
                  · rw [if_pos (lg_le.mpr d), bd3_s, nm_s, nI_1, if_pos d]
                    exact ⟨_, rfl, T', rfl, z2⟩
                  · rw [if_neg (fun z => d (lg_le.mp z)), bd3_s, nm_s, nI_1, if_neg d]
                    exact ⟨_, rfl, T', rfl, z2⟩
                · rw [if_neg c, bd3_s, nm_s, nI_1, if_neg c]
                  exact ⟨_, rfl, T, rfl, hT⟩)
            (fun s hP => by
              obtain ⟨T, rfl, hT⟩ := hP
              simp only [b_X10_challenge_62]
              have t3 : T 3 1 = nI n := by rw [hT.1 _ (by omega)]; exact hW.2.1
              rw [t3, if_pos (nI_le (Nat.le_refl _) (by omega))]
              exact ⟨_, rfl, T, rfl, hT⟩)
            FU (show n < 2000 by omega) ((-4 : Int32), (-1 : Int64), (0 : Int32), T0) ⟨T0, rfl, y2⟩
          rw [hx, bd2_s]
          have kT := hT.Kp
          obtain ⟨hW', hR'⟩ := kT.wall hW hR
          have s10 : T (3 + 2 + k) 10 = -4 := by rw [kT.1 _ (by omega)]; exact c3
          obtain ⟨y, hy, J, L2, rfl, hJ, hL2⟩ := lp_inv (f := fun s => b_X11_challenge_42 (nI k) (nI N) (nI p) s.1 s.2.1 s.2.2.1 s.2.2.2.1 s.2.2.2.2) (fun j s => ∃ J L2, s = ((chN I k N p j).1, (chN I k N p j).2, nI j, J, L2) ∧ TF T J ∧ ∀ i, i ≠ 244 → L2 i = L i) (fun x => ∃ J L2, x = ((chN I k N p n).1, J, L2) ∧ TF T J ∧ ∀ i, i ≠ 244 → L2 i = L i) n
            (fun j s hj hP => by
              obtain ⟨K, L2, rfl, hK, hL⟩ := hP
              simp only [b_X11_challenge_42]
              obtain ⟨hW2, hR2⟩ := hK.Kp.wall hW' hR'
              have kI : ∀ i, i < 11 → K i = I i := fun i hi => by rw [hK.1 i (by omega)]; exact kT.1 i (by omega)
              have e1' : K 245 (1 : Int32).toNatClampNeg = nI n := RW.n1 hW2 hR2
              have hc : chN I k N p (j + 1) = if j = k then chN I k N p j else if I (3 + 2 + j) 10 = -4 then (if lN (waysN I k j N p) ≤ (chN I k N p j).2 then chN I k N p j else (nI j, lN (waysN I k j N p))) else chN I k N p j := rfl
              rw [gi_t (show vp_in (1 : Int32) 1752 from vp_in_nI (n := 1) (by omega) (by omega)), e1', if_neg (nI_ge hj (by omega)), m_down0 _ (by omega), bd1_s, hc]
              by_cases e : j = k
              · rw [if_pos (by rw [e]), bd4_s, nm_s, nI_1, if_pos e]
                exact ⟨_, rfl, K, L2, rfl, hK, hL⟩
              · rw [if_neg (fun z => e ((nI_eq (by omega) (by omega)).mp z)), if_neg e]
                by_cases c : I (3 + 2 + j) 10 = -4
                · have sj : K (3 + 2 + j) 10 = -4 := by rw [kI _ (by omega)]; exact c
                  have sk : K (3 + 2 + k) 10 = -4 := by rw [kI _ (by omega)]; exact c3
                  obtain ⟨J, z1, z2⟩ := m_findOdds L2 hW2 hR2 hk hj hN hp sk sj
                  rw [ways_congr (kI 3 (by omega)) (kI _ (by omega)) (kI _ (by omega))] at z1
                  rw [hR2.c10 hj sj, if_pos (show b01 ((0 : Int32) ≤ -1) = 0 by decide), z1, bd2_s, (LF_a _ _ _).1, if_pos c]
                  by_cases d : lN (waysN I k j N p) ≤ (chN I k N p j).2
                  · rw [if_pos (lg_le.mpr d), bd1_s, if_pos (lg_le.mpr d), bd1_s, bd4_s, nm_s, nI_1, if_pos d]
                    exact ⟨_, rfl, J, _, rfl, hK.tr z2, fun i hi => by rw [LF_o hi]; exact hL i hi⟩
                  · rw [if_neg (fun z => d (lg_le.mp z)), bd1_s, if_neg (fun z => d (lg_le.mp z)), bd1_s, bd4_s, nm_s, nI_1, if_neg d]
                    exact ⟨_, rfl, J, _, rfl, hK.tr z2, fun i hi => by rw [LF_o hi]; exact hL i hi⟩
                · have sj : ¬ K (3 + 2 + j) 10 = -4 := by rw [kI _ (by omega)]; exact c
                  have := (hR2.up hj sj).2
                  rw [show 0 + 67 + j = 67 + j by omega] at this
                  rw [b01_t this, if_neg (by decide), bd4_s, nm_s, nI_1, if_neg c]
                  exact ⟨_, rfl, K, L2, rfl, hK, hL⟩)
            (fun s hP => by
              obtain ⟨K, L2, rfl, hK, hL⟩ := hP
              simp only [b_X11_challenge_42]
              obtain ⟨hW2, hR2⟩ := hK.Kp.wall hW' hR'
              have e1' : K 245 (1 : Int32).toNatClampNeg = nI n := RW.n1 hW2 hR2
              rw [gi_t (show vp_in (1 : Int32) 1752 from vp_in_nI (n := 1) (by omega) (by omega)), e1', if_pos (nI_le (Nat.le_refl _) (by omega))]
              exact ⟨_, rfl, K, L2, rfl, hK, hL⟩)
            FU (show n < 2000 by omega) ((-4 : Int32), (-1 : Int64), (0 : Int32), T, L) ⟨T, L, rfl, TF.rf T, fun _ _ => rfl⟩
          refine ⟨_, T, J, L2, rfl, ?_, h.keep (kT.tr hJ.Kp) (hJ.B hT.2.1) (fun s hs => hL2 _ (by omega)) (hL2 _ (by omega))⟩
          rw [s_isSitter _ L hn (RW.n1 hW' hR'), bd1_s, if_b, if_pos (nI_sit hk hn), if_pos ⟨c1, c2⟩, m_down0 L (by omega), bd1_s, hR'.c10 hk s10, if_pos (show b01 ((0 : Int32) ≤ -1) = 0 by decide), hy, bd3_s]
        · rw [if_neg c3, if_neg (by decide)]
          refine ⟨-2, I, I, L, rfl, ?_, h⟩
          have := (hR.up hk c3).2
          rw [show 0 + 67 + k = 67 + k by omega] at this
          rw [s_isSitter _ L hn e1, bd1_s, if_b, if_pos (nI_sit hk hn), if_pos ⟨c1, c2⟩, m_down0 L (by omega), bd1_s, b01_t this, if_neg (by decide)]
      · rw [if_neg hno, if_neg (by decide)]
        refine ⟨-1, I, I, L, rfl, ?_, h⟩
        rw [s_isSitter _ L hn e1, bd1_s, if_b, if_neg hno]
    · rw [if_pos c1, if_neg c2]
      exact ⟨-1, I, I, L, rfl, refuse (fun q => c2 q.2), h⟩
  · rw [if_neg c1]
    exact ⟨-1, I, I, L, rfl, refuse (fun q => c1 q.1), h⟩
