/-! ===== film ===== -/
def flL (L : ML) (s i : Nat) (v : Nat → Int64) (t : Nat) : ML := va_up L s (fun j => if i ≤ j ∧ j < i + t then v (j - i) else L s j)
theorem fl_0 (L : ML) (s i : Nat) (v : Nat → Int64) : flL L s i v 0 = L := funext fun a => by
  unfold flL
  by_cases e : a = s
  · subst e
    rw [vu_at]
    refine funext fun j => ?_
    rw [if_neg (by omega)]
  · rw [vu_ne e]
theorem fl_step {L : ML} {s i t : Nat} {v : Nat → Int64} : uq2 (flL L s i v t) s (i + t) (v t) = flL L s i v (t + 1) := funext fun a => funext fun j => by
  rw [uq2_at]
  unfold flL
  by_cases e : a = s
  · subst e
    rw [vu_at, vu_at]
    by_cases c : j = i + t
    · rw [if_pos ⟨rfl, c⟩, if_pos (by omega), show j - i = t by omega]
    · rw [if_neg (fun q => c q.2)]
      by_cases c2 : i ≤ j ∧ j < i + t
      · rw [if_pos c2, if_pos (by omega)]
      · rw [if_neg c2, if_neg (by omega)]
  · rw [if_neg (fun q => e q.1), vu_ne e, vu_ne e]
theorem ok_film (a1 : Int32) (a2 : Int32) (a3 : Int32) (a4 : Int32) (a5 : Int32) {I : MI} {L : ML} (h : Inv I L) : ∃ (r : Int32) (I1 : MI) (L1 : ML) (I2 : MI) (L2 : ML), f_X10_film a1 a2 a3 a4 a5 I L = some (r, I1, L1) ∧ f_X11_film a1 a2 a3 a4 a5 I1 L1 = some (r, I2, L2) ∧ Inv I2 L2 := by
  obtain ⟨n, hW, hR⟩ := h.1
  have hn := hW.1
  have e1 := RW.n1 hW hR
  unfold f_X10_film f_X11_film
  rw [s_has a1 L hn hW.2.1, bd1_s, if_b, s_within, bd1_s, if_b, show (1 : Int64) = (1 : Int32).toInt64 from rfl, show (24 : Int64) = (24 : Int32).toInt64 from rfl]
  simp only [s_in32, bd1_s, if_b]
  rcases has_cases a1 hn with ⟨k, hk, rfl⟩ | hno
  · rw [if_pos (nI_sit hk hn)]
    by_cases c2 : (1 : Int32) ≤ a2 ∧ a2 ≤ 24
    · rw [if_pos c2]
      rcases row_cases h.2.2.2.2.1 a3 a4 a5 a2 with ⟨r, x1, x2, x3⟩ | ⟨s, a, z, i, N, hs, ha, hz, him, rfl, rfl, rfl, rfl, q1, q2, q3, q4, q5, x1, x2, x3⟩
      · rw [x1, bd1_s, if_neg x2]
        rcases x3 with ⟨rfl, x4⟩ | ⟨x4, x5, x6⟩
        · exact ⟨_, I, L, I, L, rfl, by rw [s_isSitter _ L hn e1, bd1_s, if_b, if_pos (nI_sit hk hn), if_pos c2, x4, bd1_s, if_pos rfl], h⟩
        · exact ⟨_, I, L, I, L, rfl, by rw [s_isSitter _ L hn e1, bd1_s, if_b, if_pos (nI_sit hk hn), if_pos c2, x5, bd1_s, if_neg (by decide), x6, bd1_s, if_neg x4], h⟩
      · have hok := hW.2.2.2.2.2.2.2.2 k hk
        have h9 := e01 hok.2.2.2.2.2.2.2.2.2.1
        have hh : rg (I 3 4) 0 9999 := hW.2.2.2.2.1
        have l9 : lkF I (3 + 2 + k) = I (3 + 2 + k) := lk_o (by omega)
        rw [x1, bd1_s, if_pos rfl, s_look, bd1_s, gi_n (by omega) (by omega), gi_n (by omega) (by omega), cl_n (by omega), cl_n (by omega)]
        unfold f_X1_filmOnto
        rw [s6_take L (by omega) (by rw [l9]; exact h9), bd1_s, tk211]
        have etr : ∀ t f, f ≤ 10 → trN no (s0 (lkF I) (3 + 2 + k)) (I 3 6) (I 3 2) (I 3 4) 0 t f = trN no (I (3 + 2 + k)) (I 3 6) (I 3 2) (I 3 4) 0 t f := fun t f hf => tr_congr (fun g hg => by rw [s0_e hg, l9]) t f hf
        have hl : lp (fun s' => b_X1_filmOnto_11 (199 + 2 * s) (nI i) (nI N) s'.1 s'.2.1 s'.2.2) FU ((0 : Int32), va_up (lkF I) 211 (s0 (lkF I) (3 + 2 + k)), L) = some (va_up (lkF I) 211 (trN no (s0 (lkF I) (3 + 2 + k)) (I 3 6) (I 3 2) (I 3 4) 0 N), flL L (199 + 2 * s + 1) i (fun t => cutL a (trN no (I (3 + 2 + k)) (I 3 6) (I 3 2) (I 3 4) 0 (t + 1) 5).toInt64) N) := by
          refine lp_forF (fun t => (nI t, va_up (lkF I) 211 (trN no (s0 (lkF I) (3 + 2 + k)) (I 3 6) (I 3 2) (I 3 4) 0 t), flL L (199 + 2 * s + 1) i (fun t => cutL a (trN no (I (3 + 2 + k)) (I 3 6) (I 3 2) (I 3 4) 0 (t + 1) 5).toInt64) t)) N (by rw [fl_0]; rfl) (fun t ht => ?_) ?_ (by omega)
          · simp only [b_X1_filmOnto_11]
            rw [if_neg (nI_ge ht (by omega)), s_Xpass (t := t) (mm := 0) false rfl _ (lk_LK I) (by omega), bd1_s, nI_add]
            have ep : passR (mealR false (trN no (s0 (lkF I) (3 + 2 + k)) (I 3 6) (I 3 2) (I 3 4) 0 t)) (skN (I 3 6) t) (ngN (I 3 2) (I 3 4) t) (nI t) = trN no (s0 (lkF I) (3 + 2 + k)) (I 3 6) (I 3 2) (I 3 4) 0 (t + 1) := by
              show _ = passR (mealR (no t) (trN no (s0 (lkF I) (3 + 2 + k)) (I 3 6) (I 3 2) (I 3 4) 0 t)) (skN (I 3 6) t) (ngN (I 3 2) (I 3 4) t) (0 + nI t)
              rw [show (0 : Int32) + nI t = nI t from Int32.zero_add _]
              rfl
            rw [ep, vu_at, etr (t + 1) 5 (by omega), s_put (a := a) (n := z) _ _ ha hz (by omega) (by rw [vu_ne (by omega), lk_o (by omega)]; exact q1) (by rw [vu_ne (by omega), lk_o (by omega)]; exact q3), bd1_s, nm_s, nI_1]
            refine congrArg (fun w => some (Sum.inl (nI (t + 1), va_up (lkF I) 211 (trN no (s0 (lkF I) (3 + 2 + k)) (I 3 6) (I 3 2) (I 3 4) 0 (t + 1)), w))) ?_
            exact fl_step (v := fun t => cutL a (trN no (I (3 + 2 + k)) (I 3 6) (I 3 2) (I 3 4) 0 (t + 1) 5).toInt64)
          · simp only [b_X1_filmOnto_11]
            rw [if_pos (nI_le (Nat.le_refl N) (by omega))]
        rw [hl, bd2_s, bd2_s]
        generalize hT : va_up (lkF I) 211 (trN no (s0 (lkF I) (3 + 2 + k)) (I 3 6) (I 3 2) (I 3 4) 0 N) = T
        generalize hv : (fun t => cutL a (trN no (I (3 + 2 + k)) (I 3 6) (I 3 2) (I 3 4) 0 (t + 1) 5).toInt64) = v
        have kT : Kp I T := by rw [← hT]; exact Kp.trial _
        have bT : InvB T := by
          rw [← hT]
          refine va_B (lk_B h.2.2.2.1) ?_
          rw [tr_9 (by decide) (by decide) (by decide), s0_e (by omega), l9]
          exact h9
        obtain ⟨hW', hR'⟩ := kT.wall hW hR
        have t3 : T 3 = I 3 := kT.1 3 (by omega)
        have tk : T (3 + 2 + k) = I (3 + 2 + k) := kT.1 _ (by omega)
        obtain ⟨J0, j1, j2, j3⟩ := m_try (flL L (199 + 2 * s + 1) i v N) hW' hR'
        rw [t3] at j3
        obtain ⟨y, hy, J, rfl, hJ⟩ := lp_inv (f := fun s' => b_X11_film_62 (nI k) (nI N) (nI s) (nI a) (nI i) s'.1 s'.2.1 s'.2.2) (fun t s' => ∃ J, s' = (nI t, J, flL (flL L (199 + 2 * s + 1) i v N) 247 (24 * s + i) v t) ∧ TF T J ∧ MRow J 219 n (I 3 2) (I 3 4 + nI t) (drN (I 3 6) t) (fun q => trN no (T (3 + 2 + q)) (I 3 6) (I 3 2) (I 3 4) (I 3 4) t)) (fun x => ∃ J, x = (J, flL (flL L (199 + 2 * s + 1) i v N) 247 (24 * s + i) v N) ∧ TF T J) N
          (fun t s' ht hP => by
            obtain ⟨K, rfl, hK, hM⟩ := hP
            simp only [b_X11_film_62]
            obtain ⟨J, w1, w2, w3, w4⟩ := m_tryStep (flL (flL L (199 + 2 * s + 1) i v N) 247 (24 * s + i) v t) hn hh (by omega) hM
            have ei : (256 : Int32) + nI k = nI (256 + k) := nI_add 256 k
            have e5 : mrec (J 245) 219 k 5 = trN no (T (3 + 2 + k)) (I 3 6) (I 3 2) (I 3 4) (I 3 4) (t + 1) 5 := (w4.2.2.2.2 k hk).1 5 (by omega)
            rw [mrec9 (by omega), show 219 + 7 + 6 * 5 + k = 256 + k by omega, tk, (tr_off (t + 1) (fun t ht => ⟨offh hh t (by omega), off0 t (by omega)⟩)).1 5 (by omega)] at e5
            rw [if_neg (nI_ge ht (by omega)), w1, bd1_s, ei, gi_n (by omega) (by omega), cl_n (by omega), e5, m_cut _ ha, bd1_s, e24b, gi_n (by omega) (by omega), cl_n (by omega), nm_s, nm_s, nI_1]
            refine ⟨_, rfl, J, ?_, hK.tr w2, w4⟩
            have ev : cutL a (trN no (I (3 + 2 + k)) (I 3 6) (I 3 2) (I 3 4) 0 (t + 1) 5).toInt64 = v t := by rw [← hv]
            rw [ev, fl_step])
          (fun s' hP => by
            obtain ⟨K, rfl, hK, hM⟩ := hP
            simp only [b_X11_film_62]
            rw [if_pos (nI_le (Nat.le_refl N) (by omega))]
            exact ⟨_, rfl, K, rfl, hK⟩)
          FU (show N < 2000 by omega) ((0 : Int32), J0, flL L (199 + 2 * s + 1) i v N) ⟨J0, by rw [fl_0]; rfl, j2, by
            show MRow J0 219 n (I 3 2) (I 3 4 + 0) (I 3 6) (fun q => T (3 + 2 + q))
            rw [Int32.add_zero]
            exact j3⟩
        refine ⟨_, T, _, J, flL (flL L (199 + 2 * s + 1) i v N) 247 (24 * s + i) v N, rfl, ?_, (h.tried kT bT hJ).shL (fun s2 hs2 => ?_)⟩
        · rw [s_isSitter _ _ hn (RW.n1 hW' hR'), bd1_s, if_b, if_pos (nI_sit hk hn), if_pos c2, x2, bd1_s, if_neg (by decide), against_congr (I := I) (L := L) _ _ _ _ kT.2.2.2.2.2.1 kT.2.2.2.2.2.2.1, x3, bd1_s, if_pos (by decide), j1, bd1_s, hy, bd2_s]
        · have hJi : ∀ i', i' ≠ 245 → (i' < 11 ∨ (19 ≤ i' ∧ i' < 207)) → J i' = I i' := fun i' a b => by rw [hJ.1 i' a, kT.1 i' b]
          have hJ8 : J 248 = I 248 := by rw [hJ.1 248 (by omega)]; exact kT.2.2.2.2.2.1
          have hJ9 : J 249 = I 249 := by rw [hJ.1 249 (by omega)]; exact kT.2.2.2.2.2.2.1
          rw [hJi _ (by omega) (by omega), hJ8, hJ9]
          rcases h.2.2.2.2.1 s2 hs2 with w | ⟨b, z2, p1, p2, p3, p4, p5, p6, p7⟩
          · exact Or.inl w
          · refine Or.inr ⟨b, z2, p1, p2, p3, p4, p5, p6, fun j hj => ?_⟩
            unfold flL
            rw [vu_ne (show 200 + 2 * s2 ≠ 247 by omega), vu_at, vu_ne (show 247 ≠ 199 + 2 * s + 1 by omega)]
            by_cases e : s2 = s
            · subst e
              rw [show 200 + 2 * s2 = 199 + 2 * s2 + 1 by omega, vu_at]
              by_cases c : i ≤ j ∧ j < i + N
              · rw [if_pos c, if_pos (by omega), show 24 * s2 + j - (24 * s2 + i) = j - i by omega]
              · rw [if_neg c, if_neg (by omega), show 199 + 2 * s2 + 1 = 200 + 2 * s2 by omega]
                exact p7 j hj
            · rw [vu_ne (show 200 + 2 * s2 ≠ 199 + 2 * s + 1 by omega), if_neg (by omega)]
              exact p7 j hj
    · rw [if_neg c2]
      refine ⟨-1, I, L, I, L, rfl, ?_, h⟩
      rw [s_isSitter _ L hn e1, bd1_s, if_b, if_pos (nI_sit hk hn), if_neg c2]
  · rw [if_neg hno]
    refine ⟨-1, I, L, I, L, rfl, ?_, h⟩
    rw [s_isSitter _ L hn e1, bd1_s, if_b, if_neg hno]
