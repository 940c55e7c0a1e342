theorem RW.n1 {I : MI} {n : Nat} (hW : okW I 3 n) (hR : RW I 3 n 0) : I 245 1 = nI n := by rw [← hW.2.1]; exact (hR.2.1 1 (by omega) (by omega)).symm
theorem RW.c {I : MI} {n k : Nat} (hR : RW I 3 n 0) (hk : k < n) (f : Nat) (hf : f < 10) : I 245 (7 + 6 * f + k) = I (3 + 2 + k) f := by
  rw [hR.mr hk hf, show 0 + 7 + 6 * f + k = 7 + 6 * f + k by omega]
theorem RW.c10 {I : MI} {n k : Nat} (hR : RW I 3 n 0) (hk : k < n) (hs : I (3 + 2 + k) 10 = -4) : I 245 (67 + k) = -1 := by
  have := hR.none hk hs
  rw [show 0 + 67 + k = 67 + k by omega] at this
  exact this
theorem m_down0 {I : MI} {k : Nat} (L : ML) (h : k < 6) : f_X11_isDown (0 : Int32) (nI k) I L = some (b01 (0 ≤ I 245 (67 + k))) := by
  have := m_isDown (I := I) (o := 0) (k := k) L (by omega)
  rw [show 0 + 67 + k = 67 + k by omega] at this
  exact this
theorem iz (c k : Nat) (x : Int32) (h : x = nI c) : x + nI k = nI (c + k) := by rw [h]; exact nI_add c k
theorem rg_lt {x : Int32} {a b : Int} (h : rg x a b) {v : Int32} {c : Int} (e : v.toInt = c) (k : c < a) : ¬ x = v := by
  intro q
  rw [q] at h
  have := h.1
  omega
theorem ok_praise (a1 : Int32) {I : MI} {L : ML} (h : Inv I L) : ∃ (r : Int32) (I1 : MI) (I2 : MI), f_X10_praise a1 I L = some (r, I1) ∧ f_X11_praise a1 I1 L = some (r, I2) ∧ Inv I2 L := by
  obtain ⟨n, hW, hR⟩ := h.1
  have hn := hW.1
  have e1 := RW.n1 hW hR
  unfold f_X10_praise f_X11_praise
  rw [s_has a1 L hn hW.2.1, bd1_s, if_b]
  rcases has_cases a1 hn with ⟨k, hk, rfl⟩ | hno
  · rw [if_pos (nI_sit hk hn), gi_n (by omega) (by omega), cl_n (by omega), s_sits, bd1_s, if_b]
    have hok := hW.2.2.2.2.2.2.2.2 k hk
    have ei : (55 : Int32) + nI k = nI (55 + k) := nI_add 55 k
    have e8 : I 245 (55 + k) = I (3 + 2 + k) 8 := hR.c hk 8 (by omega)
    have z9 : (9 : Int32).toInt = 9 := rfl
    have r8 := hok.2.2.2.2.2.2.2.2.1
    by_cases c3 : I (3 + 2 + k) 10 = -4
    · rw [if_pos c3]
      by_cases c4 : I (3 + 2 + k) 8 < 9
      · rw [if_pos c4]
        have c5 : ¬ I (3 + 2 + k) 8 = 9 := fun q => by rw [q] at c4; exact absurd c4 (by decide)
        obtain ⟨I1, k1, k2, k3⟩ := h.sit hW hR hk
        obtain ⟨I3, m1, m2, m3, m4⟩ := k3 (fun f => if f = 8 then I (3 + 2 + k) 8 + 1 else I (3 + 2 + k) f) (up2 I1 (3 + 2 + k) 8 (I (3 + 2 + k) 8 + 1)) (by
          obtain ⟨o0, o1, o2, o3, o4, o5, o6, o7, o8, o9, o10⟩ := hok
          refine ⟨o0, o1, o2, o3, o4, o5, o6, o7, ?_, o9, o10⟩
          rw [fa_lt, z9] at c4
          have z1 : (1 : Int32).toInt = 1 := rfl
          have := r8.1
          show rg (I (3 + 2 + k) 8 + 1) 0 9
          unfold rg
          rw [fb_addI (by rw [z1]; omega) (by rw [z1]; omega), z1]
          omega) (fun i hi => up2_ne hi) (fun f hf => by
            rw [up2_at, k2 _ (by omega)]
            by_cases c : f = 8
            · rw [if_pos ⟨rfl, c⟩, if_pos c]
            · rw [if_neg (fun q => c q.2), if_neg c])
        have hb : f_X11_isSitter (nI k) (up2 I1 (3 + 2 + k) 8 (I (3 + 2 + k) 8 + 1)) L = some (b01 (0 ≤ nI k ∧ nI k < nI n)) := s_isSitter _ L hn (by rw [up2_ne (by omega), k2 _ (by omega)]; exact e1)
        have h45 : ∀ j, up2 I1 (3 + 2 + k) 8 (I (3 + 2 + k) 8 + 1) 245 j = I 245 j := fun j => by rw [up2_ne (by omega), k2 _ (by omega)]
        refine ⟨I (3 + 2 + k) 8 + 1, up2 I1 (3 + 2 + k) 8 (I (3 + 2 + k) 8 + 1), up2 I3 245 (55 + k) (I (3 + 2 + k) 8 + 1), by rw [k1, bd1_s, nm_s, k2 _ (by omega), up2_s], ?_, m4 _ (fun i hi => up2_ne hi) (fun j hj => up2_n (fun q => hj 8 (by omega) (by omega))) (fun f hf => ?_) (Or.inl ⟨c3, ?_⟩)⟩
        · rw [hb, bd1_s, if_b, if_pos (nI_sit hk hn), m_down0 L (by omega), bd1_s, h45, hR.c10 hk c3, if_pos (show b01 ((0 : Int32) ≤ -1) = 0 by decide), ei, gi_n (by omega) (by omega), cl_n (by omega), h45, e8, if_neg c5, m1, bd1_s, gi_n (by omega) (by omega), gi_n (by omega) (by omega), nm_s, gi_n (by omega) (by omega), m3 _ (by omega), e8, up2_s]
        · rw [up2_at]
          by_cases c : f = 8
          · rw [if_pos ⟨rfl, by omega⟩, if_pos c]
          · rw [if_neg (fun q => c (by omega)), if_neg c, m3 _ (by omega), hR.c hk _ (by omega)]
        · rw [up2_n (by omega), m3 _ (by omega)]
          exact hR.c10 hk c3
      · rw [if_neg c4]
        have c5 : I (3 + 2 + k) 8 = 9 := by
          rw [fa_lt, z9] at c4
          rw [fa_eq, z9]
          have := r8.2
          omega
        refine ⟨-2, I, I, rfl, ?_, h⟩
        rw [s_isSitter _ L hn e1, bd1_s, if_b, if_pos (nI_sit hk hn), m_down0 L (by omega), bd1_s, hR.c10 hk c3, if_pos (show b01 ((0 : Int32) ≤ -1) = 0 by decide), ei, gi_n (by omega) (by omega), cl_n (by omega), e8, if_pos c5]
    · rw [if_neg c3]
      refine ⟨-2, I, I, rfl, ?_, h⟩
      have := (hR.up hk c3).2
      rw [show 0 + 67 + k = 67 + k by omega] at this
      rw [s_isSitter _ L hn e1, bd1_s, if_b, if_pos (nI_sit hk hn), m_down0 L (by omega), bd1_s, b01_t this, if_neg (by decide)]
  · rw [if_neg hno]
    refine ⟨-1, I, I, rfl, ?_, h⟩
    rw [s_isSitter _ L hn e1, bd1_s, if_b, if_neg hno]
theorem s_cloaks {I : MI} {w n : Nat} (L : ML) (hn : n ≤ 6) (h : I w 1 = nI n) : f_X9_cloaks w I L = some (bx_sum (fun k => b01 (¬ I (w + 2 + k) 9 = 0)) n) := by
  unfold f_X9_cloaks
  refine (bd1_of (lp_forF (fun k => (bx_sum (fun k => b01 (¬ I (w + 2 + k) 9 = 0)) k, nI k)) n (x := bx_sum (fun k => b01 (¬ I (w + 2 + k) 9 = 0)) n) rfl (fun k hk => ?_) ?_ (by omega))).trans rfl
  · have e : ∀ z : Int32, (if I (w + 2 + k) 9 = 0 then z else z + 1) = z + b01 (¬ I (w + 2 + k) 9 = 0) := fun z => by
      rw [← if_add1]
      by_cases c : I (w + 2 + k) 9 = 0
      · rw [if_pos c, if_neg (fun q => q c)]
      · rw [if_neg c, if_pos c]
    simp (disch := omega) only [b_X9_cloaks_4, h, if_neg (nI_ge hk (show n < 2 ^ 31 by omega)), gi_n, cl_n, nm_s, nI_1, some_if, bd1_s, e]
    rfl
  · simp only [b_X9_cloaks_4, h, if_pos (nI_le (Nat.le_refl n) (show n < 2 ^ 31 by omega))]
theorem m_cloaks {I : MI} {n : Nat} (L : ML) (hn : n ≤ 6) (h : I 245 1 = nI n) : lp (fun s => b_X11_cloak_64 I L s.1 s.2) FU ((0 : Int32), (0 : Int32)) = some (bx_sum (fun k => I 245 (61 + k)) n) := by
  refine lp_forF (fun k => (bx_sum (fun k => I 245 (61 + k)) k, nI k)) n rfl (fun k hk => ?_) ?_ (by omega)
  · have ei : (61 : Int32) + nI k = nI (61 + k) := nI_add 61 k
    have h1 : I 245 (1 : Int32).toNatClampNeg = nI n := h
    simp (disch := omega) only [b_X11_cloak_64, gi_t (show vp_in (1 : Int32) 1752 from vp_in_nI (n := 1) (by omega) (by omega)), h1, if_neg (nI_ge hk (show n < 2 ^ 31 by omega)), ei, gi_n, cl_n, nm_s, nI_1]
    rfl
  · have h1 : I 245 (1 : Int32).toNatClampNeg = nI n := h
    simp only [b_X11_cloak_64, gi_t (show vp_in (1 : Int32) 1752 from vp_in_nI (n := 1) (by omega) (by omega)), h1, if_pos (nI_le (Nat.le_refl n) (show n < 2 ^ 31 by omega))]
theorem ok_cloak (a1 : Int32) (a2 : Int32) {I : MI} {L : ML} (h : Inv I L) : ∃ (r : Int32) (I1 : MI) (I2 : MI), f_X10_cloak a1 a2 I L = some (r, I1) ∧ f_X11_cloak a1 a2 I1 L = some (r, I2) ∧ Inv I2 L := by
  obtain ⟨n, hW, hR⟩ := h.1
  have hn := hW.1
  have e1 := RW.n1 hW hR
  unfold f_X10_cloak f_X11_cloak
  rw [s_has a1 L hn hW.2.1, bd1_s, if_b, s_within, bd1_s, if_b, show (0 : Int64) = (0 : Int32).toInt64 from rfl, show (1 : Int64) = (1 : Int32).toInt64 from rfl]
  simp only [s_in32, bd1_s, if_b]
  rcases has_cases a1 hn with ⟨k, hk, rfl⟩ | hno
  · rw [if_pos (nI_sit hk hn), gi_n (by omega) (by omega), cl_n (by omega), s_sits]
    by_cases c2 : (0 : Int32) ≤ a2 ∧ a2 ≤ 1
    · rw [if_pos c2]
      have r2 : rg a2 0 1 := by
        rw [fa_le, fa_le] at c2
        exact c2
      have ey : (if a2 = (1 : Int32) then some (1 : Int32) else some (0 : Int32)) = some a2 := by
        rcases e01 r2 with e | e <;> rw [e] <;> decide
      rw [ey, bd1_s, bd1_s, if_b]
      have hok := hW.2.2.2.2.2.2.2.2 k hk
      have ei : (61 : Int32) + nI k = nI (61 + k) := nI_add 61 k
      have e9 : I 245 (61 + k) = I (3 + 2 + k) 9 := hR.c hk 9 (by omega)
      by_cases c3 : I (3 + 2 + k) 10 = -4
      · rw [if_pos c3]
        by_cases c4 : I (3 + 2 + k) 9 = a2
        · rw [if_pos c4]
          refine ⟨-2, I, I, rfl, ?_, h⟩
          rw [s_isSitter _ L hn e1, bd1_s, if_b, if_pos (nI_sit hk hn), if_pos c2, m_down0 L (by omega), bd1_s, hR.c10 hk c3, if_pos (show b01 ((0 : Int32) ≤ -1) = 0 by decide), ei, gi_n (by omega) (by omega), cl_n (by omega), e9, if_pos c4]
        · rw [if_neg c4]
          obtain ⟨I1, k1, k2, k3⟩ := h.sit hW hR hk
          obtain ⟨I3, m1, m2, m3, m4⟩ := k3 (fun f => if f = 9 then a2 else I (3 + 2 + k) f) (up2 I1 (3 + 2 + k) 9 a2) (by
            obtain ⟨o0, o1, o2, o3, o4, o5, o6, o7, o8, o9, o10⟩ := hok
            exact ⟨o0, o1, o2, o3, o4, o5, o6, o7, o8, r2, o10⟩) (fun i hi => up2_ne hi) (fun f hf => by
              rw [up2_at, k2 _ (by omega)]
              by_cases c : f = 9
              · rw [if_pos ⟨rfl, c⟩, if_pos c]
              · rw [if_neg (fun q => c q.2), if_neg c])
          have hb : f_X11_isSitter (nI k) (up2 I1 (3 + 2 + k) 9 a2) L = some (b01 (0 ≤ nI k ∧ nI k < nI n)) := s_isSitter _ L hn (by rw [up2_ne (by omega), k2 _ (by omega)]; exact e1)
          have h45 : ∀ j, up2 I1 (3 + 2 + k) 9 a2 245 j = I 245 j := fun j => by rw [up2_ne (by omega), k2 _ (by omega)]
          refine ⟨bx_sum (fun q => b01 (¬ up2 I1 (3 + 2 + k) 9 a2 (3 + 2 + q) 9 = 0)) n, up2 I1 (3 + 2 + k) 9 a2, up2 I3 245 (61 + k) a2, by rw [k1, bd1_s, gd_t (e01 r2), nm_s, s_cloaks L hn (by rw [up2_ne (by omega), k2 _ (by omega)]; exact hW.2.1), bd1_s], ?_, m4 _ (fun i hi => up2_ne hi) (fun j hj => up2_n (fun q => hj 9 (by omega) (by omega))) (fun f hf => ?_) (Or.inl ⟨c3, ?_⟩)⟩
          · rw [hb, bd1_s, if_b, if_pos (nI_sit hk hn), if_pos c2, m_down0 L (by omega), bd1_s, h45, hR.c10 hk c3, if_pos (show b01 ((0 : Int32) ≤ -1) = 0 by decide), ei, gi_n (by omega) (by omega), cl_n (by omega), h45, e9, if_neg c4, m1, bd1_s, gi_n (by omega) (by omega), nm_s, m_cloaks L hn (by rw [up2_n (by omega), m3 _ (by omega)]; exact e1), bd1_s]
            refine congrArg (fun z => some (z, up2 I3 245 (61 + k) a2)) (bx_sum_congr (fun q hq => ?_))
            have x01 : ∀ x : Int32, rg x 0 1 → x = b01 (¬ x = 0) := fun x hx => by rcases e01 hx with e | e <;> rw [e] <;> decide
            by_cases c : q = k
            · subst c
              rw [up2_s, up2_s]
              exact x01 _ r2
            · rw [up2_n (by omega), up2_ne (by omega), k2 _ (by omega), m3 _ (by omega), show 61 + q = 7 + 6 * 9 + q by omega, hR.c hq 9 (by omega)]
              exact x01 _ (hW.2.2.2.2.2.2.2.2 q hq).2.2.2.2.2.2.2.2.2.1
          · rw [up2_at]
            by_cases c : f = 9
            · rw [if_pos ⟨rfl, by omega⟩, if_pos c]
            · rw [if_neg (fun q => c (by omega)), if_neg c, m3 _ (by omega), hR.c hk _ (by omega)]
          · rw [up2_n (by omega), m3 _ (by omega)]
            exact hR.c10 hk c3
      · rw [if_neg c3]
        refine ⟨-2, I, I, rfl, ?_, h⟩
        have := (hR.up hk c3).2
        rw [show 0 + 67 + k = 67 + k by omega] at this
        rw [s_isSitter _ L hn e1, bd1_s, if_b, if_pos (nI_sit hk hn), if_pos c2, m_down0 L (by omega), bd1_s, b01_t this, if_neg (by decide)]
    · rw [if_neg c2]
      refine ⟨-1, I, I, rfl, ?_, h⟩
      rw [s_isSitter _ L hn e1, bd1_s, if_b, if_pos (nI_sit hk hn), if_neg c2]
  · rw [if_neg hno]
    refine ⟨-1, I, I, rfl, ?_, h⟩
    rw [s_isSitter _ L hn e1, bd1_s, if_b, if_neg hno]
