def hsum (I : MI) (v : Nat) : Nat → Int32
  | 0 => 0
  | k + 1 => hsum I v k + (if I (3 + 2 + k) 10 = -4 then cmpN (sat60 I v) (sat60 I k) else 0)
theorem cmp_self (x : Nat) : cmpN x x = 0 := by
  unfold cmpN
  rw [if_pos (Nat.le_refl x), if_pos rfl]
/-- a state of the class in a trial -/
def TS (I T : MI) : Prop := T = lkF I ∨ ∃ r, T = va_up (lkF I) 211 r ∧ (r 9 = 0 ∨ r 9 = 1)
theorem TS.o {I T : MI} (h : TS I T) {i : Nat} (hi : i < 208) : T i = I i := by
  rcases h with rfl | ⟨r, rfl, _⟩
  · exact lk_o (by omega)
  · rw [vu_ne (by omega), lk_o (by omega)]
theorem TS.LK {I T : MI} (h : TS I T) : LK T (I 3 6) (I 3 2) (I 3 4) := by
  rcases h with rfl | ⟨r, rfl, _⟩
  · exact lk_LK I
  · exact (lk_LK I).va r
theorem TS.va {I T : MI} (h : TS I T) {r : Nat → Int32} (hr : r 9 = 0 ∨ r 9 = 1) : TS I (va_up T 211 r) := by
  rcases h with rfl | ⟨r', rfl, _⟩
  · exact Or.inr ⟨r, rfl, hr⟩
  · exact Or.inr ⟨r, vv _ _, hr⟩
theorem TS.Kp {I T : MI} (h : TS I T) : Kp I T := by
  rcases h with rfl | ⟨r, rfl, _⟩
  · exact ⟨fun i hi => lk_o (by omega), by rw [lk_o (by omega)], by rw [lk_o (by omega)], fun j hj => by rw [lk_o (by omega)], lk_o (by omega), lk_o (by omega), lk_o (by omega), lk_o (by omega)⟩
  · exact Kp.trial r
theorem TS.B {I T : MI} (h : TS I T) (hB : InvB I) : InvB T := by
  rcases h with rfl | ⟨r, rfl, hr⟩
  · exact lk_B hB
  · exact va_B (lk_B hB) hr
theorem s_refusesOne {I : MI} {n : Nat} (a1 : Int32) (L : ML) (hn : n ≤ 6) (h : I 3 1 = nI n) : f_X10_refusesOne a1 I L = some (if 0 ≤ a1 ∧ a1 < nI n then (if I (3 + 2 + a1.toNatClampNeg) 10 = -4 then 0 else -2) else -1) := by
  unfold f_X10_refusesOne
  rw [s_has a1 L hn h, bd1_s, if_b]
  rcases has_cases a1 hn with ⟨k, hk, rfl⟩ | hno
  · rw [if_pos (nI_sit hk hn), if_pos (nI_sit hk hn), gi_n (by omega) (by omega), cl_n (by omega), s_sits, bd1_s, if_b, some_if, bd1_s]
  · rw [if_neg hno, if_neg hno]
theorem ok_honour (a1 : Int32) {I : MI} {L : ML} (h : Inv I L) : ∃ (r : Int32) (I1 : MI) (I2 : MI), f_X10_honour a1 I L = some (r, I1) ∧ f_X11_honour a1 I1 L = some (r, I2) ∧ Inv I2 L := by
  obtain ⟨n, hW, hR⟩ := h.1
  have hn := hW.1
  have e1 := RW.n1 hW hR
  unfold f_X10_honour f_X11_honour
  rw [s_refusesOne a1 L hn hW.2.1, bd1_s]
  rcases has_cases a1 hn with ⟨k, hk, rfl⟩ | hno
  · rw [if_pos (nI_sit hk hn), cl_n (by omega)]
    by_cases c3 : I (3 + 2 + k) 10 = -4
    · rw [if_pos c3, if_pos rfl, s_look, bd1_s]
      obtain ⟨x, hx, T, rfl, hT⟩ := lp_inv (f := fun s => b_X10_honour_28 (nI k) L s.1 s.2.1 s.2.2) (fun j s => ∃ T, s = (hsum I k j, nI j, T) ∧ TS I T) (fun x => ∃ T, x = (hsum I k n, T) ∧ TS I T) n
        (fun j s hj hP => by
          obtain ⟨T, rfl, hT⟩ := hP
          simp only [b_X10_honour_28]
          have t3 : T 3 1 = nI n := by rw [hT.o (by omega)]; exact hW.2.1
          have tj : T (3 + 2 + j) = I (3 + 2 + j) := hT.o (by omega)
          rw [t3, if_neg (nI_ge hj (by omega)), gi_n (by omega) (by omega), cl_n (by omega), s_sits, bd1_s, if_b, tj, gi_n (by omega) (by omega), gi_n (by omega) (by omega), cl_n (by omega)]
          by_cases e : j = k
          · subst e
            rw [if_pos rfl, bd2_s, nm_s, nI_1]
            refine ⟨_, rfl, T, ?_, hT⟩
            show _ = (hsum I j j + (if I (3 + 2 + j) 10 = -4 then cmpN (sat60 I j) (sat60 I j) else 0), nI (j + 1), T)
            rw [if_pos c3, cmp_self, Int32.add_zero]
          · rw [if_neg (fun q => e ((nI_eq (by omega) (by omega)).mp q))]
            by_cases c : I (3 + 2 + j) 10 = -4
            · obtain ⟨r, y1, y2⟩ := s_outlasts (K := T) L hW hk hj hT.LK (hT.o (by omega)) tj c3 c
              rw [if_pos c, y1, bd2_s, nm_s, bd2_s, nm_s, nI_1]
              refine ⟨_, rfl, _, ?_, hT.va y2⟩
              show _ = (hsum I k j + (if I (3 + 2 + j) 10 = -4 then cmpN (sat60 I k) (sat60 I j) else 0), nI (j + 1), _)
              rw [if_pos c]
            · rw [if_neg c, bd2_s, nm_s, nI_1]
              refine ⟨_, rfl, T, ?_, hT⟩
              show _ = (hsum I k j + (if I (3 + 2 + j) 10 = -4 then cmpN (sat60 I k) (sat60 I j) else 0), nI (j + 1), T)
              rw [if_neg c, Int32.add_zero])
        (fun s hP => by
          obtain ⟨T, rfl, hT⟩ := hP
          simp only [b_X10_honour_28]
          have t3 : T 3 1 = nI n := by rw [hT.o (by omega)]; exact hW.2.1
          rw [t3, if_pos (nI_le (Nat.le_refl n) (by omega))]
          exact ⟨_, rfl, T, rfl, hT⟩)
        FU (show n < 2000 by omega) ((0 : Int32), (0 : Int32), lkF I) ⟨lkF I, rfl, Or.inl rfl⟩
      rw [hx, bd2_s]
      have kT := hT.Kp
      have bT := hT.B h.2.2.2.1
      obtain ⟨hW', hR'⟩ := kT.wall hW hR
      obtain ⟨J, q1, q2, q3⟩ := m_sixty L hW' hR'
      have s10 : T (3 + 2 + k) 10 = -4 := by rw [kT.1 _ (by omega)]; exact c3
      have eJ : J 245 1 = nI n := by rw [q2.2 1 (by omega)]; exact RW.n1 hW' hR'
      have hl : lp (fun s => b_X11_honour_31 (nI k) J L s.1 s.2) FU ((10 : Int32), (0 : Int32)) = some (10 + hsum I k n) := by
        refine lp_forF (fun j => (10 + hsum I k j, nI j)) n (by rw [show hsum I k 0 = 0 from rfl, Int32.add_zero]; rfl) (fun j hj => ?_) ?_ (by omega)
        · have e1' : J 245 (1 : Int32).toNatClampNeg = nI n := eJ
          have d0 : J 245 (67 + j) = T 245 (67 + j) := q2.2 _ (by omega)
          simp only [b_X11_honour_31]
          rw [gi_t (show vp_in (1 : Int32) 1752 from vp_in_nI (n := 1) (by omega) (by omega)), e1', if_neg (nI_ge hj (by omega)), m_down0 L (by omega), bd1_s, d0]
          have tj : T (3 + 2 + j) = I (3 + 2 + j) := hT.o (by omega)
          by_cases c : I (3 + 2 + j) 10 = -4
          · have sj : T (3 + 2 + j) 10 = -4 := by rw [tj]; exact c
            have q4 := q3 k hk s10
            have q5 := q3 j hj sj
            rw [kT.sat (by omega)] at q4 q5
            have w1 := sat60_le I k
            have w2 := sat60_le I j
            rw [hR'.c10 hj sj, if_pos (show b01 ((0 : Int32) ≤ -1) = 0 by decide), q4, bd1_s, q5, bd1_s, bd1_s, bd1_s, some_if, some_if, bd1_s, nm_s, bd1_s, nm_s, nI_1]
            refine congrArg (fun z => some (Sum.inl (z, nI (j + 1)))) ?_
            show 10 + hsum I k j + _ = 10 + (hsum I k j + (if I (3 + 2 + j) 10 = -4 then cmpN (sat60 I k) (sat60 I j) else 0))
            rw [if_pos c, Int32.add_assoc]
            refine congrArg (fun z => 10 + (hsum I k j + z)) ?_
            unfold cmpN
            by_cases d : sat60 I j ≤ sat60 I k
            · rw [if_pos d]
              by_cases d2 : sat60 I k = sat60 I j
              · rw [if_pos d2, if_pos ((dn_le w1 w2).mpr (by omega)), if_pos ((dn_le w2 w1).mpr d)]
              · rw [if_neg d2, if_neg (fun z => by have := (dn_le w1 w2).mp z; omega)]
            · rw [if_neg d, if_pos ((dn_le w1 w2).mpr (by omega)), if_neg (fun z => d ((dn_le w2 w1).mp z))]
          · have sj : ¬ T (3 + 2 + j) 10 = -4 := by rw [tj]; exact c
            have := (hR'.up hj sj).2
            rw [show 0 + 67 + j = 67 + j by omega] at this
            rw [b01_t this, if_neg (by decide), bd1_s, nm_s, nI_1]
            refine congrArg (fun z => some (Sum.inl (z, nI (j + 1)))) ?_
            show 10 + hsum I k j = 10 + (hsum I k j + (if I (3 + 2 + j) 10 = -4 then cmpN (sat60 I k) (sat60 I j) else 0))
            rw [if_neg c, Int32.add_zero]
        · have e1' : J 245 (1 : Int32).toNatClampNeg = nI n := eJ
          simp only [b_X11_honour_31]
          rw [gi_t (show vp_in (1 : Int32) 1752 from vp_in_nI (n := 1) (by omega) (by omega)), e1', if_pos (nI_le (Nat.le_refl n) (by omega))]
      refine ⟨_, T, J, rfl, ?_, h.tried kT bT q2⟩
      rw [s_isSitter _ L hn (RW.n1 hW' hR'), bd1_s, if_b, if_pos (nI_sit hk hn), m_down0 L (by omega), bd1_s, hR'.c10 hk s10, if_pos (show b01 ((0 : Int32) ≤ -1) = 0 by decide), q1, bd1_s, hl, bd1_s, Int32.add_comm]
    · rw [if_neg c3, if_neg (by decide)]
      refine ⟨-2, I, I, rfl, ?_, h⟩
      have := (hR.up hk c3).2
      rw [show 0 + 67 + k = 67 + k by omega] at this
      rw [s_isSitter _ L hn e1, bd1_s, if_b, if_pos (nI_sit hk hn), m_down0 L (by omega), bd1_s, b01_t this, if_neg (by decide)]
  · rw [if_neg hno, if_neg (by decide)]
    refine ⟨-1, I, I, rfl, ?_, h⟩
    rw [s_isSitter _ L hn e1, bd1_s, if_b, if_neg hno]
