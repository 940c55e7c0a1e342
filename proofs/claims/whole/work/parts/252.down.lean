/-! ===== down, duel, honour ===== -/
def sat60 (I : MI) (k : Nat) : Nat := satN no (I (3 + 2 + k)) (I 3 6) (I 3 2) (I 3 4) 60
def dn60 (x : Nat) : Int32 := if x = 60 then 1000000 else nI (x + 1)
theorem s_sat60 {I K : MI} {n k : Nat} (L : ML) (hW : okW I 3 n) (hk : k < n) (hL : LK K (I 3 6) (I 3 2) (I 3 4)) (hK : K (3 + 2 + k) = I (3 + 2 + k)) (hs : I (3 + 2 + k) 10 = -4) : ∃ r, f_X1_hoursSat (3 + 2 + k) (60 : Int32) (0 : Int32) K L = some (nI (sat60 I k), va_up K 211 r) ∧ (r 9 = 0 ∨ r 9 = 1) := by
  have h9 := e01 (hW.2.2.2.2.2.2.2.2 k hk).2.2.2.2.2.2.2.2.2.1
  have h6 := hW.1
  obtain ⟨r, a, b⟩ := s_hoursSat (I := K) (a := 3 + 2 + k) (N := 60) 0 L hL (by omega) (by rw [hK]; exact h9) (by rw [hK]; exact hs) (by omega)
  refine ⟨r, ?_, b⟩
  rw [sat_E (E' := no) 60 (fun t _ => bit_0 t), hK] at a
  exact a
theorem LK.va {I : MI} {d dusk hr : Int32} (h : LK I d dusk hr) (r : Nat → Int32) : LK (va_up I 211 r) d dusk hr := fun t ht => by
  rw [vu_ne (by omega), vu_ne (by omega)]
  exact h t ht
theorem m_sixty {I : MI} {n : Nat} (L : ML) (hW : okW I 3 n) (hR : RW I 3 n 0) : ∃ J, f_X11_triesSixty I L = some J ∧ TF I J ∧ ∀ k, k < n → I (3 + 2 + k) 10 = -4 → f_X11_downIn (nI k) J L = some (dn60 (sat60 I k)) := by
  have hn := hW.1
  have hh : rg (I 3 4) 0 9999 := hW.2.2.2.2.1
  obtain ⟨J0, j1, j2, j3⟩ := m_try L hW hR
  obtain ⟨J, q1, q2, q3⟩ := m_many (N := 60) L hn hh (by omega) j3
  have q1' : f_X11_passesMany (60 : Int32) J0 L = some J := q1
  unfold f_X11_triesSixty
  rw [j1, bd1_s, q1', bd1_s]
  refine ⟨J, rfl, j2.tr q2, fun k hk hs => ?_⟩
  unfold f_X11_downIn
  have ei : (286 : Int32) + nI k = nI (286 + k) := nI_add 286 k
  have g4 : J 245 (4 : Int32).toNatClampNeg = I 3 4 := by
    show J 245 4 = I 3 4
    rw [(j2.tr q2).2 4 (by omega)]
    exact (hR.2.1 4 (by omega) (by omega)).symm
  have e10 : mrec (J 245) 219 k 10 = trN no (I (3 + 2 + k)) (I 3 6) (I 3 2) (I 3 4) (I 3 4) 60 10 := (q3.2.2.2.2 k hk).1 10 (by omega)
  rw [show (219 : Int32) = nI 219 from rfl, m_isDown L (by omega), bd1_s, if_b, ei, gi_n (by omega) (by omega), gi_t (show vp_in (4 : Int32) 1752 from vp_in_nI (n := 4) (by omega) (by omega)), cl_n (by omega), g4]
  rcases sat_inv (E := no) (s := I (3 + 2 + k)) (d := I 3 6) (dusk := I 3 2) (hr := I 3 4) (h := I 3 4) hs 60 (fun t ht => offh hh t (by omega)) (by omega) with ⟨p, q⟩ | ⟨p, z1, z2⟩
  · rw [p] at e10
    rw [if_neg (mrec10.mp e10), bd1_s]
    unfold dn60 sat60
    rw [q, if_pos rfl]
  · have c : 0 ≤ J 245 (219 + 67 + k) := Decidable.not_not.mp (fun w => p (by rw [← e10]; exact mrec10.mpr w))
    have ev : J 245 (286 + k) = I 3 4 + nI (sat60 I k) := by
      have := e10
      unfold mrec at this
      rw [if_pos rfl, if_neg (by rw [i32_nlt]; exact c), z2, show 219 + 67 + k = 286 + k by omega] at this
      exact this
    rw [if_pos c, bd1_s, ev]
    unfold dn60
    have hlt : sat60 I k < 60 := z1
    rw [if_neg (by omega)]
    refine congrArg some ?_
    have h1 := hh.1; have h2 := hh.2
    have o1 : (1 : Int32).toInt = 1 := rfl
    have b1 : (nI (sat60 I k)).toInt = (sat60 I k : Int) := nI_bd (by omega)
    have s1 : (I 3 4 + nI (sat60 I k)).toInt = (I 3 4).toInt + sat60 I k := by rw [fb_addI (by omega) (by omega), b1]
    have s2 : (I 3 4 + nI (sat60 I k) - I 3 4).toInt = sat60 I k := by rw [fb_subI (by omega) (by omega), s1]; omega
    rw [fa_eq, fb_addI (by omega) (by omega), s2, o1, nI_bd (by omega)]
    omega
theorem sat60_le (I : MI) (k : Nat) : sat60 I k ≤ 60 := sat_le _ _ _ _ _ _
/-- the class's wall and rows after a look -/
theorem Kp.wall {I T : MI} {n : Nat} (hW : okW I 3 n) (hR : RW I 3 n 0) (k : Kp I T) : okW T 3 n ∧ RW T 3 n 0 := by
  have hn := hW.1
  have T3 : ∀ i, i < 11 → T i = I i := fun i hi => k.1 i (by omega)
  exact ⟨hW.congr (fun j _ _ => by rw [T3 _ (by omega)]) (fun q hq f _ => by rw [T3 _ (by omega)]), hR.congr hn (fun j _ _ => by rw [T3 _ (by omega)]) (fun q hq f _ => by rw [T3 _ (by omega)]) (fun j hj => k.2.2.2.1 _ (by omega))⟩
theorem Kp.sat {I T : MI} (k : Kp I T) {q : Nat} (hq : q < 6) : sat60 T q = sat60 I q := by
  unfold sat60
  rw [k.1 (3 + 2 + q) (by omega), k.1 3 (by omega)]
theorem ok_down (a1 : Int32) {I : MI} {L : ML} (h : Inv I L) : ∃ (r : Int32) (I1 : MI) (I2 : MI), f_X10_down a1 I L = some (r, I1) ∧ f_X11_down a1 I1 L = some (r, I2) ∧ Inv I2 L := by
  obtain ⟨n, hW, hR⟩ := h.1
  have hn := hW.1
  have e1 := RW.n1 hW hR
  unfold f_X10_down f_X11_down
  rw [s_has a1 L hn hW.2.1, bd1_s, if_b]
  rcases has_cases a1 hn with ⟨k, hk, rfl⟩ | hno
  · rw [if_pos (nI_sit hk hn), gi_n (by omega) (by omega), cl_n (by omega), s_sits, bd1_s, if_b]
    by_cases c3 : I (3 + 2 + k) 10 = -4
    · obtain ⟨r, x1, x2⟩ := s_sat60 (K := lkF I) L hW hk (lk_LK I) (lk_o (by omega)) c3
      rw [if_pos c3, s_look, bd1_s, x1, bd2_s, some_if, bd1_s]
      have kT : Kp I (va_up (lkF I) 211 r) := Kp.trial r
      have bT : InvB (va_up (lkF I) 211 r) := va_B (lk_B h.2.2.2.1) x2
      obtain ⟨hW', hR'⟩ := kT.wall hW hR
      obtain ⟨J, q1, q2, q3⟩ := m_sixty L hW' hR'
      have s10 : va_up (lkF I) 211 r (3 + 2 + k) 10 = -4 := by rw [kT.1 _ (by omega)]; exact c3
      have q4 := q3 k hk s10
      rw [kT.sat (by omega)] at q4
      refine ⟨_, _, J, rfl, ?_, h.tried kT bT q2⟩
      rw [s_isSitter _ L hn (RW.n1 hW' hR'), bd1_s, if_b, if_pos (nI_sit hk hn), m_down0 L (by omega), bd1_s, hR'.c10 hk s10, if_pos (show b01 ((0 : Int32) ≤ -1) = 0 by decide), q1, bd1_s, q4, bd1_s, bd1_s, some_if, bd1_s]
      refine congrArg (fun z => some (z, J)) ?_
      have hle := sat60_le I k
      unfold dn60
      by_cases c : sat60 I k = 60
      · rw [c, if_pos rfl, if_pos rfl]; decide
      · rw [if_neg c, if_neg (fun q => by
          rw [fa_eq, nI_bd (by omega)] at q
          have e : (1000000 : Int32).toInt = 1000000 := rfl
          omega), if_neg (show ¬ (60 : Int32) ≤ nI (sat60 I k) from nI_ge (b := 60) (by omega) (by omega)), nI_1]
    · rw [if_neg c3]
      refine ⟨0, I, I, rfl, ?_, h⟩
      have := (hR.up hk c3).2
      rw [show 0 + 67 + k = 67 + k by omega] at this
      rw [s_isSitter _ L hn e1, bd1_s, if_b, if_pos (nI_sit hk hn), m_down0 L (by omega), bd1_s, b01_t this, if_neg (by decide)]
  · rw [if_neg hno]
    refine ⟨-1, I, I, rfl, ?_, h⟩
    rw [s_isSitter _ L hn e1, bd1_s, if_b, if_neg hno]
/-- who sits longer -/
def cmpN (x y : Nat) : Int32 := if y ≤ x then (if x = y then 0 else 1) else -1
theorem s_compare {x y : Nat} (hx : x ≤ 60) (hy : y ≤ 60) : f_J6_compare_7cf53 (nI x) (nI y) = some (cmpN x y) := by
  unfold f_J6_compare_7cf53 cmpN
  by_cases c : y ≤ x
  · rw [if_pos (nI_le c (by omega)), if_pos c]
    by_cases d : x = y
    · rw [if_pos (by rw [d]), if_pos d]; rfl
    · rw [if_neg (fun q => d ((nI_eq (by omega) (by omega)).mp q)), if_neg d]; rfl
  · rw [if_neg (nI_ge (by omega) (by omega)), if_neg c]; rfl
theorem s_outlasts {I K : MI} {n k q : Nat} (L : ML) (hW : okW I 3 n) (hk : k < n) (hq : q < n) (hL : LK K (I 3 6) (I 3 2) (I 3 4)) (hK : K (3 + 2 + k) = I (3 + 2 + k)) (hK2 : K (3 + 2 + q) = I (3 + 2 + q)) (hs : I (3 + 2 + k) 10 = -4) (hs2 : I (3 + 2 + q) 10 = -4) : ∃ r, f_X1_outlasts (3 + 2 + k) (3 + 2 + q) K L = some (cmpN (sat60 I k) (sat60 I q), va_up K 211 r) ∧ (r 9 = 0 ∨ r 9 = 1) := by
  have h6 := hW.1
  obtain ⟨r, a, b⟩ := s_sat60 L hW hk hL hK hs
  obtain ⟨r2, a2, b2⟩ := s_sat60 L hW hq (hL.va r) (by rw [vu_ne (by omega)]; exact hK2) hs2
  refine ⟨r2, ?_, b2⟩
  unfold f_X1_outlasts
  rw [a, bd2_s, a2, bd2_s, s_compare (sat60_le I k) (sat60_le I q), bd1_s, vv]
theorem dn_eq {x y : Nat} (hx : x ≤ 60) (hy : y ≤ 60) : dn60 x = dn60 y ↔ x = y := by
  have k : ∀ x, x ≤ 60 → ∀ y, y ≤ 60 → (dn60 x = dn60 y ↔ x = y) := by decide +kernel
  exact k x hx y hy
theorem dn_le {x y : Nat} (hx : x ≤ 60) (hy : y ≤ 60) : dn60 x ≤ dn60 y ↔ x ≤ y := by
  have k : ∀ x, x ≤ 60 → ∀ y, y ≤ 60 → (dn60 x ≤ dn60 y ↔ x ≤ y) := by decide +kernel
  exact k x hx y hy
theorem m_areTwo {I : MI} {n : Nat} (a1 a2 : Int32) (L : ML) (hn : n ≤ 6) (e1 : I 245 1 = nI n) : f_X11_areTwo a1 a2 I L = some (b01 ((0 ≤ a1 ∧ a1 < nI n) ∧ (0 ≤ a2 ∧ a2 < nI n) ∧ ¬ a1 = a2)) := by
  unfold f_X11_areTwo
  rw [s_isSitter a1 L hn e1, bd1_s, if_b, s_isSitter a2 L hn e1, bd1_s, if_b]
  simp only [some_if, if_01, if_b0, bd1_s, gd_b]
theorem ok_duel (a1 : Int32) (a2 : Int32) {I : MI} {L : ML} (h : Inv I L) : ∃ (r : Int32) (I1 : MI) (I2 : MI), f_X10_duel a1 a2 I L = some (r, I1) ∧ f_X11_duel a1 a2 I1 L = some (r, I2) ∧ Inv I2 L := by
  obtain ⟨n, hW, hR⟩ := h.1
  have hn := hW.1
  have e1 := RW.n1 hW hR
  unfold f_X10_duel f_X11_duel f_X10_refusesTwo
  rw [s_has a1 L hn hW.2.1, bd1_s, if_b, s_has a2 L hn hW.2.1, bd1_s, if_b]
  have refuse : ∀ p : Prop, [Decidable p] → ¬ ((0 ≤ a1 ∧ a1 < nI n) ∧ (0 ≤ a2 ∧ a2 < nI n) ∧ ¬ a1 = a2) → ∃ (r : Int32) (I1 : MI) (I2 : MI), (bd1 (some (-1 : Int32)) fun r1 => if r1 = 0 then bd1 (f_X1_look 3 I L) (fun I4 => gi a1 6 (gi a2 6 (bd2 (f_X1_outlasts (3 + 2 + a1.toNatClampNeg) (3 + 2 + a2.toNatClampNeg) I4 L) (fun r8 I9 => (if r8 = 0 then some (((-4 : Int32), I9)) else bd1 (if r8 ≤ 0 then some a2 else some a1) (fun y12 => some (y12, I9))))))) else some (r1, I)) = some (r, I1) ∧ f_X11_duel a1 a2 I1 L = some (r, I2) ∧ Inv I2 L := fun p _ hp => by
    refine ⟨-1, I, I, rfl, ?_, h⟩
    unfold f_X11_duel
    rw [m_areTwo a1 a2 L hn e1, bd1_s, if_b, if_neg hp]
  rcases has_cases a1 hn with ⟨k, hk, rfl⟩ | hno
  · rw [if_pos (nI_sit hk hn)]
    rcases has_cases a2 hn with ⟨q, hq, rfl⟩ | hno
    · rw [if_pos (nI_sit hq hn)]
      by_cases c : k = q
      · subst c
        rw [if_pos rfl]
        exact refuse True (fun z => z.2.2 rfl)
      · have cn : ¬ nI k = nI q := fun z => c ((nI_eq (by omega) (by omega)).mp z)
        have ct : (0 ≤ nI k ∧ nI k < nI n) ∧ (0 ≤ nI q ∧ nI q < nI n) ∧ ¬ nI k = nI q := ⟨nI_sit hk hn, nI_sit hq hn, cn⟩
        rw [if_neg cn, gi_n (by omega) (by omega), cl_n (by omega), s_sits, bd1_s, if_b, gi_n (by omega) (by omega), cl_n (by omega), s_sits, bd1_s, if_b]
        by_cases c3 : I (3 + 2 + k) 10 = -4
        · rw [if_pos c3]
          by_cases c4 : I (3 + 2 + q) 10 = -4
          · rw [if_pos c4, bd1_s, bd1_s, if_pos rfl, s_look, bd1_s, gi_n (by omega) (by omega), gi_n (by omega) (by omega)]
            obtain ⟨r, x1, x2⟩ := s_outlasts (K := lkF I) L hW hk hq (lk_LK I) (lk_o (by omega)) (lk_o (by omega)) c3 c4
            rw [x1, bd2_s]
            have kT : Kp I (va_up (lkF I) 211 r) := Kp.trial r
            have bT : InvB (va_up (lkF I) 211 r) := va_B (lk_B h.2.2.2.1) x2
            obtain ⟨hW', hR'⟩ := kT.wall hW hR
            obtain ⟨J, q1, q2, q3⟩ := m_sixty L hW' hR'
            have s10 : va_up (lkF I) 211 r (3 + 2 + k) 10 = -4 := by rw [kT.1 _ (by omega)]; exact c3
            have s11 : va_up (lkF I) 211 r (3 + 2 + q) 10 = -4 := by rw [kT.1 _ (by omega)]; exact c4
            have q4 := q3 k hk s10
            have q5 := q3 q hq s11
            rw [kT.sat (by omega)] at q4 q5
            have w1 := sat60_le I k
            have w2 := sat60_le I q
            refine ⟨if sat60 I k = sat60 I q then -4 else if sat60 I k ≤ sat60 I q then nI q else nI k, va_up (lkF I) 211 r, J, ?_, ?_, h.tried kT bT q2⟩
            · unfold cmpN
              by_cases d : sat60 I k = sat60 I q
              · rw [if_pos (show sat60 I q ≤ sat60 I k by omega), if_pos d, if_pos rfl, if_pos d]
              · by_cases d2 : sat60 I q ≤ sat60 I k
                · rw [if_pos d2, if_neg d, if_neg (by decide), if_neg (by decide), bd1_s, if_neg d, if_neg (show ¬ sat60 I k ≤ sat60 I q by omega)]
                · rw [if_neg d2, if_neg (by decide), if_pos (by decide), bd1_s, if_neg d, if_pos (show sat60 I k ≤ sat60 I q by omega)]
            · rw [m_areTwo _ _ L hn (RW.n1 hW' hR'), bd1_s, if_b, if_pos ct, m_down0 L (by omega), bd1_s, hR'.c10 hk s10, if_pos (show b01 ((0 : Int32) ≤ -1) = 0 by decide), m_down0 L (by omega), bd1_s, hR'.c10 hq s11, if_pos (show b01 ((0 : Int32) ≤ -1) = 0 by decide), q1, bd1_s, q4, bd1_s, q5, bd1_s, bd1_s, bd1_s, some_if, some_if, bd1_s]
              refine congrArg (fun z => some (z, J)) ?_
              by_cases d : sat60 I k = sat60 I q
              · rw [if_pos d, if_pos ((dn_eq w1 w2).mpr d)]
              · rw [if_neg d, if_neg (fun z => d ((dn_eq w1 w2).mp z))]
                by_cases d2 : sat60 I k ≤ sat60 I q
                · rw [if_pos d2, if_pos ((dn_le w1 w2).mpr d2)]
                · rw [if_neg d2, if_neg (fun z => d2 ((dn_le w1 w2).mp z))]
          · rw [if_neg c4, bd1_s, bd1_s, if_neg (by decide)]
            refine ⟨-2, I, I, rfl, ?_, h⟩
            have := (hR.up hq c4).2
            rw [show 0 + 67 + q = 67 + q by omega] at this
            rw [m_areTwo _ _ L hn e1, bd1_s, if_b, if_pos ct, m_down0 L (by omega), bd1_s, hR.c10 hk c3, if_pos (show b01 ((0 : Int32) ≤ -1) = 0 by decide), m_down0 L (by omega), bd1_s, b01_t this, if_neg (by decide)]
        · rw [if_neg c3, bd1_s, bd1_s, if_neg (by decide)]
          refine ⟨-2, I, I, rfl, ?_, h⟩
          have := (hR.up hk c3).2
          rw [show 0 + 67 + k = 67 + k by omega] at this
          rw [m_areTwo _ _ L hn e1, bd1_s, if_b, if_pos ct, m_down0 L (by omega), bd1_s, b01_t this, if_neg (by decide)]
    · rw [if_neg hno]
      exact refuse True (fun z => hno z.2.1)
  · rw [if_neg hno]
    exact refuse True (fun z => hno z.1)
