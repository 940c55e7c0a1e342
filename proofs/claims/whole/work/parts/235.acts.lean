/-- an heir sits down -/
def heirR (s : Nat → Int32) (told : Int32) : Nat → Int32 := fun f => if f = 1 then mmax 10 (s 1 - 2) else if f = 5 then 0 else if f = 6 then told else if f = 7 then 0 else if f = 8 then 0 else if f = 9 then 0 else if f = 10 then -4 else s f
theorem mmax_eq (a b : Int32) : mmax a b = if a ≤ b then b else a := by
  unfold mmax
  by_cases c : a < b
  · rw [if_pos c, if_pos (by rw [fa_lt] at c; rw [fa_le]; omega)]
  · rw [if_neg c]
    by_cases d : a ≤ b
    · rw [if_pos d, fa_eq]
      rw [fa_lt] at c
      rw [fa_le] at d
      omega
    · rw [if_neg d]
theorem heir_1 {x : Int32} (h : rg x 10 99) : mmax 10 (x - 2) = if x ≤ 12 then 10 else x - 2 := by
  rw [mmax_eq]
  have z10 : (10 : Int32).toInt = 10 := rfl
  have z12 : (12 : Int32).toInt = 12 := rfl
  have z2 : (2 : Int32).toInt = 2 := rfl
  have := h.1; have := h.2
  by_cases c : x ≤ 12
  · rw [if_pos c]
    by_cases d : 10 ≤ x - 2
    · rw [if_pos d, fa_eq]
      rw [fa_le] at c d
      rw [fb_subI (by omega) (by omega)] at d ⊢
      omega
    · rw [if_neg d]
  · rw [if_neg c, if_pos]
    rw [fa_le] at c ⊢
    rw [fb_subI (by omega) (by omega)]
    omega
theorem okR.heir {s : Nat → Int32} (h : okR s) {t : Int32} (ht : rg t 0 9) : okR (heirR s t) := by
  obtain ⟨o0, o1, o2, o3, o4, o5, o6, o7, o8, o9, o10⟩ := h
  refine ⟨o0, ?_, o2, o3, o4, rg_0 (by omega) (by omega), ht, rg_0 (by omega) (by omega), rg_0 (by omega) (by omega), rg_0 (by omega) (by omega), Or.inl rfl⟩
  show rg (mmax 10 (s 1 - 2)) 10 99
  rw [heir_1 o1]
  by_cases c : s 1 ≤ 12
  · rw [if_pos c]
    exact ⟨by decide, by decide⟩
  · rw [if_neg c]
    have z12 : (12 : Int32).toInt = 12 := rfl
    rw [fa_le, z12] at c
    have z2 : rg (2 : Int32) 2 2 := ⟨by decide, by decide⟩
    have o1' : rg (s 1) 13 99 := ⟨by omega, o1.2⟩
    exact rg_mono (rg_sub o1' z2 (by omega) (by omega)) (by omega) (by omega)
theorem s_heir {I : MI} {a : Nat} (t : Int32) (L : ML) : f_X6_sitDown a t (up2 I a 1 (mmax (10 : Int32) (I a 1 - (2 : Int32)))) L = some (va_up I a (heirR (I a) t)) := by
  unfold f_X6_sitDown
  rw [nm_s, nm_s, nm_s, nm_s, nm_s, nm_s]
  refine congrArg some (funext fun i => funext fun j => ?_)
  by_cases e : i = a
  · subst e
    rw [vu_at]
    unfold heirR
    simp only [up2_at, true_and]
    by_cases j1 : j = 1
    · subst j1; rfl
    by_cases j5 : j = 5
    · subst j5; rfl
    by_cases j6 : j = 6
    · subst j6; rfl
    by_cases j7 : j = 7
    · subst j7; rfl
    by_cases j8 : j = 8
    · subst j8; rfl
    by_cases j9 : j = 9
    · subst j9; rfl
    by_cases j10 : j = 10
    · subst j10; rfl
    · simp only [if_neg j1, if_neg j5, if_neg j6, if_neg j7, if_neg j8, if_neg j9, if_neg j10]
  · rw [vu_ne e, up2_ne e, up2_ne e, up2_ne e, up2_ne e, up2_ne e, up2_ne e, up2_ne e]
theorem ok_heir (a1 : Int32) {I : MI} {L : ML} (h : Inv I L) : ∃ (r : Int32) (I1 : MI) (I2 : MI), f_X10_heir a1 I L = some (r, I1) ∧ f_X11_heir a1 I1 L = some (r, I2) ∧ Inv I2 L := by
  obtain ⟨n, hW, hR⟩ := h.1
  have hn := hW.1
  have e1 := RW.n1 hW hR
  unfold f_X10_heir f_X11_heir
  rw [s_has a1 L hn hW.2.1, bd1_s, if_b]
  rcases has_cases a1 hn with ⟨k, hk, rfl⟩ | hno
  · rw [if_pos (nI_sit hk hn), gi_n (by omega) (by omega), cl_n (by omega), s_sits, bd1_s, if_b]
    have hok := hW.2.2.2.2.2.2.2.2 k hk
    by_cases c3 : I (3 + 2 + k) 10 = -4
    · rw [if_pos c3]
      refine ⟨-2, I, I, rfl, ?_, h⟩
      rw [s_isSitter _ L hn e1, bd1_s, if_b, if_pos (nI_sit hk hn), m_down0 L (by omega), bd1_s, hR.c10 hk c3, if_pos (show b01 ((0 : Int32) ≤ -1) = 0 by decide)]
    · rw [if_neg c3]
      have hup := (hR.up hk c3).2
      rw [show 0 + 67 + k = 67 + k by omega] at hup
      have ht := hW.2.2.2.1
      have et : I 245 3 = I 3 3 := (hR.2.1 3 (by omega) (by omega)).symm
      obtain ⟨I1, k1, k2, k3⟩ := h.sit hW hR hk
      have hI1 : I1 (3 + 2 + k) = I (3 + 2 + k) := k2 _ (by omega)
      obtain ⟨I3, m1, m2, m3, m4⟩ := k3 (heirR (I (3 + 2 + k)) (I 3 3)) (va_up I1 (3 + 2 + k) (heirR (I (3 + 2 + k)) (I 3 3))) (hok.heir ht) (fun i hi => vu_ne hi) (fun f hf => by rw [vu_at])
      have hb : f_X11_isSitter (nI k) (va_up I1 (3 + 2 + k) (heirR (I (3 + 2 + k)) (I 3 3))) L = some (b01 (0 ≤ nI k ∧ nI k < nI n)) := s_isSitter _ L hn (by rw [vu_ne (by omega), k2 _ (by omega)]; exact e1)
      have h45 : ∀ j, va_up I1 (3 + 2 + k) (heirR (I (3 + 2 + k)) (I 3 3)) 245 j = I 245 j := fun j => by rw [vu_ne (by omega), k2 _ (by omega)]
      have g13 : (13 : Int32) + nI k = nI (13 + k) := nI_add 13 k
      have g37 : (37 : Int32) + nI k = nI (37 + k) := nI_add 37 k
      have g43 : (43 : Int32) + nI k = nI (43 + k) := nI_add 43 k
      have g49 : (49 : Int32) + nI k = nI (49 + k) := nI_add 49 k
      have g55 : (55 : Int32) + nI k = nI (55 + k) := nI_add 55 k
      have g61 : (61 : Int32) + nI k = nI (61 + k) := nI_add 61 k
      have g67 : (67 : Int32) + nI k = nI (67 + k) := nI_add 67 k
      have e13 : I3 245 (13 + k) = I (3 + 2 + k) 1 := by rw [m3 _ (by omega)]; exact hR.c hk 1 (by omega)
      have e3 : I3 245 3 = I 3 3 := by rw [m3 _ (by omega)]; exact et
      refine ⟨mmax 10 (I (3 + 2 + k) 1 - 2), _, up2 (up2 (up2 (up2 (up2 (up2 (up2 I3 245 (13 + k) (mmax 10 (I (3 + 2 + k) 1 - 2))) 245 (37 + k) 0) 245 (55 + k) 0) 245 (49 + k) 0) 245 (61 + k) 0) 245 (43 + k) (I 3 3)) 245 (67 + k) (-1), by rw [k1, bd1_s, nm_s, hI1, ← hI1, up2_ne (by omega), k2 3 (by omega), s_heir, bd1_s, vu_at, hI1]; rfl, ?_, m4 _ ?_ ?_ ?_ ?_⟩
      · rw [hb, bd1_s, if_b, if_pos (nI_sit hk hn), m_down0 L (by omega), bd1_s, h45, b01_t hup, if_neg (by decide), m1, bd1_s, g13, g37, g43, g49, g55, g61, g67, gi_n (by omega) (by omega), cl_n (by omega), e13, gi_n (by omega) (by omega), some_if, ← heir_1 hok.2.1, bd1_s, gi_n (by omega) (by omega), nm_s, gi_n (by omega) (by omega), nm_s, gi_n (by omega) (by omega), nm_s, gi_n (by omega) (by omega), nm_s, gi_n (by omega) (by omega), nm_s, gi_t (show vp_in (3 : Int32) 1752 from vp_in_nI (n := 3) (by omega) (by omega)), gi_n (by omega) (by omega), nm_s, gi_n (by omega) (by omega), nm_s, gi_n (by omega) (by omega)]
        have t3 : (3 : Int32).toNatClampNeg = 3 := rfl
        simp (disch := omega) only [cl_n, t3, up2_n, e3, up2_s]
      · intro i hi
        rw [up2_ne hi, up2_ne hi, up2_ne hi, up2_ne hi, up2_ne hi, up2_ne hi, up2_ne hi]
      · intro j hj
        rw [up2_n (fun q => hj 10 (by omega) (by omega)), up2_n (fun q => hj 6 (by omega) (by omega)), up2_n (fun q => hj 9 (by omega) (by omega)), up2_n (fun q => hj 7 (by omega) (by omega)), up2_n (fun q => hj 8 (by omega) (by omega)), up2_n (fun q => hj 5 (by omega) (by omega)), up2_n (fun q => hj 1 (by omega) (by omega))]
      · intro f hf
        unfold heirR
        rw [up2_n (by omega)]
        by_cases j6 : f = 6
        · subst j6; rw [show 7 + 6 * 6 + k = 43 + k by omega, up2_s]; rfl
        rw [up2_n (by omega)]
        by_cases j9 : f = 9
        · subst j9; rw [show 7 + 6 * 9 + k = 61 + k by omega, up2_s]; rfl
        rw [up2_n (by omega)]
        by_cases j7 : f = 7
        · subst j7; rw [show 7 + 6 * 7 + k = 49 + k by omega, up2_s]; rfl
        rw [up2_n (by omega)]
        by_cases j8 : f = 8
        · subst j8; rw [show 7 + 6 * 8 + k = 55 + k by omega, up2_s]; rfl
        rw [up2_n (by omega)]
        by_cases j5 : f = 5
        · subst j5; rw [show 7 + 6 * 5 + k = 37 + k by omega, up2_s]; rfl
        rw [up2_n (by omega)]
        by_cases j1 : f = 1
        · subst j1; rw [show 7 + 6 * 1 + k = 13 + k by omega, up2_s]; rfl
        rw [up2_n (by omega), m3 _ (by omega), hR.c hk f (by omega), if_neg j1, if_neg j5, if_neg j6, if_neg j7, if_neg j8, if_neg j9, if_neg (by omega)]
      · exact Or.inl ⟨rfl, up2_s⟩
  · rw [if_neg hno]
    refine ⟨-1, I, I, rfl, ?_, h⟩
    rw [s_isSitter _ L hn e1, bd1_s, if_b, if_neg hno]
theorem undo_p : ∀ p, p < 20 → ((nI p + (20 : Int32)) - (1 : Int32)) - ((nI p + (20 : Int32)) - (1 : Int32)) / (20 : Int32) * (20 : Int32) = nI ((p + 19) % 20) := by decide
theorem ok_undo {I : MI} {L : ML} (h : Inv I L) : ∃ (r : Int32) (I1 : MI) (I2 : MI), f_X10_undo I L = some (r, I1) ∧ f_X11_undo I1 L = some (r, I2) ∧ Inv I2 L := by
  obtain ⟨hC, ⟨u, p, hu, hp, q1, q2, q3, q4⟩, hI, hB, hS, hT⟩ := h
  unfold f_X10_undo f_X11_undo f_X3_giveBack
  rw [q1]
  by_cases c : u = 0
  · subst c
    rw [if_pos (show nI 0 = 0 from rfl), bd2_s, if_pos rfl, bd1_s]
    exact ⟨-4, I, I, rfl, by rw [q2, if_pos (show nI 0 = 0 from rfl)], hC, ⟨0, p, hu, hp, q1, q2, q3, q4⟩, hI, hB, hS, hT⟩
  · have nz : ¬ nI u = 0 := fun q => c ((nI_eq (b := 0) (by omega) (by omega)).mp q)
    obtain ⟨v, rfl⟩ : ∃ v, u = v + 1 := ⟨u - 1, by omega⟩
    have es : nI (v + 1) - (1 : Int32) = nI v := pk_sub (a := v + 1) (b := 1) (by omega)
    have er : (p + 19) % 20 < 20 := Nat.mod_lt _ (by omega)
    have hB2 : InvB (up2 (up2 I 19 1 (nI ((p + 19) % 20))) 19 2 (nI v)) := (hB.up (Or.inl (by decide))).up (Or.inl (by decide))
    rw [if_neg nz, nm_s, nm_s, nm_s, q3, undo_p p hp, up2_n (show (2 : Nat) ≠ 1 by decide), q1, es, up2_n (show (1 : Nat) ≠ 2 by decide), up2_s, gi_n er (by omega), cl_n (by omega), s9_take L (by omega) (hB2.at (by omega) (kd_kept' _ er)), bd1_s, bd2_s, if_neg (by decide), bd1_s, tk_o (by omega), up2_s]
    have e4 : tkN (up2 (up2 I 19 1 (nI ((p + 19) % 20))) 19 2 (nI v)) 3 (21 + 8 * ((p + 19) % 20)) 6 244 = I 244 := by rw [tk_o (by omega), up2_ne (by omega), up2_ne (by omega)]
    have ei : (292 : Int32) + (73 : Int32) * nI v = nI (292 + 73 * v) := by rw [show (73 : Int32) = nI 73 from rfl, pk_mul, show (292 : Int32) = nI 292 from rfl, nI_add]
    refine ⟨nI v, _, _, rfl, by rw [e4, q2, if_neg nz, nm_s, es, up2_s, ei, show (0 : Int32) = nI 0 from rfl, m_copyRow L (by omega) (by omega) (by omega), bd1_s, cpR_o (by omega), up2_s], ?_⟩
    generalize hT1 : tkN (up2 (up2 I 19 1 (nI ((p + 19) % 20))) 19 2 (nI v)) 3 (21 + 8 * ((p + 19) % 20)) 6 = T
    have t0 : ∀ i, (i < 3 ∨ 11 ≤ i) → i ≠ 19 → T i = I i := fun i a b => by rw [← hT1, tk_o (by omega), up2_ne b, up2_ne b]
    have t1 : ∀ j, 1 ≤ j → j ≤ 6 → T 3 j = I (21 + 8 * ((p + 19) % 20)) j := fun j a b => by rw [← hT1, tk_h a b, up2_ne (by omega), up2_ne (by omega)]
    have t2 : ∀ k f, k < 6 → f ≤ 10 → T (3 + 2 + k) f = I (21 + 8 * ((p + 19) % 20) + 2 + k) f := fun k f a b => by rw [← hT1, tk_s a b, up2_ne (by omega), up2_ne (by omega)]
    have t3 : T 19 1 = nI ((p + 19) % 20) := by rw [← hT1, tk_o (by omega), up2_n (by decide), up2_s]
    have t4 : T 19 2 = nI v := by rw [← hT1, tk_o (by omega), up2_s]
    have t5 : InvB T := by rw [← hT1]; exact tk_B hB2 (by omega) (kd_kept' _ er)
    have c0 : ∀ i, i ≠ 245 → i ≠ 244 → cpR (up2 T 244 2 (nI v)) (292 + 73 * v) 0 73 i = T i := fun i a b => by rw [cpR_o a, up2_ne b]
    have c4 : ∀ j, j ≠ 2 → cpR (up2 T 244 2 (nI v)) (292 + 73 * v) 0 73 244 j = I 244 j := fun j a => by rw [cpR_o (by omega), up2_n a, t0 _ (by omega) (by omega)]
    have c5 : ∀ j, 73 ≤ j → cpR (up2 T 244 2 (nI v)) (292 + 73 * v) 0 73 245 j = I 245 j := fun j a => by rw [cpR_n (by omega), up2_ne (by omega), t0 _ (by omega) (by omega)]
    have c6 : ∀ j, j < 73 → cpR (up2 T 244 2 (nI v)) (292 + 73 * v) 0 73 245 (0 + j) = I 245 (292 + 73 * v + j) := fun j a => by rw [cpR_i a, up2_ne (by omega), t0 _ (by omega) (by omega)]
    refine ⟨?_, ⟨v, (p + 19) % 20, by omega, er, by rw [c0 _ (by omega) (by omega)]; exact t4, by rw [cpR_o (by omega), up2_s], by rw [c0 _ (by omega) (by omega)]; exact t3, fun j hj => ?_⟩, ?_, ?_, ?_, ?_⟩
    · obtain ⟨m, hm, x, y⟩ := q4 0 (by omega)
      rw [show p + 19 - 0 = p + 19 by omega] at x y
      have h6 := x.1
      exact ⟨m, x.congr (fun j a b => by rw [c0 _ (by omega) (by omega), t1 j a b]) (fun k hk f hf => by rw [c0 _ (by omega) (by omega), t2 k f (by omega) hf]), y.congr h6 (fun j a b => by rw [c0 _ (by omega) (by omega), t1 j a b]) (fun k hk f hf => by rw [c0 _ (by omega) (by omega), t2 k f (by omega) hf]) (fun j hj => by rw [c6 j hj]; exact congrArg (I 245) (by omega))⟩
    · obtain ⟨m, hm, x, y⟩ := q4 (j + 1) (by omega)
      rw [show (p + 19 - (j + 1)) % 20 = ((p + 19) % 20 + 19 - j) % 20 by omega] at x y
      have hr : ((p + 19) % 20 + 19 - j) % 20 < 20 := Nat.mod_lt _ (by omega)
      generalize ((p + 19) % 20 + 19 - j) % 20 = r at x y hr
      have h6 := x.1
      have hz : ∀ i, 21 ≤ i → i < 181 → cpR (up2 T 244 2 (nI v)) (292 + 73 * v) 0 73 i = I i := fun i a b => by rw [c0 _ (by omega) (by omega), t0 _ (by omega) (by omega)]
      exact ⟨m, hm, x.congr (fun f _ _ => by rw [hz _ (by omega) (by omega)]) (fun k hk f _ => by rw [hz _ (by omega) (by omega)]), y.congr h6 (fun f _ _ => by rw [hz _ (by omega) (by omega)]) (fun k hk f _ => by rw [hz _ (by omega) (by omega)]) (fun z hz => by rw [c5 _ (by omega)]; exact congrArg (I 245) (by omega))⟩
    · exact hI.congr (fun i a b => by rw [c0 _ (by omega) (by omega), t0 _ (by omega) (by omega)]) (by rw [c0 _ (by omega) (by omega), t0 _ (by omega) (by omega)]) (fun j a b => c5 j a)
    · exact t5.cg (fun i hi => by
        have z5 : i ≠ 245 := fun q => by rw [q] at hi; exact absurd hi (by decide)
        have z4 : i ≠ 244 := fun q => by rw [q] at hi; exact absurd hi (by decide)
        rw [c0 i z5 z4])
    · exact hS.congr (fun k hk => by rw [c0 _ (by omega) (by omega), t0 _ (by omega) (by omega)]) (by rw [c0 _ (by omega) (by omega), t0 _ (by omega) (by omega)]) (by rw [c0 _ (by omega) (by omega), t0 _ (by omega) (by omega)]) (fun _ _ => rfl) rfl
    · exact hT.congr (by rw [c0 _ (by omega) (by omega), t0 _ (by omega) (by omega)]) (by rw [c0 _ (by omega) (by omega), t0 _ (by omega) (by omega)]) (c4 7 (by decide)) (by rw [c0 _ (by omega) (by omega), t0 _ (by omega) (by omega)])
