theorem m_minds {I : MI} {u : Nat} (L : ML) (hu : u ≤ 20) (h : I 244 2 = nI u) : ∃ J, f_X11_minds I L = some J ∧ J 244 2 = nI (min 20 (u + 1)) ∧ (∀ i, i ≠ 244 → i ≠ 245 → J i = I i) ∧ (∀ j, j ≠ 2 → J 244 j = I 244 j) ∧ (∀ j, j < 292 → J 245 j = I 245 j) ∧ ∀ q, q < min 20 (u + 1) → ∀ j, j < 73 → J 245 (292 + 73 * q + j) = if q + 1 = min 20 (u + 1) then I 245 j else I 245 (292 + 73 * (if u = 20 then q + 1 else q) + j) := by
  unfold f_X11_minds
  by_cases c : u = 20
  · subst c
    have e1 : cpR I 365 292 1387 244 2 - (1 : Int32) = nI 19 := by
      rw [cpR_o (by omega), h]
      decide
    rw [if_pos (by rw [h]; decide), m_shift, bd1_s, nm_s, bd1_s, e1, up2_s, show (292 : Int32) + (73 : Int32) * nI 19 = nI (292 + 73 * 19) by decide, show (0 : Int32) = nI 0 from rfl, m_copyRow L (by omega) (by omega) (by omega), bd1_s, nm_s]
    refine ⟨_, rfl, ?_, ?_, ?_, ?_, ?_⟩
    · rw [up2_s, cpR_o (by omega), up2_s]; decide
    · intro i h1 h2
      rw [up2_ne h1, cpR_o h2, up2_ne h1, cpR_o h2]
    · intro j hj
      rw [up2_n hj, cpR_o (by omega), up2_n hj, cpR_o (by omega)]
    · intro j hj
      rw [up2_ne (by omega), cpR_n (by omega), up2_ne (by omega), cpR_n (by omega)]
    · intro q hq j hj
      rw [up2_ne (by omega), if_pos (show 20 = 20 from rfl)]
      by_cases e : q + 1 = min 20 (20 + 1)
      · rw [if_pos e, show q = 19 by omega, cpR_i (by omega), up2_ne (by omega), cpR_n (by omega), show 0 + j = j by omega]
      · rw [if_neg e, cpR_n (by omega), up2_ne (by omega), show 292 + 73 * q + j = 292 + (73 * q + j) by omega, cpR_i (by omega)]
        exact congrArg (I 245) (by omega)
  · have hu2 : u < 20 := by omega
    have e2 : (292 : Int32) + (73 : Int32) * nI u = nI (292 + 73 * u) := by rw [show (73 : Int32) = nI 73 from rfl, pk_mul, show (292 : Int32) = nI 292 from rfl, nI_add]
    rw [if_neg (fun q => by rw [h] at q; exact c ((nI_eq (b := 20) (by omega) (by omega)).mp q)), bd1_s, h, e2, show (0 : Int32) = nI 0 from rfl, m_copyRow L (by omega) (by omega) (by omega), bd1_s, nm_s]
    refine ⟨_, rfl, ?_, ?_, ?_, ?_, ?_⟩
    · rw [up2_s, cpR_o (by omega), h, nI_1, show min 20 (u + 1) = u + 1 by omega]
    · intro i h1 h2
      rw [up2_ne h1, cpR_o h2]
    · intro j hj
      rw [up2_n hj, cpR_o (by omega)]
    · intro j hj
      rw [up2_ne (by omega), cpR_n (by omega)]
    · intro q hq j hj
      rw [up2_ne (by omega), if_neg c]
      by_cases e : q + 1 = min 20 (u + 1)
      · rw [if_pos e, show q = u by omega, cpR_i (by omega), show 0 + j = j by omega]
      · rw [if_neg e, cpR_n (by omega)]
theorem keep_u : ∀ u, u ≤ 20 → mmin (20 : Int32) (nI u + (1 : Int32)) = nI (min 20 (u + 1)) := by decide
theorem keep_p : ∀ p, p < 20 → (nI p + (1 : Int32)) - (nI p + (1 : Int32)) / (20 : Int32) * (20 : Int32) = nI ((p + 1) % 20) := by decide
theorem s_keep {I : MI} {u p : Nat} (L : ML) (hB : InvB I) (hu : u ≤ 20) (hp : p < 20) (h1 : I 19 1 = nI p) (h2 : I 19 2 = nI u) : f_X3_keep 3 I L = some (up2 (up2 (tkN I (21 + 8 * p) 3 6) 19 1 (nI ((p + 1) % 20))) 19 2 (nI (min 20 (u + 1)))) := by
  unfold f_X3_keep
  have e1 : tkN I (21 + 8 * p) 3 6 19 1 = nI p := by rw [tk_o (by omega)]; exact h1
  have e2 : tkN I (21 + 8 * p) 3 6 19 2 = nI u := by rw [tk_o (by omega)]; exact h2
  rw [h1, gi_n hp (by omega), cl_n (by omega), s9_take L (by omega) (hB.at (by omega) (by decide)), bd1_s, nm_s, nm_s, nm_s, up2_n (by decide), e1, e2, keep_u u hu, keep_p p hp]
/-- what the class keeps, and what the reference minds -/
theorem Inv.mind {I : MI} {L : ML} (h : Inv I L) {n : Nat} (hn : 0 < n) (hW : okW I 3 n) (hR : RW I 3 n 0) : ∃ I1, f_X3_keep 3 I L = some I1 ∧ (∀ i, i < 19 ∨ 181 ≤ i → I1 i = I i) ∧ InvB I1 ∧ ∀ I2, (∀ i, 19 ≤ i → I2 i = I1 i) → ∃ I3, f_X11_minds I2 L = some I3 ∧ (∀ i, i ≠ 244 → i ≠ 245 → I3 i = I2 i) ∧ (∀ j, j ≠ 2 → I3 244 j = I2 244 j) ∧ (∀ j, j < 292 → I3 245 j = I2 245 j) ∧ InvU I3 := by
  obtain ⟨u, p, hu, hp, q1, q2, q3, q4⟩ := h.2.1
  have hB := h.2.2.2.1
  refine ⟨_, s_keep L hB hu hp q3 q1, ?_, ?_, ?_⟩
  · intro i hi
    rw [up2_ne (by omega), up2_ne (by omega), tk_o (by omega)]
  · exact ((tk_B hB (by omega) (by decide)).up (Or.inl (by decide))).up (Or.inl (by decide))
  · intro I2 h2
    have e2 : I2 244 2 = nI u := by rw [h2 _ (by omega), up2_ne (by omega), up2_ne (by omega), tk_o (by omega)]; exact q2
    obtain ⟨J, j1, j2, j3, j4, j5, j6⟩ := m_minds (L := L) hu e2
    refine ⟨J, j1, j3, j4, j5, min 20 (u + 1), (p + 1) % 20, by omega, by omega, ?_, j2, ?_, ?_⟩
    · rw [j3 _ (by omega) (by omega), h2 _ (by omega), up2_s]
    · rw [j3 _ (by omega) (by omega), h2 _ (by omega), up2_n (by decide), up2_s]
    · intro j hj
      have h45 : ∀ z, I2 245 z = I 245 z := fun z => by rw [h2 _ (by omega), up2_ne (by omega), up2_ne (by omega), tk_o (by omega)]
      have hJ : ∀ i, 21 ≤ i → i < 181 → J i = tkN I (21 + 8 * p) 3 6 i := fun i x y => by rw [j3 _ (by omega) (by omega), h2 _ (by omega), up2_ne (by omega), up2_ne (by omega)]
      by_cases e : j = 0
      · subst e
        have ew : ((p + 1) % 20 + 19 - 0) % 20 = p := by omega
        rw [ew]
        refine ⟨n, hn, hW.congr (fun f x y => by rw [hJ _ (by omega) (by omega), tk_h x y]) (fun k hk f hf => by rw [hJ _ (by omega) (by have := hW.1; omega), tk_s (by have := hW.1; omega) hf]), hR.congr hW.1 (fun f x y => by rw [hJ _ (by omega) (by omega), tk_h x y]) (fun k hk f hf => by rw [hJ _ (by omega) (by have := hW.1; omega), tk_s (by have := hW.1; omega) hf]) (fun z hz => ?_)⟩
        rw [j6 _ (by omega) z hz, if_pos (by omega), h45, show 0 + z = z by omega]
      · obtain ⟨m, hm, x, y⟩ := q4 (j - 1) (by omega)
        have ew : ((p + 1) % 20 + 19 - j) % 20 = (p + 19 - (j - 1)) % 20 := by omega
        have en : (p + 19 - (j - 1)) % 20 ≠ p := by omega
        have el : (p + 19 - (j - 1)) % 20 < 20 := Nat.mod_lt _ (by omega)
        rw [ew]
        generalize (p + 19 - (j - 1)) % 20 = r at x y en el
        have hm6 := x.1
        have hr : ∀ i, 21 + 8 * r ≤ i → i < 21 + 8 * r + 8 → J i = I i := fun i a b => by rw [hJ _ (by omega) (by omega), tk_o (by omega)]
        refine ⟨m, hm, x.congr (fun f _ _ => by rw [hr _ (by omega) (by omega)]) (fun k hk f _ => by rw [hr _ (by omega) (by omega)]), y.congr hm6 (fun f _ _ => by rw [hr _ (by omega) (by omega)]) (fun k hk f _ => by rw [hr _ (by omega) (by omega)]) (fun z hz => ?_)⟩
        rw [j6 _ (by omega) z hz, if_neg (by omega), h45]
        by_cases c : u = 20
        · rw [if_pos c]
          exact congrArg (I 245) (by omega)
        · rw [if_neg c]
          exact congrArg (I 245) (by omega)
/-- the invariant after an act -/
theorem Inv.act {I I3 I4 : MI} {L : ML} (h : Inv I L) (hU : InvU I3) (hC : InvC I4) (hB : InvB I4) (a1 : ∀ i, 19 ≤ i → i ≠ 245 → I4 i = I3 i) (a2 : ∀ j, 73 ≤ j → I4 245 j = I3 245 j) (b1 : ∀ i, i < 3 ∨ 181 ≤ i → i ≠ 244 → i ≠ 245 → I4 i = I i) (b2 : I4 244 7 = I 244 7) (b3 : ∀ j, 73 ≤ j → j < 219 → I4 245 j = I 245 j) : Inv I4 L := by
  obtain ⟨_, _, hI, _, hS, hT⟩ := h
  exact ⟨hC, hU.congr (a1 _ (by omega) (by omega)) (fun i _ _ => a1 _ (by omega) (by omega)) (by rw [a1 244 (by omega) (by omega)]) (fun j _ _ => a2 j (by omega)), hI.congr (fun i _ _ => b1 _ (by omega) (by omega) (by omega)) (b1 _ (by omega) (by omega) (by omega)) b3, hB, hS.congr (fun k _ => b1 _ (by omega) (by omega) (by omega)) (b1 _ (by omega) (by omega) (by omega)) (b1 _ (by omega) (by omega) (by omega)) (fun _ _ => rfl) rfl, hT.congr (by rw [b1 1 (by omega) (by omega) (by omega)]) (b1 2 (by omega) (by omega) (by omega)) b2 (b1 _ (by omega) (by omega) (by omega))⟩
/-- one sitter of the current wall becomes s' on both sides -/
theorem InvC.one {I I' : MI} {n k : Nat} {s : Nat → Int32} (hW : okW I 3 n) (hR : RW I 3 n 0) (hk : k < n) (hs : okR s) (c1 : I' 3 = I 3) (c2 : ∀ q, q < 6 → q ≠ k → I' (5 + q) = I (5 + q)) (c3 : ∀ f, f ≤ 10 → I' (5 + k) f = s f) (d1 : ∀ j, j < 7 → I' 245 j = I 245 j) (d2 : ∀ q f, q < 6 → q ≠ k → f ≤ 10 → I' 245 (7 + 6 * f + q) = I 245 (7 + 6 * f + q)) (d3 : ∀ f, f ≤ 9 → I' 245 (7 + 6 * f + k) = s f) (d4 : (s 10 = -4 ∧ I' 245 (67 + k) = -1) ∨ I' 245 (67 + k) = s 10 ∧ rg (s 10) 0 20000) : InvC I' := by
  have h6 := hW.1
  obtain ⟨w1, w2, w3, w4, w5, w6, w7, w8, w9⟩ := hW
  obtain ⟨r1, r2, r3, r4⟩ := hR
  refine ⟨n, ⟨w1, by rw [c1]; exact w2, by rw [c1]; exact w3, by rw [c1]; exact w4, by rw [c1]; exact w5, by rw [c1]; exact w6, by rw [c1]; exact w7, by rw [c1]; exact w8, fun q hq => ?_⟩, ?_, ?_, ?_, ?_⟩
  · by_cases e : q = k
    · subst e
      exact okR_congr (fun f hf => by rw [show 3 + 2 + q = 5 + q by omega, c3 f hf]) hs
    · exact okR_congr (fun f hf => by rw [show 3 + 2 + q = 5 + q by omega, c2 q (by omega) e]) (w9 q hq)
  · rw [d1 0 (by omega)]; exact r1
  · intro j x y
    rw [c1, d1 _ (by omega)]; exact r2 j x y
  · intro q f hq hf
    rw [show 3 + 2 + q = 5 + q by omega]
    by_cases e : q = k
    · subst e
      rw [c3 f hf]
      unfold mrec
      by_cases e10 : f = 10
      · subst e10
        rw [if_pos rfl, show 0 + 67 + q = 67 + q by omega]
        rcases d4 with ⟨x, y⟩ | ⟨x, y⟩
        · rw [x, y]; decide
        · rw [x, if_neg]
          intro z
          rw [fa_lt] at z
          have e : (0 : Int32).toInt = 0 := rfl
          have := y.1
          omega
      · rw [if_neg e10, show 0 + 7 + 6 * f + q = 7 + 6 * f + q by omega, d3 f (by omega)]
    · rw [c2 q (by omega) e]
      have := r3 q f hq hf
      rw [show 3 + 2 + q = 5 + q by omega] at this
      rw [this]
      unfold mrec
      by_cases e10 : f = 10
      · subst e10
        rw [if_pos rfl, if_pos rfl, show 0 + 67 + q = 7 + 6 * 10 + q by omega, d2 q 10 (by omega) e (by omega)]
      · rw [if_neg e10, if_neg e10, show 0 + 7 + 6 * f + q = 7 + 6 * f + q by omega, d2 q f (by omega) e (by omega)]
  · intro q hq
    rw [show 0 + 67 + q = 67 + q by omega]
    by_cases e : q = k
    · subst e
      rcases d4 with ⟨x, y⟩ | ⟨x, y⟩
      · rw [y]; decide
      · rw [x]
        have := y.1
        omega
    · rw [show 67 + q = 7 + 6 * 10 + q by omega, d2 q 10 (by omega) e (by omega)]
      have := r4 q hq
      rw [show 0 + 67 + q = 7 + 6 * 10 + q by omega] at this
      exact this
