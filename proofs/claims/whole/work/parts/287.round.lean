theorem m_best {J : MI} {L : ML} {o M : Nat} {x y : Nat → Nat} (v5 : Int32) (hM2 : 2 ≤ M) (hM : M ≤ 7) (ho : o + 2 * M ≤ 96) (hd : ∀ a b, ds x y a b ≤ 198) (h : ∀ j, j < M → L 247 (o + 2 * j) = lN (x j) ∧ L 247 (o + 2 * j + 1) = lN (y j) ∧ x j ≤ 99 ∧ y j ≤ 99) (ht : ∀ m', 0 < m' → m' < 2 ^ (M - 1) → ∀ t, t + 1 < M → J 254 (7 * m' + t) = nI (Dt (ds x y) M m' t)) : lp (fun s => b_X11_round_111 (nI M) v5 (nI o) (nI (2 ^ (M - 1) - 1)) J L s.1 s.2.1 s.2.2) FU ((1000000 : Int32), (0 : Int32), (1 : Int32)) = some (nI (bpN (ds x y) M (M - 1)).1, nI (bpN (ds x y) M (M - 1)).2) := by
  obtain ⟨e1, e2, e3, e4, e5⟩ := shlm' M (by omega) hM
  have e6 : 2 ≤ 2 ^ (M - 1) := by
    have := Nat.pow_le_pow_right (n := 2) (i := 1) (j := M - 1) (by omega) (by omega)
    omega
  refine lp_forF (fun t => (nI (bpN (ds x y) M t).1, nI (bpN (ds x y) M t).2, nI (t + 1))) (M - 1) rfl (fun t ht2 => ?_) ?_ (by omega)
  · simp only [b_X11_round_111]
    obtain ⟨k1, k2, k3, k4, k5, k6⟩ := dbl6' (2 ^ (M - 1) - 1) (by omega) t (by omega)
    have hw : f_X11_wayOf (nI o) (nI (t + 1)) (0 : Int32) J L = some (nI (ds x y (t + 1) 0)) := m_wayOf (b := 0) ho (by omega) (by omega) h
    have hb := (bp_le (ds x y) M t).1
    have w1 := WF_le (M := M) hd 6 (t + 1) (2 * clr (2 ^ (M - 1) - 1) t)
    have d1 := hd 0 (t + 1)
    rw [if_neg (nI_ge (by omega) (by omega)), ix7m, gi_n (by omega) (by omega), cl_n (by omega), hw, bd1_s, nm_s, ht _ (by omega) (by omega) t (by omega), nI_1]
    unfold Dt
    rw [if_pos (e5 t ht2), nI_add, some_if, bd1_s, some_if, bd1_s, nm_s, ds_sym x y (t + 1) 0, Nat.add_comm]
    show _ = some (Sum.inl (nI (if (bpN (ds x y) M t).1 ≤ ds x y 0 (t + 1) + WF (ds x y) M 6 (t + 1) (clr (2 ^ M - 2) (t + 1)) then bpN (ds x y) M t else (ds x y 0 (t + 1) + WF (ds x y) M 6 (t + 1) (clr (2 ^ M - 2) (t + 1)), t + 1)).1, nI (if (bpN (ds x y) M t).1 ≤ ds x y 0 (t + 1) + WF (ds x y) M 6 (t + 1) (clr (2 ^ M - 2) (t + 1)) then bpN (ds x y) M t else (ds x y 0 (t + 1) + WF (ds x y) M 6 (t + 1) (clr (2 ^ M - 2) (t + 1)), t + 1)).2, nI (t + 1 + 1)))
    rw [e4, k2]
    by_cases c : (bpN (ds x y) M t).1 ≤ ds x y 0 (t + 1) + WF (ds x y) M 6 (t + 1) (2 * clr (2 ^ (M - 1) - 1) t)
    · rw [if_pos (nI_le c (by omega)), if_pos (nI_le c (by omega)), if_pos c]
    · rw [if_neg (nI_ge (by omega) (by omega)), if_neg (nI_ge (by omega) (by omega)), if_neg c]
  · simp only [b_X11_round_111]
    rw [if_pos (nI_le (by omega) (by omega))]
theorem ok_round (a1 : Int32) (a2 : Int32) (a3 : Int32) (a4 : Int32) (a5 : Int32) {I : MI} {L : ML} (h : Inv I L) : ∃ (r : Int32) (I1 : MI) (I2 : MI), f_X10_round a1 a2 a3 a4 a5 I L = some (r, I1) ∧ f_X11_round a1 a2 a3 a4 a5 I1 L = some (r, I2) ∧ Inv I2 L := by
  unfold f_X10_round f_X11_round
  rw [s_within, bd1_s, if_b, s_within, bd1_s, if_b, show (0 : Int64) = (0 : Int32).toInt64 from rfl, show (2 : Int64) = (2 : Int32).toInt64 from rfl, show (7 : Int64) = (7 : Int32).toInt64 from rfl, show (1 : Int64) = (1 : Int32).toInt64 from rfl]
  simp only [s_in32, bd1_s, if_b]
  by_cases c1 : (2 : Int32) ≤ a4 ∧ a4 ≤ 7
  · by_cases c2 : (0 : Int32) ≤ a5 ∧ a5 ≤ 1
    · simp only [if_pos c1, if_pos c2]
      obtain ⟨P, hP2, hP, rfl⟩ : ∃ N : Nat, 2 ≤ N ∧ N ≤ 7 ∧ a4 = nI N := by
        have z1 : (2 : Int32).toInt = 2 := rfl
        have z2 : (7 : Int32).toInt = 7 := rfl
        rw [fa_le, fa_le, z1, z2] at c1
        obtain ⟨k, h1, h2, h3⟩ := rg_n (x := a4) (a := 2) (b := 7) c1 (by omega)
        exact ⟨k, h1, h2, h3⟩
      rcases pairs_cases h.2.2.2.2.1 a1 a2 a3 (show P ≤ 12 by omega) 99 with ⟨r, x1, x2, x3⟩ | ⟨s, i, z, hs, hz, hi, rfl, rfl, q1, q2, q3, x1, x2, x3, x4⟩
      · rw [x1, bd1_s, if_neg x2]
        refine ⟨r, I, I, rfl, ?_, h⟩
        rcases x3 with ⟨rfl, x4⟩ | ⟨x4, x5, x6⟩ | ⟨rfl, x5, x6, x7⟩
        · rw [x4, bd1_s, if_pos rfl]
        · rw [x5, bd1_s, if_neg (by decide), x6, bd1_s, if_neg x4]
        · rw [x5, bd1_s, if_neg (by decide), x6, bd1_s, if_pos (by decide), nm_s, x7, bd1_s, if_pos rfl]
      · have hv : ∀ t, t < 2 * P → ∃ k : Nat, k ≤ 99 ∧ L 247 (24 * s + i + t) = lN k := fun t ht => lN_of (b := 99) (q3 t ht).1 (q3 t ht).2 (by omega)
        have hv2 : ∀ t, t < 2 * P → L 247 (24 * s + i + t) = lN ((L 247 (24 * s + i + t)).toInt32.toNatClampNeg) ∧ (L 247 (24 * s + i + t)).toInt32.toNatClampNeg ≤ 99 := fun t ht => by
          obtain ⟨k, k1, k2⟩ := hv t ht
          rw [k2, lN_i, cl_n (by omega)]
          exact ⟨rfl, by omega⟩
        generalize hvv : (fun t => (L 247 (24 * s + i + t)).toInt32.toNatClampNeg) = v
        have hv3 : ∀ t, t < 2 * P → L 247 (24 * s + i + t) = lN (v t) ∧ v t ≤ 99 := fun t ht => by rw [← hvv]; exact hv2 t ht
        have hc : ∀ t, t < 2 * P → L (199 + 2 * s + 1) (i + t) = lN (v t) ∧ v t ≤ 99 := fun t ht => by
          refine ⟨?_, (hv3 t ht).2⟩
          rw [← (hv3 t ht).1, show 199 + 2 * s + 1 = 200 + 2 * s by omega, q2 _ (by omega)]
          exact congrArg (L 247) (by omega)
        obtain ⟨T, t1, t2, t3, t4⟩ := s_plan hz q1 (by omega) hi hP (by omega) hc
        rw [x1, bd1_s, if_pos rfl, gi_n (by omega) (by omega), cl_n (by omega), t1, bd1_s, some_if, bd1_s, t3, t4]
        generalize hx : (fun j => if j < P then v (2 * j) else 0) = x
        generalize hy : (fun j => if j < P then v (2 * j + 1) else 0) = y
        have hxy : ∀ j, j < P → x j = v (2 * j) ∧ y j = v (2 * j + 1) := fun j hj => by
          rw [← hx, ← hy]
          dsimp only
          rw [if_pos hj, if_pos hj]
          exact ⟨rfl, rfl⟩
        have hz0 : ∀ j, ¬ j < P → x j = 0 ∧ y j = 0 := fun j hj => by
          rw [← hx, ← hy]
          dsimp only
          rw [if_neg hj, if_neg hj]
          exact ⟨rfl, rfl⟩
        have h99 : ∀ j, x j ≤ 99 ∧ y j ≤ 99 := fun j => by
          by_cases c : j < P
          · rw [(hxy j c).1, (hxy j c).2]
            exact ⟨(hv3 _ (by omega)).2, (hv3 _ (by omega)).2⟩
          · rw [(hz0 j c).1, (hz0 j c).2]
            exact ⟨by omega, by omega⟩
        have hd : ∀ a b, ds x y a b ≤ 198 := fun a b => by
          have := h99 a; have := h99 b
          unfold ds
          omega
        have hh : ∀ j, j < P → L 247 (24 * s + i + 2 * j) = lN (x j) ∧ L 247 (24 * s + i + 2 * j + 1) = lN (y j) ∧ x j ≤ 99 ∧ y j ≤ 99 := fun j hj => by
          refine ⟨?_, ?_, (h99 j).1, (h99 j).2⟩
          · rw [(hxy j hj).1]; exact (hv3 (2 * j) (by omega)).1
          · rw [(hxy j hj).2]; exact (hv3 (2 * j + 1) (by omega)).1
        have kT : Kp I T := Kp.of (fun a ha => t2 a (by omega))
        have bT : InvB T := h.2.2.2.1.cg (fun a ha => by
          by_cases c : a < 237 ∨ 240 ≤ a
          · rw [t2 a c]
          · rcases (show a = 237 ∨ a = 238 ∨ a = 239 by omega) with rfl | rfl | rfl <;> exact absurd ha (by decide))
        obtain ⟨J, j1, j2, j3⟩ := m_lay (I := T) (o := 24 * s + i) (by omega) hP (by omega) hd hh
        have kJ : Kp T J := ⟨fun a ha => j2 a (by omega), by rw [j2 _ (by omega)], by rw [j2 _ (by omega)], fun a _ => by rw [j2 _ (by omega)], j2 _ (by omega), j2 _ (by omega), j2 _ (by omega), j2 _ (by omega)⟩
        have bJ : InvB J := bT.cg (fun a ha => by rw [j2 a (fun q => by rw [q] at ha; exact absurd ha (by decide))])
        have aw : f_X11_areWithin (((24 : Int32) * nI s) + nI i) ((2 : Int32) * nI P) 99 T L = some 1 := by
          rw [← x4, e24, two_n, m_areWithin _ L (by omega), m_areWithin _ L (by omega)]
        obtain ⟨u1, u2, u3, _, _⟩ := shlm' P (by omega) hP
        have ef : (1 : Int32) <<< ((nI P - (1 : Int32)) &&& (31 : Int32)) - (1 : Int32) = nI (2 ^ (P - 1) - 1) := by
          rw [u1]
          exact pk_sub (b := 1) u2
        refine ⟨_, T, J, rfl, ?_, h.keep (kT.tr kJ) bJ (fun _ _ => rfl) rfl⟩
        rw [x2, bd1_s, if_neg (by decide), against_congr (I := I) (L := L) _ _ _ _ kT.2.2.2.2.2.1 kT.2.2.2.2.2.2.1, x3, bd1_s, if_pos (by decide), nm_s, aw, bd1_s, if_neg (by decide), e24, j1, bd1_s, nm_s, ef, m_best a5 hP2 hP (by omega) hd hh j3, bd2_s, some_if, bd1_s]
    · simp only [if_pos c1, if_neg c2]
      refine ⟨-1, I, I, rfl, ?_, h⟩
      rw [m_isLane, bd1_s, if_b, ite_self]
  · simp only [if_neg c1]
    refine ⟨-1, I, I, rfl, ?_, h⟩
    rw [m_isLane, bd1_s, if_b, ite_self]
