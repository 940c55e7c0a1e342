def Dt (d : Nat → Nat → Nat) (M m t : Nat) : Nat := if m.testBit t then WF d M 6 (t + 1) (2 * clr m t) else 1000000
theorem clr6' : ∀ m, m < 64 → ∀ t, t < 6 → nI m &&& (((1 : Int32) <<< (nI t &&& (31 : Int32))) ^^^ (-1 : Int32)) = nI (clr m t) ∧ clr m t < 64 ∧ (m.testBit t = true → clr m t < m) ∧ (m.testBit t = false → clr m t = m) := by decide +kernel
theorem m_lay18 {I : MI} {L : ML} {o M m : Nat} {x y : Nat → Nat} (v3 : Int32) (hM : M ≤ 7) (ho : o + 2 * M ≤ 96) (hm0 : 0 < m) (hm : m < 64) (hd : ∀ a b, ds x y a b ≤ 198) (h : ∀ j, j < M → L 247 (o + 2 * j) = lN (x j) ∧ L 247 (o + 2 * j + 1) = lN (y j) ∧ x j ≤ 99 ∧ y j ≤ 99) (ht : ∀ m', 0 < m' → m' < m → ∀ t, t + 1 < M → I 254 (7 * m' + t) = nI (Dt (ds x y) M m' t)) : ∃ J, lp (fun s => b_X11_layWays_18 (nI o) (nI M) v3 (nI m) L s.1 s.2) FU ((1 : Int32), I) = some J ∧ (∀ i, i ≠ 254 → J i = I i) ∧ ∀ m', 0 < m' → m' < m + 1 → ∀ t, t + 1 < M → J 254 (7 * m' + t) = nI (Dt (ds x y) M m' t) := by
  obtain ⟨J, j1, j2, j3, j4⟩ := lp_inv (f := fun s => b_X11_layWays_18 (nI o) (nI M) v3 (nI m) L s.1 s.2) (fun j s => s.1 = nI (j + 1) ∧ (∀ i, i ≠ 254 → s.2 i = I i) ∧ (∀ k, k < 7 * m → s.2 254 k = I 254 k) ∧ ∀ t, t < j → s.2 254 (7 * m + t) = nI (Dt (ds x y) M m t)) (fun J => (∀ i, i ≠ 254 → J i = I i) ∧ (∀ k, k < 7 * m → J 254 k = I 254 k) ∧ ∀ t, t < M - 1 → J 254 (7 * m + t) = nI (Dt (ds x y) M m t)) (M - 1)
    (fun j s hj hP => by
      obtain ⟨w, K⟩ := s
      obtain ⟨q1, q2, q3, q4⟩ := hP
      dsimp only at q1 q2 q3 q4
      subst q1
      simp only [b_X11_layWays_18]
      obtain ⟨c1, c2, c3, c4⟩ := clr6' m hm j (by omega)
      have hw : f_X11_wayOf (nI o) (0 : Int32) (nI (j + 1)) K L = some (nI (ds x y 0 (j + 1))) := m_wayOf (a := 0) ho (by omega) (by omega) h
      have ex : (if nI (clr m j) = 0 then some (nI (ds x y 0 (j + 1))) else some (1000000 : Int32)) = some (if clr m j = 0 then nI (ds x y 0 (j + 1)) else 1000000) := by
        by_cases c : clr m j = 0
        · rw [if_pos c, if_pos (by rw [c]; rfl)]
        · rw [if_neg c, if_neg (show ¬ nI (clr m j) = 0 from fun q => c ((nI_eq (b := 0) (by omega) (by omega)).mp q))]
      rw [if_neg (nI_ge (by omega) (by omega)), sub1, c1, nm_s, hw, bd1_s, ex, bd1_s]
      have fin : ∀ v : Int32, v = nI (Dt (ds x y) M m j) → ∃ s', (gi ((((7 : Int32) * nI m) + nI (j + 1)) - (1 : Int32)) 448 (nm (up2 K 254 (((((7 : Int32) * nI m) + nI (j + 1)) - (1 : Int32)).toNatClampNeg) v) (fun I31 => nm (nI (j + 1) + (1 : Int32)) (fun x32 => some (Sum.inl (x32, I31) : (Int32 × MI) ⊕ MI))))) = some (Sum.inl s') ∧ s'.1 = nI (j + 1 + 1) ∧ (∀ i, i ≠ 254 → s'.2 i = I i) ∧ (∀ k, k < 7 * m → s'.2 254 k = I 254 k) ∧ ∀ t, t < j + 1 → s'.2 254 (7 * m + t) = nI (Dt (ds x y) M m t) := fun v hv => by
        rw [ix7m, gi_n (by omega) (by omega), cl_n (by omega), nm_s, nm_s, nI_1]
        refine ⟨_, rfl, rfl, fun i hi => by dsimp only; rw [up2_ne hi]; exact q2 i hi, fun k hk => by dsimp only; rw [up2_n (by omega)]; exact q3 k hk, fun t ht2 => ?_⟩
        dsimp only
        by_cases e : t = j
        · rw [e, up2_s]; exact hv
        · rw [up2_n (by omega)]; exact q4 t (by omega)
      by_cases b : m.testBit j = true
      · have hl := m_lay60 (I := K) (L := L) (o := o) (M := M) (j := j) (X := clr m j) v3 (nI m) hM ho (by omega) c2 hd h (fun t t1 t2 => by
          have hx : 0 < clr m j := by
            rcases Nat.eq_zero_or_pos (clr m j) with e | e
            · rw [e, Nat.zero_testBit] at t2; exact absurd t2 (by decide)
            · exact e
          have hc := c3 b
          rw [q3 _ (by omega), ht _ hx hc t t1]
          unfold Dt
          rw [if_pos t2])
        rw [hl, bd1_s, has6' m hm j (by omega), bd1_s, b, if_neg (by decide), bd1_s]
        exact fin _ (by unfold Dt; rw [if_pos b])
      · obtain ⟨r, hr⟩ := m_lay60x (I := K) (L := L) (o := o) (M := M) (j := j) (X := clr m j) v3 (nI m) (if clr m j = 0 then nI (ds x y 0 (j + 1)) else 1000000) hM ho (by omega) c2 h
        rw [hr, bd1_s, has6' m hm j (by omega), bd1_s, Bool.eq_false_iff.mpr b, if_pos (by decide), bd1_s]
        exact fin _ (by unfold Dt; rw [if_neg b]; rfl))
    (fun s hP => by
      obtain ⟨w, K⟩ := s
      obtain ⟨q1, q2, q3, q4⟩ := hP
      dsimp only at q1 q2 q3 q4
      subst q1
      simp only [b_X11_layWays_18]
      rw [if_pos (nI_le (by omega) (by omega))]
      exact ⟨_, rfl, q2, q3, q4⟩)
    FU (show M - 1 < 2000 by omega) ((1 : Int32), I) ⟨rfl, fun _ _ => rfl, fun _ _ => rfl, fun t ht2 => absurd ht2 (by omega)⟩
  refine ⟨J, j1, j2, fun m' h0 h1 t t1 => ?_⟩
  by_cases e : m' = m
  · rw [e]; exact j4 t (by omega)
  · rw [j3 _ (by omega)]; exact ht m' h0 (by omega) t t1
