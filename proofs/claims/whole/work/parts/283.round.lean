theorem has6' : ∀ m, m < 64 → ∀ t, t < 6 → f_X11_has (nI m) (nI t) = some (if m.testBit t then 1 else 0) := by decide +kernel
theorem dbl6' : ∀ m, m < 64 → ∀ t, t < 6 → (2 * m).testBit (t + 1) = m.testBit t ∧ clr (2 * m) (t + 1) = 2 * clr m t ∧ clr m t < 64 ∧ pop (2 * clr m t) ≤ 6 ∧ pop (2 * m) ≤ 6 ∧ (m.testBit t = true → pop (2 * clr m t) ≤ 5) := by decide +kernel
theorem sub1 (t : Nat) : nI (t + 1) - (1 : Int32) = nI t := pk_sub (a := t + 1) (b := 1) (by omega)
theorem ix7m (m t : Nat) : (((7 : Int32) * nI m) + nI (t + 1)) - (1 : Int32) = nI (7 * m + t) := by
  rw [show (7 : Int32) = nI 7 from rfl, pk_mul, nI_add, show 7 * m + (t + 1) = 7 * m + t + 1 by omega, sub1]
/-- the least way into stop j + 1, over the others of the mask -/
theorem m_lay60 {I : MI} {L : ML} {o M j X : Nat} {x y : Nat → Nat} (v3 v4 : Int32) (hM : M ≤ 7) (ho : o + 2 * M ≤ 96) (hj : j + 1 < M) (hX : X < 64) (hd : ∀ a b, ds x y a b ≤ 198) (h : ∀ j, j < M → L 247 (o + 2 * j) = lN (x j) ∧ L 247 (o + 2 * j + 1) = lN (y j) ∧ x j ≤ 99 ∧ y j ≤ 99) (ht : ∀ t, t + 1 < M → X.testBit t = true → I 254 (7 * X + t) = nI (WF (ds x y) M 6 (t + 1) (2 * clr X t))) : lp (fun s => b_X11_layWays_60 (nI o) (nI M) v3 v4 (nI (j + 1)) (nI X) I L s.1 s.2) FU ((if X = 0 then nI (ds x y 0 (j + 1)) else 1000000), (1 : Int32)) = some (nI (WF (ds x y) M 6 (j + 1) (2 * X))) := by
  have e6 : WF (ds x y) M 6 (j + 1) (2 * X) = if X = 0 then ds x y 0 (j + 1) else mnN (fun z => ds x y (j + 1) z + WF (ds x y) M 5 z (clr (2 * X) z)) (2 * X) (M - 1) := by
    show (if 2 * X = 0 then ds x y (j + 1) 0 else mnN (fun z => ds x y (j + 1) z + WF (ds x y) M 5 z (clr (2 * X) z)) (2 * X) (M - 1)) = _
    by_cases c : X = 0
    · rw [if_pos c, if_pos (by omega), ds_sym]
    · rw [if_neg c, if_neg (by omega)]
  rw [e6]
  refine lp_forF (fun t => (nI (if X = 0 then ds x y 0 (j + 1) else mnN (fun z => ds x y (j + 1) z + WF (ds x y) M 5 z (clr (2 * X) z)) (2 * X) t), nI (t + 1))) (M - 1) ?_ (fun t ht2 => ?_) ?_ (by omega)
  · refine Prod.ext ?_ rfl
    show (if X = 0 then nI (ds x y 0 (j + 1)) else 1000000) = nI (if X = 0 then ds x y 0 (j + 1) else mnN (fun z => ds x y (j + 1) z + WF (ds x y) M 5 z (clr (2 * X) z)) (2 * X) 0)
    by_cases c : X = 0
    · rw [if_pos c, if_pos c]
    · rw [if_neg c, if_neg c]; rfl
  · simp only [b_X11_layWays_60]
    obtain ⟨k1, k2, k3, k4, k5, k6⟩ := dbl6' X hX t (by omega)
    have hw : f_X11_wayOf (nI o) (nI (t + 1)) (nI (j + 1)) I L = some (nI (ds x y (t + 1) (j + 1))) := m_wayOf ho (by omega) hj h
    rw [if_neg (nI_ge (by omega) (by omega)), sub1, has6' X hX t (by omega), bd1_s, ix7m, gi_n (by omega) (by omega), cl_n (by omega), hw, bd1_s, nI_1]
    have hm := mn_le (fun z => ds x y (j + 1) z + WF (ds x y) M 5 z (clr (2 * X) z)) (2 * X) t
    have h0 := hd 0 (j + 1)
    have keep : ∀ v : Nat, v ≤ 1000000 → bd1 (if nI v ≤ (1000000 : Int32) then some (nI v) else some (1000000 : Int32)) (fun y14 => nm (nI (t + 1 + 1)) (fun x17 => some (Sum.inl (y14, x17) : (Int32 × Int32) ⊕ Int32))) = some (Sum.inl (nI v, nI (t + 1 + 1))) := fun v hv => by
      rw [if_pos (show nI v ≤ (1000000 : Int32) from nI_le (b := 1000000) hv (by omega)), bd1_s, nm_s]
    by_cases c : X = 0
    · subst c
      rw [if_pos rfl, if_pos rfl, Nat.zero_testBit, if_pos (by decide), bd1_s]
      exact keep _ (by omega)
    · rw [if_neg c, if_neg c]
      show _ = some (Sum.inl (nI (if (2 * X).testBit (t + 1) then min (mnN (fun z => ds x y (j + 1) z + WF (ds x y) M 5 z (clr (2 * X) z)) (2 * X) t) (ds x y (j + 1) (t + 1) + WF (ds x y) M 5 (t + 1) (clr (2 * X) (t + 1))) else mnN (fun z => ds x y (j + 1) z + WF (ds x y) M 5 z (clr (2 * X) z)) (2 * X) t), nI (t + 1 + 1)))
      rw [k1, k2]
      by_cases d : X.testBit t = true
      · have w1 := WF_le (M := M) hd 5 (t + 1) (2 * clr X t)
        have d1 := hd (t + 1) (j + 1)
        rw [d, if_neg (by decide), ht t (by omega) d, WF_fuel hM 5 (t + 1) (2 * clr X t) (by omega) (k6 d), nI_add, bd1_s, if_pos rfl, ds_sym x y (j + 1) (t + 1), Nat.add_comm (ds x y (t + 1) (j + 1))]
        generalize mnN (fun z => ds x y (j + 1) z + WF (ds x y) M 5 z (clr (2 * X) z)) (2 * X) t = A at hm
        by_cases q : A ≤ WF (ds x y) M 5 (t + 1) (2 * clr X t) + ds x y (t + 1) (j + 1)
        · rw [if_pos (nI_le q (by omega)), bd1_s, nm_s, Nat.min_eq_left q]
        · rw [if_neg (nI_ge (by omega) (by omega)), bd1_s, nm_s, Nat.min_eq_right (by omega)]
      · rw [Bool.eq_false_iff.mpr d, if_pos (by decide), bd1_s, if_neg (show ¬ (false = true) by decide)]
        exact keep _ hm
  · simp only [b_X11_layWays_60]
    rw [if_pos (nI_le (by omega) (by omega))]
