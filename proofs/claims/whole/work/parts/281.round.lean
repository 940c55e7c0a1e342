def plF (I : MI) (v : Nat → Nat) (k : Nat) : MI := fun a j => if a = 237 ∧ j = 2 then nI k else if a = 238 ∧ j < k then nI (v (2 * j)) else if a = 239 ∧ j < k then nI (v (2 * j + 1)) else I a j
theorem s_fill {I : MI} {L : ML} {s i z P : Nat} {v : Nat → Nat} (hz : z ≤ 24) (h1 : I s 1 = nI z) (hs : s < 237) (hi : i + 2 * P ≤ z) (hP : P ≤ 7) (hv : ∀ t, t < 2 * P → L (s + 1) (i + t) = lN (v t)) : lp (fun s' => b_X8_plan_8 s (nI i) (nI P) L s'.1 s'.2) FU ((0 : Int32), up2 I 237 2 0) = some (plF I v P) := by
  refine lp_forF (fun k => (nI k, plF I v k)) P ?_ (fun k hk => ?_) ?_ (by omega)
  · refine Prod.ext rfl (funext fun a => funext fun j => ?_)
    show up2 I 237 2 0 a j = plF I v 0 a j
    rw [up2_at]
    unfold plF
    by_cases c : a = 237 ∧ j = 2
    · rw [if_pos c, if_pos c]; rfl
    · rw [if_neg c, if_neg c, if_neg (by omega), if_neg (by omega)]
  · simp only [b_X8_plan_8]
    have hs1 : plF I v k s 1 = nI z := by
      unfold plF
      rw [if_neg (by omega), if_neg (by omega), if_neg (by omega)]
      exact h1
    rw [if_neg (nI_ge hk (by omega)), if_neg (show ¬ (7 : Int32) ≤ nI k from nI_ge (b := 7) (by omega) (by omega)), two_n, iy2, s_holds _ _ L hz hs1, bd1_s, if_b, if_pos (by rw [nI_bd (by omega), nI_bd (by omega)]; omega), nI_add, nI_1, gi_n (by omega) (by omega), gi_n (by omega) (by omega), nm_s, gi_n (by omega) (by omega), gi_n (by omega) (by omega), nm_s, nm_s, nm_s, nI_1, cl_n (by omega), cl_n (by omega), cl_n (by omega), hv _ (by omega), show i + 2 * k + 1 = i + (2 * k + 1) by omega, hv _ (by omega), lN_i, lN_i]
    refine congrArg (fun w => some (Sum.inl (nI (k + 1), w))) (funext fun a => funext fun j => ?_)
    have e3 : up2 (up2 (plF I v k) 238 k (nI (v (2 * k)))) 239 k (nI (v (2 * k + 1))) 237 2 = nI k := by
      rw [up2_ne (by omega), up2_ne (by omega)]
      unfold plF
      rw [if_pos ⟨rfl, rfl⟩]
    rw [e3, nI_1, up2_at, up2_at, up2_at]
    unfold plF
    by_cases c : a = 237 ∧ j = 2
    · rw [if_pos c, if_pos c]
    · rw [if_neg c, if_neg c, if_neg c]
      by_cases c2 : a = 239 ∧ j = k
      · rw [if_pos c2, if_neg (by omega), if_pos (by omega), c2.2]
      · rw [if_neg c2]
        by_cases c1 : a = 238 ∧ j = k
        · rw [if_pos c1, if_pos (by omega), c1.2]
        · rw [if_neg c1]
          by_cases d1 : a = 238 ∧ j < k
          · rw [if_pos d1, if_pos (by omega)]
          · rw [if_neg d1, if_neg (show ¬ (a = 238 ∧ j < k + 1) by omega)]
            by_cases d2 : a = 239 ∧ j < k
            · rw [if_pos d2, if_pos (by omega)]
            · rw [if_neg d2, if_neg (show ¬ (a = 239 ∧ j < k + 1) by omega)]
  · simp only [b_X8_plan_8]
    rw [if_pos (nI_le (Nat.le_refl _) (by omega))]
/-- the best round, and its first stop -/
def bpN (d : Nat → Nat → Nat) (M : Nat) : Nat → Nat × Nat
  | 0 => (1000000, 0)
  | j + 1 => if (bpN d M j).1 ≤ d 0 (j + 1) + WF d M 6 (j + 1) (clr (2 ^ M - 2) (j + 1)) then bpN d M j else (d 0 (j + 1) + WF d M 6 (j + 1) (clr (2 ^ M - 2) (j + 1)), j + 1)
theorem bp_le (d : Nat → Nat → Nat) (M : Nat) : ∀ j, (bpN d M j).1 ≤ 1000000 ∧ (bpN d M j).2 ≤ j
  | 0 => ⟨Nat.le_refl _, Nat.le_refl _⟩
  | j + 1 => by
    obtain ⟨a, b⟩ := bp_le d M j
    show (if (bpN d M j).1 ≤ d 0 (j + 1) + WF d M 6 (j + 1) (clr (2 ^ M - 2) (j + 1)) then bpN d M j else (d 0 (j + 1) + WF d M 6 (j + 1) (clr (2 ^ M - 2) (j + 1)), j + 1)).1 ≤ 1000000 ∧ (if (bpN d M j).1 ≤ d 0 (j + 1) + WF d M 6 (j + 1) (clr (2 ^ M - 2) (j + 1)) then bpN d M j else (d 0 (j + 1) + WF d M 6 (j + 1) (clr (2 ^ M - 2) (j + 1)), j + 1)).2 ≤ j + 1
    by_cases c : (bpN d M j).1 ≤ d 0 (j + 1) + WF d M 6 (j + 1) (clr (2 ^ M - 2) (j + 1))
    · rw [if_pos c]; exact ⟨a, by omega⟩
    · rw [if_neg c]; exact ⟨by show d 0 (j + 1) + _ ≤ _; omega, Nat.le_refl _⟩
theorem full7' : ∀ M, M ≤ 7 → (1 : Int32) <<< (nI M &&& (31 : Int32)) - (2 : Int32) = nI (2 ^ M - 2) ∨ M = 0 := by decide +kernel
theorem fullz' : ∀ M, M ≤ 7 → ∀ z, z < 7 → clr (2 ^ M - 2) z < 128 ∧ 2 ^ M - 2 < 128 ∧ pop (clr (2 ^ M - 2) z) ≤ 6 ∧ ∀ w, w < 7 → (clr (2 ^ M - 2) z).testBit w = true → w < M := by decide +kernel
theorem s_plan {I : MI} {L : ML} {s i z P : Nat} {v : Nat → Nat} (hz : z ≤ 24) (h1 : I s 1 = nI z) (hs : s < 237) (hi : i + 2 * P ≤ z) (hP : P ≤ 7) (hP0 : 0 < P) (hv : ∀ t, t < 2 * P → L (s + 1) (i + t) = lN (v t) ∧ v t ≤ 99) : ∃ T, f_X8_plan s (nI i) (nI P) I L = some T ∧ (∀ a, a < 237 ∨ 240 ≤ a → T a = I a) ∧ T 237 3 = nI (bpN (ds (fun j => if j < P then v (2 * j) else 0) (fun j => if j < P then v (2 * j + 1) else 0)) P (P - 1)).1 ∧ T 237 4 = nI (bpN (ds (fun j => if j < P then v (2 * j) else 0) (fun j => if j < P then v (2 * j + 1) else 0)) P (P - 1)).2 := by
  generalize hx : (fun j => if j < P then v (2 * j) else 0) = x
  generalize hy : (fun j => if j < P then v (2 * j + 1) else 0) = y
  have x9 : ∀ j, x j ≤ 99 := fun j => by
    rw [← hx]
    show (if j < P then v (2 * j) else 0) ≤ 99
    by_cases c : j < P
    · rw [if_pos c]; exact (hv _ (by omega)).2
    · rw [if_neg c]; omega
  have y9 : ∀ j, y j ≤ 99 := fun j => by
    rw [← hy]
    show (if j < P then v (2 * j + 1) else 0) ≤ 99
    by_cases c : j < P
    · rw [if_pos c]; exact (hv _ (by omega)).2
    · rw [if_neg c]; omega
  have hd : ∀ a b, ds x y a b ≤ 198 := fun a b => by
    have := x9 a; have := x9 b; have := y9 a; have := y9 b
    unfold ds
    omega
  have pc0 : ∀ j, j < P → plF I v P 238 j = nI (x j) ∧ plF I v P 239 j = nI (y j) ∧ x j ≤ 99 ∧ y j ≤ 99 := fun j hj => by
    refine ⟨?_, ?_, x9 j, y9 j⟩
    · rw [← hx]; dsimp only; rw [if_pos hj]; unfold plF; rw [if_neg (by omega), if_pos ⟨rfl, hj⟩]
    · rw [← hy]; dsimp only; rw [if_pos hj]; unfold plF; rw [if_neg (by omega), if_neg (by omega), if_pos ⟨rfl, hj⟩]
  have p2 : plF I v P 237 2 = nI P := by unfold plF; rw [if_pos ⟨rfl, rfl⟩]
  have po : ∀ a, a < 237 ∨ 240 ≤ a → plF I v P a = I a := fun a ha => funext fun j => by unfold plF; rw [if_neg (by omega), if_neg (by omega), if_neg (by omega)]
  have ef : (1 : Int32) <<< (nI P &&& (31 : Int32)) - (2 : Int32) = nI (2 ^ P - 2) := (full7' P hP).resolve_right (by omega)
  unfold f_X8_plan
  rw [nm_s, s_fill hz h1 hs hi hP (fun t ht => (hv t ht).1), bd1_s, nm_s, nm_s, nm_s, up2_n (by decide), up2_n (by decide), p2, ef]
  obtain ⟨T, hT, t1, t2, t3⟩ := lp_inv (f := fun s' => b_X8_plan_115 (nI (2 ^ P - 2)) L s'.1 s'.2) (fun j s' => s'.1 = nI (j + 1) ∧ (∀ a, a ≠ 237 → s'.2 a = plF I v P a) ∧ s'.2 237 2 = nI P ∧ s'.2 237 3 = nI (bpN (ds x y) P j).1 ∧ s'.2 237 4 = nI (bpN (ds x y) P j).2) (fun T => (∀ a, a ≠ 237 → T a = plF I v P a) ∧ T 237 3 = nI (bpN (ds x y) P (P - 1)).1 ∧ T 237 4 = nI (bpN (ds x y) P (P - 1)).2) (P - 1)
    (fun j s' hj hQ => by
      obtain ⟨w, K⟩ := s'
      obtain ⟨k1, k2, k3, k4, k5⟩ := hQ
      dsimp only at k1 k2 k3 k4 k5
      subst k1
      simp only [b_X8_plan_115]
      have pc : PC K P x y := ⟨k3, fun j hj => by rw [k2 238 (by omega), k2 239 (by omega)]; exact pc0 j hj⟩
      obtain ⟨f1, f2, f3, f4⟩ := fullz' P hP (j + 1) (by omega)
      have hw := s_way L pc hP hP0 hd 6 9 (j + 1) (clr (2 ^ P - 2) (j + 1)) 1 (by omega) f1 (fun z q => by
        by_cases z7 : z < 7
        · exact f4 z z7 q
        · exfalso
          have lt : clr (2 ^ P - 2) (j + 1) < 2 ^ z := Nat.lt_of_lt_of_le (show clr (2 ^ P - 2) (j + 1) < 2 ^ 7 from f1) (Nat.pow_le_pow_right (by omega) (by omega))
          rw [Nat.testBit_lt_two_pow lt] at q
          exact absurd q (by decide)) f3 (by omega) (by omega)
      have hw' : f_X8_wayFrom 9 (nI (j + 1)) (nI (clr (2 ^ P - 2) (j + 1))) (1 : Int32) K L = some (nI (WF (ds x y) P 6 (j + 1) (clr (2 ^ P - 2) (j + 1)))) := hw
      have hb : f_X8_between (0 : Int32) (nI (j + 1)) K L = some (nI (ds x y 0 (j + 1))) := s_between L pc hP hP0 (by omega)
      have b1 := (bp_le (ds x y) P j).1
      have w1 := WF_le (M := P) hd 6 (j + 1) (clr (2 ^ P - 2) (j + 1))
      have d1 := hd 0 (j + 1)
      have hs' : bpN (ds x y) P (j + 1) = if (bpN (ds x y) P j).1 ≤ ds x y 0 (j + 1) + WF (ds x y) P 6 (j + 1) (clr (2 ^ P - 2) (j + 1)) then bpN (ds x y) P j else (ds x y 0 (j + 1) + WF (ds x y) P 6 (j + 1) (clr (2 ^ P - 2) (j + 1)), j + 1) := rfl
      rw [k3, if_neg (nI_ge (by omega) (by omega)), hb, bd1_s, (clr' _ f2 (j + 1) (by omega)).1, hw', bd1_s, nm_s, nI_add, k4]
      by_cases c : (bpN (ds x y) P j).1 ≤ ds x y 0 (j + 1) + WF (ds x y) P 6 (j + 1) (clr (2 ^ P - 2) (j + 1))
      · rw [if_pos (nI_le c (by omega)), bd1_s, nm_s, nI_1]
        refine ⟨_, rfl, rfl, k2, k3, ?_, ?_⟩
        · dsimp only; rw [hs', if_pos c]; exact k4
        · dsimp only; rw [hs', if_pos c]; exact k5
      · rw [if_neg (nI_ge (by omega) (by omega)), nm_s, nm_s, bd1_s, nm_s, nI_1]
        refine ⟨_, rfl, rfl, fun a ha => by dsimp only; rw [up2_ne ha, up2_ne ha]; exact k2 a ha, by dsimp only; rw [up2_n (by decide), up2_n (by decide)]; exact k3, ?_, ?_⟩
        · dsimp only; rw [hs', if_neg c, up2_n (by decide), up2_s]
        · dsimp only; rw [hs', if_neg c, up2_s])
    (fun s' hQ => by
      obtain ⟨w, K⟩ := s'
      obtain ⟨k1, k2, k3, k4, k5⟩ := hQ
      dsimp only at k1 k2 k3 k4 k5
      subst k1
      simp only [b_X8_plan_115]
      rw [k3, if_pos (nI_le (by omega) (by omega))]
      exact ⟨_, rfl, k2, k4, k5⟩)
    FU (show P - 1 < 2000 by omega) ((1 : Int32), up2 (up2 (plF I v P) 237 3 1000000) 237 4 0) ⟨rfl, fun a ha => by dsimp only; rw [up2_ne ha, up2_ne ha], by dsimp only; rw [up2_n (by decide), up2_n (by decide)]; exact p2, by dsimp only; rw [up2_n (by decide), up2_s]; rfl, by dsimp only; rw [up2_s]; rfl⟩
  rw [hT, bd1_s]
  exact ⟨T, rfl, fun a ha => by rw [t1 a (by omega), po a ha], t2, t3⟩
