theorem bd1_of {α β : Type} {o : Option α} {a : α} {k : α → Option β} (h : o = some a) : bd1 o k = k a := by
  rw [h]
  rfl
theorem if_add1 {p : Prop} [Decidable p] (z : Int32) : (if p then z + 1 else z) = z + b01 p := by
  by_cases h : p
  · rw [if_pos h, b01_t h]
  · rw [if_neg h, b01_f h, i32_add0]
theorem s_sitting {I : MI} {w n : Nat} (L : ML) (hn : n ≤ 6) (h : I w 1 = nI n) : f_X9_sitting w I L = some (bx_sum (fun k => b01 (I (w + 2 + k) 10 = -4)) n) := by
  unfold f_X9_sitting
  refine (bd1_of (lp_forF (fun k => (bx_sum (fun k => b01 (I (w + 2 + k) 10 = -4)) k, nI k)) n rfl (fun k hk => ?_) (x := bx_sum (fun k => b01 (I (w + 2 + k) 10 = -4)) n) ?_ (by omega))).trans rfl
  · simp (disch := omega) only [b_X9_sitting_4, h, if_neg (nI_ge hk (by omega)), gi_n, cl_n, s_sits, bd1_s, if_b, nm_s, some_if, if_add1, nI_1]
    rfl
  · simp only [b_X9_sitting_4, h, if_pos (nI_le (Nat.le_refl n) (by omega))]
theorem m_isDown {I : MI} {o k : Nat} (L : ML) (h : o + 67 + k < 1752) : f_X11_isDown (nI o) (nI k) I L = some (b01 (0 ≤ I 245 (o + 67 + k))) := by
  unfold f_X11_isDown
  simp (disch := omega) only [ix67, gi_n, cl_n, some_if, if_01, bd1_s, gd_b]
  exact congrArg some (b01_iff (by rw [i32_nlt]))
theorem m_sittingIn {I : MI} {o n : Nat} (L : ML) (ho : o + 73 ≤ 1752) (hn : n ≤ 6) (h : I 245 (o + 1) = nI n) : f_X11_sittingIn (nI o) I L = some (bx_sum (fun k => b01 (¬ 0 ≤ I 245 (o + 67 + k))) n) := by
  unfold f_X11_sittingIn
  refine (bd1_of (lp_forF (fun k => (bx_sum (fun k => b01 (¬ 0 ≤ I 245 (o + 67 + k))) k, nI k)) n rfl (fun k hk => ?_) (x := bx_sum (fun k => b01 (¬ 0 ≤ I 245 (o + 67 + k))) n) ?_ (by omega))).trans rfl
  · simp (disch := omega) only [b_X11_sittingIn_4, iy1, gi_n, cl_n, h, if_neg (nI_ge hk (by omega)), m_isDown, bd1_s, if_b, nm_s, some_if, if_01, nI_1]
    rfl
  · simp (disch := omega) only [b_X11_sittingIn_4, iy1, gi_n, cl_n, h, if_pos (nI_le (Nat.le_refl n) (by omega))]
theorem bx_sum_congr {f g : Nat → Int32} : ∀ {n : Nat}, (∀ k, k < n → f k = g k) → bx_sum f n = bx_sum g n
  | 0, _ => rfl
  | n + 1, h => by
    show bx_sum f n + f n = bx_sum g n + g n
    rw [bx_sum_congr (fun k hk => h k (by omega)), h n (by omega)]
/-- who sits, on both sides -/
theorem RW.sits {I : MI} {w n o k : Nat} (h : RW I w n o) (hk : k < n) : I (w + 2 + k) 10 = -4 ↔ ¬ 0 ≤ I 245 (o + 67 + k) := by
  rw [h.2.2.1 k 10 hk (by omega)]
  unfold mrec
  rw [if_pos rfl]
  by_cases c : I 245 (o + 67 + k) < 0
  · rw [if_pos c]
    exact ⟨fun _ q => i32_nlt.mpr q c, fun _ => rfl⟩
  · rw [if_neg c]
    refine ⟨fun q => ?_, fun q => absurd (i32_nlt.mp c) q⟩
    rw [q] at c
    exact absurd (by decide) c
theorem sit_eq {I : MI} {w n o : Nat} (h : RW I w n o) : bx_sum (fun k => b01 (¬ 0 ≤ I 245 (o + 67 + k))) n = bx_sum (fun k => b01 (I (w + 2 + k) 10 = -4)) n := bx_sum_congr (fun k hk => b01_iff (h.sits hk).symm)
theorem RW.mr {I : MI} {w n o k f : Nat} (h : RW I w n o) (hk : k < n) (hf : f < 10) : I (w + 2 + k) f = I 245 (o + 7 + 6 * f + k) := by
  rw [h.2.2.1 k f hk (by omega)]
  unfold mrec
  rw [if_neg (by omega)]
theorem s_allCrusts {I : MI} {w n : Nat} (L : ML) (hn : n ≤ 6) (h : I w 1 = nI n) : f_X9_allCrusts w I L = some (bx_sum (fun k => I (w + 2 + k) 6) n) := by
  unfold f_X9_allCrusts
  refine (bd1_of (lp_forF (fun k => (bx_sum (fun k => I (w + 2 + k) 6) k, nI k)) n rfl (fun k hk => ?_) (x := bx_sum (fun k => I (w + 2 + k) 6) n) ?_ (by omega))).trans rfl
  · simp (disch := omega) only [b_X9_allCrusts_4, h, if_neg (nI_ge hk (by omega)), gi_n, cl_n, nm_s, nI_1]
    rfl
  · simp only [b_X9_allCrusts_4, h, if_pos (nI_le (Nat.le_refl n) (by omega))]
theorem m_crusts {I : MI} {n : Nat} (L : ML) (hn : n ≤ 6) (h : I 245 1 = nI n) : f_X11_crustsOfAll I L = some (bx_sum (fun k => I 245 (43 + k)) n) := by
  have g1 : ∀ {β : Type} (o : Option β), gi (1 : Int32) 1752 o = o := fun o => gi_l 1 rfl (by omega) (by omega)
  have h1 : I 245 (1 : Int32).toNatClampNeg = nI n := h
  have e43 : ∀ k : Nat, (43 : Int32) + nI k = nI (43 + k) := fun k => by rw [← nI_add]; rfl
  unfold f_X11_crustsOfAll
  refine (bd1_of (lp_forF (fun k => (bx_sum (fun k => I 245 (43 + k)) k, nI k)) n rfl (fun k hk => ?_) (x := bx_sum (fun k => I 245 (43 + k)) n) ?_ (by omega))).trans rfl
  · simp (disch := omega) only [b_X11_crustsOfAll_4, g1, h1, if_neg (nI_ge hk (by omega)), e43, gi_n, cl_n, nm_s, nI_1]
    rfl
  · simp only [b_X11_crustsOfAll_4, g1, h1, if_pos (nI_le (Nat.le_refl n) (by omega))]
theorem ok_count (a1 : Int32) {I : MI} {L : ML} (h : Inv I L) : ∃ (r : Int32), f_X10_count a1 I L = some r ∧ f_X11_count a1 I L = some r ∧ Inv I L := by
  obtain ⟨n, hW, hR⟩ := h.1
  obtain ⟨u, p, -, -, hu1, hu2, -⟩ := h.2.1
  obtain ⟨t, -, ht1, ht2, -⟩ := h.2.2.2.2.2
  have hn := hW.1
  have e1 : I 245 1 = nI n := by rw [← hW.2.1]; exact (hR.2.1 1 (by omega) (by omega)).symm
  have g0 : ∀ {β : Type} (o : Option β), gi (0 : Int32) 1752 o = o := fun o => gi_l 0 rfl (by omega) (by omega)
  have g1 : ∀ {β : Type} (o : Option β), gi (1 : Int32) 1752 o = o := fun o => gi_l 1 rfl (by omega) (by omega)
  have g2 : ∀ {β : Type} (o : Option β), gi (2 : Int32) 1752 o = o := fun o => gi_l 2 rfl (by omega) (by omega)
  have g3 : ∀ {β : Type} (o : Option β), gi (3 : Int32) 1752 o = o := fun o => gi_l 3 rfl (by omega) (by omega)
  have g4 : ∀ {β : Type} (o : Option β), gi (4 : Int32) 1752 o = o := fun o => gi_l 4 rfl (by omega) (by omega)
  have g5 : ∀ {β : Type} (o : Option β), gi (5 : Int32) 1752 o = o := fun o => gi_l 5 rfl (by omega) (by omega)
  have q : ∀ j, 1 ≤ j → j ≤ 6 → I 245 j = I 3 j := fun j h1 h2 => by have := hR.2.1 j h1 h2; rw [Nat.zero_add] at this; exact this.symm
  unfold f_X10_count f_X11_count
  simp only [g0, g1, g2, g3, g4, g5]
  by_cases c0 : a1 = 0
  · simp only [if_pos c0]; exact ⟨_, rfl, congrArg some (q 1 (by omega) (by omega)), h⟩
  simp only [if_neg c0]
  by_cases c1 : a1 = 1
  · simp only [if_pos c1]
    rw [s_sitting L hn hW.2.1, show (0 : Int32) = nI 0 from rfl, m_sittingIn L (by omega) hn (by rw [Nat.zero_add]; exact e1)]
    exact ⟨_, rfl, congrArg some (sit_eq hR), h⟩
  simp only [if_neg c1]
  by_cases c2 : a1 = 2
  · simp only [if_pos c2]; exact ⟨_, rfl, congrArg some (q 4 (by omega) (by omega)), h⟩
  simp only [if_neg c2]
  by_cases c3 : a1 = 3
  · simp only [if_pos c3]; exact ⟨_, rfl, congrArg some (q 2 (by omega) (by omega)), h⟩
  simp only [if_neg c3]
  by_cases c4 : a1 = 4
  · simp only [if_pos c4]; exact ⟨_, rfl, congrArg some (q 3 (by omega) (by omega)), h⟩
  simp only [if_neg c4]
  by_cases c5 : a1 = 5
  · simp only [if_pos c5]
    rw [s_allCrusts L hn hW.2.1, m_crusts L hn e1]
    refine ⟨_, rfl, congrArg some (bx_sum_congr (fun k hk => ?_)), h⟩
    rw [hR.mr (f := 6) hk (by omega), show 0 + 7 + 6 * 6 + k = 43 + k by omega]
  simp only [if_neg c5]
  by_cases c6 : a1 = 6
  · simp only [if_pos c6]; exact ⟨_, rfl, congrArg some (q 5 (by omega) (by omega)), h⟩
  simp only [if_neg c6]
  by_cases c7 : a1 = 7
  · simp only [if_pos c7]
    rw [s_stands, bd1_s, if_b, s_isNight, bd1_s, if_b, show f_X11_isNight (0 : Int32) I L = _ from m_isNight (o := 0) L (by omega), bd1_s, if_b]
    rw [show I 245 (0 + 2) = I 3 2 from q 2 (by omega) (by omega), show I 245 (0 + 4) = I 3 4 from q 4 (by omega) (by omega), show I 245 (0 : Int32).toNatClampNeg = _ from hR.1, hW.2.1]
    simp only [some_if, bd1_s]
    refine ⟨_, rfl, ?_, h⟩
    by_cases z : n = 0
    · subst z
      rw [if_pos rfl, if_neg (by decide), if_neg (by decide)]
    · rw [if_neg z, if_pos rfl, if_pos (show (0 : Int32) < nI n from nI_lt (a := 0) (by omega) (by omega))]
  simp only [if_neg c7]
  by_cases c8 : a1 = 8
  · simp only [if_pos c8]; exact ⟨_, rfl, by rw [hu1, hu2], h⟩
  simp only [if_neg c8]
  by_cases c9 : a1 = 9
  · simp only [if_pos c9]; exact ⟨_, rfl, by rw [ht1, ht2], h⟩
  simp only [if_neg c9]
  exact ⟨_, rfl, rfl, h⟩
