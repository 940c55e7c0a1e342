/-! ===== goesOn, told ===== -/
theorem two_n (k : Nat) : (2 : Int32) * nI k = nI (2 * k) := pk_mul 2 k
def hrF (I : MI) (v : Nat → Nat) (k : Nat) : MI := fun a j => if a = 240 ∧ j = 3 then nI k else if a = 241 ∧ j < k then nI (v (2 * j)) else if a = 242 ∧ j < k then nI (v (2 * j + 1)) else I a j
theorem s_hear {I : MI} {L : ML} {s i z P : Nat} {v : Nat → Nat} (hz : z ≤ 24) (h1 : I s 1 = nI z) (hs : s < 240) (hi : i + 2 * P ≤ z) (hP : P ≤ 12) (hv : ∀ t, t < 2 * P → L (s + 1) (i + t) = lN (v t)) : f_X2_hear s (nI i) (nI P) I L = some (hrF I v P) := by
  unfold f_X2_hear
  rw [nm_s, bd1_of (lp_forF (s0 := ((0 : Int32), up2 I 240 3 0)) (fun k => (nI k, hrF I v k)) P (x := hrF I v P) ?_ (fun k hk => ?_) ?_ (by omega))]
  · refine Prod.ext rfl (funext fun a => funext fun j => ?_)
    show up2 I 240 3 0 a j = hrF I v 0 a j
    rw [up2_at]
    unfold hrF
    by_cases c : a = 240 ∧ j = 3
    · rw [if_pos c, if_pos c]; rfl
    · rw [if_neg c, if_neg c, if_neg (by omega), if_neg (by omega)]
  · simp only [b_X2_hear_8]
    rw [if_pos (nI_le (Nat.le_refl _) (by omega))]
  · simp only [b_X2_hear_8]
    have hs1 : hrF I v k s 1 = nI z := by
      unfold hrF
      rw [if_neg (by omega), if_neg (by omega), if_neg (by omega)]
      exact h1
    rw [if_neg (nI_ge hk (by omega)), if_neg (show ¬ (12 : Int32) ≤ nI k from nI_ge (b := 12) (by omega) (by omega)), two_n, iy2, s_holds _ _ L hz hs1, bd1_s, if_b, if_pos (by rw [nI_bd (by omega), nI_bd (by omega)]; omega), nI_add, nI_1, gi_n (by omega) (by omega), gi_n (by omega) (by omega), nm_s, gi_n (by omega) (by omega), gi_n (by omega) (by omega), nm_s, nm_s, nm_s, nI_1, cl_n (by omega), cl_n (by omega), cl_n (by omega), hv _ (by omega), show i + 2 * k + 1 = i + (2 * k + 1) by omega, hv _ (by omega), lN_i, lN_i]
    refine congrArg (fun w => some (Sum.inl (nI (k + 1), w))) (funext fun a => funext fun j => ?_)
    have e3 : up2 (up2 (hrF I v k) 241 k (nI (v (2 * k)))) 242 k (nI (v (2 * k + 1))) 240 3 = nI k := by
      rw [up2_ne (by omega), up2_ne (by omega)]
      unfold hrF
      rw [if_pos ⟨rfl, rfl⟩]
    rw [e3, nI_1, up2_at, up2_at, up2_at]
    unfold hrF
    by_cases c : a = 240 ∧ j = 3
    · rw [if_pos c, if_pos c]
    · rw [if_neg c, if_neg c, if_neg c]
      by_cases c2 : a = 242 ∧ j = k
      · rw [if_pos c2, if_neg (by omega), if_pos (by omega), c2.2]
      · rw [if_neg c2]
        by_cases c1 : a = 241 ∧ j = k
        · rw [if_pos c1, if_pos (by omega), c1.2]
        · rw [if_neg c1]
          by_cases d1 : a = 241 ∧ j < k
          · rw [if_pos d1, if_pos (by omega)]
          · rw [if_neg d1, if_neg (show ¬ (a = 241 ∧ j < k + 1) by omega)]
            by_cases d2 : a = 242 ∧ j < k
            · rw [if_pos d2, if_pos (by omega)]
            · rw [if_neg d2, if_neg (show ¬ (a = 242 ∧ j < k + 1) by omega)]
theorem hr_o {I : MI} {v : Nat → Nat} {P i : Nat} (h : i ≠ 240 ∧ i ≠ 241 ∧ i ≠ 242) : hrF I v P i = I i := by
  refine funext fun j => ?_
  unfold hrF
  rw [if_neg (fun q => h.1 q.1), if_neg (fun q => h.2.1 q.1), if_neg (fun q => h.2.2 q.1)]
theorem hr_x {I : MI} {v : Nat → Nat} {P : Nat} : hrF I v P 240 3 = nI P ∧ ∀ j, j < P → hrF I v P 241 j = nI (v (2 * j)) ∧ hrF I v P 242 j = nI (v (2 * j + 1)) := by
  refine ⟨?_, fun j hj => ⟨?_, ?_⟩⟩
  · unfold hrF; rw [if_pos ⟨rfl, rfl⟩]
  · unfold hrF; rw [if_neg (by omega), if_pos ⟨rfl, hj⟩]
  · unfold hrF; rw [if_neg (by omega), if_neg (by omega), if_pos ⟨rfl, hj⟩]
theorem s_know {I : MI} {P m : Nat} {x y : Nat → Nat} (L : ML) (hP : P ≤ 12) (h3 : I 240 3 = nI P) (hx : ∀ j, j < P → I 241 j = nI (x j) ∧ x j < 8) (hy : ∀ j, j < P → I 242 j = nI (y j) ∧ y j < 8) (hm : m < 256) : f_X2_knowAtLast (nI m) I L = some (nI (itN (fun m => rdN x y m P) m 8)) := by
  have hR : ∀ m, m < 256 → rdN x y m P < 256 := fun m h => rd_lt (fun j hj => (hy j hj).2) h P (Nat.le_refl P)
  have inner : ∀ (v3 : Int32) (m : Nat), m < 256 → lp (fun s => b_X2_knowAtLast_13 v3 I L s.1 s.2) FU (nI m, (0 : Int32)) = some (nI (rdN x y m P)) := fun v3 m hm => by
    refine lp_forF (fun j => (nI (rdN x y m j), nI j)) P rfl (fun j hj => ?_) ?_ (by omega)
    · simp only [b_X2_knowAtLast_13]
      have l := rd_lt (x := x) (y := y) (P := P) (fun j hj => (hy j hj).2) hm j (by omega)
      rw [h3, if_neg (nI_ge hj (by omega)), gi_n (by omega) (by omega), gi_n (by omega) (by omega), cl_n (by omega), (hx j hj).1, (hy j hj).1, nm_s]
      show _ = some (Sum.inl (nI (if (rdN x y m j).testBit (x j) then rdN x y m j ||| 2 ^ y j else rdN x y m j), nI (j + 1)))
      by_cases c : (rdN x y m j).testBit (x j) = true
      · rw [if_pos ((bit_has' _ l _ (hx j hj).2).mpr c), bd1_s, nm_s, nI_1, (bit_or' _ l _ (hy j hj).2).1, if_pos c]
      · rw [if_neg (fun q => c ((bit_has' _ l _ (hx j hj).2).mp q)), bd1_s, nm_s, nI_1, if_neg c]
    · simp only [b_X2_knowAtLast_13]
      rw [h3, if_pos (nI_le (Nat.le_refl _) (by omega))]
  unfold f_X2_knowAtLast
  rw [bd1_of (lp_forF (s0 := (nI m, (0 : Int32))) (fun j => (nI (itN (fun m => rdN x y m P) m j), nI j)) 8 (x := nI (itN (fun m => rdN x y m P) m 8)) rfl (fun j hj => ?_) ?_ (by omega))]
  · simp only [b_X2_knowAtLast_4]
    rw [if_pos (by decide)]
  · simp only [b_X2_knowAtLast_4]
    rw [if_neg (show ¬ (8 : Int32) ≤ nI j from nI_ge (b := 8) hj (by omega)), inner _ _ (it_lt hR hm j), bd1_s, nm_s, nI_1]
    rfl
theorem m_know {I : MI} {P m o : Nat} {x y : Nat → Nat} (L : ML) (hP : P ≤ 12) (ho : o + 2 * P ≤ 96) (hx : ∀ j, j < P → L 247 (o + 2 * j) = lN (x j) ∧ x j < 8) (hy : ∀ j, j < P → L 247 (o + 2 * j + 1) = lN (y j) ∧ y j < 8) (hm : m < 256) : f_X11_knowBy (nI o) (nI P) (nI m) I L = some (nI (itN (fun m => rdN x y m P) m P)) := by
  have hR : ∀ m, m < 256 → rdN x y m P < 256 := fun m h => rd_lt (fun j hj => (hy j hj).2) h P (Nat.le_refl P)
  have inner : ∀ (v5 : Int32) (m : Nat), m < 256 → lp (fun s => b_X11_knowBy_15 (nI o) (nI P) v5 I L s.1 s.2) FU (nI m, (0 : Int32)) = some (nI (rdN x y m P)) := fun v5 m hm => by
    refine lp_forF (fun j => (nI (rdN x y m j), nI j)) P rfl (fun j hj => ?_) ?_ (by omega)
    · simp only [b_X11_knowBy_15]
      have l := rd_lt (x := x) (y := y) (P := P) (fun j hj => (hy j hj).2) hm j (by omega)
      rw [if_neg (nI_ge hj (by omega)), two_n, nI_add, nI_1, gi_n (by omega) (by omega), gi_n (by omega) (by omega), cl_n (by omega), cl_n (by omega), (hx j hj).1, (hy j hj).1, lN_i, lN_i, m_has _ (hx j hj).2, bd1_s]
      have eb : bitE (nI (rdN x y m j)) (x j) = (rdN x y m j).testBit (x j) := by
        unfold bitE
        by_cases c : (rdN x y m j).testBit (x j) = true
        · rw [c, decide_eq_true ⟨(hx j hj).2, (bit_has' _ l _ (hx j hj).2).mpr c⟩]
        · rw [decide_eq_false (fun q => c ((bit_has' _ l _ (hx j hj).2).mp q.2))]
          exact (Bool.eq_false_iff.mpr c).symm
      rw [eb]
      show _ = some (Sum.inl (nI (if (rdN x y m j).testBit (x j) then rdN x y m j ||| 2 ^ y j else rdN x y m j), nI (j + 1)))
      by_cases c : (rdN x y m j).testBit (x j) = true
      · rw [c, if_neg (by decide), bd1_s, nm_s, nm_s, nI_1, (bit_or' _ l _ (hy j hj).2).1]; rfl
      · rw [Bool.eq_false_iff.mpr c, if_pos (by decide), bd1_s, nm_s, nm_s, nI_1, Int32.or_zero]; rfl
    · simp only [b_X11_knowBy_15]
      rw [if_pos (nI_le (Nat.le_refl _) (by omega))]
  unfold f_X11_knowBy
  rw [bd1_of (lp_forF (s0 := (nI m, (0 : Int32))) (fun j => (nI (itN (fun m => rdN x y m P) m j), nI j)) P (x := nI (itN (fun m => rdN x y m P) m P)) rfl (fun j hj => ?_) ?_ (by omega))]
  · simp only [b_X11_knowBy_6]
    rw [if_pos (nI_le (Nat.le_refl _) (by omega))]
  · simp only [b_X11_knowBy_6]
    rw [if_neg (nI_ge hj (by omega)), inner _ _ (it_lt hR hm j), bd1_s, nm_s, nI_1]
    rfl
theorem lN_of {x : Int64} {b : Nat} (h1 : 0 ≤ x) (h2 : x ≤ (nI b).toInt64) (hb : b < 1000) : ∃ k : Nat, k ≤ b ∧ x = lN k := by
  obtain ⟨k, hk, rfl⟩ := pk_lOf (x := x) (by rw [fa_lt64]; rw [fa_le64] at h1; omega)
  refine ⟨k, ?_, rfl⟩
  rw [nI_l (by omega)] at h2
  exact (pk_lLE hk (by omega)).mp h2
theorem Kp.of {I T : MI} (h : ∀ i, i < 207 ∨ 244 ≤ i → T i = I i) : Kp I T := ⟨fun i hi => h i (by omega), by rw [h _ (by omega)], by rw [h _ (by omega)], fun j _ => by rw [h _ (by omega)], h _ (by omega), h _ (by omega), h _ (by omega), h _ (by omega)⟩
theorem ok_goesOn (a1 : Int32) (a2 : Int32) (a3 : Int32) (a4 : Int32) (a5 : Int32) {I : MI} {L : ML} (h : Inv I L) : ∃ (r : Int32) (I1 : MI), f_X10_goesOn a1 a2 a3 a4 a5 I L = some (r, I1) ∧ f_X11_goesOn a1 a2 a3 a4 a5 I1 L = some r ∧ Inv I1 L := by
  unfold f_X10_goesOn f_X11_goesOn
  rw [s_within, bd1_s, if_b, s_within, bd1_s, if_b, show (0 : Int64) = (0 : Int32).toInt64 from rfl, show (12 : Int64) = (12 : Int32).toInt64 from rfl, show (255 : Int64) = (255 : Int32).toInt64 from rfl]
  simp only [s_in32, bd1_s, if_b]
  by_cases c1 : (0 : Int32) ≤ a4 ∧ a4 ≤ 12
  · by_cases c2 : (0 : Int32) ≤ a5 ∧ a5 ≤ 255
    · simp only [if_pos c1, if_pos c2]
      obtain ⟨P, hP, rfl⟩ := (in_n (b := 12) (by omega)).mp c1
      obtain ⟨m, hm, rfl⟩ := (in_n (b := 255) (by omega)).mp c2
      rcases pairs_cases h.2.2.2.2.1 a1 a2 a3 hP 7 with ⟨r, x1, x2, x3⟩ | ⟨s, i, z, hs, hz, hi, rfl, rfl, q1, q2, q3, x1, x2, x3, x4⟩
      · rw [x1, bd1_s, if_neg x2]
        refine ⟨r, I, rfl, ?_, h⟩
        rcases x3 with ⟨rfl, x4⟩ | ⟨x4, x5, x6⟩ | ⟨rfl, x5, x6, x7⟩
        · rw [x4, bd1_s, if_pos rfl]
        · rw [x5, bd1_s, if_neg (by decide), x6, bd1_s, if_neg x4]
        · rw [x5, bd1_s, if_neg (by decide), x6, bd1_s, if_pos (by decide), nm_s, x7, bd1_s, if_pos rfl, bd1_s]
      · have hv : ∀ t, t < 2 * P → ∃ k : Nat, k ≤ 7 ∧ L 247 (24 * s + i + t) = lN k := fun t ht => lN_of (b := 7) (q3 t ht).1 (q3 t ht).2 (by omega)
        have hv2 : ∀ t, t < 2 * P → L 247 (24 * s + i + t) = lN ((L 247 (24 * s + i + t)).toInt32.toNatClampNeg) ∧ (L 247 (24 * s + i + t)).toInt32.toNatClampNeg < 8 := fun t ht => by
          obtain ⟨k, k1, k2⟩ := hv t ht
          rw [k2, lN_i, cl_n (by omega)]
          exact ⟨rfl, by omega⟩
        generalize hvv : (fun t => (L 247 (24 * s + i + t)).toInt32.toNatClampNeg) = v
        have hv3 : ∀ t, t < 2 * P → L 247 (24 * s + i + t) = lN (v t) ∧ v t < 8 := fun t ht => by rw [← hvv]; exact hv2 t ht
        have hc : ∀ t, t < 2 * P → L (199 + 2 * s + 1) (i + t) = lN (v t) := fun t ht => by
          rw [← (hv3 t ht).1, show 199 + 2 * s + 1 = 200 + 2 * s by omega, q2 _ (by omega)]
          exact congrArg (L 247) (by omega)
        rw [x1, bd1_s, if_pos rfl, gi_n (by omega) (by omega), cl_n (by omega), s_hear hz q1 (by omega) hi hP hc, bd1_s, s_know (x := fun j => v (2 * j)) (y := fun j => v (2 * j + 1)) L hP hr_x.1 (fun j hj => ⟨(hr_x.2 j hj).1, (hv3 _ (by omega)).2⟩) (fun j hj => ⟨(hr_x.2 j hj).2, (hv3 _ (by omega)).2⟩) (by omega), bd1_s]
        have kT : Kp I (hrF I v P) := Kp.of (fun i hi => hr_o (by omega))
        have bT : InvB (hrF I v P) := h.2.2.2.1.cg (fun i hi => by rw [hr_o ⟨fun q => by rw [q] at hi; exact absurd hi (by decide), fun q => by rw [q] at hi; exact absurd hi (by decide), fun q => by rw [q] at hi; exact absurd hi (by decide)⟩])
        refine ⟨_, _, rfl, ?_, h.keep kT bT (fun _ _ => rfl) rfl⟩
        have aw : f_X11_areWithin (((24 : Int32) * nI s) + nI i) ((2 : Int32) * nI P) 7 (hrF I v P) L = some 1 := by
          rw [← x4, e24, two_n, m_areWithin _ L (by omega), m_areWithin _ L (by omega)]
        rw [x2, bd1_s, if_neg (by decide), against_congr (I := I) (L := L) _ _ _ _ kT.2.2.2.2.2.1 kT.2.2.2.2.2.2.1, x3, bd1_s, if_pos (by decide), nm_s, aw, bd1_s, if_neg (by decide), e24, m_know (x := fun j => v (2 * j)) (y := fun j => v (2 * j + 1)) L hP (by omega) (fun j hj => hv3 _ (by omega)) (fun j hj => by
          have := hv3 (2 * j + 1) (by omega)
          exact this) (by omega), bd1_s, bd1_s]
        rw [rd_same (fun j hj => (hv3 (2 * j + 1) (by omega)).2) (by omega)]
    · simp only [if_pos c1, if_neg c2]
      refine ⟨-1, I, rfl, ?_, h⟩
      rw [m_isLane, bd1_s, if_b, ite_self]
  · simp only [if_neg c1]
    refine ⟨-1, I, rfl, ?_, h⟩
    rw [m_isLane, bd1_s, if_b, ite_self]
