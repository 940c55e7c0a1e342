def clN (x y : Nat → Nat) (P m : Nat) : Nat := itN (fun m => rdN x y m P) m 8
theorem cl_lt {x y : Nat → Nat} {P m : Nat} (hy : ∀ j, j < P → y j < 8) (hm : m < 256) : clN x y P m < 256 := it_lt (fun m h => rd_lt hy h P (Nat.le_refl P)) hm 8
def knF (I : MI) (x y : Nat → Nat) (P k : Nat) : MI := fun a j => if a = 243 ∧ j < k then nI (clN x y P (2 ^ j)) else I a j
theorem shl_8 : ∀ z, z < 8 → (1 : Int32) <<< (nI z &&& (31 : Int32)) = nI (2 ^ z) ∧ 2 ^ z < 256 := by decide +kernel
theorem kn_o {I : MI} {x y : Nat → Nat} {P k i : Nat} (h : i ≠ 243) : knF I x y P k i = I i := by
  refine funext fun j => ?_
  unfold knF
  rw [if_neg (fun q => h q.1)]
theorem s_knownFrom {I : MI} {x y : Nat → Nat} {P m : Nat} (L : ML) (h43 : ∀ j, j < 8 → I 243 j = nI (clN x y P (2 ^ j))) (hm : m < 256) : f_X2_knownFrom (nI m) I L = some (nI (clN x y P m)) := by
  unfold f_X2_knownFrom
  rw [bd1_of (lp_forF (s0 := ((0 : Int32), (0 : Int32))) (fun z => (nI (clN x y P (preN m z)), nI z)) 8 (x := nI (clN x y P (preN m 8))) ?_ (fun z hz => ?_) ?_ (by omega)), pre_8' m hm]
  · show _ = (nI (clN x y P 0), nI 0)
    unfold clN
    rw [it_0]
    rfl
  · simp only [b_X2_knownFrom_4]
    rw [if_pos (by decide)]
  · simp only [b_X2_knownFrom_4]
    rw [if_neg (show ¬ (8 : Int32) ≤ nI z from nI_ge (b := 8) hz (by omega)), gi_n (by omega) (by omega), cl_n (by omega), h43 z hz, fa_or, nm_s]
    show _ = some (Sum.inl (nI (clN x y P (if m.testBit z then preN m z ||| 2 ^ z else preN m z)), nI (z + 1)))
    by_cases c : m.testBit z = true
    · rw [if_pos ((bit_has' m hm z hz).mpr c), bd1_s, nm_s, nI_1, if_pos c]
      unfold clN
      rw [it_or]
    · rw [if_neg (fun q => c ((bit_has' m hm z hz).mp q)), bd1_s, nm_s, nI_1, if_neg c]
/-- the best of the masks from lo to hi -/
def Opt (full : Nat → Bool) (lo hi b : Nat) : Prop := (b = 255 ∨ (lo ≤ b ∧ b < hi ∧ full b = true)) ∧ ∀ m, lo ≤ m → m < hi → full m = true → pop b < pop m ∨ (pop b = pop m ∧ b ≤ m)
theorem Opt.eq {full : Nat → Bool} {lo b b' : Nat} (h : Opt full lo 255 b) (h' : Opt full lo 255 b') : b = b' := by
  have p255 : pop 255 = 8 := by decide
  rcases h.1 with rfl | ⟨x1, x2, x3⟩
  · rcases h'.1 with rfl | ⟨y1, y2, y3⟩
    · rfl
    · have := h.2 b' y1 y2 y3
      have := pop_le b'
      omega
  · rcases h'.1 with rfl | ⟨y1, y2, y3⟩
    · have := h'.2 b x1 x2 x3
      have := pop_le b
      omega
    · have := h.2 b' y1 y2 y3
      have := h'.2 b x1 x2 x3
      omega
def bA (full : Nat → Bool) : Nat → Nat
  | 0 => 255
  | j + 1 => if pop j < pop (bA full j) then (if full j then j else bA full j) else bA full j
def bB (full : Nat → Bool) : Nat → Nat
  | 0 => 255
  | k + 1 => if full (254 - k) then (if pop (bB full k) < pop (254 - k) then bB full k else 254 - k) else bB full k
theorem bA_opt (full : Nat → Bool) : ∀ j, j ≤ 255 → Opt full 0 j (bA full j)
  | 0, _ => ⟨Or.inl rfl, fun m _ q => absurd q (by omega)⟩
  | j + 1, hj => by
    obtain ⟨a, b⟩ := bA_opt full j (by omega)
    show Opt full 0 (j + 1) (if pop j < pop (bA full j) then (if full j then j else bA full j) else bA full j)
    generalize bA full j = c at a b
    have keep : (full j = true → pop c ≤ pop j) → Opt full 0 (j + 1) c := fun q => by
      refine ⟨a.elim Or.inl (fun w => Or.inr ⟨w.1, by omega, w.2.2⟩), fun m h1 h2 h3 => ?_⟩
      by_cases e : m = j
      · rw [e] at h3 ⊢
        have := q h3
        rcases a with rfl | ⟨w1, w2, w3⟩
        · have p255 : pop 255 = 8 := by decide
          have := pop_8' j (by omega) (by omega)
          omega
        · omega
      · exact b m h1 (by omega) h3
    by_cases c1 : pop j < pop c
    · rw [if_pos c1]
      cases e : full j
      · rw [if_neg (by decide)]
        exact keep (fun q => by rw [e] at q; exact absurd q (by decide))
      · rw [if_pos rfl]
        refine ⟨Or.inr ⟨by omega, by omega, e⟩, fun m h1 h2 h3 => ?_⟩
        by_cases em : m = j
        · rw [em]; exact Or.inr ⟨rfl, Nat.le_refl _⟩
        · have := b m h1 (by omega) h3
          omega
    · rw [if_neg c1]
      exact keep (fun _ => by omega)
theorem bB_opt (full : Nat → Bool) : ∀ k, k ≤ 254 → Opt full (255 - k) 255 (bB full k)
  | 0, _ => ⟨Or.inl rfl, fun m q1 q2 => absurd q1 (by omega)⟩
  | k + 1, hk => by
    obtain ⟨a, b⟩ := bB_opt full k (by omega)
    show Opt full (255 - (k + 1)) 255 (if full (254 - k) then (if pop (bB full k) < pop (254 - k) then bB full k else 254 - k) else bB full k)
    rw [show 255 - (k + 1) = 254 - k by omega]
    have e1 : 255 - k = 254 - k + 1 := by omega
    rw [e1] at a b
    have hlt : 254 - k < 255 := by omega
    generalize bB full k = c at a b
    generalize 254 - k = j at a b hlt
    have keep : (full j = true → pop c < pop j) → Opt full j 255 c := fun q => by
      refine ⟨a.elim Or.inl (fun w => Or.inr ⟨by omega, w.2.1, w.2.2⟩), fun m h1 h2 h3 => ?_⟩
      by_cases e : m = j
      · rw [e] at h3 ⊢
        exact Or.inl (q h3)
      · exact b m (by omega) h2 h3
    cases e : full j
    · rw [if_neg (by decide)]
      exact keep (fun q => by rw [e] at q; exact absurd q (by decide))
    · rw [if_pos rfl]
      by_cases c1 : pop c < pop j
      · rw [if_pos c1]
        exact keep (fun _ => c1)
      · rw [if_neg c1]
        refine ⟨Or.inr ⟨Nat.le_refl _, hlt, e⟩, fun m h1 h2 h3 => ?_⟩
        by_cases em : m = j
        · rw [em]; exact Or.inr ⟨rfl, Nat.le_refl _⟩
        · have := b m (by omega) h2 h3
          omega
theorem bAB {full : Nat → Bool} (h0 : full 0 = false) : bA full 255 = bB full 254 := by
  have h1 := bA_opt full 255 (Nat.le_refl _)
  have h2 : Opt full 1 255 (bB full 254) := bB_opt full 254 (Nat.le_refl _)
  have h3 : Opt full 0 255 (bB full 254) := by
    refine ⟨h2.1.elim Or.inl (fun w => Or.inr ⟨by omega, w.2.1, w.2.2⟩), fun m q1 q2 q3 => h2.2 m ?_ q2 q3⟩
    rcases Nat.eq_zero_or_pos m with e | e
    · rw [e, h0] at q3
      exact absurd q3 (by decide)
    · omega
  exact h1.eq h3
theorem bA_lt (full : Nat → Bool) (j : Nat) (h : j ≤ 255) : bA full j < 256 := by
  rcases (bA_opt full j h).1 with e | ⟨_, e, _⟩ <;> omega
theorem bB_lt (full : Nat → Bool) (k : Nat) (h : k ≤ 254) : bB full k < 256 := by
  rcases (bB_opt full k h).1 with e | ⟨_, e, _⟩ <;> omega
theorem s_fewest {I : MI} {x y : Nat → Nat} {P : Nat} (L : ML) (hP : P ≤ 12) (h3 : I 240 3 = nI P) (hx : ∀ j, j < P → I 241 j = nI (x j) ∧ x j < 8) (hy : ∀ j, j < P → I 242 j = nI (y j) ∧ y j < 8) : f_X2_fewestToTell I L = some (nI (bA (fun m => decide (clN x y P m = 255)) 255), knF I x y P 8) := by
  have hl1 : lp (fun s => b_X2_fewestToTell_2 L s.1 s.2) FU ((0 : Int32), I) = some (knF I x y P 8) := by
    refine lp_forF (fun k => (nI k, knF I x y P k)) 8 ?_ (fun k hk => ?_) ?_ (by omega)
    · refine Prod.ext rfl (funext fun a => funext fun j => ?_)
      show I a j = knF I x y P 0 a j
      unfold knF
      rw [if_neg (by omega)]
    · simp only [b_X2_fewestToTell_2]
      rw [if_neg (show ¬ (8 : Int32) ≤ nI k from nI_ge (b := 8) hk (by omega)), (shl_8 k hk).1, s_know (P := P) (x := x) (y := y) L hP (by rw [kn_o (by omega)]; exact h3) (fun j hj => by rw [kn_o (by omega)]; exact hx j hj) (fun j hj => by rw [kn_o (by omega)]; exact hy j hj) (shl_8 k hk).2, bd1_s, gi_n (by omega) (by omega), cl_n (by omega), nm_s, nm_s, nI_1]
      refine congrArg (fun w => some (Sum.inl (nI (k + 1), w))) (funext fun a => funext fun j => ?_)
      rw [up2_at]
      unfold knF
      by_cases c : a = 243 ∧ j = k
      · rw [if_pos c, if_pos (by omega), c.2]; rfl
      · rw [if_neg c]
        by_cases c2 : a = 243 ∧ j < k
        · rw [if_pos c2, if_pos (by omega)]
        · rw [if_neg c2, if_neg (by omega)]
    · simp only [b_X2_fewestToTell_2]
      rw [if_pos (by decide)]
  have h43 : ∀ j, j < 8 → knF I x y P 8 243 j = nI (clN x y P (2 ^ j)) := fun j hj => by
    unfold knF
    rw [if_pos ⟨rfl, hj⟩]
  have hl2 : lp (fun s => b_X2_fewestToTell_33 (knF I x y P 8) L s.1 s.2) FU ((255 : Int32), (0 : Int32)) = some (nI (bA (fun m => decide (clN x y P m = 255)) 255)) := by
    refine lp_forF (fun j => (nI (bA (fun m => decide (clN x y P m = 255)) j), nI j)) 255 rfl (fun j hj => ?_) ?_ (by omega)
    · simp only [b_X2_fewestToTell_33]
      have hb := bA_lt (fun m => decide (clN x y P m = 255)) j (by omega)
      have p1 := pop_le j
      have p2 := pop_le (bA (fun m => decide (clN x y P m = 255)) j)
      have hc := cl_lt (x := x) (P := P) (m := j) (fun j hj => (hy j hj).2) (by omega)
      rw [if_neg (show ¬ (255 : Int32) ≤ nI j from nI_ge (b := 255) hj (by omega)), s_bitCount (by omega), bd1_s, s_bitCount hb, bd1_s, s_knownFrom L h43 (by omega), bd1_s, some_if, bd1_s]
      show _ = some (Sum.inl (nI (if pop j < pop (bA (fun m => decide (clN x y P m = 255)) j) then (if decide (clN x y P j = 255) then j else bA (fun m => decide (clN x y P m = 255)) j) else bA (fun m => decide (clN x y P m = 255)) j), nI (j + 1)))
      by_cases c1 : pop j < pop (bA (fun m => decide (clN x y P m = 255)) j)
      · rw [if_neg (nI_ge c1 (by omega)), if_neg (by decide), if_pos c1]
        by_cases c2 : clN x y P j = 255
        · rw [if_pos (by rw [c2]; rfl), bd1_s, nm_s, nI_1, decide_eq_true c2]; rfl
        · rw [if_neg (show ¬ nI (clN x y P j) = 255 from fun q => c2 ((nI_eq (b := 255) (by omega) (by omega)).mp q)), bd1_s, nm_s, nI_1, decide_eq_false c2]; rfl
      · rw [if_pos (nI_le (by omega) (by omega)), if_pos rfl, bd1_s, nm_s, nI_1, if_neg c1]
    · simp only [b_X2_fewestToTell_33]
      rw [if_pos (by decide)]
  unfold f_X2_fewestToTell
  rw [hl1, bd1_s, hl2, bd1_s]
theorem m_told {I : MI} {P o : Nat} {x y : Nat → Nat} (v5 : Int32) (L : ML) (hP : P ≤ 12) (ho : o + 2 * P ≤ 96) (hx : ∀ j, j < P → L 247 (o + 2 * j) = lN (x j) ∧ x j < 8) (hy : ∀ j, j < P → L 247 (o + 2 * j + 1) = lN (y j) ∧ y j < 8) : lp (fun s => b_X11_told_91 (nI P) v5 (nI o) I L s.1 s.2) FU ((255 : Int32), (254 : Int32)) = some (nI (bB (fun m => decide (clN x y P m = 255)) 254)) := by
  refine lp_forF (fun k => (nI (bB (fun m => decide (clN x y P m = 255)) k), nI (254 - k))) 254 rfl (fun k hk => ?_) ?_ (by omega)
  · simp only [b_X11_told_91]
    have hb := bB_lt (fun m => decide (clN x y P m = 255)) k (by omega)
    have p1 := pop_le (254 - k)
    have p2 := pop_le (bB (fun m => decide (clN x y P m = 255)) k)
    have hc := cl_lt (x := x) (P := P) (m := 254 - k) (fun j hj => (hy j hj).2) (by omega)
    have em : nI (254 - k) + (-1 : Int32) = nI (254 - (k + 1)) := by
      rw [show 254 - k = (254 - (k + 1)) + 1 by omega]
      exact pk_m1 _
    rw [if_neg (show ¬ nI (254 - k) ≤ 0 from nI_ge (a := 0) (by omega) (by omega)), m_know L hP ho hx hy (show 254 - k < 256 by omega), ← rd_same (fun j hj => (hy j hj).2) (show 254 - k < 256 by omega), bd1_s, m_ones (by omega), bd1_s, m_ones hb, bd1_s]
    show _ = some (Sum.inl (nI (if decide (clN x y P (254 - k) = 255) then (if pop (bB (fun m => decide (clN x y P m = 255)) k) < pop (254 - k) then bB (fun m => decide (clN x y P m = 255)) k else 254 - k) else bB (fun m => decide (clN x y P m = 255)) k), nI (254 - (k + 1))))
    have ecl : itN (fun m => rdN x y m P) (254 - k) 8 = clN x y P (254 - k) := rfl
    rw [ecl]
    by_cases c2 : clN x y P (254 - k) = 255
    · rw [if_pos (by rw [c2]; rfl), decide_eq_true c2]
      by_cases c1 : pop (bB (fun m => decide (clN x y P m = 255)) k) < pop (254 - k)
      · rw [if_pos (nI_lt c1 (by omega)), bd1_s, nm_s, em, if_pos rfl, if_pos c1]
      · rw [if_neg (fun q => c1 ((nI_ltI (by omega) (by omega)).mp q)), bd1_s, nm_s, em, if_pos rfl, if_neg c1]
    · rw [if_neg (show ¬ nI (clN x y P (254 - k)) = 255 from fun q => c2 ((nI_eq (b := 255) (by omega) (by omega)).mp q)), bd1_s, nm_s, em, decide_eq_false c2]; rfl
  · simp only [b_X11_told_91]
    rw [if_pos (by decide)]
theorem ok_told (a1 : Int32) (a2 : Int32) (a3 : Int32) (a4 : Int32) (a5 : Int32) {I : MI} {L : ML} (h : Inv I L) : ∃ (r : Int32) (I1 : MI), f_X10_told a1 a2 a3 a4 a5 I L = some (r, I1) ∧ f_X11_told a1 a2 a3 a4 a5 I1 L = some r ∧ Inv I1 L := by
  unfold f_X10_told f_X11_told
  rw [s_within, bd1_s, if_b, s_within, bd1_s, if_b, show (0 : Int64) = (0 : Int32).toInt64 from rfl, show (12 : Int64) = (12 : Int32).toInt64 from rfl, show (1 : Int64) = (1 : Int32).toInt64 from rfl]
  simp only [s_in32, bd1_s, if_b]
  by_cases c1 : (0 : Int32) ≤ a4 ∧ a4 ≤ 12
  · by_cases c2 : (0 : Int32) ≤ a5 ∧ a5 ≤ 1
    · simp only [if_pos c1, if_pos c2]
      obtain ⟨P, hP, rfl⟩ := (in_n (b := 12) (by omega)).mp c1
      rcases pairs_cases h.2.2.2.2.1 a1 a2 a3 hP 7 with ⟨r, x1, x2, x3⟩ | ⟨s, i, z, hs, hz, hi, rfl, rfl, q1, q2, q3, x1, x2, x3, x4⟩
      · rw [x1, bd1_s, if_neg x2]
        refine ⟨r, I, rfl, ?_, h⟩
        rcases x3 with ⟨rfl, x4⟩ | ⟨x4, x5, x6⟩ | ⟨rfl, x5, x6, x7⟩
        · rw [x4, bd1_s, if_pos rfl]
        · rw [x5, bd1_s, if_neg (by decide), x6, bd1_s, if_neg x4]
        · rw [x5, bd1_s, if_neg (by decide), x6, bd1_s, if_pos (by decide), nm_s, x7, bd1_s, if_pos rfl]
      · have hv : ∀ t, t < 2 * P → ∃ k : Nat, k ≤ 7 ∧ L 247 (24 * s + i + t) = lN k := fun t ht => lN_of (b := 7) (q3 t ht).1 (q3 t ht).2 (by omega)
        have hv2 : ∀ t, t < 2 * P → L 247 (24 * s + i + t) = lN ((L 247 (24 * s + i + t)).toInt32.toNatClampNeg) ∧ (L 247 (24 * s + i + t)).toInt32.toNatClampNeg < 8 := fun t ht => by
          obtain ⟨k, k1, k2⟩ := hv t ht
          rw [k2, lN_i, cl_n (by omega)]
          exact ⟨rfl, by omega⟩
        generalize hvv : (fun t => (L 247 (24 * s + i + t)).toInt32.toNatClampNeg) = v
        have hv3 : ∀ t, t < 2 * P → L 247 (24 * s + i + t) = lN (v t) ∧ v t < 8 := fun t ht => by rw [← hvv]; exact hv2 t ht
        have hc : ∀ t, t < 2 * P → L (199 + 2 * s + 1) (i + t) = lN (v t) := fun t ht => by
          rw [← (hv3 t ht).1, show 199 + 2 * s + 1 = 200 + 2 * s by omega, q2 _ (by omega)]
          exact congrArg (L 247) (by omega)
        have h0 : decide (clN (fun j => v (2 * j)) (fun j => v (2 * j + 1)) P 0 = 255) = false := by
          refine decide_eq_false (fun q => ?_)
          unfold clN at q
          rw [it_0] at q
          exact absurd q (by decide)
        rw [x1, bd1_s, if_pos rfl, gi_n (by omega) (by omega), cl_n (by omega), s_hear hz q1 (by omega) hi hP hc, bd1_s, s_fewest (x := fun j => v (2 * j)) (y := fun j => v (2 * j + 1)) L hP hr_x.1 (fun j hj => ⟨(hr_x.2 j hj).1, (hv3 _ (by omega)).2⟩) (fun j hj => ⟨(hr_x.2 j hj).2, (hv3 _ (by omega)).2⟩), bd2_s]
        have hb := bA_lt (fun m => decide (clN (fun j => v (2 * j)) (fun j => v (2 * j + 1)) P m = 255)) 255 (by omega)
        rw [s_bitCount hb, bd1_s, some_if, bd1_s]
        generalize hT : knF (hrF I v P) (fun j => v (2 * j)) (fun j => v (2 * j + 1)) P 8 = T
        have kT : Kp I T := Kp.of (fun i hi => by rw [← hT, kn_o (by omega), hr_o (by omega)])
        have bT : InvB T := h.2.2.2.1.cg (fun i hi => by rw [← hT, kn_o (fun q => by rw [q] at hi; exact absurd hi (by decide)), hr_o ⟨fun q => by rw [q] at hi; exact absurd hi (by decide), fun q => by rw [q] at hi; exact absurd hi (by decide), fun q => by rw [q] at hi; exact absurd hi (by decide)⟩])
        refine ⟨_, T, rfl, ?_, h.keep kT bT (fun _ _ => rfl) rfl⟩
        have aw : f_X11_areWithin (((24 : Int32) * nI s) + nI i) ((2 : Int32) * nI P) 7 T L = some 1 := by
          rw [← x4, e24, two_n, m_areWithin _ L (by omega), m_areWithin _ L (by omega)]
        rw [x2, bd1_s, if_neg (by decide), against_congr (I := I) (L := L) _ _ _ _ kT.2.2.2.2.2.1 kT.2.2.2.2.2.2.1, x3, bd1_s, if_pos (by decide), nm_s, aw, bd1_s, if_neg (by decide), e24, m_told (x := fun j => v (2 * j)) (y := fun j => v (2 * j + 1)) a5 L hP (by omega) (fun j hj => hv3 _ (by omega)) (fun j hj => hv3 (2 * j + 1) (by omega)), bd1_s, ← bAB h0, m_ones hb, bd1_s, some_if, bd1_s]
    · simp only [if_pos c1, if_neg c2]
      refine ⟨-1, I, rfl, ?_, h⟩
      rw [m_isLane, bd1_s, if_b, ite_self]
  · simp only [if_neg c1]
    refine ⟨-1, I, rfl, ?_, h⟩
    rw [m_isLane, bd1_s, if_b, ite_self]
