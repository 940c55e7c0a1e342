/-! ===== pairs ===== -/
def awN (V : Nat → Int64) (b : Int64) : Nat → Bool
  | 0 => true
  | t + 1 => awN V b t && decide (0 ≤ V t ∧ V t ≤ b)
theorem aw_f {V : Nat → Int64} {b : Int64} {t : Nat} (h : awN V b t = false) : ∀ j, awN V b (t + j) = false
  | 0 => h
  | j + 1 => by
    show (awN V b (t + j) && _) = false
    rw [aw_f h j]; rfl
theorem aw_t {V : Nat → Int64} {b : Int64} : ∀ {N : Nat}, awN V b N = true → ∀ t, t < N → 0 ≤ V t ∧ V t ≤ b
  | 0, _, t, ht => absurd ht (by omega)
  | N + 1, h, t, ht => by
    have h' : (awN V b N && decide (0 ≤ V N ∧ V N ≤ b)) = true := h
    rw [Bool.and_eq_true] at h'
    by_cases e : t = N
    · rw [e]; exact of_decide_eq_true h'.2
    · exact aw_t h'.1 t (by omega)
theorem aw_congr {V V' : Nat → Int64} {b : Int64} : ∀ {N : Nat}, (∀ t, t < N → V t = V' t) → awN V b N = awN V' b N
  | 0, _ => rfl
  | N + 1, h => by
    show (awN V b N && decide (0 ≤ V N ∧ V N ≤ b)) = (awN V' b N && decide (0 ≤ V' N ∧ V' N ≤ b))
    rw [aw_congr (fun t ht => h t (by omega)), h N (by omega)]
theorem s_areWithin {I : MI} {s i W z : Nat} (b : Int32) (L : ML) (hz : z ≤ 24) (h1 : I s 1 = nI z) (hi : i + W ≤ z) : f_X5_areWithin s (nI i) (nI W) b I L = some (if awN (fun t => L (s + 1) (i + t)) b.toInt64 W then 1 else 0) := by
  unfold f_X5_areWithin
  rw [s_holds _ _ L hz h1, bd1_s, if_b, if_pos (by rw [nI_bd (by omega), nI_bd (by omega)]; omega)]
  obtain ⟨x, hx, hx2⟩ := lp_inv2 (f := fun s' => b_X5_areWithin_14 s (nI i) (nI W) b I L s') (fun t s' => s' = nI (i + t) ∧ awN (fun t => L (s + 1) (i + t)) b.toInt64 t = true) (fun x => (x = Sum.inl () ∧ awN (fun t => L (s + 1) (i + t)) b.toInt64 W = true) ∨ (x = Sum.inr () ∧ awN (fun t => L (s + 1) (i + t)) b.toInt64 W = false)) W
    (fun t s' ht hP => by
      obtain ⟨rfl, hk⟩ := hP
      simp only [b_X5_areWithin_14]
      have hd : awN (fun t => L (s + 1) (i + t)) b.toInt64 (t + 1) = (awN (fun t => L (s + 1) (i + t)) b.toInt64 t && decide (0 ≤ L (s + 1) (i + t) ∧ L (s + 1) (i + t) ≤ b.toInt64)) := rfl
      rw [hk] at hd
      have bad : ¬ (0 ≤ L (s + 1) (i + t) ∧ L (s + 1) (i + t) ≤ b.toInt64) → awN (fun t => L (s + 1) (i + t)) b.toInt64 W = false := fun q => by
        rw [decide_eq_false q] at hd
        have := aw_f (t := t + 1) hd (W - (t + 1))
        rw [show t + 1 + (W - (t + 1)) = W by omega] at this
        exact this
      rw [nI_add, if_neg (nI_ge (by omega) (by omega)), gi_n (by omega) (by omega), gi_n (by omega) (by omega), cl_n (by omega), nm_s]
      by_cases c1 : L (s + 1) (i + t) < 0
      · rw [if_pos (lg_lt.mpr c1)]
        exact Or.inr ⟨_, rfl, Or.inr ⟨rfl, bad (fun q => by
          have := q.1
          rw [fa_le64] at this
          rw [fa_lt64] at c1
          omega)⟩⟩
      · rw [if_neg (fun q => c1 (lg_lt.mp q))]
        by_cases c2 : L (s + 1) (i + t) ≤ b.toInt64
        · rw [if_pos (lg_le.mpr c2), show nI (i + t) + 1 = nI (i + (t + 1)) from nI_1 (i + t)]
          refine Or.inl ⟨_, rfl, rfl, ?_⟩
          rw [hd, decide_eq_true ⟨by rw [fa_lt64] at c1; rw [fa_le64]; omega, c2⟩]; rfl
        · rw [if_neg (fun q => c2 (lg_le.mp q))]
          exact Or.inr ⟨_, rfl, Or.inr ⟨rfl, bad (fun q => c2 q.2)⟩⟩)
    (fun s' hP => by
      obtain ⟨rfl, hk⟩ := hP
      simp only [b_X5_areWithin_14]
      rw [nI_add, if_pos (nI_le (Nat.le_refl _) (by omega))]
      exact ⟨_, rfl, Or.inl ⟨rfl, hk⟩⟩)
    FU (show W < 2000 by omega) (nI i) ⟨rfl, rfl⟩
  rw [hx, bd1_s]
  rcases hx2 with ⟨rfl, q⟩ | ⟨rfl, q⟩
  · rw [q]; rfl
  · rw [q]; rfl
theorem m_areWithin {I : MI} {o W : Nat} (b : Int32) (L : ML) (ho : o + W ≤ 96) : f_X11_areWithin (nI o) (nI W) b I L = some (if awN (fun t => L 247 (o + t)) b.toInt64 W then 1 else 0) := by
  unfold f_X11_areWithin
  rw [bd1_of (lp_forF (s0 := ((1 : Int32), (0 : Int32))) (fun t => ((if awN (fun t => L 247 (o + t)) b.toInt64 t then (1 : Int32) else 0), nI t)) W (x := (if awN (fun t => L 247 (o + t)) b.toInt64 W then (1 : Int32) else 0)) rfl (fun t ht => ?_) ?_ (by omega))]
  · cases awN (fun t => L 247 (o + t)) b.toInt64 W
    · rfl
    · rfl
  · simp only [b_X11_areWithin_6]
    rw [if_pos (nI_le (Nat.le_refl _) (by omega))]
  · simp only [b_X11_areWithin_6]
    have hd : awN (fun t => L 247 (o + t)) b.toInt64 (t + 1) = (awN (fun t => L 247 (o + t)) b.toInt64 t && decide (0 ≤ L 247 (o + t) ∧ L 247 (o + t) ≤ b.toInt64)) := rfl
    rw [if_neg (nI_ge ht (by omega)), nI_add, gi_n (by omega) (by omega), cl_n (by omega), s_in, bd1_s, if_b, hd]
    cases awN (fun t => L 247 (o + t)) b.toInt64 t
    · rw [if_pos (by decide), bd1_s, nm_s, nI_1]; rfl
    · rw [if_neg (by decide)]
      by_cases c : 0 ≤ L 247 (o + t) ∧ L 247 (o + t) ≤ b.toInt64
      · rw [if_pos c, bd1_s, nm_s, nI_1, decide_eq_true c]; rfl
      · rw [if_neg c, bd1_s, nm_s, nI_1, decide_eq_false c]; rfl
/-- pairs that are asked for: refused alike, or there -/
theorem pairs_cases {I : MI} {L : ML} (hS : InvS I L) (a1 a2 a3 : Int32) {P : Nat} (hP : P ≤ 12) (b : Int32) :
    (∃ r : Int32, f_X10_refusesPairs a1 a2 a3 (nI P) b I L = some r ∧ r ≠ 0 ∧ ((r = -1 ∧ f_X11_isLane a1 a2 = some 0) ∨ (¬ 0 ≤ r ∧ f_X11_isLane a1 a2 = some 1 ∧ f_X11_against a1 a2 a3 ((2 : Int32) * nI P) I L = some r) ∨ (r = -2 ∧ f_X11_isLane a1 a2 = some 1 ∧ f_X11_against a1 a2 a3 ((2 : Int32) * nI P) I L = some 0 ∧ f_X11_areWithin (((24 : Int32) * a1) + a3) ((2 : Int32) * nI P) b I L = some 0))) ∨
    (∃ s i z : Nat, s < 4 ∧ z ≤ 24 ∧ i + 2 * P ≤ z ∧ a1 = nI s ∧ a3 = nI i ∧ I (199 + 2 * s) 1 = nI z ∧ (∀ j, j < 24 → L (200 + 2 * s) j = L 247 (24 * s + j)) ∧ (∀ t, t < 2 * P → 0 ≤ L 247 (24 * s + i + t) ∧ L 247 (24 * s + i + t) ≤ b.toInt64) ∧ f_X10_refusesPairs a1 a2 a3 (nI P) b I L = some 0 ∧ f_X11_isLane a1 a2 = some 1 ∧ f_X11_against a1 a2 a3 ((2 : Int32) * nI P) I L = some 0 ∧ f_X11_areWithin (((24 : Int32) * a1) + a3) ((2 : Int32) * nI P) b I L = some 1) := by
  unfold f_X10_refusesPairs
  have e2 : (2 : Int32) * nI P = nI (2 * P) := pk_mul 2 P
  rw [e2]
  rcases row_cases hS a1 a2 a3 (nI (2 * P)) with ⟨r, x1, x2, x3⟩ | ⟨s, a, z, i, m, hs, ha, hz, him, rfl, rfl, rfl, em, q1, q2, q3, q4, q5, x1, x2, x3⟩
  · rw [x1, bd1_s, if_neg x2]
    rcases x3 with x3 | x3
    · exact Or.inl ⟨r, rfl, x2, Or.inl x3⟩
    · exact Or.inl ⟨r, rfl, x2, Or.inr (Or.inl x3)⟩
  · have hm : m = 2 * P := ((nI_eq (by omega) (by omega)).mp em).symm
    subst hm
    have ec : awN (fun t => L (199 + 2 * s + 1) (i + t)) b.toInt64 (2 * P) = awN (fun t => L 247 (24 * s + i + t)) b.toInt64 (2 * P) := aw_congr (fun t ht => by
      have := q5 (i + t) (by omega)
      rw [show 199 + 2 * s + 1 = 200 + 2 * s by omega, this, show 24 * s + (i + t) = 24 * s + i + t by omega])
    rw [x1, bd1_s, if_pos rfl, gi_n (by omega) (by omega), cl_n (by omega), s_areWithin b L hz q3 him, bd1_s, e24, m_areWithin b L (by omega), ec]
    cases e : awN (fun t => L 247 (24 * s + i + t)) b.toInt64 (2 * P)
    · exact Or.inl ⟨-2, rfl, by decide, Or.inr (Or.inr ⟨rfl, x2, x3, rfl⟩)⟩
    · exact Or.inr ⟨s, i, z, hs, hz, him, rfl, rfl, q3, q5, aw_t e, rfl, x2, x3, rfl⟩
/-! masks -/
def st (x y m : Nat) : Nat := if m.testBit x then m ||| 2 ^ y else m
def rdN (x y : Nat → Nat) (m : Nat) : Nat → Nat
  | 0 => m
  | j + 1 => st (x j) (y j) (rdN x y m j)
def itN (R : Nat → Nat) (m : Nat) : Nat → Nat
  | 0 => m
  | n + 1 => R (itN R m n)
theorem bit_has' : ∀ m, m < 256 → ∀ x, x < 8 → (((nI m >>> (nI x &&& (31 : Int32))) &&& (1 : Int32)) = 1 ↔ m.testBit x = true) := by decide +kernel
theorem bit_or' : ∀ m, m < 256 → ∀ y, y < 8 → (nI m ||| ((1 : Int32) <<< (nI y &&& (31 : Int32))) = nI (m ||| 2 ^ y) ∧ m ||| 2 ^ y < 256) := by decide +kernel
theorem bit_full' : ∀ y, y < 8 → 255 ||| 2 ^ y = 255 := by decide
theorem pop_or' : ∀ m, m < 256 → ∀ y, y < 8 → (m ||| 2 ^ y = m ∨ pop m < pop (m ||| 2 ^ y)) := by decide +kernel
theorem pop_8' : ∀ m, m < 256 → 8 ≤ pop m → m = 255 := by decide +kernel
theorem st_lt {x y m : Nat} (hm : m < 256) (hy : y < 8) : st x y m < 256 := by
  unfold st
  by_cases c : m.testBit x = true
  · rw [if_pos c]; exact (bit_or' m hm y hy).2
  · rw [if_neg c]; exact hm
theorem rd_lt {x y : Nat → Nat} {P m : Nat} (hy : ∀ j, j < P → y j < 8) (hm : m < 256) : ∀ j, j ≤ P → rdN x y m j < 256
  | 0, _ => hm
  | j + 1, h => st_lt (rd_lt hy hm j (by omega)) (hy j (by omega))
theorem it_lt {R : Nat → Nat} {m : Nat} (hR : ∀ m, m < 256 → R m < 256) (hm : m < 256) : ∀ n, itN R m n < 256
  | 0 => hm
  | n + 1 => hR _ (it_lt hR hm n)
/-- a measure that grows until nothing changes -/
theorem it_fix {R μ : Nat → Nat} {B m : Nat} (hR : ∀ m, m < 256 → R m < 256) (hm : m < 256) (h1 : ∀ m, m < 256 → R m = m ∨ μ m < μ (R m)) (h2 : ∀ m, m < 256 → B ≤ μ m → R m = m) : R (itN R m B) = itN R m B := by
  have key : ∀ n, R (itN R m n) = itN R m n ∨ n ≤ μ (itN R m n) := by
    intro n
    induction n with
    | zero => exact Or.inr (Nat.zero_le _)
    | succ n ih =>
      rcases ih with a | a
      · refine Or.inl ?_
        show R (R (itN R m n)) = R (itN R m n)
        rw [a, a]
      · rcases h1 _ (it_lt hR hm n) with b | b
        · refine Or.inl ?_
          show R (R (itN R m n)) = R (itN R m n)
          rw [b, b]
        · refine Or.inr ?_
          show n + 1 ≤ μ (R (itN R m n))
          omega
  rcases key B with a | a
  · exact a
  · exact h2 _ (it_lt hR hm B) a
theorem it_add {R : Nat → Nat} {m n : Nat} (h : R (itN R m n) = itN R m n) : ∀ k, itN R m (n + k) = itN R m n
  | 0 => rfl
  | k + 1 => by
    show R (itN R m (n + k)) = itN R m n
    rw [it_add h k, h]
theorem it_same {R : Nat → Nat} {m a b : Nat} (ha : R (itN R m a) = itN R m a) (hb : R (itN R m b) = itN R m b) : itN R m a = itN R m b := by
  rcases Nat.le_total a b with h | h
  · have := it_add ha (b - a)
    rw [show a + (b - a) = b by omega] at this
    exact this.symm
  · have := it_add hb (a - b)
    rw [show b + (a - b) = a by omega] at this
    exact this
theorem pop_st {x y m : Nat} (hm : m < 256) (hy : y < 8) : st x y m = m ∨ pop m < pop (st x y m) := by
  unfold st
  by_cases c : m.testBit x = true
  · rw [if_pos c]; exact pop_or' m hm y hy
  · rw [if_neg c]; exact Or.inl rfl
theorem pop_rd {x y : Nat → Nat} {P m : Nat} (hy : ∀ j, j < P → y j < 8) (hm : m < 256) : ∀ j, j ≤ P → rdN x y m j = m ∨ pop m < pop (rdN x y m j)
  | 0, _ => Or.inl rfl
  | j + 1, h => by
    have i := pop_rd (x := x) hy hm j (by omega)
    have l := rd_lt (x := x) hy hm j (by omega)
    show st (x j) (y j) (rdN x y m j) = m ∨ pop m < pop (st (x j) (y j) (rdN x y m j))
    rcases pop_st (x := x j) l (hy j (by omega)) with a | a
    · rw [a]; exact i
    · rcases i with b | b
      · rw [b] at a ⊢; exact Or.inr a
      · exact Or.inr (by omega)
theorem st_le (x y m b : Nat) (h : m.testBit b = true) : (st x y m).testBit b = true := by
  unfold st
  by_cases c : m.testBit x = true
  · rw [if_pos c, Nat.testBit_or, h]; rfl
  · rw [if_neg c]; exact h
theorem rd_le (x y : Nat → Nat) (m b : Nat) (h : m.testBit b = true) : ∀ j, (rdN x y m j).testBit b = true
  | 0 => h
  | j + 1 => st_le _ _ _ _ (rd_le x y m b h j)
def dnN (y : Nat → Nat) (m : Nat) : Nat → Nat
  | 0 => 0
  | j + 1 => dnN y m j + (if m.testBit (y j) then 1 else 0)
theorem dn_mono {y : Nat → Nat} {m m' : Nat} (h : ∀ b, m.testBit b = true → m'.testBit b = true) : ∀ P, dnN y m P ≤ dnN y m' P
  | 0 => Nat.le_refl 0
  | P + 1 => by
    have := dn_mono (y := y) h P
    show dnN y m P + (if m.testBit (y P) then 1 else 0) ≤ dnN y m' P + (if m'.testBit (y P) then 1 else 0)
    by_cases c : m.testBit (y P) = true
    · rw [if_pos c, if_pos (h _ c)]; omega
    · rw [if_neg c]; omega
theorem dn_lt {y : Nat → Nat} {m m' k : Nat} (h : ∀ b, m.testBit b = true → m'.testBit b = true) (h1 : ¬ m.testBit (y k) = true) (h2 : m'.testBit (y k) = true) : ∀ P, k < P → dnN y m P < dnN y m' P
  | 0, q => absurd q (by omega)
  | P + 1, q => by
    show dnN y m P + (if m.testBit (y P) then 1 else 0) < dnN y m' P + (if m'.testBit (y P) then 1 else 0)
    by_cases e : k = P
    · subst e
      have := dn_mono (y := y) h k
      rw [if_neg h1, if_pos h2]; omega
    · have := dn_lt h h1 h2 P (by omega)
      by_cases c : m.testBit (y P) = true
      · rw [if_pos c, if_pos (h _ c)]; omega
      · rw [if_neg c]; omega
theorem dn_le' (y : Nat → Nat) (m : Nat) : ∀ P, dnN y m P ≤ P
  | 0 => Nat.le_refl 0
  | P + 1 => by
    have := dn_le' y m P
    show dnN y m P + (if m.testBit (y P) then 1 else 0) ≤ P + 1
    by_cases c : m.testBit (y P) = true
    · rw [if_pos c]; omega
    · rw [if_neg c]; omega
theorem dn_all {y : Nat → Nat} {m : Nat} : ∀ P, P ≤ dnN y m P → ∀ j, j < P → m.testBit (y j) = true
  | 0, _, j, q => absurd q (by omega)
  | P + 1, h, j, q => by
    have h' : P + 1 ≤ dnN y m P + (if m.testBit (y P) then 1 else 0) := h
    have l := dn_le' y m P
    by_cases c : m.testBit (y P) = true
    · rw [if_pos c] at h'
      by_cases e : j = P
      · rw [e]; exact c
      · exact dn_all P (by omega) j (by omega)
    · rw [if_neg c] at h'
      omega
theorem or_same {m y : Nat} (h : m.testBit y = true) : m ||| 2 ^ y = m := by
  refine Nat.eq_of_testBit_eq (fun i => ?_)
  rw [fb_bit_set]
  by_cases c : i = y
  · rw [c, h]; simp
  · rw [decide_eq_false c]; simp
theorem rd_grow {x y : Nat → Nat} {m : Nat} : ∀ P, rdN x y m P = m ∨ ∃ k, k < P ∧ ¬ m.testBit (y k) = true ∧ (rdN x y m P).testBit (y k) = true
  | 0 => Or.inl rfl
  | P + 1 => by
    show st (x P) (y P) (rdN x y m P) = m ∨ ∃ k, k < P + 1 ∧ ¬ m.testBit (y k) = true ∧ (st (x P) (y P) (rdN x y m P)).testBit (y k) = true
    rcases rd_grow (x := x) (y := y) (m := m) P with a | ⟨k, k1, k2, k3⟩
    · rw [a]
      by_cases c : m.testBit (y P) = true
      · refine Or.inl ?_
        unfold st
        by_cases d : m.testBit (x P) = true
        · rw [if_pos d, or_same c]
        · rw [if_neg d]
      · unfold st
        by_cases d : m.testBit (x P) = true
        · rw [if_pos d]
          exact Or.inr ⟨P, by omega, c, by rw [fb_bit_set]; simp⟩
        · rw [if_neg d]; exact Or.inl rfl
    · exact Or.inr ⟨k, by omega, k2, st_le _ _ _ _ k3⟩
theorem rd_full {x y : Nat → Nat} {m : Nat} : ∀ P, (∀ j, j < P → m.testBit (y j) = true) → rdN x y m P = m
  | 0, _ => rfl
  | P + 1, h => by
    show st (x P) (y P) (rdN x y m P) = m
    rw [rd_full P (fun j hj => h j (by omega))]
    unfold st
    by_cases d : m.testBit (x P) = true
    · rw [if_pos d, or_same (h P (by omega))]
    · rw [if_neg d]
/-- eight rounds, or as many as there are pairs: the same -/
theorem rd_same {x y : Nat → Nat} {P m : Nat} (hy : ∀ j, j < P → y j < 8) (hm : m < 256) : itN (fun m => rdN x y m P) m 8 = itN (fun m => rdN x y m P) m P := by
  have hR : ∀ m, m < 256 → rdN x y m P < 256 := fun m h => rd_lt hy h P (Nat.le_refl P)
  refine it_same (it_fix (μ := pop) hR hm (fun m h => pop_rd hy h P (Nat.le_refl P)) (fun m h q => ?_)) (it_fix (μ := fun m => dnN y m P) hR hm (fun m h => ?_) (fun m h q => rd_full P (dn_all P q)))
  · rw [pop_8' m h q]
    rcases rd_grow (x := x) (y := y) (m := 255) P with a | ⟨k, k1, k2, k3⟩
    · exact a
    · have t : ∀ y, y < 8 → (255 : Nat).testBit y = true := by decide
      exact absurd (t _ (hy k k1)) k2
  · rcases rd_grow (x := x) (y := y) (m := m) P with a | ⟨k, k1, k2, k3⟩
    · exact Or.inl a
    · exact Or.inr (dn_lt (fun b hb => rd_le x y m b hb P) k2 k3 P k1)
