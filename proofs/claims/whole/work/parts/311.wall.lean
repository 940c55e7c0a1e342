/-! ===== wall: the class's reader ===== -/
def sp2 (B : Nat → Int32) (x : Nat ⊕ Nat) : Nat ⊕ Nat := nuE B 10 99 44 (soE B x)
def sp3 (B : Nat → Int32) (x : Nat ⊕ Nat) : Nat ⊕ Nat := nuE B 0 9 44 (sp2 B x)
def sp4 (B : Nat → Int32) (x : Nat ⊕ Nat) : Nat ⊕ Nat := nuE B 0 9 44 (sp3 B x)
def sp5 (B : Nat → Int32) (x : Nat ⊕ Nat) : Nat ⊕ Nat := nuE B 0 9 59 (sp4 B x)
def siR (B : Nat → Int32) (x : Nat ⊕ Nat) (cr : Int32) : Nat → Int32 := fun f => if f = 0 then soB B x else if f = 1 then nuB B 10 99 (soE B x) else if f = 2 then nuB B 0 9 (sp2 B x) else if f = 3 then nuB B 0 9 (sp3 B x) else if f = 4 then nuB B 0 9 (sp4 B x) else if f = 6 then cr else if f = 10 then -4 else 0
theorem nuE_ok {B : Nat → Int32} {lo hi e : Int32} {x : Nat ⊕ Nat} {j : Nat} (h : nuE B lo hi e x = .inr j) : (∃ i, x = .inr i) ∧ lo ≤ nuB B lo hi x ∧ nuB B lo hi x ≤ hi := by
  obtain ⟨i, hi⟩ := ex_ok h
  exact nu_ok hi
theorem kdP_rg (b : Int32) : rg (kdP b) 0 5 := by
  unfold kdP
  exact rg_if ⟨by decide, by decide⟩ (rg_if ⟨by decide, by decide⟩ (rg_if ⟨by decide, by decide⟩ (rg_if ⟨by decide, by decide⟩ (rg_if ⟨by decide, by decide⟩ ⟨by decide, by decide⟩))))
theorem soE_ok {B : Nat → Int32} {x : Nat ⊕ Nat} {j : Nat} (h : soE B x = .inr j) : (∃ i, x = .inr i) ∧ rg (soB B x) 1 5 := by
  cases x with
  | inl f => exact absurd h (by intro z; cases z)
  | inr i =>
    refine ⟨⟨i, rfl⟩, ?_⟩
    have h' : (if kdP (B i) = 0 then (.inl i : Nat ⊕ Nat) else .inr (i + 1)) = .inr j := h
    show rg (kdP (B i)) 1 5
    by_cases c : kdP (B i) = 0
    · rw [if_pos c] at h'
      exact absurd h' (by intro z; cases z)
    · have r := kdP_rg (B i)
      have z : (0 : Int32).toInt = 0 := rfl
      rw [fa_eq, z] at c
      have := r.1
      exact ⟨by omega, r.2⟩
theorem sp5_ok {B : Nat → Int32} {x : Nat ⊕ Nat} {j : Nat} (h : sp5 B x = .inr j) : (∃ i, x = .inr i) ∧ (∃ i, soE B x = .inr i) ∧ (∃ i, sp2 B x = .inr i) ∧ (∃ i, sp3 B x = .inr i) ∧ (∃ i, sp4 B x = .inr i) := by
  obtain ⟨⟨i4, h4⟩, _⟩ := nuE_ok h
  obtain ⟨⟨i3, h3⟩, _⟩ := nuE_ok h4
  obtain ⟨⟨i2, h2⟩, _⟩ := nuE_ok h3
  obtain ⟨⟨i1, h1⟩, _⟩ := nuE_ok h2
  exact ⟨(soE_ok h1).1, ⟨i1, h1⟩, ⟨i2, h2⟩, ⟨i3, h3⟩, ⟨i4, h4⟩⟩
theorem siR_ok {B : Nat → Int32} {x : Nat ⊕ Nat} {j : Nat} {cr : Int32} (h : sp5 B x = .inr j) (hc : rg cr 0 9) : okR (siR B x cr) := by
  obtain ⟨_, ⟨i1, h1⟩, ⟨i2, h2⟩, ⟨i3, h3⟩, ⟨i4, h4⟩⟩ := sp5_ok h
  have r0 := (soE_ok h1).2
  obtain ⟨_, a1, b1⟩ := nuE_ok h2
  obtain ⟨_, a2, b2⟩ := nuE_ok h3
  obtain ⟨_, a3, b3⟩ := nuE_ok h4
  obtain ⟨_, a4, b4⟩ := nuE_ok h
  rw [fa_le] at a1 b1 a2 b2 a3 b3 a4 b4
  exact ⟨r0, ⟨a1, b1⟩, ⟨a2, b2⟩, ⟨a3, b3⟩, ⟨a4, b4⟩, ⟨by show (0 : Int) ≤ (0 : Int32).toInt; decide, by show (0 : Int32).toInt ≤ 999; decide⟩, hc, ⟨by show (0 : Int) ≤ (0 : Int32).toInt; decide, by show (0 : Int32).toInt ≤ 2; decide⟩, ⟨by show (0 : Int) ≤ (0 : Int32).toInt; decide, by show (0 : Int32).toInt ≤ 9; decide⟩, ⟨by show (0 : Int) ≤ (0 : Int32).toInt; decide, by show (0 : Int32).toInt ≤ 1; decide⟩, Or.inl rfl⟩
theorem s_readSitter {T : MI} {t m : Nat} {x : Nat ⊕ Nat} (L : ML) (ht : t ≤ 90) (h1 : T 1 1 = nI t) (hx : PS t T x) (hm : m < 6) (hn : ∀ j, sp5 (byN (T 2) t) x = .inr j → T 11 1 = nI m) : ∃ T2, f_X7_readSitter 11 T L = some T2 ∧ T2 1 1 = nI t ∧ PS t T2 (sp5 (byN (T 2) t) x) ∧ ((∃ j, sp5 (byN (T 2) t) x = .inr j ∧ (∀ c, c ≠ 1 → c ≠ 11 → c ≠ 11 + 2 + m → T2 c = T c) ∧ T2 11 1 = nI (m + 1) ∧ (∀ s, s ≠ 1 → T2 11 s = T 11 s) ∧ ∀ f, f ≤ 10 → T2 (11 + 2 + m) f = siR (byN (T 2) t) x (T 11 3) f) ∨ (∃ f, sp5 (byN (T 2) t) x = .inl f ∧ TO T T2)) := by
  obtain ⟨k, T1, a1, a2, a3, a4⟩ := s_readSort L ht h1 hx
  obtain ⟨r1, T2, b1, b2, b3, b4⟩ := s_nuE (x := soE (byN (T 2) t) x) 10 99 44 L ht (by decide) (a2.2.trans h1) a3
  rw [a2.1 2 (by omega)] at b3 b4
  have t2 := a2.tr b2
  obtain ⟨r2, T3, c1, c2, c3, c4⟩ := s_nuE (x := sp2 (byN (T 2) t) x) 0 9 44 L ht (by decide) (t2.2.trans h1) b3
  rw [t2.1 2 (by omega)] at c3 c4
  have t3 := t2.tr c2
  obtain ⟨r3, T4, d1, d2, d3, d4⟩ := s_nuE (x := sp3 (byN (T 2) t) x) 0 9 44 L ht (by decide) (t3.2.trans h1) c3
  rw [t3.1 2 (by omega)] at d3 d4
  have t4 := t3.tr d2
  obtain ⟨r4, T5, e1, e2, e3, e4⟩ := s_nuE (x := sp4 (byN (T 2) t) x) 0 9 59 L ht (by decide) (t4.2.trans h1) d3
  rw [t4.1 2 (by omega)] at e3 e4
  have t5 := t4.tr e2
  have e3' : PS t T5 (sp5 (byN (T 2) t) x) := e3
  unfold f_X7_readSitter
  rw [a1, bd2_s, b1, c1, d1, e1]
  cases hs : sp5 (byN (T 2) t) x with
  | inl f =>
    rw [hs] at e3'
    rw [if_neg (show ¬ T5 1 3 = -1 by rw [e3'.2]; exact nI_m1 (by have := e3'.1; omega))]
    exact ⟨T5, rfl, t5.2.trans h1, e3', Or.inr ⟨f, rfl, t5⟩⟩
  | inr j =>
    rw [hs] at e3'
    obtain ⟨p1, p2, p3⟩ := e3'
    have n1 : T5 11 1 = nI m := by rw [t5.1 _ (by omega)]; exact hn j hs
    obtain ⟨_, ⟨i1, g1⟩, ⟨i2, g2⟩, ⟨i3, g3⟩, ⟨i4, g4⟩⟩ := sp5_ok hs
    rw [if_pos p3, n1, if_pos (show nI m < (6 : Int32) from nI_lt (b := 6) hm (by omega)), gi_n (by omega) (by omega), cl_n (by omega)]
    unfold f_X6_sitDown
    simp only [nm_s, bd1_s]
    have hne : ¬ (11 + 2 + m = 11) := by omega
    have hne1 : ¬ (11 + 2 + m = 1) := by omega
    have k3 : T5 11 3 = T 11 3 := by rw [t5.1 _ (by omega)]
    have n1' := n1
    refine ⟨_, rfl, ?_, ⟨p1, ?_, ?_⟩, Or.inl ⟨j, rfl, fun c c1 c2 c3 => ?_, ?_, fun s hs1 => ?_, fun f hf => ?_⟩⟩
    · simp only [up2_ne (show (1 : Nat) ≠ 11 by omega), up2_ne (show (1 : Nat) ≠ 11 + 2 + m by omega)]
      exact t5.2.trans h1
    · simp only [up2_ne (show (1 : Nat) ≠ 11 by omega), up2_ne (show (1 : Nat) ≠ 11 + 2 + m by omega)]
      exact p2
    · simp only [up2_ne (show (1 : Nat) ≠ 11 by omega), up2_ne (show (1 : Nat) ≠ 11 + 2 + m by omega)]
      exact p3
    · simp only [up2_ne c2, up2_ne c3]
      exact t5.1 c c1
    · rw [up2_s]
      simp only [up2_ne (show (11 : Nat) ≠ 11 + 2 + m by omega)]
      rw [n1, nI_1]
    · rw [up2_n hs1]
      simp only [up2_ne (show (11 : Nat) ≠ 11 + 2 + m by omega)]
      rw [t5.1 _ (by omega)]
    · rw [up2_ne hne]
      simp only [up2_ne (show (11 : Nat) ≠ 11 + 2 + m by omega)]
      have hf11 : f = 0 ∨ f = 1 ∨ f = 2 ∨ f = 3 ∨ f = 4 ∨ f = 5 ∨ f = 6 ∨ f = 7 ∨ f = 8 ∨ f = 9 ∨ f = 10 := by omega
      rcases hf11 with rfl | rfl | rfl | rfl | rfl | rfl | rfl | rfl | rfl | rfl | rfl
      · rw [up2_n (by omega), up2_n (by omega), up2_n (by omega), up2_n (by omega), up2_n (by omega), up2_n (by omega), up2_n (by omega), up2_n (by omega), up2_n (by omega), up2_n (by omega), up2_s]
        exact a4 i1 g1
      · rw [up2_n (by omega), up2_n (by omega), up2_n (by omega), up2_n (by omega), up2_n (by omega), up2_n (by omega), up2_n (by omega), up2_n (by omega), up2_n (by omega), up2_s]
        exact b4 i2 g2
      · rw [up2_n (by omega), up2_n (by omega), up2_n (by omega), up2_n (by omega), up2_n (by omega), up2_n (by omega), up2_n (by omega), up2_n (by omega), up2_s]
        exact c4 i3 g3
      · rw [up2_n (by omega), up2_n (by omega), up2_n (by omega), up2_n (by omega), up2_n (by omega), up2_n (by omega), up2_n (by omega), up2_s]
        exact d4 i4 g4
      · rw [up2_n (by omega), up2_n (by omega), up2_n (by omega), up2_n (by omega), up2_n (by omega), up2_n (by omega), up2_s]
        exact e4 j hs
      · rw [up2_n (by omega), up2_n (by omega), up2_n (by omega), up2_n (by omega), up2_n (by omega), up2_s]
        rfl
      · rw [up2_n (by omega), up2_n (by omega), up2_n (by omega), up2_n (by omega), up2_s]
        exact k3
      · rw [up2_n (by omega), up2_n (by omega), up2_n (by omega), up2_s]
        rfl
      · rw [up2_n (by omega), up2_n (by omega), up2_s]
        rfl
      · rw [up2_n (by omega), up2_s]
        rfl
      · rw [up2_s]
        rfl
def hd1 (B : Nat → Int32) : Nat ⊕ Nat := exS B 119 (.inr 0)
def hd2 (B : Nat → Int32) : Nat ⊕ Nat := nuE B 1 24 44 (hd1 B)
def zN (B : Nat → Int32) : Nat → Nat ⊕ Nat
  | 0 => nuE B 0 9 59 (hd2 B)
  | m + 1 => sp5 B (zN B m)
def duN (B : Nat → Int32) : Int32 := nuB B 1 24 (hd1 B)
def crN (B : Nat → Int32) : Int32 := nuB B 0 9 (hd2 B)
def GQ (B : Nat → Int32) (t m : Nat) : Prop := ∀ q, 1 ≤ q → q < m → ∃ j, zN B q = .inr j ∧ j < t
theorem GQ.s {B : Nat → Int32} {t m j : Nat} (h : GQ B t m) (e : zN B m = .inr j) (hj : j < t) : GQ B t (m + 1) := fun q q1 q2 => by
  by_cases c : q = m
  · exact ⟨j, by rw [c]; exact e, hj⟩
  · exact h q q1 (by omega)
def CS (I : MI) (t : Nat) (T : MI) : Prop := T 1 1 = nI t ∧ InvB T ∧ ∀ c, c ≠ 1 → (c < 11 ∨ 19 ≤ c) → T c = I c
def CK (B : Nat → Int32) (t : Nat) (T : MI) (m j : Nat) : Prop := T 1 2 = nI j ∧ T 1 3 = -1 ∧ j ≤ t ∧ T 11 1 = nI m ∧ T 11 2 = duN B ∧ T 11 3 = crN B ∧ T 11 4 = 0 ∧ T 11 5 = 0 ∧ ∀ q, q < m → ∀ f, f ≤ 10 → T (11 + 2 + q) f = siR B (zN B q) (crN B) f
def CG (B : Nat → Int32) (t : Nat) (T : MI) (k : Nat) : Prop := (∃ j, zN B k = .inr j ∧ GQ B t k ∧ CK B t T k j) ∨ (∃ m f, m ≤ k ∧ zN B m = .inl f ∧ GQ B t m ∧ f ≤ t ∧ T 1 3 = nI f)
theorem TO.CS {I T T2 : MI} {t : Nat} (h : TO T T2) (k : CS I t T) : CS I t T2 := ⟨h.2.trans k.1, k.2.1.cg (fun i hi => by rw [h.1 i (fun q => by rw [q] at hi; exact absurd hi (by decide))]), fun c c1 c2 => (h.1 c c1).trans (k.2.2 c c1 c2)⟩
theorem kd_11 : ∀ m, m < 6 → kd (11 + 2 + m) = 6 := by decide
theorem s_sitStep {I T : MI} {t m : Nat} (L : ML) (ht : t ≤ 90) (hS : CS I t T) (hm : m < 6) (hG : CG (byN (I 2) t) t T m) (hj : ∀ j, zN (byN (I 2) t) m = .inr j → 1 ≤ m → j < t) : ∃ T2, f_X7_readSitter 11 T L = some T2 ∧ CS I t T2 ∧ CG (byN (I 2) t) t T2 (m + 1) := by
  have e2 : T 2 = I 2 := hS.2.2 2 (by omega) (by omega)
  rcases hG with ⟨j, z1, z2, k1, k2, k3, k4, k5, k6, k7, k8, k9⟩ | ⟨m', f, z0, z1, z2, z3, z4⟩
  · obtain ⟨T2, a1, a2, a3, a4⟩ := s_readSitter (x := zN (byN (I 2) t) m) L ht hS.1 (by rw [z1]; exact ⟨k3, k1, k2⟩) hm (fun _ _ => k4)
    rw [e2] at a3 a4
    have gq : GQ (byN (I 2) t) t (m + 1) := by
      by_cases c : m = 0
      · subst c
        exact fun q q1 q2 => absurd q1 (by omega)
      · exact z2.s z1 (hj j z1 (by omega))
    rcases a4 with ⟨j', b1, b2, b3, b4, b5⟩ | ⟨f, b1, b2⟩
    · refine ⟨T2, a1, ⟨a2, fun i hi => ?_, fun c c1 c2 => by rw [b2 c c1 (by omega) (by omega)]; exact hS.2.2 c c1 c2⟩, Or.inl ⟨j', b1, gq, ?_⟩⟩
      · by_cases c : i = 11 + 2 + m
        · rw [c, b5 9 (by omega)]
          exact Or.inl rfl
        · rw [b2 i (fun q => by rw [q] at hi; exact absurd hi (by decide)) (fun q => by rw [q] at hi; exact absurd hi (by decide)) c]
          exact hS.2.1 i hi
      · rw [b1] at a3
        obtain ⟨p1, p2, p3⟩ := a3
        refine ⟨p2, p3, p1, b3, by rw [b4 2 (by omega)]; exact k5, by rw [b4 3 (by omega)]; exact k6, by rw [b4 4 (by omega)]; exact k7, by rw [b4 5 (by omega)]; exact k8, fun q hq f hf => ?_⟩
        by_cases c : q = m
        · subst c
          rw [b5 f hf, k6]
        · rw [b2 _ (by omega) (by omega) (by omega)]
          exact k9 q (by omega) f hf
    · rw [b1] at a3
      exact ⟨T2, a1, b2.CS hS, Or.inr ⟨m + 1, f, Nat.le_refl _, b1, gq, a3.1, a3.2⟩⟩
  · obtain ⟨T2, a1, a2, a3, a4⟩ := s_readSitter (T := T) (x := .inl f) (m := m) L ht hS.1 ⟨z3, z4⟩ hm (fun j q => absurd q (by intro z; cases z))
    rcases a4 with ⟨j', b1, _⟩ | ⟨f', b1, b2⟩
    · exact absurd b1 (by intro z; cases z)
    · exact ⟨T2, a1, b2.CS hS, Or.inr ⟨m', f, by omega, z1, z2, z3, a3.2⟩⟩
def OutK (B : Nat → Int32) (t m : Nat) : Prop := 1 ≤ m ∧ m ≤ 6 ∧ (∃ j, zN B m = .inr j ∧ t ≤ j ∧ j ≤ t) ∧ GQ B t m
def OutF (B : Nat → Int32) (t f : Nat) : Prop := f ≤ t ∧ ((∃ m, m ≤ 6 ∧ zN B m = .inl f ∧ GQ B t m) ∨ (zN B 6 = .inr f ∧ f < t ∧ GQ B t 6))
theorem s_readInto {I : MI} {t : Nat} (L : ML) (ht : t ≤ 90) (h1 : I 1 1 = nI t) (hB : InvB I) : ∃ r T, f_X7_readInto 11 I L = some (r, T) ∧ CS I t T ∧ ((r = -1 ∧ ∃ m j, OutK (byN (I 2) t) t m ∧ CK (byN (I 2) t) t T m j) ∨ (∃ f, OutF (byN (I 2) t) t f ∧ r = nI f)) := by
  unfold f_X7_readInto
  rw [nm_s, nm_s]
  have i0 : TO I (up2 (up2 I 1 2 (0 : Int32)) 1 3 (-1 : Int32)) := (TO.up I (by omega)).tr (TO.up _ (by omega))
  have q0 : PS t (up2 (up2 I 1 2 (0 : Int32)) 1 3 (-1 : Int32)) (.inr 0) := ⟨by omega, by rw [up2_n (by omega), up2_s]; rfl, up2_s⟩
  generalize up2 (up2 I 1 2 (0 : Int32)) 1 3 (-1 : Int32) = T0 at i0 q0
  obtain ⟨T1, a1, a2, a3⟩ := s_expect 119 L ht (by decide) (i0.2.trans h1) q0
  rw [i0.1 2 (by omega)] at a3
  have i1 := i0.tr a2
  obtain ⟨r1, T2, b1, b2, b3, b4⟩ := s_nuE (x := hd1 (byN (I 2) t)) 1 24 44 L ht (by decide) (i1.2.trans h1) a3
  rw [i1.1 2 (by omega)] at b3 b4
  have i2 := i1.tr b2
  obtain ⟨r2, T3, c1, c2, c3, c4⟩ := s_nuE (x := hd2 (byN (I 2) t)) 0 9 59 L ht (by decide) (i2.2.trans h1) b3
  rw [i2.1 2 (by omega)] at c3 c4
  have i3 := i2.tr c2
  have c3' : PS t T3 (zN (byN (I 2) t) 0) := c3
  rw [a1, bd1_s, b1, c1]
  unfold f_X9_begin
  simp only [nm_s, bd1_s]
  have w1 : CS I t (up2 (up2 (up2 (up2 (up2 T3 11 1 (0 : Int32)) 11 2 r1) 11 3 r2) 11 4 (0 : Int32)) 11 5 (0 : Int32)) := by
    refine ⟨?_, ?_, fun c d1 d2 => ?_⟩
    · rw [up2_ne (by omega), up2_ne (by omega), up2_ne (by omega), up2_ne (by omega), up2_ne (by omega)]
      exact i3.2.trans h1
    · have : InvB T3 := hB.cg (fun i hi => by rw [i3.1 i (fun q => by rw [q] at hi; exact absurd hi (by decide))])
      exact ((((this.up (Or.inr (Or.inl (by decide)))).up (Or.inr (Or.inl (by decide)))).up (Or.inr (Or.inl (by decide)))).up (Or.inr (Or.inl (by decide)))).up (Or.inr (Or.inl (by decide)))
    · rw [up2_ne (by omega), up2_ne (by omega), up2_ne (by omega), up2_ne (by omega), up2_ne (by omega)]
      exact i3.1 c d1
  have w2 : CG (byN (I 2) t) t (up2 (up2 (up2 (up2 (up2 T3 11 1 (0 : Int32)) 11 2 r1) 11 3 r2) 11 4 (0 : Int32)) 11 5 (0 : Int32)) 0 := by
    have cell1 : up2 (up2 (up2 (up2 (up2 T3 11 1 (0 : Int32)) 11 2 r1) 11 3 r2) 11 4 (0 : Int32)) 11 5 (0 : Int32) 1 = T3 1 := by
      rw [up2_ne (by omega), up2_ne (by omega), up2_ne (by omega), up2_ne (by omega), up2_ne (by omega)]
    cases hz : zN (byN (I 2) t) 0 with
    | inl f =>
      rw [hz] at c3'
      exact Or.inr ⟨0, f, Nat.le_refl _, hz, fun q q1 q2 => absurd q2 (by omega), c3'.1, by rw [cell1]; exact c3'.2⟩
    | inr j =>
      rw [hz] at c3'
      obtain ⟨p1, p2, p3⟩ := c3'
      obtain ⟨⟨i, hi⟩, _⟩ := nuE_ok hz
      refine Or.inl ⟨j, hz, fun q q1 q2 => absurd q2 (by omega), by rw [cell1]; exact p2, by rw [cell1]; exact p3, p1, ?_, ?_, ?_, ?_, up2_s, fun q hq => absurd hq (by omega)⟩
      · rw [up2_n (by omega), up2_n (by omega), up2_n (by omega), up2_n (by omega), up2_s]
        rfl
      · rw [up2_n (by omega), up2_n (by omega), up2_n (by omega), up2_s]
        exact b4 i hi
      · rw [up2_n (by omega), up2_n (by omega), up2_s]
        exact c4 j hz
      · rw [up2_n (by omega), up2_s]
  generalize up2 (up2 (up2 (up2 (up2 T3 11 1 (0 : Int32)) 11 2 r1) 11 3 r2) 11 4 (0 : Int32)) 11 5 (0 : Int32) = T4 at w1 w2
  obtain ⟨T5, x1, x2, x3⟩ := s_sitStep L ht w1 (show 0 < 6 by omega) w2 (fun j _ q => absurd q (by omega))
  rw [x1, bd1_s]
  obtain ⟨y, hy, y1, y2⟩ := lp_inv2 (f := fun s => b_X7_readInto_58 11 L s.1 s.2)
    (fun k s => ∃ T, s = (nI (k + 1), T) ∧ CS I t T ∧ CG (byN (I 2) t) t T (k + 1))
    (fun T => CS I t T ∧ ((∃ m j, 1 ≤ m ∧ m ≤ 6 ∧ zN (byN (I 2) t) m = .inr j ∧ GQ (byN (I 2) t) t m ∧ CK (byN (I 2) t) t T m j ∧ (t ≤ j ∨ m = 6)) ∨ (∃ m f, m ≤ 6 ∧ zN (byN (I 2) t) m = .inl f ∧ GQ (byN (I 2) t) t m ∧ f ≤ t ∧ T 1 3 = nI f))) 5
    (fun k s hk hP => by
      obtain ⟨T, rfl, hS, hG⟩ := hP
      simp only [b_X7_readInto_58]
      rw [if_neg (show ¬ (6 : Int32) ≤ nI (k + 1) from nI_ge (b := 6) (by omega) (by omega))]
      by_cases c : T 1 1 ≤ T 1 2
      · rw [if_pos c]
        refine Or.inr ⟨_, rfl, hS, ?_⟩
        rcases hG with ⟨j, g1, g2, g3⟩ | ⟨m, f, g1, g2, g3, g4, g5⟩
        · refine Or.inl ⟨k + 1, j, by omega, by omega, g1, g2, g3, Or.inl ?_⟩
          have k3 := g3.2.2.1
          rw [hS.1, g3.1, fa_le, nI_bd (by omega), nI_bd (by omega)] at c
          omega
        · exact Or.inr ⟨m, f, by omega, g2, g3, g4, g5⟩
      · rw [if_neg c]
        obtain ⟨T2, p1, p2, p3⟩ := s_sitStep L ht hS (show k + 1 < 6 by omega) hG (fun j hj _ => by
          rcases hG with ⟨j', g1, g2, g3⟩ | ⟨m, f, g1, g2, g3, g4, g5⟩
          · rw [hj] at g1
            cases g1
            have k3 := g3.2.2.1
            rw [hS.1, g3.1, fa_le, nI_bd (by omega), nI_bd (by omega)] at c
            omega
          · refine absurd hj ?_
            have : ∀ d, zN (byN (I 2) t) (m + d) = .inl f := fun d => by
              induction d with
              | zero => exact g2
              | succ d ih =>
                show sp5 _ (zN (byN (I 2) t) (m + d)) = _
                rw [ih]
                rfl
            have := this (k + 1 - m)
            rw [show m + (k + 1 - m) = k + 1 by omega] at this
            rw [this]
            intro z
            cases z)
        rw [p1, bd1_s, nm_s, nI_1]
        exact Or.inl ⟨_, rfl, T2, rfl, p2, p3⟩)
    (fun s hP => by
      obtain ⟨T, rfl, hS, hG⟩ := hP
      simp only [b_X7_readInto_58]
      rw [if_pos (show (6 : Int32) ≤ nI (5 + 1) by decide)]
      refine ⟨_, rfl, hS, ?_⟩
      rcases hG with ⟨j, g1, g2, g3⟩ | ⟨m, f, g1, g2, g3, g4, g5⟩
      · exact Or.inl ⟨6, j, by omega, by omega, g1, g2, g3, Or.inr rfl⟩
      · exact Or.inr ⟨m, f, by omega, g2, g3, g4, g5⟩)
    FU (show 5 < 2000 by omega) ((1 : Int32), T5) ⟨T5, rfl, x2, x3⟩
  rw [hy, bd1_s]
  rcases y2 with ⟨m, j, m1, m6, g1, g2, g3, g4⟩ | ⟨m, f, g1, g2, g3, g4, g5⟩
  · rw [if_pos g3.2.1, y1.1, g3.1]
    by_cases c : t ≤ j
    · rw [if_pos (nI_le c (by have := g3.2.2.1; omega)), bd1_s, g3.2.1]
      exact ⟨-1, y, rfl, y1, Or.inl ⟨rfl, m, j, ⟨m1, m6, ⟨j, g1, c, g3.2.2.1⟩, g2⟩, g3⟩⟩
    · have m6' : m = 6 := by omega
      subst m6'
      rw [if_neg (nI_ge (by omega) (by omega)), bd1_s, up2_s]
      exact ⟨_, _, rfl, (TO.up y (by omega)).CS y1, Or.inr ⟨j, ⟨g3.2.2.1, Or.inr ⟨g1, by omega, g2⟩⟩, rfl⟩⟩
  · rw [if_neg (show ¬ y 1 3 = -1 by rw [g5]; exact nI_m1 (by omega)), bd1_s]
    exact ⟨_, y, rfl, y1, Or.inr ⟨f, ⟨g4, Or.inl ⟨m, g1, g2, g3⟩⟩, g5⟩⟩
