/-! ===== wall: the words of the tape ===== -/
theorem lp_1 {S X : Type} {f : S → Option (S ⊕ X)} {s : S} {x : X} (h : f s = some (.inr x)) {F : Nat} (hF : 1 ≤ F) : lp f F s = some x := by
  obtain ⟨n, rfl⟩ : ∃ n, F = n + 1 := ⟨F - 1, by omega⟩
  rw [lp_s, h]
  rfl
theorem lp_2 {S X : Type} {f : S → Option (S ⊕ X)} {s s1 : S} {x : X} (h : f s = some (.inl s1)) (h1 : f s1 = some (.inr x)) {F : Nat} (hF : 2 ≤ F) : lp f F s = some x := by
  obtain ⟨n, rfl⟩ : ∃ n, F = n + 1 := ⟨F - 1, by omega⟩
  rw [lp_s, h]
  exact lp_1 h1 (by omega)
theorem lp_3 {S X : Type} {f : S → Option (S ⊕ X)} {s s1 s2 : S} {x : X} (h : f s = some (.inl s1)) (h1 : f s1 = some (.inl s2)) (h2 : f s2 = some (.inr x)) {F : Nat} (hF : 3 ≤ F) : lp f F s = some x := by
  obtain ⟨n, rfl⟩ : ∃ n, F = n + 1 := ⟨F - 1, by omega⟩
  rw [lp_s, h]
  exact lp_2 h1 h2 (by omega)
theorem FU_3 : 3 ≤ FU := by
  unfold FU
  omega
/-- the byte at i, -1 behind the tape's end -/
def byN (w : Nat → Int32) (t i : Nat) : Int32 := if i < t then w i else -1
abbrev fg (B : Nat → Int32) (i : Nat) : Prop := (48 : Int32) ≤ B i ∧ B i ≤ (57 : Int32)
def v1P (B : Nat → Int32) (i : Nat) : Int32 := (((10 : Int32) * 0) + B i) - (48 : Int32)
def v2P (B : Nat → Int32) (i : Nat) : Int32 := (((10 : Int32) * v1P B i) + B (i + 1)) - (48 : Int32)
def nuP (B : Nat → Int32) (lo hi : Int32) (i : Nat) : Option (Int32 × Nat) :=
  if fg B i then (if fg B (i + 1) then (if fg B (i + 2) then none else (if lo ≤ v2P B i ∧ v2P B i ≤ hi then some (v2P B i, i + 2) else none)) else (if lo ≤ v1P B i ∧ v1P B i ≤ hi then some (v1P B i, i + 1) else none)) else none
def kdP (b : Int32) : Int32 := if b = (112 : Int32) then (1 : Int32) else (if b = (104 : Int32) then (2 : Int32) else (if b = (109 : Int32) then (3 : Int32) else (if b = (121 : Int32) then (4 : Int32) else (if b = (115 : Int32) then (5 : Int32) else (0 : Int32)))))
def exS (B : Nat → Int32) (e : Int32) : Nat ⊕ Nat → Nat ⊕ Nat
  | .inl f => .inl f
  | .inr i => if B i = e then .inr (i + 1) else .inl i
def nuV (p : Option (Int32 × Nat)) : Int32 := match p with
  | none => 0
  | some p => p.1
def nuN (p : Option (Int32 × Nat)) (i : Nat) : Nat ⊕ Nat := match p with
  | none => .inl i
  | some p => .inr p.2
/-- a number behind x: where it ends; what it is -/
def nuA (B : Nat → Int32) (lo hi : Int32) : Nat ⊕ Nat → Nat ⊕ Nat
  | .inl f => .inl f
  | .inr i => nuN (nuP B lo hi i) i
def nuB (B : Nat → Int32) (lo hi : Int32) : Nat ⊕ Nat → Int32
  | .inl _ => 0
  | .inr i => nuV (nuP B lo hi i)
def nuE (B : Nat → Int32) (lo hi e : Int32) (x : Nat ⊕ Nat) : Nat ⊕ Nat := exS B e (nuA B lo hi x)
def soE (B : Nat → Int32) : Nat ⊕ Nat → Nat ⊕ Nat
  | .inl f => .inl f
  | .inr i => if kdP (B i) = 0 then .inl i else .inr (i + 1)
def soB (B : Nat → Int32) : Nat ⊕ Nat → Int32
  | .inl _ => 0
  | .inr i => kdP (B i)
theorem by_lt {w : Nat → Int32} {t i : Nat} {e : Int32} (h : byN w t i = e) (he : ¬ e = -1) : i < t := by
  unfold byN at h
  by_cases c : i < t
  · exact c
  · rw [if_neg c] at h
    exact absurd h.symm he
theorem fg_lt {w : Nat → Int32} {t i : Nat} (h : fg (byN w t) i) : i < t := by
  refine by_lt (e := byN w t i) rfl (fun q => ?_)
  rw [fg, q] at h
  exact absurd h.1 (by decide)
theorem nI_m1 {f : Nat} (h : f < 2 ^ 31) : ¬ nI f = -1 := fun q => by
  rw [fa_eq, nI_bd h] at q
  have z : (-1 : Int32).toInt = -1 := rfl
  omega
/-- where the class's tape stands -/
def PS (t : Nat) (T : MI) : Nat ⊕ Nat → Prop
  | .inl f => f ≤ t ∧ T 1 3 = nI f
  | .inr i => i ≤ t ∧ T 1 2 = nI i ∧ T 1 3 = -1
def TO (T T2 : MI) : Prop := (∀ c, c ≠ 1 → T2 c = T c) ∧ T2 1 1 = T 1 1
theorem TO.rf (T : MI) : TO T T := ⟨fun _ _ => rfl, rfl⟩
theorem TO.tr {T T2 T3 : MI} (h : TO T T2) (k : TO T2 T3) : TO T T3 := ⟨fun c hc => (k.1 c hc).trans (h.1 c hc), k.2.trans h.2⟩
theorem TO.up (T : MI) {j : Nat} {v : Int32} (h : j ≠ 1) : TO T (up2 T 1 j v) := ⟨fun c hc => up2_ne hc, up2_n (fun q => h q.symm)⟩
theorem s_here {T : MI} {t i : Nat} (L : ML) (ht : t ≤ 90) (hi : i ≤ t) (h1 : T 1 1 = nI t) (h2 : T 1 2 = nI i) : f_X7_here T L = some (byN (T 2) t i) := by
  unfold f_X7_here byN
  rw [h1, h2, if_neg (show ¬ nI i < 0 from fun q => by
    rw [fa_lt, nI_bd (by omega)] at q
    have z : (0 : Int32).toInt = 0 := rfl
    omega)]
  by_cases c : i < t
  · rw [if_neg (nI_ge c (by omega)), gi_n (by omega) (by omega), cl_n (by omega), bd1_s, if_pos c]
  · rw [if_pos (nI_le (by omega) (by omega)), bd1_s, if_neg c]
theorem s_isFig {T : MI} {t i : Nat} (L : ML) (ht : t ≤ 90) (hi : i ≤ t) (h1 : T 1 1 = nI t) (h2 : T 1 2 = nI i) : f_X7_isFigure T L = some (b01 (fg (byN (T 2) t) i)) := by
  unfold f_X7_isFigure
  rw [s_here L ht hi h1 h2, bd1_s, s_within, bd1_s, gd_b]
theorem s_expect {T : MI} {t : Nat} {x : Nat ⊕ Nat} (e : Int32) (L : ML) (ht : t ≤ 90) (he : ¬ e = -1) (h1 : T 1 1 = nI t) (hx : PS t T x) : ∃ T2, f_X7_expect e T L = some T2 ∧ TO T T2 ∧ PS t T2 (exS (byN (T 2) t) e x) := by
  unfold f_X7_expect
  cases x with
  | inl f =>
    obtain ⟨p1, p2⟩ := hx
    rw [if_neg (show ¬ T 1 3 = -1 by rw [p2]; exact nI_m1 (by omega))]
    exact ⟨T, rfl, TO.rf T, p1, p2⟩
  | inr i =>
    obtain ⟨p1, p2, p3⟩ := hx
    rw [if_pos p3, s_here L ht p1 h1 p2, bd1_s]
    show ∃ T2, _ ∧ TO T T2 ∧ PS t T2 (if byN (T 2) t i = e then .inr (i + 1) else .inl i)
    by_cases c : byN (T 2) t i = e
    · have := by_lt c he
      rw [if_pos c, nm_s, bd1_s, if_pos c, p2, nI_1]
      exact ⟨_, rfl, TO.up T (by omega), by omega, up2_s, by rw [up2_n (by omega)]; exact p3⟩
    · rw [if_neg c, nm_s, bd1_s, if_neg c, p2]
      exact ⟨_, rfl, TO.up T (by omega), p1, up2_s⟩
theorem s_readNumber {T : MI} {t : Nat} {x : Nat ⊕ Nat} (lo hi : Int32) (L : ML) (ht : t ≤ 90) (h1 : T 1 1 = nI t) (hx : PS t T x) : ∃ r T2, f_X7_readNumber lo hi T L = some (r, T2) ∧ TO T T2 ∧ PS t T2 (nuA (byN (T 2) t) lo hi x) ∧ (∀ j, nuA (byN (T 2) t) lo hi x = .inr j → r = nuB (byN (T 2) t) lo hi x) := by
  unfold f_X7_readNumber
  cases x with
  | inl f =>
    obtain ⟨p1, p2⟩ := hx
    rw [if_neg (show ¬ T 1 3 = -1 by rw [p2]; exact nI_m1 (by omega))]
    exact ⟨0, T, rfl, TO.rf T, ⟨p1, p2⟩, fun j q => rfl⟩
  | inr i =>
    obtain ⟨p1, p2, p3⟩ := hx
    rw [if_pos p3, nm_s, p2]
    show ∃ r T2, _ ∧ TO T T2 ∧ PS t T2 (nuN (nuP (byN (T 2) t) lo hi i) i) ∧ (∀ j, nuN (nuP (byN (T 2) t) lo hi i) i = .inr j → r = nuV (nuP (byN (T 2) t) lo hi i))
    have fail : ∀ (K : MI), TO T K → (nuP (byN (T 2) t) lo hi i = none) → ∀ r : Int32, ∃ r' T2, some (r, up2 K 1 3 (nI i)) = some (r', T2) ∧ TO T T2 ∧ PS t T2 (nuN (nuP (byN (T 2) t) lo hi i) i) ∧ (∀ j, nuN (nuP (byN (T 2) t) lo hi i) i = .inr j → r' = nuV (nuP (byN (T 2) t) lo hi i)) := fun K hK hn r => by
      rw [hn]
      exact ⟨r, _, rfl, hK.tr (TO.up K (by omega)), ⟨p1, up2_s⟩, fun j q => absurd q (by intro z; cases z)⟩
    have good : ∀ (K : MI) (r : Int32) (j : Nat), TO T K → j ≤ t → K 1 2 = nI j → K 1 3 = -1 → nuP (byN (T 2) t) lo hi i = some (r, j) → ∃ r' T2, some (r, K) = some (r', T2) ∧ TO T T2 ∧ PS t T2 (nuN (nuP (byN (T 2) t) lo hi i) i) ∧ (∀ j, nuN (nuP (byN (T 2) t) lo hi i) i = .inr j → r' = nuV (nuP (byN (T 2) t) lo hi i)) := fun K r j hK hj k2 k3 hn => by
      rw [hn]
      exact ⟨r, K, rfl, hK, ⟨hj, k2, k3⟩, fun _ _ => rfl⟩
    by_cases c1 : fg (byN (T 2) t) i
    · have l1 := fg_lt c1
      have k1 : up2 T 1 2 (nI (i + 1)) 1 1 = nI t := by rw [up2_n (by omega)]; exact h1
      have k2 : up2 T 1 2 (nI (i + 1)) 1 2 = nI (i + 1) := up2_s
      have k3 : up2 T 1 2 (nI (i + 1)) 2 = T 2 := up2_ne (by omega)
      have k4 : up2 T 1 2 (nI (i + 1)) 1 3 = -1 := by rw [up2_n (by omega)]; exact p3
      have s1 : b_X7_readNumber_21 lo hi (nI i) L (0 : Int32) (0 : Int32) T = some (Sum.inl (v1P (byN (T 2) t) i, nI 1, up2 T 1 2 (nI (i + 1)))) := by
        unfold b_X7_readNumber_21
        rw [if_neg (show ¬ (2 : Int32) ≤ (0 : Int32) by decide), s_isFig L ht p1 h1 p2, bd1_s, if_b, if_pos c1, s_here L ht p1 h1 p2, bd1_s, nm_s, nm_s, nm_s, p2, nI_1]
        rfl
      by_cases c2 : fg (byN (T 2) t) (i + 1)
      · have l2 := fg_lt c2
        have m1 : up2 (up2 T 1 2 (nI (i + 1))) 1 2 (nI (i + 1 + 1)) 1 1 = nI t := by rw [up2_n (by omega)]; exact k1
        have m2 : up2 (up2 T 1 2 (nI (i + 1))) 1 2 (nI (i + 1 + 1)) 1 2 = nI (i + 2) := up2_s
        have m3 : up2 (up2 T 1 2 (nI (i + 1))) 1 2 (nI (i + 1 + 1)) 2 = T 2 := by rw [up2_ne (by omega)]; exact k3
        have m4 : up2 (up2 T 1 2 (nI (i + 1))) 1 2 (nI (i + 1 + 1)) 1 3 = -1 := by rw [up2_n (by omega)]; exact k4
        have m5 : TO T (up2 (up2 T 1 2 (nI (i + 1))) 1 2 (nI (i + 1 + 1))) := (TO.up T (by omega)).tr (TO.up _ (by omega))
        have s2 : b_X7_readNumber_21 lo hi (nI i) L (v1P (byN (T 2) t) i) (nI 1) (up2 T 1 2 (nI (i + 1))) = some (Sum.inl (v2P (byN (T 2) t) i, nI 2, up2 (up2 T 1 2 (nI (i + 1))) 1 2 (nI (i + 1 + 1)))) := by
          unfold b_X7_readNumber_21
          rw [if_neg (show ¬ (2 : Int32) ≤ nI 1 by decide), s_isFig L ht (by omega) k1 k2, bd1_s, k3, if_b, if_pos c2, s_here L ht (by omega) k1 k2, bd1_s, nm_s, nm_s, nm_s, k2, k3, nI_1, nI_1]
          rfl
        have s3 : b_X7_readNumber_21 lo hi (nI i) L (v2P (byN (T 2) t) i) (nI 2) (up2 (up2 T 1 2 (nI (i + 1))) 1 2 (nI (i + 1 + 1))) = some (Sum.inr (v2P (byN (T 2) t) i, up2 (up2 T 1 2 (nI (i + 1))) 1 2 (nI (i + 1 + 1)))) := by
          unfold b_X7_readNumber_21
          rw [if_pos (show (2 : Int32) ≤ nI 2 by decide)]
        rw [lp_3 (f := fun s => b_X7_readNumber_21 lo hi (nI i) L s.1 s.2.1 s.2.2) (s := ((0 : Int32), (0 : Int32), T)) s1 s2 s3 FU_3, bd2_s]
        generalize up2 (up2 T 1 2 (nI (i + 1))) 1 2 (nI (i + 1 + 1)) = K at m1 m2 m3 m4 m5
        rw [m2, if_neg (show ¬ nI (i + 2) = nI i from fun q => by rw [nI_eq (by omega) (by omega)] at q; omega), s_isFig L ht (by omega) m1 m2, bd1_s, m3, if_b]
        by_cases c3 : fg (byN (T 2) t) (i + 2)
        · rw [if_pos c3, nm_s, bd1_s]
          refine fail K m5 ?_ _
          unfold nuP
          rw [if_pos c1, if_pos c2, if_pos c3]
        · rw [if_neg c3, s_within, bd1_s, if_b]
          by_cases c4 : lo ≤ v2P (byN (T 2) t) i ∧ v2P (byN (T 2) t) i ≤ hi
          · rw [if_pos c4, bd1_s]
            refine good K _ (i + 2) m5 (by omega) m2 m4 ?_
            unfold nuP
            rw [if_pos c1, if_pos c2, if_neg c3, if_pos c4]
          · rw [if_neg c4, nm_s, bd1_s]
            refine fail K m5 ?_ _
            unfold nuP
            rw [if_pos c1, if_pos c2, if_neg c3, if_neg c4]
      · have m5 : TO T (up2 T 1 2 (nI (i + 1))) := TO.up T (by omega)
        have s2 : b_X7_readNumber_21 lo hi (nI i) L (v1P (byN (T 2) t) i) (nI 1) (up2 T 1 2 (nI (i + 1))) = some (Sum.inr (v1P (byN (T 2) t) i, up2 T 1 2 (nI (i + 1)))) := by
          unfold b_X7_readNumber_21
          rw [if_neg (show ¬ (2 : Int32) ≤ nI 1 by decide), s_isFig L ht (by omega) k1 k2, bd1_s, k3, if_b, if_neg c2]
        rw [lp_2 (f := fun s => b_X7_readNumber_21 lo hi (nI i) L s.1 s.2.1 s.2.2) (s := ((0 : Int32), (0 : Int32), T)) s1 s2 (Nat.le_trans (by omega) FU_3), bd2_s]
        generalize up2 T 1 2 (nI (i + 1)) = K at k1 k2 k3 k4 m5
        rw [k2, if_neg (show ¬ nI (i + 1) = nI i from fun q => by rw [nI_eq (by omega) (by omega)] at q; omega), s_isFig L ht (by omega) k1 k2, bd1_s, k3, if_b, if_neg c2, s_within, bd1_s, if_b]
        by_cases c4 : lo ≤ v1P (byN (T 2) t) i ∧ v1P (byN (T 2) t) i ≤ hi
        · rw [if_pos c4, bd1_s]
          refine good K _ (i + 1) m5 (by omega) k2 k4 ?_
          unfold nuP
          rw [if_pos c1, if_neg c2, if_pos c4]
        · rw [if_neg c4, nm_s, bd1_s]
          refine fail K m5 ?_ _
          unfold nuP
          rw [if_pos c1, if_neg c2, if_neg c4]
    · have s1 : b_X7_readNumber_21 lo hi (nI i) L (0 : Int32) (0 : Int32) T = some (Sum.inr ((0 : Int32), T)) := by
        unfold b_X7_readNumber_21
        rw [if_neg (show ¬ (2 : Int32) ≤ (0 : Int32) by decide), s_isFig L ht p1 h1 p2, bd1_s, if_b, if_neg c1]
      rw [lp_1 (f := fun s => b_X7_readNumber_21 lo hi (nI i) L s.1 s.2.1 s.2.2) (s := ((0 : Int32), (0 : Int32), T)) s1 (Nat.le_trans (by omega) FU_3), bd2_s, p2, if_pos rfl, nm_s, bd1_s]
      refine fail T (TO.rf T) ?_ _
      unfold nuP
      rw [if_neg c1]
theorem nu_ok {B : Nat → Int32} {lo hi : Int32} {x : Nat ⊕ Nat} {j : Nat} (h : nuA B lo hi x = .inr j) : (∃ i, x = .inr i) ∧ lo ≤ nuB B lo hi x ∧ nuB B lo hi x ≤ hi := by
  cases x with
  | inl f => exact absurd h (by intro z; cases z)
  | inr i =>
    refine ⟨⟨i, rfl⟩, ?_⟩
    have h' : nuN (nuP B lo hi i) i = .inr j := h
    show lo ≤ nuV (nuP B lo hi i) ∧ nuV (nuP B lo hi i) ≤ hi
    unfold nuP at h' ⊢
    by_cases c1 : fg B i
    · rw [if_pos c1] at h' ⊢
      by_cases c2 : fg B (i + 1)
      · rw [if_pos c2] at h' ⊢
        by_cases c3 : fg B (i + 2)
        · rw [if_pos c3] at h'
          exact absurd h' (by intro z; cases z)
        · rw [if_neg c3] at h' ⊢
          by_cases c4 : lo ≤ v2P B i ∧ v2P B i ≤ hi
          · rw [if_pos c4]
            exact c4
          · rw [if_neg c4] at h'
            exact absurd h' (by intro z; cases z)
      · rw [if_neg c2] at h' ⊢
        by_cases c4 : lo ≤ v1P B i ∧ v1P B i ≤ hi
        · rw [if_pos c4]
          exact c4
        · rw [if_neg c4] at h'
          exact absurd h' (by intro z; cases z)
    · rw [if_neg c1] at h'
      exact absurd h' (by intro z; cases z)
theorem ex_ok {B : Nat → Int32} {e : Int32} {x : Nat ⊕ Nat} {j : Nat} (h : exS B e x = .inr j) : ∃ i, x = .inr i := by
  cases x with
  | inl f => exact absurd h (by intro z; cases z)
  | inr i => exact ⟨i, rfl⟩
theorem s_nuE {T : MI} {t : Nat} {x : Nat ⊕ Nat} (lo hi e : Int32) (L : ML) (ht : t ≤ 90) (he : ¬ e = -1) (h1 : T 1 1 = nI t) (hx : PS t T x) : ∃ r T2, (∀ (β : Type) (X : Int32 → MI → Option β), bd2 (f_X7_readNumber lo hi T L) (fun r I5 => bd1 (f_X7_expect e I5 L) (fun I7 => X r I7)) = X r T2) ∧ TO T T2 ∧ PS t T2 (nuE (byN (T 2) t) lo hi e x) ∧ (∀ j, nuE (byN (T 2) t) lo hi e x = .inr j → r = nuB (byN (T 2) t) lo hi x) := by
  obtain ⟨r, T1, a1, a2, a3, a4⟩ := s_readNumber lo hi L ht h1 hx
  obtain ⟨T2, b1, b2, b3⟩ := s_expect e L ht he (a2.2.trans h1) a3
  rw [a2.1 2 (by omega)] at b3
  refine ⟨r, T2, fun β X => by rw [a1, bd2_s, b1, bd1_s], a2.tr b2, b3, fun j q => ?_⟩
  obtain ⟨i, hi⟩ := ex_ok q
  exact a4 i hi
theorem so_none {b : Int32} (h : ∀ u, u < 5 → ¬ b = soF u) : kdP b = 0 := by
  unfold kdP
  rw [if_neg (show ¬ b = 112 from h 0 (by omega)), if_neg (show ¬ b = 104 from h 1 (by omega)), if_neg (show ¬ b = 109 from h 2 (by omega)), if_neg (show ¬ b = 121 from h 3 (by omega)), if_neg (show ¬ b = 115 from h 4 (by omega))]
theorem so_some : ∀ u, u < 5 → kdP (soF u) = nI (u + 1) := by decide
theorem s_readSort {T : MI} {t : Nat} {x : Nat ⊕ Nat} (L : ML) (ht : t ≤ 90) (h1 : T 1 1 = nI t) (hx : PS t T x) : ∃ r T2, f_X7_readSort T L = some (r, T2) ∧ TO T T2 ∧ PS t T2 (soE (byN (T 2) t) x) ∧ (∀ j, soE (byN (T 2) t) x = .inr j → r = soB (byN (T 2) t) x) := by
  unfold f_X7_readSort
  cases x with
  | inl f =>
    obtain ⟨p1, p2⟩ := hx
    rw [if_neg (show ¬ T 1 3 = -1 by rw [p2]; exact nI_m1 (by omega))]
    exact ⟨0, T, rfl, TO.rf T, ⟨p1, p2⟩, fun j q => rfl⟩
  | inr i =>
    obtain ⟨p1, p2, p3⟩ := hx
    rw [if_pos p3]
    show ∃ r T2, _ ∧ TO T T2 ∧ PS t T2 (if kdP (byN (T 2) t i) = 0 then .inl i else .inr (i + 1)) ∧ (∀ j, (if kdP (byN (T 2) t i) = 0 then (.inl i : Nat ⊕ Nat) else .inr (i + 1)) = .inr j → r = kdP (byN (T 2) t i))
    obtain ⟨y, hy, hz⟩ := lp_inv2 (f := fun s => b_X7_readSort_12 T L s) (fun c s => s = nI c ∧ ∀ u, u < c → ¬ byN (T 2) t i = soF u) (fun y => (y = Sum.inl () ∧ ∀ u, u < 5 → ¬ byN (T 2) t i = soF u) ∨ ∃ c, c < 5 ∧ y = Sum.inr (nI c) ∧ byN (T 2) t i = soF c) 5
      (fun c s hc hP => by
        obtain ⟨rfl, hu⟩ := hP
        simp only [b_X7_readSort_12]
        rw [if_neg (show ¬ (5 : Int32) ≤ nI c from nI_ge (b := 5) hc (by omega)), s_here L ht p1 h1 p2, bd1_s, gi_n (by omega) (by omega), cl_n (by omega)]
        by_cases e : byN (T 2) t i = soF c
        · rw [if_pos e]
          exact Or.inr ⟨_, rfl, Or.inr ⟨c, hc, rfl, e⟩⟩
        · rw [if_neg e, nm_s, nI_1]
          refine Or.inl ⟨_, rfl, rfl, fun u hu' => ?_⟩
          by_cases w : u = c
          · rw [w]; exact e
          · exact hu u (by omega))
      (fun s hP => by
        obtain ⟨rfl, hu⟩ := hP
        simp only [b_X7_readSort_12]
        rw [if_pos (by decide)]
        exact ⟨_, rfl, Or.inl ⟨rfl, hu⟩⟩)
      FU (show 5 < 2000 by omega) (0 : Int32) ⟨rfl, fun u hu => absurd hu (by omega)⟩
    rw [hy, bd1_s]
    rcases hz with ⟨rfl, hu⟩ | ⟨c, hc, rfl, e⟩
    · rw [if_pos (so_none hu)]
      simp only [Sum.elim_inl, nm_s]
      rw [p2]
      exact ⟨_, _, rfl, TO.up T (by omega), ⟨p1, up2_s⟩, fun j q => absurd q (by intro z; cases z)⟩
    · have ek : kdP (byN (T 2) t i) = nI (c + 1) := by rw [e]; exact so_some c hc
      have hlt : i < t := by
        refine by_lt (e := byN (T 2) t i) rfl (fun q => ?_)
        rw [q] at ek
        rw [show kdP (-1) = 0 by decide] at ek
        exact nI_ne0 (n := c + 1) (by omega) (by omega) ek.symm
      have en : ¬ kdP (byN (T 2) t i) = 0 := by rw [ek]; exact nI_ne0 (by omega) (by omega)
      rw [if_neg en]
      simp only [Sum.elim_inr, nm_s]
      rw [p2, nI_1, nI_1]
      exact ⟨_, _, rfl, TO.up T (by omega), ⟨by omega, up2_s, by rw [up2_n (by omega)]; exact p3⟩, fun j q => ek.symm⟩
