/-! ===== hours ===== -/
def keepF (A : MI) : MI := up2 (up2 (tkN A (21 + 8 * (A 19 1).toNatClampNeg) 3 6) 19 1 (nI (((A 19 1).toNatClampNeg + 1) % 20))) 19 2 (nI (min 20 ((A 19 2).toNatClampNeg + 1)))
def csF (A : MI) : MI := wpN (keepF A) 3 (A 3 1).toNatClampNeg
def csN (I : MI) : Nat → MI
  | 0 => I
  | k + 1 => csF (csN I k)
def CI (A : MI) : Prop := InvB A ∧ (∃ u p : Nat, u ≤ 20 ∧ p < 20 ∧ A 19 2 = nI u ∧ A 19 1 = nI p) ∧ ∃ n, n ≤ 6 ∧ A 3 1 = nI n
theorem kF_o {A : MI} {i : Nat} (h : (A 19 1).toNatClampNeg < 20) (hi : i < 19 ∨ 181 ≤ i) : keepF A i = A i := by
  unfold keepF
  rw [up2_ne (by omega), up2_ne (by omega), tk_o (by omega)]
theorem wp_o {A : MI} {w n i : Nat} (hn : n ≤ 6) (hi : i < w ∨ w + 8 ≤ i) : wpN A w n i = A i := by
  refine funext fun j => ?_
  unfold wpN
  rw [if_neg (by omega), if_neg (by omega), if_neg (by omega), if_neg (by omega)]
theorem wp_s {A : MI} {w n k : Nat} (hk : k < n) : wpN A w n (w + 2 + k) = passR (A (w + 2 + k)) (rm3 (drw (A w 6))) (ngt (A w 2) (A w 4)) (A w 4) := by
  refine funext fun j => ?_
  unfold wpN
  rw [if_pos (by omega)]
theorem wp_h {A : MI} {w n j : Nat} (h : j < 4) : wpN A w n w j = A w j := by
  unfold wpN
  rw [if_neg (by omega), if_neg (by omega), if_neg (by omega), if_neg (by omega)]
theorem wp_4 {A : MI} {w n : Nat} : wpN A w n w 4 = A w 4 + 1 := by
  unfold wpN
  rw [if_neg (by omega), if_pos ⟨rfl, rfl⟩]
theorem wp_5 {A : MI} {w n : Nat} : wpN A w n w 5 = rm3 (drw (A w 6)) := by
  unfold wpN
  rw [if_neg (by omega), if_neg (by omega), if_pos ⟨rfl, rfl⟩]
theorem wp_6 {A : MI} {w n : Nat} : wpN A w n w 6 = drw (A w 6) := by
  unfold wpN
  rw [if_neg (by omega), if_neg (by omega), if_neg (by omega), if_pos ⟨rfl, rfl⟩]
theorem wp_B {A : MI} {w n : Nat} (h : InvB A) : InvB (wpN A w n) := by
  intro i hi
  unfold wpN
  by_cases c : w + 2 ≤ i ∧ i < w + 2 + n
  · rw [if_pos c]
    unfold passR
    by_cases d : A i 10 = -4
    · rw [if_pos d, if_neg (by decide), if_neg (by decide)]; exact h i hi
    · rw [if_neg d]; exact h i hi
  · rw [if_neg c, if_neg (by omega), if_neg (by omega), if_neg (by omega)]
    exact h i hi
theorem kd6 : ∀ i, i < 255 → kd i = 6 → i < 244 := by decide +kernel
theorem CI.step {A : MI} (L : ML) (h : CI A) : f_X3_keep 3 A L = some (keepF A) ∧ f_X9_passHour 3 (keepF A) L = some (csF A) ∧ CI (csF A) := by
  obtain ⟨hB, ⟨u, p, hu, hp, e2, e1⟩, n, hn, e3⟩ := h
  have hk : keepF A = up2 (up2 (tkN A (21 + 8 * p) 3 6) 19 1 (nI ((p + 1) % 20))) 19 2 (nI (min 20 (u + 1))) := by
    unfold keepF
    rw [e1, e2, cl_n (by omega), cl_n (by omega)]
  have hc : csF A = wpN (keepF A) 3 n := by
    unfold csF
    rw [e3, cl_n (by omega)]
  have hpp : (A 19 1).toNatClampNeg < 20 := by rw [e1, cl_n (by omega)]; exact hp
  refine ⟨by rw [hk]; exact s_keep L hB hu hp e1 e2, by rw [hc]; exact s9_pass L hn (by rw [kF_o hpp (by omega)]; exact e3), ?_, ⟨min 20 (u + 1), (p + 1) % 20, by omega, by omega, ?_, ?_⟩, n, hn, ?_⟩
  · rw [hc]
    refine wp_B ?_
    rw [hk]
    exact ((tk_B hB (by omega) (by decide)).up (Or.inl (by decide))).up (Or.inl (by decide))
  · rw [hc, wp_o hn (by omega), hk, up2_s]
  · rw [hc, wp_o hn (by omega), hk, up2_n (by decide), up2_s]
  · rw [hc, wp_h (by omega), kF_o hpp (by omega)]; exact e3
theorem Inv.mindK {I : MI} {L : ML} (h : Inv I L) {n : Nat} (hn : 0 < n) (hW : okW I 3 n) (hR : RW I 3 n 0) : ∀ I2 : MI, (∀ i, 244 ≤ i → I2 i = I i) → ∃ I3, f_X11_minds I2 L = some I3 ∧ (∀ i, i ≠ 244 → i ≠ 245 → I3 i = I2 i) ∧ (∀ j, j ≠ 2 → I3 244 j = I2 244 j) ∧ (∀ j, j < 292 → I3 245 j = I2 245 j) ∧ ∀ K : MI, (∀ i, 19 ≤ i → i < 181 → K i = keepF I i) → K 244 2 = I3 244 2 → (∀ j, 292 ≤ j → K 245 j = I3 245 j) → InvU K := by
  obtain ⟨u, p, hu, hp, q1, q2, q3, q4⟩ := h.2.1
  intro I2 h2
  have hkf : keepF I = up2 (up2 (tkN I (21 + 8 * p) 3 6) 19 1 (nI ((p + 1) % 20))) 19 2 (nI (min 20 (u + 1))) := by
    unfold keepF
    rw [q1, q3, cl_n (by omega), cl_n (by omega)]
  have e2 : I2 244 2 = nI u := by rw [h2 _ (by omega)]; exact q2
  obtain ⟨J, j1, j2, j3, j4, j5, j6⟩ := m_minds (L := L) hu e2
  refine ⟨J, j1, j3, j4, j5, fun K k1 k2 k3 => ⟨min 20 (u + 1), (p + 1) % 20, by omega, by omega, ?_, by rw [k2]; exact j2, ?_, ?_⟩⟩
  · rw [k1 _ (by omega) (by omega), hkf, up2_s]
  · rw [k1 _ (by omega) (by omega), hkf, up2_n (by decide), up2_s]
  · intro j hj
    have h45 : ∀ z, I2 245 z = I 245 z := fun z => by rw [h2 _ (by omega)]
    have hJ : ∀ i, 21 ≤ i → i < 181 → K i = tkN I (21 + 8 * p) 3 6 i := fun i x y => by rw [k1 _ (by omega) (by omega), hkf, up2_ne (by omega), up2_ne (by omega)]
    by_cases e : j = 0
    · subst e
      have ew : ((p + 1) % 20 + 19 - 0) % 20 = p := by omega
      rw [ew]
      refine ⟨n, hn, hW.congr (fun f x y => by rw [hJ _ (by omega) (by omega), tk_h x y]) (fun k hk f hf => by rw [hJ _ (by omega) (by have := hW.1; omega), tk_s (by have := hW.1; omega) hf]), hR.congr hW.1 (fun f x y => by rw [hJ _ (by omega) (by omega), tk_h x y]) (fun k hk f hf => by rw [hJ _ (by omega) (by have := hW.1; omega), tk_s (by have := hW.1; omega) hf]) (fun z hz => ?_)⟩
      rw [k3 _ (by omega), j6 _ (by omega) z hz, if_pos (by omega), h45, show 0 + z = z by omega]
    · obtain ⟨m, hm, x, y⟩ := q4 (j - 1) (by omega)
      have ew : ((p + 1) % 20 + 19 - j) % 20 = (p + 19 - (j - 1)) % 20 := by omega
      have en : (p + 19 - (j - 1)) % 20 ≠ p := by omega
      have el : (p + 19 - (j - 1)) % 20 < 20 := Nat.mod_lt _ (by omega)
      rw [ew]
      generalize (p + 19 - (j - 1)) % 20 = r at x y en el
      have hm6 := x.1
      have hr : ∀ i, 21 + 8 * r ≤ i → i < 21 + 8 * r + 8 → K i = I i := fun i a b => by rw [hJ _ (by omega) (by omega), tk_o (by omega)]
      refine ⟨m, hm, x.congr (fun f _ _ => by rw [hr _ (by omega) (by omega)]) (fun k hk f _ => by rw [hr _ (by omega) (by omega)]), y.congr hm6 (fun f _ _ => by rw [hr _ (by omega) (by omega)]) (fun k hk f _ => by rw [hr _ (by omega) (by omega)]) (fun z hz => ?_)⟩
      rw [k3 _ (by omega), j6 _ (by omega) z hz, if_neg (by omega), h45]
      by_cases c : u = 20
      · rw [if_pos c]
        exact congrArg (I 245) (by omega)
      · rw [if_neg c]
        exact congrArg (I 245) (by omega)
def mx (A B : MI) : MI := fun i => if i < 244 then A i else B i
theorem mx_l {A B : MI} {i : Nat} (h : i < 244) : mx A B i = A i := if_pos h
theorem mx_r {A B : MI} {i : Nat} (h : 244 ≤ i) : mx A B i = B i := if_neg (by omega)
theorem Inv.CI {I : MI} {L : ML} (h : Inv I L) : CI I := by
  obtain ⟨⟨n, hW, hR⟩, ⟨u, p, hu, hp, q1, q2, q3, q4⟩, hI, hB, hS, hT⟩ := h
  exact ⟨hB, ⟨u, p, hu, hp, q1, q3⟩, n, hW.1, hW.2.1⟩
theorem CI.mx {A B : MI} (h : CI (mx A B)) : CI A := by
  obtain ⟨hB, ⟨u, p, hu, hp, q1, q3⟩, n, a, b⟩ := h
  rw [mx_l (by omega)] at q1 q3 b
  refine ⟨fun i hi => ?_, ⟨u, p, hu, hp, q1, q3⟩, n, a, b⟩
  have := hB i hi
  rw [mx_l (kd6 i (kd_lt hi (by decide)) hi)] at this
  exact this
theorem RW.row {I : MI} {w n o : Nat} (hW : okW I w n) (hR : RW I w n o) {J : MI} (h : ∀ j, j < 73 → J 245 (o + j) = I 245 (o + j)) : MRow J o n (I w 2) (I w 4) (I w 6) (fun q => I (w + 2 + q)) := by
  have h6 := hW.1
  refine ⟨?_, ?_, ?_, ?_, fun q hq => ⟨fun f hf => ?_, hW.2.2.2.2.2.2.2.2 q hq, ?_⟩⟩
  · rw [h 1 (by omega), ← hR.2.1 1 (by omega) (by omega)]; exact hW.2.1
  · rw [h 2 (by omega), ← hR.2.1 2 (by omega) (by omega)]
  · rw [h 4 (by omega), ← hR.2.1 4 (by omega) (by omega)]
  · rw [h 6 (by omega), ← hR.2.1 6 (by omega) (by omega)]
  · rw [mrec_congr h (by omega) hf]; exact (hR.2.2.1 q f hq hf).symm
  · rw [show o + 67 + q = o + (67 + q) by omega, h _ (by omega), show o + (67 + q) = o + 67 + q by omega]
    exact hR.2.2.2 q hq
/-- one hour on both sides -/
theorem hour_step {A B : MI} {L : ML} {n : Nat} (hn0 : 0 < n) (h : Inv (mx A B) L) (hn : B 245 1 = nI n) (hn6 : n ≤ 6) (hh : (B 245 4).toInt < 9999) : ∃ I3 J, f_X11_minds B L = some I3 ∧ f_X11_passes (0 : Int32) I3 L = some J ∧ Inv (mx (csF A) J) L ∧ (∀ i, i < 244 → J i = B i) ∧ J 245 1 = nI n ∧ J 245 4 = B 245 4 + 1 := by
  obtain ⟨m, hW, hR⟩ := h.1
  have hm : m = n := by
    have e : mx A B 245 1 = nI m := RW.n1 hW hR
    rw [mx_r (by omega), hn] at e
    exact ((nI_eq (by omega) (by have := hW.1; omega)).mp e).symm
  subst hm
  have hCI := h.CI
  have hA : CI A := hCI.mx
  obtain ⟨cB, ⟨u, p, hu, hp, q1, q3⟩, _, _, _⟩ := hA
  obtain ⟨I3, m1, m2, m3, m4, m5⟩ := h.mindK hn0 hW hR B (fun i hi => (mx_r hi).symm)
  have hrow := hR.row hW (J := I3) (fun j hj => by rw [m4 _ (by omega), mx_r (by omega)])
  have g4 : mx A B 3 4 = B 245 4 := by rw [hR.2.1 4 (by omega) (by omega), mx_r (by omega)]
  have r4 : rg (B 245 4) 0 9998 := by
    have := hW.2.2.2.2.1
    rw [g4] at this
    exact ⟨this.1, by omega⟩
  rw [g4] at hrow
  obtain ⟨J, j1, j2, j3, j4, j5⟩ := m_passes (o := 0) L (by omega) hn6 hrow (rg_mono r4 (by omega) (by omega))
  refine ⟨I3, J, m1, j1, ?_, fun i hi => by rw [j2 i (by omega), m2 i (by omega) (by omega)], ?_, by have := j5.2.2.1; exact this⟩
  · have eC : csF A = wpN (keepF A) 3 m := by
      unfold csF
      have := hW.2.1
      rw [mx_l (by omega)] at this
      rw [this, cl_n (by omega)]
    have pA : (A 19 1).toNatClampNeg < 20 := by rw [q3, cl_n (by omega)]; exact hp
    have eK : ∀ i, i < 19 → keepF A i = A i := fun i hi => kF_o pA (by omega)
    have c3 : ∀ j, mx (csF A) J 3 j = wpN (keepF A) 3 m 3 j := fun j => by rw [mx_l (by omega), eC]
    have cs : ∀ q, q < m → mx (csF A) J (3 + 2 + q) = passR (mx A B (3 + 2 + q)) (rm3 (drw (mx A B 3 6))) (ngt (mx A B 3 2) (B 245 4)) (B 245 4) := fun q hq => by
      rw [mx_l (by omega), eC, wp_s hq, eK _ (by omega), eK _ (by omega), ← g4, mx_l (show 3 + 2 + q < 244 by omega), mx_l (show 3 < 244 by omega)]
    have o6 : rg (drw (mx A B 3 6)) 1 2147483646 := rg_drw hW.2.2.2.2.2.2.1
    have c1 : ∀ j, j < 4 → mx (csF A) J 3 j = mx A B 3 j := fun j hj => by rw [c3, wp_h hj, eK _ (by omega), mx_l (by omega)]
    have c4 : mx (csF A) J 3 4 = B 245 4 + 1 := by rw [c3, wp_4, eK _ (by omega), ← g4, mx_l (by omega)]
    have c5 : mx (csF A) J 3 5 = rm3 (drw (mx A B 3 6)) := by rw [c3, wp_5, eK _ (by omega), mx_l (by omega)]
    have c6 : mx (csF A) J 3 6 = drw (mx A B 3 6) := by rw [c3, wp_6, eK _ (by omega), mx_l (by omega)]
    have hJ45 : ∀ j, j < 4 → J 245 j = mx A B 245 j := fun j hj => by rw [j3 j (by omega), m4 j (by omega), mx_r (by omega)]
    have oth : ∀ i, i < 3 ∨ 181 ≤ i → i ≠ 244 → i ≠ 245 → mx (csF A) J i = mx A B i := fun i a b c => by
      by_cases d : i < 244
      · rw [mx_l d, mx_l d, eC, wp_o hn6 (by omega), kF_o pA (by omega)]
      · rw [mx_r (by omega), mx_r (by omega), j2 i c, m2 i b c]
    have j45 : ∀ j, 73 ≤ j → J 245 j = I3 245 j := fun j hj => j3 j (by omega)
    have hCA : CI (csF A) := (CI.step L hCI.mx).2.2
    obtain ⟨_, _, hI, _, hS, hT⟩ := h
    refine ⟨⟨m, ⟨hn6, ?_, ?_, ?_, ?_, ?_, ?_, ?_, ?_⟩, ?_, ?_, ?_, ?_⟩, m5 _ (fun i a b => ?_) ?_ ?_, hI.congr (fun i a b => oth i (by omega) (by omega) (by omega)) (oth _ (by omega) (by omega) (by omega)) (fun j a b => ?_), ?_, hS.congr (fun k hk => oth _ (by omega) (by omega) (by omega)) (oth _ (by omega) (by omega) (by omega)) (oth _ (by omega) (by omega) (by omega)) (fun _ _ => rfl) rfl, hT.congr (by rw [oth 1 (by omega) (by omega) (by omega)]) (oth _ (by omega) (by omega) (by omega)) ?_ (oth _ (by omega) (by omega) (by omega))⟩
    · rw [c1 1 (by omega)]; exact hW.2.1
    · rw [c1 2 (by omega)]; exact hW.2.2.1
    · rw [c1 3 (by omega)]; exact hW.2.2.2.1
    · rw [c4]; exact rg_mono (rg_add r4 (rg_1 (a := 1) (b := 1) (by omega) (by omega)) (by omega) (by omega)) (by omega) (by omega)
    · rw [c5]; exact rg_rm3 o6
    · rw [c6]; exact o6
    · rw [c1 2 (by omega)]; exact hW.2.2.2.2.2.2.2.1
    · intro q hq
      rw [cs q hq]
      exact (hW.2.2.2.2.2.2.2.2 q hq).pass _ _ (rg_mono r4 (by omega) (by omega))
    · rw [mx_r (by omega), hJ45 0 (by omega)]; exact hR.1
    · intro j a b
      rw [mx_r (show 244 ≤ 245 by omega), show 0 + j = j by omega]
      rcases (show j = 1 ∨ j = 2 ∨ j = 3 ∨ j = 4 ∨ j = 5 ∨ j = 6 by omega) with rfl | rfl | rfl | rfl | rfl | rfl
      · rw [c1 1 (by omega), hJ45 1 (by omega)]; exact hR.2.1 1 (by omega) (by omega)
      · rw [c1 2 (by omega), hJ45 2 (by omega)]; exact hR.2.1 2 (by omega) (by omega)
      · rw [c1 3 (by omega), hJ45 3 (by omega)]; exact hR.2.1 3 (by omega) (by omega)
      · rw [c4]; exact j5.2.2.1.symm
      · rw [c5]; exact j4.symm
      · rw [c6]; exact j5.2.2.2.1.symm
    · intro q f hq hf
      rw [cs q hq, mx_r (show 244 ≤ 245 by omega)]
      exact ((j5.2.2.2.2 q hq).1 f hf).symm
    · intro q hq
      rw [mx_r (show 244 ≤ 245 by omega)]
      exact (j5.2.2.2.2 q hq).2.2
    · rw [mx_l (by omega), eC, wp_o hn6 (by omega)]
      refine funext fun j => ?_
      unfold keepF
      rw [mx_l (show 19 < 244 by omega), up2_at, up2_at, up2_at, up2_at]
      have et : tkN A (21 + 8 * (A 19 1).toNatClampNeg) 3 6 i j = tkN (mx A B) (21 + 8 * (A 19 1).toNatClampNeg) 3 6 i j := by
        unfold tkN
        by_cases d1 : i = 21 + 8 * (A 19 1).toNatClampNeg ∧ 1 ≤ j ∧ j < 7
        · rw [if_pos d1, if_pos d1, mx_l (by omega)]
        · rw [if_neg d1, if_neg d1]
          by_cases d2 : (21 + 8 * (A 19 1).toNatClampNeg + 2 ≤ i ∧ i < 21 + 8 * (A 19 1).toNatClampNeg + 2 + 6) ∧ j < 11
          · rw [if_pos d2, if_pos d2, mx_l (by omega)]
          · rw [if_neg d2, if_neg d2, mx_l (by omega)]
      rw [et]
    · rw [mx_r (by omega), j2 _ (by omega)]
    · intro j hj
      rw [mx_r (by omega), j45 j (by omega)]
    · rw [mx_r (by omega), j45 j a, m4 j (by omega), mx_r (by omega)]
    · intro i hi
      rw [mx_l (kd6 i (kd_lt hi (by decide)) hi)]
      exact hCA.1 i hi
    · rw [mx_r (by omega), mx_r (by omega), j2 _ (by omega), m3 _ (by decide)]
  · rw [j3 1 (by omega), m4 1 (by omega)]; exact hn
theorem cs_n {I : MI} {L : ML} (h : CI I) : ∀ k, CI (csN I k) ∧ csN I k 3 1 = I 3 1
  | 0 => ⟨h, rfl⟩
  | k + 1 => by
    obtain ⟨a, b⟩ := cs_n (L := L) h k
    refine ⟨(CI.step L a).2.2, ?_⟩
    rw [← b]
    show csF (csN I k) 3 1 = csN I k 3 1
    obtain ⟨_, ⟨u, p, hu, hp, q1, q3⟩, _, _, _⟩ := a
    unfold csF
    rw [wp_h (by omega), kF_o (by rw [q3, cl_n (by omega)]; exact hp) (by omega)]
theorem mx_self (A : MI) : mx A A = A := funext fun i => by
  unfold mx
  by_cases c : i < 244
  · rw [if_pos c]
  · rw [if_neg c]
theorem mx_eq {A B : MI} (h : ∀ i, i < 244 → B i = A i) : mx A B = B := funext fun i => by
  unfold mx
  by_cases c : i < 244
  · rw [if_pos c, h i c]
  · rw [if_neg c]
theorem cs_o {I : MI} {L : ML} (h : CI I) {i : Nat} (hi : 244 ≤ i) : ∀ k, csN I k i = I i
  | 0 => rfl
  | k + 1 => by
    rw [← cs_o (L := L) h hi k]
    show csF (csN I k) i = csN I k i
    obtain ⟨_, ⟨u, p, hu, hp, q1, q3⟩, m, hm, em⟩ := (cs_n (L := L) h k).1
    unfold csF
    rw [em, cl_n (by omega), wp_o hm (by omega), kF_o (by rw [q3, cl_n (by omega)]; exact hp) (by omega)]
theorem ok_hours (a1 : Int32) {I : MI} {L : ML} (h : Inv I L) : ∃ (r : Int32) (I1 : MI) (I2 : MI), f_X10_hours a1 I L = some (r, I1) ∧ f_X11_hours a1 I1 L = some (r, I2) ∧ Inv I2 L := by
  obtain ⟨n, hW, hR⟩ := h.1
  have hn := hW.1
  have e1 := RW.n1 hW hR
  unfold f_X10_hours f_X11_hours
  rw [s_within, bd1_s, if_b, s_stands, bd1_s, if_b, show (1 : Int64) = (1 : Int32).toInt64 from rfl, show (24 : Int64) = (24 : Int32).toInt64 from rfl, s_in32]
  simp only [bd1_s, if_b]
  by_cases c1 : (1 : Int32) ≤ a1 ∧ a1 ≤ 24
  · simp only [if_pos c1]
    obtain ⟨N, hN1, hN2, rfl⟩ : ∃ N : Nat, 1 ≤ N ∧ N ≤ 24 ∧ a1 = nI N := by
      have z1 : (1 : Int32).toInt = 1 := rfl
      have z2 : (24 : Int32).toInt = 24 := rfl
      rw [fa_le, fa_le, z1, z2] at c1
      obtain ⟨k, h1, h2, h3⟩ := rg_n (x := a1) (a := 1) (b := 24) c1 (by omega)
      exact ⟨k, h1, h2, h3⟩
    rw [hW.2.1]
    by_cases c2 : n = 0
    · rw [if_neg (fun q => by have := (nI0 hn).mp q; omega)]
      refine ⟨-2, I, I, rfl, ?_, h⟩
      rw [gi00, if_pos (show I 245 (0 : Int32).toNatClampNeg = 0 by show I 245 0 = 0; rw [hR.1, if_pos c2])]
    · rw [if_pos ((nI0 hn).mpr (by omega))]
      have g4 : I 3 4 = I 245 4 := hR.2.1 4 (by omega) (by omega)
      have r4 := hW.2.2.2.2.1
      by_cases c3 : I 3 4 + nI N ≤ 9999
      · rw [if_pos c3]
        have hCI := h.CI
        have b3 : (I 3 4).toInt + N ≤ 9999 := by
          have := r4.1; have := r4.2
          rw [fa_le, fb_addI (by rw [nI_bd (by omega)]; omega) (by rw [nI_bd (by omega)]; omega), nI_bd (by omega)] at c3
          exact c3
        have hl : lp (fun s => b_X10_hours_45 (nI N) L s.1 s.2) FU ((0 : Int32), I) = some (csN I N) := by
          refine lp_forF (fun k => (nI k, csN I k)) N rfl (fun k hk => ?_) ?_ (by omega)
          · obtain ⟨x, y, z⟩ := CI.step L (cs_n (L := L) hCI k).1
            simp only [b_X10_hours_45]
            rw [if_neg (nI_ge hk (by omega)), x, bd1_s, y, bd1_s, nm_s, nI_1]
            rfl
          · simp only [b_X10_hours_45]
            rw [if_pos (nI_le (Nat.le_refl N) (by omega))]
        have hnN : csN I N 3 1 = nI n := by rw [(cs_n (L := L) hCI N).2]; exact hW.2.1
        rw [hl, bd1_s, s_sitting L hn hnN, bd1_s]
        obtain ⟨B, hb, z1, z2, z3⟩ := lp_inv (f := fun s => b_X11_hours_45 (nI N) L s.1 s.2)
          (fun k s => s.1 = nI k ∧ (∀ i, i < 244 → s.2 i = csN I N i) ∧ Inv (mx (csN I k) s.2) L ∧ s.2 245 1 = nI n ∧ (s.2 245 4).toInt = (I 3 4).toInt + k)
          (fun x => (∀ i, i < 244 → x i = csN I N i) ∧ Inv (mx (csN I N) x) L ∧ x 245 1 = nI n) N
          (fun k s hk hP => by
            obtain ⟨z, B⟩ := s
            obtain ⟨p1, p2, p3, p4, p5⟩ := hP
            dsimp only at p1 p2 p3 p4 p5
            subst p1
            obtain ⟨I3, J, w1, w2, w3, w4, w5, w6⟩ := hour_step (by omega) p3 p4 hn (by omega)
            refine ⟨(nI (k + 1), J), ?_, rfl, fun i hi => (w4 i hi).trans (p2 i hi), w3, w5, ?_⟩
            · show b_X11_hours_45 (nI N) L (nI k) B = _
              unfold b_X11_hours_45
              rw [if_neg (nI_ge hk (by omega)), w1, bd1_s, w2, bd1_s, nm_s, nI_1]
            · show (J 245 4).toInt = _
              have o1 : (1 : Int32).toInt = 1 := rfl
              have := r4.1
              rw [w6, fb_addI (by omega) (by omega), o1, p5]
              omega)
          (fun s hP => by
            obtain ⟨z, B⟩ := s
            obtain ⟨p1, p2, p3, p4, p5⟩ := hP
            dsimp only at p1 p2 p3 p4 p5
            subst p1
            refine ⟨B, ?_, p2, p3, p4⟩
            show b_X11_hours_45 (nI N) L (nI N) B = _
            unfold b_X11_hours_45
            rw [if_pos (nI_le (Nat.le_refl N) (by omega))])
          FU (show N < 2000 by omega) ((0 : Int32), csN I N) ⟨rfl, fun _ _ => rfl, by
            have e : mx I (csN I N) = I := funext fun i => by
              unfold mx
              by_cases c : i < 244
              · rw [if_pos c]
              · rw [if_neg c, cs_o (L := L) hCI (by omega) N]
            show Inv (mx I (csN I N)) L
            rw [e]; exact h, by
            show csN I N 245 1 = nI n
            rw [cs_o (L := L) hCI (by omega) N]; exact e1, by
            show (csN I N 245 4).toInt = (I 3 4).toInt + ((0 : Nat) : Int)
            rw [cs_o (L := L) hCI (by omega) N, g4]
            omega⟩
        rw [mx_eq z1] at z2
        obtain ⟨m, hW2, hR2⟩ := z2.1
        have hm : m = n := by
          have e : B 245 1 = nI m := RW.n1 hW2 hR2
          rw [z3] at e
          exact ((nI_eq (by omega) (by have := hW2.1; omega)).mp e).symm
        subst hm
        refine ⟨_, _, B, rfl, ?_, z2⟩
        have x0 : csN I N 245 = I 245 := cs_o (L := L) hCI (by omega) N
        rw [gi00, if_neg (show ¬ csN I N 245 (0 : Int32).toNatClampNeg = 0 by
          show ¬ csN I N 245 0 = 0
          rw [x0, hR.1, if_neg c2]; decide), gi_t (show vp_in (4 : Int32) 1752 from vp_in_nI (n := 4) (by omega) (by omega)), if_pos (show csN I N 245 (4 : Int32).toNatClampNeg + nI N ≤ 9999 by
          show csN I N 245 4 + nI N ≤ 9999
          rw [x0, ← g4]; exact c3), hb, bd1_s, m_sit0 L hn z3, bd1_s, sit_eq hR2]
        refine congrArg (fun z => some (z, B)) (bx_sum_congr (fun q hq => ?_))
        rw [z1 _ (by omega)]
      · rw [if_neg c3]
        refine ⟨-3, I, I, rfl, ?_, h⟩
        rw [gi00, if_neg (show ¬ I 245 (0 : Int32).toNatClampNeg = 0 by
          show ¬ I 245 0 = 0
          rw [hR.1, if_neg c2]; decide), gi_t (show vp_in (4 : Int32) 1752 from vp_in_nI (n := 4) (by omega) (by omega)), if_neg (show ¬ I 245 (4 : Int32).toNatClampNeg + nI N ≤ 9999 by
          show ¬ I 245 4 + nI N ≤ 9999
          rw [← g4]; exact c3)]
  · simp only [if_neg c1]
    exact ⟨-1, I, I, rfl, rfl, h⟩
