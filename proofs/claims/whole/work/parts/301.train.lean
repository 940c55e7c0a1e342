/-! ===== train: the reference's side ===== -/
theorem i_add {x : Int32} {l : Nat} (h : rg x 10 99) (hl : l ≤ 20) : (x + nI l).toInt = x.toInt + l := by
  rw [Int32.toInt_add, nI_bd (by omega)]
  exact Int.bmod_eq_of_le (by have := h.1; omega) (by have := h.2; omega)
theorem m_isEnough {J : MI} {n k N a b l : Nat} (L : ML) (hW : okW J 3 n) (hR : RW J 3 n 0) (hk : k < n) (hN1 : 1 ≤ N) (hN : N ≤ 40) (h251 : ∀ t, t < N → J 251 t = skN (J 3 6) t) (ha : (a : Int) ≤ (J (3 + 2 + k) 2).toInt) (hb : (b : Int) ≤ (J (3 + 2 + k) 3).toInt) (hl : l ≤ 20) (hl2 : (J (3 + 2 + k) 1).toInt + l ≤ 99) : ∃ K, f_X11_isEnough (nI k) (nI N) (nI l) (nI a) (nI b) J L = some (b01 (needN (J (3 + 2 + k)) (J 3 6) (J 3 2) (J 3 4) N a b ≤ l), K) ∧ TF J K := by
  have hn := hW.1
  have hs : okR (J (3 + 2 + k)) := hW.2.2.2.2.2.2.2.2 k hk
  have hq : okR (tqR (J (3 + 2 + k)) a b) := hs.tq ha hb
  have c5 : J 245 (37 + k) = J (3 + 2 + k) 5 := by rw [← hR.c hk 5 (by omega)]
  have c1 : J 245 (13 + k) = J (3 + 2 + k) 1 := by rw [← hR.c hk 1 (by omega)]
  obtain ⟨J0, j1, j2, j3⟩ := m_try L hW hR
  obtain ⟨m1, m2, m3, m4, m5⟩ := j3
  obtain ⟨p1', p2, p3⟩ := m5 k hk
  have p1 : ∀ f, f ≤ 10 → mrec (J0 245) 219 k f = J (3 + 2 + k) f := p1'
  unfold f_X11_isEnough
  rw [j1, bd1_s, iz 238 k (238 : Int32) rfl, iz 244 k (244 : Int32) rfl, iz 37 k (37 : Int32) rfl, gi_n (by omega) (by omega), gi_n (by omega) (by omega), nm_s, gi_n (by omega) (by omega), gi_n (by omega) (by omega), nm_s, gi_n (by omega) (by omega), nm_s, cl_n (by omega), cl_n (by omega), cl_n (by omega)]
  have q2 : J0 245 (238 + k) = J (3 + 2 + k) 2 := by
    have := p1 2 (by omega)
    rw [mrec9 (by omega), show 219 + 7 + 6 * 2 + k = 238 + k by omega] at this
    exact this
  have q3 : J0 245 (244 + k) = J (3 + 2 + k) 3 := by
    have := p1 3 (by omega)
    rw [mrec9 (by omega), show 219 + 7 + 6 * 3 + k = 244 + k by omega] at this
    exact this
  rw [up2_n (show 244 + k ≠ 238 + k by omega), q2, q3]
  have k1 : TF J (up2 (up2 J0 245 (238 + k) (J (3 + 2 + k) 2 - nI a)) 245 (244 + k) (J (3 + 2 + k) 3 - nI b)) := ⟨fun i hi => by rw [up2_ne hi, up2_ne hi]; exact j2.1 i hi, fun j hj => by rw [up2_n (by omega), up2_n (by omega)]; exact j2.2 j hj⟩
  have k2 : up2 (up2 J0 245 (238 + k) (J (3 + 2 + k) 2 - nI a)) 245 (244 + k) (J (3 + 2 + k) 3 - nI b) 245 221 = J 3 2 := by rw [up2_n (by omega), up2_n (by omega)]; exact m2
  have k3 : up2 (up2 J0 245 (238 + k) (J (3 + 2 + k) 2 - nI a)) 245 (244 + k) (J (3 + 2 + k) 3 - nI b) 245 223 = J 3 4 := by rw [up2_n (by omega), up2_n (by omega)]; exact m3
  have k4 : ∀ f, f ≤ 10 → mrec (up2 (up2 J0 245 (238 + k) (J (3 + 2 + k) 2 - nI a)) 245 (244 + k) (J (3 + 2 + k) 3 - nI b) 245) 219 k f = tqR (J (3 + 2 + k)) a b f := fun f hf => by
    by_cases f2 : f = 2
    · subst f2
      rw [mrec9 (by omega), show 219 + 7 + 6 * 2 + k = 238 + k by omega, up2_n (by omega), up2_s]
      rfl
    · by_cases f3 : f = 3
      · subst f3
        rw [mrec9 (by omega), show 219 + 7 + 6 * 3 + k = 244 + k by omega, up2_s]
        rfl
      · unfold tqR
        rw [if_neg f2, if_neg f3, ← p1 f hf]
        unfold mrec
        by_cases f10 : f = 10
        · rw [if_pos f10, if_pos f10, up2_n (by omega), up2_n (by omega)]
        · rw [if_neg f10, if_neg f10, up2_n (by omega), up2_n (by omega)]
  have k5 := k1.2 (37 + k) (by omega)
  rw [c5] at k5
  generalize up2 (up2 J0 245 (238 + k) (J (3 + 2 + k) 2 - nI a)) 245 (244 + k) (J (3 + 2 + k) 3 - nI b) = K0 at k1 k2 k3 k4 k5
  rw [k5]
  have nl := need_le (d := J 3 6) (dusk := J 3 2) (hr := J 3 4) hs hN ha hb hl hl2
  have hla := i_add (l := l) hs.2.1 hl
  obtain ⟨x, hx, K, hK, hz⟩ := lp_inv2 (f := fun s => b_X11_isEnough_52 (nI k) (nI N) (nI l) L s.1 s.2.1 s.2.2)
    (fun t s => ∃ K, s = (suN (tqR (J (3 + 2 + k)) a b) (J 3 6) (J 3 2) (J 3 4) t, nI t, K) ∧ TF J K ∧ K 245 221 = J 3 2 ∧ K 245 223 = J 3 4 + nI t ∧ (∀ f, f ≤ 10 → mrec (K 245) 219 k f = tqR (J (3 + 2 + k)) a b f) ∧ (1 ≤ t → (suN (tqR (J (3 + 2 + k)) a b) (J 3 6) (J 3 2) (J 3 4) t).toInt < (J (3 + 2 + k) 1).toInt + l))
    (fun x => ∃ K, TF J K ∧ ((x = Sum.inl K ∧ (suN (tqR (J (3 + 2 + k)) a b) (J 3 6) (J 3 2) (J 3 4) N).toInt < (J (3 + 2 + k) 1).toInt + l) ∨ (x = Sum.inr K ∧ ¬ (suN (tqR (J (3 + 2 + k)) a b) (J 3 6) (J 3 2) (J 3 4) N).toInt < (J (3 + 2 + k) 1).toInt + l))) N
    (fun t s ht hP => by
      obtain ⟨K, rfl, hK, d2, d4, dr, _⟩ := hP
      simp only [b_X11_isEnough_52]
      have g1 : K 251 t = skN (J 3 6) t := by rw [hK.1 _ (by omega)]; exact h251 t ht
      have g2 : K 245 (13 + k) = J (3 + 2 + k) 1 := by rw [hK.2 _ (by omega)]; exact c1
      rw [if_neg (nI_ge ht (by omega)), gi_n (by omega) (by omega), cl_n (by omega), g1, show (219 : Int32) = nI 219 from rfl, m_growthIn (o := 219) _ L (by omega) (by omega) (okR_congr dr hq), bd1_s, nm_s, grow_congr dr]
      rw [show K 245 (219 + 2) = J 3 2 from d2, show K 245 (219 + 4) = J 3 4 + nI t from d4]
      have es : suN (tqR (J (3 + 2 + k)) a b) (J 3 6) (J 3 2) (J 3 4) t + growR (tqR (J (3 + 2 + k)) a b) (skN (J 3 6) t) (b01 (J 3 2 ≤ J 3 4 + nI t - (J 3 4 + nI t) / 24 * 24)) = suN (tqR (J (3 + 2 + k)) a b) (J 3 6) (J 3 2) (J 3 4) (t + 1) := rfl
      rw [es, iz 13 k (13 : Int32) rfl, gi_n (by omega) (by omega), cl_n (by omega), g2]
      by_cases c : (suN (tqR (J (3 + 2 + k)) a b) (J 3 6) (J 3 2) (J 3 4) (t + 1)).toInt < (J (3 + 2 + k) 1).toInt + l
      · rw [if_pos (show suN (tqR (J (3 + 2 + k)) a b) (J 3 6) (J 3 2) (J 3 4) (t + 1) < J (3 + 2 + k) 1 + nI l by rw [fa_lt, hla]; exact c)]
        rw [gi_t (show vp_in (223 : Int32) 1752 from vp_in_nI (n := 223) (by omega) (by omega)), gi_t (show vp_in (223 : Int32) 1752 from vp_in_nI (n := 223) (by omega) (by omega)), nm_s, nm_s, nI_1, show (223 : Int32).toNatClampNeg = 223 from rfl, d4]
        refine Or.inl ⟨_, rfl, _, rfl, ⟨fun i hi => by rw [up2_ne hi]; exact hK.1 i hi, fun j hj => by rw [up2_n (by omega)]; exact hK.2 j hj⟩, by rw [up2_n (by omega)]; exact d2, by rw [up2_s, Int32.add_assoc, nI_1], fun f hf => ?_, fun _ => c⟩
        rw [← dr f hf]
        unfold mrec
        by_cases f10 : f = 10
        · rw [if_pos f10, if_pos f10, up2_n (by omega)]
        · rw [if_neg f10, if_neg f10, up2_n (by omega)]
      · rw [if_neg (show ¬ suN (tqR (J (3 + 2 + k)) a b) (J 3 6) (J 3 2) (J 3 4) (t + 1) < J (3 + 2 + k) 1 + nI l by rw [fa_lt, hla]; exact c)]
        refine Or.inr ⟨_, rfl, K, hK, Or.inr ⟨rfl, ?_⟩⟩
        have := su_mono (d := J 3 6) (dusk := J 3 2) (hr := J 3 4) hq (t := t + 1) (N - (t + 1)) (by omega)
        rw [show t + 1 + (N - (t + 1)) = N by omega] at this
        omega)
    (fun s hP => by
      obtain ⟨K, rfl, hK, _, _, _, hf⟩ := hP
      simp only [b_X11_isEnough_52]
      rw [if_pos (nI_le (Nat.le_refl N) (by omega))]
      exact ⟨_, rfl, K, hK, Or.inl ⟨rfl, hf hN1⟩⟩)
    FU (show N < 2000 by omega) (J (3 + 2 + k) 5, (0 : Int32), K0) ⟨K0, rfl, k1, k2, by rw [k3]; exact (Int32.add_zero _).symm, k4, fun z => absurd z (by omega)⟩
  rw [hx, bd1_s]
  rcases hz with ⟨rfl, c⟩ | ⟨rfl, c⟩
  · refine ⟨K, ?_, hK⟩
    rw [b01_t (nl.mpr c)]
    rfl
  · refine ⟨K, ?_, hK⟩
    rw [b01_f (fun q => c (nl.mp q))]
    rfl
def TH (I J : MI) : Prop := (∀ i, i ≠ 245 → i ≠ 251 → J i = I i) ∧ ∀ j, j < 219 ∨ 292 ≤ j → J 245 j = I 245 j
theorem TH.Kp {I J : MI} (h : TH I J) : Kp I J := ⟨fun i hi => h.1 i (by omega) (by omega), by rw [h.1 _ (by omega) (by omega)], by rw [h.1 _ (by omega) (by omega)], h.2, h.1 _ (by omega) (by omega), h.1 _ (by omega) (by omega), h.1 _ (by omega) (by omega), h.1 _ (by omega) (by omega)⟩
theorem TH.B {I J : MI} (h : TH I J) (hB : InvB I) : InvB J := hB.cg (fun i hi => by rw [h.1 i (fun q => by rw [q] at hi; exact absurd hi (by decide)) (fun q => by rw [q] at hi; exact absurd hi (by decide))])
theorem m_skies {I : MI} {n N : Nat} (v1 v3 : Int32) (L : ML) (hW : okW I 3 n) (hR : RW I 3 n 0) (hN : N ≤ 40) {J0 : MI} (j2 : TF I J0) (j3 : MRow J0 219 n (I 3 2) (I 3 4) (I 3 6) (fun q => I (3 + 2 + q))) : ∃ J, lp (fun s => b_X11_train_57 v1 (nI N) v3 L s.1 s.2) FU ((0 : Int32), J0) = some J ∧ TH I J ∧ ∀ t, t < N → J 251 t = skN (I 3 6) t := by
  have hn := hW.1
  obtain ⟨x, hx, J, rfl, h1, h2⟩ := lp_inv (f := fun s => b_X11_train_57 v1 (nI N) v3 L s.1 s.2)
    (fun t s => ∃ K R, s = (nI t, K) ∧ TH I K ∧ MRow K 219 n (I 3 2) (I 3 4 + nI t) (drN (I 3 6) t) R ∧ ∀ u, u < t → K 251 u = skN (I 3 6) u)
    (fun x => ∃ J, x = J ∧ TH I J ∧ ∀ t, t < N → J 251 t = skN (I 3 6) t) N
    (fun t s ht hP => by
      obtain ⟨K, R, rfl, hK, hM, hv⟩ := hP
      simp only [b_X11_train_57]
      obtain ⟨J1, w1, w2, w3, w4⟩ := m_tryStep (t := t) L hn hW.2.2.2.2.1 (by omega) hM
      rw [if_neg (nI_ge ht (by omega)), w1, bd1_s, gi_t (show vp_in (224 : Int32) 1752 from vp_in_nI (n := 224) (by omega) (by omega)), gi_n (by omega) (by omega), nm_s, nm_s, nI_1, cl_n (by omega), show (224 : Int32).toNatClampNeg = 224 from rfl, w3]
      refine ⟨_, rfl, up2 J1 251 t (skN (I 3 6) t), (fun q => passR (R q) (skN (I 3 6) t) (ngN (I 3 2) (I 3 4) t) (I 3 4 + nI t)), rfl, ⟨fun i a b => by rw [up2_ne b, w2.1 i a]; exact hK.1 i a b, fun j hj => by rw [up2_ne (by omega), w2.2 j hj]; exact hK.2 j hj⟩, ?_, fun u hu => ?_⟩
      · obtain ⟨m1, m2, m3, m4, m5⟩ := w4
        have e : up2 J1 251 t (skN (I 3 6) t) 245 = J1 245 := up2_ne (by omega)
        exact ⟨by rw [e]; exact m1, by rw [e]; exact m2, by rw [e]; exact m3, by rw [e]; exact m4, by rw [e]; exact m5⟩
      · by_cases e : u = t
        · subst e
          rw [up2_s]
        · rw [up2_n e, w2.1 _ (by omega)]
          exact hv u (by omega))
    (fun s hP => by
      obtain ⟨K, R, rfl, hK, hM, hv⟩ := hP
      simp only [b_X11_train_57]
      rw [if_pos (nI_le (Nat.le_refl N) (by omega))]
      exact ⟨_, rfl, K, rfl, hK, hv⟩)
    FU (show N < 2000 by omega) ((0 : Int32), J0) ⟨J0, _, rfl, ⟨fun i a _ => j2.1 i a, j2.2⟩, by
      have e : I 3 4 + nI 0 = I 3 4 := Int32.add_zero _
      rw [e]
      exact j3, fun u hu => absurd hu (by omega)⟩
  exact ⟨_, hx, h1, h2⟩
/-- the reference's best of the triples P -/
def RB (nd : Nat → Nat → Nat) (P : Nat → Nat → Nat → Prop) (z4 z5 z6 z7 : Int32) : Prop := (z4 = 1000000 ∧ ∀ l a b, P l a b → ¬ nd a b ≤ l) ∨ ∃ l a b, P l a b ∧ nd a b ≤ l ∧ z4 = nI (cst l a b) ∧ z5 = nI l ∧ z6 = nI a ∧ z7 = nI b ∧ ∀ l' a' b', P l' a' b' → nd a' b' ≤ l' → Wt l a b ≤ Wt l' a' b'
theorem RB.cg {nd : Nat → Nat → Nat} {P P' : Nat → Nat → Nat → Prop} {z4 z5 z6 z7 : Int32} (h : RB nd P z4 z5 z6 z7) (hP : ∀ l a b, P l a b ↔ P' l a b) : RB nd P' z4 z5 z6 z7 := by
  rcases h with ⟨h1, h2⟩ | ⟨l, a, b, q, c, t0, t1, t2, t3, hm⟩
  · exact Or.inl ⟨h1, fun l a b q => h2 l a b ((hP l a b).mpr q)⟩
  · exact Or.inr ⟨l, a, b, (hP l a b).mp q, c, t0, t1, t2, t3, fun l' a' b' q' => hm l' a' b' ((hP l' a' b').mpr q')⟩
theorem m_tcell {T J : MI} {n k N a b l : Nat} {z4 z5 z6 z7 : Int32} {P : Nat → Nat → Nat → Prop} (v3 : Int32) (L : ML) (hW : okW T 3 n) (hR : RW T 3 n 0) (hk : k < n) (hN1 : 1 ≤ N) (hN : N ≤ 40) (h251 : ∀ t, t < N → T 251 t = skN (T 3 6) t) (hJ : TF T J) (ha : (a : Int) ≤ (T (3 + 2 + k) 2).toInt) (hb : (b : Int) ≤ (T (3 + 2 + k) 3).toInt) (hl : l ≤ 20) (hl2 : (T (3 + 2 + k) 1).toInt + l ≤ 99) (hP : ∀ l' a' b', P l' a' b' → l' ≤ 20 ∧ a' ≤ 9 ∧ b' ≤ 9 ∧ cde l' a' b' < cde l a b) (h : RB (needN (T (3 + 2 + k)) (T 3 6) (T 3 2) (T 3 4) N) P z4 z5 z6 z7) : ∃ y4 y5 y6 y7 K, b_X11_train_151 (nI k) (nI N) v3 (nI l) (nI a) L z4 z5 z6 z7 (nI b) J = some (Sum.inl (y4, y5, y6, y7, nI (b + 1), K)) ∧ TF T K ∧ RB (needN (T (3 + 2 + k)) (T 3 6) (T 3 2) (T 3 4) N) (fun l' a' b' => P l' a' b' ∨ (l' = l ∧ a' = a ∧ b' = b)) y4 y5 y6 y7 := by
  have hn := hW.1
  have hs : okR (T (3 + 2 + k)) := hW.2.2.2.2.2.2.2.2 k hk
  have ha9 : a ≤ 9 := by have := hs.2.2.1.2; omega
  have hb9 : b ≤ 9 := by have := hs.2.2.2.1.2; omega
  have c3 : J 245 (25 + k) = T (3 + 2 + k) 3 := by rw [hJ.2 _ (by omega), ← hR.c hk 3 (by omega)]
  have jk : J (3 + 2 + k) = T (3 + 2 + k) := hJ.1 _ (by omega)
  have j3 : J 3 = T 3 := hJ.1 _ (by omega)
  obtain ⟨hW', hR'⟩ := hJ.Kp.wall hW hR
  obtain ⟨K, e1, e2⟩ := m_isEnough (a := a) (b := b) (l := l) L hW' hR' hk hN1 hN (fun t ht => by rw [hJ.1 _ (by omega), j3]; exact h251 t ht) (by rw [jk]; exact ha) (by rw [jk]; exact hb) hl (by rw [jk]; exact hl2)
  rw [jk, j3] at e1
  simp only [b_X11_train_151]
  have ex : (2 : Int32) * nI l + (5 : Int32) * nI a + (3 : Int32) * nI b = nI (cst l a b) := by
    rw [show (2 : Int32) = nI 2 from rfl, show (5 : Int32) = nI 5 from rfl, show (3 : Int32) = nI 3 from rfl, pk_mul, pk_mul, pk_mul, nI_add, nI_add]
    rfl
  rw [iz 25 k (25 : Int32) rfl, gi_n (by omega) (by omega), cl_n (by omega), c3, if_neg (show ¬ T (3 + 2 + k) 3 < nI b from fun q => by rw [fa_lt, nI_bd (by omega)] at q; omega), nm_s, ex]
  generalize needN (T (3 + 2 + k)) (T 3 6) (T 3 2) (T 3 4) N = nd at h e1 ⊢
  have k1 : cst l a b ≤ 1000 := by unfold cst; omega
  have d1 : cde l a b < 10000 := by unfold cde; omega
  rcases h with ⟨h1, h2⟩ | ⟨l0, a0, b0, q, c, t0, t1, t2, t3, hm⟩
  · rw [if_neg (show ¬ z4 ≤ nI (cst l a b) from fun q => by
      rw [h1, fa_le, nI_bd (by omega)] at q
      have z : (1000000 : Int32).toInt = 1000000 := rfl
      omega), e1, bd2_s, if_b]
    by_cases c1 : nd a b ≤ l
    · rw [if_pos c1, bd5_s, nm_s, nI_1]
      refine ⟨_, _, _, _, K, rfl, hJ.tr e2, Or.inr ⟨l, a, b, Or.inr ⟨rfl, rfl, rfl⟩, c1, rfl, rfl, rfl, rfl, fun l' a' b' q' c' => ?_⟩⟩
      rcases q' with q' | ⟨rfl, rfl, rfl⟩
      · exact absurd c' (h2 _ _ _ q')
      · exact Nat.le_refl _
    · rw [if_neg c1, bd5_s, nm_s, nI_1]
      refine ⟨_, _, _, _, K, rfl, hJ.tr e2, Or.inl ⟨h1, fun l' a' b' q' => ?_⟩⟩
      rcases q' with q' | ⟨rfl, rfl, rfl⟩
      · exact h2 _ _ _ q'
      · exact c1
  · have q9 := hP _ _ _ q
    have k0 : cst l0 a0 b0 ≤ 1000 := by unfold cst; omega
    have keep : (nd a b ≤ l → Wt l0 a0 b0 ≤ Wt l a b) → RB nd (fun l' a' b' => P l' a' b' ∨ (l' = l ∧ a' = a ∧ b' = b)) z4 z5 z6 z7 := fun w => Or.inr ⟨l0, a0, b0, Or.inl q, c, t0, t1, t2, t3, fun l' a' b' q' c' => by
      rcases q' with q' | ⟨rfl, rfl, rfl⟩
      · exact hm _ _ _ q' c'
      · exact w c'⟩
    by_cases c2 : cst l0 a0 b0 ≤ cst l a b
    · rw [if_pos (show z4 ≤ nI (cst l a b) by rw [t0]; exact nI_le c2 (by omega)), bd5_s, nm_s, nI_1]
      refine ⟨_, _, _, _, J, rfl, hJ, keep (fun _ => ?_)⟩
      unfold Wt
      omega
    · rw [if_neg (show ¬ z4 ≤ nI (cst l a b) from fun q => by
        rw [t0, fa_le, nI_bd (by omega), nI_bd (by omega)] at q
        omega), e1, bd2_s, if_b]
      by_cases c1 : nd a b ≤ l
      · rw [if_pos c1, bd5_s, nm_s, nI_1]
        refine ⟨_, _, _, _, K, rfl, hJ.tr e2, Or.inr ⟨l, a, b, Or.inr ⟨rfl, rfl, rfl⟩, c1, rfl, rfl, rfl, rfl, fun l' a' b' q' c' => ?_⟩⟩
        rcases q' with q' | ⟨rfl, rfl, rfl⟩
        · have := hm _ _ _ q' c'
          unfold Wt at this ⊢
          omega
        · exact Nat.le_refl _
      · rw [if_neg c1, bd5_s, nm_s, nI_1]
        exact ⟨_, _, _, _, K, rfl, hJ.tr e2, keep (fun z => absurd z c1)⟩
theorem m_search {T : MI} {n k N hu co ln : Nat} (v3 : Int32) (L : ML) (hW : okW T 3 n) (hR : RW T 3 n 0) (hk : k < n) (hN1 : 1 ≤ N) (hN : N ≤ 40) (h251 : ∀ t, t < N → T 251 t = skN (T 3 6) t) (e1 : T (3 + 2 + k) 1 = nI ln) (l1 : ln ≤ 99) (e2 : T (3 + 2 + k) 2 = nI hu) (h2 : hu ≤ 9) (e3 : T (3 + 2 + k) 3 = nI co) (h3 : co ≤ 9) : ∃ y4 y5 y6 y7 K, lp (fun s => b_X11_train_107 (nI k) (nI N) v3 L s.1 s.2.1 s.2.2.1 s.2.2.2.1 s.2.2.2.2.1 s.2.2.2.2.2) FU ((1000000 : Int32), (0 : Int32), (0 : Int32), (0 : Int32), (0 : Int32), T) = some (y4, y5, y6, y7, K) ∧ TF T K ∧ RB (needN (T (3 + 2 + k)) (T 3 6) (T 3 2) (T 3 4) N) (fun l a b => l ≤ min 20 (99 - ln) ∧ a ≤ hu ∧ b ≤ co) y4 y5 y6 y7 := by
  have hn := hW.1
  have i1 : (T (3 + 2 + k) 1).toInt = ln := by rw [e1, nI_bd (by omega)]
  have i2 : (T (3 + 2 + k) 2).toInt = hu := by rw [e2, nI_bd (by omega)]
  have i3 : (T (3 + 2 + k) 3).toInt = co := by rw [e3, nI_bd (by omega)]
  have cc : ∀ {J : MI}, TF T J → J 245 (13 + k) = nI ln ∧ J 245 (19 + k) = nI hu ∧ J 245 (25 + k) = nI co := fun {J} hJ => ⟨by rw [hJ.2 _ (by omega), ← e1, ← hR.c hk 1 (by omega)], by rw [hJ.2 _ (by omega), ← e2, ← hR.c hk 2 (by omega)], by rw [hJ.2 _ (by omega), ← e3, ← hR.c hk 3 (by omega)]⟩
  obtain ⟨x, hx, y4, y5, y6, y7, K, rfl, w1, w2⟩ := lp_inv (f := fun s => b_X11_train_107 (nI k) (nI N) v3 L s.1 s.2.1 s.2.2.1 s.2.2.2.1 s.2.2.2.2.1 s.2.2.2.2.2)
    (fun l s => ∃ y4 y5 y6 y7 K, s = (y4, y5, y6, y7, nI l, K) ∧ TF T K ∧ RB (needN (T (3 + 2 + k)) (T 3 6) (T 3 2) (T 3 4) N) (fun l' a' b' => l' < l ∧ a' ≤ hu ∧ b' ≤ co) y4 y5 y6 y7)
    (fun x => ∃ y4 y5 y6 y7 K, x = (y4, y5, y6, y7, K) ∧ TF T K ∧ RB (needN (T (3 + 2 + k)) (T 3 6) (T 3 2) (T 3 4) N) (fun l a b => l ≤ min 20 (99 - ln) ∧ a ≤ hu ∧ b ≤ co) y4 y5 y6 y7) (min 20 (99 - ln) + 1)
    (fun l s hl hP => by
      obtain ⟨y4, y5, y6, y7, K, rfl, hK, hC⟩ := hP
      simp only [b_X11_train_107]
      rw [if_neg (show ¬ (20 : Int32) < nI l from nI_nlt (a := 20) (by omega) (by omega)), iz 13 k (13 : Int32) rfl, gi_n (by omega) (by omega), cl_n (by omega), (cc hK).1, nI_add, if_neg (show ¬ (99 : Int32) < nI (ln + l) from nI_nlt (a := 99) (by omega) (by omega))]
      obtain ⟨x, hx, z4, z5, z6, z7, K', rfl, v1, v2⟩ := lp_inv (f := fun s => b_X11_train_134 (nI k) (nI N) v3 (nI l) L s.1 s.2.1 s.2.2.1 s.2.2.2.1 s.2.2.2.2.1 s.2.2.2.2.2)
        (fun a s => ∃ y4 y5 y6 y7 K, s = (y4, y5, y6, y7, nI a, K) ∧ TF T K ∧ RB (needN (T (3 + 2 + k)) (T 3 6) (T 3 2) (T 3 4) N) (fun l' a' b' => (l' < l ∧ a' ≤ hu ∧ b' ≤ co) ∨ (l' = l ∧ a' < a ∧ b' ≤ co)) y4 y5 y6 y7)
        (fun x => ∃ y4 y5 y6 y7 K, x = (y4, y5, y6, y7, K) ∧ TF T K ∧ RB (needN (T (3 + 2 + k)) (T 3 6) (T 3 2) (T 3 4) N) (fun l' a' b' => l' < l + 1 ∧ a' ≤ hu ∧ b' ≤ co) y4 y5 y6 y7) (hu + 1)
        (fun a s ha hP => by
          obtain ⟨y4, y5, y6, y7, K, rfl, hK, hC⟩ := hP
          simp only [b_X11_train_134]
          rw [iz 19 k (19 : Int32) rfl, gi_n (by omega) (by omega), cl_n (by omega), (cc hK).2.1, if_neg (nI_nlt (by omega) (by omega))]
          obtain ⟨x, hx, z4, z5, z6, z7, K', rfl, v1, v2⟩ := lp_inv (f := fun s => b_X11_train_151 (nI k) (nI N) v3 (nI l) (nI a) L s.1 s.2.1 s.2.2.1 s.2.2.2.1 s.2.2.2.2.1 s.2.2.2.2.2)
            (fun b s => ∃ y4 y5 y6 y7 K, s = (y4, y5, y6, y7, nI b, K) ∧ TF T K ∧ RB (needN (T (3 + 2 + k)) (T 3 6) (T 3 2) (T 3 4) N) (fun l' a' b' => (l' < l ∧ a' ≤ hu ∧ b' ≤ co) ∨ (l' = l ∧ a' < a ∧ b' ≤ co) ∨ (l' = l ∧ a' = a ∧ b' < b)) y4 y5 y6 y7)
            (fun x => ∃ y4 y5 y6 y7 K, x = (y4, y5, y6, y7, K) ∧ TF T K ∧ RB (needN (T (3 + 2 + k)) (T 3 6) (T 3 2) (T 3 4) N) (fun l' a' b' => (l' < l ∧ a' ≤ hu ∧ b' ≤ co) ∨ (l' = l ∧ a' < a + 1 ∧ b' ≤ co)) y4 y5 y6 y7) (co + 1)
            (fun b s hb hP => by
              obtain ⟨y4, y5, y6, y7, K, rfl, hK, hC⟩ := hP
              obtain ⟨z4, z5, z6, z7, K', p1, p2, p3⟩ := m_tcell (a := a) (b := b) (l := l) v3 L hW hR hk hN1 hN h251 hK (by rw [i2]; omega) (by rw [i3]; omega) (by omega) (by rw [i1]; omega) (fun l' a' b' q => by unfold cde; omega) hC
              exact ⟨_, p1, z4, z5, z6, z7, K', rfl, p2, p3.cg (fun l' a' b' => by omega)⟩)
            (fun s hP => by
              obtain ⟨y4, y5, y6, y7, K, rfl, hK, hC⟩ := hP
              simp only [b_X11_train_151]
              rw [iz 25 k (25 : Int32) rfl, gi_n (by omega) (by omega), cl_n (by omega), (cc hK).2.2, if_pos (nI_lt (by omega) (by omega))]
              exact ⟨_, rfl, y4, y5, y6, y7, K, rfl, hK, hC.cg (fun l' a' b' => by omega)⟩)
            FU (show co + 1 < 2000 by omega) (y4, y5, y6, y7, (0 : Int32), K) ⟨y4, y5, y6, y7, K, rfl, hK, hC.cg (fun l' a' b' => by omega)⟩
          rw [hx, bd5_s, nm_s, nI_1]
          exact ⟨_, rfl, z4, z5, z6, z7, K', rfl, v1, v2⟩)
        (fun s hP => by
          obtain ⟨y4, y5, y6, y7, K, rfl, hK, hC⟩ := hP
          simp only [b_X11_train_134]
          rw [iz 19 k (19 : Int32) rfl, gi_n (by omega) (by omega), cl_n (by omega), (cc hK).2.1, if_pos (nI_lt (by omega) (by omega))]
          exact ⟨_, rfl, y4, y5, y6, y7, K, rfl, hK, hC.cg (fun l' a' b' => by omega)⟩)
        FU (show hu + 1 < 2000 by omega) (y4, y5, y6, y7, (0 : Int32), K) ⟨y4, y5, y6, y7, K, rfl, hK, hC.cg (fun l' a' b' => by omega)⟩
      rw [hx, bd5_s, nm_s, nI_1]
      exact ⟨_, rfl, z4, z5, z6, z7, K', rfl, v1, v2⟩)
    (fun s hP => by
      obtain ⟨y4, y5, y6, y7, K, rfl, hK, hC⟩ := hP
      simp only [b_X11_train_107]
      refine ⟨(y4, y5, y6, y7, K), ?_, y4, y5, y6, y7, K, rfl, hK, hC.cg (fun l' a' b' => by omega)⟩
      by_cases c : 20 < min 20 (99 - ln) + 1
      · rw [if_pos (show (20 : Int32) < nI (min 20 (99 - ln) + 1) from nI_lt (a := 20) c (by omega))]
      · rw [if_neg (show ¬ (20 : Int32) < nI (min 20 (99 - ln) + 1) from nI_nlt (a := 20) (by omega) (by omega)), iz 13 k (13 : Int32) rfl, gi_n (by omega) (by omega), cl_n (by omega), (cc hK).1, nI_add, if_pos (show (99 : Int32) < nI (ln + (min 20 (99 - ln) + 1)) from nI_lt (a := 99) (by omega) (by omega))])
    FU (show min 20 (99 - ln) + 1 < 2000 by omega) ((1000000 : Int32), (0 : Int32), (0 : Int32), (0 : Int32), (0 : Int32), T) ⟨_, _, _, _, T, rfl, TF.rf T, Or.inl ⟨rfl, fun l a b q => absurd q.1 (by omega)⟩⟩
  exact ⟨y4, y5, y6, y7, K, hx, w1, w2⟩
theorem best_same {nd : Nat → Nat → Nat} {cap hu co : Nat} {z : Int32} {T : MI} {y4 y5 y6 y7 : Int32} (hc : cap ≤ 20) (h2 : hu ≤ 9) (h3 : co ≤ 9) (hC : CB nd cap (fun a b => a ≤ hu ∧ b ≤ co) z T) (hR : RB nd (fun l a b => l ≤ cap ∧ a ≤ hu ∧ b ≤ co) y4 y5 y6 y7) : (z = 0 ∧ y4 = 1000000) ∨ (z = 1 ∧ ¬ y4 = 1000000 ∧ T 210 0 = y4 ∧ T 210 1 = y5 ∧ T 210 2 = y6 ∧ T 210 3 = y7) := by
  rcases hC with ⟨c1, c2⟩ | ⟨c1, a, b, q, c, t0, t1, t2, t3, hm⟩
  · rcases hR with ⟨r1, r2⟩ | ⟨l', a', b', q', c', s0, s1, s2, s3, hm'⟩
    · exact Or.inl ⟨c1, r1⟩
    · exact absurd (Nat.le_trans c' q'.1) (c2 a' b' q'.2)
  · rcases hR with ⟨r1, r2⟩ | ⟨l', a', b', q', c', s0, s1, s2, s3, hm'⟩
    · exact absurd (Nat.le_refl _) (r2 (nd a b) a b ⟨c, q⟩)
    · have m1 := hm' (nd a b) a b ⟨c, q⟩ (Nat.le_refl _)
      have m2 := hm a' b' q'.2 (Nat.le_trans c' q'.1)
      have m3 : Wt (nd a' b') a' b' ≤ Wt l' a' b' := by
        unfold Wt cst cde
        omega
      have m4 : Wt l' a' b' = Wt (nd a b) a b := by omega
      have d1 : cde l' a' b' < 10000 := by unfold cde; omega
      have d2 : cde (nd a b) a b < 10000 := by unfold cde; omega
      have m5 : cde l' a' b' = cde (nd a b) a b := by
        unfold Wt at m4
        omega
      unfold cde at m5
      have e1 : l' = nd a b := by omega
      have e2 : a' = a := by omega
      have e3 : b' = b := by omega
      subst e2 e3
      rw [e1] at s0 s1
      refine Or.inr ⟨c1, fun w => ?_, by rw [s0]; exact t0, by rw [s1]; exact t1, by rw [s2]; exact t2, by rw [s3]; exact t3⟩
      have k0 : cst (nd a' b') a' b' ≤ 1000 := by unfold cst; omega
      rw [s0, fa_eq, nI_bd (by omega)] at w
      have z : (1000000 : Int32).toInt = 1000000 := rfl
      omega
theorem ok_train (a1 : Int32) (a2 : Int32) (a3 : Int32) {I : MI} {L : ML} (h : Inv I L) : ∃ (r : Int32) (I1 : MI) (I2 : MI), f_X10_train a1 a2 a3 I L = some (r, I1) ∧ f_X11_train a1 a2 a3 I1 L = some (r, I2) ∧ Inv I2 L := by
  obtain ⟨n, hW, hR⟩ := h.1
  have hn := hW.1
  have e1 := RW.n1 hW hR
  unfold f_X10_train f_X11_train
  have e40 : ∀ a : Int32, f_X11_in a.toInt64 (1 : Int64) (40 : Int64) = some (b01 ((1 : Int32) ≤ a ∧ a ≤ 40)) := fun a => s_in32 a 1 40
  have e3 : ∀ a : Int32, f_X11_in a.toInt64 (0 : Int64) (3 : Int64) = some (b01 ((0 : Int32) ≤ a ∧ a ≤ 3)) := fun a => s_in32 a 0 3
  simp only [s_within, e3, e40, bd1_s, if_b]
  by_cases c1 : (1 : Int32) ≤ a2 ∧ a2 ≤ 40
  · simp only [if_pos c1]
    by_cases c2 : (0 : Int32) ≤ a3 ∧ a3 ≤ 3
    · simp only [if_pos c2]
      obtain ⟨N, hN1, hN, rfl⟩ : ∃ N : Nat, 1 ≤ N ∧ N ≤ 40 ∧ a2 = nI N := by
        have z1 : (1 : Int32).toInt = 1 := rfl
        have z2 : (40 : Int32).toInt = 40 := rfl
        rw [fa_le, fa_le, z1, z2] at c1
        exact rg_n (x := a2) (a := 1) (b := 40) c1 (by omega)
      obtain ⟨f, _, hf, rfl⟩ : ∃ N : Nat, 0 ≤ N ∧ N ≤ 3 ∧ a3 = nI N := by
        have z1 : (0 : Int32).toInt = 0 := rfl
        have z2 : (3 : Int32).toInt = 3 := rfl
        rw [fa_le, fa_le, z1, z2] at c2
        exact rg_n (x := a3) (a := 0) (b := 3) c2 (by omega)
      rw [s_refusesOne a1 L hn hW.2.1, bd1_s]
      rcases has_cases a1 hn with ⟨k, hk, rfl⟩ | hno
      · rw [if_pos (nI_sit hk hn), cl_n (by omega)]
        by_cases c3 : I (3 + 2 + k) 10 = -4
        · rw [if_pos c3, if_pos rfl, s_look, bd1_s, gi_n (by omega) (by omega)]
          have hs : okR (I (3 + 2 + k)) := hW.2.2.2.2.2.2.2.2 k hk
          obtain ⟨ln, _, hl, el⟩ := rg_n (a := 10) (b := 99) hs.2.1 (by omega)
          obtain ⟨hu, _, hh, eh⟩ := rg_n (a := 0) (b := 9) hs.2.2.1 (by omega)
          obtain ⟨co, _, hc, ec⟩ := rg_n (a := 0) (b := 9) hs.2.2.2.1 (by omega)
          have hF : FS I (lkF I) := ⟨fun i hi => lk_o (by omega), lk_B h.2.2.2.1, lk_LK I⟩
          obtain ⟨z, T, w1, w2, w3⟩ := s_findTraining L hF (by omega) hs c3 hN el hl eh hh ec hc
          rw [w1, bd2_s]
          have kT : Kp I T := Kp.of (fun i hi => w2.1 i (by omega))
          obtain ⟨hW', hR'⟩ := kT.wall hW hR
          have t3 : T 3 = I 3 := kT.1 _ (by omega)
          have tk : T (3 + 2 + k) = I (3 + 2 + k) := kT.1 _ (by omega)
          have s10 : T (3 + 2 + k) 10 = -4 := by rw [tk]; exact c3
          obtain ⟨J0, j1, j2, j3⟩ := m_try L hW' hR'
          obtain ⟨J1, x1, x2, x3⟩ := m_skies (nI k) (nI f) L hW' hR' hN j2 j3
          have kJ : Kp T J1 := x2.Kp
          obtain ⟨hW2, hR2⟩ := kJ.wall hW' hR'
          have u3 : J1 3 = I 3 := by rw [kJ.1 _ (by omega)]; exact t3
          have uk : J1 (3 + 2 + k) = I (3 + 2 + k) := by rw [kJ.1 _ (by omega)]; exact tk
          rw [t3] at x3
          obtain ⟨y4, y5, y6, y7, K, v1, v2, v3⟩ := m_search (k := k) (N := N) (nI f) L hW2 hR2 hk hN1 hN (by rw [u3]; exact x3) (by rw [uk]; exact el) hl (by rw [uk]; exact eh) hh (by rw [uk]; exact ec) hc
          rw [uk, u3] at v3
          have hInv : Inv K L := h.keep ((kT.tr kJ).tr v2.Kp) (v2.B (x2.B w2.2.1)) (fun _ _ => rfl) rfl
          have ref : ∀ v : Int32, (if y4 = (1000000 : Int32) then some (-4 : Int32) else (if nI f = 0 then some y4 else (if nI f = (1 : Int32) then some y5 else (if nI f = (2 : Int32) then some y6 else some y7)))) = some v → (bd1 (f_X11_isSitter (nI k) T L) fun r1 => if r1 = 0 then some ((-1 : Int32), T) else bd1 (f_X11_isDown (0 : Int32) (nI k) T L) (fun r10 => (if r10 = 0 then bd1 (f_X11_copyRow (0 : Int32) (219 : Int32) T L) (fun I13 => bd1 (lp (fun s => b_X11_train_57 (nI k) (nI N) (nI f) L s.1 s.2) FU (((0 : Int32), I13))) (fun I23 => bd5 (lp (fun s => b_X11_train_107 (nI k) (nI N) (nI f) L s.1 s.2.1 s.2.2.1 s.2.2.2.1 s.2.2.2.2.1 s.2.2.2.2.2) FU (((1000000 : Int32), (0 : Int32), (0 : Int32), (0 : Int32), (0 : Int32), I23))) (fun y60 y61 y62 y63 I64 => bd1 ((if y60 = (1000000 : Int32) then some (-4 : Int32) else (if nI f = 0 then some y60 else (if nI f = (1 : Int32) then some y61 else (if nI f = (2 : Int32) then some y62 else some y63))))) (fun y65 => some (y65, I64))))) else some (((-2 : Int32), T))))) = some (v, K) := fun v hv => by
            rw [s_isSitter _ L hn (RW.n1 hW' hR'), bd1_s, if_b, if_pos (nI_sit hk hn), m_down0 L (by omega), bd1_s, hR'.c10 hk s10, if_pos (show b01 ((0 : Int32) ≤ -1) = 0 by decide), j1, bd1_s, x1, bd1_s, v1, bd5_s, hv, bd1_s]
          rcases best_same (by omega) hh hc w3 v3 with ⟨z0, y0⟩ | ⟨z1, yn, p0, p1, p2, p3⟩
          · rw [if_pos z0, bd1_s]
            exact ⟨-4, T, K, rfl, ref _ (by rw [if_pos y0]), hInv⟩
          · rw [if_neg (show ¬ z = 0 by rw [z1]; decide), gi_n (by omega) (by omega), bd1_s, cl_n (by omega)]
            refine ⟨T 210 f, T, K, rfl, ref _ ?_, hInv⟩
            rw [if_neg yn]
            have hf4 : f = 0 ∨ f = 1 ∨ f = 2 ∨ f = 3 := by omega
            rcases hf4 with rfl | rfl | rfl | rfl
            · rw [if_pos (by decide), p0]
            · rw [if_neg (by decide), if_pos (by decide), p1]
            · rw [if_neg (by decide), if_neg (by decide), if_pos (by decide), p2]
            · rw [if_neg (by decide), if_neg (by decide), if_neg (by decide), p3]
        · rw [if_neg c3, if_neg (by decide)]
          refine ⟨-2, I, I, rfl, ?_, h⟩
          have := (hR.up hk c3).2
          rw [show 0 + 67 + k = 67 + k by omega] at this
          rw [s_isSitter _ L hn e1, bd1_s, if_b, if_pos (nI_sit hk hn), m_down0 L (by omega), bd1_s, b01_t this, if_neg (by decide)]
      · rw [if_neg hno, if_neg (by decide)]
        refine ⟨-1, I, I, rfl, ?_, h⟩
        rw [s_isSitter _ L hn e1, bd1_s, if_b, if_neg hno]
    · simp only [if_neg c2]
      refine ⟨-1, I, I, rfl, ?_, h⟩
      rw [s_isSitter _ L hn e1, bd1_s, if_b]
      exact ite_self _
  · simp only [if_neg c1]
    refine ⟨-1, I, I, rfl, ?_, h⟩
    rw [s_isSitter _ L hn e1, bd1_s, if_b]
    exact ite_self _
