/-! ===== ate ===== -/
theorem lg_eq0 {x y : Int64} : lg_cmp x y = 0 ↔ x = y := by
  unfold lg_cmp
  by_cases a : x > y
  · rw [if_pos a]
    refine ⟨fun q => absurd q (by decide), fun q => ?_⟩
    rw [q] at a
    have a' : y < y := a
    rw [fa_lt64] at a'
    omega
  · rw [if_neg a]
    by_cases b : x = y
    · rw [if_pos b]; exact ⟨fun _ => b, fun _ => rfl⟩
    · rw [if_neg b]; exact ⟨fun q => absurd q (by decide), fun q => absurd q b⟩
def okS (E : Nat → Bool) (s : Nat → Int32) (d dusk hr : Int32) (V : Nat → Int64) : Nat → Bool
  | 0 => true
  | t + 1 => okS E s d dusk hr V t && decide (V t = (trN E s d dusk hr 0 (t + 1) 5).toInt64)
theorem okS_f {E : Nat → Bool} {s : Nat → Int32} {d dusk hr : Int32} {V : Nat → Int64} {t : Nat} (h : okS E s d dusk hr V t = false) : ∀ j, okS E s d dusk hr V (t + j) = false
  | 0 => h
  | j + 1 => by
    show (okS E s d dusk hr V (t + j) && _) = false
    rw [okS_f h j]
    rfl
theorem okS_congr {E : Nat → Bool} {s s' : Nat → Int32} {d dusk hr : Int32} {V : Nat → Int64} (e : ∀ f, f ≤ 10 → s f = s' f) : ∀ t, okS E s d dusk hr V t = okS E s' d dusk hr V t
  | 0 => rfl
  | t + 1 => by
    show (okS E s d dusk hr V t && decide (V t = (trN E s d dusk hr 0 (t + 1) 5).toInt64)) = (okS E s' d dusk hr V t && decide (V t = (trN E s' d dusk hr 0 (t + 1) 5).toInt64))
    rw [okS_congr e t, tr_congr e (t + 1) 5 (by omega)]
theorem s_wouldShow {T : MI} {d dusk hr : Int32} {a s i N z : Nat} (m : Int32) (L : ML) (hL : LK T d dusk hr) (ha : a ≠ 211) (h9 : T a 9 = 0 ∨ T a 9 = 1) (hz : z ≤ 24) (h1 : T s 1 = nI z) (hi : i + N ≤ z) (hN : N ≤ 8) : ∃ r, f_X1_wouldShow a m s (nI i) (nI N) T L = some (if okS (bitE m) (T a) d dusk hr (fun t => L (s + 1) (i + t)) N then 1 else 0, va_up T 211 r) ∧ (r 9 = 0 ∨ r 9 = 1) := by
  unfold f_X1_wouldShow
  rw [s_holds _ _ L hz h1, bd1_s, if_b, if_pos (by rw [nI_bd (by omega), nI_bd (by omega)]; omega), s6_take L (fun q => ha q.symm) h9, bd1_s, tk211]
  have r9 : ∀ t, trN (bitE m) (s0 T a) d dusk hr 0 t 9 = 0 ∨ trN (bitE m) (s0 T a) d dusk hr 0 t 9 = 1 := fun t => by
    rw [tr_9 (by decide) (by decide) (by decide), s0_e (by omega)]
    exact h9
  obtain ⟨x, hx, t, hx2⟩ := lp_inv2 (f := fun s' => b_X1_wouldShow_24 m s (nI i) (nI N) L s'.1 s'.2) (fun t s' => s' = (nI t, va_up T 211 (trN (bitE m) (s0 T a) d dusk hr 0 t)) ∧ okS (bitE m) (s0 T a) d dusk hr (fun t => L (s + 1) (i + t)) t = true) (fun x => ∃ t, (x = Sum.inl (va_up T 211 (trN (bitE m) (s0 T a) d dusk hr 0 t)) ∧ okS (bitE m) (s0 T a) d dusk hr (fun t => L (s + 1) (i + t)) N = true) ∨ (x = Sum.inr (va_up T 211 (trN (bitE m) (s0 T a) d dusk hr 0 t)) ∧ okS (bitE m) (s0 T a) d dusk hr (fun t => L (s + 1) (i + t)) N = false)) N
    (fun t s' ht hP => by
      obtain ⟨rfl, hk⟩ := hP
      simp only [b_X1_wouldShow_24]
      have ep : passR (mealR (bitE m t) (trN (bitE m) (s0 T a) d dusk hr 0 t)) (skN d t) (ngN dusk hr t) (nI t) = trN (bitE m) (s0 T a) d dusk hr 0 (t + 1) := by
        show _ = passR (mealR (bitE m t) (trN (bitE m) (s0 T a) d dusk hr 0 t)) (skN d t) (ngN dusk hr t) (0 + nI t)
        rw [show (0 : Int32) + nI t = nI t from Int32.zero_add _]
      rw [if_neg (nI_ge ht (by omega)), s_isMeal m (by omega), bd1_s, s_Xpass (bitE m t) rfl L hL (by omega), bd1_s, ep, nI_add, gi_n (by omega) (by omega), cl_n (by omega), vu_at, nm_s, nI_1]
      have hd : okS (bitE m) (s0 T a) d dusk hr (fun t => L (s + 1) (i + t)) (t + 1) = (okS (bitE m) (s0 T a) d dusk hr (fun t => L (s + 1) (i + t)) t && decide (L (s + 1) (i + t) = (trN (bitE m) (s0 T a) d dusk hr 0 (t + 1) 5).toInt64)) := rfl
      rw [hk] at hd
      by_cases c : L (s + 1) (i + t) = (trN (bitE m) (s0 T a) d dusk hr 0 (t + 1) 5).toInt64
      · rw [if_pos (lg_eq0.mpr c)]
        refine Or.inl ⟨_, rfl, rfl, ?_⟩
        rw [hd, decide_eq_true c]; rfl
      · rw [if_neg (fun q => c (lg_eq0.mp q))]
        refine Or.inr ⟨_, rfl, t + 1, Or.inr ⟨rfl, ?_⟩⟩
        rw [decide_eq_false c] at hd
        have := okS_f (t := t + 1) hd (N - (t + 1))
        rw [show t + 1 + (N - (t + 1)) = N by omega] at this
        exact this)
    (fun s' hP => by
      obtain ⟨rfl, hk⟩ := hP
      simp only [b_X1_wouldShow_24]
      rw [if_pos (nI_le (Nat.le_refl N) (by omega))]
      exact ⟨_, rfl, N, Or.inl ⟨rfl, hk⟩⟩)
    FU (show N < 2000 by omega) ((0 : Int32), va_up T 211 (s0 T a)) ⟨rfl, rfl⟩
  refine ⟨trN (bitE m) (s0 T a) d dusk hr 0 t, ?_, r9 t⟩
  rw [hx, bd1_s, ← okS_congr (s := s0 T a) (fun f hf => s0_e hf)]
  rcases hx2 with ⟨rfl, q⟩ | ⟨rfl, q⟩
  · rw [q]; rfl
  · rw [q]; rfl
def cA (mt : Nat → Bool) : Nat → Nat
  | 0 => 0
  | j + 1 => cA mt j + (if mt j then 1 else 0)
def fA (mt : Nat → Bool) : Nat → Int32
  | 0 => -4
  | j + 1 => if mt j then (if cA mt j = 0 then nI j else fA mt j) else fA mt j
def cB (mt : Nat → Bool) (M : Nat) : Nat → Nat
  | 0 => 0
  | k + 1 => cB mt M k + (if mt (M - 1 - k) then 1 else 0)
def fB (mt : Nat → Bool) (M : Nat) : Nat → Int32
  | 0 => -4
  | k + 1 => if mt (M - 1 - k) then nI (M - 1 - k) else fB mt M k
theorem cA_le (mt : Nat → Bool) : ∀ j, cA mt j ≤ j
  | 0 => Nat.le_refl 0
  | j + 1 => by
    have := cA_le mt j
    show cA mt j + (if mt j then 1 else 0) ≤ j + 1
    cases mt j
    · simp; omega
    · simp; omega
theorem cA_0 (mt : Nat → Bool) : ∀ j, cA mt j = 0 → fA mt j = -4
  | 0, _ => rfl
  | j + 1, h => by
    have h' : cA mt j + (if mt j then 1 else 0) = 0 := h
    show (if mt j then (if cA mt j = 0 then nI j else fA mt j) else fA mt j) = -4
    cases e : mt j
    · rw [if_neg (by simp)]
      rw [e] at h'
      exact cA_0 mt j (by simp at h'; exact h')
    · rw [e] at h'
      simp at h'
theorem cAB (mt : Nat → Bool) (M : Nat) : ∀ k, k ≤ M → cA mt (M - k) + cB mt M k = cA mt M ∧ (if cA mt (M - k) = 0 then fB mt M k else fA mt (M - k)) = fA mt M
  | 0, _ => by
    refine ⟨rfl, ?_⟩
    show (if cA mt M = 0 then -4 else fA mt M) = fA mt M
    by_cases c : cA mt M = 0
    · rw [if_pos c, cA_0 mt M c]
    · rw [if_neg c]
  | k + 1, hk => by
    obtain ⟨a, b⟩ := cAB mt M k (by omega)
    have e : M - k = (M - (k + 1)) + 1 := by omega
    have e2 : M - 1 - k = M - (k + 1) := by omega
    rw [e] at a b
    generalize M - (k + 1) = j at a b e2
    have a' : cA mt j + (if mt j then 1 else 0) + cB mt M k = cA mt M := a
    have b' : (if cA mt j + (if mt j then 1 else 0) = 0 then fB mt M k else (if mt j then (if cA mt j = 0 then nI j else fA mt j) else fA mt j)) = fA mt M := b
    show cA mt j + (cB mt M k + (if mt (M - 1 - k) then 1 else 0)) = cA mt M ∧ (if cA mt j = 0 then (if mt (M - 1 - k) then nI (M - 1 - k) else fB mt M k) else fA mt j) = fA mt M
    rw [e2, ← a', ← b']
    cases mt j
    · simp
    · refine ⟨by simp; omega, ?_⟩
      simp
def mtN (I : MI) (k N c : Nat) (V : Nat → Int64) (m : Nat) : Bool := decide (pop m ≤ c) && okS (bitE (nI m)) (I (3 + 2 + k)) (I 3 6) (I 3 2) (I 3 4) V N
/-- a state of the class in findMeals -/
def FS (I T : MI) : Prop := (∀ i, i < 207 ∨ 212 ≤ i → T i = I i) ∧ InvB T ∧ LK T (I 3 6) (I 3 2) (I 3 4)
theorem FS.va {I T : MI} (h : FS I T) {r : Nat → Int32} (hr : r 9 = 0 ∨ r 9 = 1) : FS I (va_up T 211 r) := ⟨fun i hi => by rw [vu_ne (by omega)]; exact h.1 i hi, va_B h.2.1 hr, h.2.2.va r⟩
theorem FS.up {I T : MI} (h : FS I T) (j : Nat) (v : Int32) : FS I (up2 T 207 j v) := ⟨fun i hi => by rw [up2_ne (by omega)]; exact h.1 i hi, h.2.1.up (Or.inr (Or.inl (by decide))), fun t ht => by rw [up2_ne (by omega), up2_ne (by omega)]; exact h.2.2 t ht⟩
theorem s_findMeals {I T : MI} {n k s i N z c : Nat} (L : ML) (hW : okW I 3 n) (hk : k < n) (hT : FS I T) (hs4 : s < 4) (hz : z ≤ 24) (h1 : I (199 + 2 * s) 1 = nI z) (hi : i + N ≤ z) (hN : N ≤ 8) (hc : c ≤ 9) (ec : I (3 + 2 + k) 6 = nI c) : ∃ T', f_X1_findMeals (3 + 2 + k) (199 + 2 * s) (nI i) (nI N) T L = some T' ∧ FS I T' ∧ T' 207 3 = nI (cA (mtN I k N c (fun t => L (199 + 2 * s + 1) (i + t))) (2 ^ N)) ∧ T' 207 4 = fA (mtN I k N c (fun t => L (199 + 2 * s + 1) (i + t))) (2 ^ N) := by
  have hn := hW.1
  obtain ⟨p1, p2⟩ := two_le hN
  have h9 := e01 (hW.2.2.2.2.2.2.2.2 k hk).2.2.2.2.2.2.2.2.2.1
  generalize hmt : mtN I k N c (fun t => L (199 + 2 * s + 1) (i + t)) = mt
  unfold f_X1_findMeals
  rw [nm_s, nm_s]
  obtain ⟨x, hx, f1, f2, f3⟩ := lp_inv (f := fun s' => b_X1_findMeals_14 (3 + 2 + k) (199 + 2 * s) (nI i) (nI N) L s'.1 s'.2) (fun j s' => s'.1 = nI j ∧ FS I s'.2 ∧ s'.2 207 3 = nI (cA mt j) ∧ s'.2 207 4 = fA mt j) (fun x => FS I x ∧ x 207 3 = nI (cA mt (2 ^ N)) ∧ x 207 4 = fA mt (2 ^ N)) (2 ^ N)
    (fun j s' hj hP => by
      obtain ⟨w, K⟩ := s'
      obtain ⟨q1, q2, q3, q4⟩ := hP
      dsimp only at q1 q2 q3 q4
      subst q1
      simp only [b_X1_findMeals_14]
      have kk : K (3 + 2 + k) = I (3 + 2 + k) := q2.1 _ (by omega)
      have pl := pop_le j
      rw [shl_1 N hN, if_neg (nI_ge hj (by omega)), s_bitCount (by omega), bd1_s, kk, ec]
      by_cases d1 : pop j ≤ c
      · rw [if_neg (fun q => by have := (nI_ltI (by omega) (by omega)).mp q; omega)]
        obtain ⟨r, y1, y2⟩ := s_wouldShow (T := K) (a := 3 + 2 + k) (s := 199 + 2 * s) (i := i) (N := N) (z := z) (nI j) L q2.2.2 (by omega) (by rw [kk]; exact h9) hz (by rw [q2.1 _ (by omega)]; exact h1) hi hN
        rw [kk] at y1
        have em : mt j = okS (bitE (nI j)) (I (3 + 2 + k)) (I 3 6) (I 3 2) (I 3 4) (fun t => L (199 + 2 * s + 1) (i + t)) N := by
          rw [← hmt]
          unfold mtN
          rw [decide_eq_true d1]; rfl
        rw [y1, bd2_s, ← em]
        have v3 : va_up K 211 r 207 3 = nI (cA mt j) := by rw [vu_ne (by omega)]; exact q3
        have v4 : va_up K 211 r 207 4 = fA mt j := by rw [vu_ne (by omega)]; exact q4
        cases e : mt j
        · rw [if_pos (by decide), bd1_s, nm_s, nI_1]
          refine ⟨_, rfl, rfl, q2.va y2, ?_, ?_⟩
          · show va_up K 211 r 207 3 = nI (cA mt j + (if mt j then 1 else 0))
            rw [v3, e]; rfl
          · show va_up K 211 r 207 4 = (if mt j then (if cA mt j = 0 then nI j else fA mt j) else fA mt j)
            rw [v4, e]; rfl
        · rw [if_neg (by decide), v3]
          have hcl := cA_le mt j
          by_cases d2 : cA mt j = 0
          · rw [d2, if_pos (show nI 0 = 0 from rfl), nm_s, bd1_s, nm_s, bd1_s, nm_s, nI_1, up2_n (by decide), v3]
            refine ⟨_, rfl, rfl, ((q2.va y2).up 4 (nI j)).up 3 _, ?_, ?_⟩
            · show up2 (up2 (va_up K 211 r) 207 4 (nI j)) 207 3 (nI (cA mt j) + 1) 207 3 = nI (cA mt j + (if mt j then 1 else 0))
              rw [up2_s, e, nI_1]; rfl
            · show up2 (up2 (va_up K 211 r) 207 4 (nI j)) 207 3 (nI (cA mt j) + 1) 207 4 = (if mt j then (if cA mt j = 0 then nI j else fA mt j) else fA mt j)
              rw [up2_n (by decide), up2_s, e, if_pos d2]; rfl
          · rw [if_neg (show ¬ nI (cA mt j) = 0 from fun q => d2 ((nI_eq (b := 0) (by omega) (by omega)).mp q)), bd1_s, nm_s, bd1_s, nm_s, nI_1, v3]
            refine ⟨_, rfl, rfl, (q2.va y2).up 3 _, ?_, ?_⟩
            · show up2 (va_up K 211 r) 207 3 (nI (cA mt j) + 1) 207 3 = nI (cA mt j + (if mt j then 1 else 0))
              rw [up2_s, e, nI_1]; rfl
            · show up2 (va_up K 211 r) 207 3 (nI (cA mt j) + 1) 207 4 = (if mt j then (if cA mt j = 0 then nI j else fA mt j) else fA mt j)
              rw [up2_n (by decide), v4, e, if_neg d2]; rfl
      · have em : mt j = false := by
          rw [← hmt]
          unfold mtN
          rw [decide_eq_false d1]; rfl
        rw [if_pos (nI_lt (by omega) (by omega)), bd1_s, nm_s, nI_1]
        refine ⟨_, rfl, rfl, q2, ?_, ?_⟩
        · show K 207 3 = nI (cA mt j + (if mt j then 1 else 0))
          rw [q3, em]; rfl
        · show K 207 4 = (if mt j then (if cA mt j = 0 then nI j else fA mt j) else fA mt j)
          rw [q4, em]; rfl)
    (fun s' hP => by
      obtain ⟨w, K⟩ := s'
      obtain ⟨q1, q2, q3, q4⟩ := hP
      dsimp only at q1 q2 q3 q4
      subst q1
      simp only [b_X1_findMeals_14]
      rw [shl_1 N hN, if_pos (nI_le (Nat.le_refl _) (by omega))]
      exact ⟨_, rfl, q2, q3, q4⟩)
    FU (show 2 ^ N < 2000 by omega) ((0 : Int32), up2 (up2 T 207 3 0) 207 4 (-4)) ⟨rfl, (hT.up 3 0).up 4 (-4), by
      show up2 (up2 T 207 3 0) 207 4 (-4) 207 3 = nI 0
      rw [up2_n (by decide), up2_s]; rfl, by
      show up2 (up2 T 207 3 0) 207 4 (-4) 207 4 = -4
      exact up2_s⟩
  rw [hx, bd1_s]
  exact ⟨x, rfl, f1, f2, f3⟩
theorem m_showR {T : MI} {n k N s i : Nat} (m : Nat) (V : Nat → Int64) (f0 : Bool) (a6 v9 v10 : Int32) (L : ML) (hW : okW T 3 n) (hR : RW T 3 n 0) (hk : k < n) (hN : N ≤ 8) (hi : i + N ≤ 24) (hs : s < 4) (hV : ∀ t, t < N → L 247 (24 * s + i + t) = V t) {J0 : MI} (j2 : TF T J0) (j3 : MRow J0 219 n (T 3 2) (T 3 4) (T 3 6) (fun q => T (3 + 2 + q))) : ∃ J, lp (fun s' => b_X11_ate_138 (nI k) (nI N) a6 (nI (24 * s + i)) v9 v10 (nI m) L s'.1 s'.2.1 s'.2.2) FU ((if f0 then (1 : Int32) else 0), (0 : Int32), J0) = some (if f0 && okS (bitE (nI m)) (T (3 + 2 + k)) (T 3 6) (T 3 2) (T 3 4) V N then (1 : Int32) else 0, J) ∧ TF T J := by
  have hn := hW.1
  have hh : rg (T 3 4) 0 9999 := hW.2.2.2.2.1
  obtain ⟨y, hy, J, rfl, hJ⟩ := lp_inv (f := fun s' => b_X11_ate_138 (nI k) (nI N) a6 (nI (24 * s + i)) v9 v10 (nI m) L s'.1 s'.2.1 s'.2.2) (fun t s' => ∃ J, s' = ((if f0 && okS (bitE (nI m)) (T (3 + 2 + k)) (T 3 6) (T 3 2) (T 3 4) V t then (1 : Int32) else 0), nI t, J) ∧ TF T J ∧ MRow J 219 n (T 3 2) (T 3 4 + nI t) (drN (T 3 6) t) (fun q => trN (only k (bitE (nI m)) q) (T (3 + 2 + q)) (T 3 6) (T 3 2) (T 3 4) (T 3 4) t)) (fun x => ∃ J, x = ((if f0 && okS (bitE (nI m)) (T (3 + 2 + k)) (T 3 6) (T 3 2) (T 3 4) V N then (1 : Int32) else 0), J) ∧ TF T J) N
    (fun t s' ht hP => by
      obtain ⟨K, rfl, hK, hM⟩ := hP
      simp only [b_X11_ate_138]
      obtain ⟨K0, J, w1, w2, w3, w4⟩ := m_eatStep L hn hk hh (by omega) hM
      have ei : (256 : Int32) + nI k = nI (256 + k) := nI_add 256 k
      have e5 : mrec (J 245) 219 k 5 = trN (only k (bitE (nI m)) k) (T (3 + 2 + k)) (T 3 6) (T 3 2) (T 3 4) (T 3 4) (t + 1) 5 := (w4.2.2.2.2 k hk).1 5 (by omega)
      rw [only_k, mrec9 (by omega), show 219 + 7 + 6 * 5 + k = 256 + k by omega, (tr_off (t + 1) (fun t ht => ⟨offh hh t (by omega), off0 t (by omega)⟩)).1 5 (by omega)] at e5
      rw [if_neg (nI_ge ht (by omega)), m_has (nI m) (by omega), bd1_s, w1, bd1_s, w2, bd1_s, ei, gi_n (by omega) (by omega), nI_add, gi_n (by omega) (by omega), cl_n (by omega), cl_n (by omega), e5, hV t ht]
      refine ⟨((if f0 && okS (bitE (nI m)) (T (3 + 2 + k)) (T 3 6) (T 3 2) (T 3 4) V (t + 1) then (1 : Int32) else 0), nI (t + 1), J), ?_, J, rfl, hK.tr w3, w4⟩
      show _ = some (Sum.inl ((if f0 && (okS (bitE (nI m)) (T (3 + 2 + k)) (T 3 6) (T 3 2) (T 3 4) V t && decide (V t = (trN (bitE (nI m)) (T (3 + 2 + k)) (T 3 6) (T 3 2) (T 3 4) 0 (t + 1) 5).toInt64)) then (1 : Int32) else 0), nI (t + 1), J))
      cases f0
      · rw [if_pos (by simp), bd1_s, nm_s, nI_1]; simp
      · cases okS (bitE (nI m)) (T (3 + 2 + k)) (T 3 6) (T 3 2) (T 3 4) V t
        · rw [if_pos (by simp), bd1_s, nm_s, nI_1]; simp
        · rw [if_neg (show ¬ (if (true && true) = true then (1 : Int32) else 0) = 0 by decide)]
          by_cases c : V t = (trN (bitE (nI m)) (T (3 + 2 + k)) (T 3 6) (T 3 2) (T 3 4) 0 (t + 1) 5).toInt64
          · rw [if_pos (lg_eq0.mpr c.symm), bd1_s, nm_s, nI_1, decide_eq_true c]; rfl
          · rw [if_neg (fun q => c (lg_eq0.mp q).symm), bd1_s, nm_s, nI_1, decide_eq_false c]; rfl)
    (fun s' hP => by
      obtain ⟨K, rfl, hK, hM⟩ := hP
      simp only [b_X11_ate_138]
      rw [if_pos (nI_le (Nat.le_refl N) (by omega))]
      exact ⟨_, rfl, K, rfl, hK⟩)
    FU (show N < 2000 by omega) ((if f0 then (1 : Int32) else 0), (0 : Int32), J0) ⟨J0, by cases f0 <;> rfl, j2, by
      show MRow J0 219 n (T 3 2) (T 3 4 + 0) (T 3 6) (fun q => T (3 + 2 + q))
      rw [Int32.add_zero]
      exact j3⟩
  exact ⟨J, hy, hJ⟩
theorem ok_ate (a1 : Int32) (a2 : Int32) (a3 : Int32) (a4 : Int32) (a5 : Int32) (a6 : Int32) {I : MI} {L : ML} (h : Inv I L) : ∃ (r : Int32) (I1 : MI) (I2 : MI), f_X10_ate a1 a2 a3 a4 a5 a6 I L = some (r, I1) ∧ f_X11_ate a1 a2 a3 a4 a5 a6 I1 L = some (r, I2) ∧ Inv I2 L := by
  obtain ⟨n, hW, hR⟩ := h.1
  have hn := hW.1
  have e1 := RW.n1 hW hR
  unfold f_X10_ate f_X11_ate
  rw [s_has a1 L hn hW.2.1, bd1_s, if_b, s_within, bd1_s, if_b, s_within, bd1_s, if_b, show (0 : Int64) = (0 : Int32).toInt64 from rfl, show (1 : Int64) = (1 : Int32).toInt64 from rfl, show (8 : Int64) = (8 : Int32).toInt64 from rfl]
  simp only [s_in32, bd1_s, if_b]
  rcases has_cases a1 hn with ⟨k, hk, rfl⟩ | hno
  · rw [if_pos (nI_sit hk hn)]
    have hlane : ∀ (o : Option (Int32 × MI)) (K : MI), (∃ b, f_X11_isLane a2 a3 = some b ∧ (b = 0 → (bd1 (f_X11_isLane a2 a3) fun r4 => if r4 = 0 then some ((-1 : Int32), K) else o) = some (-1, K)) ∧ (b ≠ 0 → (bd1 (f_X11_isLane a2 a3) fun r4 => if r4 = 0 then some ((-1 : Int32), K) else o) = o)) := fun o K => by
      refine ⟨_, m_isLane a2 a3, fun q => ?_, fun q => ?_⟩
      · rw [m_isLane, bd1_s, if_pos q]
      · rw [m_isLane, bd1_s, if_neg q]
    by_cases c1 : (1 : Int32) ≤ a5 ∧ a5 ≤ 8
    · by_cases c2 : (0 : Int32) ≤ a6 ∧ a6 ≤ 1
      · simp only [if_pos c1, if_pos c2]
        rcases row_cases h.2.2.2.2.1 a2 a3 a4 a5 with ⟨r, x1, x2, x3⟩ | ⟨s, a, z, i, N, hs, ha, hz, him, rfl, rfl, rfl, rfl, q1, q2, q3, q4, q5, x1, x2, x3⟩
        · rw [x1, bd1_s, if_neg x2]
          rcases x3 with ⟨rfl, x4⟩ | ⟨x4, x5, x6⟩
          · exact ⟨_, I, I, rfl, by rw [s_isSitter _ L hn e1, bd1_s, if_b, if_pos (nI_sit hk hn), x4, bd1_s, if_pos rfl], h⟩
          · exact ⟨_, I, I, rfl, by rw [s_isSitter _ L hn e1, bd1_s, if_b, if_pos (nI_sit hk hn), x5, bd1_s, if_neg (by decide), x6, bd1_s, if_neg x4], h⟩
        · have hN : N ≤ 8 := by
            have := c1.2
            have z2 : (8 : Int32).toInt = 8 := rfl
            rw [fa_le, z2, nI_bd (by omega)] at this
            omega
          obtain ⟨p1, p2⟩ := two_le hN
          rw [x1, bd1_s, if_pos rfl, gi_n (by omega) (by omega), cl_n (by omega), s_sits, bd1_s, if_b]
          by_cases c3 : I (3 + 2 + k) 10 = -4
          · have hok := hW.2.2.2.2.2.2.2.2 k hk
            obtain ⟨c, hc0, hc9, ec⟩ := rg_n (x := I (3 + 2 + k) 6) (a := 0) (b := 9) hok.2.2.2.2.2.2.1 (by omega)
            have hF : FS I (lkF I) := ⟨fun i hi => lk_o (by omega), lk_B h.2.2.2.1, lk_LK I⟩
            obtain ⟨T, y1, y2, y3, y4⟩ := s_findMeals (c := c) L hW hk hF hs hz q3 him hN hc9 ec
            rw [if_pos c3, s_look, bd1_s, gi_n (by omega) (by omega), cl_n (by omega), y1, bd1_s, some_if, bd1_s, y3, y4]
            generalize hmt : mtN I k N c (fun t => L (199 + 2 * s + 1) (i + t)) = mt
            have kT : Kp I T := (show US I T from ⟨y2.1, y2.2.1⟩).Kp
            obtain ⟨hW', hR'⟩ := kT.wall hW hR
            have s10 : T (3 + 2 + k) 10 = -4 := by rw [kT.1 _ (by omega)]; exact c3
            have ei : (43 : Int32) + nI k = nI (43 + k) := nI_add 43 k
            have ex : (1 : Int32) <<< (nI N &&& (31 : Int32)) - (1 : Int32) = nI (2 ^ N) + (-1) := by
              rw [shl_1 N hN, Int32.sub_eq_add_neg]
            obtain ⟨y, hy, J, rfl, hJ⟩ := lp_inv (f := fun s' => b_X11_ate_98 (nI k) (nI N) a6 (nI (24 * s + i)) L s'.1 s'.2.1 s'.2.2.1 s'.2.2.2) (fun j s' => ∃ J, s' = (nI (cB mt (2 ^ N) j), fB mt (2 ^ N) j, nI (2 ^ N - j) + (-1), J) ∧ TF T J) (fun x => ∃ J, x = (nI (cB mt (2 ^ N) (2 ^ N)), fB mt (2 ^ N) (2 ^ N), J) ∧ TF T J) (2 ^ N)
              (fun j s' hj hP => by
                obtain ⟨K, rfl, hK⟩ := hP
                simp only [b_X11_ate_98]
                have em : nI (2 ^ N - j) + (-1 : Int32) = nI (2 ^ N - 1 - j) := by
                  rw [show 2 ^ N - j = (2 ^ N - 1 - j) + 1 by omega]
                  exact pk_m1 _
                rw [em]
                have pl := pop_le (2 ^ N - 1 - j)
                obtain ⟨hW2, hR2⟩ := hK.Kp.wall hW' hR'
                obtain ⟨J0, j1, j2, j3⟩ := m_try L hW2 hR2
                have k3 : K 3 = I 3 := by rw [hK.1 3 (by omega)]; exact kT.1 3 (by omega)
                have kk : K (3 + 2 + k) = I (3 + 2 + k) := by rw [hK.1 _ (by omega)]; exact kT.1 _ (by omega)
                have e43 : J0 245 (43 + k) = nI c := by
                  rw [(hK.tr j2).2 _ (by omega), show 43 + k = 7 + 6 * 6 + k by omega, hR'.c hk 6 (by omega), kT.1 _ (by omega)]
                  exact ec
                have ef : (if nI c < nI (pop (2 ^ N - 1 - j)) then some (0 : Int32) else some 1) = some (if decide (pop (2 ^ N - 1 - j) ≤ c) then (1 : Int32) else 0) := by
                  by_cases d : pop (2 ^ N - 1 - j) ≤ c
                  · rw [if_neg (fun q => by have := (nI_ltI (by omega) (by omega)).mp q; omega), decide_eq_true d]; rfl
                  · rw [if_pos (nI_lt (by omega) (by omega)), decide_eq_false d]; rfl
                obtain ⟨J, w1, w2⟩ := m_showR (s := s) (i := i) (2 ^ N - 1 - j) (fun t => L (199 + 2 * s + 1) (i + t)) (decide (pop (2 ^ N - 1 - j) ≤ c)) a6 (nI (cB mt (2 ^ N) j)) (fB mt (2 ^ N) j) L hW2 hR2 hk hN (by omega) hs (fun t ht => by
                  have := q5 (i + t) (by omega)
                  rw [show 200 + 2 * s = 199 + 2 * s + 1 by omega, show 24 * s + (i + t) = 24 * s + i + t by omega] at this
                  exact this.symm) j2 j3
                have emt : (decide (pop (2 ^ N - 1 - j) ≤ c) && okS (bitE (nI (2 ^ N - 1 - j))) (K (3 + 2 + k)) (K 3 6) (K 3 2) (K 3 4) (fun t => L (199 + 2 * s + 1) (i + t)) N) = mt (2 ^ N - 1 - j) := by
                  rw [k3, kk, ← hmt]
                  rfl
                rw [emt] at w1
                rw [if_neg (nI_pos (by omega)), j1, bd1_s, m_ones (by omega), bd1_s, ei, gi_n (by omega) (by omega), cl_n (by omega), e43, ef, bd1_s, w1, bd2_s, some_if, bd1_s, nm_s, some_if, bd1_s, nm_s]
                refine ⟨(nI (cB mt (2 ^ N) (j + 1)), fB mt (2 ^ N) (j + 1), nI (2 ^ N - (j + 1)) + (-1), J), ?_, J, rfl, hK.tr w2⟩
                show _ = some (Sum.inl (nI (cB mt (2 ^ N) j + (if mt (2 ^ N - 1 - j) then 1 else 0)), (if mt (2 ^ N - 1 - j) then nI (2 ^ N - 1 - j) else fB mt (2 ^ N) j), nI (2 ^ N - (j + 1)) + (-1), J))
                rw [show 2 ^ N - (j + 1) = 2 ^ N - 1 - j by omega]
                cases mt (2 ^ N - 1 - j)
                · rw [if_pos (by decide), if_pos (by decide), Int32.add_zero]; rfl
                · rw [if_neg (by decide), if_neg (by decide), nI_1]; rfl)
              (fun s' hP => by
                obtain ⟨K, rfl, hK⟩ := hP
                simp only [b_X11_ate_98]
                rw [if_pos (by rw [Nat.sub_self]; decide)]
                exact ⟨_, rfl, K, rfl, hK⟩)
              FU (show 2 ^ N < 2000 by omega) ((0 : Int32), (-4 : Int32), nI (2 ^ N) + (-1), T) ⟨T, rfl, TF.rf T⟩
            have hab := cAB mt (2 ^ N) (2 ^ N) (Nat.le_refl _)
            rw [Nat.sub_self] at hab
            have hc1 : cB mt (2 ^ N) (2 ^ N) = cA mt (2 ^ N) := by have := hab.1; rw [show cA mt 0 = 0 from rfl, Nat.zero_add] at this; exact this
            have hf1 : fB mt (2 ^ N) (2 ^ N) = fA mt (2 ^ N) := by have := hab.2; rw [if_pos (show cA mt 0 = 0 from rfl)] at this; exact this
            rw [hc1, hf1] at hy
            refine ⟨_, T, J, rfl, ?_, h.tried kT y2.2.1 hJ⟩
            have e24' : ((24 : Int32) * nI s) + nI i = nI (24 * s + i) := e24 s i
            rw [s_isSitter _ L hn (RW.n1 hW' hR'), bd1_s, if_b, if_pos (nI_sit hk hn), x2, bd1_s, if_neg (by decide), against_congr (I := I) (L := L) _ _ _ _ kT.2.2.2.2.2.1 kT.2.2.2.2.2.2.1, x3, bd1_s, if_pos (by decide), m_down0 L (by omega), bd1_s, hR'.c10 hk s10, if_pos (show b01 ((0 : Int32) ≤ -1) = 0 by decide), nm_s, nm_s, e24', ex, hy, bd3_s, some_if, bd1_s]
          · rw [if_neg c3]
            refine ⟨-2, I, I, rfl, ?_, h⟩
            have := (hR.up hk c3).2
            rw [show 0 + 67 + k = 67 + k by omega] at this
            rw [s_isSitter _ L hn e1, bd1_s, if_b, if_pos (nI_sit hk hn), x2, bd1_s, if_neg (by decide), x3, bd1_s, if_pos (by decide), m_down0 L (by omega), bd1_s, b01_t this, if_neg (by decide)]
      · simp only [if_pos c1, if_neg c2]
        refine ⟨-1, I, I, rfl, ?_, h⟩
        rw [s_isSitter _ L hn e1, bd1_s, if_b, if_pos (nI_sit hk hn), m_isLane, bd1_s, if_b, ite_self]
    · simp only [if_neg c1]
      refine ⟨-1, I, I, rfl, ?_, h⟩
      rw [s_isSitter _ L hn e1, bd1_s, if_b, if_pos (nI_sit hk hn), m_isLane, bd1_s, if_b, ite_self]
  · rw [if_neg hno]
    refine ⟨-1, I, I, rfl, ?_, h⟩
    rw [s_isSitter _ L hn e1, bd1_s, if_b, if_neg hno]
