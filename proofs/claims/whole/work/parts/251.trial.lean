theorem vv {I : MI} {a : Nat} (x y : Nat → Int32) : va_up (va_up I a x) a y = va_up I a y := funext fun i => by
  by_cases e : i = a
  · rw [e, vu_at, vu_at]
  · rw [vu_ne e, vu_ne e, vu_ne e]
def s0 (I : MI) (a : Nat) : Nat → Int32 := fun j => if j < 11 then I a j else I 211 j
theorem tk211 {I : MI} {a : Nat} : cpN I 211 a 0 11 = va_up I 211 (s0 I a) := funext fun i => by
  by_cases e : i = 211
  · rw [e, vu_at]
    refine funext fun j => ?_
    unfold cpN s0
    by_cases c : j < 11
    · rw [if_pos ⟨rfl, by omega, c⟩, if_pos c]
    · rw [if_neg (fun q => c q.2.2), if_neg c]
  · rw [vu_ne e]
    refine funext fun j => ?_
    unfold cpN
    rw [if_neg (fun q => e q.1)]
theorem s0_e {I : MI} {a f : Nat} (h : f ≤ 10) : s0 I a f = I a f := by
  unfold s0
  rw [if_pos (by omega)]
theorem pass_9 (s : Nat → Int32) (sky night hr : Int32) {f : Nat} (h5 : f ≠ 5) (h10 : f ≠ 10) : passR s sky night hr f = s f := by
  unfold passR
  by_cases c : s 10 = -4
  · rw [if_pos c, if_neg h5, if_neg h10]
  · rw [if_neg c]
theorem meal_9 (m : Bool) (s : Nat → Int32) {f : Nat} (h5 : f ≠ 5) (h6 : f ≠ 6) : mealR m s f = s f := by
  unfold mealR
  cases m
  · rfl
  · show eatR s f = s f
    unfold eatR
    by_cases c : s 10 = -4 ∧ 0 < s 6
    · rw [if_pos c, if_neg h5, if_neg h6]
    · rw [if_neg c]
theorem tr_9 {E : Nat → Bool} {s : Nat → Int32} {d dusk hr h : Int32} {f : Nat} (h5 : f ≠ 5) (h6 : f ≠ 6) (h10 : f ≠ 10) : ∀ N, trN E s d dusk hr h N f = s f
  | 0 => rfl
  | N + 1 => by
    show passR (mealR (E N) (trN E s d dusk hr h N)) _ _ _ f = s f
    rw [pass_9 _ _ _ _ h5 h10, meal_9 _ _ h5 h6, tr_9 h5 h6 h10 N]
theorem sat_congr {E : Nat → Bool} {s s' : Nat → Int32} {d dusk hr : Int32} (e : ∀ f, f ≤ 10 → s f = s' f) : ∀ N, satN E s d dusk hr N = satN E s' d dusk hr N
  | 0 => rfl
  | N + 1 => by
    show satN E s d dusk hr N + (if trN E s d dusk hr 0 (N + 1) 10 = -4 then 1 else 0) = satN E s' d dusk hr N + (if trN E s' d dusk hr 0 (N + 1) 10 = -4 then 1 else 0)
    rw [sat_congr e N, tr_congr e (N + 1) 10 (by omega)]
theorem sat_E {E E' : Nat → Bool} {s : Nat → Int32} {d dusk hr : Int32} : ∀ N, (∀ t, t < N → E t = E' t) → satN E s d dusk hr N = satN E' s d dusk hr N
  | 0, _ => rfl
  | N + 1, e => by
    show satN E s d dusk hr N + (if trN E s d dusk hr 0 (N + 1) 10 = -4 then 1 else 0) = satN E' s d dusk hr N + (if trN E' s d dusk hr 0 (N + 1) 10 = -4 then 1 else 0)
    rw [sat_E N (fun t ht => e t (by omega)), tr_E (N + 1) e]
theorem sat_le (E : Nat → Bool) (s : Nat → Int32) (d dusk hr : Int32) : ∀ N, satN E s d dusk hr N ≤ N
  | 0 => Nat.le_refl 0
  | N + 1 => by
    have := sat_le E s d dusk hr N
    show satN E s d dusk hr N + (if trN E s d dusk hr 0 (N + 1) 10 = -4 then 1 else 0) ≤ N + 1
    by_cases c : trN E s d dusk hr 0 (N + 1) 10 = -4
    · rw [if_pos c]; omega
    · rw [if_neg c]; omega
def bitE (m : Int32) (t : Nat) : Bool := decide (t < 8 ∧ ((m >>> (nI t &&& (31 : Int32))) &&& (1 : Int32)) = 1)
theorem s_isMeal (m : Int32) {t : Nat} (ht : t < 60) : f_X1_isMeal (nI t) m = some (if bitE m t then 1 else 0) := by
  unfold f_X1_isMeal bitE
  by_cases c : t < 8
  · rw [if_neg (show ¬ (8 : Int32) ≤ nI t from nI_ge (b := 8) c (by omega))]
    by_cases q : ((m >>> (nI t &&& (31 : Int32))) &&& (1 : Int32)) = 1
    · rw [if_pos q, bd1_s, gd_t (Or.inr rfl), decide_eq_true ⟨c, q⟩]; rfl
    · rw [if_neg q, bd1_s, gd_t (Or.inl rfl), decide_eq_false (fun z => q z.2)]; rfl
  · rw [if_pos (show (8 : Int32) ≤ nI t from nI_le (a := 8) (by omega) (by omega)), bd1_s, gd_t (Or.inl rfl), decide_eq_false (fun z => c z.1)]; rfl
theorem m_has (m : Int32) {t : Nat} (ht : t < 8) : f_X11_has m (nI t) = some (if bitE m t then 1 else 0) := by
  unfold f_X11_has bitE
  by_cases q : ((m >>> (nI t &&& (31 : Int32))) &&& (1 : Int32)) = 1
  · rw [if_pos q, bd1_s, gd_t (Or.inr rfl), decide_eq_true ⟨ht, q⟩]; rfl
  · rw [if_neg q, bd1_s, gd_t (Or.inl rfl), decide_eq_false (fun z => q z.2)]; rfl
theorem bit_0 : ∀ t, bitE 0 t = no t := fun t => by
  unfold bitE no
  refine decide_eq_false (fun q => ?_)
  have k : ∀ t, t < 8 → ¬ (((0 : Int32) >>> (nI t &&& (31 : Int32))) &&& (1 : Int32)) = 1 := by decide
  exact k t q.1 q.2
theorem s_strainB {I : MI} {d dusk hr : Int32} {a N : Nat} (L : ML) (hL : LK I d dusk hr) (ha : a ≠ 211) (h9 : I a 9 = 0 ∨ I a 9 = 1) (hN : N ≤ 60) : f_X1_strainBehind a (nI N) I L = some (trN no (s0 I a) d dusk hr 0 N 5, va_up I 211 (trN no (s0 I a) d dusk hr 0 N)) := by
  unfold f_X1_strainBehind
  rw [s6_take L (fun q => ha q.symm) h9, bd1_s, tk211]
  rw [bd1_of (lp_forF (s0 := ((0 : Int32), va_up I 211 (s0 I a))) (fun k => (nI k, va_up I 211 (trN no (s0 I a) d dusk hr 0 k))) N (x := va_up I 211 (trN no (s0 I a) d dusk hr 0 N)) rfl (fun k hk => ?_) ?_ (by omega)), vu_at]
  · simp only [b_X1_strainBehind_10]
    rw [if_pos (nI_le (Nat.le_refl N) (by omega))]
  · simp only [b_X1_strainBehind_10]
    rw [if_neg (nI_ge hk (by omega)), s_Xpass (t := k) (mm := 0) false rfl L hL (by omega), bd1_s, nm_s, nI_1]
    refine congrArg (fun z => some (Sum.inl (nI (k + 1), va_up I 211 z))) ?_
    show _ = passR (mealR (no k) (trN no (s0 I a) d dusk hr 0 k)) (skN d k) (ngN dusk hr k) (0 + nI k)
    rw [show (0 : Int32) + nI k = nI k from Int32.zero_add _]
    rfl
theorem tr_stay {E : Nat → Bool} {s : Nat → Int32} {d dusk hr h : Int32} {k : Nat} (c : ¬ trN E s d dusk hr h k 10 = -4) : ∀ j, trN E s d dusk hr h (k + j) = trN E s d dusk hr h k
  | 0 => rfl
  | j + 1 => by
    show passR (mealR (E (k + j)) (trN E s d dusk hr h (k + j))) _ _ _ = _
    rw [tr_stay c j, meal_down _ c, pass_down c]
theorem s_hoursSat {I : MI} {d dusk hr : Int32} {a N : Nat} (m : Int32) (L : ML) (hL : LK I d dusk hr) (ha : a ≠ 211) (h9 : I a 9 = 0 ∨ I a 9 = 1) (hs : I a 10 = -4) (hN : N ≤ 60) : ∃ r, f_X1_hoursSat a (nI N) m I L = some (nI (satN (bitE m) (I a) d dusk hr N), va_up I 211 r) ∧ (r 9 = 0 ∨ r 9 = 1) := by
  unfold f_X1_hoursSat
  rw [s6_take L (fun q => ha q.symm) h9, bd1_s, tk211]
  obtain ⟨x, hx, rfl⟩ := lp_inv2 (f := fun s => b_X1_hoursSat_11 (nI N) m L s.1 s.2) (fun k s => s = (nI k, va_up I 211 (trN (bitE m) (s0 I a) d dusk hr 0 k))) (fun x => x = va_up I 211 (trN (bitE m) (s0 I a) d dusk hr 0 N)) N
    (fun k s hk hP => by
      subst hP
      simp only [b_X1_hoursSat_11]
      rw [if_neg (nI_ge hk (by omega)), s_sits, bd1_s, if_b, vu_at]
      by_cases c : trN (bitE m) (s0 I a) d dusk hr 0 k 10 = -4
      · rw [if_pos c, s_isMeal m (by omega), bd1_s, s_Xpass (bitE m k) rfl L hL (by omega), bd1_s, nm_s, nI_1]
        refine Or.inl ⟨_, rfl, ?_⟩
        show _ = (nI (k + 1), va_up I 211 (passR (mealR (bitE m k) (trN (bitE m) (s0 I a) d dusk hr 0 k)) (skN d k) (ngN dusk hr k) (0 + nI k)))
        rw [show (0 : Int32) + nI k = nI k from Int32.zero_add _]
      · rw [if_neg c]
        refine Or.inr ⟨_, rfl, ?_⟩
        have := tr_stay c (N - k)
        rw [show k + (N - k) = N by omega] at this
        rw [this])
    (fun s hP => by
      subst hP
      simp only [b_X1_hoursSat_11]
      rw [if_pos (nI_le (Nat.le_refl N) (by omega))]
      exact ⟨_, rfl, rfl⟩)
    FU (show N < 2000 by omega) ((0 : Int32), va_up I 211 (s0 I a)) rfl
  rw [hx, bd1_s, s_sits, bd1_s, if_b, vu_at]
  refine ⟨trN (bitE m) (s0 I a) d dusk hr 0 N, ?_, ?_⟩
  · rw [← sat_congr (s := s0 I a) (fun f hf => s0_e hf)]
    rcases sat_inv (E := bitE m) (s := s0 I a) (d := d) (dusk := dusk) (hr := hr) (h := 0) (by rw [s0_e (by omega)]; exact hs) N (fun t ht => off0 t (by omega)) (by omega) with ⟨p, q⟩ | ⟨p, q1, q2⟩
    · rw [if_pos p, bd1_s, q]
    · rw [if_neg p, bd1_s, q2, show (0 : Int32) + nI _ = nI _ from Int32.zero_add _]
  · rw [tr_9 (by decide) (by decide) (by decide), s0_e (by omega)]
    exact h9
/-! the reference's side -/
def TF (I J : MI) : Prop := (∀ i, i ≠ 245 → J i = I i) ∧ ∀ j, j < 219 ∨ 292 ≤ j → J 245 j = I 245 j
theorem TF.rf (I : MI) : TF I I := ⟨fun _ _ => rfl, fun _ _ => rfl⟩
theorem TF.tr {I J K : MI} (h : TF I J) (k : TF J K) : TF I K := ⟨fun i hi => (k.1 i hi).trans (h.1 i hi), fun j hj => (k.2 j hj).trans (h.2 j hj)⟩
theorem TF.Kp {I J : MI} (h : TF I J) : Kp I J := ⟨fun i hi => h.1 i (by omega), by rw [h.1 _ (by omega)], by rw [h.1 _ (by omega)], h.2, h.1 _ (by omega), h.1 _ (by omega), h.1 _ (by omega), h.1 _ (by omega)⟩
theorem TF.B {I J : MI} (h : TF I J) (hB : InvB I) : InvB J := hB.cg (fun i hi => by rw [h.1 i (fun q => by rw [q] at hi; exact absurd hi (by decide))])
theorem RW.row2 {I : MI} {w n o o' : Nat} (hW : okW I w n) (hR : RW I w n o) {J : MI} (h : ∀ j, j < 73 → J 245 (o' + j) = I 245 (o + j)) : MRow J o' n (I w 2) (I w 4) (I w 6) (fun q => I (w + 2 + q)) := by
  have h6 := hW.1
  refine ⟨?_, ?_, ?_, ?_, fun q hq => ⟨fun f hf => ?_, hW.2.2.2.2.2.2.2.2 q hq, ?_⟩⟩
  · rw [h 1 (by omega), ← hR.2.1 1 (by omega) (by omega)]; exact hW.2.1
  · rw [h 2 (by omega), ← hR.2.1 2 (by omega) (by omega)]
  · rw [h 4 (by omega), ← hR.2.1 4 (by omega) (by omega)]
  · rw [h 6 (by omega), ← hR.2.1 6 (by omega) (by omega)]
  · refine Eq.trans ?_ (hR.2.2.1 q f hq hf).symm
    unfold mrec
    by_cases e : f = 10
    · rw [if_pos e, if_pos e, show o' + 67 + q = o' + (67 + q) by omega, h _ (by omega), show o + (67 + q) = o + 67 + q by omega]
    · rw [if_neg e, if_neg e, show o' + 7 + 6 * f + q = o' + (7 + 6 * f + q) by omega, h _ (by omega), show o + (7 + 6 * f + q) = o + 7 + 6 * f + q by omega]
  · rw [show o' + 67 + q = o' + (67 + q) by omega, h _ (by omega), show o + (67 + q) = o + 67 + q by omega]
    exact hR.2.2.2 q hq
theorem m_try {I : MI} {n : Nat} (L : ML) (hW : okW I 3 n) (hR : RW I 3 n 0) : ∃ J, f_X11_copyRow (0 : Int32) (219 : Int32) I L = some J ∧ TF I J ∧ MRow J 219 n (I 3 2) (I 3 4) (I 3 6) (fun q => I (3 + 2 + q)) := by
  refine ⟨cpR I 0 219 73, m_copyRow (o := 0) (p := 219) L (by omega) (by omega) (by omega), ⟨fun i hi => cpR_o hi, fun j hj => cpR_n (by omega)⟩, hR.row2 hW (fun j hj => cpR_i hj)⟩
theorem rg_hrt {hr : Int32} (h : rg hr 0 9999) {t : Nat} (ht : t ≤ 100) : rg (hr + nI t) 0 19999 := rg_mono (rg_add h (show rg (nI t) 0 100 by unfold rg; rw [nI_bd (by omega)]; omega) (by omega) (by omega)) (by omega) (by omega)
/-- one hour of the tried row, by its trajectories -/
theorem m_tryStep {I : MI} {n t : Nat} {dusk hr d : Int32} {S : Nat → Nat → Int32} (L : ML) (hn : n ≤ 6) (hh : rg hr 0 9999) (ht : t < 100) (h : MRow I 219 n dusk (hr + nI t) (drN d t) S) : ∃ J, f_X11_passes (219 : Int32) I L = some J ∧ TF I J ∧ J 245 224 = skN d t ∧ MRow J 219 n dusk (hr + nI (t + 1)) (drN d (t + 1)) (fun q => passR (S q) (skN d t) (ngN dusk hr t) (hr + nI t)) := by
  obtain ⟨J, j1, j2, j3, j4, j5⟩ := m_passes (o := 219) L (by omega) hn h (rg_hrt hh (by omega))
  rw [Int32.add_assoc, nI_1] at j5
  exact ⟨J, j1, ⟨j2, fun j hj => j3 j (by omega)⟩, j4, j5⟩
theorem m_many {I : MI} {n N : Nat} {dusk hr d : Int32} {R : Nat → Nat → Int32} (L : ML) (hn : n ≤ 6) (hh : rg hr 0 9999) (hN : N ≤ 60) (h : MRow I 219 n dusk hr d R) : ∃ J, f_X11_passesMany (nI N) I L = some J ∧ TF I J ∧ MRow J 219 n dusk (hr + nI N) (drN d N) (fun q => trN no (R q) d dusk hr hr N) := by
  unfold f_X11_passesMany
  obtain ⟨J, j1, j2, j3⟩ := lp_inv (f := fun s => b_X11_passesMany_2 (nI N) L s.1 s.2)
    (fun k s => s.1 = nI k ∧ TF I s.2 ∧ MRow s.2 219 n dusk (hr + nI k) (drN d k) (fun q => trN no (R q) d dusk hr hr k))
    (fun x => TF I x ∧ MRow x 219 n dusk (hr + nI N) (drN d N) (fun q => trN no (R q) d dusk hr hr N)) N
    (fun k s hk hP => by
      obtain ⟨z, K⟩ := s
      obtain ⟨p1, p2, p3⟩ := hP
      dsimp only at p1 p2 p3
      subst p1
      obtain ⟨J, j1, j2, j3, j4⟩ := m_tryStep L hn hh (by omega) p3
      refine ⟨(nI (k + 1), J), ?_, rfl, p2.tr j2, j4⟩
      show b_X11_passesMany_2 (nI N) L (nI k) K = _
      unfold b_X11_passesMany_2
      rw [if_neg (nI_ge hk (by omega)), j1, bd1_s, nm_s, nI_1])
    (fun s hP => by
      obtain ⟨z, K⟩ := s
      obtain ⟨p1, p2, p3⟩ := hP
      dsimp only at p1 p2 p3
      subst p1
      refine ⟨K, ?_, p2, p3⟩
      show b_X11_passesMany_2 (nI N) L (nI N) K = _
      unfold b_X11_passesMany_2
      rw [if_pos (nI_le (Nat.le_refl N) (by omega))])
    FU (show N < 2000 by omega) ((0 : Int32), I) ⟨rfl, TF.rf I, by
      show MRow I 219 n dusk (hr + 0) d R
      rw [Int32.add_zero]
      exact h⟩
  rw [j1, bd1_s]
  exact ⟨J, rfl, j2, j3⟩
/-- the invariant after a trial -/
theorem Inv.tried {I I1 I2 : MI} {L : ML} (h : Inv I L) (k1 : Kp I I1) (b1 : InvB I1) (t : TF I1 I2) : Inv I2 L := h.keep (k1.tr t.Kp) (t.B b1) (fun _ _ => rfl) rfl
theorem Kp.trial {I : MI} (r : Nat → Int32) : Kp I (va_up (lkF I) 211 r) := ⟨fun i hi => by rw [vu_ne (by omega), lk_o (by omega)], by rw [vu_ne (by omega), lk_o (by omega)], by rw [vu_ne (by omega), lk_o (by omega)], fun j hj => by rw [vu_ne (by omega), lk_o (by omega)], by rw [vu_ne (by omega), lk_o (by omega)], by rw [vu_ne (by omega), lk_o (by omega)], by rw [vu_ne (by omega), lk_o (by omega)], by rw [vu_ne (by omega), lk_o (by omega)]⟩
theorem va_B {I : MI} {a : Nat} {r : Nat → Int32} (h : InvB I) (hr : r 9 = 0 ∨ r 9 = 1) : InvB (va_up I a r) := fun i hi => by
  by_cases e : i = a
  · rw [e, vu_at]; exact hr
  · rw [vu_ne e]; exact h i hi
theorem ok_strain (a1 : Int32) (a2 : Int32) {I : MI} {L : ML} (h : Inv I L) : ∃ (r : Int32) (I1 : MI) (I2 : MI), f_X10_strain a1 a2 I L = some (r, I1) ∧ f_X11_strain a1 a2 I1 L = some (r, I2) ∧ Inv I2 L := by
  obtain ⟨n, hW, hR⟩ := h.1
  have hn := hW.1
  have e1 := RW.n1 hW hR
  unfold f_X10_strain f_X11_strain
  rw [s_has a1 L hn hW.2.1, bd1_s, if_b, s_within, bd1_s, if_b, show (0 : Int64) = (0 : Int32).toInt64 from rfl, show (60 : Int64) = (60 : Int32).toInt64 from rfl]
  simp only [s_in32, bd1_s, if_b]
  rcases has_cases a1 hn with ⟨k, hk, rfl⟩ | hno
  · rw [if_pos (nI_sit hk hn)]
    by_cases c2 : (0 : Int32) ≤ a2 ∧ a2 ≤ 60
    · rw [if_pos c2]
      obtain ⟨N, hN, rfl⟩ := (in_n (b := 60) (by omega)).mp c2
      have hB := h.2.2.2.1
      have hok := hW.2.2.2.2.2.2.2.2 k hk
      have h9 := e01 hok.2.2.2.2.2.2.2.2.2.1
      have l9 : lkF I (3 + 2 + k) = I (3 + 2 + k) := lk_o (by omega)
      rw [s_look, bd1_s, gi_n (by omega) (by omega), cl_n (by omega), s_strainB L (lk_LK I) (by omega) (by rw [l9]; exact h9) hN, bd2_s]
      generalize hT : va_up (lkF I) 211 (trN no (s0 (lkF I) (3 + 2 + k)) (I 3 6) (I 3 2) (I 3 4) 0 N) = T
      have kT : Kp I T := by rw [← hT]; exact Kp.trial _
      have bT : InvB T := by
        rw [← hT]
        refine va_B (lk_B hB) ?_
        rw [tr_9 (by decide) (by decide) (by decide), s0_e (by omega), l9]
        exact h9
      have T3 : ∀ i, i < 11 → T i = I i := fun i hi => kT.1 i (by omega)
      have hW' : okW T 3 n := hW.congr (fun j _ _ => by rw [T3 _ (by omega)]) (fun q hq f _ => by rw [T3 _ (by omega)])
      have hR' : RW T 3 n 0 := hR.congr hn (fun j _ _ => by rw [T3 _ (by omega)]) (fun q hq f _ => by rw [T3 _ (by omega)]) (fun j hj => kT.2.2.2.1 _ (by omega))
      obtain ⟨J0, j1, j2, j3⟩ := m_try L hW' hR'
      have hh : rg (T 3 4) 0 9999 := hW'.2.2.2.2.1
      obtain ⟨J, q1, q2, q3⟩ := m_many (N := N) L hn hh hN j3
      have ei : (256 : Int32) + nI k = nI (256 + k) := nI_add 256 k
      refine ⟨_, T, J, rfl, ?_, h.tried kT bT (j2.tr q2)⟩
      rw [s_isSitter _ L hn (RW.n1 hW' hR'), bd1_s, if_b, if_pos (nI_sit hk hn), if_pos c2, j1, bd1_s, q1, bd1_s, ei, gi_n (by omega) (by omega), cl_n (by omega)]
      refine congrArg (fun z => some (z, J)) ?_
      have e5 : mrec (J 245) 219 k 5 = trN no (T (3 + 2 + k)) (T 3 6) (T 3 2) (T 3 4) (T 3 4) N 5 := (q3.2.2.2.2 k hk).1 5 (by omega)
      rw [mrec9 (by omega), show 219 + 7 + 6 * 5 + k = 256 + k by omega] at e5
      rw [e5, T3 3 (by omega), T3 (3 + 2 + k) (by omega), tr_congr (s := s0 (lkF I) (3 + 2 + k)) (s' := I (3 + 2 + k)) (fun f hf => by rw [s0_e hf, l9]) N 5 (by omega)]
      rw [T3 3 (by omega)] at hh
      exact (tr_off N (fun t ht => ⟨offh hh t (by omega), off0 t (by omega)⟩)).1 5 (by omega)
    · rw [if_neg c2]
      refine ⟨-1, I, I, rfl, ?_, h⟩
      rw [s_isSitter _ L hn e1, bd1_s, if_b, if_pos (nI_sit hk hn), if_neg c2]
  · rw [if_neg hno]
    refine ⟨-1, I, I, rfl, ?_, h⟩
    rw [s_isSitter _ L hn e1, bd1_s, if_b, if_neg hno]
