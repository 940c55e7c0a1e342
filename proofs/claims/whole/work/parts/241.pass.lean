/-- the reference's row at o: n sitters, as R says -/
def MRow (J : MI) (o n : Nat) (dusk hr d : Int32) (R : Nat → Nat → Int32) : Prop := J 245 (o + 1) = nI n ∧ J 245 (o + 2) = dusk ∧ J 245 (o + 4) = hr ∧ J 245 (o + 6) = d ∧ ∀ q, q < n → (∀ f, f ≤ 10 → mrec (J 245) o q f = R q f) ∧ okR (R q) ∧ -1 ≤ (J 245 (o + 67 + q)).toInt
theorem grow_congr {s t : Nat → Int32} (h : ∀ f, f ≤ 10 → s f = t f) (sky night : Int32) : growR s sky night = growR t sky night := by
  unfold growR
  rw [h 0 (by omega), h 2 (by omega), h 3 (by omega), h 4 (by omega), h 7 (by omega), h 8 (by omega), h 9 (by omega)]
theorem pass_congr {s t : Nat → Int32} (h : ∀ f, f ≤ 10 → s f = t f) (sky night hr : Int32) {f : Nat} (hf : f ≤ 10) : passR s sky night hr f = passR t sky night hr f := by
  unfold passR
  rw [h 10 (by omega), h 5 (by omega), h 1 (by omega), grow_congr h, h f hf]
theorem eat_congr {s t : Nat → Int32} (h : ∀ f, f ≤ 10 → s f = t f) {f : Nat} (hf : f ≤ 10) : eatR s f = eatR t f := by
  unfold eatR
  rw [h 10 (by omega), h 5 (by omega), h 6 (by omega), h f hf]
theorem mrec10v {w : Nat → Int32} {o k : Nat} {v : Int32} (h : w (o + 67 + k) = v) (hv : 0 ≤ v.toInt) : mrec w o k 10 = v := by
  unfold mrec
  rw [if_pos rfl, h, if_neg]
  intro q
  rw [fa_lt] at q
  have e : (0 : Int32).toInt = 0 := rfl
  omega
theorem m_passOne {I : MI} {o n k : Nat} (sky : Int32) (L : ML) (ho : o + 73 ≤ 1752) (hn : n ≤ 6) (hk : k < n) (h1 : I 245 (o + 1) = nI n) (hs : okR (mrec (I 245) o k)) (hd : -1 ≤ (I 245 (o + 67 + k)).toInt) (hh : rg (I 245 (o + 4)) 0 20000) : ∃ J, b_X11_passesBy_2 (nI o) sky L (nI k) I = some (Sum.inl (nI (k + 1), J)) ∧ MS I J o k (passR (mrec (I 245) o k) sky (ngt (I 245 (o + 2)) (I 245 (o + 4))) (I 245 (o + 4))) := by
  unfold b_X11_passesBy_2
  have e5 : mrec (I 245) o k 5 = I 245 (o + 37 + k) := mrec9 (by omega)
  have e1 : mrec (I 245) o k 1 = I 245 (o + 13 + k) := mrec9 (by omega)
  rw [iy1, gi_n (by omega) (by omega), cl_n (by omega), h1, if_neg (nI_ge hk (by omega)), m_isDown L (by omega), bd1_s, if_b]
  by_cases c1 : 0 ≤ I 245 (o + 67 + k)
  · rw [if_pos c1, bd1_s, nm_s, nI_1]
    refine ⟨I, rfl, fun _ _ => rfl, fun _ _ => rfl, fun f _ => ?_, hd⟩
    unfold passR
    rw [if_neg (fun q => mrec10.mp q c1)]
  · rw [if_neg c1, ix37, ix13, ix67, iy4, gi_n (by omega) (by omega), cl_n (by omega), cl_n (by omega), cl_n (by omega), cl_n (by omega), m_growthIn sky L ho (by omega) hs, bd1_s, nm_s, some_if, bd1_s, gi_n (by omega) (by omega), nm_s, gi_n (by omega) (by omega), gi_n (by omega) (by omega), gi_n (by omega) (by omega), some_if, bd1_s, gi_n (by omega) (by omega), nm_s, bd1_s, nm_s, nI_1]
    rw [up2_s, up2_n (show o + 13 + k ≠ o + 37 + k by omega), up2_n (show o + 4 ≠ o + 37 + k by omega)]
    have em : (if I 245 (o + 37 + k) + growR (mrec (I 245) o k) sky (b01 (I 245 (o + 2) ≤ I 245 (o + 4) - I 245 (o + 4) / 24 * 24)) ≤ 999 then I 245 (o + 37 + k) + growR (mrec (I 245) o k) sky (b01 (I 245 (o + 2) ≤ I 245 (o + 4) - I 245 (o + 4) / 24 * 24)) else 999) = mmin 999 (mrec (I 245) o k 5 + growR (mrec (I 245) o k) sky (ngt (I 245 (o + 2)) (I 245 (o + 4)))) := by
      rw [mmin_eq, e5]
      rfl
    rw [em]
    refine ⟨_, rfl, fun i hi => by rw [up2_ne hi, up2_ne hi], fun j hj => ?_, fun f hf => ?_, ?_⟩
    · rw [up2_n (fun q => hj 10 (by omega) (by omega)), up2_n (fun q => hj 5 (by omega) (by omega))]
    · unfold passR
      rw [if_pos (mrec10.mpr c1)]
      by_cases f5 : f = 5
      · subst f5
        rw [if_pos rfl, mrec9 (by omega), show o + 7 + 6 * 5 + k = o + 37 + k by omega, up2_n (by omega), up2_s]
      · rw [if_neg f5]
        by_cases f10 : f = 10
        · subst f10
          rw [if_pos rfl, e1]
          by_cases d : mmin 999 (mrec (I 245) o k 5 + growR (mrec (I 245) o k) sky (ngt (I 245 (o + 2)) (I 245 (o + 4)))) < I 245 (o + 13 + k)
          · rw [if_pos d, if_pos d, mrec10, up2_s]
            decide
          · rw [if_neg d, if_neg d]
            exact mrec10v up2_s hh.1
        · rw [if_neg f10, mrec9 (f := f) (by omega), mrec9 (f := f) (by omega), up2_n (by omega), up2_n (by omega)]
    · rw [up2_s]
      by_cases d : mmin 999 (mrec (I 245) o k 5 + growR (mrec (I 245) o k) sky (ngt (I 245 (o + 2)) (I 245 (o + 4)))) < I 245 (o + 13 + k)
      · rw [if_pos d]; decide
      · rw [if_neg d]
        have := hh.1
        omega
theorem m_passesBy {I : MI} {o n : Nat} {dusk hr d : Int32} {R : Nat → Nat → Int32} (sky : Int32) (L : ML) (ho : o + 73 ≤ 1752) (hn : n ≤ 6) (h : MRow I o n dusk hr d R) (hh : rg hr 0 19999) : ∃ J, f_X11_passesBy (nI o) sky I L = some J ∧ (∀ i, i ≠ 245 → J i = I i) ∧ (∀ j, j < o + 4 ∨ o + 73 ≤ j → J 245 j = I 245 j) ∧ J 245 (o + 5) = sky ∧ MRow J o n dusk (hr + 1) d (fun q => passR (R q) sky (ngt dusk hr) hr) := by
  obtain ⟨h1, h2, h4, h6, h7⟩ := h
  have hh2 : rg hr 0 20000 := rg_mono hh (by omega) (by omega)
  unfold f_X11_passesBy
  obtain ⟨J, j1, j2, j3, j4⟩ := lp_inv (f := fun s => b_X11_passesBy_2 (nI o) sky L s.1 s.2)
    (fun k s => s.1 = nI k ∧ (∀ i, i ≠ 245 → s.2 i = I i) ∧ (∀ j, j < o + 7 ∨ o + 73 ≤ j → s.2 245 j = I 245 j) ∧ (∀ q, q < k → (∀ f, f ≤ 10 → mrec (s.2 245) o q f = passR (R q) sky (ngt dusk hr) hr f) ∧ -1 ≤ (s.2 245 (o + 67 + q)).toInt) ∧ (∀ q, k ≤ q → q < 6 → ∀ f, f ≤ 10 → s.2 245 (o + 7 + 6 * f + q) = I 245 (o + 7 + 6 * f + q)))
    (fun x => (∀ i, i ≠ 245 → x i = I i) ∧ (∀ j, j < o + 7 ∨ o + 73 ≤ j → x 245 j = I 245 j) ∧ (∀ q, q < n → (∀ f, f ≤ 10 → mrec (x 245) o q f = passR (R q) sky (ngt dusk hr) hr f) ∧ -1 ≤ (x 245 (o + 67 + q)).toInt)) n
    (fun k s hk hP => by
      obtain ⟨z, K⟩ := s
      obtain ⟨p1, p2, p3, p4, p5⟩ := hP
      dsimp only at p1 p2 p3 p4 p5
      subst p1
      obtain ⟨r1, r2, r3⟩ := h7 k hk
      have em : ∀ f, f ≤ 10 → mrec (K 245) o k f = R k f := fun f hf => by
        rw [← r1 f hf]
        unfold mrec
        by_cases e : f = 10
        · rw [if_pos e, if_pos e, show o + 67 + k = o + 7 + 6 * 10 + k by omega, p5 k (Nat.le_refl k) (by omega) 10 (by omega)]
        · rw [if_neg e, if_neg e, p5 k (Nat.le_refl k) (by omega) f hf]
      have k2 : K 245 (o + 2) = dusk := by rw [p3 _ (by omega)]; exact h2
      have k4 : K 245 (o + 4) = hr := by rw [p3 _ (by omega)]; exact h4
      have kd : K 245 (o + 67 + k) = I 245 (o + 67 + k) := by rw [show o + 67 + k = o + 7 + 6 * 10 + k by omega, p5 k (Nat.le_refl k) (by omega) 10 (by omega)]
      obtain ⟨J, j1, j2, j3, j4, j5⟩ := m_passOne (I := K) (o := o) (n := n) (k := k) sky L ho hn hk (by rw [p3 _ (by omega)]; exact h1) (okR_congr em r2) (by rw [kd]; exact r3) (by rw [k4]; exact hh2)
      rw [k2, k4] at j4
      refine ⟨(nI (k + 1), J), j1, rfl, fun i hi => (j2 i hi).trans (p2 i hi), fun j hj => (j3 j (fun f hf => by omega)).trans (p3 j hj), fun q hq => ?_, fun q h1 h2 f hf => (j3 _ (fun g hg => by omega)).trans (p5 q (by omega) h2 f hf)⟩
      by_cases e : q = k
      · subst e
        exact ⟨fun f hf => (j4 f hf).trans (pass_congr em _ _ _ hf), j5⟩
      · obtain ⟨a, b⟩ := p4 q (by omega)
        refine ⟨fun f hf => ?_, ?_⟩
        · rw [← a f hf]
          show mrec (J 245) o q f = mrec (K 245) o q f
          unfold mrec
          by_cases e10 : f = 10
          · rw [if_pos e10, if_pos e10, j3 _ (fun g hg => by omega)]
          · rw [if_neg e10, if_neg e10, j3 _ (fun g hg => by omega)]
        · show -1 ≤ (J 245 (o + 67 + q)).toInt
          rw [j3 _ (fun g hg => by omega)]
          exact b)
    (fun s hP => by
      obtain ⟨z, K⟩ := s
      obtain ⟨p1, p2, p3, p4, p5⟩ := hP
      dsimp only at p1 p2 p3 p4 p5
      subst p1
      refine ⟨K, ?_, p2, p3, p4⟩
      show b_X11_passesBy_2 (nI o) sky L (nI n) K = _
      unfold b_X11_passesBy_2
      rw [iy1, gi_n (by omega) (by omega), cl_n (by omega), p3 _ (by omega), h1, if_pos (nI_le (Nat.le_refl n) (by omega))])
    FU (show n < 2000 by omega) ((0 : Int32), I) ⟨rfl, fun _ _ => rfl, fun _ _ => rfl, fun q hq => absurd hq (by omega), fun _ _ _ _ _ => rfl⟩
  rw [bd1_of j1, iy5, iy4, gi_n (by omega) (by omega), nm_s, gi_n (by omega) (by omega), gi_n (by omega) (by omega), cl_n (by omega), cl_n (by omega), nm_s, up2_n (show o + 4 ≠ o + 5 by omega), j3 _ (by omega), h4]
  refine ⟨_, rfl, fun i hi => by rw [up2_ne hi, up2_ne hi]; exact j2 i hi, fun j hj => by rw [up2_n (by omega), up2_n (by omega)]; exact j3 j (by omega), by rw [up2_n (by omega), up2_s], ?_, ?_, up2_s, ?_, fun q hq => ⟨fun f hf => ?_, (h7 q hq).2.1.pass _ _ hh2, ?_⟩⟩
  · rw [up2_n (by omega), up2_n (by omega), j3 _ (by omega)]; exact h1
  · rw [up2_n (by omega), up2_n (by omega), j3 _ (by omega)]; exact h2
  · rw [up2_n (by omega), up2_n (by omega), j3 _ (by omega)]; exact h6
  · refine Eq.trans ?_ ((j4 q hq).1 f hf)
    unfold mrec
    by_cases e10 : f = 10
    · rw [if_pos e10, if_pos e10, up2_n (by omega), up2_n (by omega)]
    · rw [if_neg e10, if_neg e10, up2_n (by omega), up2_n (by omega)]
  · rw [up2_n (by omega), up2_n (by omega)]
    exact (j4 q hq).2
theorem m_passes {I : MI} {o n : Nat} {dusk hr d : Int32} {R : Nat → Nat → Int32} (L : ML) (ho : o + 73 ≤ 1752) (hn : n ≤ 6) (h : MRow I o n dusk hr d R) (hh : rg hr 0 19999) : ∃ J, f_X11_passes (nI o) I L = some J ∧ (∀ i, i ≠ 245 → J i = I i) ∧ (∀ j, j < o + 4 ∨ o + 73 ≤ j → J 245 j = I 245 j) ∧ J 245 (o + 5) = rm3 (drw d) ∧ MRow J o n dusk (hr + 1) (drw d) (fun q => passR (R q) (rm3 (drw d)) (ngt dusk hr) hr) := by
  unfold f_X11_passes
  rw [iy6, gi_n (by omega) (by omega), nm_s, gi_n (by omega) (by omega), cl_n (by omega), nm_s, gi_n (by omega) (by omega), nm_s, up2_s]
  obtain ⟨h1, h2, h4, h6, h7⟩ := h
  have ed : (((I 245 (o + 6)).toInt64 * (16807 : Int64)) - ((I 245 (o + 6)).toInt64 * (16807 : Int64)) / (2147483647 : Int64) * (2147483647 : Int64)).toInt32 = drw d := by
    rw [h6, Int64.mul_comm]
    rfl
  rw [ed]
  have hM : MRow (up2 I 245 (o + 6) (drw d)) o n dusk hr (drw d) R := ⟨by rw [up2_n (by omega)]; exact h1, by rw [up2_n (by omega)]; exact h2, by rw [up2_n (by omega)]; exact h4, up2_s, fun q hq => by
    obtain ⟨a, b, c⟩ := h7 q hq
    refine ⟨fun f hf => ?_, b, by rw [up2_n (by omega)]; exact c⟩
    rw [← a f hf]
    unfold mrec
    by_cases e10 : f = 10
    · rw [if_pos e10, if_pos e10, up2_n (by omega)]
    · rw [if_neg e10, if_neg e10, up2_n (by omega)]⟩
  obtain ⟨J, j1, j2, j3, j4, j5⟩ := m_passesBy (rm3 (drw d)) L ho hn hM hh
  have j1' : f_X11_passesBy (nI o) (drw d - drw d / 3 * 3) (up2 I 245 (o + 6) (drw d)) L = some J := j1
  rw [bd1_of j1']
  exact ⟨J, rfl, fun i hi => by rw [j2 i hi, up2_ne hi], fun j hj => by rw [j3 j hj, up2_n (by omega)], j4, j5⟩
