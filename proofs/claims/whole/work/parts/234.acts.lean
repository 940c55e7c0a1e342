theorem vu_at {β : Type} (I : Nat → β) (a : Nat) (r : β) : va_up I a r a = r := by simp [va_up]
theorem vu_ne {β : Type} {I : Nat → β} {a i : Nat} {r : β} (h : i ≠ a) : va_up I a r i = I i := by simp [va_up, h]
theorem mrec10 {w : Nat → Int32} {o k : Nat} : mrec w o k 10 = -4 ↔ ¬ 0 ≤ w (o + 67 + k) := by
  unfold mrec
  rw [if_pos rfl, i32_nle]
  by_cases c : w (o + 67 + k) < 0
  · rw [if_pos c]
    exact ⟨fun _ => c, fun _ => rfl⟩
  · rw [if_neg c]
    refine ⟨fun q => absurd ?_ c, fun q => absurd q c⟩
    rw [q]
    decide
theorem mrec9 {w : Nat → Int32} {o k f : Nat} (h : f ≤ 9) : mrec w o k f = w (o + 7 + 6 * f + k) := by
  unfold mrec
  rw [if_neg (by omega)]
/-- the reference's sitter k of the row at o becomes s, and nothing else changes -/
def MS (I J : MI) (o k : Nat) (s : Nat → Int32) : Prop := (∀ i, i ≠ 245 → J i = I i) ∧ (∀ j, (∀ f, f ≤ 10 → j ≠ o + 7 + 6 * f + k) → J 245 j = I 245 j) ∧ (∀ f, f ≤ 10 → mrec (J 245) o k f = s f) ∧ -1 ≤ (J 245 (o + 67 + k)).toInt
theorem MS.fin {I4 I3 : MI} {k : Nat} {s : Nat → Int32} (h : MS I3 I4 0 k s) (hs : okR s) : (∀ i, i ≠ 245 → I4 i = I3 i) ∧ (∀ j, (∀ f, f ≤ 10 → j ≠ 7 + 6 * f + k) → I4 245 j = I3 245 j) ∧ (∀ f, f ≤ 9 → I4 245 (7 + 6 * f + k) = s f) ∧ ((s 10 = -4 ∧ I4 245 (67 + k) = -1) ∨ I4 245 (67 + k) = s 10 ∧ rg (s 10) 0 20000) := by
  obtain ⟨a, b, c, d⟩ := h
  refine ⟨a, fun j hj => b j (fun f hf q => hj f hf (by omega)), fun f hf => ?_, ?_⟩
  · have := c f (by omega)
    rw [mrec9 hf, show 0 + 7 + 6 * f + k = 7 + 6 * f + k by omega] at this
    exact this
  · have e := c 10 (by omega)
    rw [show 0 + 67 + k = 67 + k by omega] at d
    by_cases q : s 10 = -4
    · have := mrec10.mp (e.trans q)
      rw [show 0 + 67 + k = 67 + k by omega, fa_le] at this
      have e0 : (0 : Int32).toInt = 0 := rfl
      have e1 : (-1 : Int32).toInt = -1 := rfl
      exact Or.inl ⟨q, by rw [fa_eq]; omega⟩
    · rcases hs.2.2.2.2.2.2.2.2.2.2 with z | z
      · exact absurd z q
      · refine Or.inr ⟨?_, z⟩
        rw [← e]
        unfold mrec
        rw [if_pos rfl, show 0 + 67 + k = 67 + k by omega, if_neg]
        intro w
        apply q
        rw [← e, mrec10, show 0 + 67 + k = 67 + k by omega, i32_nle]
        exact w
/-- one eats a crust, if it can -/
def eatR (s : Nat → Int32) : Nat → Int32 := fun f => if s 10 = -4 ∧ 0 < s 6 then (if f = 5 then mmax 0 (s 5 - 6) else if f = 6 then s 6 - 1 else s f) else s f
theorem s_eat {I : MI} (a : Nat) (L : ML) : f_X6_eatCrust a I L = some (va_up I a (eatR (I a))) := by
  unfold f_X6_eatCrust
  rw [s_canEat, bd1_s, if_b]
  by_cases c : I a 10 = -4 ∧ 0 < I a 6
  · rw [if_pos c, nm_s, nm_s, bd1_s, up2_n (by decide)]
    refine congrArg some (funext fun i => funext fun j => ?_)
    by_cases e : i = a
    · subst e
      rw [vu_at]
      unfold eatR
      rw [if_pos c, up2_at, up2_at]
      by_cases e5 : j = 5
      · rw [if_pos ⟨rfl, e5⟩, if_pos e5]
      · rw [if_neg (fun q => e5 q.2), if_neg e5]
        by_cases e6 : j = 6
        · rw [if_pos ⟨rfl, e6⟩, if_pos e6]
        · rw [if_neg (fun q => e6 q.2), if_neg e6]
    · rw [vu_ne e, up2_ne e, up2_ne e]
  · rw [if_neg c, bd1_s]
    refine congrArg some (funext fun i => funext fun j => ?_)
    by_cases e : i = a
    · subst e
      rw [vu_at]
      unfold eatR
      rw [if_neg c]
    · rw [vu_ne e]
theorem rg_add {x y : Int32} {a b c d : Int} (h : rg x a b) (k : rg y c d) (h1 : -2147483648 ≤ a + c) (h2 : b + d < 2147483648) : rg (x + y) (a + c) (b + d) := by
  have := h.1; have := h.2; have := k.1; have := k.2
  unfold rg
  rw [fb_addI (by omega) (by omega)]
  omega
theorem rg_sub {x y : Int32} {a b c d : Int} (h : rg x a b) (k : rg y c d) (h1 : -2147483648 ≤ a - d) (h2 : b - c < 2147483648) : rg (x - y) (a - d) (b - c) := by
  have := h.1; have := h.2; have := k.1; have := k.2
  unfold rg
  rw [fb_subI (by omega) (by omega)]
  omega
theorem rg_if {p : Prop} [Decidable p] {x y : Int32} {a b : Int} (h : rg x a b) (k : rg y a b) : rg (if p then x else y) a b := by
  by_cases c : p
  · rw [if_pos c]; exact h
  · rw [if_neg c]; exact k
theorem rg_mono {x : Int32} {a b c d : Int} (h : rg x a b) (h1 : c ≤ a) (h2 : b ≤ d) : rg x c d := ⟨Int.le_trans h1 h.1, Int.le_trans h.2 h2⟩
theorem rg_max {x : Int32} {a b : Int} (h : rg x a b) (h0 : 0 ≤ b) : rg (mmax 0 x) 0 b := by
  rw [mmax0]
  have z : (0 : Int32).toInt = 0 := rfl
  by_cases c : 0 ≤ x
  · rw [if_pos c]
    rw [fa_le, z] at c
    exact ⟨c, h.2⟩
  · rw [if_neg c]
    unfold rg
    rw [z]
    omega
theorem rg_dbl {x : Int32} {b : Int} (h : rg x 0 b) (hb : 2 * b < 2147483648) : rg (2 * x) 0 (2 * b) := by
  have := h.1; have := h.2
  have z : (2 : Int32).toInt = 2 := rfl
  unfold rg
  rw [fb_mulI (by rw [z]; omega) (by rw [z]; omega), z]
  omega
theorem rg_half {x : Int32} {b : Int} (h : rg x 0 b) : rg (x / 2) 0 b := by
  have h1 := h.1; have h2 := h.2
  obtain ⟨k, hk, rfl⟩ := nI_of (x := x) (by rw [fa_lt]; have e : (0 : Int32).toInt = 0 := rfl; omega)
  rw [nI_bd hk] at h1 h2
  have e : nI k / (2 : Int32) = nI (k / 2) := pk_div (d := 2) hk (by omega) (by omega)
  unfold rg
  rw [e, nI_bd (by omega)]
  omega
theorem rg_0 {a b : Int} (h : a ≤ 0) (k : 0 ≤ b) : rg (0 : Int32) a b := ⟨h, k⟩
theorem rg_1 {a b : Int} (h : a ≤ 1) (k : 1 ≤ b) : rg (1 : Int32) a b := ⟨h, k⟩
theorem okR.grow {s : Nat → Int32} (h : okR s) (sky night : Int32) : rg (growR s sky night) 0 46 := by
  obtain ⟨o0, o1, o2, o3, o4, o5, o6, o7, o8, o9, o10⟩ := h
  have a1 : rg (s 2 + 1) 0 10 := rg_mono (rg_add o2 (rg_1 (a := 1) (b := 1) (by omega) (by omega)) (by omega) (by omega)) (by omega) (by omega)
  have a2 : rg (s 2) 0 10 := rg_mono o2 (by omega) (by omega)
  have b1 : rg ((if sky = 1 then s 3 else 0) + (if night = 0 then 0 else s 3)) 0 18 := rg_mono (rg_add (rg_if o3 (rg_0 (by omega) (by omega))) (rg_if (rg_0 (by omega) (by omega)) o3) (by omega) (by omega)) (by omega) (by omega)
  have b2 : rg (if s 9 = 0 then (if sky = 1 then s 3 else 0) + (if night = 0 then 0 else s 3) else ((if sky = 1 then s 3 else 0) + (if night = 0 then 0 else s 3)) / 2) 0 18 := rg_if b1 (rg_half b1)
  have c1 : rg (if s 7 = 2 then s 4 else s 4 / 2) 0 9 := rg_if o4 (rg_half o4)
  have c2 : rg (if s 7 = 1 then 0 else (if s 0 = 3 then 2 * (if s 7 = 2 then s 4 else s 4 / 2) else (if s 7 = 2 then s 4 else s 4 / 2))) 0 18 := rg_if (rg_0 (by omega) (by omega)) (rg_if (rg_mono (rg_dbl c1 (by omega)) (by omega) (by omega)) (rg_mono c1 (by omega) (by omega)))
  have d1 : rg (if s 0 = 2 then 2 * s 8 else s 8) 0 18 := rg_if (rg_mono (rg_dbl o8 (by omega)) (by omega) (by omega)) (rg_mono o8 (by omega) (by omega))
  have f1 := rg_max (rg_sub (rg_add (rg_add (rg_if (p := s 0 = 4) a1 (rg_if (p := s 0 = 5) a1 a2)) b2 (by omega) (by omega)) c2 (by omega) (by omega)) d1 (by omega) (by omega)) (by omega)
  have f2 := rg_mono f1 (c := 0) (d := 46) (by omega) (by omega)
  unfold growR
  exact rg_if (rg_if f2 (rg_half f2)) f2
theorem okR.eat {s : Nat → Int32} (h : okR s) : okR (eatR s) := by
  obtain ⟨o0, o1, o2, o3, o4, o5, o6, o7, o8, o9, o10⟩ := h
  unfold eatR
  by_cases c : s 10 = -4 ∧ 0 < s 6
  · simp only [if_pos c]
    have z6 : rg (6 : Int32) 6 6 := ⟨by decide, by decide⟩
    have z0 : (0 : Int32).toInt = 0 := rfl
    refine ⟨o0, o1, o2, o3, o4, rg_mono (rg_max (rg_sub o5 z6 (by omega) (by omega)) (by omega)) (by omega) (by omega), ?_, o7, o8, o9, o10⟩
    have c2 := c.2
    rw [fa_lt, z0] at c2
    have o6' : rg (s 6) 1 9 := ⟨by omega, o6.2⟩
    exact rg_mono (rg_sub o6' (rg_1 (a := 1) (b := 1) (by omega) (by omega)) (by omega) (by omega)) (by omega) (by omega)
  · simp only [if_neg c]
    exact ⟨o0, o1, o2, o3, o4, o5, o6, o7, o8, o9, o10⟩
theorem m_eats {I : MI} {o k : Nat} (L : ML) (ho : o + 73 ≤ 1752) (hk : k < 6) (hs : okR (mrec (I 245) o k)) (hd : -1 ≤ (I 245 (o + 67 + k)).toInt) : ∃ J, f_X11_eats (nI o) (nI k) I L = some J ∧ MS I J o k (eatR (mrec (I 245) o k)) := by
  unfold f_X11_eats
  have e5 : mrec (I 245) o k 5 = I 245 (o + 37 + k) := mrec9 (by omega)
  have e6 : mrec (I 245) o k 6 = I 245 (o + 43 + k) := mrec9 (by omega)
  rw [m_isDown L (by omega), bd1_s, if_b, ix43, ix37, gi_n (by omega) (by omega), cl_n (by omega), cl_n (by omega)]
  by_cases c1 : 0 ≤ I 245 (o + 67 + k)
  · rw [if_pos c1, bd1_s]
    refine ⟨I, rfl, fun _ _ => rfl, fun _ _ => rfl, fun f _ => ?_, hd⟩
    unfold eatR
    rw [if_neg (fun q => mrec10.mp q.1 c1)]
  · rw [if_neg c1]
    by_cases c2 : I 245 (o + 43 + k) ≤ 0
    · rw [if_pos c2, bd1_s]
      refine ⟨I, rfl, fun _ _ => rfl, fun _ _ => rfl, fun f _ => ?_, hd⟩
      unfold eatR
      rw [if_neg (fun q => by have := q.2; rw [e6] at this; exact absurd c2 (i32_nle.mpr this))]
    · rw [if_neg c2, gi_n (by omega) (by omega), gi_n (by omega) (by omega), nm_s, gi_n (by omega) (by omega), gi_n (by omega) (by omega), up2_n (by omega), some_if, bd1_s, gi_n (by omega) (by omega), nm_s, bd1_s]
      refine ⟨_, rfl, fun i hi => by rw [up2_ne hi, up2_ne hi], fun j hj => ?_, fun f hf => ?_, ?_⟩
      · rw [up2_n (fun q => hj 5 (by omega) (by omega)), up2_n (fun q => hj 6 (by omega) (by omega))]
      · have hc : mrec (I 245) o k 10 = -4 ∧ 0 < mrec (I 245) o k 6 := ⟨mrec10.mpr c1, by rw [e6]; exact i32_nle.mp c2⟩
        unfold eatR
        rw [if_pos hc, e5, e6]
        by_cases f5 : f = 5
        · subst f5
          rw [if_pos rfl, mrec9 (by omega), show o + 7 + 6 * 5 + k = o + 37 + k by omega, up2_s, mmax0]
          have o5 := hs.2.2.2.2.2.1
          rw [e5] at o5
          have z6 : (6 : Int32).toInt = 6 := rfl
          have z0 : (0 : Int32).toInt = 0 := rfl
          have := o5.1; have := o5.2
          by_cases q : I 245 (o + 37 + k) ≤ 6
          · rw [if_pos q]
            by_cases q2 : 0 ≤ I 245 (o + 37 + k) - 6
            · rw [if_pos q2, fa_eq]
              rw [fa_le] at q q2
              rw [fb_subI (by omega) (by omega)] at q2 ⊢
              omega
            · rw [if_neg q2]
          · rw [if_neg q, if_pos]
            rw [fa_le] at q ⊢
            rw [fb_subI (by omega) (by omega)]
            omega
        · rw [if_neg f5]
          by_cases f6 : f = 6
          · subst f6
            rw [if_pos rfl, mrec9 (by omega), show o + 7 + 6 * 6 + k = o + 43 + k by omega, up2_n (by omega), up2_s]
          · rw [if_neg f6]
            by_cases f10 : f = 10
            · subst f10
              unfold mrec
              rw [if_pos rfl, if_pos rfl, up2_n (by omega), up2_n (by omega)]
            · rw [mrec9 (by omega), mrec9 (by omega), up2_n (by omega), up2_n (by omega)]
      · rw [up2_n (by omega), up2_n (by omega)]
        exact hd
theorem ok_crust (a1 : Int32) {I : MI} {L : ML} (h : Inv I L) : ∃ (r : Int32) (I1 : MI) (I2 : MI), f_X10_crust a1 I L = some (r, I1) ∧ f_X11_crust a1 I1 L = some (r, I2) ∧ Inv I2 L := by
  obtain ⟨n, hW, hR⟩ := h.1
  have hn := hW.1
  have e1 := RW.n1 hW hR
  unfold f_X10_crust f_X11_crust
  rw [s_has a1 L hn hW.2.1, bd1_s, if_b]
  rcases has_cases a1 hn with ⟨k, hk, rfl⟩ | hno
  · rw [if_pos (nI_sit hk hn), gi_n (by omega) (by omega), cl_n (by omega), s_canEat, bd1_s, if_b]
    have hok := hW.2.2.2.2.2.2.2.2 k hk
    have ei : (43 : Int32) + nI k = nI (43 + k) := nI_add 43 k
    have ej : (37 : Int32) + nI k = nI (37 + k) := nI_add 37 k
    have e6 : I 245 (43 + k) = I (3 + 2 + k) 6 := hR.c hk 6 (by omega)
    by_cases c3 : I (3 + 2 + k) 10 = -4
    · by_cases c4 : 0 < I (3 + 2 + k) 6
      · rw [if_pos ⟨c3, c4⟩]
        have c5 : ¬ I (3 + 2 + k) 6 = 0 := fun q => by rw [q] at c4; exact absurd c4 (by decide)
        obtain ⟨I1, k1, k2, k3⟩ := h.sit hW hR hk
        have hI1 : I1 (3 + 2 + k) = I (3 + 2 + k) := k2 _ (by omega)
        obtain ⟨I3, m1, m2, m3, m4⟩ := k3 (eatR (I (3 + 2 + k))) (va_up I1 (3 + 2 + k) (eatR (I (3 + 2 + k)))) hok.eat (fun i hi => vu_ne hi) (fun f hf => by rw [vu_at])
        have hb : f_X11_isSitter (nI k) (va_up I1 (3 + 2 + k) (eatR (I (3 + 2 + k)))) L = some (b01 (0 ≤ nI k ∧ nI k < nI n)) := s_isSitter _ L hn (by rw [vu_ne (by omega), k2 _ (by omega)]; exact e1)
        have h45 : ∀ j, va_up I1 (3 + 2 + k) (eatR (I (3 + 2 + k))) 245 j = I 245 j := fun j => by rw [vu_ne (by omega), k2 _ (by omega)]
        have hm : ∀ f, f ≤ 10 → mrec (I3 245) 0 k f = I (3 + 2 + k) f := fun f hf => by rw [hR.2.2.1 k f hk hf]; exact mrec_congr (fun j hj => m3 _ (by omega)) (by omega) hf
        have hok3 : okR (mrec (I3 245) 0 k) := okR_congr hm hok
        obtain ⟨I4, t1, t2⟩ := m_eats (I := I3) (o := 0) (k := k) L (by omega) (by omega) hok3 (by rw [m3 _ (by omega)]; exact hR.2.2.2 k hk)
        have he : ∀ f, f ≤ 10 → eatR (mrec (I3 245) 0 k) f = eatR (I (3 + 2 + k)) f := fun f hf => by
          unfold eatR
          rw [hm 10 (by omega), hm 6 (by omega), hm 5 (by omega), hm f hf]
        have t3 : MS I3 I4 0 k (eatR (I (3 + 2 + k))) := ⟨t2.1, t2.2.1, fun f hf => (t2.2.2.1 f hf).trans (he f hf), t2.2.2.2⟩
        obtain ⟨u1, u2, u3, u4⟩ := t3.fin hok.eat
        refine ⟨eatR (I (3 + 2 + k)) 5, _, I4, by rw [k1, bd1_s, s_eat, bd1_s, hI1, vu_at], ?_, m4 I4 u1 u2 u3 u4⟩
        rw [hb, bd1_s, if_b, if_pos (nI_sit hk hn), m_down0 L (by omega), bd1_s, h45, hR.c10 hk c3, if_pos (show b01 ((0 : Int32) ≤ -1) = 0 by decide), ei, gi_n (by omega) (by omega), cl_n (by omega), h45, e6, if_neg c5, m1, bd1_s, show (0 : Int32) = nI 0 from rfl, t1, bd1_s, ej, gi_n (by omega) (by omega), cl_n (by omega), show 37 + k = 7 + 6 * 5 + k by omega, u3 5 (by omega)]
      · rw [if_neg (fun q => c4 q.2)]
        have c5 : I (3 + 2 + k) 6 = 0 := by
          rw [fa_lt] at c4
          rw [fa_eq]
          have e : (0 : Int32).toInt = 0 := rfl
          have := hok.2.2.2.2.2.2.1.1
          omega
        refine ⟨-2, I, I, rfl, ?_, h⟩
        rw [s_isSitter _ L hn e1, bd1_s, if_b, if_pos (nI_sit hk hn), m_down0 L (by omega), bd1_s, hR.c10 hk c3, if_pos (show b01 ((0 : Int32) ≤ -1) = 0 by decide), ei, gi_n (by omega) (by omega), cl_n (by omega), e6, if_pos c5]
    · rw [if_neg (fun q => c3 q.1)]
      refine ⟨-2, I, I, rfl, ?_, h⟩
      have := (hR.up hk c3).2
      rw [show 0 + 67 + k = 67 + k by omega] at this
      rw [s_isSitter _ L hn e1, bd1_s, if_b, if_pos (nI_sit hk hn), m_down0 L (by omega), bd1_s, b01_t this, if_neg (by decide)]
  · rw [if_neg hno]
    refine ⟨-1, I, I, rfl, ?_, h⟩
    rw [s_isSitter _ L hn e1, bd1_s, if_b, if_neg hno]
