/-! ===== what is only tried ===== -/
theorem lp_inv2 {S X : Type} {f : S → Option (S ⊕ X)} (P : Nat → S → Prop) (Z : X → Prop) (n : Nat) (hs : ∀ k s, k < n → P k s → (∃ s', f s = some (.inl s') ∧ P (k + 1) s') ∨ ∃ x, f s = some (.inr x) ∧ Z x) (hx : ∀ s, P n s → ∃ x, f s = some (.inr x) ∧ Z x) : ∀ (F : Nat), n < F → ∀ s, P 0 s → ∃ x, lp f F s = some x ∧ Z x := by
  have key : ∀ (d F k : Nat), k + d = n → d < F → ∀ s, P k s → ∃ x, lp f F s = some x ∧ Z x := by
    intro d
    induction d with
    | zero =>
      intro F k hk hF s hP
      obtain ⟨F, rfl⟩ : ∃ F', F = F' + 1 := ⟨F - 1, by omega⟩
      rw [show k = n by omega] at hP
      obtain ⟨x, h1, h2⟩ := hx s hP
      exact ⟨x, by rw [lp_s, h1]; rfl, h2⟩
    | succ d ih =>
      intro F k hk hF s hP
      obtain ⟨F, rfl⟩ : ∃ F', F = F' + 1 := ⟨F - 1, by omega⟩
      rcases hs k s (by omega) hP with ⟨s', h1, h2⟩ | ⟨x, h1, h2⟩
      · obtain ⟨x, h3, h4⟩ := ih F (k + 1) (by omega) (by omega) s' h2
        exact ⟨x, by rw [lp_s, h1]; exact h3, h4⟩
      · exact ⟨x, by rw [lp_s, h1]; rfl, h2⟩
  intro F hF s hP
  exact key n F 0 (by omega) hF s hP
def drN (d : Int32) : Nat → Int32
  | 0 => d
  | t + 1 => drw (drN d t)
def skN (d : Int32) (t : Nat) : Int32 := rm3 (drN d (t + 1))
def ngN (dusk hr : Int32) (t : Nat) : Int32 := ngt dusk (hr + nI t)
def mealR (m : Bool) (s : Nat → Int32) : Nat → Int32 := if m then eatR s else s
def trN (E : Nat → Bool) (s : Nat → Int32) (d dusk hr h : Int32) : Nat → Nat → Int32
  | 0 => s
  | t + 1 => passR (mealR (E t) (trN E s d dusk hr h t)) (skN d t) (ngN dusk hr t) (h + nI t)
def no (_ : Nat) : Bool := false
theorem pass_down {s : Nat → Int32} (h : ¬ s 10 = -4) (sky night hr : Int32) : passR s sky night hr = s := by
  refine funext fun f => ?_
  unfold passR
  rw [if_neg h]
theorem eat_down {s : Nat → Int32} (h : ¬ s 10 = -4) : eatR s = s := by
  refine funext fun f => ?_
  unfold eatR
  rw [if_neg (fun q => h q.1)]
theorem meal_down {s : Nat → Int32} (m : Bool) (h : ¬ s 10 = -4) : mealR m s = s := by
  unfold mealR
  cases m
  · rfl
  · exact eat_down h
theorem eat_10 (s : Nat → Int32) : eatR s 10 = s 10 := by
  unfold eatR
  by_cases c : s 10 = -4 ∧ 0 < s 6
  · rw [if_pos c, if_neg (by decide), if_neg (by decide)]
  · rw [if_neg c]
theorem meal_10 (m : Bool) (s : Nat → Int32) : mealR m s 10 = s 10 := by
  unfold mealR
  cases m
  · rfl
  · exact eat_10 s
theorem meal_congr {s t : Nat → Int32} (m : Bool) (h : ∀ f, f ≤ 10 → s f = t f) {f : Nat} (hf : f ≤ 10) : mealR m s f = mealR m t f := by
  unfold mealR
  cases m
  · exact h f hf
  · exact eat_congr h hf
theorem okR.meal {s : Nat → Int32} (m : Bool) (h : okR s) : okR (mealR m s) := by
  unfold mealR
  cases m
  · exact h
  · exact h.eat
theorem tr_congr {E : Nat → Bool} {s s' : Nat → Int32} {d dusk hr h : Int32} (e : ∀ f, f ≤ 10 → s f = s' f) : ∀ (t f : Nat), f ≤ 10 → trN E s d dusk hr h t f = trN E s' d dusk hr h t f
  | 0, f, hf => e f hf
  | t + 1, f, hf => pass_congr (fun _ hg => meal_congr _ (fun _ hk => tr_congr e t _ hk) hg) _ _ _ hf
theorem tr_E {E E' : Nat → Bool} {s : Nat → Int32} {d dusk hr h : Int32} : ∀ (N : Nat), (∀ t, t < N → E t = E' t) → trN E s d dusk hr h N = trN E' s d dusk hr h N
  | 0, _ => rfl
  | N + 1, e => by
    show passR (mealR (E N) (trN E s d dusk hr h N)) _ _ _ = passR (mealR (E' N) (trN E' s d dusk hr h N)) _ _ _
    rw [tr_E N (fun t ht => e t (by omega)), e N (by omega)]
theorem nneg4 {x : Int32} (h : 0 ≤ x.toInt) : ¬ x = -4 := fun q => by
  rw [q] at h
  exact absurd h (by decide)
/-- the offset of the hours changes nothing but the hour of going down -/
theorem tr_off {E : Nat → Bool} {s : Nat → Int32} {d dusk hr h h' : Int32} : ∀ (N : Nat), (∀ t : Nat, t < N → 0 ≤ (h + nI t).toInt ∧ 0 ≤ (h' + nI t).toInt) → (∀ f, f ≤ 9 → trN E s d dusk hr h N f = trN E s d dusk hr h' N f) ∧ (trN E s d dusk hr h N 10 = -4 ↔ trN E s d dusk hr h' N 10 = -4)
  | 0, _ => ⟨fun _ _ => rfl, Iff.rfl⟩
  | N + 1, hh => by
    obtain ⟨a, b⟩ := tr_off (E := E) (s := s) (d := d) (dusk := dusk) (hr := hr) (h := h) (h' := h') N (fun t ht => hh t (by omega))
    show (∀ f, f ≤ 9 → passR (mealR (E N) (trN E s d dusk hr h N)) _ _ _ f = passR (mealR (E N) (trN E s d dusk hr h' N)) _ _ _ f) ∧ (passR (mealR (E N) (trN E s d dusk hr h N)) _ _ _ 10 = -4 ↔ passR (mealR (E N) (trN E s d dusk hr h' N)) _ _ _ 10 = -4)
    generalize hx : trN E s d dusk hr h N = x at a b
    generalize hy : trN E s d dusk hr h' N = y at a b
    have am : ∀ f, f ≤ 9 → mealR (E N) x f = mealR (E N) y f := fun f hf => by
      unfold mealR
      cases E N
      · exact a f hf
      · show eatR x f = eatR y f
        unfold eatR
        rw [a 6 (by omega), a 5 (by omega), a f hf]
        by_cases c : x 10 = -4
        · by_cases c2 : 0 < y 6
          · rw [if_pos (show x 10 = -4 ∧ 0 < y 6 from ⟨c, c2⟩), if_pos (show y 10 = -4 ∧ 0 < y 6 from ⟨b.mp c, c2⟩)]
          · rw [if_neg (show ¬ (x 10 = -4 ∧ 0 < y 6) from fun q => c2 q.2), if_neg (show ¬ (y 10 = -4 ∧ 0 < y 6) from fun q => c2 q.2)]
        · rw [if_neg (show ¬ (x 10 = -4 ∧ 0 < y 6) from fun q => c q.1), if_neg (show ¬ (y 10 = -4 ∧ 0 < y 6) from fun q => c (b.mpr q.1))]
    have bm : mealR (E N) x 10 = -4 ↔ mealR (E N) y 10 = -4 := by rw [meal_10, meal_10]; exact b
    have g : growR (mealR (E N) x) (skN d N) (ngN dusk hr N) = growR (mealR (E N) y) (skN d N) (ngN dusk hr N) := by
      unfold growR
      rw [am 0 (by omega), am 2 (by omega), am 3 (by omega), am 4 (by omega), am 7 (by omega), am 8 (by omega), am 9 (by omega)]
    generalize mealR (E N) x = x' at am bm g
    generalize mealR (E N) y = y' at am bm g
    by_cases c : x' 10 = -4
    · have c' := bm.mp c
      refine ⟨fun f hf => ?_, ?_⟩
      · unfold passR
        rw [if_pos c, if_pos c', g, am 5 (by omega), am 1 (by omega), am f hf]
        by_cases f5 : f = 5
        · rw [if_pos f5, if_pos f5]
        · rw [if_neg f5, if_neg f5, if_neg (by omega), if_neg (by omega)]
      · unfold passR
        rw [if_pos c, if_pos c', g, am 5 (by omega), am 1 (by omega), if_neg (show ¬ (10 : Nat) = 5 by decide), if_pos (show (10 : Nat) = 10 from rfl), if_neg (show ¬ (10 : Nat) = 5 by decide), if_pos (show (10 : Nat) = 10 from rfl)]
        by_cases k : mmin 999 (y' 5 + growR y' (skN d N) (ngN dusk hr N)) < y' 1
        · rw [if_pos k, if_pos k]
        · rw [if_neg k, if_neg k]
          exact ⟨fun q => absurd q (nneg4 (hh N (by omega)).1), fun q => absurd q (nneg4 (hh N (by omega)).2)⟩
    · have c' : ¬ y' 10 = -4 := fun q => c (bm.mpr q)
      rw [pass_down c, pass_down c']
      exact ⟨am, bm⟩
/-- how many hours it sits -/
def satN (E : Nat → Bool) (s : Nat → Int32) (d dusk hr : Int32) : Nat → Nat
  | 0 => 0
  | t + 1 => satN E s d dusk hr t + (if trN E s d dusk hr 0 (t + 1) 10 = -4 then 1 else 0)
theorem off0 (t : Nat) (h : t < 2 ^ 31) : 0 ≤ ((0 : Int32) + nI t).toInt := by
  rw [show (0 : Int32) + nI t = nI t from Int32.zero_add _, nI_bd h]
  omega
theorem offh {hr : Int32} (h : rg hr 0 9999) (t : Nat) (ht : t < 100) : 0 ≤ (hr + nI t).toInt := by
  have h1 := h.1; have h2 := h.2
  rw [fb_addI (by rw [nI_bd (by omega)]; omega) (by rw [nI_bd (by omega)]; omega), nI_bd (by omega)]
  omega
theorem sat_inv {E : Nat → Bool} {s : Nat → Int32} {d dusk hr h : Int32} (h0 : s 10 = -4) : ∀ (N : Nat), (∀ t : Nat, t < N → 0 ≤ (h + nI t).toInt) → N < 1000 → (trN E s d dusk hr h N 10 = -4 ∧ satN E s d dusk hr N = N) ∨ (¬ trN E s d dusk hr h N 10 = -4 ∧ satN E s d dusk hr N < N ∧ trN E s d dusk hr h N 10 = h + nI (satN E s d dusk hr N))
  | 0, _, _ => Or.inl ⟨h0, rfl⟩
  | N + 1, hh, hN => by
    have off := (tr_off (E := E) (s := s) (d := d) (dusk := dusk) (hr := hr) (h := h) (h' := 0) (N + 1) (fun t ht => ⟨hh t ht, off0 t (by omega)⟩)).2
    have hs : satN E s d dusk hr (N + 1) = satN E s d dusk hr N + (if trN E s d dusk hr 0 (N + 1) 10 = -4 then 1 else 0) := rfl
    rcases sat_inv (E := E) (s := s) (d := d) (dusk := dusk) (hr := hr) (h := h) h0 N (fun t ht => hh t (by omega)) (by omega) with ⟨a, b⟩ | ⟨a, b, c⟩
    · by_cases q : trN E s d dusk hr h (N + 1) 10 = -4
      · refine Or.inl ⟨q, ?_⟩
        rw [hs, if_pos (off.mp q), b]
      · refine Or.inr ⟨q, ?_, ?_⟩
        · rw [hs, if_neg (fun z => q (off.mpr z)), b]; omega
        · rw [hs, if_neg (fun z => q (off.mpr z)), b]
          have e : trN E s d dusk hr h (N + 1) 10 = passR (mealR (E N) (trN E s d dusk hr h N)) (skN d N) (ngN dusk hr N) (h + nI N) 10 := rfl
          rw [e] at q ⊢
          unfold passR at q ⊢
          rw [meal_10, if_pos a, if_neg (by decide), if_pos rfl] at q ⊢
          by_cases k : mmin 999 (mealR (E N) (trN E s d dusk hr h N) 5 + growR (mealR (E N) (trN E s d dusk hr h N)) (skN d N) (ngN dusk hr N)) < mealR (E N) (trN E s d dusk hr h N) 1
          · rw [if_pos k] at q
            exact absurd rfl q
          · rw [if_neg k]; rfl
    · have e : trN E s d dusk hr h (N + 1) = trN E s d dusk hr h N := by
        show passR (mealR (E N) (trN E s d dusk hr h N)) _ _ _ = _
        rw [meal_down _ a, pass_down a]
      have q : ¬ trN E s d dusk hr h (N + 1) 10 = -4 := by rw [e]; exact a
      refine Or.inr ⟨q, ?_, ?_⟩
      · rw [hs, if_neg (fun z => q (off.mpr z))]; omega
      · rw [hs, if_neg (fun z => q (off.mpr z)), e, Nat.add_zero]; exact c
theorem tr_ok {E : Nat → Bool} {s : Nat → Int32} {d dusk hr : Int32} (hs : okR s) (hh : rg hr 0 9999) : ∀ (N : Nat), N ≤ 100 → okR (trN E s d dusk hr hr N)
  | 0, _ => hs
  | N + 1, hN => by
    refine ((tr_ok hs hh N (by omega)).meal _).pass _ _ ?_
    have := rg_add hh (show rg (nI N) 0 100 by unfold rg; rw [nI_bd (by omega)]; omega) (by omega) (by omega)
    exact rg_mono this (by omega) (by omega)
/-! the class's side -/
def LK (I : MI) (d dusk hr : Int32) : Prop := ∀ t, t < 60 → I 208 t = skN d t ∧ I 209 t = ngN dusk hr t
def snF (I : MI) (hr dusk : Int32) (k : Nat) : MI := fun i j => if i = 209 ∧ j < k then ngN dusk hr j else I i j
theorem s_nights {I : MI} (hr dusk : Int32) (L : ML) : f_X1_setNights hr dusk I L = some (snF I hr dusk 60) := by
  unfold f_X1_setNights
  refine (bd1_of (lp_forF (fun k => (nI k, snF I hr dusk k)) 60 (x := snF I hr dusk 60) ?_ (fun k hk => ?_) ?_ (by omega))).trans rfl
  · refine Prod.ext rfl (funext fun i => funext fun j => ?_)
    show I i j = snF I hr dusk 0 i j
    unfold snF
    rw [if_neg (by omega)]
  · simp only [b_X1_setNights_2, s_isDark, bd1_s, gd_b]
    rw [if_neg (show ¬ (60 : Int32) ≤ nI k from nI_ge (b := 60) hk (by omega)), gi_n (by omega) (by omega), cl_n (by omega), nm_s, nm_s, nI_1]
    refine congrArg (fun z => some (Sum.inl (nI (k + 1), z))) (funext fun i => funext fun j => ?_)
    rw [up2_at]
    unfold snF
    by_cases c : i = 209 ∧ j = k
    · rw [if_pos c, if_pos (by omega), c.2]
      rfl
    · rw [if_neg c]
      by_cases c2 : i = 209 ∧ j < k
      · rw [if_pos c2, if_pos (by omega)]
      · rw [if_neg c2, if_neg (by omega)]
  · simp only [b_X1_setNights_2, if_pos (show (60 : Int32) ≤ nI 60 by decide)]
def skF (I : MI) (d : Int32) (k : Nat) : MI := fun i j => if i = 208 ∧ j < k then skN d j else I i j
def lkF (I : MI) : MI := snF (skF I (I 3 6) 60) (I 3 4) (I 3 2) 60
theorem s_look {I : MI} (L : ML) : f_X1_look 3 I L = some (lkF I) := by
  unfold f_X1_look
  rw [nm_s, bd1_of (lp_forF (fun k => (drN (I 3 6) k, nI k, skF I (I 3 6) k)) 60 (x := skF I (I 3 6) 60) ?_ (fun k hk => ?_) ?_ (by omega)), s_nights, bd1_s]
  · rfl
  · refine Prod.ext rfl (Prod.ext rfl (funext fun i => funext fun j => ?_))
    show I i j = skF I (I 3 6) 0 i j
    unfold skF
    rw [if_neg (by omega)]
  · simp only [b_X1_look_7, if_pos (show (60 : Int32) ≤ nI 60 by decide)]
  · simp only [b_X1_look_7, s_draw, bd1_s]
    rw [if_neg (show ¬ (60 : Int32) ≤ nI k from nI_ge (b := 60) hk (by omega)), gi_n (by omega) (by omega), cl_n (by omega), nm_s, nm_s, nI_1]
    refine congrArg (fun z => some (Sum.inl (drN (I 3 6) (k + 1), nI (k + 1), z))) (funext fun i => funext fun j => ?_)
    rw [up2_at]
    unfold skF
    by_cases c : i = 208 ∧ j = k
    · rw [if_pos c, if_pos (by omega), c.2]
      rfl
    · rw [if_neg c]
      by_cases c2 : i = 208 ∧ j < k
      · rw [if_pos c2, if_pos (by omega)]
      · rw [if_neg c2, if_neg (by omega)]
theorem lk_o {I : MI} {i : Nat} (h : i ≠ 208 ∧ i ≠ 209) : lkF I i = I i := by
  refine funext fun j => ?_
  unfold lkF snF
  rw [if_neg (fun q => h.2 q.1)]
  unfold skF
  rw [if_neg (fun q => h.1 q.1)]
theorem lk_LK (I : MI) : LK (lkF I) (I 3 6) (I 3 2) (I 3 4) := by
  intro t ht
  constructor
  · unfold lkF snF
    rw [if_neg (by omega)]
    unfold skF
    rw [if_pos ⟨rfl, ht⟩]
  · unfold lkF snF
    rw [if_pos ⟨rfl, ht⟩]
theorem lk_B {I : MI} (h : InvB I) : InvB (lkF I) := h.cg (fun i hi => by rw [lk_o ⟨fun q => by rw [q] at hi; exact absurd hi (by decide), fun q => by rw [q] at hi; exact absurd hi (by decide)⟩])
theorem s_Xpass {I : MI} {d dusk hr : Int32} {t : Nat} {r : Nat → Int32} (m : Bool) {mm : Int32} (hm : mm = if m then 1 else 0) (L : ML) (hL : LK I d dusk hr) (ht : t < 60) : f_X1_pass (nI t) mm (va_up I 211 r) L = some (va_up I 211 (passR (mealR m r) (skN d t) (ngN dusk hr t) (nI t))) := by
  have vv : ∀ x y : Nat → Int32, va_up (va_up I 211 x) 211 y = va_up I 211 y := fun x y => funext fun i => by
    by_cases e : i = 211
    · rw [e, vu_at, vu_at]
    · rw [vu_ne e, vu_ne e, vu_ne e]
  unfold f_X1_pass
  rw [s_within, bd1_s, if_b, if_pos ⟨nI_pos' (by omega), nI_le (b := 59) (by omega) (by omega)⟩]
  obtain ⟨e1, e2⟩ := hL t ht
  cases m
  · rw [hm, if_pos (by decide), bd1_s, gi_n (by omega) (by omega), gi_n (by omega) (by omega), cl_n (by omega), s_pass, bd1_s, vv, vu_at, vu_ne (by omega), vu_ne (by omega), e1, e2]
    rfl
  · rw [hm, if_neg (by decide), s_eat, bd1_s, bd1_s, gi_n (by omega) (by omega), gi_n (by omega) (by omega), cl_n (by omega), vu_at, vv, s_pass, bd1_s, vv, vu_at, vu_ne (by omega), vu_ne (by omega), e1, e2]
    rfl
