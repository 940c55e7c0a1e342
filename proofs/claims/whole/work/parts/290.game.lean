/-! ===== game: two sitters, alike but for the hour at which one got down ===== -/
def Sm (s s' : Nat → Int32) : Prop := (∀ f, f ≤ 9 → s f = s' f) ∧ (s 10 = -4 ↔ s' 10 = -4)
theorem Sm.rf (s : Nat → Int32) : Sm s s := ⟨fun _ _ => rfl, Iff.rfl⟩
theorem Sm.of {s s' : Nat → Int32} (h : ∀ f, f ≤ 10 → s f = s' f) : Sm s s' := ⟨fun f hf => h f (by omega), by rw [h 10 (by omega)]⟩
theorem Sm.tr {s s' s'' : Nat → Int32} (h : Sm s s') (k : Sm s' s'') : Sm s s'' := ⟨fun f hf => (h.1 f hf).trans (k.1 f hf), h.2.trans k.2⟩
theorem Sm.eat {x y : Nat → Int32} (h : Sm x y) : Sm (eatR x) (eatR y) := by
  obtain ⟨a, b⟩ := h
  refine ⟨fun f hf => ?_, by rw [eat_10, eat_10]; exact b⟩
  unfold eatR
  rw [a 6 (by omega), a 5 (by omega), a f hf]
  by_cases c : x 10 = -4
  · by_cases c2 : 0 < y 6
    · rw [if_pos (show x 10 = -4 ∧ 0 < y 6 from ⟨c, c2⟩), if_pos (show y 10 = -4 ∧ 0 < y 6 from ⟨b.mp c, c2⟩)]
    · rw [if_neg (show ¬ (x 10 = -4 ∧ 0 < y 6) from fun q => c2 q.2), if_neg (show ¬ (y 10 = -4 ∧ 0 < y 6) from fun q => c2 q.2)]
  · rw [if_neg (show ¬ (x 10 = -4 ∧ 0 < y 6) from fun q => c q.1), if_neg (show ¬ (y 10 = -4 ∧ 0 < y 6) from fun q => c (b.mpr q.1))]
theorem Sm.pass {x' y' : Nat → Int32} (h : Sm x' y') (sk ng : Int32) {g1 g2 : Int32} (k1 : 0 ≤ g1.toInt) (k2 : 0 ≤ g2.toInt) : Sm (passR x' sk ng g1) (passR y' sk ng g2) := by
  obtain ⟨am, bm⟩ := h
  have g : growR x' sk ng = growR y' sk ng := by
    unfold growR
    rw [am 0 (by omega), am 2 (by omega), am 3 (by omega), am 4 (by omega), am 7 (by omega), am 8 (by omega), am 9 (by omega)]
  by_cases c : x' 10 = -4
  · have c' := bm.mp c
    refine ⟨fun f hf => ?_, ?_⟩
    · unfold passR
      rw [if_pos c, if_pos c', g, am 5 (by omega), am 1 (by omega), am f hf]
      by_cases f5 : f = 5
      · rw [if_pos f5, if_pos f5]
      · rw [if_neg f5, if_neg f5, if_neg (by omega), if_neg (by omega)]
    · unfold passR
      rw [if_pos c, if_pos c', g, am 5 (by omega), am 1 (by omega), if_neg (show ¬ (10 : Nat) = 5 by decide), if_pos (show (10 : Nat) = 10 from rfl), if_neg (show ¬ (10 : Nat) = 5 by decide), if_pos (show (10 : Nat) = 10 from rfl)]
      by_cases k : mmin 999 (y' 5 + growR y' sk ng) < y' 1
      · rw [if_pos k, if_pos k]
      · rw [if_neg k, if_neg k]
        exact ⟨fun q => absurd q (nneg4 k1), fun q => absurd q (nneg4 k2)⟩
  · have c' : ¬ y' 10 = -4 := fun q => c (bm.mpr q)
    rw [pass_down c, pass_down c']
    exact ⟨am, bm⟩
/-- it hears the bad news, if it sits -/
def newsR (s : Nat → Int32) : Nat → Int32 := fun f => if s 10 = -4 ∧ f = 7 then 2 else s f
theorem news_9 (s : Nat → Int32) {f : Nat} (h : f ≠ 7) : newsR s f = s f := by
  unfold newsR
  rw [if_neg (fun q => h q.2)]
theorem news_down {s : Nat → Int32} (h : ¬ s 10 = -4) : newsR s = s := funext fun f => by
  unfold newsR
  rw [if_neg (fun q => h q.1)]
theorem Sm.news {x y : Nat → Int32} (h : Sm x y) : Sm (newsR x) (newsR y) := by
  refine ⟨fun f hf => ?_, by rw [news_9 _ (by omega), news_9 _ (by omega)]; exact h.2⟩
  by_cases c : f = 7
  · subst c
    unfold newsR
    by_cases d : x 10 = -4
    · rw [if_pos (show x 10 = -4 ∧ 7 = 7 from ⟨d, rfl⟩), if_pos (show y 10 = -4 ∧ 7 = 7 from ⟨h.2.mp d, rfl⟩)]
    · rw [if_neg (show ¬ (x 10 = -4 ∧ 7 = 7) from fun q => d q.1), if_neg (show ¬ (y 10 = -4 ∧ 7 = 7) from fun q => d (h.2.mpr q.1))]
      exact h.1 7 hf
  · rw [news_9 _ c, news_9 _ c]
    exact h.1 f hf
theorem okR.news {s : Nat → Int32} (h : okR s) : okR (newsR s) := by
  obtain ⟨h0, h1, h2, h3, h4, h5, h6, h7, h8, h9, h10⟩ := h
  refine ⟨by rw [news_9 _ (by omega)]; exact h0, by rw [news_9 _ (by omega)]; exact h1, by rw [news_9 _ (by omega)]; exact h2, by rw [news_9 _ (by omega)]; exact h3, by rw [news_9 _ (by omega)]; exact h4, by rw [news_9 _ (by omega)]; exact h5, by rw [news_9 _ (by omega)]; exact h6, ?_, by rw [news_9 _ (by omega)]; exact h8, by rw [news_9 _ (by omega)]; exact h9, by rw [news_9 _ (by omega)]; exact h10⟩
  unfold newsR
  exact rg_if ⟨by decide, by decide⟩ h7
theorem eat_none {s : Nat → Int32} (h : ¬ (s 10 = -4 ∧ 0 < s 6)) : eatR s = s := funext fun f => by
  unfold eatR
  rw [if_neg h]
abbrev S2 := (Nat → Int32) × (Nat → Int32)
/-- a move of the first, of the second; an hour for both -/
def mvA (m : Nat) (S : S2) : S2 := if m = 1 then (eatR S.1, S.2) else if m = 2 then (S.1, newsR S.2) else S
def mvB (m : Nat) (S : S2) : S2 := if m = 1 then (S.1, eatR S.2) else if m = 2 then (newsR S.1, S.2) else S
def hrS (d dusk hr : Int32) (t : Nat) (S : S2) : S2 := (passR S.1 (skN d t) (ngN dusk hr t) 0, passR S.2 (skN d t) (ngN dusk hr t) 0)
def hmv (d dusk hr : Int32) (t m : Nat) (S : S2) : S2 := if t % 2 = 0 then mvA m S else hrS d dusk hr (t / 2) (mvB m S)
def edgeS (S : S2) : Int32 := (S.1 1 - S.1 5) - (S.2 1 - S.2 5)
def accU (b : Bool) (F : Nat → Int32) : Nat → Int32
  | 0 => if b then -1000000 else 1000000
  | j + 1 => if b then mmax (accU b F j) (F j) else mmin (accU b F j) (F j)
def hval (d dusk hr : Int32) : Nat → Nat → S2 → Int32
  | 0, _, S => edgeS S
  | j + 1, t, S => accU (decide (t % 2 = 0)) (fun m => hval d dusk hr j (t + 1) (hmv d dusk hr t m S)) 3
def stepS (d dusk hr : Int32) (t x : Nat) (S : S2) : S2 := hrS d dusk hr t (mvB (x % 3) (mvA (x / 3) S))
def val (d dusk hr : Int32) : Nat → Nat → S2 → Int32
  | 0, _, S => edgeS S
  | j + 1, t, S => accU true (fun m => accU false (fun m' => val d dusk hr j (t + 1) (stepS d dusk hr t (3 * m + m') S)) 3) 3
theorem accU_congr {b : Bool} {F G : Nat → Int32} : ∀ {n : Nat}, (∀ m, m < n → F m = G m) → accU b F n = accU b G n
  | 0, _ => rfl
  | n + 1, h => by
    show (if b then mmax (accU b F n) (F n) else mmin (accU b F n) (F n)) = (if b then mmax (accU b G n) (G n) else mmin (accU b G n) (G n))
    rw [accU_congr (n := n) (fun m hm => h m (by omega)), h n (by omega)]
theorem hval_val (d dusk hr : Int32) : ∀ r t S, hval d dusk hr (2 * r) (2 * t) S = val d dusk hr r t S
  | 0, _, _ => rfl
  | r + 1, t, S => by
    show accU (decide (2 * t % 2 = 0)) (fun m => accU (decide ((2 * t + 1) % 2 = 0)) (fun m' => hval d dusk hr (2 * r) (2 * t + 1 + 1) (hmv d dusk hr (2 * t + 1) m' (hmv d dusk hr (2 * t) m S))) 3) 3 = accU true (fun m => accU false (fun m' => val d dusk hr r (t + 1) (stepS d dusk hr t (3 * m + m') S)) 3) 3
    rw [decide_eq_true (show 2 * t % 2 = 0 by omega), decide_eq_false (show ¬ (2 * t + 1) % 2 = 0 by omega)]
    refine accU_congr (fun m hm => accU_congr (fun m' hm' => ?_))
    rw [show 2 * t + 1 + 1 = 2 * (t + 1) by omega, hval_val d dusk hr r (t + 1)]
    refine congrArg (val d dusk hr r (t + 1)) ?_
    unfold hmv stepS
    rw [if_neg (by omega), if_pos (show 2 * t % 2 = 0 by omega), show (2 * t + 1) / 2 = t by omega, show (3 * m + m') / 3 = m by omega, show (3 * m + m') % 3 = m' by omega]
/-- the state behind the digits of x -/
def runS (d dusk hr : Int32) (S : S2) : Nat → Nat → S2
  | 0, _ => S
  | l + 1, x => stepS d dusk hr l (x % 9) (runS d dusk hr S l (x / 9))
theorem fold_run (d dusk hr : Int32) (S : S2) (r l x : Nat) : accU true (fun m => accU false (fun m' => val d dusk hr r (l + 1) (runS d dusk hr S (l + 1) (9 * x + 3 * m + m'))) 3) 3 = val d dusk hr (r + 1) l (runS d dusk hr S l x) := by
  show _ = accU true (fun m => accU false (fun m' => val d dusk hr r (l + 1) (stepS d dusk hr l (3 * m + m') (runS d dusk hr S l x))) 3) 3
  refine accU_congr (fun m hm => accU_congr (fun m' hm' => ?_))
  show val d dusk hr r (l + 1) (stepS d dusk hr l ((9 * x + 3 * m + m') % 9) (runS d dusk hr S l ((9 * x + 3 * m + m') / 9))) = _
  rw [show (9 * x + 3 * m + m') % 9 = 3 * m + m' by omega, show (9 * x + 3 * m + m') / 9 = x by omega]
theorem mmax_i (a b : Int32) : (mmax a b).toInt = max a.toInt b.toInt := by
  rw [mmax_eq]
  by_cases c : a ≤ b
  · rw [if_pos c]
    rw [fa_le] at c
    omega
  · rw [if_neg c]
    rw [fa_le] at c
    omega
theorem mmin_i (a b : Int32) : (mmin a b).toInt = min a.toInt b.toInt := by
  rw [mmin_eq]
  by_cases c : b ≤ a
  · rw [if_pos c]
    rw [fa_le] at c
    omega
  · rw [if_neg c]
    rw [fa_le] at c
    omega
theorem accU_s (b : Bool) (F : Nat → Int32) (j : Nat) : accU b F (j + 1) = if b then mmax (accU b F j) (F j) else mmin (accU b F j) (F j) := rfl
theorem accU_t (F : Nat → Int32) (j : Nat) : accU true F (j + 1) = mmax (accU true F j) (F j) := rfl
theorem accU_f (F : Nat → Int32) (j : Nat) : accU false F (j + 1) = mmin (accU false F j) (F j) := rfl
theorem mmin_k1 (x a : Int32) : mmin (mmin x a) a = mmin x a := by
  rw [fa_eq, mmin_i, mmin_i]
  omega
theorem mmin_k2 (x a b : Int32) : mmin (mmin (mmin x a) b) a = mmin (mmin x a) b := by
  rw [fa_eq, mmin_i, mmin_i, mmin_i]
  omega
theorem mmax_k1 (x a : Int32) : mmax (mmax x a) a = mmax x a := by
  rw [fa_eq, mmax_i, mmax_i]
  omega
theorem mmax_k2 (x a b : Int32) : mmax (mmax (mmax x a) b) a = mmax (mmax x a) b := by
  rw [fa_eq, mmax_i, mmax_i, mmax_i]
  omega
theorem accU_keep (b : Bool) (F : Nat → Int32) {j : Nat} (h1 : 1 ≤ j) (h2 : j < 3) (e : F j = F 0) : accU b F (j + 1) = accU b F j := by
  have hj : j = 1 ∨ j = 2 := by omega
  cases b
  · rcases hj with rfl | rfl
    · rw [accU_f F 1, e, accU_f F 0, mmin_k1]
    · rw [accU_f F 2, e, accU_f F 1, accU_f F 0, mmin_k2]
  · rcases hj with rfl | rfl
    · rw [accU_t F 1, e, accU_t F 0, mmax_k1]
    · rw [accU_t F 2, e, accU_t F 1, accU_t F 0, mmax_k2]
theorem Sm.edge {x x' y y' : Nat → Int32} (h : Sm x x') (k : Sm y y') : (x 1 - x 5) - (y 1 - y 5) = edgeS (x', y') := by
  show _ = (x' 1 - x' 5) - (y' 1 - y' 5)
  rw [h.1 1 (by omega), h.1 5 (by omega), k.1 1 (by omega), k.1 5 (by omega)]
theorem i32_4 (a b c d : Int32) : ((a - b) - c) + d = (a - b) - (c - d) := by
  apply Int32.toBitVec_inj.1
  show ((a.toBitVec - b.toBitVec) - c.toBitVec) + d.toBitVec = (a.toBitVec - b.toBitVec) - (c.toBitVec - d.toBitVec)
  bv_omega
