/-! ===== train ===== -/
/-- a sitter with less hunger and less cold -/
def tqR (s : Nat → Int32) (a b : Nat) : Nat → Int32 := fun f => if f = 2 then s 2 - nI a else if f = 3 then s 3 - nI b else s f
/-- the strain behind t hours, with no bound on it -/
def suN (s : Nat → Int32) (d dusk hr : Int32) : Nat → Int32
  | 0 => s 5
  | t + 1 => suN s d dusk hr t + growR s (skN d t) (ngN dusk hr t)
theorem su_rg {s : Nat → Int32} {d dusk hr : Int32} (h : okR s) : ∀ t : Nat, t ≤ 40 → rg (suN s d dusk hr t) 0 (999 + 46 * (t : Int))
  | 0, _ => ⟨h.2.2.2.2.2.1.1, by have := h.2.2.2.2.2.1.2; show (s 5).toInt ≤ _; omega⟩
  | t + 1, ht => rg_mono (rg_add (su_rg h t (by omega)) (h.grow (skN d t) (ngN dusk hr t)) (by omega) (by omega)) (by omega) (by omega)
theorem su_step {s : Nat → Int32} {d dusk hr : Int32} (h : okR s) {t : Nat} (ht : t < 40) : (suN s d dusk hr (t + 1)).toInt = (suN s d dusk hr t).toInt + (growR s (skN d t) (ngN dusk hr t)).toInt := by
  have h1 := su_rg (d := d) (dusk := dusk) (hr := hr) h t (by omega)
  have h2 := h.grow (skN d t) (ngN dusk hr t)
  show (suN s d dusk hr t + growR s (skN d t) (ngN dusk hr t)).toInt = _
  rw [Int32.toInt_add]
  exact Int.bmod_eq_of_le (by have := h1.1; have := h2.1; omega) (by have := h1.2; have := h2.2; omega)
theorem su_mono {s : Nat → Int32} {d dusk hr : Int32} (h : okR s) {t : Nat} : ∀ j : Nat, t + j ≤ 40 → (suN s d dusk hr t).toInt ≤ (suN s d dusk hr (t + j)).toInt
  | 0, _ => Int.le_refl _
  | j + 1, hj => by
    have h1 := su_mono (d := d) (dusk := dusk) (hr := hr) h (t := t) j (by omega)
    have h2 := su_step (d := d) (dusk := dusk) (hr := hr) h (t := t + j) (by omega)
    have h3 := (h.grow (skN d (t + j)) (ngN dusk hr (t + j))).1
    show _ ≤ (suN s d dusk hr (t + j + 1)).toInt
    omega
theorem okR.tq {s : Nat → Int32} (h : okR s) {a b : Nat} (ha : (a : Int) ≤ (s 2).toInt) (hb : (b : Int) ≤ (s 3).toInt) : okR (tqR s a b) := by
  obtain ⟨h0, h1, h2, h3, h4⟩ := h
  have sub : ∀ {x : Int32} {c : Nat}, rg x 0 9 → (c : Int) ≤ x.toInt → rg (x - nI c) 0 9 := fun {x c} hx hc => by
    have hc9 : c ≤ 9 := by have := hx.2; omega
    have e : (x - nI c).toInt = x.toInt - c := by
      rw [Int32.toInt_sub, nI_bd (by omega)]
      exact Int.bmod_eq_of_le (by have := hx.1; omega) (by have := hx.2; omega)
    unfold rg
    rw [e]
    have := hx.2
    omega
  exact ⟨h0, h1, sub h2 ha, sub h3 hb, h4⟩
def needI (s : Nat → Int32) (d dusk hr : Int32) (N a b : Nat) : Int32 := mmax 0 (mmin 999 (suN (tqR s a b) d dusk hr N) + 1 - s 1)
def needN (s : Nat → Int32) (d dusk hr : Int32) (N a b : Nat) : Nat := (needI s d dusk hr N a b).toNatClampNeg
theorem need_i {s : Nat → Int32} {d dusk hr : Int32} {N a b : Nat} (h : okR s) (hN : N ≤ 40) (ha : (a : Int) ≤ (s 2).toInt) (hb : (b : Int) ≤ (s 3).toInt) : (needI s d dusk hr N a b).toInt = max 0 (min 999 (suN (tqR s a b) d dusk hr N).toInt + 1 - (s 1).toInt) := by
  have h1 := su_rg (d := d) (dusk := dusk) (hr := hr) (h.tq ha hb) N hN
  have h2 := h.2.1
  unfold needI
  have e : (mmin 999 (suN (tqR s a b) d dusk hr N) + 1 - s 1).toInt = min 999 (suN (tqR s a b) d dusk hr N).toInt + 1 - (s 1).toInt := by
    have e1 : (mmin 999 (suN (tqR s a b) d dusk hr N)).toInt = min 999 (suN (tqR s a b) d dusk hr N).toInt := mmin_i _ _
    have e2 : (mmin 999 (suN (tqR s a b) d dusk hr N) + 1).toInt = min 999 (suN (tqR s a b) d dusk hr N).toInt + 1 := by
      rw [Int32.toInt_add, e1]
      have z : (1 : Int32).toInt = 1 := rfl
      rw [z]
      exact Int.bmod_eq_of_le (by have := h1.1; omega) (by omega)
    rw [Int32.toInt_sub, e2]
    exact Int.bmod_eq_of_le (by have := h1.1; have := h2.2; omega) (by have := h2.1; omega)
  rw [mmax_i, e]
  rfl
theorem need_n {s : Nat → Int32} {d dusk hr : Int32} {N a b : Nat} (h : okR s) (hN : N ≤ 40) (ha : (a : Int) ≤ (s 2).toInt) (hb : (b : Int) ≤ (s 3).toInt) : needI s d dusk hr N a b = nI (needN s d dusk hr N a b) ∧ needN s d dusk hr N a b ≤ 1000 := by
  have e := need_i (d := d) (dusk := dusk) (hr := hr) h hN ha hb
  have h2 := h.2.1
  exact rg_cl (b := 1000) ⟨by rw [e]; omega, by rw [e]; have := h2.1; omega⟩ (by omega)
theorem need_le {s : Nat → Int32} {d dusk hr : Int32} {N a b l : Nat} (h : okR s) (hN : N ≤ 40) (ha : (a : Int) ≤ (s 2).toInt) (hb : (b : Int) ≤ (s 3).toInt) (hl : l ≤ 20) (hl2 : (s 1).toInt + l ≤ 99) : needN s d dusk hr N a b ≤ l ↔ (suN (tqR s a b) d dusk hr N).toInt < (s 1).toInt + l := by
  have e := need_i (d := d) (dusk := dusk) (hr := hr) h hN ha hb
  obtain ⟨n1, n2⟩ := need_n (d := d) (dusk := dusk) (hr := hr) h hN ha hb
  rw [n1, nI_bd (by omega)] at e
  have h1 := su_rg (d := d) (dusk := dusk) (hr := hr) (h.tq ha hb) N hN
  have h2 := h.2.1
  have := h1.1
  have := h2.1
  omega
/-- the class's trial: a line of 1000 -/
def trqR (s : Nat → Int32) (a b : Nat) (z : Nat → Int32) : Nat → Int32 := fun f => if f = 1 then 1000 else if f = 2 then s 2 - nI a else if f = 3 then s 3 - nI b else if f ≤ 10 then s f else z f
theorem tr_su {s r : Nat → Int32} {d dusk hr : Int32} (h : okR s) (r1 : r 1 = 1000) (r10 : r 10 = -4) (rf : ∀ f, f ≤ 9 → f ≠ 1 → r f = s f) : ∀ t : Nat, t ≤ 40 → trN no r d dusk hr 0 t 10 = -4 ∧ trN no r d dusk hr 0 t 5 = mmin 999 (suN s d dusk hr t)
  | 0, _ => ⟨r10, by
      show r 5 = mmin 999 (s 5)
      rw [rf 5 (by omega) (by omega), fa_eq, mmin_i]
      have := h.2.2.2.2.2.1.2
      have z : (999 : Int32).toInt = 999 := rfl
      omega⟩
  | t + 1, ht => by
    obtain ⟨i1, i2⟩ := tr_su (d := d) (dusk := dusk) (hr := hr) h r1 r10 rf t (by omega)
    have hg : growR (trN no r d dusk hr 0 t) (skN d t) (ngN dusk hr t) = growR s (skN d t) (ngN dusk hr t) := by
      have q : ∀ f, f ≤ 9 → f ≠ 1 → f ≠ 5 → f ≠ 6 → trN no r d dusk hr 0 t f = s f := fun f a b c e => by rw [tr_9 c e (by omega)]; exact rf f a b
      unfold growR
      rw [q 0 (by omega) (by omega) (by omega) (by omega), q 2 (by omega) (by omega) (by omega) (by omega), q 3 (by omega) (by omega) (by omega) (by omega), q 4 (by omega) (by omega) (by omega) (by omega), q 7 (by omega) (by omega) (by omega) (by omega), q 8 (by omega) (by omega) (by omega) (by omega), q 9 (by omega) (by omega) (by omega) (by omega)]
    have e1 : trN no r d dusk hr 0 t 1 = 1000 := by rw [tr_9 (by omega) (by omega) (by omega)]; exact r1
    have e5 : mmin 999 (trN no r d dusk hr 0 t 5 + growR (trN no r d dusk hr 0 t) (skN d t) (ngN dusk hr t)) = mmin 999 (suN s d dusk hr (t + 1)) := by
      rw [hg, i2, fa_eq, mmin_i, mmin_i, su_step h (by omega), Int32.toInt_add, mmin_i]
      have h1 := su_rg (d := d) (dusk := dusk) (hr := hr) h t (by omega)
      have h2 := h.grow (skN d t) (ngN dusk hr t)
      have z : (999 : Int32).toInt = 999 := rfl
      rw [z]
      rw [Int.bmod_eq_of_le (by have := h1.1; have := h2.1; omega) (by have := h2.2; omega)]
      have := h1.1
      have := h2.1
      omega
    show passR (trN no r d dusk hr 0 t) (skN d t) (ngN dusk hr t) (0 + nI t) 10 = -4 ∧ passR (trN no r d dusk hr 0 t) (skN d t) (ngN dusk hr t) (0 + nI t) 5 = mmin 999 (suN s d dusk hr (t + 1))
    unfold passR
    rw [if_pos i1, if_neg (show ¬ (10 : Nat) = 5 by decide), if_pos (show (10 : Nat) = 10 from rfl), if_pos i1, if_pos (show (5 : Nat) = 5 from rfl), e1, e5]
    refine ⟨if_pos ?_, rfl⟩
    rw [fa_lt, mmin_i]
    have z : (999 : Int32).toInt = 999 := rfl
    have z2 : (1000 : Int32).toInt = 1000 := rfl
    omega
theorem s_lineToAdd {I : MI} {d dusk hr : Int32} {q N a b : Nat} (L : ML) (hL : LK I d dusk hr) (hq : q ≠ 211) (hs : okR (I q)) (h10 : I q 10 = -4) (hN : N ≤ 40) (ha : (a : Int) ≤ (I q 2).toInt) (hb : (b : Int) ≤ (I q 3).toInt) : ∃ r, f_X1_lineToAdd q (nI N) (nI a) (nI b) I L = some (nI (needN (I q) d dusk hr N a b), va_up I 211 r) ∧ (r 9 = 0 ∨ r 9 = 1) := by
  have h9 := e01 hs.2.2.2.2.2.2.2.2.2.1
  unfold f_X1_lineToAdd
  rw [s6_take L (fun z => hq z.symm) h9, bd1_s, tk211, nm_s, nm_s, nm_s]
  have e : up2 (up2 (up2 (va_up I 211 (s0 I q)) 211 1 (1000 : Int32)) 211 2 (up2 (va_up I 211 (s0 I q)) 211 1 (1000 : Int32) 211 2 - nI a)) 211 3 (up2 (up2 (va_up I 211 (s0 I q)) 211 1 (1000 : Int32)) 211 2 (up2 (va_up I 211 (s0 I q)) 211 1 (1000 : Int32) 211 2 - nI a) 211 3 - nI b) = va_up I 211 (trqR (I q) a b (I 211)) := by
    refine funext fun i => funext fun j => ?_
    by_cases c : i = 211
    · subst c
      rw [vu_at]
      unfold trqR
      by_cases j3 : j = 3
      · subst j3
        rw [up2_s, up2_n (by omega), up2_n (by omega), vu_at, s0_e (by omega)]
        rfl
      · rw [up2_n j3]
        by_cases j2 : j = 2
        · subst j2
          rw [up2_s, up2_n (by omega), vu_at, s0_e (by omega)]
          rfl
        · rw [up2_n j2]
          by_cases j1 : j = 1
          · subst j1
            rw [up2_s]
            rfl
          · rw [up2_n j1, vu_at, if_neg j1, if_neg j2, if_neg j3]
            unfold s0
            by_cases j10 : j ≤ 10
            · rw [if_pos (by omega), if_pos j10]
            · rw [if_neg (by omega), if_neg j10]
    · rw [up2_ne c, up2_ne c, up2_ne c, vu_ne c, vu_ne c]
  rw [e]
  rw [bd1_of (lp_forF (s0 := ((0 : Int32), va_up I 211 (trqR (I q) a b (I 211)))) (fun k => (nI k, va_up I 211 (trN no (trqR (I q) a b (I 211)) d dusk hr 0 k))) N (x := va_up I 211 (trN no (trqR (I q) a b (I 211)) d dusk hr 0 N)) rfl (fun k hk => ?_) ?_ (by omega)), vu_at, vu_ne hq]
  · have ht := (tr_su (r := trqR (I q) a b (I 211)) (d := d) (dusk := dusk) (hr := hr) (hs.tq ha hb) rfl h10 (fun f hf h1 => by
      unfold trqR tqR
      rw [if_neg h1]
      by_cases c2 : f = 2
      · rw [if_pos c2, if_pos c2]
      · rw [if_neg c2, if_neg c2]
        by_cases c3 : f = 3
        · rw [if_pos c3, if_pos c3]
        · rw [if_neg c3, if_neg c3, if_pos (by omega)]) N hN).2
    rw [ht]
    refine ⟨_, congrArg (fun z => some (z, va_up I 211 (trN no (trqR (I q) a b (I 211)) d dusk hr 0 N))) (need_n (d := d) (dusk := dusk) (hr := hr) hs hN ha hb).1, ?_⟩
    rw [tr_9 (by omega) (by omega) (by omega)]
    exact h9
  · simp only [b_X1_lineToAdd_48]
    rw [if_pos (nI_le (Nat.le_refl N) (by omega))]
  · simp only [b_X1_lineToAdd_48]
    rw [if_neg (nI_ge hk (by omega)), s_Xpass (t := k) (mm := 0) false rfl L hL (by omega), bd1_s, nm_s, nI_1]
    refine congrArg (fun z => some (Sum.inl (nI (k + 1), va_up I 211 z))) ?_
    show _ = passR (mealR (no k) (trN no (trqR (I q) a b (I 211)) d dusk hr 0 k)) (skN d k) (ngN dusk hr k) (0 + nI k)
    rw [show (0 : Int32) + nI k = nI k from Int32.zero_add _]
    rfl
def cst (l a b : Nat) : Nat := 2 * l + 5 * a + 3 * b
def cde (l a b : Nat) : Nat := 100 * l + 10 * a + b
def Wt (l a b : Nat) : Nat := 10000 * cst l a b + cde l a b
/-- the class's best of the pairs Q -/
def CB (nd : Nat → Nat → Nat) (cap : Nat) (Q : Nat → Nat → Prop) (z3 : Int32) (T : MI) : Prop := (z3 = 0 ∧ ∀ a b, Q a b → ¬ nd a b ≤ cap) ∨ (z3 = 1 ∧ ∃ a b, Q a b ∧ nd a b ≤ cap ∧ T 210 0 = nI (cst (nd a b) a b) ∧ T 210 1 = nI (nd a b) ∧ T 210 2 = nI a ∧ T 210 3 = nI b ∧ ∀ a' b', Q a' b' → nd a' b' ≤ cap → Wt (nd a b) a b ≤ Wt (nd a' b') a' b')
theorem CB.cg {nd : Nat → Nat → Nat} {cap : Nat} {Q Q' : Nat → Nat → Prop} {z : Int32} {T T' : MI} (h : CB nd cap Q z T) (e : T' 210 = T 210) (hQ : ∀ a b, Q a b ↔ Q' a b) : CB nd cap Q' z T' := by
  rcases h with ⟨h1, h2⟩ | ⟨h1, a, b, q, c, t0, t1, t2, t3, hm⟩
  · exact Or.inl ⟨h1, fun a b q => h2 a b ((hQ a b).mpr q)⟩
  · exact Or.inr ⟨h1, a, b, (hQ a b).mp q, c, by rw [e]; exact t0, by rw [e]; exact t1, by rw [e]; exact t2, by rw [e]; exact t3, fun a' b' q' => hm a' b' ((hQ a' b').mpr q')⟩
theorem FS.t {I T : MI} (h : FS I T) (j : Nat) (v : Int32) : FS I (up2 T 210 j v) := ⟨fun i hi => by rw [up2_ne (by omega)]; exact h.1 i hi, h.2.1.up (Or.inr (Or.inl (by decide))), fun t ht => by rw [up2_ne (by omega), up2_ne (by omega)]; exact h.2.2 t ht⟩
theorem W_lt {l a b l' a' b' : Nat} (hl : l ≤ 20) (ha : a ≤ 9) (hb : b ≤ 9) (hl' : l' ≤ 20) (ha' : a' ≤ 9) (hb' : b' ≤ 9) : (if cst l' a' b' = cst l a b then (if l' = l then a' < a else l' < l) else cst l' a' b' < cst l a b) ↔ Wt l' a' b' < Wt l a b := by
  have c1 : cde l a b < 10000 := by unfold cde; omega
  have c2 : cde l' a' b' < 10000 := by unfold cde; omega
  unfold Wt
  by_cases e : cst l' a' b' = cst l a b
  · rw [if_pos e, e]
    have e' := e
    unfold cst at e'
    unfold cde
    by_cases f : l' = l
    · rw [if_pos f]
      omega
    · rw [if_neg f]
      omega
  · rw [if_neg e]
    omega
theorem s_isBetter {T : MI} {l a b l' a' b' : Nat} (L : ML) (hl : l ≤ 20) (ha : a ≤ 9) (hb : b ≤ 9) (hl' : l' ≤ 20) (ha' : a' ≤ 9) (hb' : b' ≤ 9) (t0 : T 210 0 = nI (cst l a b)) (t1 : T 210 1 = nI l) (t2 : T 210 2 = nI a) : f_X1_isBetter (nI (cst l' a' b')) (nI l') (nI a') T L = some (b01 (Wt l' a' b' < Wt l a b)) := by
  have k1 : cst l a b ≤ 1000 := by unfold cst; omega
  have k2 : cst l' a' b' ≤ 1000 := by unfold cst; omega
  unfold f_X1_isBetter
  have g : ∀ (j : Nat) (hj : j < 4) (o : Option Int32), gi (nI j) 4 o = o := fun j hj o => gi_n hj (by omega)
  rw [show (0 : Int32) = nI 0 from rfl, show (1 : Int32) = nI 1 from rfl, show (2 : Int32) = nI 2 from rfl]
  simp only [g 0 (by omega), g 1 (by omega), g 2 (by omega), cl_n (show 0 < 2 ^ 31 by omega), cl_n (show 1 < 2 ^ 31 by omega), cl_n (show 2 < 2 ^ 31 by omega), t0, t1, t2]
  have W := W_lt hl ha hb hl' ha' hb'
  have ne : ∀ x y : Nat, x ≤ 1000 → y ≤ 1000 → (nI x = nI y ↔ x = y) := fun x y hx hy => nI_eq (by omega) (by omega)
  have le : ∀ x y : Nat, x ≤ 1000 → y ≤ 1000 → (nI x ≤ nI y ↔ ¬ y < x) := fun x y hx hy => by rw [fa_le, nI_bd (by omega), nI_bd (by omega)]; omega
  have fin : ∀ (p : Prop) [Decidable p], (if p then some (nI 0) else some (nI 1)) = some (b01 (¬ p)) := fun p _ => by
    by_cases c : p
    · rw [if_pos c, b01_f (fun z => z c)]; rfl
    · rw [if_neg c, b01_t c]; rfl
  have gb : ∀ (p : Prop) [Decidable p], gd (b01 p = nI 0 ∨ b01 p = nI 1) (some (b01 p)) = some (b01 p) := fun p _ => gd_t b01_b
  by_cases e : cst l' a' b' = cst l a b
  · rw [if_pos e] at W
    rw [if_pos ((ne _ _ k2 k1).mpr e)]
    by_cases f : l' = l
    · rw [if_pos f] at W
      rw [if_pos ((ne _ _ (by omega) (by omega)).mpr f), fin, bd1_s, gb]
      exact congrArg some (b01_iff (by rw [le _ _ (by omega) (by omega), Decidable.not_not]; exact W))
    · rw [if_neg f] at W
      rw [if_neg (fun z => f ((ne _ _ (by omega) (by omega)).mp z)), fin, bd1_s, gb]
      exact congrArg some (b01_iff (by rw [le _ _ (by omega) (by omega), Decidable.not_not]; exact W))
  · rw [if_neg e] at W
    rw [if_neg (fun z => e ((ne _ _ k2 k1).mp z)), fin, bd1_s, gb]
    exact congrArg some (b01_iff (by rw [le _ _ k1 k2, Decidable.not_not]; exact W))
/-- four stores of a best -/
def putT (T : MI) (x l a b : Int32) : MI := up2 (up2 (up2 (up2 T 210 0 x) 210 1 l) 210 2 a) 210 3 b
theorem put_0 {T : MI} {x l a b : Int32} : putT T x l a b 210 0 = x ∧ putT T x l a b 210 1 = l ∧ putT T x l a b 210 2 = a ∧ putT T x l a b 210 3 = b := by
  unfold putT
  refine ⟨by rw [up2_n (by omega), up2_n (by omega), up2_n (by omega), up2_s], by rw [up2_n (by omega), up2_n (by omega), up2_s], by rw [up2_n (by omega), up2_s], by rw [up2_s]⟩
theorem s_tcell {I T : MI} {k N a b cap : Nat} {z3 : Int32} {Q : Nat → Nat → Prop} (L : ML) (hT : FS I T) (hk : k < 6) (hs : okR (I (3 + 2 + k))) (h10 : I (3 + 2 + k) 10 = -4) (hN : N ≤ 40) (hc : cap ≤ 20) (ha : (a : Int) ≤ (I (3 + 2 + k) 2).toInt) (hb : (b : Int) ≤ (I (3 + 2 + k) 3).toInt) (hQ : ∀ a b, Q a b → a ≤ 9 ∧ b ≤ 9) (h : CB (needN (I (3 + 2 + k)) (I 3 6) (I 3 2) (I 3 4) N) cap Q z3 T) : ∃ z T', b_X1_findTraining_31 (3 + 2 + k) (nI N) (nI cap) (nI a) L z3 (nI b) T = some (Sum.inl (z, nI (b + 1), T')) ∧ FS I T' ∧ CB (needN (I (3 + 2 + k)) (I 3 6) (I 3 2) (I 3 4) N) cap (fun a' b' => Q a' b' ∨ (a' = a ∧ b' = b)) z T' := by
  have tk : T (3 + 2 + k) = I (3 + 2 + k) := hT.1 _ (by omega)
  have ha9 : a ≤ 9 := by have := hs.2.2.1.2; omega
  have hb9 : b ≤ 9 := by have := hs.2.2.2.1.2; omega
  obtain ⟨r, r1, r2⟩ := s_lineToAdd (q := 3 + 2 + k) L hT.2.2 (by omega) (by rw [tk]; exact hs) (by rw [tk]; exact h10) hN (by rw [tk]; exact ha) (by rw [tk]; exact hb)
  rw [tk] at r1
  obtain ⟨n1, n2⟩ := need_n (d := I 3 6) (dusk := I 3 2) (hr := I 3 4) hs hN ha hb
  simp only [b_X1_findTraining_31]
  rw [show T (3 + 2 + k) 3 = I (3 + 2 + k) 3 by rw [tk], if_neg (show ¬ I (3 + 2 + k) 3 < nI b from fun q => by rw [fa_lt, nI_bd (by omega)] at q; omega), r1, bd2_s, nm_s]
  have ex : (2 : Int32) * nI (needN (I (3 + 2 + k)) (I 3 6) (I 3 2) (I 3 4) N a b) + (5 : Int32) * nI a + (3 : Int32) * nI b = nI (cst (needN (I (3 + 2 + k)) (I 3 6) (I 3 2) (I 3 4) N a b) a b) := by
    rw [show (2 : Int32) = nI 2 from rfl, show (5 : Int32) = nI 5 from rfl, show (3 : Int32) = nI 3 from rfl, pk_mul, pk_mul, pk_mul, nI_add, nI_add]
    rfl
  rw [ex]
  have hT2 : FS I (va_up T 211 r) := hT.va r2
  have t2 : va_up T 211 r 210 = T 210 := vu_ne (by omega)
  generalize hnd : needN (I (3 + 2 + k)) (I 3 6) (I 3 2) (I 3 4) N = nd at h n1 n2 ⊢
  have g : ∀ (β : Type) (j : Nat) (hj : j < 4) (o : Option β), gi (nI j) 4 o = o := fun β j hj o => gi_n hj (by omega)
  have put : ∀ (U : MI) (x l c e : Int32), gi (0 : Int32) 4 (nm (up2 U 210 ((0 : Int32).toNatClampNeg) x) (fun I16 => gi (1 : Int32) 4 (nm (up2 I16 210 ((1 : Int32).toNatClampNeg) l) (fun I18 => gi (2 : Int32) 4 (nm (up2 I18 210 ((2 : Int32).toNatClampNeg) c) (fun I20 => gi (3 : Int32) 4 (nm (up2 I20 210 ((3 : Int32).toNatClampNeg) e) (fun I22 => some (((1 : Int32), I22)))))))))) = some ((1 : Int32), putT U x l c e) := fun U x l c e => rfl
  have hput : ∀ (U : MI) (x l c e : Int32), FS I U → FS I (putT U x l c e) := fun U x l c e hU => (((hU.t 0 x).t 1 l).t 2 c).t 3 e
  by_cases c1 : cap < nd a b
  · rw [if_pos (nI_lt c1 (by omega)), bd2_s, nm_s, nI_1]
    refine ⟨z3, _, rfl, hT2, ?_⟩
    rcases h with ⟨h1, h2⟩ | ⟨h1, a0, b0, q, c, t0', t1', t2', t3', hm⟩
    · refine Or.inl ⟨h1, fun a' b' q => ?_⟩
      rcases q with q | ⟨rfl, rfl⟩
      · exact h2 _ _ q
      · omega
    · refine Or.inr ⟨h1, a0, b0, Or.inl q, c, by rw [t2]; exact t0', by rw [t2]; exact t1', by rw [t2]; exact t2', by rw [t2]; exact t3', fun a' b' q' c' => ?_⟩
      rcases q' with q' | ⟨rfl, rfl⟩
      · exact hm _ _ q' c'
      · omega
  · rw [if_neg (nI_nlt (by omega) (by omega))]
    have fin : ∀ (w : Prop) , (∀ a' b', Q a' b' → nd a' b' ≤ cap → Wt (nd a b) a b ≤ Wt (nd a' b') a' b') → CB nd cap (fun a' b' => Q a' b' ∨ (a' = a ∧ b' = b)) (1 : Int32) (putT (va_up T 211 r) (nI (cst (nd a b) a b)) (nI (nd a b)) (nI a) (nI b)) := fun _ hw =>
      Or.inr ⟨rfl, a, b, Or.inr ⟨rfl, rfl⟩, by omega, put_0.1, put_0.2.1, put_0.2.2.1, put_0.2.2.2, fun a' b' q' c' => by
        rcases q' with q' | ⟨rfl, rfl⟩
        · exact hw _ _ q' c'
        · exact Nat.le_refl _⟩
    rcases h with ⟨h1, h2⟩ | ⟨h1, a0, b0, q, c, t0', t1', t2', t3', hm⟩
    · rw [if_pos h1, put, bd2_s, nm_s, nI_1]
      exact ⟨1, _, rfl, hput _ _ _ _ _ hT2, fin True (fun a' b' q' c' => absurd c' (h2 _ _ q'))⟩
    · rw [if_neg (show ¬ z3 = 0 by rw [h1]; decide)]
      have q9 := hQ _ _ q
      rw [s_isBetter (l := nd a0 b0) (a := a0) (b := b0) (b' := b) L (by omega) q9.1 q9.2 (by omega) ha9 hb9 (by rw [t2]; exact t0') (by rw [t2]; exact t1') (by rw [t2]; exact t2'), bd1_s, if_b]
      by_cases c2 : Wt (nd a b) a b < Wt (nd a0 b0) a0 b0
      · rw [if_pos c2, put, bd2_s, nm_s, nI_1]
        exact ⟨1, _, rfl, hput _ _ _ _ _ hT2, fin True (fun a' b' q' c' => by have := hm _ _ q' c'; omega)⟩
      · rw [if_neg c2, bd2_s, nm_s, nI_1]
        refine ⟨z3, _, rfl, hT2, Or.inr ⟨h1, a0, b0, Or.inl q, c, by rw [t2]; exact t0', by rw [t2]; exact t1', by rw [t2]; exact t2', by rw [t2]; exact t3', fun a' b' q' c' => ?_⟩⟩
        rcases q' with q' | ⟨rfl, rfl⟩
        · exact hm _ _ q' c'
        · omega
theorem s_findTraining {I T : MI} {k N hu co ln : Nat} (L : ML) (hT : FS I T) (hk : k < 6) (hs : okR (I (3 + 2 + k))) (h10 : I (3 + 2 + k) 10 = -4) (hN : N ≤ 40) (e1 : I (3 + 2 + k) 1 = nI ln) (l1 : ln ≤ 99) (e2 : I (3 + 2 + k) 2 = nI hu) (h2 : hu ≤ 9) (e3 : I (3 + 2 + k) 3 = nI co) (h3 : co ≤ 9) : ∃ z T', f_X1_findTraining (3 + 2 + k) (nI N) T L = some (z, T') ∧ FS I T' ∧ CB (needN (I (3 + 2 + k)) (I 3 6) (I 3 2) (I 3 4) N) (min 20 (99 - ln)) (fun a b => a ≤ hu ∧ b ≤ co) z T' := by
  unfold f_X1_findTraining
  have tk : T (3 + 2 + k) = I (3 + 2 + k) := hT.1 _ (by omega)
  have ec : mmin (20 : Int32) ((99 : Int32) - T (3 + 2 + k) 1) = nI (min 20 (99 - ln)) := by
    rw [tk, e1, show (99 : Int32) = nI 99 from rfl, pk_sub l1, show (20 : Int32) = nI 20 from rfl, fa_eq, mmin_i, nI_bd (by omega), nI_bd (by omega), nI_bd (by omega)]
    omega
  have i2 : (I (3 + 2 + k) 2).toInt = hu := by rw [e2, nI_bd (by omega)]
  have i3 : (I (3 + 2 + k) 3).toInt = co := by rw [e3, nI_bd (by omega)]
  rw [nm_s, ec]
  obtain ⟨x, hx, z, T', rfl, w1, w2⟩ := lp_inv (f := fun s => b_X1_findTraining_19 (3 + 2 + k) (nI N) (nI (min 20 (99 - ln))) L s.1 s.2.1 s.2.2)
    (fun a s => ∃ z K, s = (z, nI a, K) ∧ FS I K ∧ CB (needN (I (3 + 2 + k)) (I 3 6) (I 3 2) (I 3 4) N) (min 20 (99 - ln)) (fun a' b' => a' < a ∧ b' ≤ co) z K)
    (fun x => ∃ z K, x = (z, K) ∧ FS I K ∧ CB (needN (I (3 + 2 + k)) (I 3 6) (I 3 2) (I 3 4) N) (min 20 (99 - ln)) (fun a' b' => a' ≤ hu ∧ b' ≤ co) z K) (hu + 1)
    (fun a s ha hP => by
      obtain ⟨z, K, rfl, hK, hC⟩ := hP
      simp only [b_X1_findTraining_19]
      have kk : K (3 + 2 + k) = I (3 + 2 + k) := hK.1 _ (by omega)
      rw [kk, e2, if_neg (nI_nlt (by omega) (by omega))]
      obtain ⟨x, hx, z', K', rfl, v1, v2⟩ := lp_inv (f := fun s => b_X1_findTraining_31 (3 + 2 + k) (nI N) (nI (min 20 (99 - ln))) (nI a) L s.1 s.2.1 s.2.2)
        (fun b s => ∃ z K, s = (z, nI b, K) ∧ FS I K ∧ CB (needN (I (3 + 2 + k)) (I 3 6) (I 3 2) (I 3 4) N) (min 20 (99 - ln)) (fun a' b' => (a' < a ∧ b' ≤ co) ∨ (a' = a ∧ b' < b)) z K)
        (fun x => ∃ z K, x = (z, K) ∧ FS I K ∧ CB (needN (I (3 + 2 + k)) (I 3 6) (I 3 2) (I 3 4) N) (min 20 (99 - ln)) (fun a' b' => a' < a + 1 ∧ b' ≤ co) z K) (co + 1)
        (fun b s hb hP => by
          obtain ⟨z, K, rfl, hK, hC⟩ := hP
          obtain ⟨z', T', p1, p2, p3⟩ := s_tcell (a := a) (b := b) L hK hk hs h10 hN (by omega) (by rw [i2]; omega) (by rw [i3]; omega) (fun a b q => by omega) hC
          exact ⟨_, p1, z', T', rfl, p2, p3.cg rfl (fun a' b' => by omega)⟩)
        (fun s hP => by
          obtain ⟨z, K, rfl, hK, hC⟩ := hP
          simp only [b_X1_findTraining_31]
          have kk : K (3 + 2 + k) = I (3 + 2 + k) := hK.1 _ (by omega)
          rw [kk, e3, if_pos (nI_lt (by omega) (by omega))]
          exact ⟨_, rfl, z, K, rfl, hK, hC.cg rfl (fun a' b' => by omega)⟩)
        FU (show co + 1 < 2000 by omega) (z, (0 : Int32), K) ⟨z, K, rfl, hK, hC.cg rfl (fun a' b' => by omega)⟩
      rw [hx, bd2_s, nm_s, nI_1]
      exact ⟨_, rfl, z', K', rfl, v1, v2⟩)
    (fun s hP => by
      obtain ⟨z, K, rfl, hK, hC⟩ := hP
      simp only [b_X1_findTraining_19]
      have kk : K (3 + 2 + k) = I (3 + 2 + k) := hK.1 _ (by omega)
      rw [kk, e2, if_pos (nI_lt (by omega) (by omega))]
      exact ⟨_, rfl, z, K, rfl, hK, hC.cg rfl (fun a' b' => by omega)⟩)
    FU (show hu + 1 < 2000 by omega) ((0 : Int32), (0 : Int32), T) ⟨0, T, rfl, hT, Or.inl ⟨rfl, fun a b q => absurd q.1 (by omega)⟩⟩
  have hz : z = 0 ∨ z = 1 := by
    rcases w2 with q | q
    · exact Or.inl q.1
    · exact Or.inr q.1
  rw [hx, bd2_s, gd_t hz]
  exact ⟨z, T', rfl, w1, w2⟩
