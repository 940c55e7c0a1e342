/-! ===== an hour passes ===== -/
def drw (x : Int32) : Int32 := ((16807 : Int64) * x.toInt64 - (16807 : Int64) * x.toInt64 / (2147483647 : Int64) * (2147483647 : Int64)).toInt32
def rm3 (x : Int32) : Int32 := x - x / (3 : Int32) * (3 : Int32)
def ngt (dusk hr : Int32) : Int32 := b01 (dusk ≤ hr - hr / 24 * 24)
def passR (s : Nat → Int32) (sky night hour : Int32) : Nat → Int32 := fun f => if s 10 = -4 then (if f = 5 then mmin 999 (s 5 + growR s sky night) else if f = 10 then (if mmin 999 (s 5 + growR s sky night) < s 1 then -4 else hour) else s f) else s f
theorem s_draw (x : Int32) : f_X10_drawAfter x = some (drw x) := rfl
theorem drw_n {m : Nat} (h : m < 2 ^ 31) : drw (nI m) = nI (16807 * m % 2147483647) := by
  unfold drw
  rw [nI_l h, show (16807 : Int64) = lN 16807 from rfl, lN_mul, show (2147483647 : Int64) = lN 2147483647 from rfl, pk_lRem (by omega) (by omega) (by omega), lN_i]
theorem rg_drw {x : Int32} (h : rg x 1 2147483646) : rg (drw x) 1 2147483646 := by
  obtain ⟨m, h1, h2, rfl⟩ := rg_n (a := 1) (b := 2147483646) h (by omega)
  rw [drw_n (by omega)]
  have hlt : 16807 * m % 2147483647 < 2147483647 := Nat.mod_lt _ (by omega)
  have hne : 16807 * m % 2147483647 ≠ 0 := by
    intro q
    have d : 2147483647 ∣ 16807 * m := Nat.dvd_of_mod_eq_zero q
    have c : Nat.Coprime 2147483647 16807 := by decide
    have d2 : 2147483647 ∣ m := c.dvd_of_dvd_mul_left d
    have := Nat.le_of_dvd (by omega) d2
    omega
  unfold rg
  rw [nI_bd (by omega)]
  omega
theorem rg_rm3 {x : Int32} (h : rg x 1 2147483646) : rg (rm3 x) 0 2 := by
  obtain ⟨m, h1, h2, rfl⟩ := rg_n (a := 1) (b := 2147483646) h (by omega)
  unfold rm3 rg
  rw [show (3 : Int32) = nI 3 from rfl, pk_rem (by omega) (by omega) (by omega), nI_bd (by omega)]
  omega
theorem mmin_eq (a b : Int32) : mmin a b = if b ≤ a then b else a := by
  unfold mmin
  by_cases c : b < a
  · rw [if_pos c, if_pos (by rw [fa_lt] at c; rw [fa_le]; omega)]
  · rw [if_neg c]
    by_cases d : b ≤ a
    · rw [if_pos d, fa_eq]
      rw [fa_lt] at c
      rw [fa_le] at d
      omega
    · rw [if_neg d]
theorem okR.pass {s : Nat → Int32} (h : okR s) (sky night : Int32) {hr : Int32} (hh : rg hr 0 20000) : okR (passR s sky night hr) := by
  have hg := h.grow sky night
  obtain ⟨o0, o1, o2, o3, o4, o5, o6, o7, o8, o9, o10⟩ := h
  unfold passR
  by_cases c : s 10 = -4
  · simp only [if_pos c]
    refine ⟨o0, o1, o2, o3, o4, ?_, o6, o7, o8, o9, ?_⟩
    · show rg (mmin 999 (s 5 + growR s sky night)) 0 999
      rw [mmin_eq]
      have r := rg_add o5 hg (by omega) (by omega)
      have z : (999 : Int32).toInt = 999 := rfl
      by_cases d : s 5 + growR s sky night ≤ 999
      · rw [if_pos d]
        rw [fa_le, z] at d
        exact ⟨by have := r.1; omega, d⟩
      · rw [if_neg d]
        exact ⟨by decide, by decide⟩
    · show (if mmin 999 (s 5 + growR s sky night) < s 1 then (-4 : Int32) else hr) = -4 ∨ rg (if mmin 999 (s 5 + growR s sky night) < s 1 then (-4 : Int32) else hr) 0 20000
      by_cases d : mmin 999 (s 5 + growR s sky night) < s 1
      · rw [if_pos d]; exact Or.inl rfl
      · rw [if_neg d]; exact Or.inr hh
  · simp only [if_neg c]
    exact ⟨o0, o1, o2, o3, o4, o5, o6, o7, o8, o9, o10⟩
theorem s_pass {I : MI} (a : Nat) (sky night hr : Int32) (L : ML) : f_X6_passHour a sky night hr I L = some (va_up I a (passR (I a) sky night hr)) := by
  unfold f_X6_passHour
  rw [s_sits, bd1_s, if_b, s_grows, bd1_s, nm_s, up2_s, up2_n (show (1 : Nat) ≠ 5 by decide), nm_s, some_if, bd1_s]
  by_cases c : I a 10 = -4
  · rw [if_pos c]
    refine congrArg some (funext fun i => funext fun j => ?_)
    by_cases e : i = a
    · subst e
      rw [vu_at]
      unfold passR
      rw [if_pos c]
      by_cases d : mmin 999 (I i 5 + growR (I i) sky night) < I i 1
      · rw [if_pos d, if_pos d, up2_at]
        by_cases j5 : j = 5
        · rw [if_pos ⟨rfl, j5⟩, if_pos j5]
        · rw [if_neg (fun q => j5 q.2), if_neg j5]
          by_cases j10 : j = 10
          · rw [if_pos j10, j10, c]
          · rw [if_neg j10]
      · rw [if_neg d, if_neg d, up2_at]
        by_cases j10 : j = 10
        · rw [if_pos ⟨rfl, j10⟩, if_neg (by omega), if_pos j10]
        · rw [if_neg (fun q => j10 q.2), up2_at, if_neg j10]
          by_cases j5 : j = 5
          · rw [if_pos ⟨rfl, j5⟩, if_pos j5]
          · rw [if_neg (fun q => j5 q.2), if_neg j5]
    · rw [vu_ne e]
      by_cases d : mmin 999 (I a 5 + growR (I a) sky night) < I a 1
      · rw [if_pos d, up2_ne e]
      · rw [if_neg d, up2_ne e, up2_ne e]
  · rw [if_neg c]
    refine congrArg some (funext fun i => funext fun j => ?_)
    by_cases e : i = a
    · subst e
      rw [vu_at]
      unfold passR
      rw [if_neg c]
    · rw [vu_ne e]
def wpN (I : MI) (w n : Nat) : MI := fun i j => if w + 2 ≤ i ∧ i < w + 2 + n then passR (I i) (rm3 (drw (I w 6))) (ngt (I w 2) (I w 4)) (I w 4) j else if i = w ∧ j = 4 then I w 4 + 1 else if i = w ∧ j = 5 then rm3 (drw (I w 6)) else if i = w ∧ j = 6 then drw (I w 6) else I i j
def ppN (K : MI) (w : Nat) (sky night hr : Int32) (k : Nat) : MI := fun i j => if w + 2 ≤ i ∧ i < w + 2 + k then passR (K i) sky night hr j else K i j
theorem pp_o {K : MI} {w k i : Nat} {sky night hr : Int32} (h : ¬ (w + 2 ≤ i ∧ i < w + 2 + k)) : ppN K w sky night hr k i = K i := by
  refine funext fun j => ?_
  unfold ppN
  rw [if_neg h]
theorem s_ploop {K : MI} {w n : Nat} (ng : Int32) (L : ML) (hn : n ≤ 6) (h : K w 1 = nI n) : lp (fun s => b_X9_passHour_28 w ng L s.1 s.2) FU ((0 : Int32), K) = some (ppN K w (K w 5) ng (K w 4) n) := by
  refine lp_forF (fun k => (nI k, ppN K w (K w 5) ng (K w 4) k)) n ?_ (fun k hk => ?_) ?_ (by omega)
  · refine Prod.ext rfl (funext fun i => ?_)
    exact (pp_o (by omega)).symm
  · simp only [b_X9_passHour_28]
    rw [pp_o (show ¬ (w + 2 ≤ w ∧ w < w + 2 + k) by omega), h, if_neg (nI_ge hk (by omega)), gi_n (by omega) (by omega), cl_n (by omega), s_pass, bd1_s, nm_s, nI_1, pp_o (show ¬ (w + 2 ≤ w + 2 + k ∧ w + 2 + k < w + 2 + k) by omega)]
    refine congrArg (fun z => some (Sum.inl (nI (k + 1), z))) (funext fun i => ?_)
    by_cases e : i = w + 2 + k
    · rw [e, vu_at]
      refine funext fun j => ?_
      unfold ppN
      rw [if_pos (by omega)]
    · rw [vu_ne e]
      refine funext fun j => ?_
      unfold ppN
      by_cases c : w + 2 ≤ i ∧ i < w + 2 + k
      · rw [if_pos c, if_pos (by omega)]
      · rw [if_neg c, if_neg (by omega)]
  · simp only [b_X9_passHour_28]
    rw [pp_o (show ¬ (w + 2 ≤ w ∧ w < w + 2 + n) by omega), h, if_pos (nI_le (Nat.le_refl n) (by omega))]
theorem s9_pass {I : MI} {w n : Nat} (L : ML) (hn : n ≤ 6) (h : I w 1 = nI n) : f_X9_passHour w I L = some (wpN I w n) := by
  unfold f_X9_passHour
  rw [s_draw, bd1_s, nm_s, nm_s, nm_s, up2_s, s_isNight, bd1_s]
  have base : ∀ i j, up2 (up2 I w 6 (drw (I w 6))) w 5 (drw (I w 6) - drw (I w 6) / 3 * 3) i j = if i = w ∧ j = 5 then rm3 (drw (I w 6)) else if i = w ∧ j = 6 then drw (I w 6) else I i j := fun i j => by
    rw [up2_at, up2_at]
    rfl
  generalize up2 (up2 I w 6 (drw (I w 6))) w 5 (drw (I w 6) - drw (I w 6) / 3 * 3) = K at base
  have k1 : K w 1 = nI n := by rw [base, if_neg (by omega), if_neg (by omega)]; exact h
  have k2 : K w 2 = I w 2 := by rw [base, if_neg (by omega), if_neg (by omega)]
  have k4 : K w 4 = I w 4 := by rw [base, if_neg (by omega), if_neg (by omega)]
  have k5 : K w 5 = rm3 (drw (I w 6)) := by rw [base, if_pos ⟨rfl, rfl⟩]
  rw [s_ploop _ L hn k1, bd1_s, nm_s, k2, k4, k5]
  refine congrArg some (funext fun i => funext fun j => ?_)
  rw [up2_at, pp_o (show ¬ (w + 2 ≤ w ∧ w < w + 2 + n) by omega), k4]
  unfold wpN
  by_cases c : w + 2 ≤ i ∧ i < w + 2 + n
  · have ek : K i = I i := funext fun z => by rw [base, if_neg (by omega), if_neg (by omega)]
    rw [if_neg (by omega), if_pos c]
    unfold ppN
    rw [if_pos c, ek]
    rfl
  · rw [if_neg c]
    by_cases c4 : i = w ∧ j = 4
    · rw [if_pos c4, if_pos c4]
    · rw [if_neg c4, if_neg c4, pp_o c, base]
