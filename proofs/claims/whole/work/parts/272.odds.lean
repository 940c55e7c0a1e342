/-! the reference's side -/
theorem m_hasB' : ∀ z, z < 1024 → ∀ t, t < 10 → f_X11_has (nI z) (nI t) = some (nI (z / 2 ^ t % 2)) := by decide +kernel
theorem shl_10 : ∀ N, N ≤ 10 → (1 : Int32) <<< (nI N &&& (31 : Int32)) = nI (2 ^ N) := by decide +kernel
theorem two_le10 {N : Nat} (h : N ≤ 10) : 1 ≤ 2 ^ N ∧ 2 ^ N ≤ 1024 := ⟨Nat.one_le_two_pow, Nat.pow_le_pow_right (n := 2) (by omega) h⟩
theorem grow_c2 {s t : Nat → Int32} (h : ∀ f, f ≤ 9 → f ≠ 5 → s f = t f) (sky night : Int32) : growR s sky night = growR t sky night := by
  unfold growR
  rw [h 0 (by omega) (by omega), h 2 (by omega) (by omega), h 3 (by omega) (by omega), h 4 (by omega) (by omega), h 7 (by omega) (by omega), h 8 (by omega) (by omega), h 9 (by omega) (by omega)]
theorem m_downIn {J : MI} {k : Nat} {hr : Int32} (L : ML) (hk : k < 6) (h4 : J 245 4 = hr) (hh : rg hr 0 9999) : (mrec (J 245) 219 k 10 = -4 → f_X11_downIn (nI k) J L = some 1000000) ∧ ∀ u, u < 100 → mrec (J 245) 219 k 10 = hr + nI u → f_X11_downIn (nI k) J L = some (nI (u + 1)) := by
  have ei : (286 : Int32) + nI k = nI (286 + k) := nI_add 286 k
  have g4 : J 245 (4 : Int32).toNatClampNeg = hr := h4
  unfold f_X11_downIn
  rw [show (219 : Int32) = nI 219 from rfl, m_isDown L (by omega), bd1_s, if_b, ei, gi_n (by omega) (by omega), gi_t (show vp_in (4 : Int32) 1752 from vp_in_nI (n := 4) (by omega) (by omega)), cl_n (by omega), g4]
  refine ⟨fun p => ?_, fun u hu p => ?_⟩
  · rw [if_neg (mrec10.mp p), bd1_s]
  · have np : ¬ mrec (J 245) 219 k 10 = -4 := by rw [p]; exact nneg4 (offh hh u hu)
    have c : 0 ≤ J 245 (219 + 67 + k) := Decidable.not_not.mp (fun w => np (mrec10.mpr w))
    have ev : J 245 (286 + k) = hr + nI u := by
      have := p
      unfold mrec at this
      rw [if_pos rfl, if_neg (by rw [i32_nlt]; exact c), show 219 + 67 + k = 286 + k by omega] at this
      exact this
    rw [if_pos c, bd1_s, ev]
    refine congrArg some ?_
    have h1 := hh.1; have h2 := hh.2
    have o1 : (1 : Int32).toInt = 1 := rfl
    have b1 : (nI u).toInt = (u : Int) := nI_bd (by omega)
    have s1 : (hr + nI u).toInt = hr.toInt + u := by rw [fb_addI (by omega) (by omega), b1]
    have s2 : (hr + nI u - hr).toInt = u := by rw [fb_subI (by omega) (by omega), s1]; omega
    rw [fa_eq, fb_addI (by omega) (by omega), s2, o1, nI_bd (by omega)]
    omega
/-- one record through one hour -/
theorem pass_one {s : Nat → Int32} {sky night hr : Int32} {x g l : Nat} (h10 : s 10 = -4) (h5 : s 5 = nI x) (h1 : s 1 = nI l) (hg : growR s sky night = nI g) (hx : x ≤ 2000) (hg2 : g ≤ 46) (hl : l ≤ 99) : (x + g < l → passR s sky night hr 10 = -4 ∧ passR s sky night hr 5 = nI (x + g)) ∧ (¬ x + g < l → passR s sky night hr 10 = hr) := by
  have em : mmin (999 : Int32) (s 5 + growR s sky night) = nI (min 999 (x + g)) := by
    rw [h5, hg, nI_add, mmin_eq]
    by_cases c : x + g ≤ 999
    · rw [if_pos (show nI (x + g) ≤ (999 : Int32) from nI_le (b := 999) c (by omega)), show min 999 (x + g) = x + g by omega]
    · rw [if_neg (show ¬ nI (x + g) ≤ (999 : Int32) from nI_ge (a := 999) (by omega) (by omega)), show min 999 (x + g) = 999 by omega]
      rfl
  refine ⟨fun q => ⟨?_, ?_⟩, fun q => ?_⟩
  · unfold passR
    rw [if_pos h10, if_neg (by decide), if_pos rfl, em, h1, if_pos (nI_lt (by omega) (by omega))]
  · unfold passR
    rw [if_pos h10, if_pos rfl, em, show min 999 (x + g) = x + g by omega]
  · unfold passR
    rw [if_pos h10, if_neg (by decide), if_pos rfl, em, h1, if_neg (fun z => by have := (nI_ltI (by omega) (by omega)).mp z; omega)]
/-- what is known of the two after t hours -/
def TwoAt (I : MI) (k q N z t : Nat) (S : Nat → Nat → Int32) : Prop :=
  (∀ f, f ≤ 9 → f ≠ 5 → S k f = I (3 + 2 + k) f ∧ S q f = I (3 + 2 + q) f) ∧
  ((∃ xa xb : Nat, S k 10 = -4 ∧ S q 10 = -4 ∧ S k 5 = nI xa ∧ S q 5 = nI xb ∧ xa ≤ 2000 ∧ xb ≤ 2000 ∧ indN (gaN I k) (gaN I q) (lnN I k) (lnN I q) N 0 (stN I k) (stN I q) z = indN (gaN I k) (gaN I q) (lnN I k) (lnN I q) (N - t) t xa xb (z / 2 ^ t)) ∨
   (indN (gaN I k) (gaN I q) (lnN I k) (lnN I q) N 0 (stN I k) (stN I q) z = 0 ∧ ∃ u, u < t ∧ S k 10 = I 3 4 + nI u ∧ (S q 10 = -4 ∨ ∃ v, u ≤ v ∧ v < t ∧ S q 10 = I 3 4 + nI v)) ∨
   (indN (gaN I k) (gaN I q) (lnN I k) (lnN I q) N 0 (stN I k) (stN I q) z = 1 ∧ ∃ u, u < t ∧ S q 10 = I 3 4 + nI u ∧ (S k 10 = -4 ∨ ∃ v, u < v ∧ v < t ∧ S k 10 = I 3 4 + nI v)))
theorem pass_10 (s : Nat → Int32) (sky night hr : Int32) (h : s 10 = -4) : passR s sky night hr 10 = -4 ∨ passR s sky night hr 10 = hr := by
  unfold passR
  rw [if_pos h, if_neg (by decide), if_pos rfl]
  by_cases c : mmin 999 (s 5 + growR s sky night) < s 1
  · rw [if_pos c]; exact Or.inl rfl
  · rw [if_neg c]; exact Or.inr rfl
theorem two_step {I : MI} {n k q N z t : Nat} {S : Nat → Nat → Int32} (hW : okW I 3 n) (hk : k < n) (hq : q < n) (ht : t < N) (hN : N ≤ 10) (h : TwoAt I k q N z t S) : TwoAt I k q N z (t + 1) (fun i => passR (S i) (nI (z / 2 ^ t % 2)) (ngN (I 3 2) (I 3 4) t) (I 3 4 + nI t)) := by
  have hh : rg (I 3 4) 0 9999 := hW.2.2.2.2.1
  have ok1 := hW.2.2.2.2.2.2.2.2 k hk
  have ok2 := hW.2.2.2.2.2.2.2.2 q hq
  obtain ⟨a, b⟩ := h
  refine ⟨fun f hf h5 => ?_, ?_⟩
  · dsimp only
    rw [pass_9 _ _ _ _ h5 (by omega), pass_9 _ _ _ _ h5 (by omega)]
    exact a f hf h5
  dsimp only
  have gk : growR (S k) (nI (z / 2 ^ t % 2)) (ngN (I 3 2) (I 3 4) t) = nI (gaN I k (z / 2 ^ t % 2) t) := by
    rw [grow_c2 (fun f hf h5 => (a f hf h5).1)]; exact (ga_e ok1 _ _).1
  have gq : growR (S q) (nI (z / 2 ^ t % 2)) (ngN (I 3 2) (I 3 4) t) = nI (gaN I q (z / 2 ^ t % 2) t) := by
    rw [grow_c2 (fun f hf h5 => (a f hf h5).2)]; exact (ga_e ok2 _ _).1
  have lk : S k 1 = nI (lnN I k) := by rw [(a 1 (by omega) (by omega)).1]; exact (ln_e ok1).1
  have lq : S q 1 = nI (lnN I q) := by rw [(a 1 (by omega) (by omega)).2]; exact (ln_e ok2).1
  have hdown : ∀ u : Nat, u < t → ¬ (I 3 4 + nI u) = -4 := fun u hu => nneg4 (offh hh u (by omega))
  rcases b with ⟨xa, xb, s1, s2, s3, s4, s5, s6, s7⟩ | ⟨d, u, u1, u2, u3⟩ | ⟨d, u, u1, u2, u3⟩
  · have e : N - t = (N - (t + 1)) + 1 := by omega
    rw [e] at s7
    have s7' : _ = (if xa + gaN I k (z / 2 ^ t % 2) t < lnN I k then (if xb + gaN I q (z / 2 ^ t % 2) t < lnN I q then indN (gaN I k) (gaN I q) (lnN I k) (lnN I q) (N - (t + 1)) (t + 1) (xa + gaN I k (z / 2 ^ t % 2) t) (xb + gaN I q (z / 2 ^ t % 2) t) (z / 2 ^ t / 2) else 1) else 0) := s7
    have pk := pass_one (hr := I 3 4 + nI t) s1 s3 lk gk s5 (ga_e ok1 _ _).2 (ln_e ok1).2
    have pq := pass_one (hr := I 3 4 + nI t) s2 s4 lq gq s6 (ga_e ok2 _ _).2 (ln_e ok2).2
    have hl1 := (ln_e ok1).2
    have hl2 := (ln_e ok2).2
    by_cases c1 : xa + gaN I k (z / 2 ^ t % 2) t < lnN I k
    · rw [if_pos c1] at s7'
      by_cases c2 : xb + gaN I q (z / 2 ^ t % 2) t < lnN I q
      · rw [if_pos c2] at s7'
        refine Or.inl ⟨_, _, (pk.1 c1).1, (pq.1 c2).1, (pk.1 c1).2, (pq.1 c2).2, by omega, by omega, ?_⟩
        rw [s7', Nat.pow_succ, ← Nat.div_div_eq_div_mul]
      · rw [if_neg c2] at s7'
        exact Or.inr (Or.inr ⟨s7', t, by omega, pq.2 c2, Or.inl (pk.1 c1).1⟩)
    · rw [if_neg c1] at s7'
      refine Or.inr (Or.inl ⟨s7', t, by omega, pk.2 c1, ?_⟩)
      rcases pass_10 (S q) (nI (z / 2 ^ t % 2)) (ngN (I 3 2) (I 3 4) t) (I 3 4 + nI t) s2 with w | w
      · exact Or.inl w
      · exact Or.inr ⟨t, Nat.le_refl t, by omega, w⟩
  · have nk : ¬ S k 10 = -4 := by rw [u2]; exact hdown u u1
    refine Or.inr (Or.inl ⟨d, u, by omega, by rw [pass_down nk]; exact u2, ?_⟩)
    rcases u3 with w | ⟨v, v1, v2, v3⟩
    · rcases pass_10 (S q) (nI (z / 2 ^ t % 2)) (ngN (I 3 2) (I 3 4) t) (I 3 4 + nI t) w with w | w
      · exact Or.inl w
      · exact Or.inr ⟨t, by omega, by omega, w⟩
    · have nq : ¬ S q 10 = -4 := by rw [v3]; exact hdown v v2
      exact Or.inr ⟨v, v1, by omega, by rw [pass_down nq]; exact v3⟩
  · have nq : ¬ S q 10 = -4 := by rw [u2]; exact hdown u u1
    refine Or.inr (Or.inr ⟨d, u, by omega, by rw [pass_down nq]; exact u2, ?_⟩)
    rcases u3 with w | ⟨v, v1, v2, v3⟩
    · rcases pass_10 (S k) (nI (z / 2 ^ t % 2)) (ngN (I 3 2) (I 3 4) t) (I 3 4 + nI t) w with w | w
      · exact Or.inl w
      · exact Or.inr ⟨t, by omega, by omega, w⟩
    · have nk : ¬ S k 10 = -4 := by rw [v3]; exact hdown v v2
      exact Or.inr ⟨v, v1, by omega, by rw [pass_down nk]; exact v3⟩
theorem m_mask {I : MI} {n k q N p z : Nat} (a1 a2 : Int32) (L : ML) (hW : okW I 3 n) (hk : k < n) (hq : q < n) (hN : N ≤ 10) (hp : p ≤ 10) (hz : z < 2 ^ N) (s1 : I (3 + 2 + k) 10 = -4) (s2 : I (3 + 2 + q) 10 = -4) {J0 : MI} (hM : MRow J0 219 n (I 3 2) (I 3 4) (I 3 6) (fun i => I (3 + 2 + i))) : ∃ J S, lp (fun s => b_X11_findOdds_62 a1 a2 (nI N) (nI p) (nI z) L s.1 s.2.1 s.2.2) FU ((1 : Int64), (0 : Int32), J0) = some (lN (WN p N z), J) ∧ TF J0 J ∧ MRow J 219 n (I 3 2) (I 3 4 + nI N) (I 3 6) S ∧ TwoAt I k q N z N S := by
  have hn := hW.1
  have hh : rg (I 3 4) 0 9999 := hW.2.2.2.2.1
  have ok1 := hW.2.2.2.2.2.2.2.2 k hk
  have ok2 := hW.2.2.2.2.2.2.2.2 q hq
  obtain ⟨p1, p2⟩ := two_le10 hN
  obtain ⟨y, hy, J, A, S, rfl, h1, h2, h3, h4⟩ := lp_inv (f := fun s => b_X11_findOdds_62 a1 a2 (nI N) (nI p) (nI z) L s.1 s.2.1 s.2.2) (fun t s => ∃ J A S, s = (lN A, nI t, J) ∧ A * WN p (N - t) (z / 2 ^ t) = WN p N z ∧ TF J0 J ∧ MRow J 219 n (I 3 2) (I 3 4 + nI t) (I 3 6) S ∧ TwoAt I k q N z t S) (fun x => ∃ J A S, x = (lN A, J) ∧ A = WN p N z ∧ TF J0 J ∧ MRow J 219 n (I 3 2) (I 3 4 + nI N) (I 3 6) S ∧ TwoAt I k q N z N S) N
    (fun t s ht hP => by
      obtain ⟨K, A, S, rfl, w1, w2, w3, w4⟩ := hP
      simp only [b_X11_findOdds_62]
      have hb : z / 2 ^ t % 2 < 2 := Nat.mod_lt _ (by omega)
      obtain ⟨J, j1, j2, j3, j4, j5⟩ := m_passesBy (o := 219) (nI (z / 2 ^ t % 2)) L (by omega) hn w3 (rg_hrt hh (by omega))
      have j1' : f_X11_passesBy (219 : Int32) (nI (z / 2 ^ t % 2)) K L = some J := j1
      have ey : (if nI (z / 2 ^ t % 2) = 0 then some (((10 : Int32) - nI p).toInt64) else some (nI p).toInt64) = some (lN (wgt p (z / 2 ^ t % 2))) := by
        unfold wgt
        rcases (show z / 2 ^ t % 2 = 0 ∨ z / 2 ^ t % 2 = 1 by omega) with e | e
        · rw [e, if_pos (show nI 0 = 0 from rfl), if_neg (by decide), show (10 : Int32) = nI 10 from rfl, pk_sub hp, nI_l (by omega)]
        · rw [e, if_neg (by decide), if_pos rfl, nI_l (by omega)]
      have ez : (if nI (z / 2 ^ t % 2) = 0 then some (0 : Int32) else some 1) = some (nI (z / 2 ^ t % 2)) := by
        rcases (show z / 2 ^ t % 2 = 0 ∨ z / 2 ^ t % 2 = 1 by omega) with e | e <;> rw [e] <;> rfl
      rw [if_neg (nI_ge ht (by omega)), m_hasB' z (by omega) t (by omega), bd1_s, ey, bd1_s, nm_s, bd1_s, ez, bd1_s, j1', bd1_s, nm_s, nI_1, lN_mul]
      rw [Int32.add_assoc, nI_1] at j5
      refine ⟨_, rfl, J, _, _, rfl, ?_, w2.tr ⟨j2, fun j hj => j3 j (by omega)⟩, j5, two_step hW hk hq ht hN w4⟩
      rw [← w1, show N - t = (N - (t + 1)) + 1 by omega, Nat.mul_assoc]
      refine congrArg (fun c => A * c) ?_
      show wgt p (z / 2 ^ t % 2) * WN p (N - (t + 1)) (z / 2 ^ (t + 1)) = wgt p (z / 2 ^ t % 2) * WN p (N - (t + 1)) (z / 2 ^ t / 2)
      rw [Nat.pow_succ, ← Nat.div_div_eq_div_mul])
    (fun s hP => by
      obtain ⟨K, A, S, rfl, w1, w2, w3, w4⟩ := hP
      simp only [b_X11_findOdds_62]
      rw [if_pos (nI_le (Nat.le_refl _) (by omega))]
      refine ⟨_, rfl, K, A, S, rfl, ?_, w2, w3, w4⟩
      rw [← w1, Nat.sub_self]
      exact (Nat.mul_one A).symm)
    FU (show N < 2000 by omega) ((1 : Int64), (0 : Int32), J0) ⟨J0, 1, (fun i => I (3 + 2 + i)), rfl, by rw [Nat.pow_zero, Nat.div_one, Nat.sub_zero, Nat.one_mul], TF.rf J0, by
      show MRow J0 219 n (I 3 2) (I 3 4 + 0) (I 3 6) _
      rw [Int32.add_zero]
      exact hM, fun f hf h5 => ⟨rfl, rfl⟩, Or.inl ⟨stN I k, stN I q, s1, s2, (st_e ok1).1, (st_e ok2).1, by have := (st_e ok1).2; omega, by have := (st_e ok2).2; omega, by rw [Nat.pow_zero, Nat.div_one, Nat.sub_zero]⟩⟩
  rw [h1] at hy
  exact ⟨J, S, hy, h2, h3, h4⟩
