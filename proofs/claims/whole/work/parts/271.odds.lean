def gaN (I : MI) (k y t : Nat) : Nat := (growR (I (3 + 2 + k)) (nI y) (ngN (I 3 2) (I 3 4) t)).toNatClampNeg
def lnN (I : MI) (k : Nat) : Nat := (I (3 + 2 + k) 1).toNatClampNeg
def stN (I : MI) (k : Nat) : Nat := (I (3 + 2 + k) 5).toNatClampNeg
def waysN (I : MI) (k q N p : Nat) : Nat := VN (gaN I k) (gaN I q) (lnN I k) (lnN I q) p N 0 (stN I k) (stN I q)
theorem rg_cl {x : Int32} {b : Nat} (h : rg x 0 b) (hb : b < 2 ^ 31) : x = nI x.toNatClampNeg ∧ x.toNatClampNeg ≤ b := by
  obtain ⟨k, h1, h2, rfl⟩ := rg_n (a := 0) (b := b) h hb
  rw [cl_n (by omega)]
  exact ⟨rfl, h2⟩
theorem ga_e {I : MI} {k : Nat} (h : okR (I (3 + 2 + k))) (y t : Nat) : growR (I (3 + 2 + k)) (nI y) (ngN (I 3 2) (I 3 4) t) = nI (gaN I k y t) ∧ gaN I k y t ≤ 46 := rg_cl (b := 46) (h.grow _ _) (by omega)
theorem ln_e {I : MI} {k : Nat} (h : okR (I (3 + 2 + k))) : I (3 + 2 + k) 1 = nI (lnN I k) ∧ lnN I k ≤ 99 := rg_cl (b := 99) (rg_mono h.2.1 (by omega) (by omega)) (by omega)
theorem st_e {I : MI} {k : Nat} (h : okR (I (3 + 2 + k))) : I (3 + 2 + k) 5 = nI (stN I k) ∧ stN I k ≤ 999 := rg_cl (b := 999) h.2.2.2.2.2.1 (by omega)
def WS (I T : MI) (N p : Nat) : Prop := (∀ i, i < 212 ∨ 223 ≤ i → T i = I i) ∧ InvB T ∧ T 212 3 = nI N ∧ T 212 4 = nI p ∧ ∀ t, t < N → T 213 t = ngN (I 3 2) (I 3 4) t
theorem nkd {i j : Nat} (hi : kd i = 6) (hj : kd j ≠ 6) : i ≠ j := fun q => by rw [q] at hi; exact hj hi
theorem s_weigh {I : MI} {N p : Nat} (L : ML) (hB : InvB I) (hN : N ≤ 10) : ∃ T, f_X0_weigh 3 (nI N) (nI p) I L = some T ∧ WS I T N p := by
  unfold f_X0_weigh
  have em : mmin (nI N) (10 : Int32) = nI N := by
    rw [mmin_eq]
    by_cases c : (10 : Int32) ≤ nI N
    · rw [if_pos c]
      have z : (10 : Int32).toInt = 10 := rfl
      rw [fa_le, z, nI_bd (by omega)] at c
      rw [show N = 10 by omega]; rfl
    · rw [if_neg c]
  rw [nm_s, nm_s, em]
  obtain ⟨x, hx, hz⟩ := lp_inv (f := fun s => b_X0_weigh_18 3 L s.1 s.2) (fun k s => s.1 = nI k ∧ WS I s.2 N p ∨ (s.1 = nI k ∧ (∀ i, i < 212 ∨ 223 ≤ i → s.2 i = I i) ∧ InvB s.2 ∧ s.2 212 3 = nI N ∧ s.2 212 4 = nI p ∧ ∀ t, t < k → s.2 213 t = ngN (I 3 2) (I 3 4) t)) (fun x => WS I x N p) N
    (fun k s hk hP => by
      obtain ⟨w, K⟩ := s
      have hP' : w = nI k ∧ (∀ i, i < 212 ∨ 223 ≤ i → K i = I i) ∧ InvB K ∧ K 212 3 = nI N ∧ K 212 4 = nI p ∧ ∀ t, t < k → K 213 t = ngN (I 3 2) (I 3 4) t := by
        rcases hP with ⟨a, b, c, d, e, f⟩ | q
        · exact ⟨a, b, c, d, e, fun t ht => f t (by omega)⟩
        · exact q
      obtain ⟨rfl, q2, q3, q4, q5, q6⟩ := hP'
      simp only [b_X0_weigh_18, s_isDark, bd1_s, gd_b]
      rw [q4, if_neg (nI_ge hk (by omega)), gi_n (by omega) (by omega), cl_n (by omega), nm_s, nm_s, nI_1, q2 3 (by omega)]
      refine ⟨_, rfl, Or.inr ⟨rfl, fun i hi => by dsimp only; rw [up2_ne (by omega)]; exact q2 i hi, q3.up (Or.inr (Or.inl (by decide))), by dsimp only; rw [up2_ne (by omega)]; exact q4, by dsimp only; rw [up2_ne (by omega)]; exact q5, fun t ht => ?_⟩⟩
      dsimp only
      by_cases e : t = k
      · rw [e, up2_s]; rfl
      · rw [up2_n e]; exact q6 t (by omega))
    (fun s hP => by
      obtain ⟨w, K⟩ := s
      have hP' : w = nI N ∧ WS I K N p := by
        rcases hP with q | ⟨a, b, c, d, e, f⟩
        · exact q
        · exact ⟨a, b, c, d, e, f⟩
      obtain ⟨rfl, q⟩ := hP'
      simp only [b_X0_weigh_18]
      rw [q.2.2.1, if_pos (nI_le (Nat.le_refl _) (by omega))]
      exact ⟨_, rfl, q⟩)
    FU (show N < 2000 by omega) ((0 : Int32), up2 (up2 I 212 3 (nI N)) 212 4 (nI p)) (Or.inr ⟨rfl, fun i hi => by
      show up2 (up2 I 212 3 (nI N)) 212 4 (nI p) i = I i
      rw [up2_ne (by omega), up2_ne (by omega)], (hB.up (Or.inl (by decide))).up (Or.inl (by decide)), by
      show up2 (up2 I 212 3 (nI N)) 212 4 (nI p) 212 3 = nI N
      rw [up2_n (by decide), up2_s], by
      show up2 (up2 I 212 3 (nI N)) 212 4 (nI p) 212 4 = nI p
      rw [up2_s], fun t ht => absurd ht (by omega)⟩)
  rw [hx, bd1_s]
  exact ⟨x, rfl, hz⟩
theorem s_outw {I T : MI} {n k q N p : Nat} (L : ML) (hW : okW I 3 n) (hk : k < n) (hq : q < n) (hN : N ≤ 10) (hp : p ≤ 10) (hT : WS I T N p) : ∃ T', f_X0_waysToOutlast (3 + 2 + k) (3 + 2 + q) T L = some (lN (waysN I k q N p), T') ∧ WS I T' N p := by
  have hn := hW.1
  have ok1 := hW.2.2.2.2.2.2.2.2 k hk
  have ok2 := hW.2.2.2.2.2.2.2.2 q hq
  unfold f_X0_waysToOutlast
  obtain ⟨x, hx, hz, hg⟩ := lp_inv (f := fun s => b_X0_waysToOutlast_2 (3 + 2 + k) (3 + 2 + q) L s.1 s.2) (fun t s => s.1 = nI t ∧ WS I s.2 N p ∧ ∀ u y, u < t → y < 2 → s.2 (215 + y) u = nI (gaN I k y u) ∧ s.2 (218 + y) u = nI (gaN I q y u)) (fun x => WS I x N p ∧ ∀ u y, u < N → y < 2 → x (215 + y) u = nI (gaN I k y u) ∧ x (218 + y) u = nI (gaN I q y u)) N
    (fun t s ht hP => by
      obtain ⟨w, K⟩ := s
      obtain ⟨q1, ⟨q2, q3, q4, q5, q6⟩, q7⟩ := hP
      dsimp only at q1 q2 q3 q4 q5 q6 q7
      subst q1
      have kk : K (3 + 2 + k) = I (3 + 2 + k) := q2 _ (by omega)
      have kq : K (3 + 2 + q) = I (3 + 2 + q) := q2 _ (by omega)
      have n13 := q6 t ht
      have c0 : (0 : Int32).toNatClampNeg = 0 := rfl
      have c1 : (1 : Int32).toNatClampNeg = 1 := rfl
      have i0 : ∀ {β : Type} {o : Option β}, gi (0 : Int32) 2 o = o := gi_t (vp_in_nI (n := 0) (by omega) (by omega))
      have i1 : ∀ {β : Type} {o : Option β}, gi (1 : Int32) 2 o = o := gi_t (vp_in_nI (n := 1) (by omega) (by omega))
      simp (disch := omega) only [b_X0_waysToOutlast_2, s_grows, bd1_s, nm_s, i0, i1, gi_n, cl_n, up2_ne, kk, kq, n13, q4, c0, c1]
      have e0 := (ga_e ok1 0 t).1
      have e1 := (ga_e ok1 1 t).1
      have e2 := (ga_e ok2 0 t).1
      have e3 := (ga_e ok2 1 t).1
      have e0' : growR (I (3 + 2 + k)) 0 (ngN (I 3 2) (I 3 4) t) = nI (gaN I k 0 t) := e0
      have e1' : growR (I (3 + 2 + k)) 1 (ngN (I 3 2) (I 3 4) t) = nI (gaN I k 1 t) := e1
      have e2' : growR (I (3 + 2 + q)) 0 (ngN (I 3 2) (I 3 4) t) = nI (gaN I q 0 t) := e2
      have e3' : growR (I (3 + 2 + q)) 1 (ngN (I 3 2) (I 3 4) t) = nI (gaN I q 1 t) := e3
      rw [if_neg (nI_ge ht (by omega)), e0', e1', e2', e3', nI_1]
      refine ⟨_, rfl, rfl, ⟨fun i hi => ?_, ?_, ?_, ?_, fun u hu => ?_⟩, fun u y hu hy => ?_⟩
      · dsimp only
        rw [up2_ne (by omega), up2_ne (by omega), up2_ne (by omega), up2_ne (by omega)]
        exact q2 i hi
      · exact (((q3.up (Or.inr (Or.inl (by decide)))).up (Or.inr (Or.inl (by decide)))).up (Or.inr (Or.inl (by decide)))).up (Or.inr (Or.inl (by decide)))
      · dsimp only
        rw [up2_ne (by omega), up2_ne (by omega), up2_ne (by omega), up2_ne (by omega)]; exact q4
      · dsimp only
        rw [up2_ne (by omega), up2_ne (by omega), up2_ne (by omega), up2_ne (by omega)]; exact q5
      · dsimp only
        rw [up2_ne (by omega), up2_ne (by omega), up2_ne (by omega), up2_ne (by omega)]; exact q6 u hu
      · show up2 (up2 (up2 (up2 K (215 + 0) t (nI (gaN I k 0 t))) (215 + 1) t (nI (gaN I k 1 t))) (218 + 0) t (nI (gaN I q 0 t))) (218 + 1) t (nI (gaN I q 1 t)) (215 + y) u = _ ∧ up2 (up2 (up2 (up2 K (215 + 0) t (nI (gaN I k 0 t))) (215 + 1) t (nI (gaN I k 1 t))) (218 + 0) t (nI (gaN I q 0 t))) (218 + 1) t (nI (gaN I q 1 t)) (218 + y) u = _
        by_cases e : u = t
        · subst e
          rcases (show y = 0 ∨ y = 1 by omega) with rfl | rfl
          · exact ⟨by rw [up2_ne (by omega), up2_ne (by omega), up2_ne (by omega), up2_s], by rw [up2_ne (by omega), up2_s]⟩
          · exact ⟨by rw [up2_ne (by omega), up2_ne (by omega), up2_s], by rw [up2_s]⟩
        · have := q7 u y (by omega) hy
          have g : ∀ a b v c, up2 (up2 (up2 (up2 K (215 + 0) t a) (215 + 1) t b) (218 + 0) t v) (218 + 1) t c (215 + y) u = K (215 + y) u ∧ up2 (up2 (up2 (up2 K (215 + 0) t a) (215 + 1) t b) (218 + 0) t v) (218 + 1) t c (218 + y) u = K (218 + y) u := fun a b v c => by
            exact ⟨by rw [up2_at, if_neg (fun z => e z.2), up2_at, if_neg (fun z => e z.2), up2_at, if_neg (fun z => e z.2), up2_at, if_neg (fun z => e z.2)], by rw [up2_at, if_neg (fun z => e z.2), up2_at, if_neg (fun z => e z.2), up2_at, if_neg (fun z => e z.2), up2_at, if_neg (fun z => e z.2)]⟩
          rw [(g _ _ _ _).1, (g _ _ _ _).2]
          exact this)
    (fun s hP => by
      obtain ⟨w, K⟩ := s
      obtain ⟨q1, q2, q7⟩ := hP
      dsimp only at q1 q2 q7
      subst q1
      simp only [b_X0_waysToOutlast_2]
      rw [q2.2.2.1, if_pos (nI_le (Nat.le_refl _) (by omega))]
      exact ⟨_, rfl, q2, q7⟩)
    FU (show N < 2000 by omega) ((0 : Int32), T) ⟨rfl, hT, fun u y hu => absurd hu (by omega)⟩
  have xk : x (3 + 2 + k) = I (3 + 2 + k) := hz.1 _ (by omega)
  have xq : x (3 + 2 + q) = I (3 + 2 + q) := hz.1 _ (by omega)
  rw [hx, bd1_s, nm_s, nm_s, up2_ne (show 3 + 2 + q ≠ 212 by omega), up2_ne (show 3 + 2 + k ≠ 212 by omega), up2_ne (show 3 + 2 + k ≠ 212 by omega), up2_ne (show 3 + 2 + q ≠ 212 by omega), up2_ne (show 3 + 2 + q ≠ 212 by omega), xk, xq, (ln_e ok1).1, (ln_e ok2).1, (st_e ok1).1, (st_e ok2).1]
  have oc : OC (up2 (up2 x 212 5 (nI (lnN I k))) 212 6 (nI (lnN I q))) N p (lnN I k) (lnN I q) (gaN I k) (gaN I q) := by
    refine ⟨by rw [up2_n (by decide), up2_n (by decide)]; exact hz.2.2.1, by rw [up2_n (by decide), up2_n (by decide)]; exact hz.2.2.2.1, by rw [up2_n (by decide), up2_s], up2_s, fun y t hy ht => ?_⟩
    rw [up2_ne (by omega), up2_ne (by omega), up2_ne (by omega), up2_ne (by omega)]
    exact ⟨(hg t y ht hy).1, (hg t y ht hy).2, (ga_e ok1 y t).2, (ga_e ok2 y t).2⟩
  have hs := s_ways L hN hp (ln_e ok1).2 (ln_e ok2).2 oc N 12 0 (stN I k) (stN I q) (by omega) (by omega) (by have := (st_e ok1).2; omega) (by have := (st_e ok2).2; omega)
  have hs' : f_X0_waysFrom 12 (0 : Int32) (nI (stN I k)) (nI (stN I q)) (up2 (up2 x 212 5 (nI (lnN I k))) 212 6 (nI (lnN I q))) L = some (lN (waysN I k q N p)) := hs
  rw [hs', bd1_s]
  refine ⟨_, rfl, fun i hi => by rw [up2_ne (by omega), up2_ne (by omega)]; exact hz.1 i hi, (hz.2.1.up (Or.inl (by decide))).up (Or.inl (by decide)), by rw [up2_n (by decide), up2_n (by decide)]; exact hz.2.2.1, by rw [up2_n (by decide), up2_n (by decide)]; exact hz.2.2.2.1, fun t ht => by rw [up2_ne (by omega), up2_ne (by omega)]; exact hz.2.2.2.2 t ht⟩
