/-! ===== wall ===== -/
theorem ok_wall {I : MI} {L : ML} (h : Inv I L) : ∃ (r : Int32) (I1 : MI) (I2 : MI), f_X10_wall I L = some (r, I1) ∧ f_X11_wall I1 L = some (r, I2) ∧ Inv I2 L := by
  obtain ⟨hC, hU, hI, hB, hS, t, ht, t1, t7, tb⟩ := h
  obtain ⟨n, hW, hR⟩ := hC
  have d6 : I 3 6 = I 245 6 := hR.2.1 6 (by omega) (by omega)
  unfold f_X10_wall
  obtain ⟨r, T, a1, ⟨c1, c2, c3⟩, a3⟩ := s_readInto L ht t1 hB
  rw [a1, bd2_s, nm_s]
  have eB : byN (I 250) t = byN (I 2) t := funext fun j => by
    unfold byN
    by_cases c : j < t
    · rw [if_pos c, if_pos c, (tb j c).1]
    · rw [if_neg c, if_neg c]
  rcases a3 with ⟨rfl, m, j, hO, hK⟩ | ⟨f, hO, rfl⟩
  · obtain ⟨k1, k2, k3, k4, k5, k6, k7, k8, k9⟩ := hK
    have m1 := hO.1
    have m6 := hO.2.1
    obtain ⟨je, hje, _⟩ := hO.2.2.1
    obtain ⟨j0, hj0⟩ := z_le hje (show 0 ≤ m by omega)
    obtain ⟨⟨i2, hi2⟩, cr1, cr2⟩ := nuE_ok hj0
    obtain ⟨_, du1, du2⟩ := nuE_ok hi2
    have rcr : rg (crN (byN (I 2) t)) 0 9 := by
      rw [fa_le] at cr1 cr2
      exact ⟨cr1, cr2⟩
    have rdu : rg (duN (byN (I 2) t)) 1 24 := by
      rw [fa_le] at du1 du2
      exact ⟨du1, du2⟩
    rw [if_pos rfl, nm_s]
    have bI6 : InvB (up2 (up2 T 1 1 (0 : Int32)) 11 6 (up2 T 1 1 (0 : Int32) 3 6)) := (c2.up (Or.inr (Or.inl (by decide)))).up (Or.inr (Or.inl (by decide)))
    rw [s9_take L (by omega) (bI6.at (v := 11) (by omega) (by decide)), bd1_s]
    unfold f_X3_forget
    rw [nm_s, bd1_s]
    have e36 : up2 T 1 1 (0 : Int32) 3 6 = I 3 6 := by rw [up2_ne (by omega), c3 3 (by omega) (by omega)]
    rw [e36] at bI6 ⊢
    have h11 : ∀ s, 1 ≤ s → s ≤ 5 → up2 (up2 T 1 1 (0 : Int32)) 11 6 (I 3 6) 11 s = T 11 s := fun s s1 s2 => by rw [up2_n (by omega), up2_ne (by omega)]
    have h116 : up2 (up2 T 1 1 (0 : Int32)) 11 6 (I 3 6) 11 6 = I 3 6 := up2_s
    have h13 : ∀ q, q < 6 → up2 (up2 T 1 1 (0 : Int32)) 11 6 (I 3 6) (11 + 2 + q) = T (11 + 2 + q) := fun q hq => by rw [up2_ne (by omega), up2_ne (by omega)]
    have hoth : ∀ c, 19 ≤ c → up2 (up2 T 1 1 (0 : Int32)) 11 6 (I 3 6) c = I c := fun c hc => by rw [up2_ne (by omega), up2_ne (by omega), c3 c (by omega) (by omega)]
    have h1' : up2 (up2 T 1 1 (0 : Int32)) 11 6 (I 3 6) 1 1 = 0 := by rw [up2_ne (by omega), up2_s]
    generalize up2 (up2 T 1 1 (0 : Int32)) 11 6 (I 3 6) = A at bI6 h11 h116 h13 hoth h1'
    have tB : InvB (tkN A 3 11 6) := tk_B bI6 (by omega) (by decide)
    have x3 : ∀ s, 1 ≤ s → s ≤ 5 → up2 (tkN A 3 11 6) 19 2 (0 : Int32) 3 s = T 11 s := fun s s1 s2 => by rw [up2_ne (by omega), tk_h s1 (by omega), h11 s s1 s2]
    have x36 : up2 (tkN A 3 11 6) 19 2 (0 : Int32) 3 6 = I 3 6 := by rw [up2_ne (by omega), tk_h (by omega) (by omega), h116]
    have x5 : ∀ q, q < m → ∀ f, f ≤ 10 → up2 (tkN A 3 11 6) 19 2 (0 : Int32) (3 + 2 + q) f = siR (byN (I 2) t) (zN (byN (I 2) t) q) (crN (byN (I 2) t)) f := fun q hq f hf => by
      rw [up2_ne (by omega), tk_s (by omega) hf, h13 q (by omega)]
      exact k9 q hq f hf
    have xo : ∀ c, 20 ≤ c → up2 (tkN A 3 11 6) 19 2 (0 : Int32) c = I c := fun c hc => by rw [up2_ne (by omega), tk_o (by omega), hoth c (by omega)]
    have x19 : up2 (tkN A 3 11 6) 19 2 (0 : Int32) 19 1 = I 19 1 := by rw [up2_n (by omega), tk_o (by omega), hoth 19 (by omega)]
    have x192 : up2 (tkN A 3 11 6) 19 2 (0 : Int32) 19 2 = 0 := up2_s
    have x11 : up2 (tkN A 3 11 6) 19 2 (0 : Int32) 1 1 = 0 := by rw [up2_ne (by omega), tk_o (by omega), h1']
    have xB : InvB (up2 (tkN A 3 11 6) 19 2 (0 : Int32)) := tB.up (Or.inr (Or.inl (by decide)))
    generalize up2 (tkN A 3 11 6) 19 2 (0 : Int32) = X at x3 x36 x5 xo x19 x192 x11 xB
    have er : X 3 1 = nI m := by rw [x3 1 (by omega) (by omega)]; exact k4
    obtain ⟨K, jK, w1, w2, w3⟩ := m_wallOK (J := X) L ht (by rw [xo 244 (by omega)]; exact t7) (by rw [xo 250 (by omega)]; exact eB) hO
    refine ⟨nI m, X, _, by rw [er], w1, ?_⟩
    obtain ⟨g0, g19, g20, g21, g22, g23, g24, g25, g9, g10, _⟩ := w3
    have yo : ∀ c, c ≠ 244 → c ≠ 245 → up2 (cpR (up2 K 244 7 (0 : Int32)) 219 0 73) 244 2 (0 : Int32) c = X c := fun c e1 e2 => by rw [up2_ne e1, cpR_o e2, up2_ne e1, w2.1 c e1 e2]
    have y245 : ∀ j, j < 73 → up2 (cpR (up2 K 244 7 (0 : Int32)) 219 0 73) 244 2 (0 : Int32) 245 j = K 245 (219 + j) := fun j hj => by
      have e := cpR_i (I := up2 K 244 7 (0 : Int32)) (o := 219) (p := 0) (m := 73) (j := j) hj
      rw [up2_ne (show 245 ≠ 244 by omega), Nat.zero_add] at e
      rw [up2_ne (by omega)]
      exact e
    have y245o : ∀ j, 73 ≤ j → (j < 219 ∨ 292 ≤ j) → up2 (cpR (up2 K 244 7 (0 : Int32)) 219 0 73) 244 2 (0 : Int32) 245 j = I 245 j := fun j j1 j2 => by rw [up2_ne (by omega), cpR_n (by omega), up2_ne (by omega), w2.2.2 j j2, xo 245 (by omega)]
    have y2442 : up2 (cpR (up2 K 244 7 (0 : Int32)) 219 0 73) 244 2 (0 : Int32) 244 2 = 0 := up2_s
    have y2447 : up2 (cpR (up2 K 244 7 (0 : Int32)) 219 0 73) 244 2 (0 : Int32) 244 7 = 0 := by rw [up2_n (by omega), cpR_o (by omega), up2_s]
    generalize up2 (cpR (up2 K 244 7 (0 : Int32)) 219 0 73) 244 2 (0 : Int32) = Y at yo y245 y245o y2442 y2447
    have y3 : Y 3 = X 3 := yo 3 (by omega) (by omega)
    refine ⟨⟨m, ⟨m6, by rw [y3]; exact er, ?_, ?_, ?_, ?_, ?_, fun _ => ?_, fun k hk => ?_⟩, ?_, fun s s1 s2 => ?_, fun k f hk hf => ?_, fun k hk => ?_⟩, ?_, ?_, ?_, ?_, ?_⟩
    · rw [y3, x3 2 (by omega) (by omega), k5]
      exact rg_mono rdu (by omega) (by omega)
    · rw [y3, x3 3 (by omega) (by omega), k6]
      exact rcr
    · rw [y3, x3 4 (by omega) (by omega), k7]
      exact rg_0 (by omega) (by omega)
    · rw [y3, x3 5 (by omega) (by omega), k8]
      exact rg_0 (by omega) (by omega)
    · rw [y3, x36]
      exact hW.2.2.2.2.2.2.1
    · rw [y3, x3 2 (by omega) (by omega), k5]
      exact rdu
    · obtain ⟨i', hi'⟩ := z_le hje (show k + 1 ≤ m by omega)
      exact okR_congr (fun f hf => by rw [yo _ (by omega) (by omega), x5 k hk f hf]) (siR_ok hi' rcr)
    · rw [y245 0 (by omega), if_neg (show ¬ m = 0 by omega)]
      exact g19
    · rw [y3, show 0 + s = s by omega, y245 s (by omega)]
      have hs : s = 1 ∨ s = 2 ∨ s = 3 ∨ s = 4 ∨ s = 5 ∨ s = 6 := by omega
      rcases hs with rfl | rfl | rfl | rfl | rfl | rfl
      · rw [er]; exact g20.symm
      · rw [x3 2 (by omega) (by omega), k5]; exact g21.symm
      · rw [x3 3 (by omega) (by omega), k6]; exact g22.symm
      · rw [x3 4 (by omega) (by omega), k7]; exact g23.symm
      · rw [x3 5 (by omega) (by omega), k8]; exact g24.symm
      · rw [x36, d6]
        rw [xo 245 (by omega)] at g25
        exact g25.symm
    · rw [yo _ (by omega) (by omega), x5 k hk f hf]
      unfold mrec
      by_cases f10 : f = 10
      · subst f10
        rw [if_pos rfl, y245 _ (by omega), show 219 + (0 + 67 + k) = 286 + k by omega, g10 k hk, if_pos (by decide)]
        rfl
      · rw [if_neg f10, y245 _ (by omega), show 219 + (0 + 7 + 6 * f + k) = 219 + 7 + 6 * f + k by omega, g9 k hk f (by omega)]
    · rw [y245 _ (by omega), show 219 + (0 + 67 + k) = 286 + k by omega, g10 k hk]
      decide
    · obtain ⟨u, p, u1, p1, _, _, p2, _⟩ := hU
      exact ⟨0, p, by omega, p1, by rw [yo 19 (by omega) (by omega)]; exact x192, y2442, by rw [yo 19 (by omega) (by omega), x19]; exact p2, fun j hj => absurd hj (by omega)⟩
    · exact hI.congr (fun i i1 i2 => by rw [yo i (by omega) (by omega), xo i (by omega)]) (by rw [yo 246 (by omega) (by omega), xo 246 (by omega)]) (fun j j1 j2 => y245o j j1 (by omega))
    · exact xB.cg (fun i hi => by rw [yo i (fun q => by rw [q] at hi; exact absurd hi (by decide)) (fun q => by rw [q] at hi; exact absurd hi (by decide))])
    · exact hS.congr (fun k hk => by rw [yo _ (by omega) (by omega), xo _ (by omega)]) (by rw [yo 248 (by omega) (by omega), xo 248 (by omega)]) (by rw [yo 249 (by omega) (by omega), xo 249 (by omega)]) (fun _ _ => rfl) rfl
    · exact ⟨0, by omega, by rw [yo 1 (by omega) (by omega)]; exact x11, y2447, fun j hj => absurd hj (by omega)⟩
  · rw [if_neg (show ¬ nI f = -1 from nI_m1 (by have := hO.1; omega))]
    have xo : ∀ c, c ≠ 1 → (c < 11 ∨ 19 ≤ c) → up2 T 1 1 (0 : Int32) c = I c := fun c e1 e2 => by rw [up2_ne e1, c3 c e1 e2]
    have x11 : up2 T 1 1 (0 : Int32) 1 1 = 0 := up2_s
    have xB : InvB (up2 T 1 1 (0 : Int32)) := c2.up (Or.inr (Or.inl (by decide)))
    generalize up2 T 1 1 (0 : Int32) = X at xo x11 xB
    obtain ⟨K, w1, w2⟩ := m_wallF (J := X) L ht (by rw [xo 244 (by omega) (by omega)]; exact t7) (by rw [xo 250 (by omega) (by omega)]; exact eB) hO
    refine ⟨_, X, _, rfl, w1, ?_⟩
    have yo : ∀ c, c ≠ 244 → c ≠ 245 → up2 K 244 7 (0 : Int32) c = X c := fun c e1 e2 => by rw [up2_ne e1, w2.1 c e1 e2]
    have y245 : ∀ j, (j < 219 ∨ 292 ≤ j) → up2 K 244 7 (0 : Int32) 245 j = I 245 j := fun j hj => by rw [up2_ne (by omega), w2.2.2 j hj, xo 245 (by omega) (by omega)]
    have y2442 : up2 K 244 7 (0 : Int32) 244 2 = I 244 2 := by rw [up2_n (by omega), w2.2.1 2 (by omega), xo 244 (by omega) (by omega)]
    have y2447 : up2 K 244 7 (0 : Int32) 244 7 = 0 := up2_s
    generalize up2 K 244 7 (0 : Int32) = Y at yo y245 y2442 y2447
    have yI : ∀ c, c ≠ 1 → (c < 11 ∨ 19 ≤ c) → c ≠ 244 → c ≠ 245 → Y c = I c := fun c e1 e2 e3 e4 => by rw [yo c e3 e4, xo c e1 e2]
    refine ⟨InvC.congr ⟨n, hW, hR⟩ (yI 3 (by omega) (by omega) (by omega) (by omega)) (fun k hk => yI _ (by omega) (by omega) (by omega) (by omega)) (fun j hj => y245 j (by omega)), hU.congr (yI 19 (by omega) (by omega) (by omega) (by omega)) (fun i i1 i2 => yI i (by omega) (by omega) (by omega) (by omega)) y2442 (fun j j1 j2 => y245 j (by omega)), hI.congr (fun i i1 i2 => yI i (by omega) (by omega) (by omega) (by omega)) (yI 246 (by omega) (by omega) (by omega) (by omega)) (fun j j1 j2 => y245 j (by omega)), xB.cg (fun i hi => by rw [yo i (fun q => by rw [q] at hi; exact absurd hi (by decide)) (fun q => by rw [q] at hi; exact absurd hi (by decide))]), hS.congr (fun k hk => yI _ (by omega) (by omega) (by omega) (by omega)) (yI 248 (by omega) (by omega) (by omega) (by omega)) (yI 249 (by omega) (by omega) (by omega) (by omega)) (fun _ _ => rfl) rfl, 0, by omega, by rw [yo 1 (by omega) (by omega)]; exact x11, y2447, fun j hj => absurd hj (by omega)⟩
