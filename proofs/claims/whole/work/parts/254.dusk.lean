/-! ===== dusk ===== -/
def US (I T : MI) : Prop := (∀ i, i < 207 ∨ 212 ≤ i → T i = I i) ∧ InvB T
theorem US.Kp {I T : MI} (h : US I T) : Kp I T := ⟨fun i hi => h.1 i (by omega), by rw [h.1 _ (by omega)], by rw [h.1 _ (by omega)], fun j _ => by rw [h.1 _ (by omega)], h.1 _ (by omega), h.1 _ (by omega), h.1 _ (by omega), h.1 _ (by omega)⟩
theorem US.va {I T : MI} (h : US I T) {r : Nat → Int32} (hr : r 9 = 0 ∨ r 9 = 1) : US I (va_up T 211 r) := ⟨fun i hi => by rw [vu_ne (by omega)]; exact h.1 i hi, va_B h.2 hr⟩
theorem US.look {I : MI} (h : InvB I) : US I (lkF I) := ⟨fun i hi => lk_o (by omega), lk_B h⟩
theorem sn_o {I : MI} {hr dusk : Int32} {i : Nat} (h : i ≠ 209) : snF I hr dusk 60 i = I i := by
  refine funext fun j => ?_
  unfold snF
  rw [if_neg (fun q => h q.1)]
theorem US.sn {I T : MI} (h : US I T) (hr dusk : Int32) : US I (snF T hr dusk 60) := ⟨fun i hi => by rw [sn_o (by omega)]; exact h.1 i hi, h.2.cg (fun i hi => by rw [sn_o (fun q => by rw [q] at hi; exact absurd hi (by decide))])⟩
def cntD (I : MI) (n N : Nat) (dusk : Int32) : Int32 := bx_sum (fun q => b01 (trN no (I (3 + 2 + q)) (I 3 6) dusk (I 3 4) 0 N 10 = -4)) n
theorem s_sittingB {I T : MI} {n N : Nat} {d dusk hr : Int32} (L : ML) (hW : okW I 3 n) (hT : US I T) (hL : LK T d dusk hr) (hN : N ≤ 60) : ∃ T', f_X1_sittingBehind 3 (nI N) T L = some (bx_sum (fun q => b01 (trN no (I (3 + 2 + q)) d dusk hr 0 N 10 = -4)) n, T') ∧ US I T' ∧ (∀ i, i ≠ 211 → T' i = T i) := by
  have hn := hW.1
  unfold f_X1_sittingBehind
  obtain ⟨x, hx, T', rfl, h1, h2⟩ := lp_inv (f := fun s => b_X1_sittingBehind_5 3 (nI N) L s.1 s.2.1 s.2.2) (fun j s => ∃ K, s = (bx_sum (fun q => b01 (trN no (I (3 + 2 + q)) d dusk hr 0 N 10 = -4)) j, nI j, K) ∧ US I K ∧ (∀ i, i ≠ 211 → K i = T i)) (fun x => ∃ K, x = (bx_sum (fun q => b01 (trN no (I (3 + 2 + q)) d dusk hr 0 N 10 = -4)) n, K) ∧ US I K ∧ (∀ i, i ≠ 211 → K i = T i)) n
    (fun j s hj hP => by
      obtain ⟨K, rfl, hK, hKT⟩ := hP
      simp only [b_X1_sittingBehind_5]
      have t3 : K 3 1 = nI n := by rw [hK.1 _ (by omega)]; exact hW.2.1
      have tj : K (3 + 2 + j) = I (3 + 2 + j) := hK.1 _ (by omega)
      have h9 := e01 (hW.2.2.2.2.2.2.2.2 j hj).2.2.2.2.2.2.2.2.2.1
      have hLK : LK K d dusk hr := fun t ht => by rw [hKT _ (by omega), hKT _ (by omega)]; exact hL t ht
      rw [t3, if_neg (nI_ge hj (by omega)), gi_n (by omega) (by omega), cl_n (by omega), s_strainB L hLK (by omega) (by rw [tj]; exact h9) hN, bd2_s, s_sits, bd1_s, if_b, nm_s, some_if, bd1_s, nm_s, nI_1, vu_at, if_add1]
      refine ⟨_, rfl, _, ?_, hK.va (r := trN no (s0 K (3 + 2 + j)) d dusk hr 0 N) (by
        rw [tr_9 (by decide) (by decide) (by decide), s0_e (by omega), tj]; exact h9), fun i hi => by rw [vu_ne hi]; exact hKT i hi⟩
      refine congrArg (fun z => (z, nI (j + 1), va_up K 211 (trN no (s0 K (3 + 2 + j)) d dusk hr 0 N))) ?_
      show _ = bx_sum (fun q => b01 (trN no (I (3 + 2 + q)) d dusk hr 0 N 10 = -4)) j + b01 (trN no (I (3 + 2 + j)) d dusk hr 0 N 10 = -4)
      rw [tr_congr (s := s0 K (3 + 2 + j)) (s' := I (3 + 2 + j)) (fun f hf => by rw [s0_e hf, tj]) N 10 (by omega)])
    (fun s hP => by
      obtain ⟨K, rfl, hK, hKT⟩ := hP
      simp only [b_X1_sittingBehind_5]
      have t3 : K 3 1 = nI n := by rw [hK.1 _ (by omega)]; exact hW.2.1
      rw [t3, if_pos (nI_le (Nat.le_refl n) (by omega))]
      exact ⟨_, rfl, K, rfl, hK, hKT⟩)
    FU (show n < 2000 by omega) ((0 : Int32), (0 : Int32), T) ⟨T, rfl, hT, fun _ _ => rfl⟩
  rw [hx, bd2_s]
  exact ⟨T', rfl, h1, h2⟩
def bestD (I : MI) (n N : Nat) : Nat → Int32
  | 0 => -4
  | k + 1 => if 1 < cntD I n N (nI (k + 1)) then bestD I n N k else nI (k + 1)
theorem best_skip {I : MI} {n N z : Nat} : ∀ j, (∀ y, z < y → y ≤ z + j → 1 < cntD I n N (nI y)) → bestD I n N (z + j) = bestD I n N z
  | 0, _ => rfl
  | j + 1, h => by
    show (if 1 < cntD I n N (nI (z + j + 1)) then bestD I n N (z + j) else nI (z + j + 1)) = _
    rw [if_pos (h _ (by omega) (by omega)), best_skip j (fun y a b => h y a (by omega))]
theorem ok_dusk (a1 : Int32) {I : MI} {L : ML} (h : Inv I L) : ∃ (r : Int32) (I1 : MI) (I2 : MI), f_X10_dusk a1 I L = some (r, I1) ∧ f_X11_dusk a1 I1 L = some (r, I2) ∧ Inv I2 L := by
  obtain ⟨n, hW, hR⟩ := h.1
  have hn := hW.1
  have e1 := RW.n1 hW hR
  unfold f_X10_dusk f_X11_dusk
  rw [s_within, bd1_s, if_b, s_stands, bd1_s, if_b, show (1 : Int64) = (1 : Int32).toInt64 from rfl, show (40 : Int64) = (40 : Int32).toInt64 from rfl, s_in32]
  simp only [bd1_s, if_b]
  by_cases c1 : (1 : Int32) ≤ a1 ∧ a1 ≤ 40
  · simp only [if_pos c1]
    obtain ⟨N, hN1, hN2, rfl⟩ : ∃ N : Nat, 1 ≤ N ∧ N ≤ 40 ∧ a1 = nI N := by
      have z1 : (1 : Int32).toInt = 1 := rfl
      have z2 : (40 : Int32).toInt = 40 := rfl
      rw [fa_le, fa_le, z1, z2] at c1
      obtain ⟨k, h1, h2, h3⟩ := rg_n (x := a1) (a := 1) (b := 40) c1 (by omega)
      exact ⟨k, h1, h2, h3⟩
    rw [hW.2.1]
    by_cases c2 : n = 0
    · rw [if_neg (fun q => by have := (nI0 hn).mp q; omega)]
      refine ⟨-2, I, I, rfl, ?_, h⟩
      rw [gi00, if_pos (show I 245 (0 : Int32).toNatClampNeg = 0 by show I 245 0 = 0; rw [hR.1, if_pos c2])]
    · rw [if_pos ((nI0 hn).mpr (by omega)), s_look, bd1_s]
      have hh : rg (I 3 4) 0 9999 := hW.2.2.2.2.1
      obtain ⟨x, hx, T, hT, hz⟩ := lp_inv2 (f := fun s => b_X10_dusk_39 (nI N) L s.1 s.2)
        (fun k s => ∃ T, s = (nI (24 - k), T) ∧ US I T ∧ (∀ t, t < 60 → T 208 t = skN (I 3 6) t) ∧ ∀ y, 24 - k < y → y ≤ 24 → 1 < cntD I n N (nI y))
        (fun x => ∃ T, US I T ∧ ((x = Sum.inl T ∧ ∀ y, 1 ≤ y → y ≤ 24 → 1 < cntD I n N (nI y)) ∨ ∃ z, 1 ≤ z ∧ z ≤ 24 ∧ x = Sum.inr (nI z, T) ∧ ¬ 1 < cntD I n N (nI z) ∧ ∀ y, z < y → y ≤ 24 → 1 < cntD I n N (nI y))) 24
        (fun k s hk hP => by
          obtain ⟨T, rfl, hT, h8, hy⟩ := hP
          simp only [b_X10_dusk_39]
          have t4 : T 3 4 = I 3 4 := by rw [hT.1 _ (by omega)]
          rw [if_neg (show ¬ nI (24 - k) < (1 : Int32) from fun q => by
            rw [fa_lt, nI_bd (by omega)] at q
            have e : (1 : Int32).toInt = 1 := rfl
            omega), s_nights, bd1_s, t4]
          have hLK : LK (snF T (I 3 4) (nI (24 - k)) 60) (I 3 6) (nI (24 - k)) (I 3 4) := fun t ht => by
            refine ⟨by rw [sn_o (by omega)]; exact h8 t ht, ?_⟩
            unfold snF
            rw [if_pos ⟨rfl, ht⟩]
          obtain ⟨T', w1, w2, w3⟩ := s_sittingB (N := N) L hW (hT.sn (I 3 4) (nI (24 - k))) hLK (by omega)
          rw [w1, bd2_s]
          have ec : bx_sum (fun q => b01 (trN no (I (3 + 2 + q)) (I 3 6) (nI (24 - k)) (I 3 4) 0 N 10 = -4)) n = cntD I n N (nI (24 - k)) := rfl
          rw [ec]
          by_cases c : 1 < cntD I n N (nI (24 - k))
          · rw [if_pos c, nm_s]
            have em : nI (24 - k) + (-1 : Int32) = nI (24 - (k + 1)) := by
              rw [show 24 - k = (24 - (k + 1)) + 1 by omega]
              exact pk_m1 _
            refine Or.inl ⟨_, rfl, T', by rw [em], w2, fun t ht => by rw [w3 _ (by omega), sn_o (by omega)]; exact h8 t ht, fun y a b => ?_⟩
            by_cases e : y = 24 - k
            · rw [e]; exact c
            · exact hy y (by omega) b
          · rw [if_neg c]
            exact Or.inr ⟨_, rfl, T', w2, Or.inr ⟨24 - k, by omega, by omega, rfl, c, hy⟩⟩)
        (fun s hP => by
          obtain ⟨T, rfl, hT, h8, hy⟩ := hP
          simp only [b_X10_dusk_39]
          rw [if_pos (by decide)]
          exact ⟨_, rfl, T, hT, Or.inl ⟨rfl, fun y a b => hy y (by omega) b⟩⟩)
        FU (show 24 < 2000 by omega) ((24 : Int32), lkF I) ⟨lkF I, rfl, US.look h.2.2.2.1, fun t ht => (lk_LK I t ht).1, fun y a b => absurd a (by omega)⟩
      have hres : ∃ T, Sum.elim (fun t21 => some (((-4 : Int32), t21))) (fun t25 => some (t25.1, t25.2)) x = some (bestD I n N 24, T) ∧ US I T := by
        rcases hz with ⟨rfl, hy⟩ | ⟨z, z1, z2, rfl, c, hy⟩
        · refine ⟨T, ?_, hT⟩
          have := best_skip (I := I) (n := n) (N := N) (z := 0) 24 (fun y a b => hy y (by omega) (by omega))
          rw [show 0 + 24 = 24 by omega] at this
          rw [this]
          rfl
        · refine ⟨T, ?_, hT⟩
          have := best_skip (I := I) (n := n) (N := N) (z := z) (24 - z) (fun y a b => hy y a (by omega))
          rw [show z + (24 - z) = 24 by omega] at this
          rw [this]
          obtain ⟨w, rfl⟩ : ∃ w, z = w + 1 := ⟨z - 1, by omega⟩
          show some (nI (w + 1), T) = some ((if 1 < cntD I n N (nI (w + 1)) then bestD I n N w else nI (w + 1)), T)
          rw [if_neg c]
      obtain ⟨T2, hx2, hT2⟩ := hres
      rw [hx, bd1_s, hx2]
      have kT := hT2.Kp
      obtain ⟨hW', hR'⟩ := kT.wall hW hR
      have t3 : T2 3 = I 3 := kT.1 3 (by omega)
      obtain ⟨y, hy, J, rfl, hJ⟩ := lp_inv (f := fun s => b_X11_dusk_31 (nI N) L s.1 s.2.1 s.2.2) (fun k s => ∃ J, s = (bestD I n N k, nI (k + 1), J) ∧ TF T2 J) (fun x => ∃ J, x = (bestD I n N 24, J) ∧ TF T2 J) 24
        (fun k s hk hP => by
          obtain ⟨K, rfl, hK⟩ := hP
          simp only [b_X11_dusk_31]
          obtain ⟨hW2, hR2⟩ := hK.Kp.wall hW' hR'
          obtain ⟨J0, j1, j2, j3⟩ := m_try L hW2 hR2
          have k3 : K 3 = I 3 := by rw [hK.1 3 (by omega)]; exact t3
          have ks : ∀ q, q < 6 → K (3 + 2 + q) = I (3 + 2 + q) := fun q hq => by rw [hK.1 _ (by omega)]; exact kT.1 _ (by omega)
          rw [k3] at j3
          have j3' : MRow (up2 J0 245 221 (nI (k + 1))) 219 n (nI (k + 1)) (I 3 4) (I 3 6) (fun q => K (3 + 2 + q)) := by
            obtain ⟨m1, m2, m3, m4, m5⟩ := j3
            refine ⟨by rw [up2_n (by omega)]; exact m1, up2_s, by rw [up2_n (by omega)]; exact m3, by rw [up2_n (by omega)]; exact m4, fun q hq => ?_⟩
            obtain ⟨a, b, c⟩ := m5 q hq
            refine ⟨fun f hf => ?_, b, by rw [up2_n (by omega)]; exact c⟩
            refine Eq.trans ?_ (a f hf)
            unfold mrec
            by_cases e10 : f = 10
            · rw [if_pos e10, if_pos e10, up2_n (by omega)]
            · rw [if_neg e10, if_neg e10, up2_n (by omega)]
          obtain ⟨J, q1, q2, q3⟩ := m_many (N := N) L hn hh (by omega) j3'
          have tf : TF J0 (up2 J0 245 221 (nI (k + 1))) := ⟨fun i hi => up2_ne hi, fun j hj => up2_n (by omega)⟩
          rw [if_neg (show ¬ (24 : Int32) < nI (k + 1) from fun q => by
            rw [fa_lt, nI_bd (by omega)] at q
            have e : (24 : Int32).toInt = 24 := rfl
            omega), j1, bd1_s, gi_t (show vp_in (221 : Int32) 1752 from vp_in_nI (n := 221) (by omega) (by omega)), nm_s, show (221 : Int32).toNatClampNeg = 221 from rfl, q1, bd1_s, show (219 : Int32) = nI 219 from rfl, m_sittingIn (n := n) L (by omega) hn q3.1, bd1_s, some_if, bd1_s, nm_s, nI_1]
          refine ⟨_, rfl, J, ?_, ((hK.tr j2).tr tf).tr q2⟩
          refine congrArg (fun z => (z, nI (k + 1 + 1), J)) ?_
          have ec : bx_sum (fun q => b01 (¬ 0 ≤ J 245 (219 + 67 + q))) n = cntD I n N (nI (k + 1)) := by
            unfold cntD
            refine bx_sum_congr (fun q hq => b01_iff ?_)
            have e10 : mrec (J 245) 219 q 10 = trN no (K (3 + 2 + q)) (I 3 6) (nI (k + 1)) (I 3 4) (I 3 4) N 10 := (q3.2.2.2.2 q hq).1 10 (by omega)
            rw [← mrec10, e10, ks q (by omega)]
            exact (tr_off N (fun t ht => ⟨offh hh t (by omega), off0 t (by omega)⟩)).2
          rw [ec]
          rfl)
        (fun s hP => by
          obtain ⟨K, rfl, hK⟩ := hP
          simp only [b_X11_dusk_31]
          rw [if_pos (by decide)]
          exact ⟨_, rfl, K, rfl, hK⟩)
        FU (show 24 < 2000 by omega) ((-4 : Int32), (1 : Int32), T2) ⟨T2, rfl, TF.rf T2⟩
      refine ⟨_, T2, J, rfl, ?_, h.tried kT hT2.2 hJ⟩
      rw [gi00, if_neg (show ¬ T2 245 (0 : Int32).toNatClampNeg = 0 by
        show ¬ T2 245 0 = 0
        rw [hR'.1, if_neg c2]; decide), hy, bd2_s]
  · simp only [if_neg c1]
    exact ⟨-1, I, I, rfl, rfl, h⟩
