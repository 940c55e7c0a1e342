/-! ===== game: the reference's side ===== -/
theorem m_turns {I : MI} {n k q m : Nat} {dusk hr d : Int32} {R : Nat → Nat → Int32} (L : ML) (hn : n ≤ 6) (hk : k < n) (hq : q < n) (hkq : k ≠ q) (hm : m < 3) (h : MRow I 219 n dusk hr d R) : ∃ J R', f_X11_turns (nI k) (nI q) (nI m) I L = some J ∧ TF I J ∧ MRow J 219 n dusk hr d R' ∧ ∀ S : S2, Sm (R k) S.1 → Sm (R q) S.2 → Sm (R' k) (mvA m S).1 ∧ Sm (R' q) (mvA m S).2 := by
  have hc : m = 0 ∨ m = 1 ∨ m = 2 := by omega
  unfold f_X11_turns
  rcases hc with rfl | rfl | rfl
  · rw [if_neg (by decide), if_neg (by decide), bd1_s]
    exact ⟨I, R, rfl, TF.rf I, h, fun S a b => ⟨a, b⟩⟩
  · obtain ⟨J, j1, j2, j3⟩ := m_rowEat L hn hk h true
    rw [if_neg (by decide)] at j1
    rw [if_pos (by decide), j1, bd1_s]
    refine ⟨J, _, rfl, j2, j3, fun S a b => ⟨?_, ?_⟩⟩
    · rw [if_pos rfl]
      exact a.eat
    · rw [if_neg (Ne.symm hkq)]
      exact b
  · obtain ⟨h1, h2, h4, h6, h7⟩ := h
    obtain ⟨r1, r2, r3⟩ := h7 q hq
    rw [if_neg (by decide), if_pos (by decide), show (219 : Int32) = nI 219 from rfl, m_isDown L (by omega), bd1_s, if_b]
    have e10 : R q 10 = -4 ↔ ¬ 0 ≤ I 245 (219 + 67 + q) := by rw [← r1 10 (by omega)]; exact mrec10
    by_cases c : 0 ≤ I 245 (219 + 67 + q)
    · rw [if_pos c, bd1_s]
      refine ⟨I, R, rfl, TF.rf I, ⟨h1, h2, h4, h6, h7⟩, fun S a b => ⟨a, ?_⟩⟩
      show Sm (R q) (newsR S.2)
      rw [news_down (fun z => (e10.mp (b.2.mpr z)) c)]
      exact b
    · rw [if_neg c, iz 268 q (268 : Int32) rfl, gi_n (by omega) (by omega), cl_n (by omega), nm_s, bd1_s]
      refine ⟨up2 I 245 (268 + q) 2, fun p => if p = q then newsR (R p) else R p, rfl, ⟨fun i hi => up2_ne hi, fun j hj => up2_n (by omega)⟩, ⟨by rw [up2_n (by omega)]; exact h1, by rw [up2_n (by omega)]; exact h2, by rw [up2_n (by omega)]; exact h4, by rw [up2_n (by omega)]; exact h6, fun p hp => ?_⟩, fun S a b => ⟨?_, ?_⟩⟩
      · obtain ⟨p1, p2, p3⟩ := h7 p hp
        by_cases e : p = q
        · subst e
          dsimp only
          rw [if_pos rfl]
          refine ⟨fun f hf => ?_, p2.news, by rw [up2_n (by omega)]; exact p3⟩
          by_cases f7 : f = 7
          · subst f7
            rw [mrec9 (by omega), show 219 + 7 + 6 * 7 + p = 268 + p by omega, up2_s]
            unfold newsR
            rw [if_pos ⟨e10.mpr c, rfl⟩]
          · rw [news_9 _ f7, ← p1 f hf]
            unfold mrec
            by_cases f10 : f = 10
            · rw [if_pos f10, if_pos f10, up2_n (by omega)]
            · rw [if_neg f10, if_neg f10, up2_n (by omega)]
        · dsimp only
          rw [if_neg e]
          refine ⟨fun f hf => ?_, p2, by rw [up2_n (by omega)]; exact p3⟩
          rw [← p1 f hf]
          unfold mrec
          by_cases f10 : f = 10
          · rw [if_pos f10, if_pos f10, up2_n (by omega)]
          · rw [if_neg f10, if_neg f10, up2_n (by omega)]
      · dsimp only
        rw [if_neg hkq]
        exact a
      · dsimp only
        rw [if_pos rfl]
        exact b.news
def zz (r j : Nat) : Nat := 9 ^ r / 9 ^ (j + 1)
def ww (r j : Nat) : Nat := 9 ^ (r - j)
theorem zz_s : ∀ r, r < 4 → ∀ j, j < 4 → zz r (j + 1) = zz r j / 9 := by decide
theorem zz_p : ∀ r, r < 4 → ∀ j, j < r → 0 < zz r j ∧ zz r j ≤ 81 ∧ ww r (j + 1) = zz r j ∧ ww r j = zz r j * 9 := by decide
theorem zz_r : ∀ r, r < 4 → zz r r = 0 ∧ ww r r = 1 ∧ nI (9 ^ r) / (9 : Int32) = nI (zz r 0) ∧ 9 ^ r ≤ 729 ∧ ww r 0 = 9 ^ r ∧ (if nI r = 0 then some (1 : Int32) else (if nI r = (1 : Int32) then some (9 : Int32) else (if nI r = (2 : Int32) then some (81 : Int32) else some (729 : Int32)))) = some (nI (9 ^ r)) := by decide
theorem n_pos {z : Nat} (h : 0 < z) (h2 : z < 2 ^ 31) : ¬ nI z ≤ 0 := fun q => by
  rw [fa_le, nI_bd h2] at q
  have e : (0 : Int32).toInt = 0 := rfl
  omega
theorem m_leaf {I : MI} {n k q r x : Nat} {dusk hr d : Int32} {R0 : Nat → Nat → Int32} {S : S2} (v4 : Int32) (L : ML) (hn : n ≤ 6) (hk : k < n) (hq : q < n) (hkq : k ≠ q) (hr4 : r < 4) (hx : x < 9 ^ r) (hh : rg hr 0 9999) (h : MRow I 219 n dusk hr d R0) (a : Sm (R0 k) S.1) (b : Sm (R0 q) S.2) : ∃ J R, lp (fun s => b_X11_game_102 (nI k) (nI q) v4 (nI x) L s.1 s.2) FU (nI (zz r 0), I) = some J ∧ TF I J ∧ MRow J 219 n dusk (hr + nI r) (drN d r) R ∧ Sm (R k) (runS d dusk hr S r x).1 ∧ Sm (R q) (runS d dusk hr S r x).2 := by
  have z729 := (zz_r r hr4).2.2.2.1
  obtain ⟨y, hy, J, R, rfl, h1, h2, h3, h4⟩ := lp_inv (f := fun s => b_X11_game_102 (nI k) (nI q) v4 (nI x) L s.1 s.2)
    (fun j s => ∃ K R, s = (nI (zz r j), K) ∧ TF I K ∧ MRow K 219 n dusk (hr + nI j) (drN d j) R ∧ Sm (R k) (runS d dusk hr S j (x / ww r j)).1 ∧ Sm (R q) (runS d dusk hr S j (x / ww r j)).2)
    (fun y => ∃ J R, y = J ∧ TF I J ∧ MRow J 219 n dusk (hr + nI r) (drN d r) R ∧ Sm (R k) (runS d dusk hr S r x).1 ∧ Sm (R q) (runS d dusk hr S r x).2) r
    (fun j s hj hP => by
      obtain ⟨K, R, rfl, hK, hM, a1, b1⟩ := hP
      obtain ⟨z1, z2, z3, z4⟩ := zz_p r hr4 j hj
      simp only [b_X11_game_102]
      rw [if_neg (n_pos z1 (by omega)), gd_t (nI_ne0 z1 (by omega)), nm_s, nm_s, pk_div (by omega) z1 (by omega), show (9 : Int32) = nI 9 from rfl, show (3 : Int32) = nI 3 from rfl, pk_rem (Nat.lt_of_le_of_lt (Nat.div_le_self _ _) (by omega)) (by omega) (by omega)]
      have hd9 : x / zz r j % 9 < 9 := Nat.mod_lt _ (by omega)
      rw [pk_rem (by omega) (by omega) (by omega), pk_div (by omega) (by omega) (by omega)]
      obtain ⟨J1, R1, t1, t2, t3, t4⟩ := m_turns L hn hk hq hkq (show x / zz r j % 9 / 3 < 3 by omega) hM
      obtain ⟨a2, b2⟩ := t4 _ a1 b1
      obtain ⟨J2, R2, u1, u2, u3, u4⟩ := m_turns L hn hq hk (Ne.symm hkq) (show x / zz r j % 9 % 3 < 3 by omega) t3
      obtain ⟨b3, a3⟩ := u4 (_, _) b2 a2
      obtain ⟨J3, w1, w2, _, w4⟩ := m_tryStep (t := j) L hn hh (by omega) u3
      rw [t1, bd1_s, u1, bd1_s, w1, bd1_s, nm_s, pk_div (by omega) (by omega) (by omega), ← zz_s r hr4 j (by omega)]
      have er : runS d dusk hr S (j + 1) (x / ww r (j + 1)) = hrS d dusk hr j (mvB (x / zz r j % 9 % 3) (mvA (x / zz r j % 9 / 3) (runS d dusk hr S j (x / ww r j)))) := by
        rw [z3, z4, ← Nat.div_div_eq_div_mul]
        rfl
      have p0 := offh hh j (by omega)
      refine ⟨_, rfl, J3, _, rfl, ((hK.tr t2).tr u2).tr w2, w4, ?_, ?_⟩
      · rw [er, mvB_sw]
        exact Sm.pass a3 _ _ p0 (by decide)
      · rw [er, mvB_sw]
        exact Sm.pass b3 _ _ p0 (by decide))
    (fun s hP => by
      obtain ⟨K, R, rfl, hK, hM, a1, b1⟩ := hP
      obtain ⟨z1, z2, _⟩ := zz_r r hr4
      simp only [b_X11_game_102]
      rw [z1, if_pos (by decide)]
      rw [z2, Nat.div_one] at a1 b1
      exact ⟨_, rfl, K, R, rfl, hK, hM, a1, b1⟩)
    FU (show r < 2000 by omega) (nI (zz r 0), I) ⟨I, R0, rfl, TF.rf I, by
      have e : hr + nI 0 = hr := by
        rw [fa_eq, Int32.toInt_add]
        have e0 : (nI 0).toInt = 0 := rfl
        rw [e0, Int.add_zero]
        exact Int.bmod_eq_of_le (by have := hh.1; omega) (by have := hh.2; omega)
      rw [e]
      exact h, by exact a, by exact b⟩
  exact ⟨_, R, hy, h1, h2, h3, h4⟩
theorem m_edgeNow {J : MI} {n k q : Nat} {dusk hr d : Int32} {R : Nat → Nat → Int32} {S : S2} (L : ML) (hn : n ≤ 6) (hk : k < n) (hq : q < n) (h : MRow J 219 n dusk hr d R) (a : Sm (R k) S.1) (b : Sm (R q) S.2) : f_X11_edgeNow (nI k) (nI q) J L = some (edgeS S) := by
  unfold f_X11_edgeNow
  have e : ∀ p, p < n → J 245 (232 + p) = R p 1 ∧ J 245 (256 + p) = R p 5 := fun p hp => by
    have h1 := (h.2.2.2.2 p hp).1 1 (by omega)
    have h5 := (h.2.2.2.2 p hp).1 5 (by omega)
    rw [mrec9 (by omega)] at h1 h5
    rw [show 219 + 7 + 6 * 1 + p = 232 + p by omega] at h1
    rw [show 219 + 7 + 6 * 5 + p = 256 + p by omega] at h5
    exact ⟨h1, h5⟩
  rw [iz 232 k (232 : Int32) rfl, iz 256 k (256 : Int32) rfl, iz 232 q (232 : Int32) rfl, iz 256 q (256 : Int32) rfl, gi_n (by omega) (by omega), gi_n (by omega) (by omega), gi_n (by omega) (by omega), gi_n (by omega) (by omega), cl_n (by omega), cl_n (by omega), cl_n (by omega), cl_n (by omega), (e k hk).1, (e k hk).2, (e q hq).1, (e q hq).2, i32_4, a.edge b]
def TG (I J : MI) : Prop := (∀ i, i ≠ 245 → i ≠ 252 → J i = I i) ∧ ∀ j, j < 219 ∨ 292 ≤ j → J 245 j = I 245 j
theorem TG.rf (I : MI) : TG I I := ⟨fun _ _ _ => rfl, fun _ _ => rfl⟩
theorem TG.tr {I J K : MI} (h : TG I J) (k : TG J K) : TG I K := ⟨fun i a b => (k.1 i a b).trans (h.1 i a b), fun j hj => (k.2 j hj).trans (h.2 j hj)⟩
theorem TF.G {I J : MI} (h : TF I J) : TG I J := ⟨fun i a _ => h.1 i a, h.2⟩
theorem TG.up (I : MI) (j : Nat) (v : Int32) : TG I (up2 I 252 j v) := ⟨fun i _ b => up2_ne b, fun j _ => by rw [up2_ne (by omega)]⟩
theorem TG.Kp {I J : MI} (h : TG I J) : Kp I J := ⟨fun i hi => h.1 i (by omega) (by omega), by rw [h.1 _ (by omega) (by omega)], by rw [h.1 _ (by omega) (by omega)], h.2, h.1 _ (by omega) (by omega), h.1 _ (by omega) (by omega), h.1 _ (by omega) (by omega), h.1 _ (by omega) (by omega)⟩
theorem TG.B {I J : MI} (h : TG I J) (hB : InvB I) : InvB J := hB.cg (fun i hi => by rw [h.1 i (fun q => by rw [q] at hi; exact absurd hi (by decide)) (fun q => by rw [q] at hi; exact absurd hi (by decide))])
theorem m_leaves {I : MI} {n k q r : Nat} (L : ML) (hW : okW I 3 n) (hR : RW I 3 n 0) (hk : k < n) (hq : q < n) (hkq : k ≠ q) (hr4 : r < 4) : ∃ J, lp (fun s => b_X11_game_80 (nI k) (nI q) (nI (9 ^ r)) L s.1 s.2) FU ((0 : Int32), I) = some J ∧ TG I J ∧ ∀ y, y < 9 ^ r → J 252 y = edgeS (runS (I 3 6) (I 3 2) (I 3 4) (I (3 + 2 + k), I (3 + 2 + q)) r y) := by
  have hn := hW.1
  obtain ⟨_, _, z3, z4, _, _⟩ := zz_r r hr4
  obtain ⟨x, hx, J, rfl, h1, h2⟩ := lp_inv (f := fun s => b_X11_game_80 (nI k) (nI q) (nI (9 ^ r)) L s.1 s.2)
    (fun x s => ∃ J, s = (nI x, J) ∧ TG I J ∧ ∀ y, y < x → J 252 y = edgeS (runS (I 3 6) (I 3 2) (I 3 4) (I (3 + 2 + k), I (3 + 2 + q)) r y))
    (fun x => ∃ J, x = J ∧ TG I J ∧ ∀ y, y < 9 ^ r → J 252 y = edgeS (runS (I 3 6) (I 3 2) (I 3 4) (I (3 + 2 + k), I (3 + 2 + q)) r y)) (9 ^ r)
    (fun x s hx hP => by
      obtain ⟨K, rfl, hK, hv⟩ := hP
      simp only [b_X11_game_80]
      obtain ⟨hW', hR'⟩ := hK.Kp.wall hW hR
      obtain ⟨J0, j1, j2, j3⟩ := m_try L hW' hR'
      have k3 : K 3 = I 3 := hK.1 3 (by omega) (by omega)
      have kk : K (3 + 2 + k) = I (3 + 2 + k) := hK.1 _ (by omega) (by omega)
      have kq : K (3 + 2 + q) = I (3 + 2 + q) := hK.1 _ (by omega) (by omega)
      rw [k3] at j3
      obtain ⟨J1, R, l1, l2, l3, l4, l5⟩ := m_leaf (S := (I (3 + 2 + k), I (3 + 2 + q))) (nI (9 ^ r)) L hn hk hq hkq hr4 hx hW.2.2.2.2.1 j3 (by rw [kk]; exact Sm.rf _) (by rw [kq]; exact Sm.rf _)
      rw [if_neg (nI_ge hx (by omega)), j1, bd1_s, nm_s, z3, l1, bd1_s, m_edgeNow (S := runS (I 3 6) (I 3 2) (I 3 4) (I (3 + 2 + k), I (3 + 2 + q)) r x) L hn hk hq l3 l4 l5, bd1_s, gi_n (by omega) (by omega), nm_s, nm_s, cl_n (by omega), nI_1]
      refine ⟨_, rfl, _, rfl, ((hK.tr j2.G).tr l2.G).tr (TG.up _ _ _), fun y hy => ?_⟩
      by_cases e : y = x
      · subst e
        rw [up2_s]
      · rw [up2_n e, l2.1 _ (by omega), j2.1 _ (by omega)]
        exact hv y (by omega))
    (fun s hP => by
      obtain ⟨K, rfl, hK, hv⟩ := hP
      simp only [b_X11_game_80]
      rw [if_pos (nI_le (Nat.le_refl _) (by omega))]
      exact ⟨_, rfl, K, rfl, hK, hv⟩)
    FU (show 9 ^ r < 2000 by omega) ((0 : Int32), I) ⟨I, rfl, TG.rf I, fun y hy => absurd hy (by omega)⟩
  exact ⟨_, hx, h1, h2⟩
theorem mm_min (a b : Int32) : (if a ≤ b then a else b) = mmin a b := by
  rw [fa_eq, mmin_i]
  by_cases c : a ≤ b
  · rw [if_pos c]
    rw [fa_le] at c
    omega
  · rw [if_neg c]
    rw [fa_le] at c
    omega
theorem mm_max (a b : Int32) : (if b ≤ a then a else b) = mmax a b := by
  rw [fa_eq, mmax_i]
  by_cases c : b ≤ a
  · rw [if_pos c]
    rw [fa_le] at c
    omega
  · rw [if_neg c]
    rw [fa_le] at c
    omega
theorem m_fold3 {I : MI} {x m : Nat} (v5 v7 : Int32) (L : ML) (hx : 9 * x + 9 ≤ 729) (hm : m < 3) : lp (fun s => b_X11_game_215 v5 (nI x) v7 (nI m) I L s.1 s.2) FU ((1000000 : Int32), (0 : Int32)) = some (accU false (fun m' => I 252 (9 * x + 3 * m + m')) 3) := by
  refine lp_forF (fun j => (accU false (fun m' => I 252 (9 * x + 3 * m + m')) j, nI j)) 3 rfl (fun j hj => ?_) ?_ (by omega)
  · simp only [b_X11_game_215]
    rw [if_neg (show ¬ (3 : Int32) ≤ nI j from nI_ge (b := 3) hj (by omega)), show (9 : Int32) = nI 9 from rfl, show (3 : Int32) = nI 3 from rfl, pk_mul, pk_mul, nI_add, nI_add, gi_n (by omega) (by omega), nm_s, cl_n (by omega), some_if, bd1_s, nm_s, nI_1, mm_min]
    rfl
  · simp only [b_X11_game_215]
    rw [if_pos (by decide)]
theorem m_fold9 {I : MI} {x : Nat} (v5 : Int32) (L : ML) (hx : 9 * x + 9 ≤ 729) : lp (fun s => b_X11_game_202 v5 (nI x) I L s.1 s.2) FU ((-1000000 : Int32), (0 : Int32)) = some (accU true (fun m => accU false (fun m' => I 252 (9 * x + 3 * m + m')) 3) 3) := by
  refine lp_forF (fun j => (accU true (fun m => accU false (fun m' => I 252 (9 * x + 3 * m + m')) 3) j, nI j)) 3 rfl (fun j hj => ?_) ?_ (by omega)
  · simp only [b_X11_game_202]
    rw [if_neg (show ¬ (3 : Int32) ≤ nI j from nI_ge (b := 3) hj (by omega)), m_fold3 _ _ L hx hj, bd1_s, some_if, bd1_s, nm_s, nI_1, mm_max]
    rfl
  · simp only [b_X11_game_202]
    rw [if_pos (by decide)]
theorem m_level {I : MI} {Z i l : Nat} {d dusk hr : Int32} {S : S2} (L : ML) (hZ : Z ≤ 81) (h : ∀ y, y < 9 * Z → I 252 y = val d dusk hr i (l + 1) (runS d dusk hr S (l + 1) y)) : ∃ J, lp (fun s => b_X11_game_188 (nI Z) L s.1 s.2) FU ((0 : Int32), I) = some J ∧ TG I J ∧ ∀ y, y < Z → J 252 y = val d dusk hr (i + 1) l (runS d dusk hr S l y) := by
  obtain ⟨x, hx, J, rfl, h1, h2⟩ := lp_inv (f := fun s => b_X11_game_188 (nI Z) L s.1 s.2)
    (fun x s => ∃ J, s = (nI x, J) ∧ TG I J ∧ (∀ y, y < x → J 252 y = val d dusk hr (i + 1) l (runS d dusk hr S l y)) ∧ ∀ y, x ≤ y → J 252 y = I 252 y)
    (fun x => ∃ J, x = J ∧ TG I J ∧ (∀ y, y < Z → J 252 y = val d dusk hr (i + 1) l (runS d dusk hr S l y))) Z
    (fun x s hx hP => by
      obtain ⟨K, rfl, hK, hv, hw⟩ := hP
      simp only [b_X11_game_188]
      rw [if_neg (nI_ge hx (by omega)), m_fold9 _ L (by omega), bd1_s, gi_n (by omega) (by omega), nm_s, nm_s, cl_n (by omega), nI_1]
      refine ⟨_, rfl, _, rfl, hK.tr (TG.up _ _ _), fun y hy => ?_, fun y hy => ?_⟩
      · by_cases e : y = x
        · subst e
          rw [up2_s, ← fold_run]
          exact accU_congr (fun m hm => accU_congr (fun m' hm' => by rw [hw _ (by omega), h _ (by omega)]))
        · rw [up2_n e]
          exact hv y (by omega)
      · rw [up2_n (by omega)]
        exact hw y (by omega))
    (fun s hP => by
      obtain ⟨K, rfl, hK, hv, _⟩ := hP
      simp only [b_X11_game_188]
      rw [if_pos (nI_le (Nat.le_refl _) (by omega))]
      exact ⟨_, rfl, K, rfl, hK, hv⟩)
    FU (show Z < 2000 by omega) ((0 : Int32), I) ⟨I, rfl, TG.rf I, fun y hy => absurd hy (by omega), fun _ _ => rfl⟩
  exact ⟨_, hx, h1, h2⟩
theorem m_levels {I : MI} {r : Nat} {d dusk hr : Int32} {S : S2} (L : ML) (hr4 : r < 4) (h : ∀ y, y < 9 ^ r → I 252 y = edgeS (runS d dusk hr S r y)) : ∃ J, lp (fun s => b_X11_game_180 L s.1 s.2) FU (nI (zz r 0), I) = some J ∧ TG I J ∧ J 252 0 = val d dusk hr r 0 S := by
  obtain ⟨x, hx, J, rfl, h1, h2⟩ := lp_inv (f := fun s => b_X11_game_180 L s.1 s.2)
    (fun i s => ∃ J, s = (nI (zz r i), J) ∧ TG I J ∧ ∀ y, y < ww r i → J 252 y = val d dusk hr i (r - i) (runS d dusk hr S (r - i) y))
    (fun x => ∃ J, x = J ∧ TG I J ∧ J 252 0 = val d dusk hr r 0 S) r
    (fun i s hi hP => by
      obtain ⟨K, rfl, hK, hv⟩ := hP
      obtain ⟨z1, z2, z3, z4⟩ := zz_p r hr4 i hi
      simp only [b_X11_game_180]
      rw [show r - i = (r - (i + 1)) + 1 by omega, z4] at hv
      obtain ⟨J, j1, j2, j3⟩ := m_level (Z := zz r i) L (by omega) (fun y hy => hv y (by omega))
      rw [if_neg (n_pos z1 (by omega)), j1, bd1_s, nm_s, show (9 : Int32) = nI 9 from rfl, pk_div (by omega) (by omega) (by omega), ← zz_s r hr4 i (by omega)]
      exact ⟨_, rfl, J, rfl, hK.tr j2, fun y hy => j3 y (by rw [z3] at hy; exact hy)⟩)
    (fun s hP => by
      obtain ⟨K, rfl, hK, hv⟩ := hP
      obtain ⟨z1, z2, _⟩ := zz_r r hr4
      simp only [b_X11_game_180]
      rw [z1, if_pos (by decide)]
      refine ⟨_, rfl, K, rfl, hK, ?_⟩
      have := hv 0 (by rw [z2]; omega)
      rw [Nat.sub_self] at this
      exact this)
    FU (show r < 2000 by omega) (nI (zz r 0), I) ⟨I, rfl, TG.rf I, fun y hy => by
      rw [(zz_r r hr4).2.2.2.2.1] at hy
      exact h y hy⟩
  exact ⟨_, hx, h1, h2⟩
theorem ok_game (a1 : Int32) (a2 : Int32) (a3 : Int32) {I : MI} {L : ML} (h : Inv I L) : ∃ (r : Int32) (I1 : MI) (I2 : MI), f_X10_game a1 a2 a3 I L = some (r, I1) ∧ f_X11_game a1 a2 a3 I1 L = some (r, I2) ∧ Inv I2 L := by
  obtain ⟨n, hW, hR⟩ := h.1
  have hn := hW.1
  have e1 := RW.n1 hW hR
  unfold f_X10_game f_X11_game f_X10_refusesTwo
  rw [s_within, bd1_s, if_b]
  have e3 : ∀ a : Int32, f_X11_in a.toInt64 (0 : Int64) (3 : Int64) = some (b01 ((0 : Int32) ≤ a ∧ a ≤ 3)) := fun a => s_in32 a 0 3
  simp only [e3, bd1_s, if_b]
  by_cases c1 : (0 : Int32) ≤ a3 ∧ a3 ≤ 3
  · simp only [if_pos c1]
    obtain ⟨r, _, hr3, rfl⟩ : ∃ N : Nat, 0 ≤ N ∧ N ≤ 3 ∧ a3 = nI N := by
      have z1 : (0 : Int32).toInt = 0 := rfl
      have z2 : (3 : Int32).toInt = 3 := rfl
      rw [fa_le, fa_le, z1, z2] at c1
      obtain ⟨k, h1, h2, h3⟩ := rg_n (x := a3) (a := 0) (b := 3) c1 (by omega)
      exact ⟨k, h1, h2, h3⟩
    rw [s_has a1 L hn hW.2.1, bd1_s, if_b, s_has a2 L hn hW.2.1, bd1_s, if_b]
    have refuse : ¬ ((0 ≤ a1 ∧ a1 < nI n) ∧ (0 ≤ a2 ∧ a2 < nI n) ∧ ¬ a1 = a2) → f_X11_areTwo a1 a2 I L = some 0 := fun hp => by
      rw [m_areTwo a1 a2 L hn e1, b01_f hp]
    rcases has_cases a1 hn with ⟨k, hk, rfl⟩ | hno
    · rw [if_pos (nI_sit hk hn)]
      rcases has_cases a2 hn with ⟨q, hq, rfl⟩ | hno
      · rw [if_pos (nI_sit hq hn)]
        by_cases c : k = q
        · subst c
          rw [if_pos rfl, bd1_s, if_neg (by decide)]
          refine ⟨-1, I, I, rfl, ?_, h⟩
          rw [refuse (fun z => z.2.2 rfl), bd1_s, if_pos rfl]
        · have cn : ¬ nI k = nI q := fun z => c ((nI_eq (by omega) (by omega)).mp z)
          have ct : (0 ≤ nI k ∧ nI k < nI n) ∧ (0 ≤ nI q ∧ nI q < nI n) ∧ ¬ nI k = nI q := ⟨nI_sit hk hn, nI_sit hq hn, cn⟩
          rw [if_neg cn, gi_n (by omega) (by omega), cl_n (by omega), s_sits, bd1_s, if_b, gi_n (by omega) (by omega), cl_n (by omega), s_sits, bd1_s, if_b]
          by_cases c3 : I (3 + 2 + k) 10 = -4
          · rw [if_pos c3]
            by_cases c4 : I (3 + 2 + q) 10 = -4
            · rw [if_pos c4, bd1_s, bd1_s, if_pos rfl, s_look, bd1_s, gi_n (by omega) (by omega), gi_n (by omega) (by omega)]
              obtain ⟨T, x1, x2⟩ := s_play (r := r) L h.2.2.2.1 hW hk hq hr3
              rw [x1, bd2_s]
              have kT : Kp I T := Kp.of x2.1
              obtain ⟨hW', hR'⟩ := kT.wall hW hR
              have s10 : T (3 + 2 + k) 10 = -4 := by rw [kT.1 _ (by omega)]; exact c3
              have s11 : T (3 + 2 + q) 10 = -4 := by rw [kT.1 _ (by omega)]; exact c4
              obtain ⟨J, q1, q2, q3⟩ := m_leaves (r := r) L hW' hR' hk hq c (by omega)
              have t3 : T 3 = I 3 := kT.1 _ (by omega)
              rw [t3, kT.1 (3 + 2 + k) (by omega), kT.1 (3 + 2 + q) (by omega)] at q3
              obtain ⟨J2, w1, w2, w3⟩ := m_levels (r := r) L (by omega) q3
              refine ⟨_, T, J2, rfl, ?_, h.keep ((kT.tr q2.Kp).tr w2.Kp) (w2.B (q2.B x2.2.1)) (fun _ _ => rfl) rfl⟩
              rw [m_areTwo _ _ L hn (RW.n1 hW' hR'), bd1_s, if_b, if_pos ct, m_down0 L (by omega), bd1_s, hR'.c10 hk s10, if_pos (show b01 ((0 : Int32) ≤ -1) = 0 by decide), m_down0 L (by omega), bd1_s, hR'.c10 hq s11, if_pos (show b01 ((0 : Int32) ≤ -1) = 0 by decide), (zz_r r (by omega)).2.2.2.2.2, bd1_s, q1, bd1_s, nm_s, (zz_r r (by omega)).2.2.1, w1, bd1_s, show gi (0 : Int32) 729 = gi (nI 0) 729 from rfl, gi_n (by omega) (by omega), show (0 : Int32).toNatClampNeg = 0 from rfl, w3]
            · rw [if_neg c4, bd1_s, bd1_s, if_neg (by decide)]
              refine ⟨-2, I, I, rfl, ?_, h⟩
              have := (hR.up hq c4).2
              rw [show 0 + 67 + q = 67 + q by omega] at this
              rw [m_areTwo _ _ L hn e1, bd1_s, if_b, if_pos ct, m_down0 L (by omega), bd1_s, hR.c10 hk c3, if_pos (show b01 ((0 : Int32) ≤ -1) = 0 by decide), m_down0 L (by omega), bd1_s, b01_t this, if_neg (by decide)]
          · rw [if_neg c3, bd1_s, bd1_s, if_neg (by decide)]
            refine ⟨-2, I, I, rfl, ?_, h⟩
            have := (hR.up hk c3).2
            rw [show 0 + 67 + k = 67 + k by omega] at this
            rw [m_areTwo _ _ L hn e1, bd1_s, if_b, if_pos ct, m_down0 L (by omega), bd1_s, b01_t this, if_neg (by decide)]
      · rw [if_neg hno, bd1_s, if_neg (by decide)]
        refine ⟨-1, I, I, rfl, ?_, h⟩
        rw [refuse (fun z => hno z.2.1), bd1_s, if_pos rfl]
    · rw [if_neg hno, bd1_s, if_neg (by decide)]
      refine ⟨-1, I, I, rfl, ?_, h⟩
      rw [refuse (fun z => hno z.1), bd1_s, if_pos rfl]
  · simp only [if_neg c1]
    refine ⟨-1, I, I, rfl, ?_, h⟩
    rw [m_areTwo a1 a2 L hn e1, bd1_s, if_b]
    exact ite_self _
