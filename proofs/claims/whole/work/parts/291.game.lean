/-! ===== game: the class's side ===== -/
def GS (I T : MI) : Prop := (∀ i, i < 207 ∨ 244 ≤ i → T i = I i) ∧ InvB T ∧ T 220 2 = 1 ∧ LK T (I 3 6) (I 3 2) (I 3 4)
theorem cp_o {K : MI} {a b i : Nat} (h : i ≠ a) : cpN K a b 0 11 i = K i := funext fun j => by
  unfold cpN
  rw [if_neg (fun q => h q.1)]
theorem cp_in {K : MI} {a b f : Nat} (h : f ≤ 10) : cpN K a b 0 11 a f = K b f := by
  unfold cpN
  rw [if_pos ⟨rfl, by omega, by omega⟩]
theorem news_up {K : MI} {B : Nat} (h : K B 10 = -4) : up2 K B 7 (2 : Int32) = va_up K B (newsR (K B)) := funext fun i => funext fun j => by
  rw [up2_at]
  by_cases c : i = B
  · subst c
    rw [vu_at]
    unfold newsR
    by_cases d : j = 7
    · rw [if_pos ⟨rfl, d⟩, if_pos ⟨h, d⟩]
    · rw [if_neg (fun q => d q.2), if_neg (fun q => d q.2)]
  · rw [if_neg (fun q => c q.1), vu_ne c]
theorem s_mvE {K : MI} {A B m : Nat} {S : S2} (L : ML) (X : MI → Option MI) (hm : m < 3) (kA : kd A = 6) (kB : kd B = 6) (hAB : A ≠ B) (c : m = 2 → K B 10 = -4) (a : Sm (K A) S.1) (b : Sm (K B) S.2) : ∃ G, bd1 (if nI m = (1 : Int32) then bd1 (some A) (fun y47 => gd (kd y47 = 6) (bd1 (f_X6_eatCrust y47 K L) (fun I51 => some I51))) else some K) (fun I15 => bd1 (if nI m = (2 : Int32) then bd1 (some B) (fun y40 => gd (kd y40 = 6) (nm (up2 I15 y40 7 (2 : Int32)) (fun I44 => some I44))) else some I15) X) = X G ∧ (∀ i, i ≠ A → i ≠ B → G i = K i) ∧ Sm (G A) (mvA m S).1 ∧ Sm (G B) (mvA m S).2 := by
  have hc : m = 0 ∨ m = 1 ∨ m = 2 := by omega
  rcases hc with rfl | rfl | rfl
  · refine ⟨K, ?_, fun _ _ _ => rfl, a, b⟩
    rw [if_neg (by decide), bd1_s, if_neg (by decide), bd1_s]
  · refine ⟨va_up K A (eatR (K A)), ?_, fun i h1 _ => vu_ne h1, ?_, ?_⟩
    · rw [if_pos (by decide), bd1_s, gd_t kA, s_eat, bd1_s, bd1_s, if_neg (by decide), bd1_s]
    · rw [vu_at]
      exact a.eat
    · rw [vu_ne (Ne.symm hAB)]
      exact b
  · refine ⟨va_up K B (newsR (K B)), ?_, fun i _ h2 => vu_ne h2, ?_, ?_⟩
    · rw [if_neg (by decide), bd1_s, if_pos (by decide), bd1_s, gd_t kB, nm_s, bd1_s, news_up (c rfl)]
    · rw [vu_ne hAB]
      exact a
    · rw [vu_at]
      exact b.news
theorem mvB_sw (m : Nat) (S : S2) : mvB m S = ((mvA m (S.2, S.1)).2, (mvA m (S.2, S.1)).1) := by
  unfold mvA mvB
  by_cases c : m = 1
  · rw [if_pos c, if_pos c]
  · rw [if_neg c, if_neg c]
    by_cases d : m = 2
    · rw [if_pos d, if_pos d]
    · rw [if_neg d, if_neg d]
theorem gm_par : ∀ t, t < 7 → ((nI t - nI t / (2 : Int32) * (2 : Int32) = 0) ↔ t % 2 = 0) := by decide
theorem gm_half : ∀ t, t < 7 → nI t / (2 : Int32) = nI (t / 2) := by decide
theorem gm_kd : ∀ t, t < 7 → kd (223 + 2 * t) = 6 ∧ kd (224 + 2 * t) = 6 := by decide
theorem mvA_9 (m : Nat) (S : S2) : (mvA m S).1 9 = S.1 9 ∧ (mvA m S).2 9 = S.2 9 := by
  unfold mvA
  by_cases c : m = 1
  · rw [if_pos c]
    exact ⟨meal_9 true S.1 (by omega) (by omega), rfl⟩
  · rw [if_neg c]
    by_cases d : m = 2
    · rw [if_pos d]
      exact ⟨rfl, news_9 _ (by omega)⟩
    · rw [if_neg d]
      exact ⟨rfl, rfl⟩
theorem hmv_9 (d dusk hr : Int32) (t m : Nat) (S : S2) : (hmv d dusk hr t m S).1 9 = S.1 9 ∧ (hmv d dusk hr t m S).2 9 = S.2 9 := by
  unfold hmv
  by_cases c : t % 2 = 0
  · rw [if_pos c]
    exact mvA_9 m S
  · rw [if_neg c]
    have := mvA_9 m (S.2, S.1)
    unfold hrS
    dsimp only
    rw [pass_9 _ _ _ _ (by omega) (by omega), pass_9 _ _ _ _ (by omega) (by omega), mvB_sw]
    exact ⟨this.2, this.1⟩
theorem s_playMove {I T : MI} {S : S2} {t m : Nat} (L : ML) (hT : GS I T) (ht : t < 6) (hm : m < 3) (a : Sm (T (223 + 2 * t)) S.1) (b : Sm (T (224 + 2 * t)) S.2) (hal : m = 2 → (t % 2 = 0 → T (224 + 2 * t) 10 = -4) ∧ (¬ t % 2 = 0 → T (223 + 2 * t) 10 = -4)) : ∃ T', f_X4_playMove (nI t) (nI m) T L = some T' ∧ GS I T' ∧ (∀ i, i ≠ 223 + 2 * (t + 1) → i ≠ 224 + 2 * (t + 1) → T' i = T i) ∧ Sm (T' (223 + 2 * (t + 1))) (hmv (I 3 6) (I 3 2) (I 3 4) t m S).1 ∧ Sm (T' (224 + 2 * (t + 1))) (hmv (I 3 6) (I 3 2) (I 3 4) t m S).2 := by
  obtain ⟨g1, g2, g3, g4⟩ := hT
  have k1 := gm_kd t (by omega)
  have k2 := gm_kd (t + 1) (by omega)
  have key : ∃ T', f_X4_playMove (nI t) (nI m) T L = some T' ∧ (∀ i, i ≠ 223 + 2 * (t + 1) → i ≠ 224 + 2 * (t + 1) → T' i = T i) ∧ Sm (T' (223 + 2 * (t + 1))) (hmv (I 3 6) (I 3 2) (I 3 4) t m S).1 ∧ Sm (T' (224 + 2 * (t + 1))) (hmv (I 3 6) (I 3 2) (I 3 4) t m S).2 := by
    unfold f_X4_playMove
    have q1 : (0 : Int32) ≤ nI t ∧ nI t ≤ (5 : Int32) := ⟨nI_pos' (by omega), nI_le (b := 5) (by omega) (by omega)⟩
    rw [s_within, bd1_s, if_b, if_pos q1]
    simp only [nI_1, gi_n (show t + 1 < 7 by omega) (show 7 < 2 ^ 31 by omega), gi_n (show t < 7 by omega) (show 7 < 2 ^ 31 by omega), cl_n (show t + 1 < 2 ^ 31 by omega), cl_n (show t < 2 ^ 31 by omega)]
    rw [s6_take L (by omega) (g2 _ k1.1), bd1_s, s6_take L (by omega) (by rw [cp_o (by omega)]; exact g2 _ k1.2), bd1_s]
    have f1 : ∀ i, i ≠ 223 + 2 * (t + 1) → i ≠ 224 + 2 * (t + 1) → cpN (cpN T (223 + 2 * (t + 1)) (223 + 2 * t) 0 11) (224 + 2 * (t + 1)) (224 + 2 * t) 0 11 i = T i := fun i h1 h2 => by rw [cp_o h2, cp_o h1]
    have f2 : Sm (cpN (cpN T (223 + 2 * (t + 1)) (223 + 2 * t) 0 11) (224 + 2 * (t + 1)) (224 + 2 * t) 0 11 (223 + 2 * (t + 1))) (T (223 + 2 * t)) := Sm.of (fun f hf => by rw [cp_o (by omega), cp_in hf])
    have f3 : Sm (cpN (cpN T (223 + 2 * (t + 1)) (223 + 2 * t) 0 11) (224 + 2 * (t + 1)) (224 + 2 * t) 0 11 (224 + 2 * (t + 1))) (T (224 + 2 * t)) := Sm.of (fun f hf => by rw [cp_in hf, cp_o (by omega)])
    generalize cpN (cpN T (223 + 2 * (t + 1)) (223 + 2 * t) 0 11) (224 + 2 * (t + 1)) (224 + 2 * t) 0 11 = K at f1 f2 f3
    by_cases c : t % 2 = 0
    · rw [if_pos ((gm_par t (by omega)).mpr c), bd1_s]
      simp only [show ¬ (1 : Int32) = 0 by decide, if_false]
      obtain ⟨G, e1, e2, e3, e4⟩ := s_mvE (K := K) (S := S) (A := 223 + 2 * (t + 1)) (B := 224 + 2 * (t + 1)) L (fun I18 => bd1 (some I18) (fun I21 => some I21)) hm k2.1 k2.2 (by omega) (fun q => f3.2.mpr ((hal q).1 c)) (f2.tr a) (f3.tr b)
      refine ⟨G, e1, fun i h1 h2 => (e2 i h1 h2).trans (f1 i h1 h2), ?_, ?_⟩
      · unfold hmv
        rw [if_pos c]
        exact e3
      · unfold hmv
        rw [if_pos c]
        exact e4
    · rw [if_neg (fun q => c ((gm_par t (by omega)).mp q)), bd1_s]
      simp only [if_true]
      obtain ⟨G, e1, e2, e3, e4⟩ := s_mvE (K := K) (S := (S.2, S.1)) (A := 224 + 2 * (t + 1)) (B := 223 + 2 * (t + 1)) L (fun I18 => bd1 (if I18 220 2 = 0 then some I18 else nm (nI t / (2 : Int32)) (fun x26 => gd (¬ I18 220 2 = 0) (gi x26 60 (gd (¬ I18 220 2 = 0) (gi x26 60 (bd1 (f_X6_passHour (223 + 2 * (t + 1)) (I18 208 x26.toNatClampNeg) (I18 209 x26.toNatClampNeg) x26 I18 L) (fun I31 => gd (¬ I31 220 2 = 0) (gi x26 60 (gd (¬ I31 220 2 = 0) (gi x26 60 (bd1 (f_X6_passHour (224 + 2 * (t + 1)) (I31 208 x26.toNatClampNeg) (I31 209 x26.toNatClampNeg) x26 I31 L) (fun I37 => some I37)))))))))))) (fun I21 => some I21)) hm k2.2 k2.1 (by omega) (fun q => f2.2.mpr ((hal q).2 c)) (f3.tr b) (f2.tr a)
      rw [e1]
      have h220 : ¬ G 220 2 = 0 := by
        rw [e2 _ (by omega) (by omega), f1 _ (by omega) (by omega), g3]
        decide
      have h8 : G 208 (t / 2) = skN (I 3 6) (t / 2) := by rw [e2 _ (by omega) (by omega), f1 _ (by omega) (by omega)]; exact (g4 _ (by omega)).1
      have h9 : G 209 (t / 2) = ngN (I 3 2) (I 3 4) (t / 2) := by rw [e2 _ (by omega) (by omega), f1 _ (by omega) (by omega)]; exact (g4 _ (by omega)).2
      rw [if_neg h220, nm_s, gm_half t (by omega), gd_t h220, gi_n (by omega) (by omega), gd_t h220, gi_n (by omega) (by omega), cl_n (by omega), s_pass, bd1_s, h8, h9]
      rw [vu_ne (show 220 ≠ 223 + 2 * (t + 1) by omega), vu_ne (show 208 ≠ 223 + 2 * (t + 1) by omega), vu_ne (show 209 ≠ 223 + 2 * (t + 1) by omega), gd_t h220, gi_n (by omega) (by omega), gd_t h220, gi_n (by omega) (by omega), s_pass, bd1_s, bd1_s, h8, h9, vu_ne (show 224 + 2 * (t + 1) ≠ 223 + 2 * (t + 1) by omega)]
      have p0 : 0 ≤ (nI (t / 2)).toInt := by rw [nI_bd (by omega)]; omega
      refine ⟨_, rfl, fun i h1 h2 => ?_, ?_, ?_⟩
      · rw [vu_ne h2, vu_ne h1, e2 i h2 h1, f1 i h1 h2]
      · unfold hmv hrS
        rw [if_neg c, vu_ne (show 223 + 2 * (t + 1) ≠ 224 + 2 * (t + 1) by omega), vu_at, mvB_sw]
        exact Sm.pass e4 _ _ p0 (by decide)
      · unfold hmv hrS
        rw [if_neg c, vu_at, mvB_sw]
        exact Sm.pass e3 _ _ p0 (by decide)
  obtain ⟨T', x1, x2, x3, x4⟩ := key
  have x9 := hmv_9 (I 3 6) (I 3 2) (I 3 4) t m S
  refine ⟨T', x1, ⟨fun i hi => (x2 i (by omega) (by omega)).trans (g1 i hi), fun i hi => ?_, by rw [x2 _ (by omega) (by omega)]; exact g3, fun u hu => by rw [x2 _ (by omega) (by omega), x2 _ (by omega) (by omega)]; exact g4 u hu⟩, x2, x3, x4⟩
  by_cases c1 : i = 223 + 2 * (t + 1)
  · subst c1
    rw [x3.1 9 (by omega), x9.1, ← a.1 9 (by omega)]
    exact g2 _ k1.1
  · by_cases c2 : i = 224 + 2 * (t + 1)
    · subst c2
      rw [x4.1 9 (by omega), x9.2, ← b.1 9 (by omega)]
      exact g2 _ k1.2
    · rw [x2 i c1 c2]
      exact g2 i hi
theorem s_allow {T : MI} {S : S2} {t m : Nat} (d dusk hr : Int32) (L : ML) (ht : t < 6) (hm : m < 3) (a : Sm (T (223 + 2 * t)) S.1) (b : Sm (T (224 + 2 * t)) S.2) : ∃ r, f_X4_isAllowed (nI t) (nI m) T L = some r ∧ (r = 0 → 1 ≤ m ∧ hmv d dusk hr t m S = hmv d dusk hr t 0 S) ∧ (¬ r = 0 → m = 2 → (t % 2 = 0 → T (224 + 2 * t) 10 = -4) ∧ (¬ t % 2 = 0 → T (223 + 2 * t) 10 = -4)) := by
  have k1 := gm_kd t (by omega)
  unfold f_X4_isAllowed
  have q1 : (0 : Int32) ≤ nI t ∧ nI t ≤ (5 : Int32) := ⟨nI_pos' (by omega), nI_le (b := 5) (by omega) (by omega)⟩
  rw [s_within, bd1_s, if_b, if_pos q1]
  simp only [gi_n (show t < 7 by omega) (show 7 < 2 ^ 31 by omega), cl_n (show t < 2 ^ 31 by omega)]
  have hc : m = 0 ∨ m = 1 ∨ m = 2 := by omega
  by_cases c : t % 2 = 0
  · rw [if_pos ((gm_par t (by omega)).mpr c), bd1_s]
    simp only [show ¬ (1 : Int32) = 0 by decide, if_false]
    rw [bd1_s, gd_t k1.1, bd1_s, gd_t k1.2]
    rcases hc with rfl | rfl | rfl
    · rw [if_neg (by decide), if_neg (by decide), bd1_s, gd_t (Or.inr rfl)]
      exact ⟨1, rfl, fun q => absurd q (by decide), fun _ q => absurd q (by decide)⟩
    · rw [if_pos (by decide), s_canEat, bd1_s, gd_b]
      refine ⟨_, rfl, fun q => ⟨by omega, ?_⟩, fun _ q => absurd q (by decide)⟩
      rw [b01_0, a.1 6 (by omega), a.2] at q
      unfold hmv mvA
      rw [if_pos c, if_pos c, if_pos rfl, if_neg (by decide), if_neg (by decide), eat_none q]
    · rw [if_neg (by decide), if_pos (by decide), s_sits, bd1_s, if_b, some_if, bd1_s, if_10, gd_b]
      refine ⟨_, rfl, fun q => ⟨by omega, ?_⟩, fun q _ => ⟨fun _ => ?_, fun q => absurd c q⟩⟩
      · rw [b01_0, b.2] at q
        unfold hmv mvA
        rw [if_pos c, if_pos c, if_neg (by decide), if_pos rfl, if_neg (by decide), if_neg (by decide), news_down q]
      · rw [b01_0] at q
        exact Classical.byContradiction q
  · rw [if_neg (fun q => c ((gm_par t (by omega)).mp q)), bd1_s]
    simp only [if_true]
    rw [bd1_s, gd_t k1.2, bd1_s, gd_t k1.1]
    rcases hc with rfl | rfl | rfl
    · rw [if_neg (by decide), if_neg (by decide), bd1_s, gd_t (Or.inr rfl)]
      exact ⟨1, rfl, fun q => absurd q (by decide), fun _ q => absurd q (by decide)⟩
    · rw [if_pos (by decide), s_canEat, bd1_s, gd_b]
      refine ⟨_, rfl, fun q => ⟨by omega, ?_⟩, fun _ q => absurd q (by decide)⟩
      rw [b01_0, b.1 6 (by omega), b.2] at q
      unfold hmv mvB
      rw [if_neg c, if_neg c, if_pos rfl, if_neg (by decide), if_neg (by decide), eat_none q]
    · rw [if_neg (by decide), if_pos (by decide), s_sits, bd1_s, if_b, some_if, bd1_s, if_10, gd_b]
      refine ⟨_, rfl, fun q => ⟨by omega, ?_⟩, fun q _ => ⟨fun q => absurd q c, fun _ => ?_⟩⟩
      · rw [b01_0, a.2] at q
        unfold hmv mvB
        rw [if_neg c, if_neg c, if_neg (by decide), if_pos rfl, if_neg (by decide), if_neg (by decide), news_down q]
      · rw [b01_0] at q
        exact Classical.byContradiction q
theorem s_edgeFrom {I : MI} (L : ML) {M : Nat} (hM : M ≤ 6) : ∀ (j t F : Nat), t + j = M → j < F → ∀ (T : MI) (S : S2), GS I T → Sm (T (223 + 2 * t)) S.1 → Sm (T (224 + 2 * t)) S.2 → ∃ T', f_X4_edgeFrom F (nI t) (nI M) T L = some (hval (I 3 6) (I 3 2) (I 3 4) j t S, T') ∧ GS I T' ∧ ∀ i, i < 225 + 2 * t → T' i = T i := by
  intro j
  induction j with
  | zero =>
    intro t F hj hF T S hT a b
    obtain ⟨F, rfl⟩ : ∃ F', F = F' + 1 := ⟨F - 1, by omega⟩
    refine ⟨T, ?_, hT, fun _ _ => rfl⟩
    simp only [f_X4_edgeFrom]
    rw [if_neg (nI_nlt (by omega) (by omega))]
    unfold f_X4_edgeAt
    have q1 : (0 : Int32) ≤ nI t ∧ nI t ≤ (6 : Int32) := ⟨nI_pos' (by omega), nI_le (b := 6) (by omega) (by omega)⟩
    rw [s_within, bd1_s, if_b, if_pos q1, gi_n (by omega) (by omega), gi_n (by omega) (by omega), bd1_s, cl_n (by omega), a.edge b]
    rfl
  | succ j ih =>
    intro t F hj hF T S hT a b
    obtain ⟨F, rfl⟩ : ∃ F', F = F' + 1 := ⟨F - 1, by omega⟩
    simp only [f_X4_edgeFrom]
    rw [if_pos (nI_lt (by omega) (by omega))]
    obtain ⟨y2, hy, hy0⟩ : ∃ y2 : Int32, (if (nI t - nI t / (2 : Int32) * (2 : Int32)) = 0 then some (1 : Int32) else some (0 : Int32)) = some y2 ∧ (y2 = 0 ↔ ¬ t % 2 = 0) := by
      by_cases c : t % 2 = 0
      · exact ⟨1, by rw [if_pos ((gm_par t (by omega)).mpr c)], ⟨fun q => absurd q (by decide), fun q => absurd c q⟩⟩
      · exact ⟨0, by rw [if_neg (fun q => c ((gm_par t (by omega)).mp q))], ⟨fun _ => c, fun _ => rfl⟩⟩
    rw [hy, bd1_s]
    have hi : (if y2 = 0 then some (1000000 : Int32) else some (-1000000 : Int32)) = some (accU (decide (t % 2 = 0)) (fun m => hval (I 3 6) (I 3 2) (I 3 4) j (t + 1) (hmv (I 3 6) (I 3 2) (I 3 4) t m S)) 0) := by
      by_cases c : t % 2 = 0
      · rw [if_neg (fun q => hy0.mp q c), decide_eq_true c]
        rfl
      · rw [if_pos (hy0.mpr c), decide_eq_false c]
        rfl
    rw [hi, bd1_s]
    obtain ⟨x, hx, T', rfl, h1, h2⟩ := lp_inv (f := fun s => b_X4_edgeFrom_39 (f_X4_edgeFrom F) (nI t) (nI M) y2 L s.1 s.2.1 s.2.2)
      (fun m s => ∃ K, s = (accU (decide (t % 2 = 0)) (fun m => hval (I 3 6) (I 3 2) (I 3 4) j (t + 1) (hmv (I 3 6) (I 3 2) (I 3 4) t m S)) m, nI m, K) ∧ GS I K ∧ (∀ i, i < 225 + 2 * t → K i = T i))
      (fun x => ∃ K, x = (hval (I 3 6) (I 3 2) (I 3 4) (j + 1) t S, K) ∧ GS I K ∧ (∀ i, i < 225 + 2 * t → K i = T i)) 3
      (fun m s hm hP => by
        obtain ⟨K, rfl, hK, hKT⟩ := hP
        simp only [b_X4_edgeFrom_39]
        have a' : Sm (K (223 + 2 * t)) S.1 := by rw [hKT _ (by omega)]; exact a
        have b' : Sm (K (224 + 2 * t)) S.2 := by rw [hKT _ (by omega)]; exact b
        obtain ⟨r, r1, r2, r3⟩ := s_allow (m := m) (I 3 6) (I 3 2) (I 3 4) L (show t < 6 by omega) hm a' b'
        rw [if_neg (show ¬ (3 : Int32) ≤ nI m from nI_ge (b := 3) hm (by omega)), r1, bd1_s]
        by_cases c : r = 0
        · obtain ⟨m1, m2⟩ := r2 c
          rw [if_pos c, bd2_s, nm_s, nI_1]
          refine ⟨_, rfl, K, ?_, hK, hKT⟩
          rw [accU_keep _ _ m1 hm (congrArg (hval (I 3 6) (I 3 2) (I 3 4) j (t + 1)) m2)]
        · rw [if_neg c]
          obtain ⟨T1, p1, p2, p3, p4, p5⟩ := s_playMove L hK (show t < 6 by omega) hm a' b' (r3 c)
          obtain ⟨T2, w1, w2, w3⟩ := ih (t + 1) F (by omega) (by omega) T1 _ p2 p4 p5
          rw [p1, bd1_s, nI_1, w1, bd2_s, some_if, bd1_s, bd2_s, nm_s, nI_1]
          refine ⟨_, rfl, T2, ?_, w2, fun i hi => by rw [w3 i (by omega), p3 i (by omega) (by omega)]; exact hKT i hi⟩
          refine congrArg (fun z => (z, nI (m + 1), T2)) ?_
          show _ = if decide (t % 2 = 0) = true then mmax _ _ else mmin _ _
          by_cases c : t % 2 = 0
          · rw [if_neg (fun q => hy0.mp q c), if_pos (decide_eq_true c)]
          · rw [if_pos (hy0.mpr c), if_neg (fun q => c (of_decide_eq_true q))])
      (fun s hP => by
        obtain ⟨K, rfl, hK, hKT⟩ := hP
        simp only [b_X4_edgeFrom_39]
        rw [if_pos (by decide)]
        exact ⟨_, rfl, K, rfl, hK, hKT⟩)
      FU (show 3 < 2000 by omega) (accU (decide (t % 2 = 0)) (fun m => hval (I 3 6) (I 3 2) (I 3 4) j (t + 1) (hmv (I 3 6) (I 3 2) (I 3 4) t m S)) 0, (0 : Int32), T) ⟨T, rfl, hT, fun _ _ => rfl⟩
    rw [hx, bd2_s]
    exact ⟨T', rfl, h1, h2⟩
theorem s_play {I : MI} {n k q r : Nat} (L : ML) (hB : InvB I) (hW : okW I 3 n) (hk : k < n) (hq : q < n) (hr : r ≤ 3) : ∃ T', f_X4_play (3 + 2 + k) (3 + 2 + q) (nI r) (lkF I) L = some (val (I 3 6) (I 3 2) (I 3 4) r 0 (I (3 + 2 + k), I (3 + 2 + q)), T') ∧ GS I T' := by
  have hn := hW.1
  unfold f_X4_play
  rw [nm_s, show gi (0 : Int32) 7 = gi (nI 0) 7 from rfl, gi_n (by omega) (by omega), show (223 + 2 * (0 : Int32).toNatClampNeg) = 223 from rfl, show (224 + 2 * (0 : Int32).toNatClampNeg) = 224 from rfl]
  have b1 : ∀ p, p < n → I (3 + 2 + p) 9 = 0 ∨ I (3 + 2 + p) 9 = 1 := fun p hp => e01 (hW.2.2.2.2.2.2.2.2 p hp).2.2.2.2.2.2.2.2.2.1
  have e0 : ∀ p, p < n → up2 (lkF I) 220 2 1 (3 + 2 + p) = I (3 + 2 + p) := fun p hp => by rw [up2_ne (by omega), lk_o (by omega)]
  rw [s6_take L (by omega) (by rw [e0 k hk]; exact b1 k hk), bd1_s, gi_n (by omega) (by omega), s6_take L (by omega) (by rw [cp_o (by omega), e0 q hq]; exact b1 q hq), bd1_s]
  have f1 : ∀ i, i ≠ 223 → i ≠ 224 → cpN (cpN (up2 (lkF I) 220 2 1) 223 (3 + 2 + k) 0 11) 224 (3 + 2 + q) 0 11 i = up2 (lkF I) 220 2 1 i := fun i h1 h2 => by rw [cp_o h2, cp_o h1]
  have f2 : Sm (cpN (cpN (up2 (lkF I) 220 2 1) 223 (3 + 2 + k) 0 11) 224 (3 + 2 + q) 0 11 (223 + 2 * 0)) (I (3 + 2 + k)) := Sm.of (fun f hf => by rw [show 223 + 2 * 0 = 223 from rfl, cp_o (by omega), cp_in hf, e0 k hk])
  have f3 : Sm (cpN (cpN (up2 (lkF I) 220 2 1) 223 (3 + 2 + k) 0 11) 224 (3 + 2 + q) 0 11 (224 + 2 * 0)) (I (3 + 2 + q)) := Sm.of (fun f hf => by rw [show 224 + 2 * 0 = 224 from rfl, cp_in hf, cp_o (by omega), e0 q hq])
  generalize cpN (cpN (up2 (lkF I) 220 2 1) 223 (3 + 2 + k) 0 11) 224 (3 + 2 + q) 0 11 = K at f1 f2 f3
  have hK : GS I K := by
    refine ⟨fun i hi => by rw [f1 i (by omega) (by omega), up2_ne (by omega), lk_o (by omega)], fun i hi => ?_, by rw [f1 _ (by omega) (by omega), up2_s], fun u hu => by rw [f1 _ (by omega) (by omega), f1 _ (by omega) (by omega), up2_ne (by omega), up2_ne (by omega)]; exact lk_LK I u hu⟩
    by_cases c1 : i = 223
    · subst c1
      rw [show K 223 9 = I (3 + 2 + k) 9 from f2.1 9 (by omega)]
      exact b1 k hk
    · by_cases c2 : i = 224
      · subst c2
        rw [show K 224 9 = I (3 + 2 + q) 9 from f3.1 9 (by omega)]
        exact b1 q hq
      · rw [f1 i c1 c2, up2_ne (fun z => by rw [z] at hi; exact absurd hi (by decide))]
        exact lk_B hB i hi
  have em : mmin ((2 : Int32) * nI r) (6 : Int32) = nI (2 * r) := by
    have : ∀ r, r < 4 → mmin ((2 : Int32) * nI r) (6 : Int32) = nI (2 * r) := by decide
    exact this r (by omega)
  obtain ⟨T', w1, w2, _⟩ := s_edgeFrom (I := I) L (show 2 * r ≤ 6 by omega) (2 * r) 0 8 (by omega) (by omega) K (I (3 + 2 + k), I (3 + 2 + q)) hK f2 f3
  rw [em, show (0 : Int32) = nI 0 from rfl, w1, bd2_s]
  exact ⟨T', by rw [show 0 = 2 * 0 from rfl, hval_val], w2⟩
