/-! ===== odds in lowest terms ===== -/
theorem V_le {ga gb : Nat → Nat → Nat} {LA LB p : Nat} (hp : p ≤ 10) : ∀ n t xa xb, VN ga gb LA LB p n t xa xb ≤ 10 ^ n
  | 0, _, _, _ => Nat.zero_le _
  | n + 1, t, xa, xb => by
    have key : ∀ y, (if xa + ga y t < LA then (if xb + gb y t < LB then VN ga gb LA LB p n (t + 1) (xa + ga y t) (xb + gb y t) else 10 ^ n) else 0) ≤ 10 ^ n := fun y => by
      by_cases c1 : xa + ga y t < LA
      · rw [if_pos c1]
        by_cases c2 : xb + gb y t < LB
        · rw [if_pos c2]; exact V_le hp n _ _ _
        · rw [if_neg c2]; exact Nat.le_refl _
      · rw [if_neg c1]; exact Nat.zero_le _
    have h0 := Nat.mul_le_mul_left (wgt p 0) (key 0)
    have h1 := Nat.mul_le_mul_left (wgt p 1) (key 1)
    have hw : wgt p 0 + wgt p 1 = 10 := by
      unfold wgt
      rw [if_neg (by decide), if_pos rfl]
      omega
    have e : 10 ^ (n + 1) = wgt p 0 * 10 ^ n + wgt p 1 * 10 ^ n := by rw [← Nat.add_mul, hw, Nat.pow_succ, Nat.mul_comm]
    rw [e]
    exact Nat.add_le_add h0 h1
def r2 (x : Nat × Nat) : Nat × Nat := if x.1 % 2 = 0 ∧ x.2 % 2 = 0 then (x.1 / 2, x.2 / 2) else x
def r5 (x : Nat × Nat) : Nat × Nat := if x.1 % 5 = 0 ∧ x.2 % 5 = 0 then (x.1 / 5, x.2 / 5) else x
def lowN (x : Nat × Nat) : Nat → Nat × Nat
  | 0 => x
  | k + 1 => r5 (r2 (lowN x k))
/-- what holds while it is lowered -/
def LI (w d m m' : Nat) (x : Nat × Nat) : Prop := ∃ c i j, 0 < c ∧ x.1 * c = w ∧ x.2 * c = d ∧ x.2 = 2 ^ i * 5 ^ j ∧ (i ≤ m ∨ x.1 % 2 = 1) ∧ (j ≤ m' ∨ x.1 % 5 ≠ 0)
theorem p5_odd : ∀ j, 5 ^ j % 2 = 1
  | 0 => rfl
  | j + 1 => by rw [Nat.pow_succ]; have := p5_odd j; omega
theorem p2_5 : ∀ i, 2 ^ i % 5 ≠ 0
  | 0 => by decide
  | i + 1 => by rw [Nat.pow_succ]; have := p2_5 i; omega
theorem LI.two {w d m m' : Nat} {x : Nat × Nat} (h : LI w d (m + 1) m' x) : LI w d m m' (r2 x) := by
  obtain ⟨c, i, j, hc, h1, h2, h3, h4, h5⟩ := h
  unfold r2
  by_cases q : x.1 % 2 = 0 ∧ x.2 % 2 = 0
  · rw [if_pos q]
    have hi : i ≠ 0 := fun z => by
      rw [z, Nat.pow_zero, Nat.one_mul] at h3
      have := p5_odd j
      omega
    obtain ⟨i, rfl⟩ : ∃ i', i = i' + 1 := ⟨i - 1, by omega⟩
    have e1 : x.1 = 2 * (x.1 / 2) := by omega
    have e2 : x.2 = 2 * (x.2 / 2) := by omega
    refine ⟨2 * c, i, j, by omega, ?_, ?_, ?_, ?_, ?_⟩
    · show x.1 / 2 * (2 * c) = w
      rw [← h1, ← Nat.mul_assoc, Nat.mul_comm (x.1 / 2) 2, ← e1]
    · show x.2 / 2 * (2 * c) = d
      rw [← h2, ← Nat.mul_assoc, Nat.mul_comm (x.2 / 2) 2, ← e2]
    · show x.2 / 2 = 2 ^ i * 5 ^ j
      rw [h3, Nat.pow_succ, Nat.mul_comm (2 ^ i) 2, Nat.mul_assoc]
      exact Nat.mul_div_cancel_left _ (by omega)
    · rcases h4 with z | z
      · exact Or.inl (by omega)
      · omega
    · rcases h5 with z | z
      · exact Or.inl z
      · refine Or.inr ?_
        show x.1 / 2 % 5 ≠ 0
        omega
  · rw [if_neg q]
    refine ⟨c, i, j, hc, h1, h2, h3, ?_, h5⟩
    by_cases z : x.1 % 2 = 1
    · exact Or.inr z
    · refine Or.inl ?_
      have h2' : x.2 % 2 ≠ 0 := fun y => q ⟨by omega, y⟩
      rcases Nat.eq_zero_or_pos i with e | e
      · omega
      · exfalso
        apply h2'
        obtain ⟨i, rfl⟩ : ∃ i', i = i' + 1 := ⟨i - 1, by omega⟩
        rw [h3, Nat.pow_succ, Nat.mul_comm (2 ^ i) 2, Nat.mul_assoc]
        exact Nat.mul_mod_right _ _
theorem LI.five {w d m m' : Nat} {x : Nat × Nat} (h : LI w d m (m' + 1) x) : LI w d m m' (r5 x) := by
  obtain ⟨c, i, j, hc, h1, h2, h3, h4, h5⟩ := h
  unfold r5
  by_cases q : x.1 % 5 = 0 ∧ x.2 % 5 = 0
  · rw [if_pos q]
    have hj : j ≠ 0 := fun z => by
      rw [z, Nat.pow_zero, Nat.mul_one] at h3
      have := p2_5 i
      omega
    obtain ⟨j, rfl⟩ : ∃ j', j = j' + 1 := ⟨j - 1, by omega⟩
    have e1 : x.1 = 5 * (x.1 / 5) := by omega
    have e2 : x.2 = 5 * (x.2 / 5) := by omega
    refine ⟨5 * c, i, j, by omega, ?_, ?_, ?_, ?_, ?_⟩
    · show x.1 / 5 * (5 * c) = w
      rw [← h1, ← Nat.mul_assoc, Nat.mul_comm (x.1 / 5) 5, ← e1]
    · show x.2 / 5 * (5 * c) = d
      rw [← h2, ← Nat.mul_assoc, Nat.mul_comm (x.2 / 5) 5, ← e2]
    · show x.2 / 5 = 2 ^ i * 5 ^ j
      rw [h3, Nat.pow_succ, ← Nat.mul_assoc]
      exact Nat.mul_div_cancel _ (by omega)
    · rcases h4 with z | z
      · exact Or.inl z
      · refine Or.inr ?_
        show x.1 / 5 % 2 = 1
        omega
    · rcases h5 with z | z
      · exact Or.inl (by omega)
      · omega
  · rw [if_neg q]
    refine ⟨c, i, j, hc, h1, h2, h3, h4, ?_⟩
    by_cases z : x.1 % 5 = 0
    · refine Or.inl ?_
      have h2' : x.2 % 5 ≠ 0 := fun y => q ⟨z, y⟩
      rcases Nat.eq_zero_or_pos j with e | e
      · omega
      · exfalso
        apply h2'
        obtain ⟨j, rfl⟩ : ∃ j', j = j' + 1 := ⟨j - 1, by omega⟩
        rw [h3, Nat.pow_succ, ← Nat.mul_assoc]
        exact Nat.mul_mod_left _ _
    · exact Or.inr z
theorem low_LI {w N : Nat} : ∀ k, k ≤ N → LI w (10 ^ N) (N - k) (N - k) (lowN (w, 10 ^ N) k)
  | 0, _ => ⟨1, N, N, by omega, Nat.mul_one _, Nat.mul_one _, by rw [← Nat.mul_pow]; rfl, Or.inl (by omega), Or.inl (by omega)⟩
  | k + 1, h => by
    have := low_LI (w := w) (N := N) k (by omega)
    rw [show N - k = (N - (k + 1)) + 1 by omega] at this
    exact this.two.five
theorem low_gcd {w N : Nat} : (lowN (w, 10 ^ N) N).1 = w / Nat.gcd w (10 ^ N) ∧ (lowN (w, 10 ^ N) N).2 = 10 ^ N / Nat.gcd w (10 ^ N) ∧ 0 < Nat.gcd w (10 ^ N) := by
  have h := low_LI (w := w) (N := N) N (Nat.le_refl _)
  rw [Nat.sub_self] at h
  generalize lowN (w, 10 ^ N) N = x at h
  obtain ⟨c, i, j, hc, h1, h2, h3, h4, h5⟩ := h
  have cop : Nat.gcd x.1 x.2 = 1 := by
    rw [h3]
    have c2 : Nat.Coprime x.1 (2 ^ i) := by
      rcases h4 with z | z
      · rw [show i = 0 by omega]
        exact Nat.coprime_one_right _
      · refine Nat.Coprime.pow_right i ?_
        show Nat.gcd x.1 2 = 1
        rw [Nat.gcd_comm, Nat.gcd_rec, z]
        decide
    have c5 : Nat.Coprime x.1 (5 ^ j) := by
      rcases h5 with z | z
      · rw [show j = 0 by omega]
        exact Nat.coprime_one_right _
      · refine Nat.Coprime.pow_right j ?_
        show Nat.gcd x.1 5 = 1
        rw [Nat.gcd_comm, Nat.gcd_rec]
        rcases (show x.1 % 5 = 1 ∨ x.1 % 5 = 2 ∨ x.1 % 5 = 3 ∨ x.1 % 5 = 4 by omega) with e | e | e | e <;> rw [e] <;> decide
    exact Nat.Coprime.mul_right c2 c5
  have hg : Nat.gcd w (10 ^ N) = c := by
    rw [← h1, ← h2, Nat.gcd_mul_right, cop, Nat.one_mul]
  rw [hg, ← h1, ← h2]
  exact ⟨(Nat.mul_div_cancel _ hc).symm, (Nat.mul_div_cancel _ hc).symm, hc⟩
theorem low_le {w N : Nat} (hw : w ≤ 10 ^ N) (k : Nat) (hk : k ≤ N) : (lowN (w, 10 ^ N) k).1 ≤ 10 ^ N ∧ (lowN (w, 10 ^ N) k).2 ≤ 10 ^ N := by
  obtain ⟨c, i, j, hc, h1, h2, _⟩ := low_LI (w := w) (N := N) k hk
  have a := Nat.le_mul_of_pos_right (lowN (w, 10 ^ N) k).1 hc
  have b := Nat.le_mul_of_pos_right (lowN (w, 10 ^ N) k).2 hc
  omega
theorem ten_le {N : Nat} (h : N ≤ 10) : 10 ^ N ≤ 10000000000 := Nat.pow_le_pow_right (n := 10) (by omega) h
theorem lg_rem {a d : Nat} (ha : a ≤ 10000000000) (h0 : 0 < d) (hd : d ≤ 10) : lg_cmp (lN a - lN a / lN d * lN d) 0 = 0 ↔ a % d = 0 := by
  have := Nat.mod_lt a h0
  rw [lg_eq0, pk_lRem (by omega) h0 (by omega), show (0 : Int64) = lN 0 from rfl, pk_lEQ (by omega) (by omega)]
theorem s_lowest {T : MI} {N w : Nat} (a5 : Int32) (L : ML) (h3 : T 212 3 = nI N) (hN : N ≤ 10) (hw : w ≤ 10 ^ N) : f_X0_lowest (lN w) a5 T L = some (if a5 = 0 then lN (w / Nat.gcd w (10 ^ N)) else lN (10 ^ N / Nat.gcd w (10 ^ N))) := by
  have ht := ten_le hN
  unfold f_X0_lowest
  have hl : lp (fun s => b_X0_lowest_15 a5 T L s.1 s.2.1 s.2.2) FU (lN w, lN (10 ^ N), (0 : Int32)) = some (lN (lowN (w, 10 ^ N) N).1, lN (lowN (w, 10 ^ N) N).2) := by
    refine lp_forF (fun k => (lN (lowN (w, 10 ^ N) k).1, lN (lowN (w, 10 ^ N) k).2, nI k)) N rfl (fun k hk => ?_) ?_ (by omega)
    · simp only [b_X0_lowest_15]
      obtain ⟨b1, b2⟩ := low_le hw k (by omega)
      show _ = some (Sum.inl (lN (r5 (r2 (lowN (w, 10 ^ N) k))).1, lN (r5 (r2 (lowN (w, 10 ^ N) k))).2, nI (k + 1)))
      generalize lowN (w, 10 ^ N) k = x at b1 b2
      rw [h3, if_neg (nI_ge hk (by omega)), nm_s, nm_s, show (2 : Int64) = lN 2 from rfl, show (5 : Int64) = lN 5 from rfl]
      have s2 : (if lg_cmp (lN x.1 - lN x.1 / lN 2 * lN 2) 0 = 0 then (if lg_cmp (lN x.2 - lN x.2 / lN 2 * lN 2) 0 = 0 then some (lN x.1 / lN 2, lN x.2 / lN 2) else some (lN x.1, lN x.2)) else some (lN x.1, lN x.2)) = some (lN (r2 x).1, lN (r2 x).2) := by
        unfold r2
        by_cases c1 : x.1 % 2 = 0
        · rw [if_pos ((lg_rem (by omega) (by omega) (by omega)).mpr c1)]
          by_cases c2 : x.2 % 2 = 0
          · rw [if_pos ((lg_rem (by omega) (by omega) (by omega)).mpr c2), if_pos ⟨c1, c2⟩, pk_lDiv (by omega) (by omega) (by omega), pk_lDiv (by omega) (by omega) (by omega)]
          · rw [if_neg (fun q => c2 ((lg_rem (by omega) (by omega) (by omega)).mp q)), if_neg (fun q => c2 q.2)]
        · rw [if_neg (fun q => c1 ((lg_rem (by omega) (by omega) (by omega)).mp q)), if_neg (fun q => c1 q.1)]
      have l2 : (r2 x).1 ≤ 10000000000 ∧ (r2 x).2 ≤ 10000000000 := by
        unfold r2
        by_cases c : x.1 % 2 = 0 ∧ x.2 % 2 = 0
        · rw [if_pos c]; exact ⟨by show x.1 / 2 ≤ _; omega, by show x.2 / 2 ≤ _; omega⟩
        · rw [if_neg c]; omega
      rw [s2, bd2_s, nm_s, nm_s]
      generalize r2 x = y at l2
      have s5 : (if lg_cmp (lN y.1 - lN y.1 / lN 5 * lN 5) 0 = 0 then (if lg_cmp (lN y.2 - lN y.2 / lN 5 * lN 5) 0 = 0 then some (lN y.1 / lN 5, lN y.2 / lN 5) else some (lN y.1, lN y.2)) else some (lN y.1, lN y.2)) = some (lN (r5 y).1, lN (r5 y).2) := by
        unfold r5
        by_cases c1 : y.1 % 5 = 0
        · rw [if_pos ((lg_rem (by omega) (by omega) (by omega)).mpr c1)]
          by_cases c2 : y.2 % 5 = 0
          · rw [if_pos ((lg_rem (by omega) (by omega) (by omega)).mpr c2), if_pos ⟨c1, c2⟩, pk_lDiv (by omega) (by omega) (by omega), pk_lDiv (by omega) (by omega) (by omega)]
          · rw [if_neg (fun q => c2 ((lg_rem (by omega) (by omega) (by omega)).mp q)), if_neg (fun q => c2 q.2)]
        · rw [if_neg (fun q => c1 ((lg_rem (by omega) (by omega) (by omega)).mp q)), if_neg (fun q => c1 q.1)]
      rw [s5, bd2_s, nm_s, nI_1]
    · simp only [b_X0_lowest_15]
      rw [h3, if_pos (nI_le (Nat.le_refl _) (by omega))]
  obtain ⟨g1, g2, g3⟩ := low_gcd (w := w) (N := N)
  rw [h3, s_tens hN, bd1_s, hl, bd2_s, some_if, bd1_s, g1, g2]
theorem m_euclid {I : MI} {L : ML} (v5 : Int32) : ∀ (k F a b : Nat), a < 2 ^ 63 → b < 2 ^ k → k ≤ 62 → 2 * k + 1 < F → lp (fun s => b_X11_odds_76 v5 I L s.1 s.2) F (lN a, lN b) = some (lN (Nat.gcd a b)) := by
  have stop : ∀ (F a : Nat), 0 < F → lp (fun s => b_X11_odds_76 v5 I L s.1 s.2) F (lN a, lN 0) = some (lN (Nat.gcd a 0)) := fun F a hF => by
    obtain ⟨F, rfl⟩ : ∃ F', F = F' + 1 := ⟨F - 1, by omega⟩
    rw [lp_s]
    simp only [b_X11_odds_76]
    rw [if_pos (lg_eq0.mpr (show lN 0 = 0 from rfl)), Nat.gcd_zero_right]
    rfl
  have step : ∀ (F a b : Nat), a < 2 ^ 63 → 0 < b → b < 2 ^ 63 → lp (fun s => b_X11_odds_76 v5 I L s.1 s.2) (F + 1) (lN a, lN b) = lp (fun s => b_X11_odds_76 v5 I L s.1 s.2) F (lN b, lN (a % b)) := fun F a b ha hb hb2 => by
    have nz : ¬ lN b = 0 := fun q => by
      rw [show (0 : Int64) = lN 0 from rfl, pk_lEQ hb2 (by omega)] at q
      omega
    rw [lp_s]
    simp only [b_X11_odds_76]
    rw [if_neg (fun q => nz (lg_eq0.mp q)), gd_t nz, nm_s, pk_lRem ha hb hb2]
    rfl
  have gr : ∀ a b : Nat, Nat.gcd a b = Nat.gcd b (a % b) := fun a b => by rw [Nat.gcd_comm a b, Nat.gcd_rec b a, Nat.gcd_comm]
  intro k
  induction k with
  | zero =>
    intro F a b ha hb hk hF
    rw [show b = 0 by omega]
    exact stop F a (by omega)
  | succ k ih =>
    intro F a b ha hb hk hF
    have h62 : 2 ^ (k + 1) ≤ 2 ^ 62 := Nat.pow_le_pow_right (by omega) hk
    rcases Nat.eq_zero_or_pos b with e | e
    · rw [e]; exact stop F a (by omega)
    · obtain ⟨F, rfl⟩ : ∃ F', F = F' + 2 := ⟨F - 2, by omega⟩
      have hr := Nat.mod_lt a e
      rw [step (F + 1) a b ha e (by omega), gr a b]
      rcases Nat.eq_zero_or_pos (a % b) with e2 | e2
      · rw [e2]; exact stop (F + 1) b (by omega)
      · rw [step F b (a % b) (by omega) e2 (by omega), gr b (a % b)]
        have hr2 := Nat.mod_lt b e2
        have hd := Nat.div_add_mod b (a % b)
        have hq : 0 < b / (a % b) := Nat.div_pos (by omega) e2
        have hm := Nat.le_mul_of_pos_right (a % b) hq
        refine ih F _ _ (by omega) ?_ (by omega) (by omega)
        rw [Nat.pow_succ] at hb
        omega
