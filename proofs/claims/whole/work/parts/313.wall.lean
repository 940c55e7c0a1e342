/-! ===== wall: the reference reads it whole ===== -/
def zrN (J : MI) (k : Nat) : MI := fun i j => if i = 245 ∧ 219 ≤ j ∧ j < 219 + k then 0 else J i j
theorem zr_s {J : MI} {k : Nat} : up2 (zrN J k) 245 (219 + k) (0 : Int32) = zrN J (k + 1) := funext fun i => funext fun j => by
  rw [up2_at]
  unfold zrN
  by_cases c : i = 245
  · subst c
    by_cases d : j = 219 + k
    · rw [if_pos ⟨rfl, d⟩, if_pos ⟨rfl, by omega, by omega⟩]
    · rw [if_neg (fun q => d q.2)]
      by_cases e : 219 ≤ j ∧ j < 219 + k
      · rw [if_pos ⟨rfl, e⟩, if_pos ⟨rfl, by omega, by omega⟩]
      · rw [if_neg (fun q => e q.2), if_neg (fun q => by have := q.2; omega)]
  · rw [if_neg (fun q => c q.1), if_neg (fun q => c q.1), if_neg (fun q => c q.1)]
theorem m_zeroW (J : MI) (L : ML) : lp (fun s => b_X11_wall_2 L s.1 s.2) FU ((0 : Int32), J) = some (zrN J 73) := by
  refine lp_forF (fun k => (nI k, zrN J k)) 73 ?_ (fun k hk => ?_) ?_ (by omega)
  · refine congrArg (fun z => ((0 : Int32), z)) (funext fun i => funext fun j => ?_)
    unfold zrN
    rw [if_neg (fun q => by have := q.2; omega)]
  · simp only [b_X11_wall_2]
    rw [if_neg (show ¬ (73 : Int32) ≤ nI k from nI_ge (b := 73) hk (by omega)), iz 219 k (219 : Int32) rfl, gi_n (by omega) (by omega), cl_n (by omega), nm_s, nm_s, nI_1, zr_s]
  · simp only [b_X11_wall_2]
    rw [if_pos (by decide)]
theorem zr_o {J : MI} {c : Nat} (h : c ≠ 245) : zrN J 73 c = J c := funext fun j => by
  unfold zrN
  rw [if_neg (fun q => h q.1)]
theorem zr_n {J : MI} {j : Nat} (h : j < 219 ∨ 292 ≤ j) : zrN J 73 245 j = J 245 j := by
  unfold zrN
  rw [if_neg (fun q => by have := q.2; omega)]
theorem zr_i {J : MI} {j : Nat} (h : 219 ≤ j) (k : j < 292) : zrN J 73 245 j = 0 := by
  unfold zrN
  rw [if_pos ⟨rfl, h, by omega⟩]
def RK (t : Nat) (B : Nat → Int32) (D : Int32) (J : MI) (m j : Nat) : Prop := RT t B J j ∧ J 245 219 = 1 ∧ J 245 220 = nI m ∧ J 245 221 = duN B ∧ J 245 222 = crN B ∧ J 245 223 = 0 ∧ J 245 224 = 0 ∧ J 245 225 = D ∧ (∀ q, q < m → ∀ f, f ≤ 9 → J 245 (219 + 7 + 6 * f + q) = siR B (zN B q) (crN B) f) ∧ (∀ q, q < m → J 245 (286 + q) = -1) ∧ ∀ q, m ≤ q → q < 6 → J 245 (256 + q) = 0 ∧ J 245 (268 + q) = 0 ∧ J 245 (274 + q) = 0 ∧ J 245 (280 + q) = 0
theorem wS_o {w : Nat → Int32} {m j : Nat} {k ln hu co ca : Int32} (h1 : j ≠ 226 + m) (h2 : j ≠ 262 + m) (h3 : j ≠ 286 + m) (h4 : j ≠ 232 + m) (h5 : j ≠ 238 + m) (h6 : j ≠ 244 + m) (h7 : j ≠ 250 + m) (h8 : j ≠ 220) : wS w m k ln hu co ca j = w j := by
  unfold wS
  rw [pk_un h8, pk_un h7, pk_un h6, pk_un h5, pk_un h4, pk_un h3, pk_un h2, pk_un h1]
theorem m_sitStep {J : MI} {t m j : Nat} {B : Nat → Int32} {D : Int32} (L : ML) (ht : t ≤ 90) (hm : m < 6) (h : RK t B D J m j) (hz : zN B m = .inr j) : ∃ b K, f_X11_takesSitter J L = some (b, K) ∧ WX J K ∧ ((b = 1 ∧ ∃ i', zN B (m + 1) = .inr i' ∧ RK t B D K (m + 1) i') ∨ (b = 0 ∧ ∃ f, zN B (m + 1) = .inl f ∧ K 244 10 = nI f)) := by
  obtain ⟨h0, g19, g20, g21, g22, g23, g24, g25, g9, g10, gz⟩ := h
  obtain ⟨b, K, k1, k2, k3⟩ := m_takesSitter L ht (by omega) h0 g20
  refine ⟨b, K, k1, k2, ?_⟩
  have ez : zN B (m + 1) = sp5 B (.inr j) := by
    show sp5 B (zN B m) = _
    rw [hz]
  rcases k3 with ⟨b1, _, i', s1, s2, s3⟩ | ⟨b0, f, s1, _, s3⟩
  · refine Or.inl ⟨b1, i', by rw [ez]; exact s1, s2, ?_, ?_, ?_, ?_, ?_, ?_, ?_, fun q hq f hf => ?_, fun q hq => ?_, fun q q1 q2 => ?_⟩
    · rw [s3, wS_o (by omega) (by omega) (by omega) (by omega) (by omega) (by omega) (by omega) (by omega)]; exact g19
    · rw [s3]
      unfold wS
      rw [pk_us]
    · rw [s3, wS_o (by omega) (by omega) (by omega) (by omega) (by omega) (by omega) (by omega) (by omega)]; exact g21
    · rw [s3, wS_o (by omega) (by omega) (by omega) (by omega) (by omega) (by omega) (by omega) (by omega)]; exact g22
    · rw [s3, wS_o (by omega) (by omega) (by omega) (by omega) (by omega) (by omega) (by omega) (by omega)]; exact g23
    · rw [s3, wS_o (by omega) (by omega) (by omega) (by omega) (by omega) (by omega) (by omega) (by omega)]; exact g24
    · rw [s3, wS_o (by omega) (by omega) (by omega) (by omega) (by omega) (by omega) (by omega) (by omega)]; exact g25
    · by_cases c : q = m
      · subst c
        rw [s3, hz]
        obtain ⟨z5, z7, z8, z9⟩ := gz q (Nat.le_refl _) hm
        have hf10 : f = 0 ∨ f = 1 ∨ f = 2 ∨ f = 3 ∨ f = 4 ∨ f = 5 ∨ f = 6 ∨ f = 7 ∨ f = 8 ∨ f = 9 := by omega
        rcases hf10 with rfl | rfl | rfl | rfl | rfl | rfl | rfl | rfl | rfl | rfl
        · rw [show 219 + 7 + 6 * 0 + q = 226 + q by omega]
          unfold wS
          rw [pk_un (by omega), pk_un (by omega), pk_un (by omega), pk_un (by omega), pk_un (by omega), pk_un (by omega), pk_un (by omega), pk_us]
          rfl
        · rw [show 219 + 7 + 6 * 1 + q = 232 + q by omega]
          unfold wS
          rw [pk_un (by omega), pk_un (by omega), pk_un (by omega), pk_un (by omega), pk_us]
          rfl
        · rw [show 219 + 7 + 6 * 2 + q = 238 + q by omega]
          unfold wS
          rw [pk_un (by omega), pk_un (by omega), pk_un (by omega), pk_us]
          rfl
        · rw [show 219 + 7 + 6 * 3 + q = 244 + q by omega]
          unfold wS
          rw [pk_un (by omega), pk_un (by omega), pk_us]
          rfl
        · rw [show 219 + 7 + 6 * 4 + q = 250 + q by omega]
          unfold wS
          rw [pk_un (by omega), pk_us]
          rfl
        · rw [show 219 + 7 + 6 * 5 + q = 256 + q by omega, wS_o (by omega) (by omega) (by omega) (by omega) (by omega) (by omega) (by omega) (by omega), z5]
          rfl
        · rw [show 219 + 7 + 6 * 6 + q = 262 + q by omega]
          unfold wS
          rw [pk_un (by omega), pk_un (by omega), pk_un (by omega), pk_un (by omega), pk_un (by omega), pk_un (by omega), pk_us, g22]
          rfl
        · rw [show 219 + 7 + 6 * 7 + q = 268 + q by omega, wS_o (by omega) (by omega) (by omega) (by omega) (by omega) (by omega) (by omega) (by omega), z7]
          rfl
        · rw [show 219 + 7 + 6 * 8 + q = 274 + q by omega, wS_o (by omega) (by omega) (by omega) (by omega) (by omega) (by omega) (by omega) (by omega), z8]
          rfl
        · rw [show 219 + 7 + 6 * 9 + q = 280 + q by omega, wS_o (by omega) (by omega) (by omega) (by omega) (by omega) (by omega) (by omega) (by omega), z9]
          rfl
      · rw [s3, wS_o (by omega) (by omega) (by omega) (by omega) (by omega) (by omega) (by omega) (by omega)]
        exact g9 q (by omega) f hf
    · by_cases c : q = m
      · subst c
        rw [s3]
        unfold wS
        rw [pk_un (by omega), pk_un (by omega), pk_un (by omega), pk_un (by omega), pk_un (by omega), pk_us]
      · rw [s3, wS_o (by omega) (by omega) (by omega) (by omega) (by omega) (by omega) (by omega) (by omega)]
        exact g10 q (by omega)
    · obtain ⟨z5, z7, z8, z9⟩ := gz q (by omega) q2
      rw [s3, wS_o (by omega) (by omega) (by omega) (by omega) (by omega) (by omega) (by omega) (by omega), wS_o (by omega) (by omega) (by omega) (by omega) (by omega) (by omega) (by omega) (by omega), wS_o (by omega) (by omega) (by omega) (by omega) (by omega) (by omega) (by omega) (by omega), wS_o (by omega) (by omega) (by omega) (by omega) (by omega) (by omega) (by omega) (by omega)]
      exact ⟨z5, z7, z8, z9⟩
  · exact Or.inr ⟨b0, f, by rw [ez]; exact s1 hm, s3⟩
theorem m_body {J K : MI} {t m j : Nat} {B : Nat → Int32} {D b : Int32} (L : ML) (ht : t ≤ 90) (hm : m ≤ 6) (h : RK t B D J m j) (hj : j < t ∨ m = 0) (e : f_X11_takesSitter J L = some (b, K)) : b_X11_wall_59 L (1 : Int32) J = some (Sum.inl (b, K)) := by
  simp only [b_X11_wall_59]
  rw [if_neg (by decide), h.1.1, h.1.2.1]
  have hjt := h.1.2.2.1
  by_cases c : j < t
  · rw [if_pos (nI_lt c (by omega)), e, bd2_s]
  · have m0 : m = 0 := by omega
    rw [if_neg (nI_nlt (by omega) (by omega)), gi_t (show vp_in (220 : Int32) 1752 from vp_in_nI (n := 220) (by omega) (by omega)), show (220 : Int32).toNatClampNeg = 220 from rfl, h.2.2.1, m0, if_pos (show nI 0 = 0 from rfl), e, bd2_s]
theorem z_back {B : Nat → Int32} {m j : Nat} (h : zN B (m + 1) = .inr j) : ∃ i, zN B m = .inr i := (sp5_ok h).1
theorem z_all {B : Nat → Int32} {m j : Nat} (h : zN B m = .inr j) : ∀ d, d ≤ m → ∃ i, zN B (m - d) = .inr i
  | 0, _ => ⟨j, h⟩
  | d + 1, hd => by
    obtain ⟨i, hi⟩ := z_all h d (by omega)
    rw [show m - d = (m - (d + 1)) + 1 by omega] at hi
    exact z_back hi
theorem z_le {B : Nat → Int32} {m j q : Nat} (h : zN B m = .inr j) (hq : q ≤ m) : ∃ i, zN B q = .inr i := by
  have := z_all h (m - q) (by omega)
  rw [show m - (m - q) = q by omega] at this
  exact this
theorem z_inl {B : Nat → Int32} {m f : Nat} (h : zN B m = .inl f) : ∀ d, zN B (m + d) = .inl f
  | 0 => h
  | d + 1 => by
    show sp5 B (zN B (m + d)) = _
    rw [z_inl h d]
    rfl
theorem m_goodK {J : MI} {t m j0 : Nat} {B : Nat → Int32} {D : Int32} (L : ML) (ht : t ≤ 90) (hO : OutK B t m) (h : RK t B D J 0 j0) (hz : zN B 0 = .inr j0) : ∃ K j, lp (fun s => b_X11_wall_59 L s.1 s.2) FU ((1 : Int32), J) = some ((1 : Int32), K) ∧ WX J K ∧ RK t B D K m j := by
  obtain ⟨m1, m6, ⟨je, hje, je1, je2⟩, hG⟩ := hO
  obtain ⟨x, hx, K, j, rfl, w1, w2⟩ := lp_inv (f := fun s => b_X11_wall_59 L s.1 s.2)
    (fun q s => ∃ K j, s = ((1 : Int32), K) ∧ WX J K ∧ zN B q = .inr j ∧ RK t B D K q j)
    (fun x => ∃ K j, x = ((1 : Int32), K) ∧ WX J K ∧ RK t B D K m j) m
    (fun q s hq hP => by
      obtain ⟨K, j, rfl, a, b, c⟩ := hP
      obtain ⟨b', K', k1, k2, k3⟩ := m_sitStep L ht (by omega) c b
      have hj : j < t ∨ q = 0 := by
        by_cases q0 : q = 0
        · exact Or.inr q0
        · obtain ⟨i, i1, i2⟩ := hG q (by omega) hq
          rw [b] at i1
          cases i1
          exact Or.inl i2
      have e := m_body L ht (by omega) c hj k1
      rcases k3 with ⟨rfl, i', s1, s2⟩ | ⟨_, f, s1, _⟩
      · exact ⟨_, e, K', i', rfl, a.tr k2, s1, s2⟩
      · obtain ⟨i, hi⟩ := z_le hje (show q + 1 ≤ m by omega)
        rw [hi] at s1
        cases s1)
    (fun s hP => by
      obtain ⟨K, j, rfl, a, b, c⟩ := hP
      rw [hje] at b
      cases b
      simp only [b_X11_wall_59]
      rw [if_neg (by decide), c.1.1, c.1.2.1, if_neg (nI_nlt je1 (by omega)), gi_t (show vp_in (220 : Int32) 1752 from vp_in_nI (n := 220) (by omega) (by omega)), show (220 : Int32).toNatClampNeg = 220 from rfl, c.2.2.1, if_neg (nI_ne0 (by omega) (by omega))]
      exact ⟨_, rfl, K, je, rfl, a, c⟩)
    FU (show m < 2000 by omega) ((1 : Int32), J) ⟨J, j0, rfl, WX.rf J, hz, h⟩
  exact ⟨K, j, hx, w1, w2⟩
theorem m_goodF {J : MI} {t f j0 : Nat} {B : Nat → Int32} {D : Int32} (L : ML) (ht : t ≤ 90) (hO : OutF B t f) (h : RK t B D J 0 j0) (hz : zN B 0 = .inr j0) : ∃ K, lp (fun s => b_X11_wall_59 L s.1 s.2) FU ((1 : Int32), J) = some ((0 : Int32), K) ∧ WX J K ∧ K 244 10 = nI f := by
  obtain ⟨hf, hO⟩ := hO
  obtain ⟨M, hM7, hG, hlast⟩ : ∃ M, M ≤ 6 ∧ GQ B t (M + 1) ∧ ∀ K j, RK t B D K M j → zN B M = .inr j → ∃ b K', f_X11_takesSitter K L = some (b, K') ∧ WX K K' ∧ b = 0 ∧ K' 244 10 = nI f := by
    rcases hO with ⟨m, m6, z1, z2⟩ | ⟨z1, z2, z3⟩
    · have m0 : m ≠ 0 := fun q => by
        rw [q, hz] at z1
        cases z1
      obtain ⟨M, rfl⟩ : ∃ M, m = M + 1 := ⟨m - 1, by omega⟩
      refine ⟨M, by omega, z2, fun K j c b => ?_⟩
      obtain ⟨b', K', k1, k2, k3⟩ := m_sitStep L ht (by omega) c b
      rcases k3 with ⟨_, i', s1, _⟩ | ⟨s0, f', s1, s2⟩
      · rw [z1] at s1
        cases s1
      · rw [z1] at s1
        cases s1
        exact ⟨b', K', k1, k2, s0, s2⟩
    · refine ⟨6, by omega, z3.s z1 z2, fun K j c b => ?_⟩
      rw [z1] at b
      cases b
      obtain ⟨b', K', k1, k2, k3⟩ := m_takesSitter L ht (by omega) c.1 c.2.2.1
      rcases k3 with ⟨_, s1, _⟩ | ⟨s0, f', _, s1, s2⟩
      · omega
      · rw [s1 rfl] at s2
        exact ⟨b', K', k1, k2, s0, s2⟩
  obtain ⟨x, hx, K, rfl, w1, w2⟩ := lp_inv (f := fun s => b_X11_wall_59 L s.1 s.2)
    (fun q s => (q ≤ M → ∃ K j, s = ((1 : Int32), K) ∧ WX J K ∧ zN B q = .inr j ∧ RK t B D K q j) ∧ (q = M + 1 → ∃ K, s = ((0 : Int32), K) ∧ WX J K ∧ K 244 10 = nI f))
    (fun x => ∃ K, x = ((0 : Int32), K) ∧ WX J K ∧ K 244 10 = nI f) (M + 1)
    (fun q s hq hP => by
      obtain ⟨K, j, rfl, a, b, c⟩ := hP.1 (by omega)
      have hj : j < t ∨ q = 0 := by
        by_cases q0 : q = 0
        · exact Or.inr q0
        · obtain ⟨i, i1, i2⟩ := hG q (by omega) hq
          rw [b] at i1
          cases i1
          exact Or.inl i2
      by_cases qM : q = M
      · subst qM
        obtain ⟨b', K', k1, k2, rfl, k4⟩ := hlast K j c b
        exact ⟨_, m_body L ht (by omega) c hj k1, fun z => absurd z (by omega), fun _ => ⟨K', rfl, a.tr k2, k4⟩⟩
      · obtain ⟨b', K', k1, k2, k3⟩ := m_sitStep L ht (by omega) c b
        have e := m_body L ht (by omega) c hj k1
        rcases k3 with ⟨rfl, i', s1, s2⟩ | ⟨_, f', s1, _⟩
        · exact ⟨_, e, fun _ => ⟨K', i', rfl, a.tr k2, s1, s2⟩, fun z => absurd z (by omega)⟩
        · obtain ⟨i, i1, i2⟩ := hG (q + 1) (by omega) (by omega)
          rw [i1] at s1
          cases s1)
    (fun s hP => by
      obtain ⟨K, rfl, a, b⟩ := hP.2 rfl
      have e : b_X11_wall_59 L (0 : Int32) K = some (Sum.inr ((0 : Int32), K)) := by
        unfold b_X11_wall_59
        rw [if_pos rfl]
      exact ⟨_, e, K, rfl, a, b⟩)
    FU (show M + 1 < 2000 by omega) ((1 : Int32), J) ⟨fun _ => ⟨J, j0, rfl, WX.rf J, hz, h⟩, fun z => absurd z (by omega)⟩
  exact ⟨K, hx, w1, w2⟩
theorem m_takesWall {J : MI} {t : Nat} {B : Nat → Int32} (L : ML) (ht : t ≤ 90) (h : RT t B J 0) : ∃ b K, f_X11_takesWall J L = some (b, K) ∧ WX J K ∧ ((b = 1 ∧ ∃ i', zN B 0 = .inr i' ∧ RT t B K i' ∧ K 245 = upd (upd (J 245) 221 (duN B)) 222 (crN B)) ∨ (b = 0 ∧ ∃ f, zN B 0 = .inl f ∧ K 244 10 = nI f)) := by
  unfold f_X11_takesWall
  obtain ⟨b1, K1, a1, a2, _, a4⟩ := m_takes 119 L ht (by decide) h
  rw [a1, bd2_s]
  rcases a4 with ⟨rfl, i1, x1, x2⟩ | ⟨rfl, f, x1, x2⟩
  · rw [if_neg (by decide)]
    have e1 : hd1 B = .inr i1 := x1
    obtain ⟨b2, K2, c1, c2, c3⟩ := m_takesNumber 1 24 44 L ht (by decide) x2
    rw [c1, bd2_s]
    rcases c3 with ⟨rfl, i2, y1, y2, y3⟩ | ⟨rfl, f, y1, y2⟩
    · have e2 : hd2 B = .inr i2 := by
        unfold hd2
        rw [e1]
        exact y1
      have d1 : duN B = nuB B 1 24 (.inr i1) := by
        unfold duN
        rw [e1]
      rw [if_neg (by decide), gi_t (show vp_in (221 : Int32) 1752 from vp_in_nI (n := 221) (by omega) (by omega)), nm_s, show (221 : Int32).toNatClampNeg = 221 from rfl, y3, ← d1]
      have r2 := y2.w 221 (duN B)
      have w2 := (a2.tr c2).W.tr (WX.up K2 (j := 221) (duN B) (by omega))
      have u2 : up2 K2 245 221 (duN B) 245 = upd (J 245) 221 (duN B) := by rw [up_self, c2.1 245 (by omega), a2.1 245 (by omega)]
      generalize up2 K2 245 221 (duN B) = J2 at r2 w2 u2
      obtain ⟨b3, K3, g1, g2, g3⟩ := m_takesNumber 0 9 59 L ht (by decide) r2
      rw [g1, bd2_s]
      rcases g3 with ⟨rfl, i3, z1, z2, z3⟩ | ⟨rfl, f, z1, z2⟩
      · have d2 : crN B = nuB B 0 9 (.inr i2) := by
          unfold crN
          rw [e2]
        rw [if_neg (by decide), gi_t (show vp_in (222 : Int32) 1752 from vp_in_nI (n := 222) (by omega) (by omega)), nm_s, show (222 : Int32).toNatClampNeg = 222 from rfl, z3, ← d2]
        refine ⟨_, _, rfl, (w2.tr g2.W).tr (WX.up K3 (j := 222) _ (by omega)), Or.inl ⟨rfl, i3, ?_, z2.w _ _, by rw [up_self, g2.1 245 (by omega), u2]⟩⟩
        show nuE B 0 9 59 (hd2 B) = _
        rw [e2]
        exact z1
      · rw [if_pos rfl]
        refine ⟨_, _, rfl, w2.tr g2.W, Or.inr ⟨rfl, f, ?_, z2⟩⟩
        show nuE B 0 9 59 (hd2 B) = _
        rw [e2]
        exact z1
    · rw [if_pos rfl]
      refine ⟨_, _, rfl, (a2.tr c2).W, Or.inr ⟨rfl, f, ?_, y2⟩⟩
      show nuE B 0 9 59 (nuE B 1 24 44 (hd1 B)) = _
      rw [e1, y1]
      rfl
  · rw [if_pos rfl]
    refine ⟨_, _, rfl, a2.W, Or.inr ⟨rfl, f, ?_, x2⟩⟩
    show nuE B 0 9 59 (nuE B 1 24 44 (exS B 119 (.inr 0))) = _
    rw [x1]
    rfl
theorem m_wallOK {J : MI} {t m : Nat} {B : Nat → Int32} (L : ML) (ht : t ≤ 90) (h7 : J 244 7 = nI t) (hB : byN (J 250) t = B) (hO : OutK B t m) : ∃ K j, f_X11_wall J L = some (nI m, up2 (cpR (up2 K 244 7 (0 : Int32)) 219 0 73) 244 2 (0 : Int32)) ∧ WX J K ∧ RK t B (J 245 6) K m j := by
  obtain ⟨je, hje, _⟩ := hO.2.2.1
  obtain ⟨j0, hj0⟩ := z_le hje (show 0 ≤ m by omega)
  unfold f_X11_wall
  rw [m_zeroW, bd1_s, gi_t (show vp_in (219 : Int32) 1752 from vp_in_nI (n := 219) (by omega) (by omega)), nm_s, show (219 : Int32).toNatClampNeg = 219 from rfl, gi_t (show vp_in (6 : Int32) 1752 from vp_in_nI (n := 6) (by omega) (by omega)), gi_t (show vp_in (225 : Int32) 1752 from vp_in_nI (n := 225) (by omega) (by omega)), nm_s, nm_s, show (225 : Int32).toNatClampNeg = 225 from rfl, show (6 : Int32).toNatClampNeg = 6 from rfl, up2_n (show 6 ≠ 219 by omega), zr_n (by omega)]
  have w0 : WX J (up2 (up2 (up2 (zrN J 73) 245 219 (1 : Int32)) 245 225 (J 245 6)) 244 8 (0 : Int32)) := ⟨fun c a b => by rw [up2_ne a, up2_ne b, up2_ne b, zr_o b], fun s hs => by rw [up2_n (by omega), up2_ne (by omega), up2_ne (by omega), zr_o (by omega)], fun j hj => by rw [up2_ne (by omega), up2_n (by omega), up2_n (by omega), zr_n hj]⟩
  have r0 : RT t B (up2 (up2 (up2 (zrN J 73) 245 219 (1 : Int32)) 245 225 (J 245 6)) 244 8 (0 : Int32)) 0 := ⟨by rw [w0.2.1 7 (by omega)]; exact h7, up2_s, by omega, by rw [w0.1 250 (by omega) (by omega)]; exact hB⟩
  have u0 : up2 (up2 (up2 (zrN J 73) 245 219 (1 : Int32)) 245 225 (J 245 6)) 244 8 (0 : Int32) 245 = upd (upd (zrN J 73 245) 219 1) 225 (J 245 6) := by rw [up2_ne (by omega), up_self, up_self]
  generalize up2 (up2 (up2 (zrN J 73) 245 219 (1 : Int32)) 245 225 (J 245 6)) 244 8 (0 : Int32) = J1 at w0 r0 u0
  obtain ⟨b, K, k1, k2, k3⟩ := m_takesWall L ht r0
  rcases k3 with ⟨rfl, i', s1, s2, s3⟩ | ⟨_, f, s1, _⟩
  · have rk : RK t B (J 245 6) K 0 i' := by
      rw [u0] at s3
      refine ⟨s2, ?_, ?_, ?_, ?_, ?_, ?_, ?_, fun q hq => absurd hq (by omega), fun q hq => absurd hq (by omega), fun q _ q2 => ⟨?_, ?_, ?_, ?_⟩⟩
      · rw [s3, pk_un (by omega), pk_un (by omega), pk_un (by omega), pk_us]
      · rw [s3, pk_un (by omega), pk_un (by omega), pk_un (by omega), pk_un (by omega), zr_i (by omega) (by omega)]
        rfl
      · rw [s3, pk_un (by omega), pk_us]
      · rw [s3, pk_us]
      · rw [s3, pk_un (by omega), pk_un (by omega), pk_un (by omega), pk_un (by omega), zr_i (by omega) (by omega)]
      · rw [s3, pk_un (by omega), pk_un (by omega), pk_un (by omega), pk_un (by omega), zr_i (by omega) (by omega)]
      · rw [s3, pk_un (by omega), pk_un (by omega), pk_us]
      · rw [s3, pk_un (by omega), pk_un (by omega), pk_un (by omega), pk_un (by omega), zr_i (by omega) (by omega)]
      · rw [s3, pk_un (by omega), pk_un (by omega), pk_un (by omega), pk_un (by omega), zr_i (by omega) (by omega)]
      · rw [s3, pk_un (by omega), pk_un (by omega), pk_un (by omega), pk_un (by omega), zr_i (by omega) (by omega)]
      · rw [s3, pk_un (by omega), pk_un (by omega), pk_un (by omega), pk_un (by omega), zr_i (by omega) (by omega)]
    obtain ⟨K2, j, l1, l2, l3⟩ := m_goodK L ht hO rk s1
    rw [k1, bd2_s, l1, bd2_s, nm_s, if_neg (by decide), show (219 : Int32) = nI 219 from rfl, show (f_X11_copyRow (nI 219) (0 : Int32)) = f_X11_copyRow (nI 219) (nI 0) from rfl, m_copyRow L (by omega) (by omega) (by omega), bd1_s, nm_s, gi_t (show vp_in (1 : Int32) 1752 from vp_in_nI (n := 1) (by omega) (by omega)), show (1 : Int32).toNatClampNeg = 1 from rfl, up2_ne (show 245 ≠ 244 by omega)]
    refine ⟨K2, j, ?_, (w0.tr k2).tr l2, l3⟩
    have e := cpR_i (I := up2 K2 244 7 (0 : Int32)) (o := 219) (p := 0) (m := 73) (j := 1) (by omega)
    rw [up2_ne (show 245 ≠ 244 by omega)] at e
    rw [show cpR (up2 K2 244 7 (0 : Int32)) 219 0 73 245 1 = K2 245 (219 + 1) from e, l3.2.2.1]
  · rw [hj0] at s1
    cases s1
theorem m_wallF {J : MI} {t f : Nat} {B : Nat → Int32} (L : ML) (ht : t ≤ 90) (h7 : J 244 7 = nI t) (hB : byN (J 250) t = B) (hO : OutF B t f) : ∃ K, f_X11_wall J L = some ((-100 : Int32) - nI f, up2 K 244 7 (0 : Int32)) ∧ WX J K := by
  unfold f_X11_wall
  rw [m_zeroW, bd1_s, gi_t (show vp_in (219 : Int32) 1752 from vp_in_nI (n := 219) (by omega) (by omega)), nm_s, show (219 : Int32).toNatClampNeg = 219 from rfl, gi_t (show vp_in (6 : Int32) 1752 from vp_in_nI (n := 6) (by omega) (by omega)), gi_t (show vp_in (225 : Int32) 1752 from vp_in_nI (n := 225) (by omega) (by omega)), nm_s, nm_s, show (225 : Int32).toNatClampNeg = 225 from rfl, show (6 : Int32).toNatClampNeg = 6 from rfl, up2_n (show 6 ≠ 219 by omega), zr_n (by omega)]
  have w0 : WX J (up2 (up2 (up2 (zrN J 73) 245 219 (1 : Int32)) 245 225 (J 245 6)) 244 8 (0 : Int32)) := ⟨fun c a b => by rw [up2_ne a, up2_ne b, up2_ne b, zr_o b], fun s hs => by rw [up2_n (by omega), up2_ne (by omega), up2_ne (by omega), zr_o (by omega)], fun j hj => by rw [up2_ne (by omega), up2_n (by omega), up2_n (by omega), zr_n hj]⟩
  have r0 : RT t B (up2 (up2 (up2 (zrN J 73) 245 219 (1 : Int32)) 245 225 (J 245 6)) 244 8 (0 : Int32)) 0 := ⟨by rw [w0.2.1 7 (by omega)]; exact h7, up2_s, by omega, by rw [w0.1 250 (by omega) (by omega)]; exact hB⟩
  have u0 : up2 (up2 (up2 (zrN J 73) 245 219 (1 : Int32)) 245 225 (J 245 6)) 244 8 (0 : Int32) 245 = upd (upd (zrN J 73 245) 219 1) 225 (J 245 6) := by rw [up2_ne (by omega), up_self, up_self]
  generalize up2 (up2 (up2 (zrN J 73) 245 219 (1 : Int32)) 245 225 (J 245 6)) 244 8 (0 : Int32) = J1 at w0 r0 u0
  obtain ⟨b, K, k1, k2, k3⟩ := m_takesWall L ht r0
  rcases k3 with ⟨rfl, i', s1, s2, s3⟩ | ⟨rfl, f', s1, s2⟩
  · have rk : RK t B (J 245 6) K 0 i' := by
      rw [u0] at s3
      refine ⟨s2, ?_, ?_, ?_, ?_, ?_, ?_, ?_, fun q hq => absurd hq (by omega), fun q hq => absurd hq (by omega), fun q _ q2 => ⟨?_, ?_, ?_, ?_⟩⟩
      · rw [s3, pk_un (by omega), pk_un (by omega), pk_un (by omega), pk_us]
      · rw [s3, pk_un (by omega), pk_un (by omega), pk_un (by omega), pk_un (by omega), zr_i (by omega) (by omega)]
        rfl
      · rw [s3, pk_un (by omega), pk_us]
      · rw [s3, pk_us]
      · rw [s3, pk_un (by omega), pk_un (by omega), pk_un (by omega), pk_un (by omega), zr_i (by omega) (by omega)]
      · rw [s3, pk_un (by omega), pk_un (by omega), pk_un (by omega), pk_un (by omega), zr_i (by omega) (by omega)]
      · rw [s3, pk_un (by omega), pk_un (by omega), pk_us]
      · rw [s3, pk_un (by omega), pk_un (by omega), pk_un (by omega), pk_un (by omega), zr_i (by omega) (by omega)]
      · rw [s3, pk_un (by omega), pk_un (by omega), pk_un (by omega), pk_un (by omega), zr_i (by omega) (by omega)]
      · rw [s3, pk_un (by omega), pk_un (by omega), pk_un (by omega), pk_un (by omega), zr_i (by omega) (by omega)]
      · rw [s3, pk_un (by omega), pk_un (by omega), pk_un (by omega), pk_un (by omega), zr_i (by omega) (by omega)]
    obtain ⟨K2, l1, l2, l3⟩ := m_goodF L ht hO rk s1
    rw [k1, bd2_s, l1, bd2_s, nm_s, if_pos rfl, up2_n (show 10 ≠ 7 by omega), l3]
    exact ⟨K2, rfl, (w0.tr k2).tr l2⟩
  · have ef : f' = f := by
      rcases hO.2 with ⟨m, _, z1, _⟩ | ⟨z1, _, _⟩
      · have := z_inl s1 m
        rw [Nat.zero_add, z1] at this
        cases this
        rfl
      · have := z_inl s1 6
        rw [Nat.zero_add, z1] at this
        cases this
    subst ef
    rw [k1, bd2_s, lp_1 (f := fun s => b_X11_wall_59 L s.1 s.2) (s := ((0 : Int32), K)) (x := ((0 : Int32), K)) (by show b_X11_wall_59 L (0 : Int32) K = _; unfold b_X11_wall_59; rw [if_pos rfl]) (Nat.le_trans (by omega) FU_3), bd2_s, nm_s, if_pos rfl, up2_n (show 10 ≠ 7 by omega), s2]
    exact ⟨K, rfl, w0.tr k2⟩
