/-! ===== wall: the reference's reader ===== -/
def RT (t : Nat) (B : Nat → Int32) (J : MI) (i : Nat) : Prop := J 244 7 = nI t ∧ J 244 8 = nI i ∧ i ≤ t ∧ byN (J 250) t = B
def TQ (J K : MI) : Prop := (∀ c, c ≠ 244 → K c = J c) ∧ ∀ s, s ≠ 8 → s ≠ 9 → s ≠ 10 → K 244 s = J 244 s
theorem TQ.rf (J : MI) : TQ J J := ⟨fun _ _ => rfl, fun _ _ _ _ => rfl⟩
theorem TQ.tr {J K M : MI} (h : TQ J K) (k : TQ K M) : TQ J M := ⟨fun c hc => (k.1 c hc).trans (h.1 c hc), fun s a b c => (k.2 s a b c).trans (h.2 s a b c)⟩
theorem TQ.up (J : MI) {j : Nat} (v : Int32) (h : j = 8 ∨ j = 9 ∨ j = 10) : TQ J (up2 J 244 j v) := ⟨fun c hc => up2_ne hc, fun s a b c => up2_n (by omega)⟩
theorem m_byte {J : MI} {t i : Nat} {B : Nat → Int32} (L : ML) (ht : t ≤ 90) (h : RT t B J i) : f_X11_byteAt (J 244 8) J L = some (B i) := by
  obtain ⟨h1, h2, h3, h4⟩ := h
  unfold f_X11_byteAt
  rw [h1, h2, ← h4]
  unfold byN
  by_cases c : i < t
  · rw [if_neg (nI_ge c (by omega)), gi_n (by omega) (by omega), cl_n (by omega), bd1_s, if_pos c]
  · rw [if_pos (nI_le (by omega) (by omega)), bd1_s, if_neg c]
theorem RT.q {J K : MI} {t i i' : Nat} {B : Nat → Int32} (h : RT t B J i) (q : TQ J K) (e : K 244 8 = nI i') (hi : i' ≤ t) : RT t B K i' := ⟨by rw [q.2 7 (by omega) (by omega) (by omega)]; exact h.1, e, hi, by rw [q.1 250 (by omega)]; exact h.2.2.2⟩
theorem B_lt {J : MI} {t i : Nat} {B : Nat → Int32} (h : RT t B J i) {j : Nat} (e : ¬ B j = -1) : j < t := by
  rw [← h.2.2.2] at e
  exact by_lt rfl e
theorem m_fails (a : Int32) (J : MI) (L : ML) : f_X11_fails a J L = some ((0 : Int32), up2 J 244 10 a) := rfl
theorem m_takes {J : MI} {t i : Nat} {B : Nat → Int32} (e : Int32) (L : ML) (ht : t ≤ 90) (he : ¬ e = -1) (h : RT t B J i) : ∃ b K, f_X11_takes e J L = some (b, K) ∧ TQ J K ∧ K 244 9 = J 244 9 ∧ ((b = 1 ∧ ∃ i', exS B e (.inr i) = .inr i' ∧ RT t B K i') ∨ (b = 0 ∧ ∃ f, exS B e (.inr i) = .inl f ∧ K 244 10 = nI f)) := by
  unfold f_X11_takes
  rw [m_byte L ht h, bd1_s]
  show ∃ b K, _ ∧ TQ J K ∧ K 244 9 = J 244 9 ∧ ((b = 1 ∧ ∃ i', (if B i = e then (.inr (i + 1) : Nat ⊕ Nat) else .inl i) = .inr i' ∧ RT t B K i') ∨ (b = 0 ∧ ∃ f, (if B i = e then (.inr (i + 1) : Nat ⊕ Nat) else .inl i) = .inl f ∧ K 244 10 = nI f))
  by_cases c : B i = e
  · have hlt : i < t := B_lt h (by rw [c]; exact he)
    rw [if_pos c, nm_s, if_pos c, h.2.1, nI_1]
    exact ⟨_, _, rfl, TQ.up J _ (by omega), up2_n (by omega), Or.inl ⟨rfl, i + 1, rfl, h.q (TQ.up J _ (by omega)) up2_s (by omega)⟩⟩
  · rw [if_neg c, m_fails, bd2_s, gd_t (Or.inl rfl), if_neg c, h.2.1]
    exact ⟨_, _, rfl, TQ.up J _ (by omega), up2_n (by omega), Or.inr ⟨rfl, i, rfl, up2_s⟩⟩
def vP (B : Nat → Int32) (i : Nat) : Nat → Int32
  | 0 => 0
  | 1 => v1P B i
  | _ + 2 => v2P B i
theorem m_figs {J : MI} {t i : Nat} {B : Nat → Int32} (lo hi e : Int32) (L : ML) (ht : t ≤ 90) (h : RT t B J i) (h9 : J 244 9 = 0) : ∃ K c, lp (fun s => b_X11_takesNumber_11 lo hi e (nI i) L s) FU J = some K ∧ TQ J K ∧ RT t B K (i + c) ∧ (∀ u, u < c → fg B (i + u)) ∧ ¬ fg B (i + c) ∧ K 244 9 = vP B i c := by
  have hi' := h.2.2.1
  have e48 : ∀ a : Int32, f_X11_in a.toInt64 (48 : Int64) (57 : Int64) = some (b01 ((48 : Int32) ≤ a ∧ a ≤ 57)) := fun a => s_in32 a 48 57
  obtain ⟨x, hx, hz⟩ := lp_inv2 (f := fun s => b_X11_takesNumber_11 lo hi e (nI i) L s)
    (fun c K => TQ J K ∧ RT t B K (i + c) ∧ (∀ u, u < c → fg B (i + u)) ∧ K 244 9 = vP B i c)
    (fun K => ∃ c, TQ J K ∧ RT t B K (i + c) ∧ (∀ u, u < c → fg B (i + u)) ∧ ¬ fg B (i + c) ∧ K 244 9 = vP B i c) (t - i)
    (fun c K hc hP => by
      obtain ⟨q, r, f, v⟩ := hP
      simp only [b_X11_takesNumber_11]
      rw [m_byte L ht r, bd1_s, e48, bd1_s, if_b]
      by_cases g : fg B (i + c)
      · rw [if_pos g, r.2.1, pk_sub (show i ≤ i + c by omega), show i + c - i = c by omega]
        have key : (if (2 : Int32) ≤ nI c then some (K 244 9) else bd1 (some (B (i + c))) (fun r14 => some ((((10 : Int32) * (K 244 9)) + r14) - (48 : Int32)))) = some (vP B i (c + 1)) := by
          rw [bd1_s, v]
          match c with
          | 0 =>
            rw [if_neg (by decide)]
            rfl
          | 1 =>
            rw [if_neg (by decide)]
            rfl
          | c + 2 =>
            rw [if_pos (show (2 : Int32) ≤ nI (c + 2) from nI_le (a := 2) (by omega) (by omega))]
            rfl
        rw [key, bd1_s, nm_s, nm_s, up2_n (show 8 ≠ 9 by omega), r.2.1, nI_1]
        have q' : TQ K (up2 (up2 K 244 9 (vP B i (c + 1))) 244 8 (nI (i + c + 1))) := (TQ.up K _ (by omega)).tr (TQ.up _ _ (by omega))
        refine Or.inl ⟨_, rfl, q.tr q', r.q q' up2_s (by omega), fun u hu => ?_, by rw [up2_n (by omega), up2_s]⟩
        by_cases w : u = c
        · rw [w]; exact g
        · exact f u (by omega)
      · rw [if_neg g]
        exact Or.inr ⟨_, rfl, c, q, r, f, g, v⟩)
    (fun K hP => by
      obtain ⟨q, r, f, v⟩ := hP
      simp only [b_X11_takesNumber_11]
      have g : ¬ fg B (i + (t - i)) := fun g => by
        have := B_lt r (j := i + (t - i)) (fun z => by
          rw [fg, z] at g
          exact absurd g.1 (by decide))
        omega
      rw [m_byte L ht r, bd1_s, e48, bd1_s, if_b, if_neg g]
      exact ⟨_, rfl, t - i, q, r, f, g, v⟩)
    FU (show t - i < 2000 by omega) J ⟨TQ.rf J, h, fun u hu => absurd hu (by omega), h9⟩
  obtain ⟨c, z⟩ := hz
  exact ⟨x, c, hx, z⟩
theorem m_takesNumber {J : MI} {t i : Nat} {B : Nat → Int32} (lo hi e : Int32) (L : ML) (ht : t ≤ 90) (he : ¬ e = -1) (h : RT t B J i) : ∃ b K, f_X11_takesNumber lo hi e J L = some (b, K) ∧ TQ J K ∧ ((b = 1 ∧ ∃ i', nuE B lo hi e (.inr i) = .inr i' ∧ RT t B K i' ∧ K 244 9 = nuB B lo hi (.inr i)) ∨ (b = 0 ∧ ∃ f, nuE B lo hi e (.inr i) = .inl f ∧ K 244 10 = nI f)) := by
  have hi' := h.2.2.1
  unfold f_X11_takesNumber
  rw [nm_s, nm_s, h.2.1]
  have q0 : TQ J (up2 J 244 9 (0 : Int32)) := TQ.up J _ (by omega)
  obtain ⟨K, c, k1, k2, k3, k4, k5, k6⟩ := m_figs lo hi e L ht (h.q q0 (i' := i) (by rw [up2_n (by omega)]; exact h.2.1) hi') up2_s
  rw [k1, bd1_s, k3.2.1]
  have q1 := q0.tr k2
  have kc := k3.2.2.1
  have fail : nuP B lo hi i = none → ∃ b K', (bd2 (f_X11_fails (nI i) K L) (fun r19 I20 => gd (r19 = 0 ∨ r19 = 1) (some (r19, I20)))) = some (b, K') ∧ TQ J K' ∧ ((b = 1 ∧ ∃ i', nuE B lo hi e (.inr i) = .inr i' ∧ RT t B K' i' ∧ K' 244 9 = nuB B lo hi (.inr i)) ∨ (b = 0 ∧ ∃ f, nuE B lo hi e (.inr i) = .inl f ∧ K' 244 10 = nI f)) := fun hn => by
    rw [m_fails, bd2_s, gd_t (Or.inl rfl)]
    refine ⟨_, _, rfl, q1.tr (TQ.up K _ (by omega)), Or.inr ⟨rfl, i, ?_, up2_s⟩⟩
    show exS B e (nuN (nuP B lo hi i) i) = _
    rw [hn]
    rfl
  by_cases c0 : c = 0
  · subst c0
    rw [if_pos (show nI (i + 0) = nI i from rfl)]
    refine fail ?_
    unfold nuP
    rw [if_neg (show ¬ fg B i from k5)]
  · rw [if_neg (show ¬ nI (i + c) = nI i from fun q => by rw [nI_eq (by omega) (by omega)] at q; omega), pk_sub (show i ≤ i + c by omega), show i + c - i = c by omega]
    have f0 : fg B i := k4 0 (by omega)
    by_cases c2 : 2 < c
    · rw [if_pos (show (2 : Int32) < nI c from nI_lt (a := 2) c2 (by omega))]
      refine fail ?_
      unfold nuP
      rw [if_pos f0, if_pos (k4 1 (by omega)), if_pos (k4 2 (by omega))]
    · rw [if_neg (show ¬ (2 : Int32) < nI c from nI_nlt (a := 2) (by omega) (by omega)), s_in32, bd1_s, if_b, k6]
      have hnP : nuP B lo hi i = if lo ≤ vP B i c ∧ vP B i c ≤ hi then some (vP B i c, i + c) else none := by
        have hc : c = 1 ∨ c = 2 := by omega
        unfold nuP
        rcases hc with rfl | rfl
        · rw [if_pos f0, if_neg k5]
          rfl
        · rw [if_pos f0, if_pos (k4 1 (by omega)), if_neg k5]
          rfl
      by_cases c4 : lo ≤ vP B i c ∧ vP B i c ≤ hi
      · rw [if_pos c4] at hnP
        rw [if_pos c4]
        obtain ⟨b, K', t1, t2, t3, t4⟩ := m_takes e L ht he k3
        have hE : nuE B lo hi e (.inr i) = exS B e (.inr (i + c)) := by
          show exS B e (nuN (nuP B lo hi i) i) = _
          rw [hnP]
          rfl
        have hV : nuB B lo hi (.inr i) = vP B i c := by
          show nuV (nuP B lo hi i) = _
          rw [hnP]
          rfl
        rw [t1, bd2_s, hE, hV]
        rcases t4 with ⟨rfl, i', u1, u2⟩ | ⟨rfl, f, u1, u2⟩
        · rw [gd_t (Or.inr rfl)]
          exact ⟨_, _, rfl, q1.tr t2, Or.inl ⟨rfl, i', u1, u2, by rw [t3]; exact k6⟩⟩
        · rw [gd_t (Or.inl rfl)]
          exact ⟨_, _, rfl, q1.tr t2, Or.inr ⟨rfl, f, u1, u2⟩⟩
      · rw [if_neg c4]
        rw [if_neg c4] at hnP
        exact fail hnP
def WX (J K : MI) : Prop := (∀ c, c ≠ 244 → c ≠ 245 → K c = J c) ∧ (∀ s, s < 8 → K 244 s = J 244 s) ∧ ∀ j, j < 219 ∨ 292 ≤ j → K 245 j = J 245 j
theorem WX.rf (J : MI) : WX J J := ⟨fun _ _ _ => rfl, fun _ _ => rfl, fun _ _ => rfl⟩
theorem WX.tr {J K M : MI} (h : WX J K) (k : WX K M) : WX J M := ⟨fun c a b => (k.1 c a b).trans (h.1 c a b), fun s a => (k.2.1 s a).trans (h.2.1 s a), fun j a => (k.2.2 j a).trans (h.2.2 j a)⟩
theorem TQ.W {J K : MI} (h : TQ J K) : WX J K := ⟨fun c a _ => h.1 c a, fun s a => h.2 s (by omega) (by omega) (by omega), fun j _ => by rw [h.1 245 (by omega)]⟩
theorem WX.up (J : MI) {j : Nat} (v : Int32) (h : 219 ≤ j ∧ j < 292) : WX J (up2 J 245 j v) := ⟨fun c _ b => up2_ne b, fun s _ => by rw [up2_ne (by omega)], fun i hi => up2_n (by omega)⟩
theorem RT.w {J : MI} {t i : Nat} {B : Nat → Int32} (h : RT t B J i) (j : Nat) (v : Int32) : RT t B (up2 J 245 j v) i := by
  unfold RT
  rw [up2_ne (show 244 ≠ 245 by omega), up2_ne (show 250 ≠ 245 by omega)]
  exact h
theorem m_kindBy (b : Int32) : f_X11_kindBy b = some (kdP b) := by
  unfold f_X11_kindBy kdP
  simp only [some_if, bd1_s]
theorem up_self {I : MI} {i k : Nat} {v : Int32} : up2 I i k v i = upd (I i) k v := by
  unfold up2
  exact vu_at _ _ _
def wS (w : Nat → Int32) (m : Nat) (k ln hu co ca : Int32) : Nat → Int32 := upd (upd (upd (upd (upd (upd (upd (upd w (226 + m) k) (262 + m) (w 222)) (286 + m) (-1)) (232 + m) ln) (238 + m) hu) (244 + m) co) (250 + m) ca) 220 (nI (m + 1))
theorem m_takesSitter {J : MI} {t i m : Nat} {B : Nat → Int32} (L : ML) (ht : t ≤ 90) (hm : m ≤ 6) (h : RT t B J i) (hn : J 245 220 = nI m) : ∃ b K, f_X11_takesSitter J L = some (b, K) ∧ WX J K ∧ ((b = 1 ∧ m < 6 ∧ ∃ i', sp5 B (.inr i) = .inr i' ∧ RT t B K i' ∧ K 245 = wS (J 245) m (soB B (.inr i)) (nuB B 10 99 (soE B (.inr i))) (nuB B 0 9 (sp2 B (.inr i))) (nuB B 0 9 (sp3 B (.inr i))) (nuB B 0 9 (sp4 B (.inr i)))) ∨ (b = 0 ∧ ∃ f, (m < 6 → sp5 B (.inr i) = .inl f) ∧ (m = 6 → f = i) ∧ K 244 10 = nI f)) := by
  unfold f_X11_takesSitter
  rw [gi_t (show vp_in (220 : Int32) 1752 from vp_in_nI (n := 220) (by omega) (by omega)), nm_s, show (220 : Int32).toNatClampNeg = 220 from rfl, hn, m_byte L ht h, bd1_s, m_kindBy, bd1_s]
  by_cases c0 : kdP (B i) = 0
  · have es : soE B (.inr i) = .inl i := if_pos c0
    rw [if_pos c0, m_fails, bd2_s, gd_t (Or.inl rfl), h.2.1]
    refine ⟨_, _, rfl, (TQ.up J _ (by omega)).W, Or.inr ⟨rfl, i, fun _ => ?_, fun _ => rfl, up2_s⟩⟩
    unfold sp5 sp4 sp3 sp2
    rw [es]
    rfl
  · have es : soE B (.inr i) = .inr (i + 1) := if_neg c0
    have hlt : i < t := B_lt h (fun z => c0 (by rw [z]; decide))
    rw [if_neg c0]
    by_cases c6 : m = 6
    · rw [if_pos (show nI m = (6 : Int32) by rw [c6]; rfl), m_fails, bd2_s, gd_t (Or.inl rfl), h.2.1]
      exact ⟨_, _, rfl, (TQ.up J _ (by omega)).W, Or.inr ⟨rfl, i, fun z => absurd z (by omega), fun _ => rfl, up2_s⟩⟩
    · have n6 : ¬ nI m = (6 : Int32) := fun q => c6 ((nI_eq (a := m) (b := 6) (by omega) (by omega)).mp q)
      rw [if_neg n6, nm_s, iz 226 m (226 : Int32) rfl, iz 262 m (262 : Int32) rfl, iz 286 m (286 : Int32) rfl, iz 232 m (232 : Int32) rfl, iz 238 m (238 : Int32) rfl, iz 244 m (244 : Int32) rfl, iz 250 m (250 : Int32) rfl]
      rw [h.2.1, nI_1, gi_n (by omega) (by omega), nm_s, cl_n (show 226 + m < 2 ^ 31 by omega), gi_t (show vp_in (222 : Int32) 1752 from vp_in_nI (n := 222) (by omega) (by omega)), gi_n (by omega) (by omega), nm_s, cl_n (show 262 + m < 2 ^ 31 by omega), show (222 : Int32).toNatClampNeg = 222 from rfl, gi_n (by omega) (by omega), nm_s, cl_n (show 286 + m < 2 ^ 31 by omega)]
      have w0 : TQ J (up2 J 244 8 (nI (i + 1))) := TQ.up J _ (by omega)
      have r0 : RT t B (up2 J 244 8 (nI (i + 1))) (i + 1) := h.q w0 up2_s (by omega)
      have r1 := ((r0.w (226 + m) (kdP (B i))).w (262 + m) (up2 (up2 J 244 8 (nI (i + 1))) 245 (226 + m) (kdP (B i)) 245 222)).w (286 + m) (-1)
      have w1 := ((w0.W.tr (WX.up _ (j := 226 + m) (kdP (B i)) (by omega))).tr (WX.up _ (j := 262 + m) (up2 (up2 J 244 8 (nI (i + 1))) 245 (226 + m) (kdP (B i)) 245 222) (by omega))).tr (WX.up _ (j := 286 + m) (-1) (by omega))
      have u1 : up2 (up2 (up2 (up2 J 244 8 (nI (i + 1))) 245 (226 + m) (kdP (B i))) 245 (262 + m) (up2 (up2 J 244 8 (nI (i + 1))) 245 (226 + m) (kdP (B i)) 245 222)) 245 (286 + m) (-1) 245 = upd (upd (upd (J 245) (226 + m) (kdP (B i))) (262 + m) (J 245 222)) (286 + m) (-1) := by
        rw [up_self, up_self, up_self, pk_un (by omega), up2_ne (by omega)]
      generalize up2 (up2 (up2 (up2 J 244 8 (nI (i + 1))) 245 (226 + m) (kdP (B i))) 245 (262 + m) (up2 (up2 J 244 8 (nI (i + 1))) 245 (226 + m) (kdP (B i)) 245 222)) 245 (286 + m) (-1) = J1 at r1 w1 u1
      obtain ⟨b1, K1, a1, a2, a3⟩ := m_takesNumber 10 99 44 L ht (by decide) r1
      rw [a1, bd2_s]
      rcases a3 with ⟨rfl, i1, x1, x2, x3⟩ | ⟨rfl, f, x1, x2⟩
      · rw [if_neg (by decide), gi_n (by omega) (by omega), nm_s, cl_n (show 232 + m < 2 ^ 31 by omega), x3]
        have e2 : sp2 B (.inr i) = .inr i1 := by
          unfold sp2
          rw [es]
          exact x1
        have r2 := x2.w (232 + m) (nuB B 10 99 (.inr (i + 1)))
        have w2 := (w1.tr a2.W).tr (WX.up K1 (j := 232 + m) (nuB B 10 99 (.inr (i + 1))) (by omega))
        have u2 : up2 K1 245 (232 + m) (nuB B 10 99 (.inr (i + 1))) 245 = upd (J1 245) (232 + m) (nuB B 10 99 (.inr (i + 1))) := by rw [up_self, a2.1 245 (by omega)]
        generalize up2 K1 245 (232 + m) (nuB B 10 99 (.inr (i + 1))) = J2 at r2 w2 u2
        obtain ⟨b2, K2, b1', b2', b3'⟩ := m_takesNumber 0 9 44 L ht (by decide) r2
        rw [b1', bd2_s]
        rcases b3' with ⟨rfl, i2, y1, y2, y3⟩ | ⟨rfl, f, y1, y2⟩
        · rw [if_neg (by decide), gi_n (by omega) (by omega), nm_s, cl_n (show 238 + m < 2 ^ 31 by omega), y3]
          have e3 : sp3 B (.inr i) = .inr i2 := by
            unfold sp3
            rw [e2]
            exact y1
          have r3 := y2.w (238 + m) (nuB B 0 9 (.inr i1))
          have w3 := (w2.tr b2'.W).tr (WX.up K2 (j := 238 + m) (nuB B 0 9 (.inr i1)) (by omega))
          have u3 : up2 K2 245 (238 + m) (nuB B 0 9 (.inr i1)) 245 = upd (J2 245) (238 + m) (nuB B 0 9 (.inr i1)) := by rw [up_self, b2'.1 245 (by omega)]
          generalize up2 K2 245 (238 + m) (nuB B 0 9 (.inr i1)) = J3 at r3 w3 u3
          obtain ⟨b3, K3, c1', c2', c3'⟩ := m_takesNumber 0 9 44 L ht (by decide) r3
          rw [c1', bd2_s]
          rcases c3' with ⟨rfl, i3, z1, z2, z3⟩ | ⟨rfl, f, z1, z2⟩
          · rw [if_neg (by decide), gi_n (by omega) (by omega), nm_s, cl_n (show 244 + m < 2 ^ 31 by omega), z3]
            have e4 : sp4 B (.inr i) = .inr i3 := by
              unfold sp4
              rw [e3]
              exact z1
            have r4 := z2.w (244 + m) (nuB B 0 9 (.inr i2))
            have w4 := (w3.tr c2'.W).tr (WX.up K3 (j := 244 + m) (nuB B 0 9 (.inr i2)) (by omega))
            have u4 : up2 K3 245 (244 + m) (nuB B 0 9 (.inr i2)) 245 = upd (J3 245) (244 + m) (nuB B 0 9 (.inr i2)) := by rw [up_self, c2'.1 245 (by omega)]
            generalize up2 K3 245 (244 + m) (nuB B 0 9 (.inr i2)) = J4 at r4 w4 u4
            obtain ⟨b4, K4, d1', d2', d3'⟩ := m_takesNumber 0 9 59 L ht (by decide) r4
            rw [d1', bd2_s]
            rcases d3' with ⟨rfl, i4, v1, v2, v3⟩ | ⟨rfl, f, v1, v2⟩
            · rw [if_neg (by decide), gi_n (by omega) (by omega), nm_s, cl_n (show 250 + m < 2 ^ 31 by omega), v3, gi_t (show vp_in (220 : Int32) 1752 from vp_in_nI (n := 220) (by omega) (by omega)), gi_t (show vp_in (220 : Int32) 1752 from vp_in_nI (n := 220) (by omega) (by omega)), nm_s]
              have e5 : sp5 B (.inr i) = .inr i4 := by
                unfold sp5
                rw [e4]
                exact v1
              have u5 : up2 K4 245 (250 + m) (nuB B 0 9 (.inr i3)) 245 = upd (J4 245) (250 + m) (nuB B 0 9 (.inr i3)) := by rw [up_self, d2'.1 245 (by omega)]
              have n220 : up2 K4 245 (250 + m) (nuB B 0 9 (.inr i3)) 245 220 = nI m := by
                rw [u5, pk_un (by omega), u4, pk_un (by omega), u3, pk_un (by omega), u2, pk_un (by omega), u1, pk_un (by omega), pk_un (by omega), pk_un (by omega)]
                exact hn
              rw [n220, nI_1]
              refine ⟨1, _, rfl, ((w4.tr d2'.W).tr (WX.up K4 (j := 250 + m) _ (by omega))).tr (WX.up _ (j := 220) _ (by omega)), Or.inl ⟨rfl, by omega, i4, e5, (v2.w _ _).w _ _, ?_⟩⟩
              rw [up_self, u5, u4, u3, u2, u1, es, e2, e3, e4]
              rfl
            · rw [if_pos rfl]
              refine ⟨_, _, rfl, w4.tr d2'.W, Or.inr ⟨rfl, f, fun _ => ?_, fun z => absurd z c6, v2⟩⟩
              unfold sp5
              rw [e4]
              exact v1
          · rw [if_pos rfl]
            refine ⟨_, _, rfl, w3.tr c2'.W, Or.inr ⟨rfl, f, fun _ => ?_, fun z => absurd z c6, z2⟩⟩
            unfold sp5 sp4
            rw [e3, z1]
            rfl
        · rw [if_pos rfl]
          refine ⟨_, _, rfl, w2.tr b2'.W, Or.inr ⟨rfl, f, fun _ => ?_, fun z => absurd z c6, y2⟩⟩
          unfold sp5 sp4 sp3
          rw [e2, y1]
          rfl
      · rw [if_pos rfl]
        refine ⟨_, _, rfl, w1.tr a2.W, Or.inr ⟨rfl, f, fun _ => ?_, fun z => absurd z c6, x2⟩⟩
        unfold sp5 sp4 sp3 sp2
        rw [es, x1]
        rfl
