theorem Inv.sit {I : MI} {L : ML} (h : Inv I L) {n k : Nat} (hW : okW I 3 n) (hR : RW I 3 n 0) (hk : k < n) : ∃ I1, f_X3_keep 3 I L = some I1 ∧ (∀ i, i < 19 ∨ 181 ≤ i → I1 i = I i) ∧ ∀ (s : Nat → Int32) (I2 : MI), okR s → (∀ i, i ≠ 3 + 2 + k → I2 i = I1 i) → (∀ f, f ≤ 10 → I2 (3 + 2 + k) f = s f) → ∃ I3, f_X11_minds I2 L = some I3 ∧ (∀ i, i ≠ 244 → i ≠ 245 → I3 i = I2 i) ∧ (∀ j, j < 292 → I3 245 j = I 245 j) ∧ ∀ I4 : MI, (∀ i, i ≠ 245 → I4 i = I3 i) → (∀ j, (∀ f, f ≤ 10 → j ≠ 7 + 6 * f + k) → I4 245 j = I3 245 j) → (∀ f, f ≤ 9 → I4 245 (7 + 6 * f + k) = s f) → ((s 10 = -4 ∧ I4 245 (67 + k) = -1) ∨ I4 245 (67 + k) = s 10 ∧ rg (s 10) 0 20000) → Inv I4 L := by
  have h6 := hW.1
  obtain ⟨I1, k1, k2, k3, k4⟩ := h.mind (by omega) hW hR
  refine ⟨I1, k1, k2, fun s I2 hs e1 e2 => ?_⟩
  obtain ⟨I3, m1, m2, m3, m4, m5⟩ := k4 I2 (fun i hi => e1 i (by omega))
  have h45 : ∀ j, j < 292 → I3 245 j = I 245 j := fun j hj => by rw [m4 j hj, e1 _ (by omega), k2 _ (by omega)]
  refine ⟨I3, m1, m2, h45, fun I4 f1 f2 f3 f4 => ?_⟩
  refine h.act m5 (InvC.one (s := s) hW hR hk hs ?_ ?_ ?_ ?_ ?_ f3 f4) ?_ (fun i _ hi => f1 i hi) ?_ ?_ ?_ ?_
  · rw [f1 _ (by omega), m2 _ (by omega) (by omega), e1 _ (by omega), k2 _ (by omega)]
  · intro q hq hqk
    rw [f1 _ (by omega), m2 _ (by omega) (by omega), e1 _ (by omega), k2 _ (by omega)]
  · intro f hf
    rw [f1 _ (by omega), m2 _ (by omega) (by omega)]
    have := e2 f hf
    rw [show 3 + 2 + k = 5 + k by omega] at this
    exact this
  · intro j hj
    rw [f2 j (fun f hf => by omega), h45 j (by omega)]
  · intro q f hq hqk hf
    rw [f2 _ (fun g hg => by omega), h45 _ (by omega)]
  · intro i hi
    by_cases e : i = 3 + 2 + k
    · rw [f1 i (by omega), m2 i (by omega) (by omega), e, e2 9 (by omega)]
      exact e01 hs.2.2.2.2.2.2.2.2.2.1
    · have e5 : i ≠ 245 := fun q => by rw [q] at hi; exact absurd hi (by decide)
      have e4 : i ≠ 244 := fun q => by rw [q] at hi; exact absurd hi (by decide)
      rw [f1 i e5, m2 i e4 e5, e1 i e]
      exact k3 i hi
  · intro j hj
    rw [f2 j (fun f hf => by omega)]
  · intro i hi h4 h5
    rw [f1 i h5, m2 i h4 h5, e1 i (by omega), k2 i (by omega)]
  · rw [f1 _ (by omega), m3 _ (by omega), e1 _ (by omega), k2 _ (by omega)]
  · intro j x y
    rw [f2 j (fun f hf => by omega), h45 j (by omega)]
/-- a sitter that sits has no hour of going down -/
theorem RW.none {I : MI} {w n o k : Nat} (h : RW I w n o) (hk : k < n) (hs : I (w + 2 + k) 10 = -4) : I 245 (o + 67 + k) = -1 := by
  have h1 := (h.sits hk).mp hs
  have h2 := h.2.2.2 k hk
  rw [fa_le] at h1
  have e : (0 : Int32).toInt = 0 := rfl
  have e1 : (-1 : Int32).toInt = -1 := rfl
  rw [fa_eq]
  omega
theorem RW.up {I : MI} {w n o k : Nat} (h : RW I w n o) (hk : k < n) (hs : ¬ I (w + 2 + k) 10 = -4) : I 245 (o + 67 + k) = I (w + 2 + k) 10 ∧ 0 ≤ I 245 (o + 67 + k) := by
  have h1 : 0 ≤ I 245 (o + 67 + k) := Decidable.not_not.mp (fun q => hs ((h.sits hk).mpr q))
  refine ⟨?_, h1⟩
  rw [h.2.2.1 k 10 hk (by omega)]
  unfold mrec
  rw [if_pos rfl, if_neg (by rw [i32_nlt]; exact h1)]
theorem ok_news (a1 : Int32) (a2 : Int32) {I : MI} {L : ML} (h : Inv I L) : ∃ (r : Int32) (I1 : MI) (I2 : MI), f_X10_news a1 a2 I L = some (r, I1) ∧ f_X11_news a1 a2 I1 L = some (r, I2) ∧ Inv I2 L := by
  obtain ⟨n, hW, hR⟩ := h.1
  have hn := hW.1
  have e1 : I 245 1 = nI n := by rw [← hW.2.1]; exact (hR.2.1 1 (by omega) (by omega)).symm
  unfold f_X10_news f_X11_news
  rw [s_has a1 L hn hW.2.1, bd1_s, if_b, s_within, bd1_s, if_b, show (0 : Int64) = (0 : Int32).toInt64 from rfl, show (2 : Int64) = (2 : Int32).toInt64 from rfl]
  simp only [s_in32, bd1_s, if_b]
  rcases has_cases a1 hn with ⟨k, hk, rfl⟩ | hno
  · rw [if_pos (nI_sit hk hn), gi_n (by omega) (by omega), cl_n (by omega), s_sits, bd1_s, if_b]
    by_cases c2 : (0 : Int32) ≤ a2 ∧ a2 ≤ 2
    · rw [if_pos c2]
      by_cases c3 : I (3 + 2 + k) 10 = -4
      · rw [if_pos c3]
        obtain ⟨I1, k1, k2, k3⟩ := h.sit hW hR hk
        have hok := hW.2.2.2.2.2.2.2.2 k hk
        obtain ⟨I3, m1, m2, m3, m4⟩ := k3 (fun f => if f = 7 then a2 else I (3 + 2 + k) f) (up2 I1 (3 + 2 + k) 7 a2) (by
          obtain ⟨o0, o1, o2, o3, o4, o5, o6, o7, o8, o9, o10⟩ := hok
          refine ⟨o0, o1, o2, o3, o4, o5, o6, ?_, o8, o9, o10⟩
          have z0 : (0 : Int32).toInt = 0 := rfl
          have z1 : (2 : Int32).toInt = 2 := rfl
          rw [fa_le, fa_le, z0, z1] at c2
          exact c2) (fun i hi => up2_ne hi) (fun f hf => by
            rw [up2_at, k2 _ (by omega)]
            by_cases c : f = 7
            · rw [if_pos ⟨rfl, c⟩, if_pos c]
            · rw [if_neg (fun q => c q.2), if_neg c])
        have hb : f_X11_isSitter (nI k) (up2 I1 (3 + 2 + k) 7 a2) L = some (b01 (0 ≤ nI k ∧ nI k < nI n)) := s_isSitter _ L hn (by rw [up2_ne (by omega), k2 _ (by omega)]; exact e1)
        have hd : up2 I1 (3 + 2 + k) 7 a2 245 (0 + 67 + k) = -1 := by rw [up2_ne (by omega), k2 _ (by omega)]; exact hR.none hk c3
        have ei : (49 : Int32) + nI k = nI (49 + k) := nI_add 49 k
        refine ⟨I (3 + 2 + k) 7, _, up2 I3 245 (49 + k) a2, by rw [k1, bd1_s, nm_s, nm_s, k2 _ (by omega)], ?_, m4 _ (fun i hi => up2_ne hi) (fun j hj => up2_n (fun q => hj 7 (by omega) (by omega))) (fun f hf => ?_) (Or.inl ⟨c3, ?_⟩)⟩
        · rw [hb, bd1_s, if_b, if_pos (nI_sit hk hn), if_pos c2, show (0 : Int32) = nI 0 from rfl, m_isDown L (by omega), bd1_s, hd, if_pos (show b01 ((0 : Int32) ≤ -1) = nI 0 by decide), m1, bd1_s, ei, gi_n (by omega) (by omega), nm_s, gi_n (by omega) (by omega), nm_s, cl_n (by omega), m3 _ (by omega), hR.mr hk (show 7 < 10 by omega), show 0 + 7 + 6 * 7 + k = 49 + k by omega]
        · rw [up2_at]
          by_cases c : f = 7
          · rw [if_pos ⟨rfl, by omega⟩, if_pos c]
          · rw [if_neg (fun q => c (by omega)), if_neg c, m3 _ (by omega), hR.mr hk (by omega), show 0 + 7 + 6 * f + k = 7 + 6 * f + k by omega]
        · rw [up2_n (by omega), m3 _ (by omega)]
          have := hR.none hk c3
          rw [show 0 + 67 + k = 67 + k by omega] at this
          exact this
      · rw [if_neg c3]
        refine ⟨-2, I, I, rfl, ?_, h⟩
        rw [s_isSitter _ L hn e1, bd1_s, if_b, if_pos (nI_sit hk hn), if_pos c2, show (0 : Int32) = nI 0 from rfl, m_isDown L (by omega), bd1_s, b01_t (hR.up hk c3).2, if_neg (by decide)]
    · rw [if_neg c2]
      refine ⟨-1, I, I, rfl, ?_, h⟩
      rw [s_isSitter _ L hn e1, bd1_s, if_b, if_pos (nI_sit hk hn), if_neg c2]
  · rw [if_neg hno]
    refine ⟨-1, I, I, rfl, ?_, h⟩
    rw [s_isSitter _ L hn e1, bd1_s, if_b, if_neg hno]
