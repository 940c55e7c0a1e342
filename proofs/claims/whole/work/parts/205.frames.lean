/-! ===== what leaves the invariant as it is ===== -/
theorem mrec_congr {w w' : Nat → Int32} {o k f : Nat} (h : ∀ j, j < 73 → w' (o + j) = w (o + j)) (hk : k < 6) (hf : f ≤ 10) : mrec w' o k f = mrec w o k f := by
  unfold mrec
  by_cases e : f = 10
  · rw [if_pos e, if_pos e, show o + 67 + k = o + (67 + k) by omega, h _ (by omega)]
  · rw [if_neg e, if_neg e, show o + 7 + 6 * f + k = o + (7 + 6 * f + k) by omega, h _ (by omega)]
theorem okR_congr {s s' : Nat → Int32} (h : ∀ f, f ≤ 10 → s' f = s f) (k : okR s) : okR s' := by
  unfold okR at k ⊢
  rw [h 0 (by omega), h 1 (by omega), h 2 (by omega), h 3 (by omega), h 4 (by omega), h 5 (by omega), h 6 (by omega), h 7 (by omega), h 8 (by omega), h 9 (by omega), h 10 (by omega)]
  exact k
theorem okW.congr {I I' : MI} {w w' n : Nat} (h : okW I w n) (h1 : ∀ j, 1 ≤ j → j ≤ 6 → I' w' j = I w j) (h2 : ∀ k, k < n → ∀ f, f ≤ 10 → I' (w' + 2 + k) f = I (w + 2 + k) f) : okW I' w' n := by
  obtain ⟨a, b, c, d, e, f, g, i, j⟩ := h
  refine ⟨a, ?_, ?_, ?_, ?_, ?_, ?_, fun z => ?_, fun k hk => okR_congr (h2 k hk) (j k hk)⟩
  · rw [h1 1 (by omega) (by omega)]; exact b
  · rw [h1 2 (by omega) (by omega)]; exact c
  · rw [h1 3 (by omega) (by omega)]; exact d
  · rw [h1 4 (by omega) (by omega)]; exact e
  · rw [h1 5 (by omega) (by omega)]; exact f
  · rw [h1 6 (by omega) (by omega)]; exact g
  · rw [h1 2 (by omega) (by omega)]; exact i z
theorem RW.congr {I I' : MI} {w n o w' o' : Nat} (h : RW I w n o) (hn : n ≤ 6) (h1 : ∀ j, 1 ≤ j → j ≤ 6 → I' w' j = I w j) (h2 : ∀ k, k < n → ∀ f, f ≤ 10 → I' (w' + 2 + k) f = I (w + 2 + k) f) (h3 : ∀ j, j < 73 → I' 245 (o' + j) = I 245 (o + j)) : RW I' w' n o' := by
  obtain ⟨a, b, c, d⟩ := h
  refine ⟨?_, fun j x y => ?_, fun k f hk hf => ?_, fun k hk => ?_⟩
  · have := h3 0 (by omega)
    rw [Nat.add_zero, Nat.add_zero] at this
    rw [this]; exact a
  · rw [h1 j x y, h3 j (by omega)]; exact b j x y
  · rw [h2 k hk f hf, c k f hk hf]
    unfold mrec
    by_cases e : f = 10
    · rw [if_pos e, if_pos e, show o' + 67 + k = o' + (67 + k) by omega, h3 _ (by omega), show o + 67 + k = o + (67 + k) by omega]
    · rw [if_neg e, if_neg e, show o' + 7 + 6 * f + k = o' + (7 + 6 * f + k) by omega, h3 _ (by omega), show o + 7 + 6 * f + k = o + (7 + 6 * f + k) by omega]
  · rw [show o' + 67 + k = o' + (67 + k) by omega, h3 _ (by omega), show o + (67 + k) = o + 67 + k by omega]
    exact d k hk
theorem InvC.congr {I I' : MI} (h : InvC I) (h1 : I' 3 = I 3) (h2 : ∀ k, k < 6 → I' (5 + k) = I (5 + k)) (h3 : ∀ j, j < 73 → I' 245 j = I 245 j) : InvC I' := by
  obtain ⟨n, a, b⟩ := h
  have hn := a.1
  exact ⟨n, a.congr (fun j _ _ => by rw [h1]) (fun k hk f _ => by rw [show 3 + 2 + k = 5 + k by omega, h2 k (by omega)]), b.congr hn (fun j _ _ => by rw [h1]) (fun k hk f _ => by rw [show 3 + 2 + k = 5 + k by omega, h2 k (by omega)]) (fun j hj => by rw [Nat.zero_add]; exact h3 j hj)⟩
theorem InvU.congr {I I' : MI} (h : InvU I) (h1 : I' 19 = I 19) (h2 : ∀ i, 21 ≤ i → i < 181 → I' i = I i) (h3 : I' 244 2 = I 244 2) (h4 : ∀ j, 292 ≤ j → j < 1752 → I' 245 j = I 245 j) : InvU I' := by
  obtain ⟨u, p, a, b, c, d, e, f⟩ := h
  refine ⟨u, p, a, b, by rw [h1]; exact c, by rw [h3]; exact d, by rw [h1]; exact e, fun j hj => ?_⟩
  obtain ⟨n, hn, x, y⟩ := f j hj
  have hw : (p + 19 - j) % 20 < 20 := Nat.mod_lt _ (by omega)
  have h6 := x.1
  exact ⟨n, hn, x.congr (fun j _ _ => by rw [h2 _ (by omega) (by omega)]) (fun k hk f _ => by rw [h2 _ (by omega) (by omega)]), y.congr h6 (fun j _ _ => by rw [h2 _ (by omega) (by omega)]) (fun k hk f _ => by rw [h2 _ (by omega) (by omega)]) (fun j hj => h4 _ (by omega) (by omega))⟩
theorem InvI.congr {I I' : MI} (h : InvI I) (h2 : ∀ i, 182 ≤ i → i < 198 → I' i = I i) (h3 : I' 246 = I 246) (h4 : ∀ j, 73 ≤ j → j < 219 → I' 245 j = I 245 j) : InvI I' := by
  intro k hk
  rcases h k hk with ⟨a, b⟩ | ⟨a, n, hn, x, y⟩
  · exact Or.inl ⟨by rw [h2 _ (by omega) (by omega)]; exact a, by rw [h3]; exact b⟩
  · have h6 := x.1
    exact Or.inr ⟨by rw [h3]; exact a, n, hn, x.congr (fun j _ _ => by rw [h2 _ (by omega) (by omega)]) (fun k hk f _ => by rw [h2 _ (by omega) (by omega)]), y.congr h6 (fun j _ _ => by rw [h2 _ (by omega) (by omega)]) (fun k hk f _ => by rw [h2 _ (by omega) (by omega)]) (fun j hj => h4 _ (by omega) (by omega))⟩
theorem InvS.congr {I I' : MI} {L L' : ML} (h : InvS I L) (h1 : ∀ k, k < 4 → I' (199 + 2 * k) = I (199 + 2 * k)) (h2 : I' 248 = I 248) (h3 : I' 249 = I 249) (h4 : ∀ k, k < 4 → L' (200 + 2 * k) = L (200 + 2 * k)) (h5 : L' 247 = L 247) : InvS I' L' := by
  intro k hk
  rcases h k hk with ⟨a, b⟩ | ⟨x, n, hx⟩
  · exact Or.inl ⟨by rw [h1 k hk]; exact a, by rw [h3]; exact b⟩
  · refine Or.inr ⟨x, n, ?_⟩
    rw [h1 k hk, h2, h3, h4 k hk, h5]
    exact hx
theorem InvT.congr {I I' : MI} (h : InvT I) (h1 : I' 1 1 = I 1 1) (h2 : I' 2 = I 2) (h3 : I' 244 7 = I 244 7) (h4 : I' 250 = I 250) : InvT I' := by
  obtain ⟨t, a, b, c, d⟩ := h
  refine ⟨t, a, by rw [h1]; exact b, by rw [h3]; exact c, fun j hj => ?_⟩
  rw [h2, h4]
  exact d j hj
/-- nothing but what is only tried was written -/
def Kp (I I' : MI) : Prop := (∀ i, (i < 11 ∨ (19 ≤ i ∧ i < 207)) → I' i = I i) ∧ I' 244 2 = I 244 2 ∧ I' 244 7 = I 244 7 ∧ (∀ j, (j < 219 ∨ 292 ≤ j) → I' 245 j = I 245 j) ∧ I' 246 = I 246 ∧ I' 248 = I 248 ∧ I' 249 = I 249 ∧ I' 250 = I 250
theorem Kp.rf (I : MI) : Kp I I := ⟨fun _ _ => rfl, rfl, rfl, fun _ _ => rfl, rfl, rfl, rfl, rfl⟩
theorem Kp.tr {I J K : MI} (h : Kp I J) (k : Kp J K) : Kp I K := ⟨fun i hi => (k.1 i hi).trans (h.1 i hi), k.2.1.trans h.2.1, k.2.2.1.trans h.2.2.1, fun j hj => (k.2.2.2.1 j hj).trans (h.2.2.2.1 j hj), k.2.2.2.2.1.trans h.2.2.2.2.1, k.2.2.2.2.2.1.trans h.2.2.2.2.2.1, k.2.2.2.2.2.2.1.trans h.2.2.2.2.2.2.1, k.2.2.2.2.2.2.2.trans h.2.2.2.2.2.2.2⟩
theorem Inv.keep {I I' : MI} {L L' : ML} (h : Inv I L) (k : Kp I I') (hb : InvB I') (h4 : ∀ k, k < 4 → L' (200 + 2 * k) = L (200 + 2 * k)) (h5 : L' 247 = L 247) : Inv I' L' := by
  obtain ⟨a, b, c, d, e, f⟩ := h
  obtain ⟨k1, k2, k3, k4, k5, k6, k7, k8⟩ := k
  exact ⟨a.congr (k1 _ (by omega)) (fun k hk => k1 _ (by omega)) (fun j hj => k4 j (by omega)), b.congr (k1 _ (by omega)) (fun i h1 h2 => k1 _ (by omega)) k2 (fun j h1 h2 => k4 j (by omega)), c.congr (fun i h1 h2 => k1 _ (by omega)) k5 (fun j h1 h2 => k4 j (by omega)), hb, e.congr (fun k hk => k1 _ (by omega)) k6 k7 h4 h5, f.congr (by rw [k1 1 (by omega)]) (k1 2 (by omega)) k3 k8⟩
/-- a sitter's number, or none -/
theorem has_cases (a : Int32) {n : Nat} (hn : n ≤ 6) : (∃ k, k < n ∧ a = nI k) ∨ ¬ (0 ≤ a ∧ a < nI n) := by
  rcases pk_ix a (n := n) (by omega) with h | h | h
  · exact Or.inr (fun q => absurd q.1 (i32_nle.mpr h))
  · exact Or.inr (fun q => absurd h (i32_nle.mpr q.2))
  · exact Or.inl h
theorem s_has {I : MI} {w n : Nat} (a : Int32) (L : ML) (hn : n ≤ 6) (h : I w 1 = nI n) : f_X9_has w a I L = some (b01 (0 ≤ a ∧ a < nI n)) := by
  simp only [f_X9_has, some_if, bd1_s, if_01, if_0b, gd_b, h]
  refine congrArg some (b01_iff ?_)
  rw [i32_nlt, i32_nle, i32_nle]
  have h6 : nI n ≤ 6 := nI_le (b := 6) (by omega) (by omega)
  refine ⟨fun q => ⟨q.1, q.2.1⟩, fun q => ⟨q.1, q.2, ?_⟩⟩
  exact fa_trans q.2 h6
theorem s_isSitter {I : MI} {n : Nat} (a : Int32) (L : ML) (hn : n ≤ 6) (h : I 245 1 = nI n) : f_X11_isSitter a I L = some (b01 (0 ≤ a ∧ a < nI n)) := by
  have h1 : (I 245 (1 : Int32).toNatClampNeg) = nI n := h
  simp only [f_X11_isSitter, gi_t (show vp_in (1 : Int32) 1752 from vp_in_nI (n := 1) (by omega) (by omega)), h1]
  rw [show (0 : Int64) = (0 : Int32).toInt64 from rfl, s_in32]
  simp only [bd1_s, gd_b]
  refine congrArg some (b01_iff ?_)
  have z : (0 : Int32).toInt = 0 := rfl
  rw [fa_le 0 a, fa_le a, fa_lt a, show nI n - 1 = nI n - nI 1 from rfl, pk_sub_toInt (by omega) (by omega), nI_toInt (by omega)]
  omega
theorem nI_sit {k n : Nat} (h : k < n) (hn : n ≤ 6) : (0 : Int32) ≤ nI k ∧ nI k < nI n := ⟨nI_pos' (by omega), nI_lt h (by omega)⟩
