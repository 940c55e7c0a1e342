theorem m_off {a b : Nat} (ha : a ≤ 99) (hb : b ≤ 99) : f_X11_off (lN a) (lN b) = some (nI ((a - b) + (b - a))) := by
  unfold f_X11_off
  have k : 0 ≤ lg_cmp (lN a) (lN b) ↔ b ≤ a := by
    rw [← i32_nlt, lg_lt, pk_lLT (by omega) (by omega)]
    omega
  by_cases c : b ≤ a
  · rw [if_pos (k.mpr c), bd1_s, lN_sub c, lN_i, show a - b + (b - a) = a - b by omega]
  · rw [if_neg (fun q => c (k.mp q)), bd1_s, lN_sub (by omega), lN_i, show a - b + (b - a) = b - a by omega]
theorem m_wayOf {I : MI} {L : ML} {o M a b : Nat} {x y : Nat → Nat} (ho : o + 2 * M ≤ 96) (ha : a < M) (hb : b < M) (h : ∀ j, j < M → L 247 (o + 2 * j) = lN (x j) ∧ L 247 (o + 2 * j + 1) = lN (y j) ∧ x j ≤ 99 ∧ y j ≤ 99) : f_X11_wayOf (nI o) (nI a) (nI b) I L = some (nI (ds x y a b)) := by
  obtain ⟨a1, a2, a3, a4⟩ := h a ha
  obtain ⟨b1, b2, b3, b4⟩ := h b hb
  unfold f_X11_wayOf
  rw [two_n, two_n, nI_add, nI_add, nI_1, nI_1, gi_n (by omega) (by omega), gi_n (by omega) (by omega), cl_n (by omega), cl_n (by omega), cl_n (by omega), cl_n (by omega), a1, b1, m_off a3 b3, bd1_s, gi_n (by omega) (by omega), gi_n (by omega) (by omega), a2, b2, m_off a4 b4, bd1_s, nI_add]
  rfl
theorem mn_congr {f g : Nat → Nat} {m : Nat} : ∀ j, (∀ z, 1 ≤ z → z ≤ j → m.testBit z = true → f z = g z) → mnN f m j = mnN g m j
  | 0, _ => rfl
  | j + 1, h => by
    show (if m.testBit (j + 1) then min (mnN f m j) (f (j + 1)) else mnN f m j) = (if m.testBit (j + 1) then min (mnN g m j) (g (j + 1)) else mnN g m j)
    rw [mn_congr j (fun z a b c => h z a (by omega) c)]
    by_cases c : m.testBit (j + 1) = true
    · rw [if_pos c, if_pos c, h (j + 1) (by omega) (by omega) c]
    · rw [if_neg c, if_neg c]
/-- the count of hours does not matter once it is enough -/
theorem WF_fuel {d : Nat → Nat → Nat} {M : Nat} (hM : M ≤ 7) : ∀ (n a m : Nat), m < 128 → pop m ≤ n → WF d M (n + 1) a m = WF d M n a m
  | 0, a, m, hm, hp => by
    have e0 : m = 0 := pop_0' m hm (by omega)
    subst e0
    show (if 0 = 0 then d a 0 else _) = d a 0
    rw [if_pos rfl]
  | n + 1, a, m, hm, hp => by
    show (if m = 0 then d a 0 else mnN (fun z => d a z + WF d M (n + 1) z (clr m z)) m (M - 1)) = (if m = 0 then d a 0 else mnN (fun z => d a z + WF d M n z (clr m z)) m (M - 1))
    by_cases c : m = 0
    · rw [if_pos c, if_pos c]
    · rw [if_neg c, if_neg c]
      refine mn_congr (M - 1) (fun z z1 z2 z3 => ?_)
      obtain ⟨e1, e2, e3⟩ := clr' m hm z (by omega)
      show d a z + WF d M (n + 1) z (clr m z) = d a z + WF d M n z (clr m z)
      rw [WF_fuel hM n z (clr m z) e2 (by have := e3 z3; omega)]
