/-! ===== round ===== -/
def clr (m z : Nat) : Nat := if m.testBit z then m - 2 ^ z else m
def mnN (f : Nat → Nat) (m : Nat) : Nat → Nat
  | 0 => 1000000
  | j + 1 => if m.testBit (j + 1) then min (mnN f m j) (f (j + 1)) else mnN f m j
def WF (d : Nat → Nat → Nat) (M : Nat) : Nat → Nat → Nat → Nat
  | 0, a, _ => d a 0
  | n + 1, a, m => if m = 0 then d a 0 else mnN (fun z => d a z + WF d M n z (clr m z)) m (M - 1)
theorem mn_le (f : Nat → Nat) (m : Nat) : ∀ j, mnN f m j ≤ 1000000
  | 0 => Nat.le_refl _
  | j + 1 => by
    have := mn_le f m j
    show (if m.testBit (j + 1) then min (mnN f m j) (f (j + 1)) else mnN f m j) ≤ 1000000
    by_cases c : m.testBit (j + 1) = true
    · rw [if_pos c]; omega
    · rw [if_neg c]; exact this
theorem WF_le {d : Nat → Nat → Nat} {M : Nat} (hd : ∀ a b, d a b ≤ 198) : ∀ n a m, WF d M n a m ≤ 1000000
  | 0, a, _ => by have := hd a 0; show d a 0 ≤ _; omega
  | n + 1, a, m => by
    show (if m = 0 then d a 0 else mnN (fun z => d a z + WF d M n z (clr m z)) m (M - 1)) ≤ 1000000
    by_cases c : m = 0
    · rw [if_pos c]; have := hd a 0; omega
    · rw [if_neg c]; exact mn_le _ _ _
theorem clr' : ∀ m, m < 128 → ∀ z, z < 7 → (nI m &&& (((1 : Int32) <<< (nI z &&& (31 : Int32))) ^^^ (-1 : Int32)) = nI (clr m z) ∧ clr m z < 128 ∧ (m.testBit z = true → pop (clr m z) + 1 = pop m)) := by decide +kernel
theorem pop_0' : ∀ m, m < 128 → pop m = 0 → m = 0 := by decide +kernel
theorem has7' : ∀ m, m < 128 → ∀ x, x < 7 → (((nI m >>> (nI x &&& (31 : Int32))) &&& (1 : Int32)) = 1 ↔ m.testBit x = true) := by decide +kernel
def ds (x y : Nat → Nat) (a b : Nat) : Nat := (x a - x b) + (x b - x a) + ((y a - y b) + (y b - y a))
theorem ds_sym (x y : Nat → Nat) (a b : Nat) : ds x y a b = ds x y b a := by unfold ds; omega
theorem mabs_n {a b : Nat} (ha : a ≤ 99) (hb : b ≤ 99) : mabs (nI a - nI b) = nI ((a - b) + (b - a)) := by
  unfold mabs
  have z : (0 : Int32).toInt = 0 := rfl
  have e : (nI a - nI b).toInt = (a : Int) - b := pk_sub_toInt (by omega) (by omega)
  by_cases c : 0 ≤ nI a - nI b
  · rw [if_pos c]
    rw [fa_le, z, e] at c
    rw [fa_eq, e, nI_bd (by omega)]
    omega
  · rw [if_neg c]
    rw [fa_le, z, e] at c
    rw [fa_eq, fb_subI (by omega) (by omega), z, e, nI_bd (by omega)]
    omega
/-- what the class holds of the stops -/
def PC (I : MI) (M : Nat) (x y : Nat → Nat) : Prop := I 237 2 = nI M ∧ ∀ j, j < M → I 238 j = nI (x j) ∧ I 239 j = nI (y j) ∧ x j ≤ 99 ∧ y j ≤ 99
theorem s_between {I : MI} {M a b : Nat} {x y : Nat → Nat} (L : ML) (h : PC I M x y) (hM : M ≤ 7) (ha : a < M) (hb : b < M) : f_X8_between (nI a) (nI b) I L = some (nI (ds x y a b)) := by
  obtain ⟨a1, a2, a3, a4⟩ := h.2 a ha
  obtain ⟨b1, b2, b3, b4⟩ := h.2 b hb
  unfold f_X8_between
  rw [gi_n (by omega) (by omega), gi_n (by omega) (by omega), gi_n (by omega) (by omega), gi_n (by omega) (by omega), cl_n (by omega), cl_n (by omega), a1, a2, b1, b2, mabs_n a3 b3, mabs_n a4 b4, nI_add]
  rfl
theorem mmin_n {a b : Nat} (ha : a < 2 ^ 31) (hb : b < 2 ^ 31) : mmin (nI a) (nI b) = nI (min a b) := by
  rw [mmin_eq]
  by_cases c : b ≤ a
  · rw [if_pos (nI_le c ha), show min a b = b by omega]
  · rw [if_neg (nI_ge (by omega) hb), show min a b = a by omega]
theorem s_way {I : MI} {M : Nat} {x y : Nat → Nat} (L : ML) (h : PC I M x y) (hM : M ≤ 7) (hM0 : 0 < M) (hd : ∀ a b, ds x y a b ≤ 198) : ∀ (n F a m dep : Nat), a < M → m < 128 → (∀ z, m.testBit z = true → z < M) → pop m ≤ n → dep + n ≤ 7 → n < F → f_X8_wayFrom F (nI a) (nI m) (nI dep) I L = some (nI (WF (ds x y) M n a m))
  | 0, F, a, m, dep, ha, hm, hz, hp, hdep, hF => by
    obtain ⟨F, rfl⟩ : ∃ F', F = F' + 1 := ⟨F - 1, by omega⟩
    have e0 : m = 0 := pop_0' m hm (by omega)
    subst e0
    simp only [f_X8_wayFrom]
    rw [if_pos (show nI 0 = 0 from rfl), show f_X8_between (nI a) (0 : Int32) I L = f_X8_between (nI a) (nI 0) I L from rfl, s_between L h hM ha hM0, bd1_s]
    rfl
  | n + 1, F, a, m, dep, ha, hm, hz, hp, hdep, hF => by
    obtain ⟨F, rfl⟩ : ∃ F', F = F' + 1 := ⟨F - 1, by omega⟩
    show (if nI m = 0 then bd1 (f_X8_between (nI a) (0 : Int32) I L) (fun r2 => some r2) else (if nI dep < (7 : Int32) then bd1 (lp (fun s => b_X8_wayFrom_24 (f_X8_wayFrom F) (nI a) (nI m) (nI dep) I L s.1 s.2) FU (((1000000 : Int32), (1 : Int32)))) (fun y18 => some y18) else _)) = some (nI (if m = 0 then ds x y a 0 else mnN (fun z => ds x y a z + WF (ds x y) M n z (clr m z)) m (M - 1)))
    by_cases c : m = 0
    · subst c
      rw [if_pos (show nI 0 = 0 from rfl), if_pos rfl, show f_X8_between (nI a) (0 : Int32) I L = f_X8_between (nI a) (nI 0) I L from rfl, s_between L h hM ha hM0, bd1_s]
    · rw [if_neg (show ¬ nI m = 0 from fun q => c ((nI_eq (b := 0) (by omega) (by omega)).mp q)), if_neg c, if_pos (show nI dep < (7 : Int32) from nI_lt (b := 7) (by omega) (by omega))]
      rw [bd1_of (lp_forF (s0 := ((1000000 : Int32), (1 : Int32))) (fun j => (nI (mnN (fun z => ds x y a z + WF (ds x y) M n z (clr m z)) m j), nI (j + 1))) (M - 1) (x := nI (mnN (fun z => ds x y a z + WF (ds x y) M n z (clr m z)) m (M - 1))) rfl (fun j hj => ?_) ?_ (by omega))]
      · simp only [b_X8_wayFrom_24]
        rw [h.1, if_pos (nI_le (by omega) (by omega))]
      · simp only [b_X8_wayFrom_24]
        have hl := mn_le (fun z => ds x y a z + WF (ds x y) M n z (clr m z)) m j
        have hw := WF_le (M := M) hd n (j + 1) (clr m (j + 1))
        have h1 := hd a (j + 1)
        obtain ⟨e1, e2, e3⟩ := clr' m hm (j + 1) (by omega)
        rw [h.1, if_neg (nI_ge (by omega) (by omega)), s_between L h hM ha (by omega), bd1_s, e1, nI_1]
        show _ = some (Sum.inl (nI (if m.testBit (j + 1) then min (mnN (fun z => ds x y a z + WF (ds x y) M n z (clr m z)) m j) (ds x y a (j + 1) + WF (ds x y) M n (j + 1) (clr m (j + 1))) else mnN (fun z => ds x y a z + WF (ds x y) M n z (clr m z)) m j), nI (j + 1 + 1)))
        by_cases d : m.testBit (j + 1) = true
        · rw [if_pos ((has7' m hm (j + 1) (by omega)).mpr d), s_way L h hM hM0 hd n F (j + 1) (clr m (j + 1)) (dep + 1) (by omega) e2 (fun z q => hz z (by
            unfold clr at q
            rw [if_pos d] at q
            by_cases w : m.testBit z = true
            · exact w
            · exfalso
              have k : ∀ m, m < 128 → ∀ j, j < 7 → m.testBit j = true → ∀ z, z < 7 → (m - 2 ^ j).testBit z = true → m.testBit z = true := by decide +kernel
              by_cases z7 : z < 7
              · exact w (k m hm (j + 1) (by omega) d z z7 q)
              · have lt : m - 2 ^ (j + 1) < 2 ^ z := Nat.lt_of_lt_of_le (show m - 2 ^ (j + 1) < 2 ^ 7 from Nat.lt_of_le_of_lt (Nat.sub_le _ _) hm) (Nat.pow_le_pow_right (by omega) (by omega))
                rw [Nat.testBit_lt_two_pow lt] at q
                exact absurd q (by decide))) (by have := e3 d; omega) (by omega) (by omega), bd1_s, nm_s, nI_add, mmin_n (by omega) (by omega), nm_s, bd1_s, nm_s, nI_1, if_pos d]
        · rw [if_neg (fun q => d ((has7' m hm (j + 1) (by omega)).mp q)), bd1_s, nm_s, nI_1, if_neg d]
