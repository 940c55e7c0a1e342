/-! ===== the pure part: words ===== -/
theorem bd1_s {α β : Type} (a : α) (f : α → Option β) : bd1 (some a) f = f a := rfl
theorem bd2_s {A B Z : Type} (a : A) (b : B) (f : A → B → Option Z) : bd2 (some (a, b)) f = f a b := rfl
theorem bd3_s {A B C Z : Type} (a : A) (b : B) (c : C) (f : A → B → C → Option Z) : bd3 (some (a, b, c)) f = f a b c := rfl
theorem bd4_s {A B C D Z : Type} (a : A) (b : B) (c : C) (d : D) (f : A → B → C → D → Option Z) : bd4 (some (a, b, c, d)) f = f a b c d := rfl
theorem bd5_s {A B C D E Z : Type} (a : A) (b : B) (c : C) (d : D) (e : E) (f : A → B → C → D → E → Option Z) : bd5 (some (a, b, c, d, e)) f = f a b c d e := rfl
theorem nm_s {α β : Type} (a : α) (f : α → Option β) : nm a f = f a := rfl
theorem gd_t {β : Type} {c : Prop} [Decidable c] {o : Option β} (h : c) : gd c o = o := if_pos h
theorem gi_t {β : Type} {j : Int32} {n : Nat} {o : Option β} (h : vp_in j n) : gi j n o = o := if_neg h
theorem gi_n {β : Type} {k n : Nat} {o : Option β} (h : k < n) (hn : n < 2 ^ 31) : gi (nI k) n o = o := gi_t (vp_in_nI h hn)
theorem bd1_if {α β : Type} {c : Prop} [Decidable c] (a b : α) (f : α → Option β) : bd1 (if c then some a else some b) f = f (if c then a else b) := by
  by_cases h : c
  · rw [if_pos h, if_pos h]; rfl
  · rw [if_neg h, if_neg h]; rfl
theorem lp_s {S X : Type} (f : S → Option (S ⊕ X)) (n : Nat) (s : S) : lp f (n + 1) s = (f s).bind (fun r => Sum.elim (lp f n) some r) := rfl
/-- a loop, by the states that it goes through -/
theorem lp_for {S X : Type} {f : S → Option (S ⊕ X)} (σ : Nat → S) (n : Nat) {x : X} (hs : ∀ k, k < n → f (σ k) = some (.inl (σ (k + 1)))) (hx : f (σ n) = some (.inr x)) : ∀ (F : Nat), n < F → lp f F (σ 0) = some x := by
  have key : ∀ (d F k : Nat), k + d = n → d < F → lp f F (σ k) = some x := by
    intro d
    induction d with
    | zero =>
      intro F k hk hF
      obtain ⟨F, rfl⟩ : ∃ F', F = F' + 1 := ⟨F - 1, by omega⟩
      rw [lp_s, show k = n by omega, hx]
      rfl
    | succ d ih =>
      intro F k hk hF
      obtain ⟨F, rfl⟩ : ∃ F', F = F' + 1 := ⟨F - 1, by omega⟩
      rw [lp_s, hs k (by omega)]
      exact ih F (k + 1) (by omega) (by omega)
  intro F hF
  exact key n F 0 (by omega) hF
theorem lp_forF {S X : Type} {f : S → Option (S ⊕ X)} (σ : Nat → S) (n : Nat) {x : X} {s0 : S} (h0 : s0 = σ 0) (hs : ∀ k, k < n → f (σ k) = some (.inl (σ (k + 1)))) (hx : f (σ n) = some (.inr x)) (hF : n < 2000) : lp f FU s0 = some x := by
  rw [h0]
  exact lp_for σ n hs hx FU hF
/-- a loop, by what holds of its states -/
theorem lp_inv {S X : Type} {f : S → Option (S ⊕ X)} (P : Nat → S → Prop) (Z : X → Prop) (n : Nat) (hs : ∀ k s, k < n → P k s → ∃ s', f s = some (.inl s') ∧ P (k + 1) s') (hx : ∀ s, P n s → ∃ x, f s = some (.inr x) ∧ Z x) : ∀ (F : Nat), n < F → ∀ s, P 0 s → ∃ x, lp f F s = some x ∧ Z x := by
  have key : ∀ (d F k : Nat), k + d = n → d < F → ∀ s, P k s → ∃ x, lp f F s = some x ∧ Z x := by
    intro d
    induction d with
    | zero =>
      intro F k hk hF s hP
      obtain ⟨F, rfl⟩ : ∃ F', F = F' + 1 := ⟨F - 1, by omega⟩
      rw [show k = n by omega] at hP
      obtain ⟨x, h1, h2⟩ := hx s hP
      exact ⟨x, by rw [lp_s, h1]; rfl, h2⟩
    | succ d ih =>
      intro F k hk hF s hP
      obtain ⟨F, rfl⟩ : ∃ F', F = F' + 1 := ⟨F - 1, by omega⟩
      obtain ⟨s', h1, h2⟩ := hs k s (by omega) hP
      obtain ⟨x, h3, h4⟩ := ih F (k + 1) (by omega) (by omega) s' h2
      exact ⟨x, by rw [lp_s, h1]; exact h3, h4⟩
  intro F hF s hP
  exact key n F 0 (by omega) hF s hP
theorem up2_at (I : MI) (i k : Nat) (v : Int32) (a j : Nat) : up2 I i k v a j = if a = i ∧ j = k then v else I a j := by
  unfold up2 va_up
  by_cases h : a = i
  · subst h
    by_cases h2 : j = k <;> simp [upd, h2]
  · simp [h]
theorem up2_ne {I : MI} {i k : Nat} {v : Int32} {a : Nat} (h : a ≠ i) : up2 I i k v a = I a := by
  unfold up2 va_up
  simp [h]
theorem up2_s {I : MI} {i k : Nat} {v : Int32} : up2 I i k v i k = v := by rw [up2_at, if_pos ⟨rfl, rfl⟩]
theorem up2_n {I : MI} {i k : Nat} {v : Int32} {j : Nat} (h : j ≠ k) : up2 I i k v i j = I i j := by rw [up2_at, if_neg (fun q => h q.2)]
theorem uq2_at (L : ML) (i k : Nat) (v : Int64) (a j : Nat) : uq2 L i k v a j = if a = i ∧ j = k then v else L a j := by
  unfold uq2 va_up
  by_cases h : a = i
  · subst h
    by_cases h2 : j = k <;> simp [vp_updL, h2]
  · simp [h]
theorem uq2_ne {L : ML} {i k : Nat} {v : Int64} {a : Nat} (h : a ≠ i) : uq2 L i k v a = L a := by
  unfold uq2 va_up
  simp [h]
/-- between -/
def rg (x : Int32) (a b : Int) : Prop := a ≤ x.toInt ∧ x.toInt ≤ b
/-- a sitter of the reference's row at o, as the class holds it -/
def mrec (w : Nat → Int32) (o k : Nat) : Nat → Int32 := fun f => if f = 10 then (if w (o + 67 + k) < 0 then -4 else w (o + 67 + k)) else w (o + 7 + 6 * f + k)
def okR (s : Nat → Int32) : Prop := rg (s 0) 1 5 ∧ rg (s 1) 10 99 ∧ rg (s 2) 0 9 ∧ rg (s 3) 0 9 ∧ rg (s 4) 0 9 ∧ rg (s 5) 0 999 ∧ rg (s 6) 0 9 ∧ rg (s 7) 0 2 ∧ rg (s 8) 0 9 ∧ rg (s 9) 0 1 ∧ (s 10 = -4 ∨ rg (s 10) 0 20000)
/-- the class's wall w, with n sitters, is as it may be -/
def okW (I : MI) (w n : Nat) : Prop := n ≤ 6 ∧ I w 1 = nI n ∧ rg (I w 2) 0 24 ∧ rg (I w 3) 0 9 ∧ rg (I w 4) 0 9999 ∧ rg (I w 5) 0 2 ∧ rg (I w 6) 1 2147483646 ∧ (0 < n → rg (I w 2) 1 24) ∧ ∀ k, k < n → okR (I (w + 2 + k))
/-- the class's wall w, of n sitters, is the reference's row at o -/
def RW (I : MI) (w n o : Nat) : Prop := I 245 o = (if n = 0 then 0 else 1) ∧ (∀ j, 1 ≤ j → j ≤ 6 → I w j = I 245 (o + j)) ∧ (∀ k f, k < n → f ≤ 10 → I (w + 2 + k) f = mrec (I 245) o k f) ∧ ∀ k, k < n → -1 ≤ (I 245 (o + 67 + k)).toInt
def InvS (I : MI) (L : ML) : Prop := ∀ k, k < 4 → (I (199 + 2 * k) 0 = -1 ∧ I 249 k = -1) ∨ ∃ a n : Nat, a < 4 ∧ n ≤ 24 ∧ I (199 + 2 * k) 0 = nI a ∧ I 248 k = nI a ∧ I (199 + 2 * k) 1 = nI n ∧ I 249 k = nI n ∧ ∀ i, i < 24 → L (200 + 2 * k) i = L 247 (24 * k + i)
def InvT (I : MI) : Prop := ∃ t : Nat, t ≤ 90 ∧ I 1 1 = nI t ∧ I 244 7 = nI t ∧ ∀ j, j < t → I 2 j = I 250 j ∧ rg (I 2 j) 0 255
def InvC (I : MI) : Prop := ∃ n, okW I 3 n ∧ RW I 3 n 0
def InvU (I : MI) : Prop := ∃ u p : Nat, u ≤ 20 ∧ p < 20 ∧ I 19 2 = nI u ∧ I 244 2 = nI u ∧ I 19 1 = nI p ∧ ∀ j, j < u → ∃ n, 0 < n ∧ okW I (21 + 8 * ((p + 19 - j) % 20)) n ∧ RW I (21 + 8 * ((p + 19 - j) % 20)) n (292 + 73 * (u - 1 - j))
def InvI (I : MI) : Prop := ∀ k, k < 2 → (I (182 + 8 * k) 1 = 0 ∧ I 246 k = 0) ∨ (I 246 k = 1 ∧ ∃ n, 0 < n ∧ okW I (182 + 8 * k) n ∧ RW I (182 + 8 * k) n (73 * (1 + k)))
def InvB (I : MI) : Prop := ∀ i, kd i = 6 → I i 9 = 0 ∨ I i 9 = 1
def Inv (I : MI) (L : ML) : Prop := InvC I ∧ InvU I ∧ InvI I ∧ InvB I ∧ InvS I L ∧ InvT I
