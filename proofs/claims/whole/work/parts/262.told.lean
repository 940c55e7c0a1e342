theorem st_or (x y a b : Nat) : st x y (a ||| b) = st x y a ||| st x y b := by
  refine Nat.eq_of_testBit_eq (fun i => ?_)
  unfold st
  rw [Nat.testBit_or a b x]
  cases ha : a.testBit x <;> cases hb : b.testBit x
  · simp
  · simp only [Bool.false_or, if_true]
    rw [fb_bit_set, Nat.testBit_or, Nat.testBit_or, fb_bit_set]
    simp [Bool.or_assoc]
  · simp only [Bool.true_or, if_true]
    rw [fb_bit_set, Nat.testBit_or, Nat.testBit_or]
    simp only [Bool.false_eq_true, if_false]
    rw [fb_bit_set]
    cases a.testBit i <;> cases b.testBit i <;> cases (decide (i = y)) <;> rfl
  · simp only [Bool.true_or, if_true]
    rw [fb_bit_set, Nat.testBit_or, Nat.testBit_or, fb_bit_set, fb_bit_set]
    cases a.testBit i <;> cases b.testBit i <;> cases (decide (i = y)) <;> rfl
theorem rd_or (x y : Nat → Nat) (a b : Nat) : ∀ P, rdN x y (a ||| b) P = rdN x y a P ||| rdN x y b P
  | 0 => rfl
  | P + 1 => by
    show st (x P) (y P) (rdN x y (a ||| b) P) = st (x P) (y P) (rdN x y a P) ||| st (x P) (y P) (rdN x y b P)
    rw [rd_or x y a b P, st_or]
theorem it_or (x y : Nat → Nat) (P a b : Nat) : ∀ n, itN (fun m => rdN x y m P) (a ||| b) n = itN (fun m => rdN x y m P) a n ||| itN (fun m => rdN x y m P) b n
  | 0 => rfl
  | n + 1 => by
    show rdN x y (itN (fun m => rdN x y m P) (a ||| b) n) P = rdN x y (itN (fun m => rdN x y m P) a n) P ||| rdN x y (itN (fun m => rdN x y m P) b n) P
    rw [it_or x y P a b n, rd_or]
theorem rd_0 (x y : Nat → Nat) : ∀ P, rdN x y 0 P = 0
  | 0 => rfl
  | P + 1 => by
    show st (x P) (y P) (rdN x y 0 P) = 0
    rw [rd_0 x y P]
    unfold st
    rw [Nat.zero_testBit]
    rfl
theorem it_0 (x y : Nat → Nat) (P : Nat) : ∀ n, itN (fun m => rdN x y m P) 0 n = 0
  | 0 => rfl
  | n + 1 => by
    show rdN x y (itN (fun m => rdN x y m P) 0 n) P = 0
    rw [it_0 x y P n, rd_0]
def preN (m : Nat) : Nat → Nat
  | 0 => 0
  | z + 1 => if m.testBit z then preN m z ||| 2 ^ z else preN m z
theorem pre_8' : ∀ m, m < 256 → preN m 8 = m := by decide +kernel
theorem pre_lt' : ∀ m, m < 256 → ∀ z, z < 9 → preN m z < 256 := by decide +kernel
theorem nI_or' {a b : Nat} (ha : a < 256) (hb : b < 256) : nI a ||| nI b = nI (a ||| b) := by
  have k := fa_or a b
  exact k
