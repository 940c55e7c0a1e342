/-! ===== plain steps of the turned methods ===== -/
theorem some_if {α : Type} {c : Prop} [Decidable c] (a b : α) : (if c then some a else some b) = some (if c then a else b) := by
  by_cases h : c
  · rw [if_pos h, if_pos h]
  · rw [if_neg h, if_neg h]
def b01 (p : Prop) [Decidable p] : Int32 := if p then 1 else 0
theorem b01_t {p : Prop} [Decidable p] (h : p) : b01 p = 1 := if_pos h
theorem b01_f {p : Prop} [Decidable p] (h : ¬ p) : b01 p = 0 := if_neg h
theorem b01_0 {p : Prop} [Decidable p] : b01 p = 0 ↔ ¬ p := by
  by_cases h : p
  · rw [b01_t h]; exact ⟨fun q => absurd q (by decide), fun q => absurd h q⟩
  · rw [b01_f h]; exact ⟨fun _ => h, fun _ => rfl⟩
theorem b01_1 {p : Prop} [Decidable p] : b01 p = 1 ↔ p := by
  by_cases h : p
  · rw [b01_t h]; exact ⟨fun _ => h, fun _ => rfl⟩
  · rw [b01_f h]; exact ⟨fun q => absurd q (by decide), fun q => absurd q h⟩
theorem b01_b {p : Prop} [Decidable p] : b01 p = 0 ∨ b01 p = 1 := by
  by_cases h : p
  · exact Or.inr (b01_t h)
  · exact Or.inl (b01_f h)
theorem if_10 {c : Prop} [Decidable c] : (if c then (1 : Int32) else 0) = b01 c := rfl
theorem if_01 {c : Prop} [Decidable c] : (if c then (0 : Int32) else 1) = b01 (¬ c) := by
  by_cases h : c
  · rw [if_pos h, b01_f (fun q => q h)]
  · rw [if_neg h, b01_t h]
theorem if_0b {c d : Prop} [Decidable c] [Decidable d] : (if c then (0 : Int32) else b01 d) = b01 (¬ c ∧ d) := by
  by_cases h : c
  · rw [if_pos h, b01_f (fun q => q.1 h)]
  · rw [if_neg h]
    by_cases h2 : d
    · rw [b01_t h2, b01_t ⟨h, h2⟩]
    · rw [b01_f h2, b01_f (fun q => h2 q.2)]
theorem if_b0 {c d : Prop} [Decidable c] [Decidable d] : (if c then b01 d else (0 : Int32)) = b01 (c ∧ d) := by
  by_cases h : c
  · rw [if_pos h]
    by_cases h2 : d
    · rw [b01_t h2, b01_t ⟨h, h2⟩]
    · rw [b01_f h2, b01_f (fun q => h2 q.2)]
  · rw [if_neg h, b01_f (fun q => h q.1)]
theorem if_b {α : Type} {p : Prop} [Decidable p] (a b : α) : (if b01 p = 0 then a else b) = if p then b else a := by
  by_cases h : p
  · rw [if_pos h, if_neg (by rw [b01_t h]; decide)]
  · rw [if_neg h, if_pos (b01_f h)]
theorem gd_b {β : Type} {p : Prop} [Decidable p] (o : Option β) : gd (b01 p = 0 ∨ b01 p = 1) o = o := gd_t b01_b
theorem b01_iff {p q : Prop} [Decidable p] [Decidable q] (h : p ↔ q) : b01 p = b01 q := by
  by_cases hp : p
  · rw [b01_t hp, b01_t (h.mp hp)]
  · rw [b01_f hp, b01_f (fun z => hp (h.mpr z))]
theorem i32_nlt {a b : Int32} : ¬ a < b ↔ b ≤ a := by rw [Int32.lt_iff_toInt_lt, Int32.le_iff_toInt_le]; omega
theorem i32_nle {a b : Int32} : ¬ a ≤ b ↔ b < a := by rw [Int32.lt_iff_toInt_lt, Int32.le_iff_toInt_le]; omega
theorem lg_lt {x y : Int64} : lg_cmp x y < 0 ↔ x < y := by
  unfold lg_cmp
  have h1 := fa_lt64 x y
  have h2 := fa_lt64 y x
  have h3 := fa_eq64 x y
  by_cases a : x > y
  · rw [if_pos a]
    have : y < x := a
    refine ⟨fun h => absurd h (by decide), fun h => ?_⟩
    rw [h2] at this; rw [h1] at h; omega
  · rw [if_neg a]
    by_cases b : x = y
    · rw [if_pos b]; subst b
      exact ⟨fun h => absurd h (by decide), fun h => absurd h (by rw [h1]; omega)⟩
    · rw [if_neg b]
      refine ⟨fun _ => ?_, fun _ => by decide⟩
      have : ¬ y < x := a
      rw [h2] at this; rw [h3] at b; rw [h1]; omega
theorem lg_gt {x y : Int64} : 0 < lg_cmp x y ↔ y < x := by
  unfold lg_cmp
  by_cases a : x > y
  · rw [if_pos a]; exact ⟨fun _ => a, fun _ => by decide⟩
  · rw [if_neg a]
    by_cases b : x = y
    · rw [if_pos b]; exact ⟨fun h => absurd h (by decide), fun h => absurd h a⟩
    · rw [if_neg b]; exact ⟨fun h => absurd h (by decide), fun h => absurd h a⟩
theorem s_within (a b c : Int32) : f_X10_within a b c = some (b01 (b ≤ a ∧ a ≤ c)) := by
  simp only [f_X10_within, some_if, if_01, if_0b, bd1_s, gd_b]
  exact congrArg some (b01_iff (by rw [i32_nlt, i32_nlt]))
theorem s_in (a b c : Int64) : f_X11_in a b c = some (b01 (b ≤ a ∧ a ≤ c)) := by
  simp only [f_X11_in, some_if, if_01, if_0b, bd1_s, gd_b]
  exact congrArg some (b01_iff (by rw [lg_lt, lg_gt, fa_lt64, fa_lt64, fa_le64, fa_le64]; omega))
theorem s_in32 (a b c : Int32) : f_X11_in a.toInt64 b.toInt64 c.toInt64 = some (b01 (b ≤ a ∧ a ≤ c)) := by
  rw [s_in]
  exact congrArg some (b01_iff (by rw [fa_wide_le, fa_wide_le]))
theorem s_sits (i : Nat) (I : MI) (L : ML) : f_X6_sits i I L = some (b01 (I i 10 = -4)) := by
  simp only [f_X6_sits, some_if, if_10, bd1_s, gd_b]
/-- the growth of one -/
def growR (s : Nat → Int32) (sky night : Int32) : Int32 :=
  if s 0 = 5 then (if night = 0 then mmax 0 ((if s 0 = 4 then s 2 + 1 else if s 0 = 5 then s 2 + 1 else s 2) + (if s 9 = 0 then (if sky = 1 then s 3 else 0) + (if night = 0 then 0 else s 3) else ((if sky = 1 then s 3 else 0) + (if night = 0 then 0 else s 3)) / 2) + (if s 7 = 1 then 0 else (if s 0 = 3 then 2 * (if s 7 = 2 then s 4 else s 4 / 2) else (if s 7 = 2 then s 4 else s 4 / 2))) - (if s 0 = 2 then 2 * s 8 else s 8))
    else mmax 0 ((if s 0 = 4 then s 2 + 1 else if s 0 = 5 then s 2 + 1 else s 2) + (if s 9 = 0 then (if sky = 1 then s 3 else 0) + (if night = 0 then 0 else s 3) else ((if sky = 1 then s 3 else 0) + (if night = 0 then 0 else s 3)) / 2) + (if s 7 = 1 then 0 else (if s 0 = 3 then 2 * (if s 7 = 2 then s 4 else s 4 / 2) else (if s 7 = 2 then s 4 else s 4 / 2))) - (if s 0 = 2 then 2 * s 8 else s 8)) / 2)
  else mmax 0 ((if s 0 = 4 then s 2 + 1 else if s 0 = 5 then s 2 + 1 else s 2) + (if s 9 = 0 then (if sky = 1 then s 3 else 0) + (if night = 0 then 0 else s 3) else ((if sky = 1 then s 3 else 0) + (if night = 0 then 0 else s 3)) / 2) + (if s 7 = 1 then 0 else (if s 0 = 3 then 2 * (if s 7 = 2 then s 4 else s 4 / 2) else (if s 7 = 2 then s 4 else s 4 / 2))) - (if s 0 = 2 then 2 * s 8 else s 8))
theorem s_chill (i : Nat) (sky night : Int32) (I : MI) (L : ML) : f_X6_chill i sky night I L = some (if I i 9 = 0 then (if sky = 1 then I i 3 else 0) + (if night = 0 then 0 else I i 3) else ((if sky = 1 then I i 3 else 0) + (if night = 0 then 0 else I i 3)) / 2) := by
  simp only [f_X6_chill, some_if, bd1_s, nm_s]
theorem s_care (i : Nat) (I : MI) (L : ML) : f_X6_care i I L = some (if I i 7 = 1 then 0 else (if I i 0 = 3 then 2 * (if I i 7 = 2 then I i 4 else I i 4 / 2) else (if I i 7 = 2 then I i 4 else I i 4 / 2))) := by
  simp only [f_X6_care, some_if, bd1_s, nm_s]
theorem s_grows (i : Nat) (sky night : Int32) (I : MI) (L : ML) : f_X6_grows i sky night I L = some (growR (I i) sky night) := by
  simp only [f_X6_grows, s_chill, s_care, some_if, bd1_s, nm_s, growR]
theorem s_isDark (a b : Int32) : f_X10_isDark a b = some (b01 (b ≤ a - a / 24 * 24)) := by
  simp only [f_X10_isDark, some_if, if_01, bd1_s, gd_b]
  exact congrArg some (b01_iff (by rw [i32_nlt]))
theorem s_isNight (w : Nat) (I : MI) (L : ML) : f_X9_isNight w I L = some (b01 (I w 2 ≤ I w 4 - I w 4 / 24 * 24)) := by
  simp only [f_X9_isNight, s_isDark, bd1_s, gd_b]
theorem s_canEat (i : Nat) (I : MI) (L : ML) : f_X6_canEat i I L = some (b01 (I i 10 = -4 ∧ 0 < I i 6)) := by
  simp only [f_X6_canEat, s_sits, some_if, bd1_s, if_b, if_01, if_b0, gd_b]
  exact congrArg some (b01_iff (by rw [i32_nle]))
theorem s_stands (w : Nat) (I : MI) (L : ML) : f_X9_stands w I L = some (b01 (0 < I w 1)) := by
  simp only [f_X9_stands, some_if, bd1_s, if_01, if_10, gd_b]
  exact congrArg some (b01_iff (by rw [i32_nle]))
