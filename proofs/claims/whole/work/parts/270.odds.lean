/-! ===== odds: the sums ===== -/
def sumN (f : Nat → Nat) : Nat → Nat
  | 0 => 0
  | n + 1 => sumN f n + f n
theorem sum_congr {f g : Nat → Nat} : ∀ n, (∀ z, z < n → f z = g z) → sumN f n = sumN g n
  | 0, _ => rfl
  | n + 1, h => by
    show sumN f n + f n = sumN g n + g n
    rw [sum_congr n (fun z hz => h z (by omega)), h n (by omega)]
theorem sum_two (f : Nat → Nat) : ∀ n, sumN f (2 * n) = sumN (fun z => f (2 * z)) n + sumN (fun z => f (2 * z + 1)) n
  | 0 => rfl
  | n + 1 => by
    show sumN f (2 * n) + f (2 * n) + f (2 * n + 1) = (sumN (fun z => f (2 * z)) n + f (2 * n)) + (sumN (fun z => f (2 * z + 1)) n + f (2 * n + 1))
    rw [sum_two f n]
    omega
theorem sum_mul (c : Nat) (f : Nat → Nat) : ∀ n, sumN (fun z => c * f z) n = c * sumN f n
  | 0 => rfl
  | n + 1 => by
    show sumN (fun z => c * f z) n + c * f n = c * (sumN f n + f n)
    rw [sum_mul c f n, Nat.mul_add]
theorem sum_0 : ∀ n, sumN (fun _ => 0) n = 0
  | 0 => rfl
  | n + 1 => sum_0 n
def wgt (p y : Nat) : Nat := if y = 1 then p else 10 - p
def WN (p : Nat) : Nat → Nat → Nat
  | 0, _ => 1
  | n + 1, z => wgt p (z % 2) * WN p n (z / 2)
/-- the growths of two, by sky and hour, and their lines -/
def indN (ga gb : Nat → Nat → Nat) (LA LB : Nat) : Nat → Nat → Nat → Nat → Nat → Nat
  | 0, _, _, _, _ => 0
  | n + 1, t, xa, xb, z => if xa + ga (z % 2) t < LA then (if xb + gb (z % 2) t < LB then indN ga gb LA LB n (t + 1) (xa + ga (z % 2) t) (xb + gb (z % 2) t) (z / 2) else 1) else 0
def VN (ga gb : Nat → Nat → Nat) (LA LB p : Nat) : Nat → Nat → Nat → Nat → Nat
  | 0, _, _, _ => 0
  | n + 1, t, xa, xb => wgt p 0 * (if xa + ga 0 t < LA then (if xb + gb 0 t < LB then VN ga gb LA LB p n (t + 1) (xa + ga 0 t) (xb + gb 0 t) else 10 ^ n) else 0) + wgt p 1 * (if xa + ga 1 t < LA then (if xb + gb 1 t < LB then VN ga gb LA LB p n (t + 1) (xa + ga 1 t) (xb + gb 1 t) else 10 ^ n) else 0)
theorem W_sum {p : Nat} (hp : p ≤ 10) : ∀ n, sumN (WN p n) (2 ^ n) = 10 ^ n
  | 0 => rfl
  | n + 1 => by
    rw [Nat.pow_succ, Nat.mul_comm (2 ^ n) 2, sum_two]
    have e0 : ∀ z, WN p (n + 1) (2 * z) = wgt p 0 * WN p n z := fun z => by
      show wgt p (2 * z % 2) * WN p n (2 * z / 2) = _
      rw [show 2 * z % 2 = 0 by omega, show 2 * z / 2 = z by omega]
    have e1 : ∀ z, WN p (n + 1) (2 * z + 1) = wgt p 1 * WN p n z := fun z => by
      show wgt p ((2 * z + 1) % 2) * WN p n ((2 * z + 1) / 2) = _
      rw [show (2 * z + 1) % 2 = 1 by omega, show (2 * z + 1) / 2 = z by omega]
    rw [sum_congr _ (fun z _ => e0 z), sum_congr (f := fun z => WN p (n + 1) (2 * z + 1)) _ (fun z _ => e1 z), sum_mul, sum_mul, W_sum hp n, ← Nat.add_mul, Nat.pow_succ, Nat.mul_comm (10 ^ n) 10]
    refine congrArg (fun c => c * 10 ^ n) ?_
    unfold wgt
    rw [if_neg (by decide), if_pos rfl]
    omega
theorem V_sum {ga gb : Nat → Nat → Nat} {LA LB p : Nat} (hp : p ≤ 10) : ∀ n t xa xb, sumN (fun z => WN p n z * indN ga gb LA LB n t xa xb z) (2 ^ n) = VN ga gb LA LB p n t xa xb
  | 0, t, xa, xb => rfl
  | n + 1, t, xa, xb => by
    rw [Nat.pow_succ, Nat.mul_comm (2 ^ n) 2, sum_two]
    have key : ∀ y, y < 2 → sumN (fun z => WN p (n + 1) (2 * z + y) * indN ga gb LA LB (n + 1) t xa xb (2 * z + y)) (2 ^ n) = wgt p y * (if xa + ga y t < LA then (if xb + gb y t < LB then VN ga gb LA LB p n (t + 1) (xa + ga y t) (xb + gb y t) else 10 ^ n) else 0) := fun y hy => by
      have e : ∀ z, WN p (n + 1) (2 * z + y) * indN ga gb LA LB (n + 1) t xa xb (2 * z + y) = wgt p y * (WN p n z * (if xa + ga y t < LA then (if xb + gb y t < LB then indN ga gb LA LB n (t + 1) (xa + ga y t) (xb + gb y t) z else 1) else 0)) := fun z => by
        show (wgt p ((2 * z + y) % 2) * WN p n ((2 * z + y) / 2)) * (if xa + ga ((2 * z + y) % 2) t < LA then (if xb + gb ((2 * z + y) % 2) t < LB then indN ga gb LA LB n (t + 1) (xa + ga ((2 * z + y) % 2) t) (xb + gb ((2 * z + y) % 2) t) ((2 * z + y) / 2) else 1) else 0) = _
        rw [show (2 * z + y) % 2 = y by omega, show (2 * z + y) / 2 = z by omega, Nat.mul_assoc]
      rw [sum_congr _ (fun z _ => e z), sum_mul]
      refine congrArg (fun c => wgt p y * c) ?_
      by_cases c1 : xa + ga y t < LA
      · by_cases c2 : xb + gb y t < LB
        · rw [if_pos c1, if_pos c2, ← V_sum hp n]
          exact sum_congr _ (fun z _ => by rw [if_pos c1, if_pos c2])
        · rw [if_pos c1, if_neg c2, ← W_sum hp n]
          exact sum_congr _ (fun z _ => by rw [if_pos c1, if_neg c2, Nat.mul_one])
      · rw [if_neg c1]
        exact (sum_congr (g := fun _ => 0) _ (fun z _ => by rw [if_neg c1, Nat.mul_zero])).trans (sum_0 _)
    have k0 := key 0 (by omega)
    have k1 := key 1 (by omega)
    show sumN (fun z => WN p (n + 1) (2 * z) * indN ga gb LA LB (n + 1) t xa xb (2 * z)) (2 ^ n) + sumN (fun z => WN p (n + 1) (2 * z + 1) * indN ga gb LA LB (n + 1) t xa xb (2 * z + 1)) (2 ^ n) = _
    have k0' : sumN (fun z => WN p (n + 1) (2 * z) * indN ga gb LA LB (n + 1) t xa xb (2 * z)) (2 ^ n) = _ := k0
    rw [k0', k1]
    rfl
/-! the class's side -/
theorem s_tens {N : Nat} (h : N ≤ 10) : f_X0_tensTo (nI N) = some (lN (10 ^ N)) := by
  unfold f_X0_tensTo
  rw [bd1_of (lp_forF (s0 := ((1 : Int64), (0 : Int32))) (fun k => (lN (10 ^ k), nI k)) N (x := lN (10 ^ N)) rfl (fun k hk => ?_) ?_ (by omega))]
  · simp only [b_X0_tensTo_4]
    rw [if_pos (nI_le (Nat.le_refl _) (by omega))]
  · simp only [b_X0_tensTo_4]
    rw [if_neg (nI_ge hk (by omega)), nm_s, nm_s, nI_1, show (10 : Int64) = lN 10 from rfl, lN_mul, ← Nat.pow_succ]
/-- what the class holds for the count -/
def OC (I : MI) (N p LA LB : Nat) (ga gb : Nat → Nat → Nat) : Prop := I 212 3 = nI N ∧ I 212 4 = nI p ∧ I 212 5 = nI LA ∧ I 212 6 = nI LB ∧ ∀ y t, y < 2 → t < N → I (215 + y) t = nI (ga y t) ∧ I (218 + y) t = nI (gb y t) ∧ ga y t ≤ 46 ∧ gb y t ≤ 46
theorem s_ways {I : MI} {N p LA LB : Nat} {ga gb : Nat → Nat → Nat} (L : ML) (hN : N ≤ 10) (hp : p ≤ 10) (hA : LA ≤ 99) (hB : LB ≤ 99) (h : OC I N p LA LB ga gb) : ∀ (n F t xa xb : Nat), t + n = N → n < F → xa ≤ 2000 → xb ≤ 2000 → f_X0_waysFrom F (nI t) (nI xa) (nI xb) I L = some (lN (VN ga gb LA LB p n t xa xb))
  | 0, F, t, xa, xb, ht, hF, _, _ => by
    obtain ⟨F, rfl⟩ : ∃ F', F = F' + 1 := ⟨F - 1, by omega⟩
    show (if nI t < I 212 3 then _ else some (0 : Int64)) = _
    rw [h.1, if_neg (fun q => by have := (nI_ltI (by omega) (by omega)).mp q; omega)]
    rfl
  | n + 1, F, t, xa, xb, ht, hF, ha, hb => by
    obtain ⟨F, rfl⟩ : ∃ F', F = F' + 1 := ⟨F - 1, by omega⟩
    obtain ⟨h3, h4, h5, h6, hg⟩ := h
    show (if nI t < I 212 3 then bd1 (lp (fun s => b_X0_waysFrom_16 (f_X0_waysFrom F) (nI t) (nI xa) (nI xb) I L s.1 s.2) FU ((0 : Int64), (0 : Int32))) (fun y33 => some y33) else some (0 : Int64)) = _
    rw [h3, if_pos (nI_lt (by omega) (by omega))]
    have term : ∀ (y z4 : Nat), y < 2 → b_X0_waysFrom_16 (f_X0_waysFrom F) (nI t) (nI xa) (nI xb) I L (lN z4) (nI y) = some (Sum.inl (lN (z4 + wgt p y * (if xa + ga y t < LA then (if xb + gb y t < LB then VN ga gb LA LB p n (t + 1) (xa + ga y t) (xb + gb y t) else 10 ^ n) else 0)), nI (y + 1))) := fun y z4 hy => by
      obtain ⟨g1, g2, g3, g4⟩ := hg y t hy (by omega)
      have ew : (if nI y = (1 : Int32) then some (I 212 4) else some ((10 : Int32) - I 212 4)) = some (nI (wgt p y)) := by
        rw [h4]
        unfold wgt
        by_cases c : y = 1
        · rw [c, if_pos rfl, if_pos (show nI 1 = (1 : Int32) from rfl)]
        · rw [if_neg c, if_neg (show ¬ nI y = (1 : Int32) from fun q => c ((nI_eq (b := 1) (by omega) (by omega)).mp q))]
          exact congrArg some (pk_sub (a := 10) (b := p) hp)
      have wle : wgt p y ≤ 10 := by
        unfold wgt
        by_cases c : y = 1
        · rw [if_pos c]; exact hp
        · rw [if_neg c]; omega
      unfold b_X0_waysFrom_16
      rw [if_neg (show ¬ (2 : Int32) ≤ nI y from nI_ge (b := 2) hy (by omega)), ew, bd1_s, gi_n (by omega) (by omega), gi_n (by omega) (by omega), cl_n (by omega), cl_n (by omega), g1, g2, nI_add, nI_add, nm_s, gi_n (by omega) (by omega), gi_n (by omega) (by omega), nm_s, h5, h6, h3, nI_1]
      by_cases c0 : wgt p y = 0
      · rw [if_pos (by rw [c0]; rfl), bd1_s, nm_s, nI_1, c0, Nat.zero_mul]; rfl
      · rw [if_neg (show ¬ nI (wgt p y) = 0 from fun q => c0 ((nI_eq (b := 0) (by omega) (by omega)).mp q))]
        by_cases c1 : xa + ga y t < LA
        · rw [if_pos (nI_lt c1 (by omega)), if_pos c1]
          by_cases c2 : xb + gb y t < LB
          · rw [if_pos (nI_lt c2 (by omega)), bd1_s, if_pos rfl, s_ways L hN hp hA hB ⟨h3, h4, h5, h6, hg⟩ n F (t + 1) _ _ (by omega) (by omega) (by omega) (by omega), bd1_s, bd1_s, nm_s, bd1_s, nm_s, nI_1, nI_l (by omega), lN_mul, lN_add, if_pos c2]
          · have et : (nI N - nI t) - (1 : Int32) = nI n := by
              rw [pk_sub (by omega)]
              have := pk_sub (a := N - t) (b := 1) (by omega)
              rw [show N - t - 1 = n by omega] at this
              exact this
            rw [if_neg (fun q => by have := (nI_ltI (by omega) (by omega)).mp q; omega), bd1_s, if_neg (by decide), et, s_tens (by omega), bd1_s, bd1_s, nm_s, bd1_s, nm_s, nI_1, nI_l (by omega), lN_mul, lN_add, if_neg c2]
        · rw [if_neg (fun q => by have := (nI_ltI (by omega) (by omega)).mp q; omega), bd1_s, nm_s, nI_1, if_neg c1, Nat.mul_zero]; rfl
    have t0 := term 0 0 (by omega)
    have t1 := fun z => term 1 z (by omega)
    rw [bd1_of (lp_forF (s0 := ((0 : Int64), (0 : Int32))) (x := lN (VN ga gb LA LB p (n + 1) t xa xb)) (fun k => if k = 0 then ((0 : Int64), (0 : Int32)) else if k = 1 then (lN (0 + wgt p 0 * (if xa + ga 0 t < LA then (if xb + gb 0 t < LB then VN ga gb LA LB p n (t + 1) (xa + ga 0 t) (xb + gb 0 t) else 10 ^ n) else 0)), nI 1) else (lN (VN ga gb LA LB p (n + 1) t xa xb), nI 2)) 2 rfl (fun k hk => ?_) ?_ (by omega))]
    · show b_X0_waysFrom_16 (f_X0_waysFrom F) (nI t) (nI xa) (nI xb) I L (lN (VN ga gb LA LB p (n + 1) t xa xb)) (nI 2) = _
      unfold b_X0_waysFrom_16
      rw [if_pos (by decide)]
    · rcases (show k = 0 ∨ k = 1 by omega) with rfl | rfl
      · exact t0
      · refine (t1 _).trans ?_
        rw [Nat.zero_add]
        rfl
