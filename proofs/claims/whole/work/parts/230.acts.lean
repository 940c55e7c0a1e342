/-! ===== acts: what is taken over, kept, given back ===== -/
def cpN (I : MI) (a b lo m : Nat) : MI := fun i j => if i = a ∧ lo ≤ j ∧ j < m then I b j else I i j
theorem cp_step {I : MI} {a b lo : Nat} (m : Nat) (h : a ≠ b) (hm : lo ≤ m) : up2 (cpN I a b lo m) a m (cpN I a b lo m b m) = cpN I a b lo (m + 1) := by
  have eb : cpN I a b lo m b m = I b m := by
    unfold cpN
    rw [if_neg (fun q => h q.1.symm)]
  refine funext fun i => funext fun j => ?_
  rw [up2_at, eb]
  by_cases c : i = a ∧ j = m
  · obtain ⟨rfl, rfl⟩ := c
    rw [if_pos ⟨rfl, rfl⟩]
    unfold cpN
    rw [if_pos ⟨rfl, hm, by omega⟩]
  · rw [if_neg c]
    unfold cpN
    by_cases c2 : i = a ∧ lo ≤ j ∧ j < m
    · rw [if_pos c2, if_pos (by omega)]
    · rw [if_neg c2, if_neg (fun q => by omega)]
theorem cp_0 (I : MI) (a b lo : Nat) : cpN I a b lo lo = I := by
  refine funext fun i => funext fun j => ?_
  unfold cpN
  rw [if_neg (fun q => by omega)]
theorem s6_take {I : MI} {a b : Nat} (L : ML) (h : a ≠ b) (h9 : I b 9 = 0 ∨ I b 9 = 1) : f_X6_takeFrom a b I L = some (cpN I a b 0 11) := by
  have e9 : cpN I a b 0 9 b 9 = I b 9 := by
    unfold cpN
    rw [if_neg (fun q => h q.1.symm)]
  conv => lhs; rw [← cp_0 I a b 0]
  unfold f_X6_takeFrom
  rw [nm_s, cp_step 0 h (by omega), nm_s, cp_step 1 h (by omega), nm_s, cp_step 2 h (by omega), nm_s, cp_step 3 h (by omega), nm_s, cp_step 4 h (by omega), nm_s, cp_step 5 h (by omega), nm_s, cp_step 6 h (by omega), nm_s, cp_step 7 h (by omega), nm_s, cp_step 8 h (by omega), gd_t (by rw [e9]; exact h9), nm_s, cp_step 9 h (by omega), nm_s, cp_step 10 h (by omega)]
def tkN (I : MI) (w v k : Nat) : MI := fun i j => if i = w ∧ 1 ≤ j ∧ j < 7 then I v j else if (w + 2 ≤ i ∧ i < w + 2 + k) ∧ j < 11 then I (i + v - w) j else I i j
theorem s9_take {I : MI} {w v : Nat} (L : ML) (h : w + 8 ≤ v ∨ v + 8 ≤ w) (h9 : ∀ k, k < 6 → I (v + 2 + k) 9 = 0 ∨ I (v + 2 + k) 9 = 1) : f_X9_takeFrom w v I L = some (tkN I w v 6) := by
  have hn : w ≠ v := by omega
  conv => lhs; rw [← cp_0 I w v 1]
  unfold f_X9_takeFrom
  rw [nm_s, cp_step 1 hn (by omega), nm_s, cp_step 2 hn (by omega), nm_s, cp_step 3 hn (by omega), nm_s, cp_step 4 hn (by omega), nm_s, cp_step 5 hn (by omega), nm_s, cp_step 6 hn (by omega)]
  refine (bd1_of (lp_forF (fun k => (nI k, tkN I w v k)) 6 (x := tkN I w v 6) ?_ (fun k hk => ?_) ?_ (by omega))).trans rfl
  · refine Prod.ext rfl (funext fun i => funext fun j => ?_)
    show cpN I w v 1 7 i j = tkN I w v 0 i j
    unfold cpN tkN
    by_cases c : i = w ∧ 1 ≤ j ∧ j < 7
    · rw [if_pos c, if_pos c]
    · rw [if_neg c, if_neg c, if_neg (fun q => by omega)]
  · have e1 : ∀ j, tkN I w v k (v + 2 + k) j = I (v + 2 + k) j := fun j => by
      unfold tkN
      rw [if_neg (fun q => by omega), if_neg (fun q => by omega)]
    simp (disch := omega) only [b_X9_takeFrom_50, if_neg (show ¬ (6 : Int32) ≤ nI k from nI_ge (b := 6) hk (by omega)), gi_n, cl_n, nm_s, nI_1]
    rw [s6_take L (by omega) (by rw [e1]; exact h9 k hk), bd1_s]
    refine congrArg (fun z => some (Sum.inl (nI (k + 1), z))) (funext fun i => funext fun j => ?_)
    unfold cpN
    by_cases c : i = w + 2 + k ∧ 0 ≤ j ∧ j < 11
    · rw [if_pos c, e1]
      unfold tkN
      rw [if_neg (fun q => by omega), if_pos (by omega), show i + v - w = v + 2 + k by omega]
    · rw [if_neg c]
      unfold tkN
      by_cases c2 : i = w ∧ 1 ≤ j ∧ j < 7
      · rw [if_pos c2, if_pos c2]
      · rw [if_neg c2, if_neg c2]
        by_cases c3 : (w + 2 ≤ i ∧ i < w + 2 + k) ∧ j < 11
        · rw [if_pos c3, if_pos (by omega)]
        · rw [if_neg c3, if_neg (fun q => by omega)]
  · simp only [b_X9_takeFrom_50, if_pos (show (6 : Int32) ≤ nI 6 by decide)]
theorem tk_h {I : MI} {w v j : Nat} (h1 : 1 ≤ j) (h2 : j ≤ 6) : tkN I w v 6 w j = I v j := by
  unfold tkN
  rw [if_pos (by omega)]
theorem tk_s {I : MI} {w v k f : Nat} (h1 : k < 6) (h2 : f ≤ 10) : tkN I w v 6 (w + 2 + k) f = I (v + 2 + k) f := by
  unfold tkN
  rw [if_neg (fun q => by omega), if_pos (by omega), show w + 2 + k + v - w = v + 2 + k by omega]
theorem tk_o {I : MI} {w v i : Nat} (h : i < w ∨ w + 8 ≤ i) : tkN I w v 6 i = I i := by
  refine funext fun j => ?_
  unfold tkN
  rw [if_neg (fun q => by omega), if_neg (fun q => by omega)]
theorem tk_B {I : MI} {w v : Nat} (hB : InvB I) (hv : v < 255) (kv : kd v = 9) : InvB (tkN I w v 6) := by
  intro i hi
  unfold tkN
  rw [if_neg (show ¬ (i = w ∧ 1 ≤ 9 ∧ 9 < 7) from fun q => by omega)]
  by_cases c : (w + 2 ≤ i ∧ i < w + 2 + 6) ∧ 9 < 11
  · rw [if_pos c, show i + v - w = v + 2 + (i - w - 2) by omega]
    exact hB _ (kd_sit' v hv kv _ (by omega))
  · rw [if_neg c]
    exact hB i hi
theorem InvB.at {I : MI} (hB : InvB I) {v : Nat} (hv : v < 255) (kv : kd v = 9) : ∀ k, k < 6 → I (v + 2 + k) 9 = 0 ∨ I (v + 2 + k) 9 = 1 := fun k hk => hB _ (kd_sit' v hv kv k hk)
theorem InvB.up {I : MI} (hB : InvB I) {a j : Nat} {v : Int32} (h : j ≠ 9 ∨ kd a ≠ 6 ∨ v = 0 ∨ v = 1) : InvB (up2 I a j v) := by
  intro i hi
  rw [up2_at]
  by_cases c : i = a ∧ 9 = j
  · rw [if_pos c]
    obtain ⟨rfl, rfl⟩ := c
    rcases h with h | h | h
    · exact absurd rfl h
    · exact absurd hi h
    · exact h
  · rw [if_neg c]
    exact hB i hi
theorem InvB.cg {I I' : MI} (hB : InvB I) (h : ∀ i, kd i = 6 → I' i 9 = I i 9) : InvB I' := fun i hi => by rw [h i hi]; exact hB i hi
/-- rows of the reference -/
def cpR (I : MI) (o p m : Nat) : MI := fun i j => if i = 245 ∧ p ≤ j ∧ j < p + m then I 245 (o + (j - p)) else I i j
theorem m_copyRow {I : MI} {o p : Nat} (L : ML) (h : o + 73 ≤ p ∨ p + 73 ≤ o) (ho : o + 73 ≤ 1752) (hp : p + 73 ≤ 1752) : f_X11_copyRow (nI o) (nI p) I L = some (cpR I o p 73) := by
  unfold f_X11_copyRow
  refine (bd1_of (lp_forF (fun k => (nI k, cpR I o p k)) 73 (x := cpR I o p 73) ?_ (fun k hk => ?_) ?_ (by omega))).trans rfl
  · refine Prod.ext rfl (funext fun i => funext fun j => ?_)
    show I i j = cpR I o p 0 i j
    unfold cpR
    rw [if_neg (fun q => by omega)]
  · simp (disch := omega) only [b_X11_copyRow_2, if_neg (show ¬ (73 : Int32) ≤ nI k from nI_ge (b := 73) hk (by omega)), nI_add, gi_n, cl_n, nm_s, nI_1]
    refine congrArg (fun z => some (Sum.inl (nI (k + 1), z))) (funext fun i => funext fun j => ?_)
    rw [up2_at]
    unfold cpR
    by_cases c : i = 245 ∧ j = p + k
    · obtain ⟨rfl, rfl⟩ := c
      rw [if_pos ⟨rfl, rfl⟩, if_neg (fun q => by omega), if_pos ⟨rfl, by omega, by omega⟩, show p + k - p = k by omega]
    · rw [if_neg c]
      by_cases c2 : i = 245 ∧ p ≤ j ∧ j < p + k
      · rw [if_pos c2, if_pos (by omega)]
      · rw [if_neg c2, if_neg (fun q => by omega)]
  · simp only [b_X11_copyRow_2, if_pos (show (73 : Int32) ≤ nI 73 by decide)]
theorem m_shift {I : MI} (L : ML) : lp (fun s => b_X11_minds_11 L s.1 s.2) FU ((0 : Int32), I) = some (cpR I 365 292 1387) := by
  refine lp_forF (fun k => (nI k, cpR I 365 292 k)) 1387 ?_ (fun k hk => ?_) ?_ (by omega)
  · refine Prod.ext rfl (funext fun i => funext fun j => ?_)
    show I i j = cpR I 365 292 0 i j
    unfold cpR
    rw [if_neg (fun q => by omega)]
  · have e1 : ((292 : Int32) + nI k) = nI (292 + k) := nI_add 292 k
    have e2 : (nI (292 + k) + (73 : Int32)) = nI (292 + k + 73) := nI_add (292 + k) 73
    simp (disch := omega) only [b_X11_minds_11, if_neg (show ¬ (1387 : Int32) ≤ nI k from nI_ge (b := 1387) hk (by omega)), e1, e2, gi_n, cl_n, nm_s, nI_1]
    refine congrArg (fun z => some (Sum.inl (nI (k + 1), z))) (funext fun i => funext fun j => ?_)
    rw [up2_at]
    unfold cpR
    by_cases c : i = 245 ∧ j = 292 + k
    · obtain ⟨rfl, rfl⟩ := c
      rw [if_pos ⟨rfl, rfl⟩, if_neg (fun q => by omega), if_pos ⟨rfl, by omega, by omega⟩, show 365 + (292 + k - 292) = 292 + k + 73 by omega]
    · rw [if_neg c]
      by_cases c2 : i = 245 ∧ 292 ≤ j ∧ j < 292 + k
      · rw [if_pos c2, if_pos (by omega)]
      · rw [if_neg c2, if_neg (fun q => by omega)]
  · simp only [b_X11_minds_11, if_pos (show (1387 : Int32) ≤ nI 1387 by decide)]
theorem cpR_o {I : MI} {o p m i : Nat} (h : i ≠ 245) : cpR I o p m i = I i := by
  refine funext fun j => ?_
  unfold cpR
  rw [if_neg (fun q => h q.1)]
theorem cpR_i {I : MI} {o p m j : Nat} (h : j < m) : cpR I o p m 245 (p + j) = I 245 (o + j) := by
  unfold cpR
  rw [if_pos (by omega), show p + j - p = j by omega]
theorem cpR_n {I : MI} {o p m j : Nat} (h : j < p ∨ p + m ≤ j) : cpR I o p m 245 j = I 245 j := by
  unfold cpR
  rw [if_neg (fun q => by omega)]
