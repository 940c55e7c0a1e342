/-! ===== pure words of the turned methods ===== -/
def nm {α β : Type} (a : α) (f : α → Option β) : Option β := f a
theorem nm_some {α β : Type} {a : α} {f : α → Option β} {r : β} (h : nm a f = some r) : ∃ x, x = a ∧ f x = some r := ⟨a, rfl, h⟩
def gd {β : Type} (c : Prop) [Decidable c] (o : Option β) : Option β := if c then o else none
theorem gd_some {β : Type} {c : Prop} [Decidable c] {o : Option β} {r : β} (h : gd c o = some r) : c ∧ o = some r := by
  unfold gd at h
  by_cases hc : c
  · rw [if_pos hc] at h; exact ⟨hc, h⟩
  · rw [if_neg hc] at h; cases h
def gi {β : Type} (j : Int32) (n : Nat) (o : Option β) : Option β := if j < 0 ∨ n ≤ j.toNatClampNeg then none else o
theorem gi_some {β : Type} {j : Int32} {n : Nat} {o : Option β} {r : β} (h : gi j n o = some r) : vp_in j n ∧ o = some r := by
  unfold gi at h
  by_cases hc : j < 0 ∨ n ≤ j.toNatClampNeg
  · rw [if_pos hc] at h; cases h
  · rw [if_neg hc] at h; exact ⟨hc, h⟩
theorem ite_t {α : Type} {c : Prop} [Decidable c] {a b r : α} (hc : c) (h : (if c then a else b) = r) : a = r := by rw [if_pos hc] at h; exact h
theorem ite_f {α : Type} {c : Prop} [Decidable c] {a b r : α} (hc : ¬ c) (h : (if c then a else b) = r) : b = r := by rw [if_neg hc] at h; exact h
theorem ite_nt {α : Type} {c : Prop} [Decidable c] {a b r : α} (hc : ¬ c) (h : (if ¬ c then a else b) = r) : a = r := by rw [if_pos hc] at h; exact h
def bd1 {α β : Type} (o : Option α) (f : α → Option β) : Option β := o.bind f
def bd2 {A B Z : Type} (o : Option (A × B)) (k : A → B → Option Z) : Option Z := o.bind fun x => k x.1 x.2
def bd3 {A B C Z : Type} (o : Option (A × B × C)) (k : A → B → C → Option Z) : Option Z := o.bind fun x => k x.1 x.2.1 x.2.2
def bd4 {A B C D Z : Type} (o : Option (A × B × C × D)) (k : A → B → C → D → Option Z) : Option Z := o.bind fun x => k x.1 x.2.1 x.2.2.1 x.2.2.2
def bd5 {A B C D E Z : Type} (o : Option (A × B × C × D × E)) (k : A → B → C → D → E → Option Z) : Option Z := o.bind fun x => k x.1 x.2.1 x.2.2.1 x.2.2.2.1 x.2.2.2.2
def bd6 {A B C D E F Z : Type} (o : Option (A × B × C × D × E × F)) (k : A → B → C → D → E → F → Option Z) : Option Z := o.bind fun x => k x.1 x.2.1 x.2.2.1 x.2.2.2.1 x.2.2.2.2.1 x.2.2.2.2.2
def bd7 {A B C D E F G Z : Type} (o : Option (A × B × C × D × E × F × G)) (k : A → B → C → D → E → F → G → Option Z) : Option Z := o.bind fun x => k x.1 x.2.1 x.2.2.1 x.2.2.2.1 x.2.2.2.2.1 x.2.2.2.2.2.1 x.2.2.2.2.2.2
def bd8 {A B C D E F G H Z : Type} (o : Option (A × B × C × D × E × F × G × H)) (k : A → B → C → D → E → F → G → H → Option Z) : Option Z := o.bind fun x => k x.1 x.2.1 x.2.2.1 x.2.2.2.1 x.2.2.2.2.1 x.2.2.2.2.2.1 x.2.2.2.2.2.2.1 x.2.2.2.2.2.2.2
theorem bd1_some {α β : Type} {o : Option α} {f : α → Option β} {r : β} (h : bd1 o f = some r) : ∃ a, o = some a ∧ f a = some r := by
  cases o with
  | none => cases h
  | some a => exact ⟨a, rfl, h⟩
theorem bd2_some {A B Z : Type} {o : Option (A × B)} {k : A → B → Option Z} {r : Z} (h : bd2 o k = some r) : ∃ a b, o = some (a, b) ∧ k a b = some r := by
  cases o with
  | none => cases h
  | some x => obtain ⟨a, b⟩ := x; exact ⟨a, b, rfl, h⟩
theorem bd3_some {A B C Z : Type} {o : Option (A × B × C)} {k : A → B → C → Option Z} {r : Z} (h : bd3 o k = some r) : ∃ a b c, o = some (a, b, c) ∧ k a b c = some r := by
  cases o with
  | none => cases h
  | some x => obtain ⟨a, b, c⟩ := x; exact ⟨a, b, c, rfl, h⟩
theorem bd4_some {A B C D Z : Type} {o : Option (A × B × C × D)} {k : A → B → C → D → Option Z} {r : Z} (h : bd4 o k = some r) : ∃ a b c d, o = some (a, b, c, d) ∧ k a b c d = some r := by
  cases o with
  | none => cases h
  | some x => obtain ⟨a, b, c, d⟩ := x; exact ⟨a, b, c, d, rfl, h⟩
theorem bd5_some {A B C D E Z : Type} {o : Option (A × B × C × D × E)} {k : A → B → C → D → E → Option Z} {r : Z} (h : bd5 o k = some r) : ∃ a b c d e, o = some (a, b, c, d, e) ∧ k a b c d e = some r := by
  cases o with
  | none => cases h
  | some x => obtain ⟨a, b, c, d, e⟩ := x; exact ⟨a, b, c, d, e, rfl, h⟩
theorem bd6_some {A B C D E F Z : Type} {o : Option (A × B × C × D × E × F)} {k : A → B → C → D → E → F → Option Z} {r : Z} (h : bd6 o k = some r) : ∃ a b c d e f, o = some (a, b, c, d, e, f) ∧ k a b c d e f = some r := by
  cases o with
  | none => cases h
  | some x => obtain ⟨a, b, c, d, e, f⟩ := x; exact ⟨a, b, c, d, e, f, rfl, h⟩
theorem bd7_some {A B C D E F G Z : Type} {o : Option (A × B × C × D × E × F × G)} {k : A → B → C → D → E → F → G → Option Z} {r : Z} (h : bd7 o k = some r) : ∃ a b c d e f g, o = some (a, b, c, d, e, f, g) ∧ k a b c d e f g = some r := by
  cases o with
  | none => cases h
  | some x => obtain ⟨a, b, c, d, e, f, g⟩ := x; exact ⟨a, b, c, d, e, f, g, rfl, h⟩
theorem bd8_some {A B C D E F G H Z : Type} {o : Option (A × B × C × D × E × F × G × H)} {k : A → B → C → D → E → F → G → H → Option Z} {r : Z} (h : bd8 o k = some r) : ∃ a b c d e f g z, o = some (a, b, c, d, e, f, g, z) ∧ k a b c d e f g z = some r := by
  cases o with
  | none => cases h
  | some x => obtain ⟨a, b, c, d, e, f, g, z⟩ := x; exact ⟨a, b, c, d, e, f, g, z, rfl, h⟩
def lp {S X : Type} (f : S → Option (S ⊕ X)) : Nat → S → Option X
  | 0, _ => none
  | n + 1, s => (f s).bind (fun r => Sum.elim (lp f n) some r)
theorem lp_some {S X : Type} {f : S → Option (S ⊕ X)} {n : Nat} {s : S} {x : X} (h : lp f (n + 1) s = some x) : ∃ r, f s = some r ∧ Sum.elim (lp f n) some r = some x := by
  unfold lp at h
  cases hf : f s with
  | none => rw [hf] at h; cases h
  | some r => rw [hf] at h; exact ⟨r, rfl, h⟩
theorem lp_zero {S X : Type} {f : S → Option (S ⊕ X)} {s : S} {x : X} {P : Prop} (h : lp f 0 s = some x) : P := by cases h
def FU : Nat := 2000
def isB (v : Int32) : Prop := v = 0 ∨ v = 1
theorem isB_nar {v : Int32} (h : v = 0 ∨ v = 1) : narrow .boolean (.int v) = .int v := by
  rcases h with rfl | rfl <;> rfl
theorem isB_nar2 {v : Int32} (h : v = 0 ∨ v = 1) : vp_nar .boolean v = v := by
  rcases h with rfl | rfl <;> rfl
theorem isB_fit {v : Int32} (h : v = 0 ∨ v = 1) : fits .boolean (.int v) = true := by
  rcases h with rfl | rfl <;> rfl
/-! ===== kinds of cells ===== -/
theorem kd_w1' : ∀ w, w < 255 → kd w = 9 → kd (w + 1) = 16 ∧ ln (w + 1) = 6 ∧ w + 1 ≠ 221 ∧ w + 1 ≠ 222 := by decide +kernel
theorem kd_w1 {w : Nat} (h : kd w = 9) : kd (w + 1) = 16 := (kd_w1' w (kd_lt h (by decide)) h).1
theorem kd_sit' : ∀ w, w < 255 → kd w = 9 → ∀ k, k < 6 → kd (w + 2 + k) = 6 := by decide +kernel
theorem ix_lt {j : Int32} {n : Nat} (h : vp_in j n) : j.toNatClampNeg < n := Nat.not_le.mp fun q => h (Or.inr q)
theorem kd_sit {w : Nat} {j : Int32} (h : kd w = 9) (hj : vp_in j 6) : kd (w + 2 + j.toNatClampNeg) = 6 := kd_sit' w (kd_lt h (by decide)) h _ (ix_lt hj)
theorem kd_kept' : ∀ k, k < 20 → kd (21 + 8 * k) = 9 := by decide +kernel
theorem kd_kept {j : Int32} (hj : vp_in j 20) : kd (21 + 8 * j.toNatClampNeg) = 9 := kd_kept' _ (ix_lt hj)
theorem kd_img' : ∀ k, k < 2 → kd (182 + 8 * k) = 9 := by decide +kernel
theorem kd_img {j : Int32} (hj : vp_in j 2) : kd (182 + 8 * j.toNatClampNeg) = 9 := kd_img' _ (ix_lt hj)
theorem kd_sh' : ∀ k, k < 4 → kd (199 + 2 * k) = 5 := by decide +kernel
theorem kd_sh {j : Int32} (hj : vp_in j 4) : kd (199 + 2 * j.toNatClampNeg) = 5 := kd_sh' _ (ix_lt hj)
theorem kd_it' : ∀ i, i < 255 → kd i = 5 → kd (i + 1) = 13 ∧ ln (i + 1) = 24 := by decide +kernel
theorem kd_it {i : Nat} (h : kd i = 5) : kd (i + 1) = 13 := (kd_it' i (kd_lt h (by decide)) h).1
theorem ln_it {i : Nat} (h : kd i = 5) : ln (i + 1) = 24 := (kd_it' i (kd_lt h (by decide)) h).2
theorem kd_one' : ∀ k, k < 7 → kd (223 + 2 * k) = 6 := by decide +kernel
theorem kd_one {j : Int32} (hj : vp_in j 7) : kd (223 + 2 * j.toNatClampNeg) = 6 := kd_one' _ (ix_lt hj)
theorem kd_oth' : ∀ k, k < 7 → kd (224 + 2 * k) = 6 := by decide +kernel
theorem kd_oth {j : Int32} (hj : vp_in j 7) : kd (224 + 2 * j.toNatClampNeg) = 6 := kd_oth' _ (ix_lt hj)
theorem kd_gr' : ∀ k, k < 2 → (kd (215 + k) = 12 ∧ ln (215 + k) = 10) ∧ (kd (218 + k) = 12 ∧ ln (218 + k) = 10) := by decide +kernel
theorem kd_gr1 {j : Int32} (hj : vp_in j 2) : kd (215 + j.toNatClampNeg) = 12 := (kd_gr' _ (ix_lt hj)).1.1
theorem ln_gr1 {j : Int32} (hj : vp_in j 2) : ln (215 + j.toNatClampNeg) = 10 := (kd_gr' _ (ix_lt hj)).1.2
theorem kd_gr2 {j : Int32} (hj : vp_in j 2) : kd (218 + j.toNatClampNeg) = 12 := (kd_gr' _ (ix_lt hj)).2.1
theorem ln_gr2 {j : Int32} (hj : vp_in j 2) : ln (218 + j.toNatClampNeg) = 10 := (kd_gr' _ (ix_lt hj)).2.2
/-! ===== rows ===== -/
section RW
variable {p : Program} {l : Launch} {e : Env} {R : Room} {s : State} {m : MethodId} {args : Array Value} {below : List Frame} {meth : Method} {c : Code} {H : Heap} {locs : List Loc} {cells slots : Nat} {Q : State → Prop}
variable {cc : ByteArray} {pc nL : Nat} {ls : Array Slot} {rest : List Value} {g : Gp} {own : String} {I : MI} {L : ML}
theorem w_iald (C : Cx g p s m args c own cc nL) (hW : Ws g s I L H locs) {i n : Nat} (hi : kd i = 12) (hn : ln i = n) {j : Int32} (hin : vp_in j n) (hdg : decode cc pc = .ok (.iaload, 1)) (kk : W p l e R s m args below meth c H locs cells slots Q (F0 m (pc + 1) ls (.int (I i j.toNatClampNeg) :: rest))) : W p l e R s m args below meth c H locs cells slots Q (F0 m pc ls (.int j :: .ref (g.1 + i) :: rest)) :=
  va_iald C.1.1 C.1.2.1 C.2.1.1 hW.1 i 0 (by rw [wl_get (kd_lt hi (by decide)), EE_12 hi, hn]) rfl hin hdg kk
theorem w_lald (C : Cx g p s m args c own cc nL) (hW : Ws g s I L H locs) {i n : Nat} (hi : kd i = 13) (hn : ln i = n) {j : Int32} (hin : vp_in j n) (hdg : decode cc pc = .ok (.laload, 1)) (kk : W p l e R s m args below meth c H locs cells slots Q (F0 m (pc + 1) ls (.long (L i j.toNatClampNeg) :: rest))) : W p l e R s m args below meth c H locs cells slots Q (F0 m pc ls (.int j :: .ref (g.1 + i) :: rest)) :=
  va_lald C.1.1 C.1.2.1 C.2.1.1 hW.1 i 1 (by rw [wl_get (kd_lt hi (by decide)), EE_13 hi, hn]) rfl hin hdg kk
theorem w_zald (C : Cx g p s m args c own cc nL) (hW : Ws g s I L H locs) {i n : Nat} (hi : kd i = 14) (hn : ln i = n) {j : Int32} (hin : vp_in j n) (hdg : decode cc pc = .ok (.baload, 1)) (kk : W p l e R s m args below meth c H locs cells slots Q (F0 m (pc + 1) ls (.int (I i j.toNatClampNeg) :: rest))) : W p l e R s m args below meth c H locs cells slots Q (F0 m pc ls (.int j :: .ref (g.1 + i) :: rest)) :=
  va_zald C.1.1 C.1.2.1 C.2.1.1 hW.1 i 2 (by rw [wl_get (kd_lt hi (by decide)), EE_14 hi, hn]) rfl hin hdg kk
theorem w_iast (C : Cx g p s m args c own cc nL) (hW : Ws g s I L H locs) {i n : Nat} (hi : kd i = 12) (hn : ln i = n) {j x : Int32} (hin : vp_in j n) (hdg : decode cc pc = .ok (.iastore, 1)) (kk : ∀ (H1 : Heap) (locs1 : List Loc), Ws g s (up2 I i j.toNatClampNeg x) L H1 locs1 → W p l e R s m args below meth c H1 locs1 cells slots Q (F0 m (pc + 1) ls rest)) : W p l e R s m args below meth c H locs cells slots Q (F0 m pc ls (.int x :: .int j :: .ref (g.1 + i) :: rest)) :=
  va_iast C.1.1 C.1.2.1 C.2.1.1 hW.1 wl_D hW.2 i 0 (by rw [wl_get (kd_lt hi (by decide)), EE_12 hi, hn]) rfl hin hdg (fun H1 locs1 hP _ hS => kk H1 locs1 ⟨by rw [wl_setI (f := upd (I i) j.toNatClampNeg x) (kd_lt hi (by decide)) (by rw [EE_12 hi, hn])] at hP; exact hP, hS⟩)
theorem w_last (C : Cx g p s m args c own cc nL) (hW : Ws g s I L H locs) {i n : Nat} (hi : kd i = 13) (hn : ln i = n) {j : Int32} {x : Int64} (hin : vp_in j n) (hdg : decode cc pc = .ok (.lastore, 1)) (kk : ∀ (H1 : Heap) (locs1 : List Loc), Ws g s I (uq2 L i j.toNatClampNeg x) H1 locs1 → W p l e R s m args below meth c H1 locs1 cells slots Q (F0 m (pc + 1) ls rest)) : W p l e R s m args below meth c H locs cells slots Q (F0 m pc ls (.long x :: .int j :: .ref (g.1 + i) :: rest)) :=
  va_last C.1.1 C.1.2.1 C.2.1.1 hW.1 wl_D hW.2 i 1 (by rw [wl_get (kd_lt hi (by decide)), EE_13 hi, hn]) rfl hin hdg (fun H1 locs1 hP _ hS => kk H1 locs1 ⟨by rw [wl_setL (f := vp_updL (L i) j.toNatClampNeg x) (kd_lt hi (by decide)) (by rw [EE_13 hi, hn])] at hP; exact hP, hS⟩)
theorem w_zast (C : Cx g p s m args c own cc nL) (hW : Ws g s I L H locs) {i n : Nat} (hi : kd i = 14) (hn : ln i = n) {j x : Int32} (hin : vp_in j n) (hx : x = 0 ∨ x = 1) (hdg : decode cc pc = .ok (.bastore, 1)) (kk : ∀ (H1 : Heap) (locs1 : List Loc), Ws g s (up2 I i j.toNatClampNeg x) L H1 locs1 → W p l e R s m args below meth c H1 locs1 cells slots Q (F0 m (pc + 1) ls rest)) : W p l e R s m args below meth c H locs cells slots Q (F0 m pc ls (.int x :: .int j :: .ref (g.1 + i) :: rest)) :=
  va_zast C.1.1 C.1.2.1 C.2.1.1 hW.1 wl_D hW.2 i 2 (by rw [wl_get (kd_lt hi (by decide)), EE_14 hi, hn]) rfl hin hdg (fun H1 locs1 hP _ hS => kk H1 locs1 ⟨by rw [isB_nar2 hx, wl_setI (f := upd (I i) j.toNatClampNeg x) (kd_lt hi (by decide)) (by rw [EE_14 hi, hn])] at hP; exact hP, hS⟩)
theorem w_akept (C : Cx g p s m args c own cc nL) (hW : Ws g s I L H locs) {j : Int32} (hin : vp_in j 20) (hdg : decode cc pc = .ok (.aaload, 1)) (kk : W p l e R s m args below meth c H locs cells slots Q (F0 m (pc + 1) ls (.ref (g.1 + (21 + 8 * j.toNatClampNeg)) :: rest))) : W p l e R s m args below meth c H locs cells slots Q (F0 m pc ls (.int j :: .ref (g.1 + 20) :: rest)) :=
  va_aldq (f := fun j => some (g.1 + (21 + 8 * j))) C.1.1 C.1.2.1 C.2.1.1 hW.1 20 5 (by rw [wl_get (by decide), EE_17 (by decide)]; rfl) rfl hin hdg kk
theorem w_aimg (C : Cx g p s m args c own cc nL) (hW : Ws g s I L H locs) {j : Int32} (hin : vp_in j 2) (hdg : decode cc pc = .ok (.aaload, 1)) (kk : W p l e R s m args below meth c H locs cells slots Q (F0 m (pc + 1) ls (.ref (g.1 + (182 + 8 * j.toNatClampNeg)) :: rest))) : W p l e R s m args below meth c H locs cells slots Q (F0 m pc ls (.int j :: .ref (g.1 + 181) :: rest)) :=
  va_aldq (f := fun j => some (g.1 + (182 + 8 * j))) C.1.1 C.1.2.1 C.2.1.1 hW.1 181 5 (by rw [wl_get (by decide), EE_17 (by decide)]; rfl) rfl hin hdg kk
theorem w_ash (C : Cx g p s m args c own cc nL) (hW : Ws g s I L H locs) {j : Int32} (hin : vp_in j 4) (hdg : decode cc pc = .ok (.aaload, 1)) (kk : W p l e R s m args below meth c H locs cells slots Q (F0 m (pc + 1) ls (.ref (g.1 + (199 + 2 * j.toNatClampNeg)) :: rest))) : W p l e R s m args below meth c H locs cells slots Q (F0 m pc ls (.int j :: .ref (g.1 + 198) :: rest)) :=
  va_aldq (f := fun j => some (g.1 + (199 + 2 * j))) C.1.1 C.1.2.1 C.2.1.1 hW.1 198 3 (by rw [wl_get (by decide), EE_15 (by decide)]; rfl) rfl hin hdg kk
theorem w_aone (C : Cx g p s m args c own cc nL) (hW : Ws g s I L H locs) {j : Int32} (hin : vp_in j 7) (hdg : decode cc pc = .ok (.aaload, 1)) (kk : W p l e R s m args below meth c H locs cells slots Q (F0 m (pc + 1) ls (.ref (g.1 + (223 + 2 * j.toNatClampNeg)) :: rest))) : W p l e R s m args below meth c H locs cells slots Q (F0 m pc ls (.int j :: .ref (g.1 + 221) :: rest)) :=
  va_aldq (f := fun j => some (g.1 + (223 + 2 * j))) C.1.1 C.1.2.1 C.2.1.1 hW.1 221 4 (by rw [wl_get (by decide), EE_16 (by decide)]; rfl) rfl hin hdg kk
theorem w_aoth (C : Cx g p s m args c own cc nL) (hW : Ws g s I L H locs) {j : Int32} (hin : vp_in j 7) (hdg : decode cc pc = .ok (.aaload, 1)) (kk : W p l e R s m args below meth c H locs cells slots Q (F0 m (pc + 1) ls (.ref (g.1 + (224 + 2 * j.toNatClampNeg)) :: rest))) : W p l e R s m args below meth c H locs cells slots Q (F0 m pc ls (.int j :: .ref (g.1 + 222) :: rest)) :=
  va_aldq (f := fun j => some (g.1 + (224 + 2 * j))) C.1.1 C.1.2.1 C.2.1.1 hW.1 222 4 (by rw [wl_get (by decide), EE_16 (by decide)]; rfl) rfl hin hdg kk
theorem w_asit (C : Cx g p s m args c own cc nL) (hW : Ws g s I L H locs) {w : Nat} (hw : kd w = 9) {j : Int32} (hin : vp_in j 6) (hdg : decode cc pc = .ok (.aaload, 1)) (kk : W p l e R s m args below meth c H locs cells slots Q (F0 m (pc + 1) ls (.ref (g.1 + (w + 2 + j.toNatClampNeg)) :: rest))) : W p l e R s m args below meth c H locs cells slots Q (F0 m pc ls (.int j :: .ref (g.1 + (w + 1)) :: rest)) := by
  obtain ⟨h1, h2, h3, h4⟩ := kd_w1' w (kd_lt hw (by decide)) hw
  refine va_aldq (C := RX6) (f := fun j => some (g.1 + (w + 1 + 1 + j))) C.1.1 C.1.2.1 C.2.1.1 hW.1 (w + 1) 4 (n := 6) ?_ rfl hin hdg kk
  rw [wl_get (kd_lt h1 (by decide)), EE_16 h1, h2]
  simp [rfa, h3, h4]
theorem w_agr1 (C : Cx g p s m args c own cc nL) (hW : Ws g s I L H locs) {j : Int32} (hin : vp_in j 2) (hdg : decode cc pc = .ok (.aaload, 1)) (kk : W p l e R s m args below meth c H locs cells slots Q (F0 m (pc + 1) ls (.ref (g.1 + (215 + j.toNatClampNeg)) :: rest))) : W p l e R s m args below meth c H locs cells slots Q (F0 m pc ls (.int j :: .ref (g.1 + 214) :: rest)) := by
  have hlt : j.toNatClampNeg < 2 := ix_lt hin
  have hP : (wl g I L)[214]? = some (g.1 + 214, .inl (g.2.2.1 6, 2, rfa (fun j => g.1 + (215 + j)))) := by
    rw [wl_get (by decide), EE_18 (by decide)]; rfl
  exact W.aald (v := .ref (g.1 + (215 + j.toNatClampNeg))) (ty := .array .int) C.1.1 C.1.2.1 (hW.1 214 _ hP) ((C.2.1.1.2 6 _ rfl).1 2 (fun j => va_rf (some (g.1 + (215 + j))))) rfl (fun q => by cases q) (by show ¬ (j < 0 ∨ (arrV _ _ _).slots.size ≤ _); rw [arrV_size]; exact hin) (by show (arrV _ _ _).slots[_]? = _; rw [arrV_read _ _ hlt]; rfl) rfl rfl hdg kk
theorem w_agr2 (C : Cx g p s m args c own cc nL) (hW : Ws g s I L H locs) {j : Int32} (hin : vp_in j 2) (hdg : decode cc pc = .ok (.aaload, 1)) (kk : W p l e R s m args below meth c H locs cells slots Q (F0 m (pc + 1) ls (.ref (g.1 + (218 + j.toNatClampNeg)) :: rest))) : W p l e R s m args below meth c H locs cells slots Q (F0 m pc ls (.int j :: .ref (g.1 + 217) :: rest)) := by
  have hlt : j.toNatClampNeg < 2 := ix_lt hin
  have hP : (wl g I L)[217]? = some (g.1 + 217, .inl (g.2.2.1 6, 2, rfa (fun j => g.1 + (218 + j)))) := by
    rw [wl_get (by decide), EE_18 (by decide)]; rfl
  exact W.aald (v := .ref (g.1 + (218 + j.toNatClampNeg))) (ty := .array .int) C.1.1 C.1.2.1 (hW.1 217 _ hP) ((C.2.1.1.2 6 _ rfl).1 2 (fun j => va_rf (some (g.1 + (218 + j))))) rfl (fun q => by cases q) (by show ¬ (j < 0 ∨ (arrV _ _ _).slots.size ≤ _); rw [arrV_size]; exact hin) (by show (arrV _ _ _).slots[_]? = _; rw [arrV_read _ _ hlt]; rfl) rfl rfl hdg kk
theorem w_ko (C : Cx g p s m args c own cc nL) (hW : Ws g s I L H locs) {j : Int32} (hin : vp_in j 6) (hdg : decode cc pc = .ok (.iaload, 1)) (kk : W p l e R s m args below meth c H locs cells slots Q (F0 m (pc + 1) ls (.int (koF j.toNatClampNeg) :: rest))) : W p l e R s m args below meth c H locs cells slots Q (F0 m pc ls (.int j :: .ref g.2.2.2.1 :: rest)) :=
  va_ti C.1.1 C.1.2.1 C.2.2.2.1 hW.2 hin rfl hdg kk
theorem w_so (C : Cx g p s m args c own cc nL) (hW : Ws g s I L H locs) {j : Int32} (hin : vp_in j 5) (hdg : decode cc pc = .ok (.caload, 1)) (kk : W p l e R s m args below meth c H locs cells slots Q (F0 m (pc + 1) ls (.int (soF j.toNatClampNeg) :: rest))) : W p l e R s m args below meth c H locs cells slots Q (F0 m pc ls (.int j :: .ref g.2.2.2.2 :: rest)) :=
  va_tc C.1.1 C.1.2.1 C.2.2.2.2.2 hW.2 hin rfl hdg kk
theorem w_solen (C : Cx g p s m args c own cc nL) (hW : Ws g s I L H locs) (hdg : decode cc pc = .ok (.arraylength, 1)) (kk : W p l e R s m args below meth c H locs cells slots Q (F0 m (pc + 1) ls (.int 5 :: rest))) : W p l e R s m args below meth c H locs cells slots Q (F0 m pc ls (.ref g.2.2.2.2 :: rest)) :=
  va_tlen C.1.1 C.1.2.1 C.2.2.2.2.2 hW.2 (by decide) hdg kk
theorem w_gso (C : Cx g p s m args c RX7 cc nL) (hW : Ws g s I L H locs) (hdg : decode cc pc = .ok (.getstatic 84, 3)) (kk : W p l e R s m args below meth c H locs cells slots Q (F0 m (pc + 3) ls (.ref g.2.2.2.2 :: rest))) : W p l e R s m args below meth c H locs cells slots Q (F0 m pc ls rest) :=
  va_getsN (host := RX10) C.1.1 C.1.2.1 C.2.2.2.2.1 hW.2 C.1.2.2.2.1 (va_Nw.use rfl C.2.1.2.2) (fun _ h => h) hdg kk
/-! ===== calls ===== -/
variable {y : MethodName} {cb : ByteArray} {n d i idx ci k : Nat} {rt : FieldType} {As st0 : List Value} {r : Int32} {rl : Int64} {I' : MI} {L' : ML} {q : vw_C} {host : String}
theorem w_callVi (C : Cx g p s m args c own cc nL) (hW : Ws g s I L H locs) (hM : MetI g l y cb n rt d (.ref (g.1 + i) :: As) I L r I' L') (hi : kd i = ci) (hci : vwCl[ci]? = some q) (hE : ∀ (f : Nat → Int32) (r : Nat → Int64), ∃ fs, EE g i f r = .inr (ci, fs)) (hG : GoodIn gw (wsV own idx q.1 y (wU y cb n (some rt)))) (hd : y.cls = q.1 ∧ y.cls ≠ "java/lang/invoke/MethodHandle" ∧ y.cls ≠ "java/lang/invoke/VarHandle" ∧ (parseMethodDescriptor y.desc).map (fun d => d.parameters.length) = some k) (hR : d + 1 ≤ R.frames ∧ 8 + (n + 11) + 40 * d ≤ R.locals) (hf : cells + 0 ≤ R.cells ∧ slots + 0 ≤ R.slots) (hk : As.length = k) (hl : ls.size = nL) (hst : st0 = As.reverse ++ .ref (g.1 + i) :: rest) (hroom : (rest.map fun v => v.category).sum ≤ 8) (hdg : decode cc pc = .ok (.invokevirtual idx, 3)) (kk : ∀ (H1 : Heap) (locs1 : List Loc), Ws g s I' L' H1 locs1 → W p l e R s m args below meth c H1 locs1 cells slots Q (F0 m (pc + 3) ls (.int r :: rest))) : W p l e R s m args below meth c H locs cells slots Q (F0 m pc ls st0) := by
  have hrec : ∃ cell : Cell, H[g.1 + i]? = some cell ∧ cell.vm.isStatics = false ∧ s.vm.findClass q.1 = some cell.cls := by
    obtain ⟨fs, hfs⟩ := hE (I i) (L i)
    exact va_recv C.2.1.1 hW.1 (ci := ci) (q0 := i) hci (by rw [wl_get (kd_lt hi (by have := (List.getElem?_eq_some_iff.mp hci).1; simp at this; omega)), hfs])
  refine va_calli (va_runV (As := As) (rest := rest) C.1 hM (cwV k C.1.2.2.2.2 hG rfl rfl rfl hd hR) ⟨pre_blind, hrec, pre_at C hW⟩ rfl hk hl hst (lv_room hroom) hdg hf) hW.2 (fun q _ h => h) (fun q h => h) (fun r1 u t H1 locs1 ht hvm hw hB hz1 hk1 hS => ?_)
  obtain ⟨rfl, rfl⟩ := hw
  exact kk H1 locs1 ⟨by rw [← ht]; exact hB, hS⟩
theorem w_callVl (C : Cx g p s m args c own cc nL) (hW : Ws g s I L H locs) (hM : MetL g l y cb n d (.ref (g.1 + i) :: As) I L rl I' L') (hi : kd i = ci) (hci : vwCl[ci]? = some q) (hE : ∀ (f : Nat → Int32) (r : Nat → Int64), ∃ fs, EE g i f r = .inr (ci, fs)) (hG : GoodIn gw (wsV own idx q.1 y (wU y cb n (some .long)))) (hd : y.cls = q.1 ∧ y.cls ≠ "java/lang/invoke/MethodHandle" ∧ y.cls ≠ "java/lang/invoke/VarHandle" ∧ (parseMethodDescriptor y.desc).map (fun d => d.parameters.length) = some k) (hR : d + 1 ≤ R.frames ∧ 8 + (n + 11) + 40 * d ≤ R.locals) (hf : cells + 0 ≤ R.cells ∧ slots + 0 ≤ R.slots) (hk : As.length = k) (hl : ls.size = nL) (hst : st0 = As.reverse ++ .ref (g.1 + i) :: rest) (hroom : (rest.map fun v => v.category).sum ≤ 8) (hdg : decode cc pc = .ok (.invokevirtual idx, 3)) (kk : ∀ (H1 : Heap) (locs1 : List Loc), Ws g s I' L' H1 locs1 → W p l e R s m args below meth c H1 locs1 cells slots Q (F0 m (pc + 3) ls (.long rl :: rest))) : W p l e R s m args below meth c H locs cells slots Q (F0 m pc ls st0) := by
  have hrec : ∃ cell : Cell, H[g.1 + i]? = some cell ∧ cell.vm.isStatics = false ∧ s.vm.findClass q.1 = some cell.cls := by
    obtain ⟨fs, hfs⟩ := hE (I i) (L i)
    exact va_recv C.2.1.1 hW.1 (ci := ci) (q0 := i) hci (by rw [wl_get (kd_lt hi (by have := (List.getElem?_eq_some_iff.mp hci).1; simp at this; omega)), hfs])
  refine va_calll (va_runV (As := As) (rest := rest) C.1 hM (cwV k C.1.2.2.2.2 hG rfl rfl rfl hd hR) ⟨pre_blind, hrec, pre_at C hW⟩ rfl hk hl hst (lv_room hroom) hdg hf) hW.2 (fun q _ h => h) (fun q h => h) (fun r1 u t H1 locs1 ht hvm hw hB hz1 hk1 hS => ?_)
  obtain ⟨rfl, rfl⟩ := hw
  exact kk H1 locs1 ⟨by rw [← ht]; exact hB, hS⟩
theorem w_callVv (C : Cx g p s m args c own cc nL) (hW : Ws g s I L H locs) (hM : MetV g l y cb n d (.ref (g.1 + i) :: As) I L I' L') (hi : kd i = ci) (hci : vwCl[ci]? = some q) (hE : ∀ (f : Nat → Int32) (r : Nat → Int64), ∃ fs, EE g i f r = .inr (ci, fs)) (hG : GoodIn gw (wsV own idx q.1 y (wU y cb n none))) (hd : y.cls = q.1 ∧ y.cls ≠ "java/lang/invoke/MethodHandle" ∧ y.cls ≠ "java/lang/invoke/VarHandle" ∧ (parseMethodDescriptor y.desc).map (fun d => d.parameters.length) = some k) (hR : d + 1 ≤ R.frames ∧ 8 + (n + 11) + 40 * d ≤ R.locals) (hf : cells + 0 ≤ R.cells ∧ slots + 0 ≤ R.slots) (hk : As.length = k) (hl : ls.size = nL) (hst : st0 = As.reverse ++ .ref (g.1 + i) :: rest) (hroom : (rest.map fun v => v.category).sum ≤ 8) (hdg : decode cc pc = .ok (.invokevirtual idx, 3)) (kk : ∀ (H1 : Heap) (locs1 : List Loc), Ws g s I' L' H1 locs1 → W p l e R s m args below meth c H1 locs1 cells slots Q (F0 m (pc + 3) ls (rest))) : W p l e R s m args below meth c H locs cells slots Q (F0 m pc ls st0) := by
  have hrec : ∃ cell : Cell, H[g.1 + i]? = some cell ∧ cell.vm.isStatics = false ∧ s.vm.findClass q.1 = some cell.cls := by
    obtain ⟨fs, hfs⟩ := hE (I i) (L i)
    exact va_recv C.2.1.1 hW.1 (ci := ci) (q0 := i) hci (by rw [wl_get (kd_lt hi (by have := (List.getElem?_eq_some_iff.mp hci).1; simp at this; omega)), hfs])
  refine va_callv (va_runV (As := As) (rest := rest) C.1 hM (cwV k C.1.2.2.2.2 hG rfl rfl rfl hd hR) ⟨pre_blind, hrec, pre_at C hW⟩ rfl hk hl hst (lv_room hroom) hdg hf) hW.2 (fun q _ h => h) (fun q h => h) (fun u t H1 locs1 ht hvm hw hB hz1 hk1 hS => ?_)
  obtain rfl := hw
  exact kk H1 locs1 ⟨by rw [← ht]; exact hB, hS⟩
theorem w_callSi (C : Cx g p s m args c own cc nL) (hW : Ws g s I L H locs) (hM : MetI g l y cb n rt d As I L r I' L') (hG : GoodIn gw (va_wsS own idx y (wU y cb n (some rt)))) (hd : y.cls ≠ "java/lang/invoke/MethodHandle" ∧ y.cls ≠ "java/lang/invoke/VarHandle" ∧ (parseMethodDescriptor y.desc).map (fun d => d.parameters.length) = some k) (hR : d + 1 ≤ R.frames ∧ 8 + (n + 11) + 40 * d ≤ R.locals) (hf : cells + 0 ≤ R.cells ∧ slots + 0 ≤ R.slots) (hk : As.length = k) (hl : ls.size = nL) (hst : st0 = As.reverse ++ rest) (hroom : (rest.map fun v => v.category).sum ≤ 8) (hdg : decode cc pc = .ok (.invokestatic idx, 3)) (kk : ∀ (H1 : Heap) (locs1 : List Loc), Ws g s I' L' H1 locs1 → W p l e R s m args below meth c H1 locs1 cells slots Q (F0 m (pc + 3) ls (.int r :: rest))) : W p l e R s m args below meth c H locs cells slots Q (F0 m pc ls st0) := by
  refine va_calli (va_runS (As := As) (rest := rest) C.1 hM (va_cwS k C.1.2.2.2.2 hG rfl rfl rfl hd hR) ⟨pre_blind, pre_at C hW⟩ rfl hk hl hst (lv_room hroom) hdg hf) hW.2 (fun q _ h => h) (fun q h => h) (fun r1 u t H1 locs1 ht hvm hw hB hz1 hk1 hS => ?_)
  obtain ⟨rfl, rfl⟩ := hw
  exact kk H1 locs1 ⟨by rw [← ht]; exact hB, hS⟩
theorem w_callSl (C : Cx g p s m args c own cc nL) (hW : Ws g s I L H locs) (hM : MetL g l y cb n d As I L rl I' L') (hG : GoodIn gw (va_wsS own idx y (wU y cb n (some .long)))) (hd : y.cls ≠ "java/lang/invoke/MethodHandle" ∧ y.cls ≠ "java/lang/invoke/VarHandle" ∧ (parseMethodDescriptor y.desc).map (fun d => d.parameters.length) = some k) (hR : d + 1 ≤ R.frames ∧ 8 + (n + 11) + 40 * d ≤ R.locals) (hf : cells + 0 ≤ R.cells ∧ slots + 0 ≤ R.slots) (hk : As.length = k) (hl : ls.size = nL) (hst : st0 = As.reverse ++ rest) (hroom : (rest.map fun v => v.category).sum ≤ 8) (hdg : decode cc pc = .ok (.invokestatic idx, 3)) (kk : ∀ (H1 : Heap) (locs1 : List Loc), Ws g s I' L' H1 locs1 → W p l e R s m args below meth c H1 locs1 cells slots Q (F0 m (pc + 3) ls (.long rl :: rest))) : W p l e R s m args below meth c H locs cells slots Q (F0 m pc ls st0) := by
  refine va_calll (va_runS (As := As) (rest := rest) C.1 hM (va_cwS k C.1.2.2.2.2 hG rfl rfl rfl hd hR) ⟨pre_blind, pre_at C hW⟩ rfl hk hl hst (lv_room hroom) hdg hf) hW.2 (fun q _ h => h) (fun q h => h) (fun r1 u t H1 locs1 ht hvm hw hB hz1 hk1 hS => ?_)
  obtain ⟨rfl, rfl⟩ := hw
  exact kk H1 locs1 ⟨by rw [← ht]; exact hB, hS⟩
theorem w_callSv (C : Cx g p s m args c own cc nL) (hW : Ws g s I L H locs) (hM : MetV g l y cb n d As I L I' L') (hG : GoodIn gw (va_wsS own idx y (wU y cb n none))) (hd : y.cls ≠ "java/lang/invoke/MethodHandle" ∧ y.cls ≠ "java/lang/invoke/VarHandle" ∧ (parseMethodDescriptor y.desc).map (fun d => d.parameters.length) = some k) (hR : d + 1 ≤ R.frames ∧ 8 + (n + 11) + 40 * d ≤ R.locals) (hf : cells + 0 ≤ R.cells ∧ slots + 0 ≤ R.slots) (hk : As.length = k) (hl : ls.size = nL) (hst : st0 = As.reverse ++ rest) (hroom : (rest.map fun v => v.category).sum ≤ 8) (hdg : decode cc pc = .ok (.invokestatic idx, 3)) (kk : ∀ (H1 : Heap) (locs1 : List Loc), Ws g s I' L' H1 locs1 → W p l e R s m args below meth c H1 locs1 cells slots Q (F0 m (pc + 3) ls (rest))) : W p l e R s m args below meth c H locs cells slots Q (F0 m pc ls st0) := by
  refine va_callv (va_runS (As := As) (rest := rest) C.1 hM (va_cwS k C.1.2.2.2.2 hG rfl rfl rfl hd hR) ⟨pre_blind, pre_at C hW⟩ rfl hk hl hst (lv_room hroom) hdg hf) hW.2 (fun q _ h => h) (fun q h => h) (fun u t H1 locs1 ht hvm hw hB hz1 hk1 hS => ?_)
  obtain rfl := hw
  exact kk H1 locs1 ⟨by rw [← ht]; exact hB, hS⟩
theorem w_callNi (C : Cx g p s m args c own cc nL) (hW : Ws g s I L H locs) (hM : MetI g l y cb n rt d As I L r I' L') (hG : GoodIn gw (wU y cb n (some rt))) (hN : Cond.methodLinkNest own idx y host ∈ nwl) (hs : Cond.static y ∈ gw) (hini : Cond.initialized y.cls ∈ gw) (hd : y.cls ≠ "java/lang/invoke/MethodHandle" ∧ y.cls ≠ "java/lang/invoke/VarHandle" ∧ (parseMethodDescriptor y.desc).map (fun d => d.parameters.length) = some k) (hR : d + 1 ≤ R.frames ∧ 8 + (n + 11) + 40 * d ≤ R.locals) (hf : cells + 0 ≤ R.cells ∧ slots + 0 ≤ R.slots) (hk : As.length = k) (hl : ls.size = nL) (hst : st0 = As.reverse ++ rest) (hroom : (rest.map fun v => v.category).sum ≤ 8) (hdg : decode cc pc = .ok (.invokestatic idx, 3)) (kk : ∀ (H1 : Heap) (locs1 : List Loc), Ws g s I' L' H1 locs1 → W p l e R s m args below meth c H1 locs1 cells slots Q (F0 m (pc + 3) ls (.int r :: rest))) : W p l e R s m args below meth c H locs cells slots Q (F0 m pc ls st0) := by
  refine va_calli (va_runSN (As := As) (rest := rest) C.1 hM ⟨va_cnB k C.1.2.2.2.2 hG rfl rfl rfl (C.2.1.2.1 _ hN) (C.1.2.2.2.2 _ hini) hd hR, C.1.2.2.2.2 _ hs, trivial⟩ ⟨pre_blind, pre_at C hW⟩ rfl hk hl hst (lv_room hroom) hdg hf) hW.2 (fun q _ h => h) (fun q h => h) (fun r1 u t H1 locs1 ht hvm hw hB hz1 hk1 hS => ?_)
  obtain ⟨rfl, rfl⟩ := hw
  exact kk H1 locs1 ⟨by rw [← ht]; exact hB, hS⟩
theorem w_callNl (C : Cx g p s m args c own cc nL) (hW : Ws g s I L H locs) (hM : MetL g l y cb n d As I L rl I' L') (hG : GoodIn gw (wU y cb n (some .long))) (hN : Cond.methodLinkNest own idx y host ∈ nwl) (hs : Cond.static y ∈ gw) (hini : Cond.initialized y.cls ∈ gw) (hd : y.cls ≠ "java/lang/invoke/MethodHandle" ∧ y.cls ≠ "java/lang/invoke/VarHandle" ∧ (parseMethodDescriptor y.desc).map (fun d => d.parameters.length) = some k) (hR : d + 1 ≤ R.frames ∧ 8 + (n + 11) + 40 * d ≤ R.locals) (hf : cells + 0 ≤ R.cells ∧ slots + 0 ≤ R.slots) (hk : As.length = k) (hl : ls.size = nL) (hst : st0 = As.reverse ++ rest) (hroom : (rest.map fun v => v.category).sum ≤ 8) (hdg : decode cc pc = .ok (.invokestatic idx, 3)) (kk : ∀ (H1 : Heap) (locs1 : List Loc), Ws g s I' L' H1 locs1 → W p l e R s m args below meth c H1 locs1 cells slots Q (F0 m (pc + 3) ls (.long rl :: rest))) : W p l e R s m args below meth c H locs cells slots Q (F0 m pc ls st0) := by
  refine va_calll (va_runSN (As := As) (rest := rest) C.1 hM ⟨va_cnB k C.1.2.2.2.2 hG rfl rfl rfl (C.2.1.2.1 _ hN) (C.1.2.2.2.2 _ hini) hd hR, C.1.2.2.2.2 _ hs, trivial⟩ ⟨pre_blind, pre_at C hW⟩ rfl hk hl hst (lv_room hroom) hdg hf) hW.2 (fun q _ h => h) (fun q h => h) (fun r1 u t H1 locs1 ht hvm hw hB hz1 hk1 hS => ?_)
  obtain ⟨rfl, rfl⟩ := hw
  exact kk H1 locs1 ⟨by rw [← ht]; exact hB, hS⟩
theorem w_callNv (C : Cx g p s m args c own cc nL) (hW : Ws g s I L H locs) (hM : MetV g l y cb n d As I L I' L') (hG : GoodIn gw (wU y cb n none)) (hN : Cond.methodLinkNest own idx y host ∈ nwl) (hs : Cond.static y ∈ gw) (hini : Cond.initialized y.cls ∈ gw) (hd : y.cls ≠ "java/lang/invoke/MethodHandle" ∧ y.cls ≠ "java/lang/invoke/VarHandle" ∧ (parseMethodDescriptor y.desc).map (fun d => d.parameters.length) = some k) (hR : d + 1 ≤ R.frames ∧ 8 + (n + 11) + 40 * d ≤ R.locals) (hf : cells + 0 ≤ R.cells ∧ slots + 0 ≤ R.slots) (hk : As.length = k) (hl : ls.size = nL) (hst : st0 = As.reverse ++ rest) (hroom : (rest.map fun v => v.category).sum ≤ 8) (hdg : decode cc pc = .ok (.invokestatic idx, 3)) (kk : ∀ (H1 : Heap) (locs1 : List Loc), Ws g s I' L' H1 locs1 → W p l e R s m args below meth c H1 locs1 cells slots Q (F0 m (pc + 3) ls (rest))) : W p l e R s m args below meth c H locs cells slots Q (F0 m pc ls st0) := by
  refine va_callv (va_runSN (As := As) (rest := rest) C.1 hM ⟨va_cnB k C.1.2.2.2.2 hG rfl rfl rfl (C.2.1.2.1 _ hN) (C.1.2.2.2.2 _ hini) hd hR, C.1.2.2.2.2 _ hs, trivial⟩ ⟨pre_blind, pre_at C hW⟩ rfl hk hl hst (lv_room hroom) hdg hf) hW.2 (fun q _ h => h) (fun q h => h) (fun u t H1 locs1 ht hvm hw hB hz1 hk1 hS => ?_)
  obtain rfl := hw
  exact kk H1 locs1 ⟨by rw [← ht]; exact hB, hS⟩
theorem w_iret (C : Cx g p s m args c own cc nL) (hW : Ws g s I' L' H locs) (hr : meth.sig.returnType = some .int) (hlocks : meth.locks = false) (hdg : decode cc pc = .ok (.ireturn, 1)) : W p l e R s m args below meth c H locs 0 0 (MQ below (va_Qi (fun r1 (u : MI × ML) => r1 = r ∧ u = (I', L')) (fun u t => Wd g u.1 u.2 t.heap) (AA g)) args s 0 0 (AA g)) (F0 m pc ls [.int r]) :=
  W.iret C.1.1 C.1.2.1 hr (fun t ht _ => ⟨⟨r, (I', L'), rfl, ⟨rfl, rfl⟩, by show Wd g I' L' t.heap; rw [ht]; exact hW.1⟩, hW.2.F ht⟩) hW.2.2.2 hdg
theorem w_zret (C : Cx g p s m args c own cc nL) (hW : Ws g s I' L' H locs) (hr : meth.sig.returnType = some .boolean) (hlocks : meth.locks = false) (hz : r = 0 ∨ r = 1) (hdg : decode cc pc = .ok (.ireturn, 1)) : W p l e R s m args below meth c H locs 0 0 (MQ below (va_Qi (fun r1 (u : MI × ML) => r1 = r ∧ u = (I', L')) (fun u t => Wd g u.1 u.2 t.heap) (AA g)) args s 0 0 (AA g)) (F0 m pc ls [.int r]) :=
  W.zret C.1.1 C.1.2.1 hr (isB_nar hz) (fun t ht _ => ⟨⟨r, (I', L'), rfl, ⟨rfl, rfl⟩, by show Wd g I' L' t.heap; rw [ht]; exact hW.1⟩, hW.2.F ht⟩) hW.2.2.2 hdg
theorem w_lret (C : Cx g p s m args c own cc nL) (hW : Ws g s I' L' H locs) (hr : meth.sig.returnType = some .long) (hlocks : meth.locks = false) (hdg : decode cc pc = .ok (.lreturn, 1)) : W p l e R s m args below meth c H locs 0 0 (MQ below (va_Ql (fun r1 (u : MI × ML) => r1 = rl ∧ u = (I', L')) (fun u t => Wd g u.1 u.2 t.heap) (AA g)) args s 0 0 (AA g)) (F0 m pc ls [.long rl]) :=
  W.lret C.1.1 C.1.2.1 hr (fun t ht _ => ⟨⟨rl, (I', L'), rfl, ⟨rfl, rfl⟩, by show Wd g I' L' t.heap; rw [ht]; exact hW.1⟩, hW.2.F ht⟩) hW.2.2.2 hdg
theorem w_vret (C : Cx g p s m args c own cc nL) (hW : Ws g s I' L' H locs) (hr : meth.sig.returnType = none) (hlocks : meth.locks = false) (hdg : decode cc pc = .ok (.return_, 1)) : W p l e R s m args below meth c H locs 0 0 (MQ below (va_Qv (fun (u : MI × ML) => u = (I', L')) (fun u t => Wd g u.1 u.2 t.heap) (AA g)) args s 0 0 (AA g)) (F0 m pc ls []) :=
  W.vret C.1.1 C.1.2.1 hr (fun t ht _ => ⟨⟨(I', L'), rfl, rfl, by show Wd g I' L' t.heap; rw [ht]; exact hW.1⟩, hW.2.F ht⟩) hW.2.2.2 hdg
end RW
theorem EX_0 {g : Gp} {i : Nat} (h : kd i = 0) : ∀ (f : Nat → Int32) (r : Nat → Int64), ∃ fs, EE g i f r = .inr (0, fs) := fun _ _ => ⟨_, EE_0 h⟩
theorem EX_1 {g : Gp} {i : Nat} (h : kd i = 1) : ∀ (f : Nat → Int32) (r : Nat → Int64), ∃ fs, EE g i f r = .inr (1, fs) := fun _ _ => ⟨_, EE_1 h⟩
theorem EX_2 {g : Gp} {i : Nat} (h : kd i = 2) : ∀ (f : Nat → Int32) (r : Nat → Int64), ∃ fs, EE g i f r = .inr (2, fs) := fun _ _ => ⟨_, EE_2 h⟩
theorem EX_3 {g : Gp} {i : Nat} (h : kd i = 3) : ∀ (f : Nat → Int32) (r : Nat → Int64), ∃ fs, EE g i f r = .inr (3, fs) := fun _ _ => ⟨_, EE_3 h⟩
theorem EX_4 {g : Gp} {i : Nat} (h : kd i = 4) : ∀ (f : Nat → Int32) (r : Nat → Int64), ∃ fs, EE g i f r = .inr (4, fs) := fun _ _ => ⟨_, EE_4 h⟩
theorem EX_5 {g : Gp} {i : Nat} (h : kd i = 5) : ∀ (f : Nat → Int32) (r : Nat → Int64), ∃ fs, EE g i f r = .inr (5, fs) := fun _ _ => ⟨_, EE_5 h⟩
theorem EX_6 {g : Gp} {i : Nat} (h : kd i = 6) : ∀ (f : Nat → Int32) (r : Nat → Int64), ∃ fs, EE g i f r = .inr (6, fs) := fun _ _ => ⟨_, EE_6 h⟩
theorem EX_7 {g : Gp} {i : Nat} (h : kd i = 7) : ∀ (f : Nat → Int32) (r : Nat → Int64), ∃ fs, EE g i f r = .inr (7, fs) := fun _ _ => ⟨_, EE_7 h⟩
theorem EX_8 {g : Gp} {i : Nat} (h : kd i = 8) : ∀ (f : Nat → Int32) (r : Nat → Int64), ∃ fs, EE g i f r = .inr (8, fs) := fun _ _ => ⟨_, EE_8 h⟩
theorem EX_9 {g : Gp} {i : Nat} (h : kd i = 9) : ∀ (f : Nat → Int32) (r : Nat → Int64), ∃ fs, EE g i f r = .inr (9, fs) := fun _ _ => ⟨_, EE_9 h⟩
theorem EX_10 {g : Gp} {i : Nat} (h : kd i = 10) : ∀ (f : Nat → Int32) (r : Nat → Int64), ∃ fs, EE g i f r = .inr (10, fs) := fun _ _ => ⟨_, EE_10 h⟩
theorem EX_11 {g : Gp} {i : Nat} (h : kd i = 11) : ∀ (f : Nat → Int32) (r : Nat → Int64), ∃ fs, EE g i f r = .inr (11, fs) := fun _ _ => ⟨_, EE_11 h⟩
