/-! ===== the words: all good words of the tables, one list for every method ===== -/
def gw : List Cond := lw_tbl.filter goodWord
theorem gw_mem {w : Cond} (i : Nat) (h : lw_tbl[i]? = some w) (hg : goodWord w = true) : w ∈ gw := List.mem_filter.mpr ⟨List.mem_of_getElem? h, hg⟩
theorem gw_sub {ws : List Cond} (ps : List Nat) (h : ws = ps.filterMap (fun i => lw_tbl[i]?)) (hg : ws.all goodWord = true) : ∀ w ∈ ws, w ∈ gw := by
  intro w hw
  have h1 := List.all_eq_true.mp hg w hw
  rw [h] at hw
  obtain ⟨i, -, hi⟩ := List.mem_filterMap.mp hw
  exact gw_mem i hi h1
def wU (y : MethodName) (cc : ByteArray) (n : Nat) (r : Option FieldType) : List Cond := Cond.code y cc n r :: gw
theorem good1 {w : Cond} (h : w ∈ gw) : w ∈ gw ∧ ((w.onTables && w.keeps) = true ∨ ∃ ty, w = .arrayClass ty) := ⟨h, good_of_word (List.mem_filter.mp h).2⟩
theorem good_U {y : MethodName} {cc : ByteArray} {n : Nat} {r : Option FieldType} (h : Cond.code y cc n r ∈ gw) : GoodIn gw (wU y cc n r) := fun w hw => by
  rcases List.mem_cons.mp hw with e | e
  · subst e; exact good1 h
  · exact good1 e
theorem good_V {own C : String} {idx : Nat} {y : MethodName} {cc : ByteArray} {n : Nat} {r : Option FieldType} (h1 : Cond.methodLink own idx y ∈ gw) (h2 : Cond.instanceMethod y ∈ gw) (h3 : Cond.selects C y y ∈ gw) (h4 : Cond.initialized C ∈ gw) (h : Cond.code y cc n r ∈ gw) : GoodIn gw (wsV own idx C y (wU y cc n r)) := fun w hw => by
  unfold wsV at hw
  rcases List.mem_append.mp hw with e | e
  · simp only [List.mem_cons, List.not_mem_nil, or_false] at e
    rcases e with rfl | rfl | rfl | rfl
    · exact good1 h1
    · exact good1 h2
    · exact good1 h3
    · exact good1 h4
  · exact good_U h w e
theorem good_S {own : String} {idx : Nat} {y : MethodName} {cc : ByteArray} {n : Nat} {r : Option FieldType} (h1 : Cond.methodLink own idx y ∈ gw) (h2 : Cond.static y ∈ gw) (h4 : Cond.initialized y.cls ∈ gw) (h : Cond.code y cc n r ∈ gw) : GoodIn gw (va_wsS own idx y (wU y cc n r)) := fun w hw => by
  unfold va_wsS at hw
  rcases List.mem_append.mp hw with e | e
  · simp only [List.mem_cons, List.not_mem_nil, or_false] at e
    rcases e with rfl | rfl | rfl
    · exact good1 h1
    · exact good1 h2
    · exact good1 h4
  · exact good_U h w e
def rmD (d : Nat) : Room := { frames := d, cells := 0, slots := 0, locals := 40 * d }
/-! ===== the system's cells: by numbers from the first one on; which kind each is, how long ===== -/
def wk (j : Nat) : Nat := if j % 8 = 0 then 9 else if j % 8 = 1 then 16 else 6
def kd (i : Nat) : Nat :=
  if i = 0 then 10 else if i = 1 then 7 else if i = 2 then 12 else if i < 19 then wk (i - 3) else if i = 19 then 3 else if i = 20 then 17
  else if i < 181 then wk (i - 21) else if i = 181 then 17 else if i < 198 then wk (i - 182) else if i = 198 then 15
  else if i < 207 then (if (i - 199) % 2 = 0 then 5 else 13)
  else if i = 207 then 1 else if i = 208 then 12 else if i = 209 then 14 else if i = 210 then 12 else if i = 211 then 6
  else if i = 212 then 0 else if i = 213 then 14 else if i = 214 then 18 else if i < 217 then 12 else if i = 217 then 18 else if i < 220 then 12
  else if i = 220 then 4 else if i < 223 then 16 else if i < 237 then 6
  else if i = 237 then 8 else if i < 240 then 12 else if i = 240 then 2 else if i < 244 then 12
  else if i = 244 then 11 else if i = 245 then 12 else if i = 246 then 14 else if i = 247 then 13 else if i < 253 then 12 else if i = 253 then 13 else if i = 254 then 12 else 99
def ln (i : Nat) : Nat :=
  if i = 2 then 90 else if i = 20 then 20 else if i = 181 then 2 else if i = 198 then 4
  else if i < 198 then 6 else if i < 207 then 24
  else if i = 208 then 60 else if i = 209 then 60 else if i = 210 then 4 else if i = 213 then 10 else if i = 214 then 2 else if i < 217 then 10 else if i = 217 then 2 else if i < 220 then 10
  else if i < 223 then 7 else if i < 240 then 7 else if i < 243 then 12 else if i = 243 then 8
  else if i = 245 then 1752 else if i = 246 then 2 else if i = 247 then 96 else if i < 250 then 4 else if i = 250 then 90 else if i = 251 then 40 else if i = 252 then 729 else if i = 253 then 24 else 448
theorem kd_lt {i k : Nat} (h : kd i = k) (hk : k < 99) : i < 255 := by
  apply Classical.byContradiction
  intro hn
  have : kd i = 99 := by
    unfold kd
    repeat rw [if_neg (by omega)]
  omega
abbrev MI : Type := Nat → Nat → Int32
abbrev ML : Type := Nat → Nat → Int64
def up2 (I : MI) (i k : Nat) (v : Int32) : MI := va_up I i (upd (I i) k v)
def uq2 (L : ML) (i k : Nat) (v : Int64) : ML := va_up L i (vp_updL (L i) k v)
/-- where the first cell lies; the classes' numbers; the arrays' classes; the two static arrays -/
abbrev Gp : Type := Nat × va_G × (Nat → ClassId) × Nat × Nat
def AA (g : Gp) : Nat → Prop := fun q => g.1 ≤ q
abbrev rfa (h : Nat → Nat) : (Nat → Int32) ⊕ (Nat → Int64) ⊕ (Nat → UInt32) ⊕ (Nat → UInt64) ⊕ (Nat → Option Nat) := .inr (.inr (.inr (.inr (fun j => some (h j)))))
def EE (g : Gp) (i : Nat) (f : Nat → Int32) (r : Nat → Int64) : va_E :=
  if kd i = 0 then .inr (0, [.ref (g.1 + 213), .ref (g.1 + 214), .ref (g.1 + 217), .int (f 3), .int (f 4), .int (f 5), .int (f 6)])
  else if kd i = 1 then .inr (1, [.ref (g.1 + 208), .ref (g.1 + 209), .ref (g.1 + 210), .int (f 3), .int (f 4), .ref (g.1 + 211)])
  else if kd i = 2 then .inr (2, [.ref (g.1 + 241), .ref (g.1 + 242), .ref (g.1 + 243), .int (f 3)])
  else if kd i = 3 then .inr (3, [.ref (g.1 + 20), .int (f 1), .int (f 2)])
  else if kd i = 4 then .inr (4, [.ref (g.1 + 221), .ref (g.1 + 222), va_rf (if f 2 = 0 then none else some (g.1 + 207))])
  else if kd i = 5 then .inr (5, [.int (f 0), .int (f 1), .ref (g.1 + (i + 1))])
  else if kd i = 6 then .inr (6, [.int (f 0), .int (f 1), .int (f 2), .int (f 3), .int (f 4), .int (f 5), .int (f 6), .int (f 7), .int (f 8), .int (f 9), .int (f 10)])
  else if kd i = 7 then .inr (7, [.ref (g.1 + 2), .int (f 1), .int (f 2), .int (f 3)])
  else if kd i = 8 then .inr (8, [.ref (g.1 + 238), .ref (g.1 + 239), .int (f 2), .int (f 3), .int (f 4)])
  else if kd i = 9 then .inr (9, [.ref (g.1 + (i + 1)), .int (f 1), .int (f 2), .int (f 3), .int (f 4), .int (f 5), .int (f 6)])
  else if kd i = 10 then .inr (10, [.ref (g.1 + 1), .ref (g.1 + 3), .ref (g.1 + 11), .ref (g.1 + 19), .ref (g.1 + 181), .ref (g.1 + 198), .ref (g.1 + 207), .ref (g.1 + 212), .ref (g.1 + 220), .ref (g.1 + 237), .ref (g.1 + 240)])
  else if kd i = 11 then .inr (11, [.ref (g.1 + 245), .ref (g.1 + 246), .int (f 2), .ref (g.1 + 247), .ref (g.1 + 248), .ref (g.1 + 249), .ref (g.1 + 250), .int (f 7), .int (f 8), .int (f 9), .int (f 10), .ref (g.1 + 251), .long (r 12), .long (r 13), .ref (g.1 + 252), .ref (g.1 + 253), .ref (g.1 + 254)])
  else if kd i = 12 then .inl (g.2.2.1 0, ln i, .inl f)
  else if kd i = 13 then .inl (g.2.2.1 1, ln i, .inr (.inl r))
  else if kd i = 14 then .inl (g.2.2.1 2, ln i, .inl f)
  else if kd i = 15 then .inl (g.2.2.1 3, ln i, rfa (fun j => g.1 + (199 + 2 * j)))
  else if kd i = 16 then .inl (g.2.2.1 4, ln i, rfa (fun j => g.1 + (if i = 221 then 223 + 2 * j else if i = 222 then 224 + 2 * j else i + 1 + j)))
  else if kd i = 17 then .inl (g.2.2.1 5, ln i, rfa (fun j => g.1 + (if i = 20 then 21 + 8 * j else 182 + 8 * j)))
  else .inl (g.2.2.1 6, ln i, rfa (fun j => g.1 + (i + 1 + j)))
theorem EE_0 {g : Gp} {i : Nat} {f : Nat → Int32} {r : Nat → Int64} (h : kd i = 0) : EE g i f r = .inr (0, [.ref (g.1 + 213), .ref (g.1 + 214), .ref (g.1 + 217), .int (f 3), .int (f 4), .int (f 5), .int (f 6)]) := by simp [EE, h]
theorem EE_1 {g : Gp} {i : Nat} {f : Nat → Int32} {r : Nat → Int64} (h : kd i = 1) : EE g i f r = .inr (1, [.ref (g.1 + 208), .ref (g.1 + 209), .ref (g.1 + 210), .int (f 3), .int (f 4), .ref (g.1 + 211)]) := by simp [EE, h]
theorem EE_2 {g : Gp} {i : Nat} {f : Nat → Int32} {r : Nat → Int64} (h : kd i = 2) : EE g i f r = .inr (2, [.ref (g.1 + 241), .ref (g.1 + 242), .ref (g.1 + 243), .int (f 3)]) := by simp [EE, h]
theorem EE_3 {g : Gp} {i : Nat} {f : Nat → Int32} {r : Nat → Int64} (h : kd i = 3) : EE g i f r = .inr (3, [.ref (g.1 + 20), .int (f 1), .int (f 2)]) := by simp [EE, h]
theorem EE_4 {g : Gp} {i : Nat} {f : Nat → Int32} {r : Nat → Int64} (h : kd i = 4) : EE g i f r = .inr (4, [.ref (g.1 + 221), .ref (g.1 + 222), va_rf (if f 2 = 0 then none else some (g.1 + 207))]) := by simp [EE, h]
theorem EE_5 {g : Gp} {i : Nat} {f : Nat → Int32} {r : Nat → Int64} (h : kd i = 5) : EE g i f r = .inr (5, [.int (f 0), .int (f 1), .ref (g.1 + (i + 1))]) := by simp [EE, h]
theorem EE_6 {g : Gp} {i : Nat} {f : Nat → Int32} {r : Nat → Int64} (h : kd i = 6) : EE g i f r = .inr (6, [.int (f 0), .int (f 1), .int (f 2), .int (f 3), .int (f 4), .int (f 5), .int (f 6), .int (f 7), .int (f 8), .int (f 9), .int (f 10)]) := by simp [EE, h]
theorem EE_7 {g : Gp} {i : Nat} {f : Nat → Int32} {r : Nat → Int64} (h : kd i = 7) : EE g i f r = .inr (7, [.ref (g.1 + 2), .int (f 1), .int (f 2), .int (f 3)]) := by simp [EE, h]
theorem EE_8 {g : Gp} {i : Nat} {f : Nat → Int32} {r : Nat → Int64} (h : kd i = 8) : EE g i f r = .inr (8, [.ref (g.1 + 238), .ref (g.1 + 239), .int (f 2), .int (f 3), .int (f 4)]) := by simp [EE, h]
theorem EE_9 {g : Gp} {i : Nat} {f : Nat → Int32} {r : Nat → Int64} (h : kd i = 9) : EE g i f r = .inr (9, [.ref (g.1 + (i + 1)), .int (f 1), .int (f 2), .int (f 3), .int (f 4), .int (f 5), .int (f 6)]) := by simp [EE, h]
theorem EE_10 {g : Gp} {i : Nat} {f : Nat → Int32} {r : Nat → Int64} (h : kd i = 10) : EE g i f r = .inr (10, [.ref (g.1 + 1), .ref (g.1 + 3), .ref (g.1 + 11), .ref (g.1 + 19), .ref (g.1 + 181), .ref (g.1 + 198), .ref (g.1 + 207), .ref (g.1 + 212), .ref (g.1 + 220), .ref (g.1 + 237), .ref (g.1 + 240)]) := by simp [EE, h]
theorem EE_11 {g : Gp} {i : Nat} {f : Nat → Int32} {r : Nat → Int64} (h : kd i = 11) : EE g i f r = .inr (11, [.ref (g.1 + 245), .ref (g.1 + 246), .int (f 2), .ref (g.1 + 247), .ref (g.1 + 248), .ref (g.1 + 249), .ref (g.1 + 250), .int (f 7), .int (f 8), .int (f 9), .int (f 10), .ref (g.1 + 251), .long (r 12), .long (r 13), .ref (g.1 + 252), .ref (g.1 + 253), .ref (g.1 + 254)]) := by simp [EE, h]
theorem EE_12 {g : Gp} {i : Nat} {f : Nat → Int32} {r : Nat → Int64} (h : kd i = 12) : EE g i f r = .inl (g.2.2.1 0, ln i, .inl f) := by simp [EE, h]
theorem EE_13 {g : Gp} {i : Nat} {f : Nat → Int32} {r : Nat → Int64} (h : kd i = 13) : EE g i f r = .inl (g.2.2.1 1, ln i, .inr (.inl r)) := by simp [EE, h]
theorem EE_14 {g : Gp} {i : Nat} {f : Nat → Int32} {r : Nat → Int64} (h : kd i = 14) : EE g i f r = .inl (g.2.2.1 2, ln i, .inl f) := by simp [EE, h]
theorem EE_15 {g : Gp} {i : Nat} {f : Nat → Int32} {r : Nat → Int64} (h : kd i = 15) : EE g i f r = .inl (g.2.2.1 3, ln i, rfa (fun j => g.1 + (199 + 2 * j))) := by simp [EE, h]
theorem EE_16 {g : Gp} {i : Nat} {f : Nat → Int32} {r : Nat → Int64} (h : kd i = 16) : EE g i f r = .inl (g.2.2.1 4, ln i, rfa (fun j => g.1 + (if i = 221 then 223 + 2 * j else if i = 222 then 224 + 2 * j else i + 1 + j))) := by simp [EE, h]
theorem EE_17 {g : Gp} {i : Nat} {f : Nat → Int32} {r : Nat → Int64} (h : kd i = 17) : EE g i f r = .inl (g.2.2.1 5, ln i, rfa (fun j => g.1 + (if i = 20 then 21 + 8 * j else 182 + 8 * j))) := by simp [EE, h]
theorem EE_18 {g : Gp} {i : Nat} {f : Nat → Int32} {r : Nat → Int64} (h : kd i = 18) : EE g i f r = .inl (g.2.2.1 6, ln i, rfa (fun j => g.1 + (i + 1 + j))) := by simp [EE, h]
def wl (g : Gp) (I : MI) (L : ML) : va_W := (List.range 255).map (fun i => (g.1 + i, EE g i (I i) (L i)))
theorem wl_get {g : Gp} {I : MI} {L : ML} {i : Nat} (h : i < 255) : (wl g I L)[i]? = some (g.1 + i, EE g i (I i) (L i)) := by
  unfold wl
  rw [List.getElem?_map, List.getElem?_range h]
  rfl
theorem wl_at {g : Gp} {I : MI} {L : ML} {k : Nat} {q : Nat × va_E} (h : (wl g I L)[k]? = some q) : k < 255 ∧ q = (g.1 + k, EE g k (I k) (L k)) := by
  have hl : k < 255 := by
    have := (List.getElem?_eq_some_iff.mp h).1
    simpa [wl] using this
  rw [wl_get hl] at h
  exact ⟨hl, (Option.some.inj h).symm⟩
theorem wl_D {g : Gp} {I : MI} {L : ML} : va_D (AA g) (wl g I L) := by
  refine ⟨fun i j p q hi hj hpq => ?_, fun k q hk => ?_⟩
  · obtain ⟨-, rfl⟩ := wl_at hi
    obtain ⟨-, rfl⟩ := wl_at hj
    exact Nat.add_left_cancel hpq
  · obtain ⟨-, rfl⟩ := wl_at hk
    exact Nat.le_add_right _ _
theorem wl_setI {g : Gp} {I : MI} {L : ML} {i : Nat} {f : Nat → Int32} {e : va_E} (h : i < 255) (he : EE g i f (L i) = e) : (wl g I L).set i (g.1 + i, e) = wl g (va_up I i f) L := by
  subst he
  apply List.ext_getElem?
  intro k
  by_cases hk : k < 255
  · by_cases e : k = i
    · subst e
      rw [List.getElem?_set_self (by simpa [wl] using hk), wl_get hk]
      simp [va_up]
    · rw [List.getElem?_set_ne (fun z => e z.symm), wl_get hk, wl_get hk]
      simp [va_up, e]
  · rw [List.getElem?_eq_none (by simp [wl]; omega), List.getElem?_eq_none (by simp [wl]; omega)]
theorem wl_setL {g : Gp} {I : MI} {L : ML} {i : Nat} {f : Nat → Int64} {e : va_E} (h : i < 255) (he : EE g i (I i) f = e) : (wl g I L).set i (g.1 + i, e) = wl g I (va_up L i f) := by
  subst he
  apply List.ext_getElem?
  intro k
  by_cases hk : k < 255
  · by_cases e : k = i
    · subst e
      rw [List.getElem?_set_self (by simpa [wl] using hk), wl_get hk]
      simp [va_up]
    · rw [List.getElem?_set_ne (fun z => e z.symm), wl_get hk, wl_get hk]
      simp [va_up, e]
  · rw [List.getElem?_eq_none (by simp [wl]; omega), List.getElem?_eq_none (by simp [wl]; omega)]
def Wd (g : Gp) (I : MI) (L : ML) (H : Heap) : Prop := va_P g.2.1 vwCl (wl g I L) H
/-! ===== what is known of the tables at any state of the run ===== -/
def nwl : List Cond := [.methodLinkNest RX10 9 yX7_init RX10, .methodLinkNest RX9 21 yX6_init RX10, .methodLinkNest RX10 43 yX5_init RX10, .methodLinkNest RX10 46 yX1_init RX10, .methodLinkNest RX1 24 yX6_init RX10, .methodLinkNest RX10 53 yX0_init RX10, .methodLinkNest RX4 20 yX6_init RX10, .methodLinkNest RX10 67 yX8_init RX10, .methodLinkNest RX10 74 yX2_init RX10, .methodLinkNest RX7 80 yX10_within RX10, .methodLinkNest RX9 41 yX10_isDark RX10, .methodLinkNest RX9 56 yX10_drawAfter RX10, .methodLinkNest RX1 35 yX10_drawAfter RX10, .methodLinkNest RX1 49 yX10_isDark RX10, .methodLinkNest RX1 53 yX10_within RX10, .methodLinkNest RX0 44 yX10_isDark RX10, .methodLinkNest RX4 56 yX10_within RX10]
def isMN : Cond → Bool
  | .methodLinkNest _ _ _ _ => true
  | _ => false
abbrev fnw : Cond := .fieldLinkNest RX7 84 RX10 "SORTS" "[C" RX10
abbrev tys (g : Gp) : List (ClassId × FieldType) := [(g.2.2.1 0, .int), (g.2.2.1 1, .long), (g.2.2.1 2, .boolean), (g.2.2.1 3, .object RX5), (g.2.2.1 4, .object RX6), (g.2.2.1 5, .object RX9), (g.2.2.1 6, .array .int)]
def Kn (g : Gp) (U : State) : Prop := va_K g.2.1 vwCl (tys g) U ∧ (∀ w ∈ nwl, va_Nw w U) ∧ va_Nw fnw U
def koF (j : Nat) : Int32 := if j = 0 then -1 else if j = 1 then 0 else if j = 2 then 1 else if j = 3 then 1 else if j = 4 then 0 else 4
def soF (j : Nat) : Int32 := if j = 0 then 112 else if j = 1 then 104 else if j = 2 then 109 else if j = 3 then 121 else 115
def Sx (g : Gp) (U : State) (H : Heap) : Prop := va_Z RX10 "KIND_OVER" "[I" (.ref g.2.2.2.1) (AA g) U H ∧ va_T .int g.2.2.2.1 6 (fun j => .int (koF j)) (AA g) U H ∧ va_Z RX10 "SORTS" "[C" (.ref g.2.2.2.2) (AA g) U H ∧ va_T .char g.2.2.2.2 5 (fun j => .int (soF j)) (AA g) U H
theorem Kn.warm {g : Gp} {s U : State} (hW : s.WarmedH U.vm) (h : Kn g s) : Kn g U := by
  refine ⟨va_K.moved hW.alike h.1, fun w hw => ?_, va_Nw.warmF hW h.2.2⟩
  have h2 := h.2.1 w hw
  have h3 : isMN w = true := (List.all_eq_true.mp (by decide +kernel : nwl.all isMN = true)) w hw
  match w, h2, h3 with
  | .methodLinkNest _ _ _ _, h2, _ => exact va_Nw.warmM hW h2
theorem Kn.same {g : Gp} {s U : State} (hv : s.vm = U.vm) (h : Kn g s) : Kn g U := by
  refine ⟨va_K.moved (by rw [hv]; exact Vm.Alike.refl U.vm) h.1, fun w hw => ?_, va_Nw.same rfl hv h.2.2⟩
  have h2 := h.2.1 w hw
  have h3 : isMN w = true := (List.all_eq_true.mp (by decide +kernel : nwl.all isMN = true)) w hw
  match w, h2, h3 with
  | .methodLinkNest _ _ _ _, h2, _ => exact va_Nw.same rfl hv h2
theorem Sx.moved {g : Gp} {u U : State} {H : Heap} (hvm : u.vm.Alike U.vm) (h : Sx g u H) : Sx g U H := ⟨h.1.moved hvm, h.2.1.moved hvm, h.2.2.1.moved hvm, h.2.2.2.moved hvm⟩
theorem Sx.kept {g : Gp} {U : State} {H H1 : Heap} (h : Sx g U H) (hq : ∀ a : Nat, a < H.size → ¬ AA g a → H1[a]? = H[a]?) : Sx g U H1 := ⟨h.1.kept hq, h.2.1.kept hq, h.2.2.1.kept hq, h.2.2.2.kept hq⟩
def Pre (g : Gp) (I : MI) (L : ML) (U : State) : Prop := Wd g I L U.heap ∧ Kn g U ∧ Sx g U U.heap
def Cx (g : Gp) (p : Program) (s : State) (m : MethodId) (args : Array Value) (c : Code) (own : String) (cc : ByteArray) (nL : Nat) : Prop := CallFix p m c cc nL s args gw own ∧ Kn g s ∧ Sx g s s.heap
def Ws (g : Gp) (s : State) (I : MI) (L : ML) (H : Heap) (locs : List Loc) : Prop := Wd g I L H ∧ va_S (AA g) s.heap H locs
/-! ===== the contracts' forms ===== -/
def MetI (g : Gp) (l : Launch) (y : MethodName) (cc : ByteArray) (n : Nat) (rt : FieldType) (d : Nat) (av : List Value) (I : MI) (L : ML) (r : Int32) (I' : MI) (L' : ML) : Prop :=
  Met l y (wU y cc n (some rt)) (rmD d) (va_Pc av (Pre g I L)) (va_Qi (fun r' (u : MI × ML) => r' = r ∧ u = (I', L')) (fun u t => Wd g u.1 u.2 t.heap) (AA g)) 0 0 (AA g)
def MetL (g : Gp) (l : Launch) (y : MethodName) (cc : ByteArray) (n : Nat) (d : Nat) (av : List Value) (I : MI) (L : ML) (r : Int64) (I' : MI) (L' : ML) : Prop :=
  Met l y (wU y cc n (some .long)) (rmD d) (va_Pc av (Pre g I L)) (va_Ql (fun r' (u : MI × ML) => r' = r ∧ u = (I', L')) (fun u t => Wd g u.1 u.2 t.heap) (AA g)) 0 0 (AA g)
def MetV (g : Gp) (l : Launch) (y : MethodName) (cc : ByteArray) (n : Nat) (d : Nat) (av : List Value) (I : MI) (L : ML) (I' : MI) (L' : ML) : Prop :=
  Met l y (wU y cc n none) (rmD d) (va_Pc av (Pre g I L)) (va_Qv (fun (u : MI × ML) => u = (I', L')) (fun u t => Wd g u.1 u.2 t.heap) (AA g)) 0 0 (AA g)
theorem pre_blind {g : Gp} {av : List Value} {I : MI} {L : ML} : FrameBlind (va_Pc av (Pre g I L)) := fun a U f mk q => ⟨q.1, q.2.1, Kn.same (s := U) (U := U.calling f mk a) rfl q.2.2.1, Sx.moved (u := U) (U := U.calling f mk a) (Vm.Alike.refl U.vm) q.2.2.2⟩
theorem pre_at {g : Gp} {av : List Value} {I : MI} {L : ML} {p : Program} {s : State} {m : MethodId} {args : Array Value} {c : Code} {own : String} {cc : ByteArray} {nL : Nat} {H : Heap} {locs : List Loc} (C : Cx g p s m args c own cc nL) (hW : Ws g s I L H locs) : ∀ U : State, U.heap = H → s.WarmedH U.vm → va_Pc av (Pre g I L) av.toArray U := fun U hU hV =>
  ⟨rfl, by rw [hU]; exact hW.1, C.2.1.warm hV, by rw [hU]; exact (C.2.2.moved hV.alike).kept (fun a h1 h2 => hW.2.2.1 a h1 h2)⟩
