/-! ===== arrays of arrays of ints: their class, and the one 'multianewarray' of the program (2 rows of 10) ===== -/
section Grid
theorem m2_over {args : Array Value} {first s : State} {o : Option Outcome} {idx : List Nat} : (Cond.arrayOver (.array .int)).holds args first o s idx = true ↔
    ∃ q a k, s.vm.findClass "[I" = some q ∧ (s.vm.classes.findIdx? fun (x : Class) => match x.kind with | .array component _ => component == q | _ => false) = some a ∧ s.vm.classes[a]? = some k ∧ k.kind = .array q (.array .int) ∧ s.vm.findClass "[[I" = some a := by
  have e1 : (FieldType.array .int).toString = "[I" := by decide +kernel
  have e2 : "[" ++ (FieldType.array .int).toString = "[[I" := by decide +kernel
  simp only [Cond.holds, Cond.value, e1, beq_iff_eq, Option.bind_eq_some_iff, Option.map_eq_some_iff]
  constructor
  · rintro ⟨q, hq, a, ha, k, hk, hb⟩
    have hm := (Array.findIdx?_eq_some_iff_getElem.mp ha).2.1
    rw [(Array.getElem?_eq_some_iff.mp hk).2] at hm
    cases hkd : k.kind <;> rw [hkd] at hm hb <;> simp at hm hb
    rename_i z t
    exact ⟨q, a, k, hq, ha, hk, by rw [hkd, hm, hb.1], hb.2⟩
  · rintro ⟨q, a, k, hq, ha, hk, hkd, hn⟩
    refine ⟨q, hq, a, ha, k, hk, ?_⟩
    rw [hkd]
    simp [hn]
theorem m2_alike {a1 a2 : Array Value} {U V : State} (h : U.vm.Alike V.vm) (k : (Cond.arrayOver (.array .int)).before a1 U = true) : (Cond.arrayOver (.array .int)).before a2 V = true := by
  obtain ⟨q, a, k, hq, ha, hk, hkd, hn⟩ := m2_over.mp k
  obtain ⟨k', hk', ek⟩ := h.2.2 _ _ hk
  refine m2_over.mpr ⟨q, a, k', by rw [h.findClass]; exact hq, ?_, hk', by rw [ek]; exact hkd, by rw [h.findClass]; exact hn⟩
  rw [h.findIdx_congr _ (fun _ _ _ _ => rfl)]
  exact ha
def m2_c (a : ClassId) (N : Nat) (v : Value) : Cell := { cls := a, slots := Array.replicate N v, vm := .none }
def m2_1 (a : ClassId) (h : Nat) : Cell := (m2_c a 2 .null).setSlot 0 (.ref (h + 1))
def m2_2 (a : ClassId) (h : Nat) : Cell := (m2_1 a h).setSlot 1 (.ref (h + 2))
def m2_P (U : State) (a b : ClassId) : State := ((U.pushCell (m2_c a 2 .null)).pushCell (m2_c b 10 (.int 0))).setCell U.heap.size (m2_1 a U.heap.size)
def m2_F (U : State) (a b : ClassId) : State := ((m2_P U a b).pushCell (m2_c b 10 (.int 0))).setCell U.heap.size (m2_2 a U.heap.size)
theorem m2_c_size (a : ClassId) (N : Nat) (v : Value) : (m2_c a N v).slots.size = N := Array.size_replicate
theorem m2_1_size (a : ClassId) (h : Nat) : (m2_1 a h).slots.size = 2 := by simp [m2_1, m2_c, Cell.setSlot]
theorem m2_size_push (U : State) (x : Cell) : (U.pushCell x).heap.size = U.heap.size + 1 := by simp
theorem m2_size_set (U : State) (a : Nat) (x : Cell) : (U.setCell a x).heap.size = U.heap.size := by simp [State.setCell]
theorem m2_P_size (U : State) (a b : ClassId) : (m2_P U a b).heap.size = U.heap.size + 2 := by rw [m2_P, m2_size_set, m2_size_push, m2_size_push]
theorem m2_F_size (U : State) (a b : ClassId) : (m2_F U a b).heap.size = U.heap.size + 3 := by rw [m2_F, m2_size_set, m2_size_push, m2_P_size]
theorem m2_po {U : State} {x : Cell} {n i : Nat} (h : U.heap.size = n) (hi : i < n) : (U.pushCell x).heap[i]? = U.heap[i]? := State.heap_pushCell_of_lt _ _ (by rw [h]; exact hi)
theorem m2_ps {U : State} {x : Cell} {n : Nat} (h : U.heap.size = n) : (U.pushCell x).heap[n]? = some x := by
  subst h
  exact State.heap_pushCell_size _ _
theorem m2_so {U : State} {x : Cell} {a i : Nat} (h : a ≠ i) : (U.setCell a x).heap[i]? = U.heap[i]? := State.heap_setCell_other h
theorem m2_0_here (U : State) (a b : ClassId) : ((U.pushCell (m2_c a 2 .null)).pushCell (m2_c b 10 (.int 0))).heap[U.heap.size]? = some (m2_c a 2 .null) := (m2_po (m2_size_push U _) (Nat.lt_succ_self _)).trans (m2_ps rfl)
theorem m2_P_here (U : State) (a b : ClassId) : ((m2_P U a b).pushCell (m2_c b 10 (.int 0))).heap[U.heap.size]? = some (m2_1 a U.heap.size) := (m2_po (m2_P_size U a b) (by omega)).trans (State.heap_setCell_self (m2_0_here U a b))
theorem m2_F_here (U : State) (a b : ClassId) : (m2_F U a b).heap[U.heap.size]? = some (m2_2 a U.heap.size) := State.heap_setCell_self (m2_P_here U a b)
theorem m2_F_row1 (U : State) (a b : ClassId) : (m2_F U a b).heap[U.heap.size + 1]? = some (m2_c b 10 (.int 0)) := (m2_so (by omega)).trans ((m2_po (m2_P_size U a b) (by omega)).trans ((m2_so (by omega)).trans (m2_ps (m2_size_push U _))))
theorem m2_F_row2 (U : State) (a b : ClassId) : (m2_F U a b).heap[U.heap.size + 2]? = some (m2_c b 10 (.int 0)) := (m2_so (by omega)).trans (m2_ps (m2_P_size U a b))
theorem m2_F_old (U : State) (a b : ClassId) {x : Nat} (h : x < U.heap.size) : (m2_F U a b).heap[x]? = U.heap[x]? := (m2_so (by omega)).trans ((m2_po (m2_P_size U a b) (by omega)).trans ((m2_so (by omega)).trans ((m2_po (m2_size_push U _) (by omega)).trans (m2_po rfl h))))
theorem m2_F_top (U : State) (f : JFrame) (a b : ClassId) : m2_F (U.setTop f) a b = (m2_F U a b).setTop f := by
  simp only [m2_F, m2_P, State.heap_setTop, State.pushCell_setTop, State.setCell_setTop]
theorem m2_P_vm (U : State) (a b : ClassId) : (m2_P U a b).vm = U.vm := rfl
theorem m2_P_used (U : State) (a b : ClassId) : (m2_P U a b).slotsUsed = U.slotsUsed + 12 := by
  simp [m2_P, m2_c]
section Make
variable {E : CtlPost} {e : Env} {d : Bool} {acts : List Action} {U : State}
theorem m2_new {c q : ClassId} {k : Class} {t : FieldType} {N : Nat} {v : Value} (hk : U.vm.classes[c]? = some k) (hkd : k.kind = .array q t) (h1 : N ≤ e.platform.arrayLengthLimit) (h2 : N * componentBytes t ≤ e.platform.maxHeapBytes) (hf : fits t v = true) (hd : v.isDefault = true) (h3 : U.heap.size + 1 ≤ e.platform.maxCells) (h4 : U.slotsUsed + N ≤ e.platform.maxSlots) {Q : Addr → Jvm.Pre} (hq : Q U.heap.size d acts (U.pushCell (m2_c c N v))) : wp (Jvm.newArray c N v) Q E e d acts U := by
  have ha : allocActs (Array.replicate N v) U.heap.size acts = acts := by
    simp only [allocActs, Array.all_replicate, hd]
    simp
  simp only [Jvm.newArray, Jvm.arrayFits, wp_bind', W.ask, W.ite, wp_pure', W.theClass, hk, hkd, W.alloc, W.stop, Option.some.injEq, exists_eq_left', Array.size_replicate, ha]
  rw [if_neg (by omega), if_neg (by omega), if_neg (by omega)]
  refine ⟨by omega, h4, fun i w hw => ?_, hq⟩
  have ew : w = v := by
    rw [Array.getElem?_replicate] at hw
    split at hw <;> cases hw
    rfl
  subst ew
  simp [State.fitsSlot, State.slotType?, hk, hkd, hf]
theorem m2_row {c q : ClassId} {k : Class} (hk : U.vm.classes[c]? = some k) (hkd : k.kind = .array q .int) (h1 : 10 ≤ e.platform.arrayLengthLimit) (h2 : 40 ≤ e.platform.maxHeapBytes) (h3 : U.heap.size + 1 ≤ e.platform.maxCells) (h4 : U.slotsUsed + 10 ≤ e.platform.maxSlots) {Q : Addr → Jvm.Pre} (hq : Q U.heap.size d acts (U.pushCell (m2_c c 10 (.int 0)))) : wp (multianewarray.make c [10]) Q E e d acts U := by
  rw [multianewarray.make]
  simp only [wp_bind', W.ite, wp_pure', W.theClass, hk, hkd, Option.some.injEq, exists_eq_left']
  rw [if_neg (by decide)]
  exact m2_new hk hkd h1 h2 rfl rfl h3 h4 hq
theorem m2_fit {a b : ClassId} {kA : Class} {V : State} (hA : V.vm.classes[a]? = some kA) (hAd : kA.kind = .array b (.array .int)) {i x : Nat} : V.fitsSlot a .none i (.ref x) = true := by
  have hf : fits (.array .int) (.ref x) = true := rfl
  simp [State.fitsSlot, State.slotType?, hA, hAd, hf]
theorem m2_used (V : State) (a : ClassId) (N : Nat) (v : Value) : (V.pushCell (m2_c a N v)).slotsUsed = V.slotsUsed + N := by simp [m2_c]
theorem m2_make {a b q : ClassId} {kA kB : Class} (hA : U.vm.classes[a]? = some kA) (hAd : kA.kind = .array b (.array .int)) (hB : U.vm.classes[b]? = some kB) (hBd : kB.kind = .array q .int) (h1 : 10 ≤ e.platform.arrayLengthLimit) (h2 : 40 ≤ e.platform.maxHeapBytes) (h3 : U.heap.size + 3 ≤ e.platform.maxCells) (h4 : U.slotsUsed + 22 ≤ e.platform.maxSlots) {Q : Addr → Jvm.Pre} (hq : ∀ d' acts', Q U.heap.size d' acts' (m2_F U a b)) : wp (multianewarray.make a [2, 10]) Q E e d acts U := by
  rw [multianewarray.make]
  simp only [wp_bind', W.ite, wp_pure', W.theClass, hA, hAd, Option.some.injEq, exists_eq_left']
  rw [if_neg (by decide)]
  refine m2_new hA hAd (by show 2 ≤ _; omega) (by show 2 * 4 ≤ _; omega) rfl rfl (by omega) (by show _ + 2 ≤ _; omega) ?_
  rw [if_neg (by decide), wp_bind', Std.Legacy.Range.forIn_eq_forIn_range']
  show wp (forIn [0, 1] PUnit.unit _) _ E e d acts (U.pushCell (m2_c a 2 .null))
  simp only [List.forIn_cons, List.forIn_nil, wp_bind', wp_pure']
  refine m2_row (U := U.pushCell (m2_c a 2 .null)) hB hBd h1 h2 (by rw [m2_size_push]; omega) (by rw [m2_used]; omega) ?_
  rw [wp_bind', W.writeLoc, m2_size_push]
  refine ⟨m2_c a 2 .null, m2_0_here U a b, by simp [m2_c], by rw [m2_c_size]; decide, m2_fit hA hAd, ?_⟩
  simp only [wp_bind', wp_pure']
  refine m2_row (U := m2_P U a b) hB hBd h1 h2 (by rw [m2_P_size]; omega) (by rw [m2_P_used]; omega) ?_
  rw [wp_bind', W.writeLoc, m2_P_size]
  refine ⟨m2_1 a U.heap.size, m2_P_here U a b, by simp [m2_1, m2_c, Cell.setSlot], by rw [m2_1_size]; decide, m2_fit hA hAd, ?_⟩
  simp only [wp_pure']
  exact hq _ _
end Make
section Step
variable {p : Program} {l : Launch} {e : Env} {R : Room} {s : State} {m : MethodId} {args : Array Value} {below : List Frame} {meth : Method} {c : Code} {T : State} {locs : List Loc} {cells slots : Nat}
/-- the walk behind the two rows -/
theorem m2_stand (X : Stand p l e R s m args below meth c T locs cells slots) (a b : ClassId) : Stand p l e R s m args below meth c (m2_F T a b) locs (cells + 3) (slots + 22) := by
  have X1 := (X.pushed (m2_c a 2 .null)).pushed (m2_c b 10 (.int 0))
  have X2 := X1.stored (m2_0_here T a b) 0 (.ref (T.heap.size + 1))
  have X3 := (X2.dropFresh (fun x hx => by rw [List.mem_singleton.mp hx]; exact X.heapGrown)).pushed (m2_c b 10 (.int 0))
  have X4 := X3.stored (m2_P_here T a b) 1 (.ref (T.heap.size + 2))
  have X5 := X4.dropFresh (fun x hx => by rw [List.mem_singleton.mp hx]; exact X.heapGrown)
  rw [m2_c_size, m2_c_size] at X5
  exact X5
theorem m2_step (X : Stand p l e R s m args below meth c T locs cells slots) (hexec : p.tables.exec = Jvm.exec) {own : String} {index : Nat} (hown : s.vm.findClass own = some m.cls) (hcl : (Cond.classLink own index "[[I").before args s = true) (hov : (Cond.arrayOver (.array .int)).before args s = true) (har : (Cond.arrayClass .int).before args s = true)
    {g : JFrame} (hg : g.method = m) (hdg : decode c.code g.pc = .ok (.multianewarray index 2, 4)) {rest : List Value} (hst : g.stack = .int 10 :: .int 2 :: rest) (hcells : cells + 3 ≤ R.cells) (hslots : slots + 22 ≤ R.slots) :
    ∃ (vm' : Vm) (a b : ClassId), s.vm.findClass "[[I" = some a ∧ s.vm.findClass "[I" = some b ∧ Stand p l e R s m args below meth c (m2_F (T.setVm vm') a b) locs (cells + 3) (slots + 22) ∧
      ∀ target, Steps p.tables e below ((m2_F (T.setVm vm') a b).setTop { g with pc := g.pc + 4, stack := .ref T.heap.size :: rest }) target → Steps p.tables e below (T.setTop g) target := by
  subst hg
  obtain ⟨b, a, kA, hb, -, hkA, hAd, ha⟩ := m2_over.mp hov
  obtain ⟨b', kB, q, hb', hkB, hBd⟩ := Cond.arrayClass_spec har
  have eb : b' = b := Option.some.inj (hb'.symm.trans hb)
  subst eb
  obtain ⟨a', ha', hl⟩ := Cond.classLink_spec hown hcl e.platform (by rw [X.admits.platform])
  have ea : a' = a := Option.some.inj (ha'.symm.trans ha)
  subst ea
  obtain ⟨hres, hW, -⟩ := State.classEntry (e := e) X.warmed hl
  generalize T.vm.noted g.method.cls index (.cls a') = vm' at hres hW
  obtain ⟨kA', hkA', eA⟩ := hW.alike.2.2 _ _ hkA
  obtain ⟨kB', hkB', eB⟩ := hW.alike.2.2 _ _ hkB
  have hAd' : kA'.kind = .array b' (.array .int) := by rw [eA]; exact hAd
  have hBd' : kB'.kind = .array q .int := by rw [eB]; exact hBd
  have XF := m2_stand (X.noted hW) a' b'
  obtain ⟨r1, r2⟩ := X.roomAbove hcells hslots
  refine ⟨vm', a', b', ha, hb, XF, fun target hrest => ?_⟩
  jvm_step X.here [hexec, hdg]
  simp only [multianewarray.sem, wp_bind', W.resolveClassAt_links (State.method?_setTop g X.here.top) hres]
  rw [W.popN, if_neg (by decide)]
  refine ⟨g, State.topJava?_setTop' (s := T.setVm vm') g X.here.top, [.int 2, .int 10], rest, rfl, hst, ?_⟩
  simp only [List.mapM_cons, List.mapM_nil, wp_bind', wp_pure']
  refine m2_make (U := ((T.setTop g).setVm vm').setTop { g with stack := rest }) hkA' hAd' hkB' hBd' (by rw [Launch.admits_arrayLengthLimit X.admits]; decide) (by rw [Launch.admits_maxHeapBytes X.admits]; decide) r1 r2 (fun d' acts' => ?_)
  have eS : ((T.setTop g).setVm vm').setTop { g with stack := rest } = (T.setVm vm').setTop { g with stack := rest } := State.setTop_setTop (T.setVm vm') g _
  rw [eS, m2_F_top]
  simp only [wp_bind', W.mark, W.pushRef, State.topJava?_setTop' _ XF.here.top, Option.some.injEq, exists_eq_left', State.setTop_setTop, State.heap_setTop]
  intro acts2
  simp [jvm, XF.here.top]
  exact hrest
end Step
end Grid
/-! ===== while the objects are made: the cells up to now, each as it is ===== -/
def wr (g : Gp) (n : Nat) (M : Nat → va_E) : va_W := (List.range n).map (fun i => (g.1 + i, M i))
theorem wr_get {g : Gp} {n : Nat} {M : Nat → va_E} {i : Nat} (h : i < n) : (wr g n M)[i]? = some (g.1 + i, M i) := by
  unfold wr
  rw [List.getElem?_map, List.getElem?_range h]
  rfl
theorem wr_at {g : Gp} {n : Nat} {M : Nat → va_E} {k : Nat} {q : Nat × va_E} (h : (wr g n M)[k]? = some q) : k < n ∧ q = (g.1 + k, M k) := by
  have hl : k < n := by
    have := (List.getElem?_eq_some_iff.mp h).1
    simpa [wr] using this
  rw [wr_get hl] at h
  exact ⟨hl, (Option.some.inj h).symm⟩
theorem wr_D {g : Gp} {n : Nat} {M : Nat → va_E} : va_D (AA g) (wr g n M) := by
  refine ⟨fun i j p q hi hj hpq => ?_, fun k q hk => ?_⟩
  · obtain ⟨-, rfl⟩ := wr_at hi
    obtain ⟨-, rfl⟩ := wr_at hj
    exact Nat.add_left_cancel hpq
  · obtain ⟨-, rfl⟩ := wr_at hk
    exact Nat.le_add_right _ _
theorem wr_set {g : Gp} {n : Nat} {M : Nat → va_E} {i : Nat} {e : va_E} (h : i < n) : (wr g n M).set i (g.1 + i, e) = wr g n (va_up M i e) := by
  apply List.ext_getElem?
  intro k
  by_cases hk : k < n
  · by_cases e : k = i
    · subst e
      rw [List.getElem?_set_self (by simpa [wr] using hk), wr_get hk]
      simp [va_up]
    · rw [List.getElem?_set_ne (fun z => e z.symm), wr_get hk, wr_get hk]
      simp [va_up, e]
  · rw [List.getElem?_eq_none (by simp [wr]; omega), List.getElem?_eq_none (by simp [wr]; omega)]
def Wr (g : Gp) (s : State) (n : Nat) (M : Nat → va_E) (H : Heap) (locs : List Loc) : Prop := H.size = g.1 + n ∧ va_P g.2.1 vwCl (wr g n M) H ∧ va_S (AA g) s.heap H locs
theorem Wr.at {g : Gp} {s : State} {n : Nat} {M : Nat → va_E} {H : Heap} {locs : List Loc} (h : Wr g s n M H locs) {i : Nat} (hi : i < n) : va_at g.2.1 vwCl (g.1 + i, M i) H := h.2.1 i _ (wr_get hi)
/-- another way to tell one cell -/
theorem Wr.norm {g : Gp} {s : State} {n : Nat} {M : Nat → va_E} {H : Heap} {locs : List Loc} (h : Wr g s n M H locs) {a : Nat} {cA : ClassId} {x y : vp_A} (hx : M a = .inl (cA, x)) (he : vp_cell cA x = vp_cell cA y) : Wr g s n (va_up M a (.inl (cA, y))) H locs := by
  refine ⟨h.1, fun k q hk => ?_, h.2.2⟩
  obtain ⟨hl, rfl⟩ := wr_at hk
  by_cases e : k = a
  · subst e
    have := h.at hl
    rw [hx] at this
    show va_at g.2.1 vwCl (g.1 + k, va_up M k (.inl (cA, y)) k) H
    simp only [va_up, if_true]
    show H[g.1 + k]? = some (vp_cell cA y)
    rw [← he]
    exact this
  · have := h.at hl
    show va_at g.2.1 vwCl (g.1 + k, va_up M a (.inl (cA, y)) k) H
    simp only [va_up, if_neg e]
    exact this
theorem Wr.grown {g : Gp} {s : State} {n : Nat} {M : Nat → va_E} {H H1 : Heap} {locs : List Loc} (h : Wr g s n M H locs) {e : va_E} (z1 : H1.size = g.1 + n + 1) (o1 : ∀ q : Nat, q < g.1 + n → H1[q]? = H[q]?) (he : va_at g.2.1 vwCl (g.1 + n, e) H1) : Wr g s (n + 1) (va_up M n e) H1 locs := by
  refine ⟨by rw [z1]; omega, fun k q hk => ?_, ?_⟩
  · obtain ⟨hl, rfl⟩ := wr_at hk
    by_cases e : k = n
    · subst e
      simp only [va_up, if_true]
      exact he
    · simp only [va_up, if_neg e]
      exact (h.at (by omega)).kept (o1 _ (by show g.1 + k < g.1 + n; omega))
  · refine ⟨Nat.le_trans h.2.2.1 (by rw [h.1, z1]; omega), fun x h1 h2 => ?_, h.2.2.2.2⟩
    rw [o1 x (by have := h.2.2.1; rw [h.1] at this; omega)]
    exact h.2.2.2.1 x h1 h2
def Kc (g : Gp) (U : State) : Prop := va_AO RX5 U ∧ va_AO RX6 U ∧ va_AO RX9 U ∧ (Cond.arrayOver (.array .int)).before #[] U = true
theorem Kc.moved {g : Gp} {u U : State} (h : u.vm.Alike U.vm) (k : Kc g u) : Kc g U := ⟨k.1.moved h, k.2.1.moved h, k.2.2.1.moved h, m2_alike h k.2.2.2⟩
def I0 : MI := fun i k => if kd i = 6 then (if k = 10 then -4 else 0) else if kd i = 9 then (if k = 6 then 1 else 0) else if kd i = 5 then (if k = 0 then -1 else 0) else if i = 245 then (if k = 6 then 1 else 0) else if i = 249 then (if k < 4 then -1 else 0) else 0
def L0 : ML := fun _ _ => 0
def E0 (g : Gp) (j : Nat) : va_E := EE g j (I0 j) (L0 j)
def rmC (d k sl : Nat) : Room := { frames := d, cells := k, slots := sl, locals := 40 * d }
def PreC (g : Gp) (n : Nat) (M : Nat → va_E) (U : State) : Prop := (U.heap.size = g.1 + n ∧ va_P g.2.1 vwCl (wr g n M) U.heap) ∧ Kn g U ∧ Sx g U U.heap ∧ Kc g U
/-- a new object's fields -/
def blk (c : Nat) : List Value := if c = 0 then [.null, .null, .null, .int 0, .int 0, .int 0, .int 0] else if c = 1 then [.null, .null, .null, .int 0, .int 0, .null] else if c = 2 then [.null, .null, .null, .int 0] else if c = 3 then [.null, .int 0, .int 0] else if c = 4 then [.null, .null, .null] else if c = 5 then [.int 0, .int 0, .null] else if c = 6 then [.int 0, .int 0, .int 0, .int 0, .int 0, .int 0, .int 0, .int 0, .int 0, .int 0, .int 0] else if c = 7 then [.null, .int 0, .int 0, .int 0] else if c = 8 then [.null, .null, .int 0, .int 0, .int 0] else if c = 9 then [.null, .int 0, .int 0, .int 0, .int 0, .int 0, .int 0] else if c = 10 then [.null, .null, .null, .null, .null, .null, .null, .null, .null, .null, .null] else [.null, .null, .int 0, .null, .null, .null, .null, .int 0, .int 0, .int 0, .int 0, .null, .long 0, .long 0, .null, .null, .null]
/-- a constructor of the cell i, the last one that was made: it makes k cells of sl slots more; all from i on are then as they are at the start -/
def QC (g : Gp) (k i : Nat) (M : Nat → va_E) : Array Value → State → Outcome → State → Prop := va_Qv (fun (M' : Nat → va_E) => (∀ j, i ≤ j → j < i + 1 + k → M' j = E0 g j) ∧ ∀ j, j < i → M' j = M j) (fun M' t => t.heap.size = g.1 + (i + 1 + k) ∧ va_P g.2.1 vwCl (wr g (i + 1 + k) M') t.heap) (AA g)
def MetC (g : Gp) (l : Launch) (y : MethodName) (cc : ByteArray) (nl d k sl i : Nat) : Prop := ∀ (M : Nat → va_E), M i = .inr (kd i, blk (kd i)) → Met l y (wU y cc nl none) (rmC d k sl) (va_Pc [.ref (g.1 + i)] (PreC g (i + 1) M)) (QC g k i M) k sl (AA g)
theorem preC_blind {g : Gp} {av : List Value} {n : Nat} {M : Nat → va_E} : FrameBlind (va_Pc av (PreC g n M)) := fun a U f mk q => ⟨q.1, q.2.1, Kn.same (s := U) (U := U.calling f mk a) rfl q.2.2.1, Sx.moved (u := U) (U := U.calling f mk a) (Vm.Alike.refl U.vm) q.2.2.2.1, Kc.moved (u := U) (U := U.calling f mk a) (Vm.Alike.refl U.vm) q.2.2.2.2⟩
section RR
variable {p : Program} {l : Launch} {e : Env} {R : Room} {s : State} {m : MethodId} {args : Array Value} {below : List Frame} {meth : Method} {c : Code} {H : Heap} {locs : List Loc} {cells slots : Nat} {Q : State → Prop}
variable {cc : ByteArray} {pc nL : Nat} {ls : Array Slot} {rest : List Value} {g : Gp} {own : String} {n : Nat} {M : Nat → va_E}
theorem preC_at {av : List Value} (C : Cx g p s m args c own cc nL) (hKc : Kc g s) (hW : Wr g s n M H locs) : ∀ U : State, U.heap = H → s.WarmedH U.vm → va_Pc av (PreC g n M) av.toArray U := fun U hU hV =>
  ⟨rfl, ⟨by rw [hU]; exact hW.1, by rw [hU]; exact hW.2.1⟩, C.2.1.warm hV, by rw [hU]; exact (C.2.2.moved hV.alike).kept (fun a h1 h2 => hW.2.2.2.1 a h1 h2), hKc.moved hV.alike⟩
theorem r_new {Cn : String} {T : u_T} {N ci index : Nat} (C : Cx g p s m args c own cc nL) (hW : Wr g s n M H locs) (hin : ∀ w ∈ u_ws Cn T N, w ∈ gw) (ty : Nat → FieldType) (hty : ∀ k, k < N → parseFieldDescriptor (T k).2.2.1 = some (ty k)) (hcl : Cond.classLink own index Cn ∈ gw) (hinst : Cond.instantiable Cn N ∈ gw) (hini : Cond.initialized Cn ∈ gw) (hc : vwCl[ci]? = some (Cn, T, N)) {fs : List Value} (hfs : ∀ j, j < N → defaultValue (ty j) = vp_V fs j) (hcells : cells + 1 ≤ R.cells) (hslots : slots + N ≤ R.slots) (hdg : decode cc pc = .ok (.new index, 3))
    (kk : ∀ (M1 : Nat → va_E) (H1 : Heap), M1 n = .inr (ci, fs) → (∀ j, j ≠ n → M1 j = M j) → Wr g s (n + 1) M1 H1 locs → W p l e R s m args below meth c H1 locs (cells + 1) (slots + N) Q (F0 m (pc + 3) ls (.ref (g.1 + n) :: rest))) : W p l e R s m args below meth c H locs cells slots Q (F0 m pc ls rest) := by
  have hKn := C.2.1.1.1 ci _ hc
  refine W.newcK C.1.1 C.1.2.1 C.1.2.2.2.1 (C.1.2.2.2.2 _ hcl) (C.1.2.2.2.2 _ hinst) (C.1.2.2.2.2 _ hini) rfl hdg hcells hslots hKn.2.1 hW.1 fun H1 kC hkC e1 z1 o1 => ?_
  exact kk (va_up M n (.inr (ci, fs))) H1 (by simp [va_up]) (fun j h => by simp [va_up, h]) (hW.grown z1 o1 ⟨_, hc, (u_born ty C.1.2.2.2.2 hin hKn hkC e1 hty).to hfs⟩)
theorem r_newa {atype : ArrayType} {ty : FieldType} {t : Nat} (C : Cx g p s m args c own cc nL) (hW : Wr g s n M H locs) (harr : Cond.arrayClass (newarray.typeOf atype) ∈ gw) (hty : newarray.typeOf atype = ty) (hpr : va_RA s (g.2.2.1 t) ty → s.vm.findClass ("[" ++ ty.toString) = some (g.2.2.1 t)) (ht : (tys g)[t]? = some (g.2.2.1 t, ty)) {k : Int32} {N : Nat} {a0 : vp_A} (ha : ∀ cA : ClassId, vp_cell cA a0 = arrV cA N (fun _ => defaultValue ty)) (hn : ¬ k < 0) (hN : k.toNatClampNeg = N) (hbytes : N * componentBytes ty ≤ 536870912) (hcells : cells + 1 ≤ R.cells) (hslots : slots + N ≤ R.slots) (hdg : decode cc pc = .ok (.newarray atype, 2))
    (kk : ∀ (M1 : Nat → va_E) (H1 : Heap), M1 n = .inl (g.2.2.1 t, a0) → (∀ j, j ≠ n → M1 j = M j) → Wr g s (n + 1) M1 H1 locs → W p l e R s m args below meth c H1 locs (cells + 1) (slots + N) Q (F0 m (pc + 2) ls (.ref (g.1 + n) :: rest))) : W p l e R s m args below meth c H locs cells slots Q (F0 m pc ls (.int k :: rest)) := by
  subst hty
  refine va_newaK C.1.1 C.1.2.1 (C.1.2.2.2.2 _ harr) rfl hdg rfl hn hN hbytes hcells hslots hW.1 fun H1 cA e1 z1 o1 hAr hNm => ?_
  have hRA := (C.2.1.1.2 t _ ht).2
  have ec : cA = g.2.2.1 t := Option.some.inj (hNm.symm.trans (hpr hRA))
  subst ec
  exact kk (va_up M n (.inl (g.2.2.1 t, a0))) H1 (by simp [va_up]) (fun j h => by simp [va_up, h]) (hW.grown z1 o1 (by show H1[g.1 + n]? = some (vp_cell _ _); rw [ha]; exact e1))
theorem r_newq {Cn : String} {index t : Nat} (C : Cx g p s m args c own cc nL) (hW : Wr g s n M H locs) (hcl : Cond.classLink own index Cn ∈ gw) (hover : va_AO Cn s) (ht : (tys g)[t]? = some (g.2.2.1 t, .object Cn)) {k : Int32} {N : Nat} (hn : ¬ k < 0) (hN : k.toNatClampNeg = N) (hbytes : N * 4 ≤ 536870912) (hcells : cells + 1 ≤ R.cells) (hslots : slots + N ≤ R.slots) (hdg : decode cc pc = .ok (.anewarray index, 3))
    (kk : ∀ (M1 : Nat → va_E) (H1 : Heap), M1 n = .inl (g.2.2.1 t, N, .inr (.inr (.inr (.inr (fun _ => none))))) → (∀ j, j ≠ n → M1 j = M j) → Wr g s (n + 1) M1 H1 locs → W p l e R s m args below meth c H1 locs (cells + 1) (slots + N) Q (F0 m (pc + 3) ls (.ref (g.1 + n) :: rest))) : W p l e R s m args below meth c H locs cells slots Q (F0 m pc ls (.int k :: rest)) := by
  subst hN
  refine W.anew C.1.1 C.1.2.1 C.1.2.2.2.1 (C.1.2.2.2.2 _ hcl) (va_AO.use hover) rfl hdg rfl hn hbytes hcells hslots fun cA kA comp f1 f2 f3 f4 => ?_
  obtain ⟨kA', comp', g1, g2, g3, g4⟩ := (C.2.1.1.2 t _ ht).2
  have ec : cA = g.2.2.1 t := Option.some.inj (f1.symm.trans g4)
  subst ec
  generalize hH1 : H.push ({ cls := g.2.2.1 t, slots := Array.replicate k.toNatClampNeg .null, vm := .none } : Cell) = H1
  have z1 : H1.size = g.1 + n + 1 := by rw [← hH1, Array.size_push, hW.1]
  have e1 : H1[H.size]? = some (arrV (g.2.2.1 t) k.toNatClampNeg (fun _ => .null)) := by rw [← hH1, Array.getElem?_push_size, ← arrV_new]
  have o1 : ∀ q : Nat, q < g.1 + n → H1[q]? = H[q]? := fun q hq => by rw [← hH1, Array.getElem?_push, if_neg (by rw [hW.1]; omega)]
  have h9 := kk (va_up M n (.inl (g.2.2.1 t, k.toNatClampNeg, .inr (.inr (.inr (.inr (fun _ => none))))))) H1 (by simp [va_up]) (fun j h => by simp [va_up, h]) (hW.grown z1 o1 (by
    show H1[g.1 + n]? = some (vp_cell _ _)
    rw [vp_cell_q, ← hW.1]
    exact e1))
  rw [← hW.1] at h9
  exact h9
theorem r_mna {index : Nat} (C : Cx g p s m args c own cc nL) (hKc : Kc g s) (hW : Wr g s n M H locs) (hcl : Cond.classLink own index "[[I" ∈ gw) (harr : Cond.arrayClass .int ∈ gw) (hcells : cells + 3 ≤ R.cells) (hslots : slots + 22 ≤ R.slots) (hdg : decode cc pc = .ok (.multianewarray index 2, 4))
    (kk : ∀ (M1 : Nat → va_E) (H1 : Heap), M1 n = .inl (g.2.2.1 6, 2, rfa (fun j => g.1 + (n + 1 + j))) → M1 (n + 1) = .inl (g.2.2.1 0, 10, .inl (fun _ => 0)) → M1 (n + 2) = .inl (g.2.2.1 0, 10, .inl (fun _ => 0)) → (∀ j, j ≠ n → j ≠ n + 1 → j ≠ n + 2 → M1 j = M j) → Wr g s (n + 3) M1 H1 locs → W p l e R s m args below meth c H1 locs (cells + 3) (slots + 22) Q (F0 m (pc + 4) ls (.ref (g.1 + n) :: rest))) : W p l e R s m args below meth c H locs cells slots Q (F0 m pc ls (.int 10 :: .int 2 :: rest)) := by
  intro T hT X
  obtain ⟨vm₁, cA, comp, fA, fC, X', step⟩ := m2_step X C.1.1 C.1.2.2.2.1 (C.1.2.2.2.2 (.classLink own index "[[I") hcl) hKc.2.2.2 (C.1.2.2.2.2 _ harr) (g := F0 m pc ls (.int 10 :: .int 2 :: rest)) rfl (by rw [C.1.2.1]; exact hdg) rfl hcells hslots
  have ec0 : comp = g.2.2.1 0 := Option.some.inj (fC.symm.trans ((C.2.1.1.2 0 _ rfl).2))
  have ec6 : cA = g.2.2.1 6 := Option.some.inj (fA.symm.trans ((C.2.1.1.2 6 _ rfl).2))
  subst ec0
  subst ec6
  have hTh : (T.setVm vm₁).heap = H := hT
  have hsz : (T.setVm vm₁).heap.size = g.1 + n := by rw [hTh, hW.1]
  have f1 := m2_F_size (T.setVm vm₁) (g.2.2.1 6) (g.2.2.1 0)
  have f2 := m2_F_here (T.setVm vm₁) (g.2.2.1 6) (g.2.2.1 0)
  have f3 := m2_F_row1 (T.setVm vm₁) (g.2.2.1 6) (g.2.2.1 0)
  have f4 := m2_F_row2 (T.setVm vm₁) (g.2.2.1 6) (g.2.2.1 0)
  have f5 : ∀ x : Nat, x < (T.setVm vm₁).heap.size → (m2_F (T.setVm vm₁) (g.2.2.1 6) (g.2.2.1 0)).heap[x]? = (T.setVm vm₁).heap[x]? := fun x hx => m2_F_old _ _ _ hx
  generalize m2_F (T.setVm vm₁) (g.2.2.1 6) (g.2.2.1 0) = F at X' step f1 f2 f3 f4 f5
  rw [hsz] at f1 f2 f3 f4 f5
  rw [hTh] at f5
  have hold : ∀ x : Nat, x < g.1 + n → F.heap[x]? = H[x]? := f5
  have hc0 : m2_c (g.2.2.1 0) 10 (.int 0) = vp_cell (g.2.2.1 0) (10, .inl (fun _ => 0)) := by
    rw [vp_cell_i, ← arrV_new]
    rfl
  rw [hc0] at f3 f4
  have hout : F.heap[g.1 + n]? = some (vp_cell (g.2.2.1 6) (2, rfa (fun j => g.1 + (n + 1 + j)))) := by
    rw [f2]
    apply congrArg some
    rw [vp_cell_q]
    have h0 : m2_c (g.2.2.1 6) 2 .null = arrV (g.2.2.1 6) 2 (fun _ => .null) := arrV_new _ _ _
    rw [m2_2, m2_1, h0, arrV_store, arrV_store]
    unfold arrV
    congr 1
  obtain ⟨t, a1, b1⟩ := kk (va_up (va_up (va_up M n (.inl (g.2.2.1 6, 2, rfa (fun j => g.1 + (n + 1 + j))))) (n + 1) (.inl (g.2.2.1 0, 10, .inl (fun _ => 0)))) (n + 2) (.inl (g.2.2.1 0, 10, .inl (fun _ => 0)))) F.heap (by simp [va_up]) (by simp [va_up]) (by simp [va_up]) (fun j h1 h2 h3 => by simp [va_up, h1, h2, h3]) (by
    refine ⟨by rw [f1]; omega, fun k q hk => ?_, ?_⟩
    · obtain ⟨hl, rfl⟩ := wr_at hk
      by_cases e2 : k = n + 2
      · subst e2
        simp only [va_up, if_true]
        exact f4
      · by_cases e1 : k = n + 1
        · subst e1
          simp only [va_up, if_neg e2, if_true]
          exact f3
        · by_cases e0 : k = n
          · subst e0
            simp only [va_up, if_neg e2, if_neg e1, if_true]
            exact hout
          · simp only [va_up, if_neg e2, if_neg e1, if_neg e0]
            exact (hW.at (by omega)).kept (hold _ (by show g.1 + k < g.1 + n; omega))
    · refine ⟨Nat.le_trans hW.2.2.1 (by rw [f1, hW.1]; omega), fun x h1 h2 => ?_, hW.2.2.2.2⟩
      rw [hold x (by have := hW.2.2.1; rw [hW.1] at this; omega)]
      exact hW.2.2.2.1 x h1 h2) F rfl X'
  refine ⟨t, step t ?_, b1⟩
  have e : T.heap.size = g.1 + n := by rw [hT, hW.1]
  rw [e]
  exact a1
theorem r_get {Cn : String} {T : u_T} {N ci index i : Nat} (C : Cx g p s m args c own cc nL) (hW : Wr g s n M H locs) (hin : ∀ w ∈ u_ws Cn T N, w ∈ gw) (hi : i < n) {fs : List Value} (hM : M i = .inr (ci, fs)) (hc : vwCl[ci]? = some (Cn, T, N)) (k : Nat) (hk : k < N) {ref : String} (hlink : Cond.fieldLink own index ref (T k).2.1 (T k).2.2.1 ∈ gw) (href : (T k).1 = ref) {v : Value} (hv : fs[k]? = some v) (hdg : decode cc pc = .ok (.getfield index, 3))
    (kk : W p l e R s m args below meth c H locs cells slots Q (F0 m (pc + 3) ls (v :: rest))) : W p l e R s m args below meth c H locs cells slots Q (F0 m pc ls (.ref (g.1 + i) :: rest)) := by
  subst href
  exact va_get (D := g.2.1) (C := Cn) (T := T) (N := N) C.1.1 C.1.2.1 C.1.2.2.2.2 hin C.1.2.2.2.1 C.2.1.1 hW.2.1 i (by rw [wr_get hi, hM]) hc k hk (C.1.2.2.2.2 _ hlink) (fun _ h => h) hv hdg kk
theorem r_put {Cn : String} {T : u_T} {N ci index i : Nat} {ty0 : Nat → FieldType} (C : Cx g p s m args c own cc nL) (hW : Wr g s n M H locs) (hin : ∀ w ∈ u_ws Cn T N, w ∈ gw) (hty : ∀ k, k < N → parseFieldDescriptor (T k).2.2.1 = some (ty0 k)) (hnm : ∀ a, a < N → ∀ b, b < N → a ≠ b → (T a).2.1 ≠ (T b).2.1) (hi : i < n) {fs : List Value} (hM : M i = .inr (ci, fs)) (hc : vwCl[ci]? = some (Cn, T, N)) (k : Nat) (hk : k < N) {ref : String} (hlink : Cond.fieldLink own index ref (T k).2.1 (T k).2.2.1 ∈ gw) (href : (T k).1 = ref) (hfin : (T k).2.2.2 = false) {ty : FieldType} {v : Value} (hd : parseFieldDescriptor (T k).2.2.1 = some ty) (hn : narrow ty v = v) (hfit : fits ty v = true) (hl : k < fs.length) (hdg : decode cc pc = .ok (.putfield index, 3))
    (kk : ∀ (M1 : Nat → va_E) (H1 : Heap) (locs1 : List Loc), M1 i = .inr (ci, fs.set k v) → (∀ j, j ≠ i → M1 j = M j) → Wr g s n M1 H1 locs1 → W p l e R s m args below meth c H1 locs1 cells slots Q (F0 m (pc + 3) ls rest)) : W p l e R s m args below meth c H locs cells slots Q (F0 m pc ls (v :: .ref (g.1 + i) :: rest)) := by
  subst href
  have hap := va_apart (own := own) C.1.2.2.2.2 hin ty0 hty hnm C.2.1.1 hc
  have h0 := hW.at hi
  rw [hM] at h0
  obtain ⟨r, h1, cell, q1, q2, q3, q4⟩ := h0
  have hr : r = (Cn, T, N) := Option.some.inj (h1.symm.trans hc)
  subst hr
  obtain ⟨hS, hfc, kC, hkC, hkind⟩ := C.2.1.1.1 ci _ hc
  obtain ⟨cf, kf, fi, f, hfi, hsl⟩ := hS k hk
  have hlay := C.1.2.2.2.2 _ (hin _ (u_in_lay hk))
  unfold u_lay at hlay
  rw [if_neg (by rw [hfin]; decide)] at hlay
  have hst := (u_facts hfc hkC (u_lays C.1.2.2.2.2 hin hk) hfi).1
  have h6 := u_store hfc hkC hkind hlay hfi hd hn hfit
  refine W.putK C.1.1 C.1.2.1 (f := f) ⟨C.1.2.2.2.1, C.1.2.2.2.2 _ hlink, ⟨_, _, _, hfi⟩, hst⟩ (by rw [q2]; exact h6) q1 q3 (by rw [hsl]; exact k2_hasslot (q4 k hk)) rfl rfl hdg fun H' e1 e2 e3 => ?_
  rw [hsl] at e1 ⊢
  refine kk (va_up M i (.inr (ci, fs.set k v))) H' _ (by simp [va_up]) (fun j h => by simp [va_up, h]) ⟨e2.trans hW.1, ?_, hW.2.2.put e2 e3 (Nat.le_add_right _ _)⟩
  rw [← wr_set hi]
  exact hW.2.1.set wr_D (by rw [wr_get hi, hM]) ⟨_, hc, t_OB.to (V := updV (vp_V fs) k v) ⟨_, e1, q2, q3, t_set q4 hap hk v⟩ (fun j _ => vp_updV_set hl v j)⟩ e3
theorem r_putF {Cn : String} {T : u_T} {N ci index i : Nat} {ty0 : Nat → FieldType} (C : Cx g p s m args c own cc nL) (hW : Wr g s n M H locs) (hin : ∀ w ∈ u_ws Cn T N, w ∈ gw) (hty : ∀ k, k < N → parseFieldDescriptor (T k).2.2.1 = some (ty0 k)) (hnm : ∀ a, a < N → ∀ b, b < N → a ≠ b → (T a).2.1 ≠ (T b).2.1) (hi : i < n) {fs : List Value} (hM : M i = .inr (ci, fs)) (hc : vwCl[ci]? = some (Cn, T, N)) (k : Nat) (hk : k < N) {ref : String} (hlink : Cond.fieldLink own index ref (T k).2.1 (T k).2.2.1 ∈ gw) (href : (T k).1 = ref) (hfin : (T k).2.2.2 = true) (hin2 : meth.name = "<init>") (hdecl : (T k).1 = own) {ty : FieldType} {v : Value} (hd : parseFieldDescriptor (T k).2.2.1 = some ty) (hn : narrow ty v = v) (hfit : fits ty v = true) (hl : k < fs.length) (hdg : decode cc pc = .ok (.putfield index, 3))
    (kk : ∀ (M1 : Nat → va_E) (H1 : Heap) (locs1 : List Loc), M1 i = .inr (ci, fs.set k v) → (∀ j, j ≠ i → M1 j = M j) → Wr g s n M1 H1 locs1 → W p l e R s m args below meth c H1 locs1 cells slots Q (F0 m (pc + 3) ls rest)) : W p l e R s m args below meth c H locs cells slots Q (F0 m pc ls (v :: .ref (g.1 + i) :: rest)) := by
  subst href
  have hap := va_apart (own := own) C.1.2.2.2.2 hin ty0 hty hnm C.2.1.1 hc
  have h0 := hW.at hi
  rw [hM] at h0
  obtain ⟨r, h1, cell, q1, q2, q3, q4⟩ := h0
  have hr : r = (Cn, T, N) := Option.some.inj (h1.symm.trans hc)
  subst hr
  obtain ⟨hS, hfc, kC, hkC, hkind⟩ := C.2.1.1.1 ci _ hc
  obtain ⟨cf, kf, fi, f, hfi, hsl⟩ := hS k hk
  have hlay := C.1.2.2.2.2 _ (hin _ (u_in_lay hk))
  unfold u_lay at hlay
  rw [if_pos hfin] at hlay
  have hst := (u_facts hfc hkC (u_lays C.1.2.2.2.2 hin hk) hfi).1
  have hcf : m.cls = cf := by
    obtain ⟨_, _, c', _, _, _, -, -, hf', -, -, -, hown2, -⟩ := Cond.laysFinal_spec hlay
    have e1 : c' = cf := by have := hfi.symm.trans hf'; simp at this; exact this.1.symm
    rw [hdecl] at hown2
    rw [← e1]; exact Option.some.inj (C.1.2.2.2.1.symm.trans hown2)
  have h6 := u_fits hfc hkC hkind (Or.inr hlay) hfi hd hn hfit
  refine W.putFinK C.1.1 C.1.2.1 C.1.2.2.2.1 (C.1.2.2.2.2 _ hlink) hfi hst hcf hin2 (by rw [q2]; exact h6) q1 q3 (by rw [hsl]; exact k2_hasslot (q4 k hk)) rfl rfl hdg fun H' e1 e2 e3 => ?_
  rw [hsl] at e1 ⊢
  refine kk (va_up M i (.inr (ci, fs.set k v))) H' _ (by simp [va_up]) (fun j h => by simp [va_up, h]) ⟨e2.trans hW.1, ?_, hW.2.2.put e2 e3 (Nat.le_add_right _ _)⟩
  rw [← wr_set hi]
  exact hW.2.1.set wr_D (by rw [wr_get hi, hM]) ⟨_, hc, t_OB.to (V := updV (vp_V fs) k v) ⟨_, e1, q2, q3, t_set q4 hap hk v⟩ (fun j _ => vp_updV_set hl v j)⟩ e3
theorem r_ast {i v j t ci N : Nat} {r : vw_C} {vs : List Value} {f : Nat → Option Nat} (C : Cx g p s m args c own cc nL) (hW : Wr g s n M H locs) (hi : i < n) (hM : M i = .inl (g.2.2.1 t, N, .inr (.inr (.inr (.inr f))))) (ht : (tys g)[t]? = some (g.2.2.1 t, .object r.1)) (hv : v < n) (hMv : M v = .inr (ci, vs)) (hc : vwCl[ci]? = some r) {x : Int32} (hx : x = nI j) (hj : j < N) (hN : N < 2 ^ 31) (hdg : decode cc pc = .ok (.aastore, 1))
    (kk : ∀ (M1 : Nat → va_E) (H1 : Heap) (locs1 : List Loc), M1 i = .inl (g.2.2.1 t, N, .inr (.inr (.inr (.inr (va_up f j (some (g.1 + v))))))) → (∀ j, j ≠ i → M1 j = M j) → Wr g s n M1 H1 locs1 → W p l e R s m args below meth c H1 locs1 cells slots Q (F0 m (pc + 1) ls rest)) : W p l e R s m args below meth c H locs cells slots Q (F0 m pc ls (.ref (g.1 + v) :: .int x :: .ref (g.1 + i) :: rest)) := by
  have hxj : x.toNatClampNeg = j := by rw [hx]; exact nI_clamp (by omega)
  have hin : vp_in x N := by rw [hx]; exact vp_in_nI hj hN
  have h0 : ¬ x < 0 := fun q => hin (Or.inl q)
  have ha := hW.at hi
  rw [hM] at ha
  have hvv := hW.at hv
  rw [hMv] at hvv
  obtain ⟨r', hr', cellV, g1, g2, g3, -⟩ := hvv
  have hcls := (C.2.1.1.1 ci r hc).2
  obtain ⟨kA, comp, k1, k2, k3, -⟩ := (C.2.1.1.2 t _ ht).2
  have hcomp : comp = g.2.1.1 ci := Option.some.inj (k3.symm.trans hcls.1)
  subst hcomp
  obtain ⟨kC, hkC, -⟩ := hcls.2
  refine W.aast C.1.1 C.1.2.1 ha (fun q h => by cases h) (fun h => by cases h) k1 k2 rfl hkC ⟨h0, by show _ < (arrV _ _ _).slots.size; rw [arrV_size, hxj]; exact hj⟩ g1 (fun q h => by rw [g3] at h; cases h) (by rw [g2]; exact hkC) (by rw [g2]; exact va_assign hcls) rfl rfl hdg fun H1 e z oq => ?_
  refine kk (va_up M i (.inl (g.2.2.1 t, N, .inr (.inr (.inr (.inr (va_up f j (some (g.1 + v))))))))) H1 _ (by simp [va_up]) (fun j h => by simp [va_up, h]) ⟨z.trans hW.1, ?_, hW.2.2.put z oq (Nat.le_add_right _ _)⟩
  rw [← wr_set hi]
  refine hW.2.1.set wr_D (by rw [wr_get hi, hM]) ?_ oq
  show H1[g.1 + i]? = some (vp_cell _ _)
  rw [e, vp_cell_q, vp_cell_q, arrV_store, hxj]
  refine congrArg some (congrArg (arrV _ _) (funext fun a => ?_))
  by_cases ea : a = j
  · subst ea; simp [updV, va_up, va_rf]
  · simp [updV, va_up, ea]
theorem r_iast {i j N : Nat} {f : Nat → Int32} (C : Cx g p s m args c own cc nL) (hW : Wr g s n M H locs) (hi : i < n) (hM : M i = .inl (g.2.2.1 0, N, .inl f)) {x y : Int32} (hx : x = nI j) (hj : j < N) (hN : N < 2 ^ 31) (hdg : decode cc pc = .ok (.iastore, 1))
    (kk : ∀ (M1 : Nat → va_E) (H1 : Heap) (locs1 : List Loc), M1 i = .inl (g.2.2.1 0, N, .inl (upd f j y)) → (∀ j, j ≠ i → M1 j = M j) → Wr g s n M1 H1 locs1 → W p l e R s m args below meth c H1 locs1 cells slots Q (F0 m (pc + 1) ls rest)) : W p l e R s m args below meth c H locs cells slots Q (F0 m pc ls (.int y :: .int x :: .ref (g.1 + i) :: rest)) := by
  have hxj : x.toNatClampNeg = j := by rw [hx]; exact nI_clamp (by omega)
  have hin : vp_in x N := by rw [hx]; exact vp_in_nI hj hN
  have ha := hW.at hi
  rw [hM] at ha
  refine W.iast C.1.1 C.1.2.1 ha ((C.2.1.1.2 0 _ rfl).1 N (fun j => .int (f j))) (fun q => by cases q) (by show ¬ (x < 0 ∨ (arrV _ _ _).slots.size ≤ _); rw [arrV_size]; exact hin) rfl rfl hdg fun H1 e z oq => ?_
  refine kk (va_up M i (.inl (g.2.2.1 0, N, .inl (upd f j y)))) H1 _ (by simp [va_up]) (fun j h => by simp [va_up, h]) ⟨z.trans hW.1, ?_, hW.2.2.put z oq (Nat.le_add_right _ _)⟩
  rw [← wr_set hi]
  refine hW.2.1.set wr_D (by rw [wr_get hi, hM]) ?_ oq
  show H1[g.1 + i]? = some (vp_cell _ _)
  rw [e, vp_cell_i, vp_cell_i, arrV_store, hxj]
  refine congrArg some (congrArg (arrV _ _) (funext fun a => ?_))
  by_cases ea : a = j
  · subst ea; simp [updV, upd]
  · simp [updV, upd, ea]
theorem r_callI {y : MethodName} {cb : ByteArray} {nl d k sl i idx : Nat} (C : Cx g p s m args c own cc nL) (hKc : Kc g s) (hW : Wr g s (i + 1) M H locs) (hM : MetC g l y cb nl d k sl i) (hMi : M i = .inr (kd i, blk (kd i))) (hcd : Cond.code y cb nl none ∈ gw) (hlk : Cond.methodLink own idx y ∈ gw) (him : Cond.instanceMethod y ∈ gw) (hini : Cond.initialized y.cls ∈ gw) (hy : y.name = "<init>") (hd : y.cls ≠ "java/lang/invoke/MethodHandle" ∧ y.cls ≠ "java/lang/invoke/VarHandle" ∧ (parseMethodDescriptor y.desc).map (fun d => d.parameters.length) = some 0) (hR : d + 1 ≤ R.frames ∧ 8 + (nl + 11) + 40 * d ≤ R.locals) (hf : cells + k ≤ R.cells ∧ slots + sl ≤ R.slots) (hl : ls.size = nL) (hroom : (rest.map fun v => v.category).sum ≤ 8) (hdg : decode cc pc = .ok (.invokespecial idx, 3))
    (kk : ∀ (M1 : Nat → va_E) (H1 : Heap) (locs1 : List Loc), (∀ j, i ≤ j → j < i + 1 + k → M1 j = E0 g j) → (∀ j, j < i → M1 j = M j) → Wr g s (i + 1 + k) M1 H1 locs1 → W p l e R s m args below meth c H1 locs1 (cells + k) (slots + sl) Q (F0 m (pc + 3) ls rest)) : W p l e R s m args below meth c H locs cells slots Q (F0 m pc ls (.ref (g.1 + i) :: rest)) := by
  refine va_callv (va_runI (As := []) (rest := rest) C.1 (hM M hMi) (cwI 0 C.1.2.2.2.2 (good_U hcd) rfl rfl rfl (C.1.2.2.2.2 _ hini) (C.1.2.2.2.2 _ hlk) (C.1.2.2.2.2 _ him) hy hd hR) ⟨preC_blind, preC_at C hKc hW⟩ rfl rfl hl rfl (lv_room hroom) hdg hf) hW.2.2 (fun q _ h => h) (fun q h => h) (fun u t H1 locs1 ht hvm hw hB hz1 hk1 hS => ?_)
  exact kk u H1 locs1 hw.1 hw.2 ⟨by rw [← ht]; exact hB.1, by rw [← ht]; exact hB.2, hS⟩
theorem r_callIN {y : MethodName} {cb : ByteArray} {nl d k sl i idx : Nat} (C : Cx g p s m args c own cc nL) (hKc : Kc g s) (hW : Wr g s (i + 1) M H locs) (hM : MetC g l y cb nl d k sl i) (hMi : M i = .inr (kd i, blk (kd i))) (hcd : Cond.code y cb nl none ∈ gw) (hlk : Cond.methodLinkNest own idx y RX10 ∈ nwl) (him : Cond.instanceMethod y ∈ gw) (hini : Cond.initialized y.cls ∈ gw) (hy : y.name = "<init>") (hd : y.cls ≠ "java/lang/invoke/MethodHandle" ∧ y.cls ≠ "java/lang/invoke/VarHandle" ∧ (parseMethodDescriptor y.desc).map (fun d => d.parameters.length) = some 0) (hR : d + 1 ≤ R.frames ∧ 8 + (nl + 11) + 40 * d ≤ R.locals) (hf : cells + k ≤ R.cells ∧ slots + sl ≤ R.slots) (hl : ls.size = nL) (hroom : (rest.map fun v => v.category).sum ≤ 8) (hdg : decode cc pc = .ok (.invokespecial idx, 3))
    (kk : ∀ (M1 : Nat → va_E) (H1 : Heap) (locs1 : List Loc), (∀ j, i ≤ j → j < i + 1 + k → M1 j = E0 g j) → (∀ j, j < i → M1 j = M j) → Wr g s (i + 1 + k) M1 H1 locs1 → W p l e R s m args below meth c H1 locs1 (cells + k) (slots + sl) Q (F0 m (pc + 3) ls rest)) : W p l e R s m args below meth c H locs cells slots Q (F0 m pc ls (.ref (g.1 + i) :: rest)) := by
  refine va_callv (va_runIN (As := []) (rest := rest) C.1 (hM M hMi) ⟨va_cnB 0 C.1.2.2.2.2 (good_U hcd) rfl rfl rfl (C.2.1.2.1 _ hlk) (C.1.2.2.2.2 _ hini) hd hR, hy, C.1.2.2.2.2 _ him⟩ ⟨preC_blind, preC_at C hKc hW⟩ rfl rfl hl rfl (lv_room hroom) hdg hf) hW.2.2 (fun q _ h => h) (fun q h => h) (fun u t H1 locs1 ht hvm hw hB hz1 hk1 hS => ?_)
  exact kk u H1 locs1 hw.1 hw.2 ⟨by rw [← ht]; exact hB.1, by rw [← ht]; exact hB.2, hS⟩
theorem r_obj {idx a : Nat} (C : Cx g p s m args c own cc nL) (hlk : Cond.methodLink own idx objectInit ∈ gw) (him : Cond.instanceMethod objectInit ∈ gw) (hcd : Cond.code objectInit ⟨#[0xb1]⟩ 1 none ∈ gw) (hl : ls.size = nL) (hR : 1 ≤ R.frames ∧ (rest.map fun v => v.category).sum + 12 ≤ R.locals) (hdg : decode cc pc = .ok (.invokespecial idx, 3)) (kk : W p l e R s m args below meth c H locs cells slots Q (F0 m (pc + 3) ls rest)) : W p l e R s m args below meth c H locs cells slots Q (F0 m pc ls (.ref a :: rest)) :=
  W.objInit C.1.1 C.1.2.1 C.1.2.2.2.1 (C.1.2.2.2.2 _ hlk) (C.1.2.2.2.2 _ him) (C.1.2.2.2.2 _ hcd) rfl (by rw [C.1.2.2.1]; exact hl) rfl hdg hR.1 (by show 2 * 0 + _ + 12 ≤ _; have := hR.2; omega) kk
theorem r_vret {i k sl : Nat} {M0 : Nat → va_E} (C : Cx g p s m args c own cc nL) (hW : Wr g s (i + 1 + k) M H locs) (hr : meth.sig.returnType = none) (hlocks : meth.locks = false) (h1 : ∀ j, i ≤ j → j < i + 1 + k → M j = E0 g j) (h2 : ∀ j, j < i → M j = M0 j) (hdg : decode cc pc = .ok (.return_, 1)) : W p l e R s m args below meth c H locs k sl (MQ below (QC g k i M0) args s k sl (AA g)) (F0 m pc ls []) :=
  W.vret C.1.1 C.1.2.1 hr (fun t ht _ => ⟨⟨M, rfl, ⟨h1, h2⟩, by rw [ht]; exact hW.1, by rw [ht]; exact hW.2.1⟩, hW.2.2.F ht⟩) hW.2.2.2.2 hdg
end RR
theorem w_enterC {g : Gp} {l : Launch} {y : MethodName} {cc : ByteArray} {n d k sl i : Nat} (hy : plainName y.cls = true) (hn : 1 ≤ n) {own : String} (ho : y.cls = own) (hyn : y.name = "<init>")
    (body : ∀ (M : Nat → va_E), M i = .inr (kd i, blk (kd i)) → ∀ (p : Program) (e : Env) (s : State) (m : MethodId) (below : List Frame) (meth : Method) (c : Code) (args : Array Value) (Q : State → Prop), Q = MQ below (QC g k i M) args s k sl (AA g) → Cx g p s m args c own cc n → Kc g s → meth.sig.returnType = none → meth.locks = false → meth.name = "<init>" → Wr g s (i + 1) M s.heap [] → ∀ ls : Array Slot, lv_has ls n [(0, .ref (g.1 + i))] → W p l e (rmC d k sl) s m args below meth c s.heap [] 0 0 Q (F0 m 0 ls [])) : MetC g l y cc n d k sl i := by
  subst ho
  intro M hM
  refine Met.ofW (cc := cc) (maxL := n) (ret := none) hy rfl ?_
  intro p e s m args below meth c s₁ B hml hv
  obtain ⟨rfl, ⟨hsz, hP⟩, hKn, hSx, hKc⟩ := hv
  have hl := lv_entry [.ref (g.1 + i)] (n := n) hn
  rw [lg_entry_eq]
  exact body M hM p e s m below meth c _ _ rfl ⟨⟨B.exec, B.bytes, hml, findClass_of_methodNamed B.named, fun w hw => atoms_spec (ws := wU y cc n none) B.pre w (List.mem_cons_of_mem _ hw)⟩, hKn, hSx⟩ hKc B.returns B.notSynchronized ((name_of_methodNamed B.named B.method).1.trans hyn) ⟨hsz, hP, va_S.rf⟩ _ hl
