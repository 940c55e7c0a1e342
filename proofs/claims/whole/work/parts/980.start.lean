/-! THE CLAIM OUT OF ONE WALK OF THE LAW'S BODY. Your part is whole_start (and what it stands on); all else here is the same for every law, but numbers. -/
def R_law : String := "WallPatienceLaw"
def lw_P (b : Addr) (xs : List Int32) (args : Array Value) (s : State) : Prop := args = #[.ref b] ∧ s.IntsAt b xs ∧ xs.length ≤ 448 ∧ (Jvm.Cond.and given_1 narrow_1).before args s = true
def lw_Q (_ : Array Value) (s : State) (o : Outcome) (t : State) : Prop := o = .returned (some (.int 1)) ∧ Framed s o t [] 600000 7302250
def lw_Z (below : List Frame) (a : Array Value) (s : State) : State → Prop := fun t => ∃ o, t.status = .running ∧ Ended t below o ∧ lw_Q a s o t
/-- the law's own end, with 1 on the stack, nothing written that was there before, its room as the claim has it -/
theorem lw_ret {p : Program} {l : Launch} {e : Env} {s : State} {m : MethodId} {below : List Frame} {meth : Method} {c : Code} {b : Nat} (hx : p.tables.exec = Jvm.exec) (hb : c.code = code) (hr : meth.sig.returnType = ret) (hlocks : meth.locks = false) {pc : Nat} {H : Heap} {ls : Array Slot} (hdg : decode code pc = .ok (.ireturn, 1)) : W p l e room_1 s m #[Value.ref b] below meth c H [] 600000 7302250 (lw_Z below #[Value.ref b] s) (F0 m pc ls [.int 1]) := by
  intro T hT X
  obtain ⟨fs, hret, hrun, hended, hW, hframe⟩ := X.leave (v := some (.int 1)) (hlocks := hlocks) (fun h => by rw [hr] at h; cases h)
  have hmeth' : T.vm.method? m = some meth := X.method'
  refine ⟨T.setFrames fs, ?_, .returned (some (.int 1)), hrun, hended, rfl, ⟨_, rfl⟩, hW, hframe⟩
  jvm_step X.here [X.here.top, hx, hb, hdg, hmeth', hr, ret, narrow_b1]
  (try refine ⟨rfl, ?_⟩); (try refine ⟨rfl, ?_⟩)
  first | (intro acts; rw [hret _ acts rfl rfl rfl]) | rw [hret _ _ rfl rfl rfl]
  exact Steps.refl _
/-- what holds at the law's entry: the machine, the code, the tables' words (any of lw_tbl by 'hts w (by decide +kernel)'), the script of L ints xs at the cell b, what the Statement gives of the start (any of its parts by flat_of_before) -/
def lw_At (p : Program) (s : State) (m : MethodId) (meth : Method) (c : Code) (b L : Nat) (xs : Nat → Int32) : Prop :=
  p.tables.exec = Jvm.exec ∧ c.code = code ∧ meth.sig.returnType = ret ∧ c.maxLocals = 4 ∧ s.vm.findClass R_law = some m.cls ∧ (∀ w ∈ lw_tbl, w.before #[Value.ref b] s = true) ∧ va_X b L xs s s.heap ∧ b < s.heap.size ∧ meth.locks = false ∧ (Jvm.Cond.and given_1 narrow_1).before #[Value.ref b] s = true
theorem nwl_in : ∀ w ∈ nwl, w ∈ lw_tbl := by
  have h : nwl = [79, 107, 236, 259, 264, 292, 327, 340, 364, 450, 497, 544, 630, 635, 645, 736, 776].filterMap (fun i => lw_tbl[i]?) := by decide +kernel
  intro w hw
  rw [h] at hw
  obtain ⟨i, -, hi⟩ := List.mem_filterMap.mp hw
  exact List.mem_of_getElem? hi
set_option maxHeartbeats 4000000 in
set_option maxRecDepth 100000 in
/-- what the start gives: the classes, the arrays' classes, the two static arrays -/
theorem start_known {s : State} {b : Nat} (hts : ∀ w ∈ lw_tbl, w.before #[Value.ref b] s = true) (hgv : (Jvm.Cond.and given_1 narrow_1).before #[Value.ref b] s = true) : ∃ g : Gp, g.1 = s.heap.size ∧ Kn g s ∧ Kc g s ∧ Sx g s s.heap := by
  have htg : ∀ w ∈ gw, w.before #[Value.ref b] s = true := fun w h => hts w ((List.mem_filter.mp h).1)
  have hfl := flat_of_before _ hgv
  obtain ⟨c0, i0, k0⟩ := u_known (C := RX0) (T := TX0) (N := 7) (n := 7) htg inG0 (htg (.instantiable RX0 7) (g1 238 (Eq.refl _) rfl))
  obtain ⟨c1, i1, k1⟩ := u_known (C := RX1) (T := TX1) (N := 6) (n := 6) htg inG1 (htg (.instantiable RX1 6) (g1 205 (Eq.refl _) rfl))
  obtain ⟨c2, i2, k2⟩ := u_known (C := RX2) (T := TX2) (N := 4) (n := 4) htg inG2 (htg (.instantiable RX2 4) (g2 70 (Eq.refl _) rfl))
  obtain ⟨c3, i3, k3⟩ := u_known (C := RX3) (T := TX3) (N := 3) (n := 3) htg inG3 (htg (.instantiable RX3 3) (g1 161 (Eq.refl _) rfl))
  obtain ⟨c4, i4, k4⟩ := u_known (C := RX4) (T := TX4) (N := 3) (n := 3) htg inG4 (htg (.instantiable RX4 3) (g2 28 (Eq.refl _) rfl))
  obtain ⟨c5, i5, k5⟩ := u_known (C := RX5) (T := TX5) (N := 3) (n := 3) htg inG5 (htg (.instantiable RX5 3) (g1 182 (Eq.refl _) rfl))
  obtain ⟨c6, i6, k6⟩ := u_known (C := RX6) (T := TX6) (N := 11) (n := 11) htg inG6 (htg (.instantiable RX6 11) (g1 53 (Eq.refl _) rfl))
  obtain ⟨c7, i7, k7⟩ := u_known (C := RX7) (T := TX7) (N := 4) (n := 4) htg inG7 (htg (.instantiable RX7 4) (g1 25 (Eq.refl _) rfl))
  obtain ⟨c8, i8, k8⟩ := u_known (C := RX8) (T := TX8) (N := 5) (n := 5) htg inG8 (htg (.instantiable RX8 5) (g2 46 (Eq.refl _) rfl))
  obtain ⟨c9, i9, k9⟩ := u_known (C := RX9) (T := TX9) (N := 7) (n := 7) htg inG9 (htg (.instantiable RX9 7) (g1 46 (Eq.refl _) rfl))
  obtain ⟨c10, i10, k10⟩ := u_known (C := RX10) (T := TX10) (N := 11) (n := 11) htg inG10 (htg (.instantiable RX10 11) (g1 17 (Eq.refl _) rfl))
  obtain ⟨c11, i11, k11⟩ := u_known (C := RX11) (T := TX11) (N := 17) (n := 17) htg inG11 (htg (.instantiable RX11 17) (g4 155 (Eq.refl _) rfl))
  obtain ⟨dC, dI, hKq⟩ : ∃ (dC : Nat → ClassId) (dI : Nat → Nat → Nat), ∀ (k : Nat) (q : vw_C), vwCl[k]? = some q → u_Kn s q.1 q.2.1 q.2.2 (dC k) (dI k) := by
    refine ⟨fun k => if k = 0 then c0 else if k = 1 then c1 else if k = 2 then c2 else if k = 3 then c3 else if k = 4 then c4 else if k = 5 then c5 else if k = 6 then c6 else if k = 7 then c7 else if k = 8 then c8 else if k = 9 then c9 else if k = 10 then c10 else c11, fun k => if k = 0 then i0 else if k = 1 then i1 else if k = 2 then i2 else if k = 3 then i3 else if k = 4 then i4 else if k = 5 then i5 else if k = 6 then i6 else if k = 7 then i7 else if k = 8 then i8 else if k = 9 then i9 else if k = 10 then i10 else i11, ?_⟩
    intro k q hq
    match k, hq with
    | 0, hq => cases hq; exact k0
    | 1, hq => cases hq; exact k1
    | 2, hq => cases hq; exact k2
    | 3, hq => cases hq; exact k3
    | 4, hq => cases hq; exact k4
    | 5, hq => cases hq; exact k5
    | 6, hq => cases hq; exact k6
    | 7, hq => cases hq; exact k7
    | 8, hq => cases hq; exact k8
    | 9, hq => cases hq; exact k9
    | 10, hq => cases hq; exact k10
    | 11, hq => cases hq; exact k11
    | k + 12, hq => simp [vwCl] at hq
  obtain ⟨aI, mI, qI, fI1, fI2, fI3⟩ := Cond.arrayClass_spec (htg (.arrayClass .int) (g1 44 (Eq.refl _) rfl))
  obtain ⟨aJ, mJ, qJ, fJ1, fJ2, fJ3⟩ := Cond.arrayClass_spec (htg (.arrayClass .long) (g1 203 (Eq.refl _) rfl))
  obtain ⟨aZ, mZ, qZ, fZ1, fZ2, fZ3⟩ := Cond.arrayClass_spec (htg (.arrayClass .boolean) (g1 236 (Eq.refl _) rfl))
  have hOS := hts (.arrayOver (.object RX5)) (List.mem_of_getElem? (i := 234) (by decide +kernel))
  obtain ⟨qS, aS, mS, fS1, fS2, fS3, fS4, fS5⟩ := Cond.arrayOver_spec hOS
  have hOT := hts (.arrayOver (.object RX6)) (List.mem_of_getElem? (i := 105) (by decide +kernel))
  obtain ⟨qT, aT, mT, fT1, fT2, fT3, fT4, fT5⟩ := Cond.arrayOver_spec hOT
  have hOW := hts (.arrayOver (.object RX9)) (List.mem_of_getElem? (i := 220) (by decide +kernel))
  obtain ⟨qW, aW, mW, fW1, fW2, fW3, fW4, fW5⟩ := Cond.arrayOver_spec hOW
  have hOA := hts (.arrayOver (.array .int)) (List.mem_of_getElem? (i := 297) (by decide +kernel))
  obtain ⟨qA, aA, mA, fA1, -, fA2, fA3, fA4⟩ := m2_over.mp hOA
  obtain ⟨to, eo, To⟩ := va_Tof (args := #[Value.ref b]) (s := s) (tm := (Term.static "WallPatience" "KIND_OVER" "[I")) (ty := .int) (N := 6) (f := fun j => .int (koF j)) (A := fun q => s.heap.size ≤ q) (by decide) (hfl (Cond.arrayOf (Term.static "WallPatience" "KIND_OVER" "[I") .int) (by decide +kernel)) (va_eqt (hfl (Cond.eq (.length (Term.static "WallPatience" "KIND_OVER" "[I")) (.int 6)) (by decide +kernel))) (fun j hj => by
    rcases (show j = 0 ∨ j = 1 ∨ j = 2 ∨ j = 3 ∨ j = 4 ∨ j = 5 by omega) with rfl | rfl | rfl | rfl | rfl | rfl
    · exact va_eqt (hfl (Cond.eq (.elem (Term.static "WallPatience" "KIND_OVER" "[I") (.int 0)) (.int (-1))) (by decide +kernel))
    · exact va_eqt (hfl (Cond.eq (.elem (Term.static "WallPatience" "KIND_OVER" "[I") (.int 1)) (.int (0))) (by decide +kernel))
    · exact va_eqt (hfl (Cond.eq (.elem (Term.static "WallPatience" "KIND_OVER" "[I") (.int 2)) (.int (1))) (by decide +kernel))
    · exact va_eqt (hfl (Cond.eq (.elem (Term.static "WallPatience" "KIND_OVER" "[I") (.int 3)) (.int (1))) (by decide +kernel))
    · exact va_eqt (hfl (Cond.eq (.elem (Term.static "WallPatience" "KIND_OVER" "[I") (.int 4)) (.int (0))) (by decide +kernel))
    · exact va_eqt (hfl (Cond.eq (.elem (Term.static "WallPatience" "KIND_OVER" "[I") (.int 5)) (.int (4))) (by decide +kernel))
    ) (fun a h => Nat.not_le.mpr h)
  have Zo := va_Zof (A := fun q => s.heap.size ≤ q) (hts (.laysStatic RX10 "KIND_OVER" "[I") (List.mem_of_getElem? (i := 523) (by decide +kernel))) (htg (.initialized RX10) ni_X10) eo (fun a h => Nat.not_le.mpr h)
  obtain ⟨tp, ep, Tp⟩ := va_Tof (args := #[Value.ref b]) (s := s) (tm := (Term.static "WallPatience" "SORTS" "[C")) (ty := .char) (N := 5) (f := fun j => .int (soF j)) (A := fun q => s.heap.size ≤ q) (by decide) (hfl (Cond.arrayOf (Term.static "WallPatience" "SORTS" "[C") .char) (by decide +kernel)) (va_eqt (hfl (Cond.eq (.length (Term.static "WallPatience" "SORTS" "[C")) (.int 5)) (by decide +kernel))) (fun j hj => by
    rcases (show j = 0 ∨ j = 1 ∨ j = 2 ∨ j = 3 ∨ j = 4 by omega) with rfl | rfl | rfl | rfl | rfl
    · exact va_eqt (hfl (Cond.eq (.elem (Term.static "WallPatience" "SORTS" "[C") (.int 0)) (.int (112))) (by decide +kernel))
    · exact va_eqt (hfl (Cond.eq (.elem (Term.static "WallPatience" "SORTS" "[C") (.int 1)) (.int (104))) (by decide +kernel))
    · exact va_eqt (hfl (Cond.eq (.elem (Term.static "WallPatience" "SORTS" "[C") (.int 2)) (.int (109))) (by decide +kernel))
    · exact va_eqt (hfl (Cond.eq (.elem (Term.static "WallPatience" "SORTS" "[C") (.int 3)) (.int (121))) (by decide +kernel))
    · exact va_eqt (hfl (Cond.eq (.elem (Term.static "WallPatience" "SORTS" "[C") (.int 4)) (.int (115))) (by decide +kernel))
    ) (fun a h => Nat.not_le.mpr h)
  have Zp := va_Zof (A := fun q => s.heap.size ≤ q) (hts (.laysStatic RX10 "SORTS" "[C") (List.mem_of_getElem? (i := 464) (by decide +kernel))) (htg (.initialized RX10) ni_X10) ep (fun a h => Nat.not_le.mpr h)
  refine ⟨(s.heap.size, (dC, dI), (fun k => if k = 0 then aI else if k = 1 then aJ else if k = 2 then aZ else if k = 3 then aS else if k = 4 then aT else if k = 5 then aW else aA), to, tp), rfl, ⟨⟨hKq, fun k q hq => ?_⟩, fun w hw => ?_, va_Nw.of rfl (hts _ (List.mem_of_getElem? (i := 463) (by decide +kernel)))⟩, ⟨va_AO.of hOS, va_AO.of hOT, va_AO.of hOW, hOA⟩, ⟨Zo, To, Zp, Tp⟩⟩
  · match k, hq with
    | 0, hq => cases hq; exact ⟨fun n z => ⟨fun k h => (by cases h), mI, fI2, qI, fI3⟩, fI1⟩
    | 1, hq => cases hq; exact ⟨fun n z => ⟨fun k h => (by cases h), mJ, fJ2, qJ, fJ3⟩, fJ1⟩
    | 2, hq => cases hq; exact ⟨fun n z => ⟨fun k h => (by cases h), mZ, fZ2, qZ, fZ3⟩, fZ1⟩
    | 3, hq => cases hq; exact ⟨fun n z => ⟨fun k h => (by cases h), mS, fS3, qS, fS4⟩, mS, qS, fS3, fS4, fS1, fS5⟩
    | 4, hq => cases hq; exact ⟨fun n z => ⟨fun k h => (by cases h), mT, fT3, qT, fT4⟩, mT, qT, fT3, fT4, fT1, fT5⟩
    | 5, hq => cases hq; exact ⟨fun n z => ⟨fun k h => (by cases h), mW, fW3, qW, fW4⟩, mW, qW, fW3, fW4, fW1, fW5⟩
    | 6, hq => cases hq; exact ⟨fun n z => ⟨fun k h => (by cases h), mA, fA2, qA, fA3⟩, fA4⟩
    | k + 7, hq => simp at hq
  · have h3 : isMN w = true := (List.all_eq_true.mp (by decide +kernel : nwl.all isMN = true)) w hw
    have h2 := hts w (nwl_in w hw)
    match w, h2, h3 with
    | .methodLinkNest _ _ _ _, h2, _ => exact va_Nw.of rfl h2
set_option maxHeartbeats 4000000 in
set_option maxRecDepth 100000 in
/-- THE LAW, from its entry -/
theorem whole_start {p : Program} {e : Env} {s : State} {m : MethodId} {below : List Frame} {meth : Method} {c : Code} (l : Launch) {b L : Nat} {xs : Nat → Int32} (hL : L ≤ 448) (C0 : lw_At p s m meth c b L xs) : W p l e room_1 s m #[Value.ref b] below meth c s.heap [] 0 0 (lw_Z below #[Value.ref b] s) (entryFrame m ([Value.ref b] : List Value).toArray 4) := by
  obtain ⟨hx, hb, hr, hml, hown, hts, hX, hbl, hlocks, hgv⟩ := C0
  obtain ⟨g, hg, hKn, hKc, hSx⟩ := start_known hts hgv
  have C : Cx g p s m #[Value.ref b] c RL cL_law 4 := ⟨⟨hx, hb, hml, hown, fun w h => hts w ((List.mem_filter.mp h).1)⟩, hKn, hSx⟩
  have hbA : ¬ AA g b := by show ¬ g.1 ≤ b; rw [hg]; omega
  have hW : Wr g s 0 (fun _ => .inr (0, [])) s.heap [] := ⟨by rw [hg]; rfl, fun k q h => by simp [wr] at h, va_S.rf⟩
  have hl := lv_entry ([.ref b]) (n := 4) (Nat.le_of_ble_eq_true rfl)
  rw [lg_entry_eq]
  generalize (lg_sl ([.ref b]) ++ List.replicate (4 - (lg_sl ([.ref b])).length) Slot.unset).toArray = ls at hl ⊢
  have hl : lv_has ls 4 [(0, .ref b)] := hl
  refine r_new (ci := 10) (Cn := RX10) (T := TX10) (N := 11) (fs := blk 10) C hW inG10 tyX10 tyX10_ok (g1 16 (Eq.refl _) rfl) (g1 17 (Eq.refl _) rfl) (g1 1 (Eq.refl _) rfl) rfl bk_10 (by decide) (by decide) dL_law_0 (fun M H hx0 hne hW => ?_)
  refine lv_dup C.1.1 C.1.2.1 dL_law_3 rfl ?_
  refine r_callI (rest := [.ref (g.1 + 0)]) C hKc hW (c_X10_init g l) hx0 cd_X10_init (g1 18 (Eq.refl _) rfl) (g1 19 (Eq.refl _) rfl) (g1 1 (Eq.refl _) rfl) rfl (by decide +kernel) ⟨by decide, by decide⟩ ⟨by decide, by decide⟩ hl.1 (Nat.le_of_ble_eq_true rfl) dL_law_4 (fun M H locs hF hB hW => ?_)
  refine lv_astore_n (lv' := [(1, .ref (g.1 + 0)), (0, .ref b)]) C.1.1 C.1.2.1 dL_law_7 rfl hl (by decide) rfl (fun ls hl => ?_)
  refine r_new (ci := 11) (Cn := RX11) (T := TX11) (N := 17) (fs := blk 11) C hW inG11 tyX11 tyX11_ok (g4 154 (Eq.refl _) rfl) (g4 155 (Eq.refl _) rfl) (g1 12 (Eq.refl _) rfl) rfl bk_11 (by decide) (by decide) dL_law_8 (fun M H hx1 hne hW => ?_)
  replace hF := fun j h1 h2 => (hne j (by omega)).trans (hF j h1 h2)
  refine lv_dup C.1.1 C.1.2.1 dL_law_11 rfl ?_
  refine r_callI (i := 244) (rest := [.ref (g.1 + 244)]) C hKc hW (c_X11_init g l) hx1 cd_X11_init (g4 156 (Eq.refl _) rfl) (g4 157 (Eq.refl _) rfl) (g1 12 (Eq.refl _) rfl) rfl (by decide +kernel) ⟨by decide, by decide⟩ ⟨by decide, by decide⟩ hl.1 (Nat.le_of_ble_eq_true rfl) dL_law_12 (fun M H locs hF2 hB hW => ?_)
  replace hF := fun j h1 h2 => (hB j (by omega)).trans (hF j h1 h2)
  have hall : ∀ j, j < 255 → M j = E0 g j := fun j h => by
    rcases Nat.lt_or_ge j 244 with hq | hq
    · exact hF j (Nat.zero_le _) (by omega)
    · exact hF2 j hq (by omega)
  have hWs : Ws g s I0 L0 H locs := ⟨fun k q hk => by
    obtain ⟨h1, rfl⟩ := wl_at hk
    have := hW.at h1
    rw [hall k h1] at this
    exact this, hW.2.2⟩
  refine lv_astore_n (lv' := [(2, .ref (g.1 + 244)), (1, .ref (g.1 + 0)), (0, .ref b)]) C.1.1 C.1.2.1 dL_law_15 rfl hl (by decide) rfl (fun ls hl => ?_)
  refine lv_iconst (v := 0) C.1.1 C.1.2.1 dL_law_16 (by decide) ?_
  refine lv_istore_n (lv' := [(3, .int 0), (2, .ref (g.1 + 244)), (1, .ref (g.1 + 0)), (0, .ref b)]) C.1.1 C.1.2.1 dL_law_17 rfl hl (by decide) rfl (fun ls hl => ?_)
  refine W.widen (k := 600000) (n := 7302250) (by decide) (by decide) ?_
  obtain ⟨I', L', hp⟩ := law_pure xs L hL
  refine l_L_law_18 hX hbl hbA C _ _ _ _ _ _ hp _ _ _ hWs (lv_sub hl [3, 2, 1, 0] rfl) (fun H locs ls hW hl => ?_)
  refine lv_iconst (v := 1) C.1.1 C.1.2.1 dL_law_1503 (by decide) ?_
  refine va_forget (fun q hq => by have : g.1 ≤ q.base := hW.2.2.2 q hq; rw [hg] at this; exact this) ?_
  exact lw_ret hx hb hr hlocks dL_law_1504
