theorem inj1 {A : Type} {a x : A} (h : some a = some x) : x = a := (Option.some.inj h).symm
theorem pnj1 {A : Type} {a x : A} (h : a = x) : x = a := h.symm
theorem inj2 {A B : Type} {a a1 : A} {b b1 : B} (h : some (a, b) = some (a1, b1)) : a1 = a ∧ b1 = b := by
  cases h
  exact ⟨rfl, rfl⟩
theorem pnj2 {A B : Type} {a a1 : A} {b b1 : B} (h : (a, b) = (a1, b1)) : a1 = a ∧ b1 = b := by
  cases h
  exact ⟨rfl, rfl⟩
theorem inj3 {A B C : Type} {a a1 : A} {b b1 : B} {c c1 : C} (h : some (a, b, c) = some (a1, b1, c1)) : a1 = a ∧ b1 = b ∧ c1 = c := by
  cases h
  exact ⟨rfl, rfl, rfl⟩
theorem pnj3 {A B C : Type} {a a1 : A} {b b1 : B} {c c1 : C} (h : (a, b, c) = (a1, b1, c1)) : a1 = a ∧ b1 = b ∧ c1 = c := by
  cases h
  exact ⟨rfl, rfl, rfl⟩
theorem inj4 {A B C D : Type} {a a1 : A} {b b1 : B} {c c1 : C} {d d1 : D} (h : some (a, b, c, d) = some (a1, b1, c1, d1)) : a1 = a ∧ b1 = b ∧ c1 = c ∧ d1 = d := by
  cases h
  exact ⟨rfl, rfl, rfl, rfl⟩
theorem pnj4 {A B C D : Type} {a a1 : A} {b b1 : B} {c c1 : C} {d d1 : D} (h : (a, b, c, d) = (a1, b1, c1, d1)) : a1 = a ∧ b1 = b ∧ c1 = c ∧ d1 = d := by
  cases h
  exact ⟨rfl, rfl, rfl, rfl⟩
theorem inj5 {A B C D E : Type} {a a1 : A} {b b1 : B} {c c1 : C} {d d1 : D} {e e1 : E} (h : some (a, b, c, d, e) = some (a1, b1, c1, d1, e1)) : a1 = a ∧ b1 = b ∧ c1 = c ∧ d1 = d ∧ e1 = e := by
  cases h
  exact ⟨rfl, rfl, rfl, rfl, rfl⟩
theorem pnj5 {A B C D E : Type} {a a1 : A} {b b1 : B} {c c1 : C} {d d1 : D} {e e1 : E} (h : (a, b, c, d, e) = (a1, b1, c1, d1, e1)) : a1 = a ∧ b1 = b ∧ c1 = c ∧ d1 = d ∧ e1 = e := by
  cases h
  exact ⟨rfl, rfl, rfl, rfl, rfl⟩
theorem inj6 {A B C D E F : Type} {a a1 : A} {b b1 : B} {c c1 : C} {d d1 : D} {e e1 : E} {f f1 : F} (h : some (a, b, c, d, e, f) = some (a1, b1, c1, d1, e1, f1)) : a1 = a ∧ b1 = b ∧ c1 = c ∧ d1 = d ∧ e1 = e ∧ f1 = f := by
  cases h
  exact ⟨rfl, rfl, rfl, rfl, rfl, rfl⟩
theorem pnj6 {A B C D E F : Type} {a a1 : A} {b b1 : B} {c c1 : C} {d d1 : D} {e e1 : E} {f f1 : F} (h : (a, b, c, d, e, f) = (a1, b1, c1, d1, e1, f1)) : a1 = a ∧ b1 = b ∧ c1 = c ∧ d1 = d ∧ e1 = e ∧ f1 = f := by
  cases h
  exact ⟨rfl, rfl, rfl, rfl, rfl, rfl⟩
theorem inj7 {A B C D E F G : Type} {a a1 : A} {b b1 : B} {c c1 : C} {d d1 : D} {e e1 : E} {f f1 : F} {g g1 : G} (h : some (a, b, c, d, e, f, g) = some (a1, b1, c1, d1, e1, f1, g1)) : a1 = a ∧ b1 = b ∧ c1 = c ∧ d1 = d ∧ e1 = e ∧ f1 = f ∧ g1 = g := by
  cases h
  exact ⟨rfl, rfl, rfl, rfl, rfl, rfl, rfl⟩
theorem pnj7 {A B C D E F G : Type} {a a1 : A} {b b1 : B} {c c1 : C} {d d1 : D} {e e1 : E} {f f1 : F} {g g1 : G} (h : (a, b, c, d, e, f, g) = (a1, b1, c1, d1, e1, f1, g1)) : a1 = a ∧ b1 = b ∧ c1 = c ∧ d1 = d ∧ e1 = e ∧ f1 = f ∧ g1 = g := by
  cases h
  exact ⟨rfl, rfl, rfl, rfl, rfl, rfl, rfl⟩
theorem inj8 {A B C D E F G H : Type} {a a1 : A} {b b1 : B} {c c1 : C} {d d1 : D} {e e1 : E} {f f1 : F} {g g1 : G} {z z1 : H} (h : some (a, b, c, d, e, f, g, z) = some (a1, b1, c1, d1, e1, f1, g1, z1)) : a1 = a ∧ b1 = b ∧ c1 = c ∧ d1 = d ∧ e1 = e ∧ f1 = f ∧ g1 = g ∧ z1 = z := by
  cases h
  exact ⟨rfl, rfl, rfl, rfl, rfl, rfl, rfl, rfl⟩
theorem pnj8 {A B C D E F G H : Type} {a a1 : A} {b b1 : B} {c c1 : C} {d d1 : D} {e e1 : E} {f f1 : F} {g g1 : G} {z z1 : H} (h : (a, b, c, d, e, f, g, z) = (a1, b1, c1, d1, e1, f1, g1, z1)) : a1 = a ∧ b1 = b ∧ c1 = c ∧ d1 = d ∧ e1 = e ∧ f1 = f ∧ g1 = g ∧ z1 = z := by
  cases h
  exact ⟨rfl, rfl, rfl, rfl, rfl, rfl, rfl, rfl⟩
theorem nm_at {α β : Type} {a x : α} {f : α → Option β} {r : β} (e : x = a) (h : nm a f = some r) : f x = some r := by
  subst e
  exact h
/-- a method's body gives its contract -/
theorem w_enter {g : Gp} {l : Launch} {y : MethodName} {cc : ByteArray} {n d : Nat} {ret : Option FieldType} {av : List Value} {I : MI} {L : ML} {Qc : Array Value → State → Outcome → State → Prop} (hy : plainName y.cls = true) (hn : (lg_sl av).length ≤ n) {own : String} (ho : y.cls = own)
    (body : ∀ (p : Program) (e : Env) (s : State) (m : MethodId) (below : List Frame) (meth : Method) (c : Code), ∀ (args : Array Value) (Q : State → Prop), Q = MQ below Qc args s 0 0 (AA g) → Cx g p s m args c own cc n → meth.sig.returnType = ret → meth.locks = false → Ws g s I L s.heap [] → ∀ ls : Array Slot, lv_has ls n (lv_args 0 av) → W p l e (rmD d) s m args below meth c s.heap [] 0 0 Q (F0 m 0 ls [])) : Met l y (wU y cc n ret) (rmD d) (va_Pc av (Pre g I L)) Qc 0 0 (AA g) := by
  subst ho
  refine Met.ofW (cc := cc) (maxL := n) (ret := ret) hy rfl ?_
  intro p e s m args below meth c s₁ B hml hv
  obtain ⟨rfl, hWd, hKn, hSx⟩ := hv
  have hl := lv_entry av (n := n) hn
  rw [lg_entry_eq]
  exact body p e s m below meth c _ _ rfl ⟨⟨B.exec, B.bytes, hml, findClass_of_methodNamed B.named, fun w hw => atoms_spec (ws := wU y cc n ret) B.pre w (List.mem_cons_of_mem _ hw)⟩, hKn, hSx⟩ B.returns B.notSynchronized ⟨hWd, va_S.rf⟩ _ hl
section SG
variable {p : Program} {l : Launch} {e : Env} {R : Room} {s : State} {m : MethodId} {args : Array Value} {below : List Frame} {meth : Method} {c : Code} {H : Heap} {locs : List Loc} {cells slots : Nat} {Q : State → Prop}
variable {cc : ByteArray} {pc nL i : Nat} {ls : Array Slot} {rest : List Value} {g : Gp} {I : MI} {L : ML}
theorem P_X4_21 (C : Cx g p s m args c RX4 cc nL) (hW : Ws g s I L H locs) (hdg : decode cc pc = .ok (.putfield 21, 3)) (kk : ∀ (H1 : Heap) (locs1 : List Loc), Ws g s (up2 I 220 2 1) L H1 locs1 → W p l e R s m args below meth c H1 locs1 cells slots Q (F0 m (pc + 3) ls rest)) : W p l e R s m args below meth c H locs cells slots Q (F0 m pc ls (.ref (g.1 + 207) :: .ref (g.1 + 220) :: rest)) :=
  va_put (D := g.2.1) (ci := 4) (v := .ref (g.1 + 207)) (ty := .object "WallPatience$Forecast") (C := RX4) (T := TX4) (N := 3) C.1.1 C.1.2.1 C.1.2.2.2.2 inG4 tyX4 tyX4_ok nmX4 C.1.2.2.2.1 C.2.1.1 hW.1 wl_D hW.2 220 (by rw [wl_get (by decide), EE_4 (by decide)]) rfl 2 (by decide) (C.1.2.2.2.2 (.fieldLink RX4 21 RX4 "sight" "LWallPatience$Forecast;") (g2 37 (Eq.refl _) rfl)) (fun _ h => h) rfl (by decide +kernel) rfl rfl (Nat.le_of_ble_eq_true rfl) hdg (fun H1 locs1 hP _ hS => kk H1 locs1 ⟨by
    have e := wl_setI (g := g) (I := I) (L := L) (i := 220) (f := upd (I 220) 2 1) (by decide) (EE_4 (by decide))
    have hP : va_P g.2.1 vwCl (wl g (va_up I 220 (upd (I 220) 2 1)) L) H1 := e ▸ hP
    exact hP, hS⟩)
theorem w_copyl (C : Cx g p s m args c RX10 cc nL) (hW : Ws g s I L H locs) (hsz : ls.size = nL) {a b : Nat} (ha : kd a = 5) (hb : kd b = 5) {sp dp n : Int32} (h1 : ¬ sp < 0) (h2 : ¬ dp < 0) (h3 : ¬ n < 0) (h4 : sp.toNatClampNeg + n.toNatClampNeg ≤ 24) (h5 : dp.toNatClampNeg + n.toNatClampNeg ≤ 24) (hR : 1 ≤ R.frames ∧ 40 ≤ R.locals) (hroom : rest = []) (hdg : decode cc pc = .ok (.invokestatic 296, 3))
    (kk : ∀ (H1 : Heap) (locs1 : List Loc), Ws g s I (va_up L (b + 1) (va_cpy (L (a + 1)) (L (b + 1)) sp.toNatClampNeg dp.toNatClampNeg n.toNatClampNeg)) H1 locs1 → W p l e R s m args below meth c H1 locs1 cells slots Q (F0 m (pc + 3) ls rest)) : W p l e R s m args below meth c H locs cells slots Q (F0 m pc ls (.int n :: .int dp :: .ref (g.1 + (b + 1)) :: .int sp :: .ref (g.1 + (a + 1)) :: rest)) := by
  subst hroom
  refine va_copyl (D := g.2.1) (own := RX10) C.1.1 C.1.2.1 (C.1.2.2.1.trans hsz.symm) C.1.2.2.2.1 (C.1.2.2.2.2 (.methodLink RX10 296 arraycopyName) (g4 64 (Eq.refl _) rfl)) (C.1.2.2.2.2 (.native arraycopyName) (g4 66 (Eq.refl _) rfl)) (C.1.2.2.2.2 (.static arraycopyName) (g4 65 (Eq.refl _) rfl)) (C.1.2.2.2.2 (.initialized "java/lang/System") (g1 15 (Eq.refl _) rfl)) C.2.1.1 hW.1 wl_D hW.2 (a + 1) (b + 1) 1 1 (n0 := 24) (n1 := 24) (f := L (a + 1)) (g := L (b + 1)) (ty := .long) (by rw [wl_get (kd_lt (kd_it ha) (by decide)), EE_13 (kd_it ha), ln_it ha]) (by rw [wl_get (kd_lt (kd_it hb) (by decide)), EE_13 (kd_it hb), ln_it hb]) rfl rfl rfl h1 h2 h3 h4 h5 (fun _ _ => rfl) hR.1 (Nat.le_trans (by decide +kernel) hR.2) hdg (fun H1 locs1 hP _ hS => kk H1 locs1 ⟨by
    have e := wl_setL (g := g) (I := I) (L := L) (i := b + 1) (f := va_cpy (L (a + 1)) (L (b + 1)) sp.toNatClampNeg dp.toNatClampNeg n.toNatClampNeg) (kd_lt (kd_it hb) (by decide)) (EE_13 (kd_it hb))
    rw [ln_it hb] at e
    have hP : va_P g.2.1 vwCl (wl g I (va_up L (b + 1) (va_cpy (L (a + 1)) (L (b + 1)) sp.toNatClampNeg dp.toNatClampNeg n.toNatClampNeg))) H1 := e ▸ hP
    exact hP, hS⟩)
end SG
