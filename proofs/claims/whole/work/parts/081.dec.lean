def b_X11_sittingIn_4 (v1 : Int32) (I : MI) (L : ML) (z2 : Int32) (z3 : Int32) : Option ((Int32 × Int32) ⊕ ((Int32))) :=
  gi (v1 + (1 : Int32)) 1752 ((if (I 245 (v1 + (1 : Int32)).toNatClampNeg) ≤ z3 then some (Sum.inr z2) else bd1 (f_X11_isDown v1 z3 I L) (fun r3 => bd1 ((if r3 = 0 then some (1 : Int32) else some (0 : Int32))) (fun y5 => nm (z2 + y5) (fun x8 => nm (z3 + (1 : Int32)) (fun x9 => some (Sum.inl (x8, x9))))))))
set_option maxHeartbeats 4000000 in
set_option maxRecDepth 100000 in
theorem l_X11_sittingIn_4 {g : Gp} {p : Program} {l : Launch} {e : Env} {s : State} {m : MethodId} {args : Array Value} {below : List Frame} {meth : Method} {c : Code} {Q : State → Prop}  (C : Cx g p s m args c RX11 cX11_sittingIn 4) (v1 : Int32)  (I : MI) (L : ML) : ∀ (n : Nat) (z2 : Int32) (z3 : Int32) (y0_2 : Int32), lp (fun s => b_X11_sittingIn_4 v1 I L s.1 s.2) n (z2, z3) = some y0_2 → ∀ (H : Heap) (locs : List Loc) (ls : Array Slot), Ws g s I L H locs → lv_has ls 4 [(0, .ref (g.1 + 244)), (1, .int v1), (2, .int z2), (3, .int z3)] → (∀ (H : Heap) (locs : List Loc) (ls : Array Slot), Ws g s I L H locs → lv_has ls 4 [(2, .int y0_2)] → W p l e (rmD 1) s m args below meth c H locs 0 0 Q (F0 m 39 ls [])) → W p l e (rmD 1) s m args below meth c H locs 0 0 Q (F0 m 4 ls []) := by
  intro n
  induction n with
  | zero => intro z2 z3 y0_2 h; exact lp_zero h
  | succ n ih =>
      intro z2 z3 y0_2 h H locs ls hW hl hx0
      obtain ⟨r9, h, h9⟩ := lp_some h
      have h : b_X11_sittingIn_4 v1 I L z2 z3 = some r9 := h
      unfold b_X11_sittingIn_4 at h
      refine lv_iload_n C.1.1 C.1.2.1 dX11_sittingIn_4 rfl (lv_at hl 3 rfl) ?_
      refine lv_aload_n C.1.1 C.1.2.1 dX11_sittingIn_5 rfl (lv_at hl 0 rfl) ?_
      refine G_X11_7 C hW (by decide) dX11_sittingIn_6 ?_
      refine lv_iload_n C.1.1 C.1.2.1 dX11_sittingIn_9 rfl (lv_at hl 1 rfl) ?_
      refine lv_iconst (v := 1) C.1.1 C.1.2.1 dX11_sittingIn_10 (by decide) ?_
      refine lv_iadd C.1.1 C.1.2.1 dX11_sittingIn_11 ?_
      obtain ⟨hi1, h⟩ := gi_some h
      refine w_iald C hW (n := 1752) (by decide) (by decide) hi1 dX11_sittingIn_12 ?_
      refine lv_icmp_ge (tgt := 39) C.1.1 C.1.2.1 dX11_sittingIn_13 (by decide) (fun hc2 => ?_) (fun hc2 => ?_)
      · replace h := ite_t hc2 h
        obtain rfl := Option.some.inj h
        replace h9 := Option.some.inj h9
        obtain rfl := pnj1 h9
        exact hx0 _ _ _ hW (lv_sub hl [2] rfl)
      · replace h := ite_f hc2 h
        refine lv_iload_n C.1.1 C.1.2.1 dX11_sittingIn_16 rfl (lv_at hl 2 rfl) ?_
        refine lv_aload_n C.1.1 C.1.2.1 dX11_sittingIn_17 rfl (lv_at hl 0 rfl) ?_
        refine lv_iload_n C.1.1 C.1.2.1 dX11_sittingIn_18 rfl (lv_at hl 1 rfl) ?_
        refine lv_iload_n C.1.1 C.1.2.1 dX11_sittingIn_19 rfl (lv_at hl 3 rfl) ?_
        obtain ⟨r3, hc4, h⟩ := bd1_some h
        refine w_callVi (k := 2) (As := [.int v1, .int z3]) (rest := [.int z2]) C hW (c_X11_isDown g l  hc4) (by decide) rfl (EX_11 (by decide)) K_X11_100 (by decide +kernel) ⟨by decide, by decide⟩ ⟨Nat.le_refl _, Nat.le_refl _⟩ rfl hl.1 rfl (Nat.le_of_ble_eq_true rfl) dX11_sittingIn_20 (fun H locs hW => ?_)
        obtain ⟨y5, hj7, h⟩ := bd1_some h
        have kJ6 : ∀ (H : Heap) (locs : List Loc) (ls : Array Slot), Ws g s I L H locs → lv_has ls 4 [(0, .ref (g.1 + 244)), (1, .int v1), (3, .int z3)] → W p l e (rmD 1) s m args below meth c H locs 0 0 Q (F0 m 31 ls [.int y5, .int z2]) := by
          intro H locs ls hW hl
          refine lv_iadd C.1.1 C.1.2.1 dX11_sittingIn_31 ?_
          refine lv_topi (fun x8 ex8 => ?_)
          replace h := nm_at ex8 h
          clear ex8
          refine lv_istore_n (lv' := [(2, .int x8), (0, .ref (g.1 + 244)), (1, .int v1), (3, .int z3)]) C.1.1 C.1.2.1 dX11_sittingIn_32 rfl hl (by decide) rfl (fun ls hl => ?_)
          obtain ⟨x9, ex9⟩ : ∃ y : Int32, y = z3 + (1 : Int32) := ⟨_, rfl⟩
          replace h := nm_at ex9 h
          refine lv_iinc (v := x9) (lv' := [(3, .int x9), (2, .int x8), (0, .ref (g.1 + 244)), (1, .int v1)]) C.1.1 C.1.2.1 dX11_sittingIn_33 hl (k := 3) rfl (by rw [ex9]; rfl) (by decide) rfl (fun ls hl => ?_)
          clear ex9
          refine lv_goto (tgt := 4) C.1.1 C.1.2.1 dX11_sittingIn_36 (by decide) ?_
          obtain rfl := Option.some.inj h
          exact ih _ _ _ h9 _ _ _ hW (lv_sub hl [2, 3, 1, 0] rfl) hx0
        clear h
        have h := hj7
        clear hj7
        refine lv_if_eq (tgt := 30) C.1.1 C.1.2.1 dX11_sittingIn_23 (by decide) (fun hc10 => ?_) (fun hc10 => ?_)
        · replace h := ite_t hc10 h
          refine lv_iconst (v := 1) C.1.1 C.1.2.1 dX11_sittingIn_30 (by decide) ?_
          obtain rfl := inj1 h
          exact kJ6 _ _ _ hW (lv_sub hl [0, 1, 3] rfl)
        · replace h := ite_f hc10 h
          refine lv_iconst (v := 0) C.1.1 C.1.2.1 dX11_sittingIn_26 (by decide) ?_
          refine lv_goto (tgt := 31) C.1.1 C.1.2.1 dX11_sittingIn_27 (by decide) ?_
          obtain rfl := inj1 h
          exact kJ6 _ _ _ hW (lv_sub hl [0, 1, 3] rfl)
def f_X11_sittingIn (a1 : Int32) (I : MI) (L : ML) : Option (Int32) :=
  bd1 (lp (fun s => b_X11_sittingIn_4 a1 I L s.1 s.2) FU (((0 : Int32), (0 : Int32)))) (fun y12 => some y12)
set_option maxHeartbeats 4000000 in
set_option maxRecDepth 100000 in
theorem c_X11_sittingIn (g : Gp) (l : Launch) {a1 : Int32}  {I : MI} {L : ML} {r : Int32} (h : f_X11_sittingIn a1 I L = some r) : MetI g l yX11_sittingIn cX11_sittingIn 4 .int 1 [.ref (g.1 + 244), .int a1] I L r I L := by
  unfold f_X11_sittingIn at h
  refine w_enter (by decide) (Nat.le_of_ble_eq_true rfl) (own := RX11) rfl ?_
  intro p e s m below meth c args Q hQ C hr hlocks hW ls hl
  have hl : lv_has ls 4 [(0, .ref (g.1 + 244)), (1, .int a1)] := hl
  refine lv_iconst (v := 0) C.1.1 C.1.2.1 dX11_sittingIn_0 (by decide) ?_
  refine lv_istore_n (lv' := [(2, .int (0 : Int32)), (0, .ref (g.1 + 244)), (1, .int a1)]) C.1.1 C.1.2.1 dX11_sittingIn_1 rfl hl (by decide) rfl (fun ls hl => ?_)
  refine lv_iconst (v := 0) C.1.1 C.1.2.1 dX11_sittingIn_2 (by decide) ?_
  refine lv_istore_n (lv' := [(3, .int (0 : Int32)), (2, .int (0 : Int32)), (0, .ref (g.1 + 244)), (1, .int a1)]) C.1.1 C.1.2.1 dX11_sittingIn_3 rfl hl (by decide) rfl (fun ls hl => ?_)
  obtain ⟨y12, hq11, h⟩ := bd1_some h
  refine l_X11_sittingIn_4 C a1  I L _ _ _ _ hq11 _ _ _ hW (lv_sub hl [2, 3, 1, 0] rfl) (fun H locs ls hW hl => ?_)
  refine lv_iload_n C.1.1 C.1.2.1 dX11_sittingIn_39 rfl (lv_at hl 0 rfl) ?_
  obtain rfl := inj1 h
  subst hQ
  exact w_iret C hW hr hlocks dX11_sittingIn_40
def f_X11_sitter (a1 : Int32) (a2 : Int32) (I : MI) (L : ML) : Option (Int32) :=
  bd1 (f_X11_isSitter a1 I L) (fun r1 => (if r1 = 0 then some (-1 : Int32) else bd1 (f_X11_in a2.toInt64 (0 : Int64) (10 : Int64)) (fun r4 => (if r4 = 0 then some (-1 : Int32) else gi (((7 : Int32) + ((6 : Int32) * a2)) + a1) 1752 (nm (I 245 (((7 : Int32) + ((6 : Int32) * a2)) + a1).toNatClampNeg) (fun x8 => bd1 ((if a2 = (10 : Int32) then (if 0 ≤ x8 then some x8 else some (-4 : Int32)) else some x8)) (fun y9 => some y9)))))))
set_option maxHeartbeats 4000000 in
set_option maxRecDepth 100000 in
theorem c_X11_sitter (g : Gp) (l : Launch) {a1 : Int32} {a2 : Int32}  {I : MI} {L : ML} {r : Int32} (h : f_X11_sitter a1 a2 I L = some r) : MetI g l yX11_sitter cX11_sitter 4 .int 2 [.ref (g.1 + 244), .int a1, .int a2] I L r I L := by
  unfold f_X11_sitter at h
  refine w_enter (by decide) (Nat.le_of_ble_eq_true rfl) (own := RX11) rfl ?_
  intro p e s m below meth c args Q hQ C hr hlocks hW ls hl
  have hl : lv_has ls 4 [(0, .ref (g.1 + 244)), (1, .int a1), (2, .int a2)] := hl
  refine lv_aload_n C.1.1 C.1.2.1 dX11_sitter_0 rfl (lv_at hl 0 rfl) ?_
  refine lv_iload_n C.1.1 C.1.2.1 dX11_sitter_1 rfl (lv_at hl 1 rfl) ?_
  obtain ⟨r1, hc2, h⟩ := bd1_some h
  refine w_callVi (k := 1) (As := [.int a1]) (rest := []) C hW (c_X11_isSitter g l  hc2) (by decide) rfl (EX_11 (by decide)) K_X11_115 (by decide +kernel) ⟨by decide, by decide⟩ ⟨Nat.le_refl _, Nat.le_refl _⟩ rfl hl.1 rfl (Nat.le_of_ble_eq_true rfl) dX11_sitter_2 (fun H locs hW => ?_)
  refine lv_if_eq (tgt := 20) C.1.1 C.1.2.1 dX11_sitter_5 (by decide) (fun hc3 => ?_) (fun hc3 => ?_)
  · replace h := ite_t hc3 h
    refine lv_iconst (v := -1) C.1.1 C.1.2.1 dX11_sitter_20 (by decide) ?_
    obtain rfl := inj1 h
    subst hQ
    exact w_iret C hW hr hlocks dX11_sitter_21
  · replace h := ite_f hc3 h
    refine lv_iload_n C.1.1 C.1.2.1 dX11_sitter_8 rfl (lv_at hl 2 rfl) ?_
    refine lv_i2l C.1.1 C.1.2.1 dX11_sitter_9 rfl ?_
    refine lv_lconst (v := 0) C.1.1 C.1.2.1 dX11_sitter_10 (by decide) ?_
    refine lv_ldc2 C.1.1 C.1.2.1 C.1.2.2.2.1 (C.1.2.2.2.2 _ kl_X11_118) dX11_sitter_11 ?_
    obtain ⟨r4, hc5, h⟩ := bd1_some h
    refine w_callSi (k := 3) (As := [.long a2.toInt64, .long (0 : Int64), .long (10 : Int64)]) (rest := []) C hW (c_X11_in g l  hc5 I L) K_X11_42 (by decide +kernel) ⟨by decide, by decide⟩ ⟨Nat.le_refl _, Nat.le_refl _⟩ rfl hl.1 rfl (Nat.le_of_ble_eq_true rfl) dX11_sitter_14 (fun H locs hW => ?_)
    refine lv_if_ne (tgt := 22) C.1.1 C.1.2.1 dX11_sitter_17 (by decide) (fun hc6 => ?_) (fun hc6 => ?_)
    · replace h := ite_f hc6 h
      refine lv_aload_n C.1.1 C.1.2.1 dX11_sitter_22 rfl (lv_at hl 0 rfl) ?_
      refine G_X11_7 C hW (by decide) dX11_sitter_23 ?_
      refine lv_bipush (v := 7) C.1.1 C.1.2.1 dX11_sitter_26 (by decide) ?_
      refine lv_bipush (v := 6) C.1.1 C.1.2.1 dX11_sitter_28 (by decide) ?_
      refine lv_iload_n C.1.1 C.1.2.1 dX11_sitter_30 rfl (lv_at hl 2 rfl) ?_
      refine lv_imul C.1.1 C.1.2.1 dX11_sitter_31 ?_
      refine lv_iadd C.1.1 C.1.2.1 dX11_sitter_32 ?_
      refine lv_iload_n C.1.1 C.1.2.1 dX11_sitter_33 rfl (lv_at hl 1 rfl) ?_
      refine lv_iadd C.1.1 C.1.2.1 dX11_sitter_34 ?_
      obtain ⟨hi7, h⟩ := gi_some h
      refine w_iald C hW (n := 1752) (by decide) (by decide) hi7 dX11_sitter_35 ?_
      refine lv_topi (fun x8 ex8 => ?_)
      replace h := nm_at ex8 h
      clear ex8
      refine lv_istore_n (lv' := [(3, .int x8), (0, .ref (g.1 + 244)), (1, .int a1), (2, .int a2)]) C.1.1 C.1.2.1 dX11_sitter_36 rfl hl (by decide) rfl (fun ls hl => ?_)
      refine lv_iload_n C.1.1 C.1.2.1 dX11_sitter_37 rfl (lv_at hl 3 rfl) ?_
      refine lv_bipush (v := 10) C.1.1 C.1.2.1 dX11_sitter_38 (by decide) ?_
      obtain ⟨y9, hj11, h⟩ := bd1_some h
      have kJ10 : ∀ (H : Heap) (locs : List Loc) (ls : Array Slot), Ws g s I L H locs → lv_has ls 4 [] → W p l e (rmD 2) s m args below meth c H locs 0 0 Q (F0 m 53 ls [.int y9]) := by
        intro H locs ls hW hl
        obtain rfl := inj1 h
        subst hQ
        exact w_iret C hW hr hlocks dX11_sitter_53
      clear h
      have h := hj11
      clear hj11
      refine lv_icmp_ne (tgt := 52) C.1.1 C.1.2.1 dX11_sitter_40 (by decide) (fun hc12 => ?_) (fun hc12 => ?_)
      · replace h := ite_f hc12 h
        refine lv_iload_n C.1.1 C.1.2.1 dX11_sitter_52 rfl (lv_at hl 0 rfl) ?_
        obtain rfl := inj1 h
        exact kJ10 _ _ _ hW (lv_sub hl [] rfl)
      · replace h := ite_t hc12 h
        refine lv_iload_n C.1.1 C.1.2.1 dX11_sitter_43 rfl (lv_at hl 0 rfl) ?_
        refine lv_if_ge (tgt := 52) C.1.1 C.1.2.1 dX11_sitter_44 (by decide) (fun hc13 => ?_) (fun hc13 => ?_)
        · replace h := ite_t hc13 h
          refine lv_iload_n C.1.1 C.1.2.1 dX11_sitter_52 rfl (lv_at hl 0 rfl) ?_
          obtain rfl := inj1 h
          exact kJ10 _ _ _ hW (lv_sub hl [] rfl)
        · replace h := ite_f hc13 h
          refine lv_bipush (v := -4) C.1.1 C.1.2.1 dX11_sitter_47 (by decide) ?_
          refine lv_goto (tgt := 53) C.1.1 C.1.2.1 dX11_sitter_49 (by decide) ?_
          obtain rfl := inj1 h
          exact kJ10 _ _ _ hW (lv_sub hl [] rfl)
    · replace h := ite_t hc6 h
      refine lv_iconst (v := -1) C.1.1 C.1.2.1 dX11_sitter_20 (by decide) ?_
      obtain rfl := inj1 h
      subst hQ
      exact w_iret C hW hr hlocks dX11_sitter_21
def f_X11_growth (a1 : Int32) (a2 : Int32) (I : MI) (L : ML) : Option (Int32) :=
  bd1 (f_X11_isSitter a1 I L) (fun r1 => bd1 ((if r1 = 0 then some (-1 : Int32) else bd1 (f_X11_in a2.toInt64 (0 : Int64) (2 : Int64)) (fun r7 => (if r7 = 0 then some (-1 : Int32) else bd1 (f_X11_growthIn (0 : Int32) a1 a2 I L) (fun r10 => some r10))))) (fun y3 => some y3))
set_option maxHeartbeats 4000000 in
set_option maxRecDepth 100000 in
theorem c_X11_growth (g : Gp) (l : Launch) {a1 : Int32} {a2 : Int32}  {I : MI} {L : ML} {r : Int32} (h : f_X11_growth a1 a2 I L = some r) : MetI g l yX11_growth cX11_growth 3 .int 2 [.ref (g.1 + 244), .int a1, .int a2] I L r I L := by
  unfold f_X11_growth at h
  refine w_enter (by decide) (Nat.le_of_ble_eq_true rfl) (own := RX11) rfl ?_
  intro p e s m below meth c args Q hQ C hr hlocks hW ls hl
  have hl : lv_has ls 3 [(0, .ref (g.1 + 244)), (1, .int a1), (2, .int a2)] := hl
  refine lv_aload_n C.1.1 C.1.2.1 dX11_growth_0 rfl (lv_at hl 0 rfl) ?_
  refine lv_iload_n C.1.1 C.1.2.1 dX11_growth_1 rfl (lv_at hl 1 rfl) ?_
  obtain ⟨r1, hc2, h⟩ := bd1_some h
  refine w_callVi (k := 1) (As := [.int a1]) (rest := []) C hW (c_X11_isSitter g l  hc2) (by decide) rfl (EX_11 (by decide)) K_X11_115 (by decide +kernel) ⟨by decide, by decide⟩ ⟨Nat.le_refl _, Nat.le_refl _⟩ rfl hl.1 rfl (Nat.le_of_ble_eq_true rfl) dX11_growth_2 (fun H locs hW => ?_)
  obtain ⟨y3, hj5, h⟩ := bd1_some h
  have kJ4 : ∀ (H : Heap) (locs : List Loc) (ls : Array Slot), Ws g s I L H locs → lv_has ls 3 [] → W p l e (rmD 2) s m args below meth c H locs 0 0 Q (F0 m 31 ls [.int y3]) := by
    intro H locs ls hW hl
    obtain rfl := inj1 h
    subst hQ
    exact w_iret C hW hr hlocks dX11_growth_31
  clear h
  have h := hj5
  clear hj5
  refine lv_if_eq (tgt := 30) C.1.1 C.1.2.1 dX11_growth_5 (by decide) (fun hc6 => ?_) (fun hc6 => ?_)
  · replace h := ite_t hc6 h
    refine lv_iconst (v := -1) C.1.1 C.1.2.1 dX11_growth_30 (by decide) ?_
    obtain rfl := inj1 h
    exact kJ4 _ _ _ hW (lv_sub hl [] rfl)
  · replace h := ite_f hc6 h
    refine lv_iload_n C.1.1 C.1.2.1 dX11_growth_8 rfl (lv_at hl 2 rfl) ?_
    refine lv_i2l C.1.1 C.1.2.1 dX11_growth_9 rfl ?_
    refine lv_lconst (v := 0) C.1.1 C.1.2.1 dX11_growth_10 (by decide) ?_
    refine lv_ldc2 C.1.1 C.1.2.1 C.1.2.2.2.1 (C.1.2.2.2.2 _ kl_X11_120) dX11_growth_11 ?_
    obtain ⟨r7, hc8, h⟩ := bd1_some h
    refine w_callSi (k := 3) (As := [.long a2.toInt64, .long (0 : Int64), .long (2 : Int64)]) (rest := []) C hW (c_X11_in g l  hc8 I L) K_X11_42 (by decide +kernel) ⟨by decide, by decide⟩ ⟨Nat.le_refl _, Nat.le_refl _⟩ rfl hl.1 rfl (Nat.le_of_ble_eq_true rfl) dX11_growth_14 (fun H locs hW => ?_)
    refine lv_if_eq (tgt := 30) C.1.1 C.1.2.1 dX11_growth_17 (by decide) (fun hc9 => ?_) (fun hc9 => ?_)
    · replace h := ite_t hc9 h
      refine lv_iconst (v := -1) C.1.1 C.1.2.1 dX11_growth_30 (by decide) ?_
      obtain rfl := inj1 h
      exact kJ4 _ _ _ hW (lv_sub hl [] rfl)
    · replace h := ite_f hc9 h
      refine lv_aload_n C.1.1 C.1.2.1 dX11_growth_20 rfl (lv_at hl 0 rfl) ?_
      refine lv_iconst (v := 0) C.1.1 C.1.2.1 dX11_growth_21 (by decide) ?_
      refine lv_iload_n C.1.1 C.1.2.1 dX11_growth_22 rfl (lv_at hl 1 rfl) ?_
      refine lv_iload_n C.1.1 C.1.2.1 dX11_growth_23 rfl (lv_at hl 2 rfl) ?_
      obtain ⟨r10, hc11, h⟩ := bd1_some h
      refine w_callVi (k := 3) (As := [.int (0 : Int32), .int a1, .int a2]) (rest := []) C hW (c_X11_growthIn g l  hc11) (by decide) rfl (EX_11 (by decide)) K_X11_104 (by decide +kernel) ⟨by decide, by decide⟩ ⟨Nat.le_refl _, Nat.le_refl _⟩ rfl hl.1 rfl (Nat.le_of_ble_eq_true rfl) dX11_growth_24 (fun H locs hW => ?_)
      refine lv_goto (tgt := 31) C.1.1 C.1.2.1 dX11_growth_27 (by decide) ?_
      obtain rfl := inj1 h
      exact kJ4 _ _ _ hW (lv_sub hl [] rfl)
def f_X11_as (a1 : Int32) (a2 : Int32) (I : MI) (L : ML) : Option (Int32) :=
  bd1 (f_X11_isSitter a1 I L) (fun r1 => (if r1 = 0 then some (-1 : Int32) else bd1 (f_X11_in a2.toInt64 (0 : Int64) (5 : Int64)) (fun r4 => (if r4 = 0 then some (-1 : Int32) else gi ((7 : Int32) + a1) 1752 (nm (I 245 ((7 : Int32) + a1).toNatClampNeg) (fun x8 => bd1 ((if a2 = 0 then some (1 : Int32) else (if a2 = x8 then some (1 : Int32) else (if a2 = (1 : Int32) then (if x8 < (4 : Int32) then some (1 : Int32) else (if a2 = (4 : Int32) then (if x8 = (5 : Int32) then some (1 : Int32) else some (0 : Int32)) else some (0 : Int32))) else (if a2 = (4 : Int32) then (if x8 = (5 : Int32) then some (1 : Int32) else some (0 : Int32)) else some (0 : Int32)))))) (fun y9 => bd1 ((if y9 = 0 then some (-12 : Int32) else some a1)) (fun y12 => some y12))))))))
set_option maxHeartbeats 4000000 in
set_option maxRecDepth 100000 in
theorem c_X11_as (g : Gp) (l : Launch) {a1 : Int32} {a2 : Int32}  {I : MI} {L : ML} {r : Int32} (h : f_X11_as a1 a2 I L = some r) : MetI g l yX11_as cX11_as 5 .int 2 [.ref (g.1 + 244), .int a1, .int a2] I L r I L := by
  unfold f_X11_as at h
  refine w_enter (by decide) (Nat.le_of_ble_eq_true rfl) (own := RX11) rfl ?_
  intro p e s m below meth c args Q hQ C hr hlocks hW ls hl
  have hl : lv_has ls 5 [(0, .ref (g.1 + 244)), (1, .int a1), (2, .int a2)] := hl
  refine lv_aload_n C.1.1 C.1.2.1 dX11_as_0 rfl (lv_at hl 0 rfl) ?_
  refine lv_iload_n C.1.1 C.1.2.1 dX11_as_1 rfl (lv_at hl 1 rfl) ?_
  obtain ⟨r1, hc2, h⟩ := bd1_some h
  refine w_callVi (k := 1) (As := [.int a1]) (rest := []) C hW (c_X11_isSitter g l  hc2) (by decide) rfl (EX_11 (by decide)) K_X11_115 (by decide +kernel) ⟨by decide, by decide⟩ ⟨Nat.le_refl _, Nat.le_refl _⟩ rfl hl.1 rfl (Nat.le_of_ble_eq_true rfl) dX11_as_2 (fun H locs hW => ?_)
  refine lv_if_eq (tgt := 20) C.1.1 C.1.2.1 dX11_as_5 (by decide) (fun hc3 => ?_) (fun hc3 => ?_)
  · replace h := ite_t hc3 h
    refine lv_iconst (v := -1) C.1.1 C.1.2.1 dX11_as_20 (by decide) ?_
    obtain rfl := inj1 h
    subst hQ
    exact w_iret C hW hr hlocks dX11_as_21
  · replace h := ite_f hc3 h
    refine lv_iload_n C.1.1 C.1.2.1 dX11_as_8 rfl (lv_at hl 2 rfl) ?_
    refine lv_i2l C.1.1 C.1.2.1 dX11_as_9 rfl ?_
    refine lv_lconst (v := 0) C.1.1 C.1.2.1 dX11_as_10 (by decide) ?_
    refine lv_ldc2 C.1.1 C.1.2.1 C.1.2.2.2.1 (C.1.2.2.2.2 _ kl_X11_122) dX11_as_11 ?_
    obtain ⟨r4, hc5, h⟩ := bd1_some h
    refine w_callSi (k := 3) (As := [.long a2.toInt64, .long (0 : Int64), .long (5 : Int64)]) (rest := []) C hW (c_X11_in g l  hc5 I L) K_X11_42 (by decide +kernel) ⟨by decide, by decide⟩ ⟨Nat.le_refl _, Nat.le_refl _⟩ rfl hl.1 rfl (Nat.le_of_ble_eq_true rfl) dX11_as_14 (fun H locs hW => ?_)
    refine lv_if_ne (tgt := 22) C.1.1 C.1.2.1 dX11_as_17 (by decide) (fun hc6 => ?_) (fun hc6 => ?_)
    · replace h := ite_f hc6 h
      refine lv_aload_n C.1.1 C.1.2.1 dX11_as_22 rfl (lv_at hl 0 rfl) ?_
      refine G_X11_7 C hW (by decide) dX11_as_23 ?_
      refine lv_bipush (v := 7) C.1.1 C.1.2.1 dX11_as_26 (by decide) ?_
      refine lv_iload_n C.1.1 C.1.2.1 dX11_as_28 rfl (lv_at hl 1 rfl) ?_
      refine lv_iadd C.1.1 C.1.2.1 dX11_as_29 ?_
      obtain ⟨hi7, h⟩ := gi_some h
      refine w_iald C hW (n := 1752) (by decide) (by decide) hi7 dX11_as_30 ?_
      refine lv_topi (fun x8 ex8 => ?_)
      replace h := nm_at ex8 h
      clear ex8
      refine lv_istore_n (lv' := [(3, .int x8), (0, .ref (g.1 + 244)), (1, .int a1), (2, .int a2)]) C.1.1 C.1.2.1 dX11_as_31 rfl hl (by decide) rfl (fun ls hl => ?_)
      refine lv_iload_n C.1.1 C.1.2.1 dX11_as_32 rfl (lv_at hl 3 rfl) ?_
      obtain ⟨y9, hj11, h⟩ := bd1_some h
      have kJ10 : ∀ (H : Heap) (locs : List Loc) (ls : Array Slot), Ws g s I L H locs → lv_has ls 5 [(1, .int a1)] → W p l e (rmD 2) s m args below meth c H locs 0 0 Q (F0 m 66 ls [.int y9]) := by
        intro H locs ls hW hl
        refine lv_istore (lv' := [(4, .int y9), (1, .int a1)]) C.1.1 C.1.2.1 dX11_as_66 hl (by decide) rfl (fun ls hl => ?_)
        refine lv_iload C.1.1 C.1.2.1 dX11_as_68 (lv_at hl 0 rfl) ?_
        obtain ⟨y12, hj14, h⟩ := bd1_some h
        have kJ13 : ∀ (H : Heap) (locs : List Loc) (ls : Array Slot), Ws g s I L H locs → lv_has ls 5 [] → W p l e (rmD 2) s m args below meth c H locs 0 0 Q (F0 m 79 ls [.int y12]) := by
          intro H locs ls hW hl
          obtain rfl := inj1 h
          subst hQ
          exact w_iret C hW hr hlocks dX11_as_79
        clear h
        have h := hj14
        clear hj14
        refine lv_if_eq (tgt := 77) C.1.1 C.1.2.1 dX11_as_70 (by decide) (fun hc15 => ?_) (fun hc15 => ?_)
        · replace h := ite_t hc15 h
          refine lv_bipush (v := -12) C.1.1 C.1.2.1 dX11_as_77 (by decide) ?_
          obtain rfl := inj1 h
          exact kJ13 _ _ _ hW (lv_sub hl [] rfl)
        · replace h := ite_f hc15 h
          refine lv_iload_n C.1.1 C.1.2.1 dX11_as_73 rfl (lv_at hl 1 rfl) ?_
          refine lv_goto (tgt := 79) C.1.1 C.1.2.1 dX11_as_74 (by decide) ?_
          obtain rfl := inj1 h
          exact kJ13 _ _ _ hW (lv_sub hl [] rfl)
      clear h
      have h := hj11
      clear hj11
      refine lv_if_eq (tgt := 61) C.1.1 C.1.2.1 dX11_as_33 (by decide) (fun hc16 => ?_) (fun hc16 => ?_)
      · replace h := ite_t hc16 h
        refine lv_iconst (v := 1) C.1.1 C.1.2.1 dX11_as_61 (by decide) ?_
        refine lv_goto (tgt := 66) C.1.1 C.1.2.1 dX11_as_62 (by decide) ?_
        obtain rfl := inj1 h
        exact kJ10 _ _ _ hW (lv_sub hl [2] rfl)
      · replace h := ite_f hc16 h
        refine lv_iload_n C.1.1 C.1.2.1 dX11_as_36 rfl (lv_at hl 3 rfl) ?_
        refine lv_iload_n C.1.1 C.1.2.1 dX11_as_37 rfl (lv_at hl 0 rfl) ?_
        refine lv_icmp_eq (tgt := 61) C.1.1 C.1.2.1 dX11_as_38 (by decide) (fun hc17 => ?_) (fun hc17 => ?_)
        · replace h := ite_t hc17 h
          refine lv_iconst (v := 1) C.1.1 C.1.2.1 dX11_as_61 (by decide) ?_
          refine lv_goto (tgt := 66) C.1.1 C.1.2.1 dX11_as_62 (by decide) ?_
          obtain rfl := inj1 h
          exact kJ10 _ _ _ hW (lv_sub hl [2] rfl)
        · replace h := ite_f hc17 h
          refine lv_iload_n C.1.1 C.1.2.1 dX11_as_41 rfl (lv_at hl 3 rfl) ?_
          refine lv_iconst (v := 1) C.1.1 C.1.2.1 dX11_as_42 (by decide) ?_
          refine lv_icmp_ne (tgt := 51) C.1.1 C.1.2.1 dX11_as_43 (by decide) (fun hc18 => ?_) (fun hc18 => ?_)
          · replace h := ite_f hc18 h
            refine lv_iload_n C.1.1 C.1.2.1 dX11_as_51 rfl (lv_at hl 3 rfl) ?_
            refine lv_iconst (v := 4) C.1.1 C.1.2.1 dX11_as_52 (by decide) ?_
            refine lv_icmp_ne (tgt := 65) C.1.1 C.1.2.1 dX11_as_53 (by decide) (fun hc19 => ?_) (fun hc19 => ?_)
            · replace h := ite_f hc19 h
              refine lv_iconst (v := 0) C.1.1 C.1.2.1 dX11_as_65 (by decide) ?_
              obtain rfl := inj1 h
              exact kJ10 _ _ _ hW (lv_sub hl [2] rfl)
            · replace h := ite_t hc19 h
              refine lv_iload_n C.1.1 C.1.2.1 dX11_as_56 rfl (lv_at hl 0 rfl) ?_
              refine lv_iconst (v := 5) C.1.1 C.1.2.1 dX11_as_57 (by decide) ?_
              refine lv_icmp_ne (tgt := 65) C.1.1 C.1.2.1 dX11_as_58 (by decide) (fun hc20 => ?_) (fun hc20 => ?_)
              · replace h := ite_f hc20 h
                refine lv_iconst (v := 0) C.1.1 C.1.2.1 dX11_as_65 (by decide) ?_
                obtain rfl := inj1 h
                exact kJ10 _ _ _ hW (lv_sub hl [2] rfl)
              · replace h := ite_t hc20 h
                refine lv_iconst (v := 1) C.1.1 C.1.2.1 dX11_as_61 (by decide) ?_
                refine lv_goto (tgt := 66) C.1.1 C.1.2.1 dX11_as_62 (by decide) ?_
                obtain rfl := inj1 h
                exact kJ10 _ _ _ hW (lv_sub hl [2] rfl)
          · replace h := ite_t hc18 h
            refine lv_iload_n C.1.1 C.1.2.1 dX11_as_46 rfl (lv_at hl 0 rfl) ?_
            refine lv_iconst (v := 4) C.1.1 C.1.2.1 dX11_as_47 (by decide) ?_
            refine lv_icmp_lt (tgt := 61) C.1.1 C.1.2.1 dX11_as_48 (by decide) (fun hc21 => ?_) (fun hc21 => ?_)
            · replace h := ite_t hc21 h
              refine lv_iconst (v := 1) C.1.1 C.1.2.1 dX11_as_61 (by decide) ?_
              refine lv_goto (tgt := 66) C.1.1 C.1.2.1 dX11_as_62 (by decide) ?_
              obtain rfl := inj1 h
              exact kJ10 _ _ _ hW (lv_sub hl [2] rfl)
            · replace h := ite_f hc21 h
              refine lv_iload_n C.1.1 C.1.2.1 dX11_as_51 rfl (lv_at hl 3 rfl) ?_
              refine lv_iconst (v := 4) C.1.1 C.1.2.1 dX11_as_52 (by decide) ?_
              refine lv_icmp_ne (tgt := 65) C.1.1 C.1.2.1 dX11_as_53 (by decide) (fun hc22 => ?_) (fun hc22 => ?_)
              · replace h := ite_f hc22 h
                refine lv_iconst (v := 0) C.1.1 C.1.2.1 dX11_as_65 (by decide) ?_
                obtain rfl := inj1 h
                exact kJ10 _ _ _ hW (lv_sub hl [2] rfl)
              · replace h := ite_t hc22 h
                refine lv_iload_n C.1.1 C.1.2.1 dX11_as_56 rfl (lv_at hl 0 rfl) ?_
                refine lv_iconst (v := 5) C.1.1 C.1.2.1 dX11_as_57 (by decide) ?_
                refine lv_icmp_ne (tgt := 65) C.1.1 C.1.2.1 dX11_as_58 (by decide) (fun hc23 => ?_) (fun hc23 => ?_)
                · replace h := ite_f hc23 h
                  refine lv_iconst (v := 0) C.1.1 C.1.2.1 dX11_as_65 (by decide) ?_
                  obtain rfl := inj1 h
                  exact kJ10 _ _ _ hW (lv_sub hl [2] rfl)
                · replace h := ite_t hc23 h
                  refine lv_iconst (v := 1) C.1.1 C.1.2.1 dX11_as_61 (by decide) ?_
                  refine lv_goto (tgt := 66) C.1.1 C.1.2.1 dX11_as_62 (by decide) ?_
                  obtain rfl := inj1 h
                  exact kJ10 _ _ _ hW (lv_sub hl [2] rfl)
    · replace h := ite_t hc6 h
      refine lv_iconst (v := -1) C.1.1 C.1.2.1 dX11_as_20 (by decide) ?_
      obtain rfl := inj1 h
      subst hQ
      exact w_iret C hW hr hlocks dX11_as_21
def b_X11_minds_11  (L : ML) (z1 : Int32) (I : MI) : Option ((Int32 × MI) ⊕ ((MI))) :=
  (if (1387 : Int32) ≤ z1 then some (Sum.inr I) else gi (((292 : Int32) + z1) + (73 : Int32)) 1752 (gi ((292 : Int32) + z1) 1752 (nm (up2 I 245 (((292 : Int32) + z1).toNatClampNeg) (I 245 (((292 : Int32) + z1) + (73 : Int32)).toNatClampNeg)) (fun I11 => nm (z1 + (1 : Int32)) (fun x12 => some (Sum.inl (x12, I11)))))))
set_option maxHeartbeats 4000000 in
set_option maxRecDepth 100000 in
theorem l_X11_minds_11 {g : Gp} {p : Program} {l : Launch} {e : Env} {s : State} {m : MethodId} {args : Array Value} {below : List Frame} {meth : Method} {c : Code} {Q : State → Prop}  (C : Cx g p s m args c RX11 cX11_minds 2)   (L : ML) : ∀ (n : Nat) (z1 : Int32) (I : MI) (Iy0 : MI), lp (fun s => b_X11_minds_11  L s.1 s.2) n (z1, I) = some Iy0 → ∀ (H : Heap) (locs : List Loc) (ls : Array Slot), Ws g s I L H locs → lv_has ls 2 [(0, .ref (g.1 + 244)), (1, .int z1)] → (∀ (H : Heap) (locs : List Loc) (ls : Array Slot), Ws g s Iy0 L H locs → lv_has ls 2 [(0, .ref (g.1 + 244))] → W p l e (rmD 1) s m args below meth c H locs 0 0 Q (F0 m 47 ls [])) → W p l e (rmD 1) s m args below meth c H locs 0 0 Q (F0 m 11 ls []) := by
  intro n
  induction n with
  | zero => intro z1 I Iy0 h; exact lp_zero h
  | succ n ih =>
      intro z1 I Iy0 h H locs ls hW hl hx0
      obtain ⟨r9, h, h9⟩ := lp_some h
      have h : b_X11_minds_11  L z1 I = some r9 := h
      unfold b_X11_minds_11 at h
      refine lv_iload_n C.1.1 C.1.2.1 dX11_minds_11 rfl (lv_at hl 1 rfl) ?_
      refine lv_sipush (v := 1387) C.1.1 C.1.2.1 dX11_minds_12 (by decide) ?_
      refine lv_icmp_ge (tgt := 47) C.1.1 C.1.2.1 dX11_minds_15 (by decide) (fun hc8 => ?_) (fun hc8 => ?_)
      · replace h := ite_t hc8 h
        obtain rfl := Option.some.inj h
        replace h9 := Option.some.inj h9
        obtain rfl := pnj1 h9
        exact hx0 _ _ _ hW (lv_sub hl [0] rfl)
      · replace h := ite_f hc8 h
        refine lv_aload_n C.1.1 C.1.2.1 dX11_minds_18 rfl (lv_at hl 0 rfl) ?_
        refine G_X11_7 C hW (by decide) dX11_minds_19 ?_
        refine lv_sipush (v := 292) C.1.1 C.1.2.1 dX11_minds_22 (by decide) ?_
        refine lv_iload_n C.1.1 C.1.2.1 dX11_minds_25 rfl (lv_at hl 1 rfl) ?_
        refine lv_iadd C.1.1 C.1.2.1 dX11_minds_26 ?_
        refine lv_aload_n C.1.1 C.1.2.1 dX11_minds_27 rfl (lv_at hl 0 rfl) ?_
        refine G_X11_7 C hW (by decide) dX11_minds_28 ?_
        refine lv_sipush (v := 292) C.1.1 C.1.2.1 dX11_minds_31 (by decide) ?_
        refine lv_iload_n C.1.1 C.1.2.1 dX11_minds_34 rfl (lv_at hl 1 rfl) ?_
        refine lv_iadd C.1.1 C.1.2.1 dX11_minds_35 ?_
        refine lv_bipush (v := 73) C.1.1 C.1.2.1 dX11_minds_36 (by decide) ?_
        refine lv_iadd C.1.1 C.1.2.1 dX11_minds_38 ?_
        obtain ⟨hi9, h⟩ := gi_some h
        refine w_iald C hW (n := 1752) (by decide) (by decide) hi9 dX11_minds_39 ?_
        obtain ⟨hi10, h⟩ := gi_some h
        refine w_iast C hW (n := 1752) (by decide) (by decide) hi10 dX11_minds_40 (fun H locs hW => ?_)
        obtain ⟨I11, eI11, h⟩ := nm_some h
        rw [← eI11] at hW
        clear eI11
        obtain ⟨x12, ex12⟩ : ∃ y : Int32, y = z1 + (1 : Int32) := ⟨_, rfl⟩
        replace h := nm_at ex12 h
        refine lv_iinc (v := x12) (lv' := [(1, .int x12), (0, .ref (g.1 + 244))]) C.1.1 C.1.2.1 dX11_minds_41 hl (k := 1) rfl (by rw [ex12]; rfl) (by decide) rfl (fun ls hl => ?_)
        clear ex12
        refine lv_goto (tgt := 11) C.1.1 C.1.2.1 dX11_minds_44 (by decide) ?_
        obtain rfl := Option.some.inj h
        exact ih _ _ _ h9 _ _ _ hW (lv_sub hl [1, 0] rfl) hx0
def f_X11_minds  (I : MI) (L : ML) : Option (MI) :=
  bd1 ((if (I 244 2) = (20 : Int32) then bd1 (lp (fun s => b_X11_minds_11  L s.1 s.2) FU (((0 : Int32), I))) (fun I14 => nm (up2 I14 244 2 ((I14 244 2) - (1 : Int32))) (fun I15 => some I15)) else some I)) (fun I1 => bd1 (f_X11_copyRow (0 : Int32) ((292 : Int32) + ((73 : Int32) * (I1 244 2))) I1 L) (fun I4 => nm (up2 I4 244 2 ((I4 244 2) + (1 : Int32))) (fun I6 => some I6)))
set_option maxHeartbeats 4000000 in
set_option maxRecDepth 100000 in
theorem c_X11_minds (g : Gp) (l : Launch)   {I : MI} {L : ML} {I' : MI} (h : f_X11_minds  I L = some I') : MetV g l yX11_minds cX11_minds 2 1 [.ref (g.1 + 244)] I L I' L := by
  unfold f_X11_minds at h
  refine w_enter (by decide) (Nat.le_of_ble_eq_true rfl) (own := RX11) rfl ?_
  intro p e s m below meth c args Q hQ C hr hlocks hW ls hl
  have hl : lv_has ls 2 [(0, .ref (g.1 + 244))] := hl
  refine lv_aload_n C.1.1 C.1.2.1 dX11_minds_0 rfl (lv_at hl 0 rfl) ?_
  refine G_X11_94 C hW (by decide) dX11_minds_1 ?_
  refine lv_bipush (v := 20) C.1.1 C.1.2.1 dX11_minds_4 (by decide) ?_
  obtain ⟨I1, hj3, h⟩ := bd1_some h
  have kJ2 : ∀ (H : Heap) (locs : List Loc) (ls : Array Slot), Ws g s I1 L H locs → lv_has ls 2 [(0, .ref (g.1 + 244))] → W p l e (rmD 1) s m args below meth c H locs 0 0 Q (F0 m 57 ls []) := by
    intro H locs ls hW hl
    refine lv_aload_n C.1.1 C.1.2.1 dX11_minds_57 rfl (lv_at hl 0 rfl) ?_
    refine lv_iconst (v := 0) C.1.1 C.1.2.1 dX11_minds_58 (by decide) ?_
    refine lv_sipush (v := 292) C.1.1 C.1.2.1 dX11_minds_59 (by decide) ?_
    refine lv_bipush (v := 73) C.1.1 C.1.2.1 dX11_minds_62 (by decide) ?_
    refine lv_aload_n C.1.1 C.1.2.1 dX11_minds_64 rfl (lv_at hl 0 rfl) ?_
    refine G_X11_94 C hW (by decide) dX11_minds_65 ?_
    refine lv_imul C.1.1 C.1.2.1 dX11_minds_68 ?_
    refine lv_iadd C.1.1 C.1.2.1 dX11_minds_69 ?_
    obtain ⟨I4, hc5, h⟩ := bd1_some h
    refine w_callVv (k := 2) (As := [.int (0 : Int32), .int ((292 : Int32) + ((73 : Int32) * (I1 244 2)))]) (rest := []) C hW (c_X11_copyRow g l  hc5) (by decide) rfl (EX_11 (by decide)) K_X11_90 (by decide +kernel) ⟨by decide, by decide⟩ ⟨Nat.le_refl _, Nat.le_refl _⟩ rfl hl.1 rfl (Nat.le_of_ble_eq_true rfl) dX11_minds_70 (fun H locs hW => ?_)
    refine lv_aload_n C.1.1 C.1.2.1 dX11_minds_73 rfl (lv_at hl 0 rfl) ?_
    refine lv_dup C.1.1 C.1.2.1 dX11_minds_74 rfl ?_
    refine G_X11_94 C hW (by decide) dX11_minds_75 ?_
    refine lv_iconst (v := 1) C.1.1 C.1.2.1 dX11_minds_78 (by decide) ?_
    refine lv_iadd C.1.1 C.1.2.1 dX11_minds_79 ?_
    refine P_X11_94 C hW (by decide) dX11_minds_80 (fun H locs hW => ?_)
    obtain ⟨I6, eI6, h⟩ := nm_some h
    rw [← eI6] at hW
    clear eI6
    obtain rfl := inj1 h
    subst hQ
    exact w_vret C hW hr hlocks dX11_minds_83
  clear h
  have h := hj3
  clear hj3
  refine lv_icmp_ne (tgt := 57) C.1.1 C.1.2.1 dX11_minds_6 (by decide) (fun hc7 => ?_) (fun hc7 => ?_)
  · replace h := ite_f hc7 h
    obtain rfl := inj1 h
    exact kJ2 _ _ _ hW (lv_sub hl [0] rfl)
  · replace h := ite_t hc7 h
    refine lv_iconst (v := 0) C.1.1 C.1.2.1 dX11_minds_9 (by decide) ?_
    refine lv_istore_n (lv' := [(1, .int (0 : Int32)), (0, .ref (g.1 + 244))]) C.1.1 C.1.2.1 dX11_minds_10 rfl hl (by decide) rfl (fun ls hl => ?_)
    obtain ⟨I14, hq13, h⟩ := bd1_some h
    refine l_X11_minds_11 C   L _ _ _ _ hq13 _ _ _ hW (lv_sub hl [1, 0] rfl) (fun H locs ls hW hl => ?_)
    refine lv_aload_n C.1.1 C.1.2.1 dX11_minds_47 rfl (lv_at hl 0 rfl) ?_
    refine lv_dup C.1.1 C.1.2.1 dX11_minds_48 rfl ?_
    refine G_X11_94 C hW (by decide) dX11_minds_49 ?_
    refine lv_iconst (v := 1) C.1.1 C.1.2.1 dX11_minds_52 (by decide) ?_
    refine lv_isub C.1.1 C.1.2.1 dX11_minds_53 ?_
    refine P_X11_94 C hW (by decide) dX11_minds_54 (fun H locs hW => ?_)
    obtain ⟨I15, eI15, h⟩ := nm_some h
    rw [← eI15] at hW
    clear eI15
    obtain rfl := inj1 h
    exact kJ2 _ _ _ hW (lv_sub hl [0] rfl)
def b_X11_hours_45 (v1 : Int32) (L : ML) (z2 : Int32) (I : MI) : Option ((Int32 × MI) ⊕ ((MI))) :=
  (if v1 ≤ z2 then some (Sum.inr I) else bd1 (f_X11_minds  I L) (fun I9 => bd1 (f_X11_passes (0 : Int32) I9 L) (fun I11 => nm (z2 + (1 : Int32)) (fun x13 => some (Sum.inl (x13, I11))))))
set_option maxHeartbeats 4000000 in
set_option maxRecDepth 100000 in
theorem l_X11_hours_45 {g : Gp} {p : Program} {l : Launch} {e : Env} {s : State} {m : MethodId} {args : Array Value} {below : List Frame} {meth : Method} {c : Code} {Q : State → Prop}  (C : Cx g p s m args c RX11 cX11_hours 3) (v1 : Int32)  (L : ML) : ∀ (n : Nat) (z2 : Int32) (I : MI) (Iy0 : MI), lp (fun s => b_X11_hours_45 v1 L s.1 s.2) n (z2, I) = some Iy0 → ∀ (H : Heap) (locs : List Loc) (ls : Array Slot), Ws g s I L H locs → lv_has ls 3 [(0, .ref (g.1 + 244)), (1, .int v1), (2, .int z2)] → (∀ (H : Heap) (locs : List Loc) (ls : Array Slot), Ws g s Iy0 L H locs → lv_has ls 3 [(0, .ref (g.1 + 244))] → W p l e (rmD 4) s m args below meth c H locs 0 0 Q (F0 m 65 ls [])) → W p l e (rmD 4) s m args below meth c H locs 0 0 Q (F0 m 45 ls []) := by
  intro n
  induction n with
  | zero => intro z2 I Iy0 h; exact lp_zero h
  | succ n ih =>
      intro z2 I Iy0 h H locs ls hW hl hx0
      obtain ⟨r9, h, h9⟩ := lp_some h
      have h : b_X11_hours_45 v1 L z2 I = some r9 := h
      unfold b_X11_hours_45 at h
      refine lv_iload_n C.1.1 C.1.2.1 dX11_hours_45 rfl (lv_at hl 2 rfl) ?_
      refine lv_iload_n C.1.1 C.1.2.1 dX11_hours_46 rfl (lv_at hl 1 rfl) ?_
      refine lv_icmp_ge (tgt := 65) C.1.1 C.1.2.1 dX11_hours_47 (by decide) (fun hc8 => ?_) (fun hc8 => ?_)
      · replace h := ite_t hc8 h
        obtain rfl := Option.some.inj h
        replace h9 := Option.some.inj h9
        obtain rfl := pnj1 h9
        exact hx0 _ _ _ hW (lv_sub hl [0] rfl)
      · replace h := ite_f hc8 h
        refine lv_aload_n C.1.1 C.1.2.1 dX11_hours_50 rfl (lv_at hl 0 rfl) ?_
        obtain ⟨I9, hc10, h⟩ := bd1_some h
        refine w_callVv (k := 0) (As := []) (rest := []) C hW (c_X11_minds g l  hc10) (by decide) rfl (EX_11 (by decide)) K_X11_126 (by decide +kernel) ⟨by decide, by decide⟩ ⟨Nat.le_refl _, Nat.le_refl _⟩ rfl hl.1 rfl (Nat.le_of_ble_eq_true rfl) dX11_hours_51 (fun H locs hW => ?_)
        refine lv_aload_n C.1.1 C.1.2.1 dX11_hours_54 rfl (lv_at hl 0 rfl) ?_
        refine lv_iconst (v := 0) C.1.1 C.1.2.1 dX11_hours_55 (by decide) ?_
        obtain ⟨I11, hc12, h⟩ := bd1_some h
        refine w_callVv (k := 1) (As := [.int (0 : Int32)]) (rest := []) C hW (c_X11_passes g l  hc12) (by decide) rfl (EX_11 (by decide)) K_X11_129 (by decide +kernel) ⟨by decide, by decide⟩ ⟨Nat.le_refl _, Nat.le_refl _⟩ rfl hl.1 rfl (Nat.le_of_ble_eq_true rfl) dX11_hours_56 (fun H locs hW => ?_)
        obtain ⟨x13, ex13⟩ : ∃ y : Int32, y = z2 + (1 : Int32) := ⟨_, rfl⟩
        replace h := nm_at ex13 h
        refine lv_iinc (v := x13) (lv' := [(2, .int x13), (0, .ref (g.1 + 244)), (1, .int v1)]) C.1.1 C.1.2.1 dX11_hours_59 hl (k := 2) rfl (by rw [ex13]; rfl) (by decide) rfl (fun ls hl => ?_)
        clear ex13
        refine lv_goto (tgt := 45) C.1.1 C.1.2.1 dX11_hours_62 (by decide) ?_
        obtain rfl := Option.some.inj h
        exact ih _ _ _ h9 _ _ _ hW (lv_sub hl [1, 2, 0] rfl) hx0
def f_X11_hours (a1 : Int32) (I : MI) (L : ML) : Option (Int32 × MI) :=
  bd1 (f_X11_in a1.toInt64 (1 : Int64) (24 : Int64)) (fun r1 => (if r1 = 0 then some (((-1 : Int32), I)) else gi (0 : Int32) 1752 ((if (I 245 (0 : Int32).toNatClampNeg) = 0 then some (((-2 : Int32), I)) else gi (4 : Int32) 1752 ((if ((I 245 (4 : Int32).toNatClampNeg) + a1) ≤ (9999 : Int32) then bd1 (lp (fun s => b_X11_hours_45 a1 L s.1 s.2) FU (((0 : Int32), I))) (fun I15 => bd1 (f_X11_sittingIn (0 : Int32) I15 L) (fun r16 => some (r16, I15))) else some (((-3 : Int32), I))))))))
set_option maxHeartbeats 4000000 in
set_option maxRecDepth 100000 in
theorem c_X11_hours (g : Gp) (l : Launch) {a1 : Int32}  {I : MI} {L : ML} {r : Int32} {I' : MI} (h : f_X11_hours a1 I L = some (r, I')) : MetI g l yX11_hours cX11_hours 3 .int 4 [.ref (g.1 + 244), .int a1] I L r I' L := by
  unfold f_X11_hours at h
  refine w_enter (by decide) (Nat.le_of_ble_eq_true rfl) (own := RX11) rfl ?_
  intro p e s m below meth c args Q hQ C hr hlocks hW ls hl
  have hl : lv_has ls 3 [(0, .ref (g.1 + 244)), (1, .int a1)] := hl
  refine lv_iload_n C.1.1 C.1.2.1 dX11_hours_0 rfl (lv_at hl 1 rfl) ?_
  refine lv_i2l C.1.1 C.1.2.1 dX11_hours_1 rfl ?_
  refine lv_lconst (v := 1) C.1.1 C.1.2.1 dX11_hours_2 (by decide) ?_
  refine lv_ldc2 C.1.1 C.1.2.1 C.1.2.2.2.1 (C.1.2.2.2.2 _ kl_X11_124) dX11_hours_3 ?_
  obtain ⟨r1, hc2, h⟩ := bd1_some h
  refine w_callSi (k := 3) (As := [.long a1.toInt64, .long (1 : Int64), .long (24 : Int64)]) (rest := []) C hW (c_X11_in g l  hc2 I L) K_X11_42 (by decide +kernel) ⟨by decide, by decide⟩ ⟨Nat.le_refl _, Nat.le_refl _⟩ rfl hl.1 rfl (Nat.le_of_ble_eq_true rfl) dX11_hours_6 (fun H locs hW => ?_)
  refine lv_if_ne (tgt := 14) C.1.1 C.1.2.1 dX11_hours_9 (by decide) (fun hc3 => ?_) (fun hc3 => ?_)
  · replace h := ite_f hc3 h
    refine lv_aload_n C.1.1 C.1.2.1 dX11_hours_14 rfl (lv_at hl 0 rfl) ?_
    refine G_X11_7 C hW (by decide) dX11_hours_15 ?_
    refine lv_iconst (v := 0) C.1.1 C.1.2.1 dX11_hours_18 (by decide) ?_
    obtain ⟨hi4, h⟩ := gi_some h
    refine w_iald C hW (n := 1752) (by decide) (by decide) hi4 dX11_hours_19 ?_
    refine lv_if_ne (tgt := 26) C.1.1 C.1.2.1 dX11_hours_20 (by decide) (fun hc5 => ?_) (fun hc5 => ?_)
    · replace h := ite_f hc5 h
      refine lv_aload_n C.1.1 C.1.2.1 dX11_hours_26 rfl (lv_at hl 0 rfl) ?_
      refine G_X11_7 C hW (by decide) dX11_hours_27 ?_
      refine lv_iconst (v := 4) C.1.1 C.1.2.1 dX11_hours_30 (by decide) ?_
      obtain ⟨hi6, h⟩ := gi_some h
      refine w_iald C hW (n := 1752) (by decide) (by decide) hi6 dX11_hours_31 ?_
      refine lv_iload_n C.1.1 C.1.2.1 dX11_hours_32 rfl (lv_at hl 1 rfl) ?_
      refine lv_iadd C.1.1 C.1.2.1 dX11_hours_33 ?_
      refine lv_sipush (v := 9999) C.1.1 C.1.2.1 dX11_hours_34 (by decide) ?_
      refine lv_icmp_le (tgt := 43) C.1.1 C.1.2.1 dX11_hours_37 (by decide) (fun hc7 => ?_) (fun hc7 => ?_)
      · replace h := ite_t hc7 h
        refine lv_iconst (v := 0) C.1.1 C.1.2.1 dX11_hours_43 (by decide) ?_
        refine lv_istore_n (lv' := [(2, .int (0 : Int32)), (0, .ref (g.1 + 244)), (1, .int a1)]) C.1.1 C.1.2.1 dX11_hours_44 rfl hl (by decide) rfl (fun ls hl => ?_)
        obtain ⟨I15, hq14, h⟩ := bd1_some h
        refine l_X11_hours_45 C a1  L _ _ _ _ hq14 _ _ _ hW (lv_sub hl [1, 2, 0] rfl) (fun H locs ls hW hl => ?_)
        refine lv_aload_n C.1.1 C.1.2.1 dX11_hours_65 rfl (lv_at hl 0 rfl) ?_
        refine lv_iconst (v := 0) C.1.1 C.1.2.1 dX11_hours_66 (by decide) ?_
        obtain ⟨r16, hc17, h⟩ := bd1_some h
        refine w_callVi (k := 1) (As := [.int (0 : Int32)]) (rest := []) C hW (c_X11_sittingIn g l  hc17) (by decide) rfl (EX_11 (by decide)) K_X11_133 (by decide +kernel) ⟨by decide, by decide⟩ ⟨Nat.le_refl _, Nat.le_refl _⟩ rfl hl.1 rfl (Nat.le_of_ble_eq_true rfl) dX11_hours_67 (fun H locs hW => ?_)
        obtain ⟨rfl, rfl⟩ := inj2 h
        subst hQ
        exact w_iret C hW hr hlocks dX11_hours_70
      · replace h := ite_f hc7 h
        refine lv_bipush (v := -3) C.1.1 C.1.2.1 dX11_hours_40 (by decide) ?_
        obtain ⟨rfl, rfl⟩ := inj2 h
        subst hQ
        exact w_iret C hW hr hlocks dX11_hours_42
    · replace h := ite_t hc5 h
      refine lv_bipush (v := -2) C.1.1 C.1.2.1 dX11_hours_23 (by decide) ?_
      obtain ⟨rfl, rfl⟩ := inj2 h
      subst hQ
      exact w_iret C hW hr hlocks dX11_hours_25
  · replace h := ite_t hc3 h
    refine lv_iconst (v := -1) C.1.1 C.1.2.1 dX11_hours_12 (by decide) ?_
    obtain ⟨rfl, rfl⟩ := inj2 h
    subst hQ
    exact w_iret C hW hr hlocks dX11_hours_13
def f_X11_crust (a1 : Int32) (I : MI) (L : ML) : Option (Int32 × MI) :=
  bd1 (f_X11_isSitter a1 I L) (fun r1 => (if r1 = 0 then some (((-1 : Int32), I)) else bd1 (f_X11_isDown (0 : Int32) a1 I L) (fun r4 => (if r4 = 0 then gi ((43 : Int32) + a1) 1752 ((if (I 245 ((43 : Int32) + a1).toNatClampNeg) = 0 then some (((-2 : Int32), I)) else bd1 (f_X11_minds  I L) (fun I9 => bd1 (f_X11_eats (0 : Int32) a1 I9 L) (fun I11 => gi ((37 : Int32) + a1) 1752 (some ((I11 245 ((37 : Int32) + a1).toNatClampNeg, I11))))))) else some (((-2 : Int32), I))))))
set_option maxHeartbeats 4000000 in
set_option maxRecDepth 100000 in
theorem c_X11_crust (g : Gp) (l : Launch) {a1 : Int32}  {I : MI} {L : ML} {r : Int32} {I' : MI} (h : f_X11_crust a1 I L = some (r, I')) : MetI g l yX11_crust cX11_crust 2 .int 2 [.ref (g.1 + 244), .int a1] I L r I' L := by
  unfold f_X11_crust at h
  refine w_enter (by decide) (Nat.le_of_ble_eq_true rfl) (own := RX11) rfl ?_
  intro p e s m below meth c args Q hQ C hr hlocks hW ls hl
  have hl : lv_has ls 2 [(0, .ref (g.1 + 244)), (1, .int a1)] := hl
  refine lv_aload_n C.1.1 C.1.2.1 dX11_crust_0 rfl (lv_at hl 0 rfl) ?_
  refine lv_iload_n C.1.1 C.1.2.1 dX11_crust_1 rfl (lv_at hl 1 rfl) ?_
  obtain ⟨r1, hc2, h⟩ := bd1_some h
  refine w_callVi (k := 1) (As := [.int a1]) (rest := []) C hW (c_X11_isSitter g l  hc2) (by decide) rfl (EX_11 (by decide)) K_X11_115 (by decide +kernel) ⟨by decide, by decide⟩ ⟨Nat.le_refl _, Nat.le_refl _⟩ rfl hl.1 rfl (Nat.le_of_ble_eq_true rfl) dX11_crust_2 (fun H locs hW => ?_)
  refine lv_if_ne (tgt := 10) C.1.1 C.1.2.1 dX11_crust_5 (by decide) (fun hc3 => ?_) (fun hc3 => ?_)
  · replace h := ite_f hc3 h
    refine lv_aload_n C.1.1 C.1.2.1 dX11_crust_10 rfl (lv_at hl 0 rfl) ?_
    refine lv_iconst (v := 0) C.1.1 C.1.2.1 dX11_crust_11 (by decide) ?_
    refine lv_iload_n C.1.1 C.1.2.1 dX11_crust_12 rfl (lv_at hl 1 rfl) ?_
    obtain ⟨r4, hc5, h⟩ := bd1_some h
    refine w_callVi (k := 2) (As := [.int (0 : Int32), .int a1]) (rest := []) C hW (c_X11_isDown g l  hc5) (by decide) rfl (EX_11 (by decide)) K_X11_100 (by decide +kernel) ⟨by decide, by decide⟩ ⟨Nat.le_refl _, Nat.le_refl _⟩ rfl hl.1 rfl (Nat.le_of_ble_eq_true rfl) dX11_crust_13 (fun H locs hW => ?_)
    refine lv_if_ne (tgt := 31) C.1.1 C.1.2.1 dX11_crust_16 (by decide) (fun hc6 => ?_) (fun hc6 => ?_)
    · replace h := ite_f hc6 h
      refine lv_bipush (v := -2) C.1.1 C.1.2.1 dX11_crust_31 (by decide) ?_
      obtain ⟨rfl, rfl⟩ := inj2 h
      subst hQ
      exact w_iret C hW hr hlocks dX11_crust_33
    · replace h := ite_t hc6 h
      refine lv_aload_n C.1.1 C.1.2.1 dX11_crust_19 rfl (lv_at hl 0 rfl) ?_
      refine G_X11_7 C hW (by decide) dX11_crust_20 ?_
      refine lv_bipush (v := 43) C.1.1 C.1.2.1 dX11_crust_23 (by decide) ?_
      refine lv_iload_n C.1.1 C.1.2.1 dX11_crust_25 rfl (lv_at hl 1 rfl) ?_
      refine lv_iadd C.1.1 C.1.2.1 dX11_crust_26 ?_
      obtain ⟨hi7, h⟩ := gi_some h
      refine w_iald C hW (n := 1752) (by decide) (by decide) hi7 dX11_crust_27 ?_
      refine lv_if_ne (tgt := 34) C.1.1 C.1.2.1 dX11_crust_28 (by decide) (fun hc8 => ?_) (fun hc8 => ?_)
      · replace h := ite_f hc8 h
        refine lv_aload_n C.1.1 C.1.2.1 dX11_crust_34 rfl (lv_at hl 0 rfl) ?_
        obtain ⟨I9, hc10, h⟩ := bd1_some h
        refine w_callVv (k := 0) (As := []) (rest := []) C hW (c_X11_minds g l  hc10) (by decide) rfl (EX_11 (by decide)) K_X11_126 (by decide +kernel) ⟨by decide, by decide⟩ ⟨Nat.le_refl _, Nat.le_refl _⟩ rfl hl.1 rfl (Nat.le_of_ble_eq_true rfl) dX11_crust_35 (fun H locs hW => ?_)
        refine lv_aload_n C.1.1 C.1.2.1 dX11_crust_38 rfl (lv_at hl 0 rfl) ?_
        refine lv_iconst (v := 0) C.1.1 C.1.2.1 dX11_crust_39 (by decide) ?_
        refine lv_iload_n C.1.1 C.1.2.1 dX11_crust_40 rfl (lv_at hl 1 rfl) ?_
        obtain ⟨I11, hc12, h⟩ := bd1_some h
        refine w_callVv (k := 2) (As := [.int (0 : Int32), .int a1]) (rest := []) C hW (c_X11_eats g l  hc12) (by decide) rfl (EX_11 (by decide)) K_X11_136 (by decide +kernel) ⟨by decide, by decide⟩ ⟨Nat.le_refl _, Nat.le_refl _⟩ rfl hl.1 rfl (Nat.le_of_ble_eq_true rfl) dX11_crust_41 (fun H locs hW => ?_)
        refine lv_aload_n C.1.1 C.1.2.1 dX11_crust_44 rfl (lv_at hl 0 rfl) ?_
        refine G_X11_7 C hW (by decide) dX11_crust_45 ?_
        refine lv_bipush (v := 37) C.1.1 C.1.2.1 dX11_crust_48 (by decide) ?_
        refine lv_iload_n C.1.1 C.1.2.1 dX11_crust_50 rfl (lv_at hl 1 rfl) ?_
        refine lv_iadd C.1.1 C.1.2.1 dX11_crust_51 ?_
        obtain ⟨hi13, h⟩ := gi_some h
        refine w_iald C hW (n := 1752) (by decide) (by decide) hi13 dX11_crust_52 ?_
        obtain ⟨rfl, rfl⟩ := inj2 h
        subst hQ
        exact w_iret C hW hr hlocks dX11_crust_53
      · replace h := ite_t hc8 h
        refine lv_bipush (v := -2) C.1.1 C.1.2.1 dX11_crust_31 (by decide) ?_
        obtain ⟨rfl, rfl⟩ := inj2 h
        subst hQ
        exact w_iret C hW hr hlocks dX11_crust_33
  · replace h := ite_t hc3 h
    refine lv_iconst (v := -1) C.1.1 C.1.2.1 dX11_crust_8 (by decide) ?_
    obtain ⟨rfl, rfl⟩ := inj2 h
    subst hQ
    exact w_iret C hW hr hlocks dX11_crust_9
def f_X11_news (a1 : Int32) (a2 : Int32) (I : MI) (L : ML) : Option (Int32 × MI) :=
  bd1 (f_X11_isSitter a1 I L) (fun r1 => (if r1 = 0 then some (((-1 : Int32), I)) else bd1 (f_X11_in a2.toInt64 (0 : Int64) (2 : Int64)) (fun r4 => (if r4 = 0 then some (((-1 : Int32), I)) else bd1 (f_X11_isDown (0 : Int32) a1 I L) (fun r7 => (if r7 = 0 then bd1 (f_X11_minds  I L) (fun I10 => gi ((49 : Int32) + a1) 1752 (nm (I10 245 ((49 : Int32) + a1).toNatClampNeg) (fun x13 => gi ((49 : Int32) + a1) 1752 (nm (up2 I10 245 (((49 : Int32) + a1).toNatClampNeg) a2) (fun I15 => some (x13, I15)))))) else some (((-2 : Int32), I))))))))
set_option maxHeartbeats 4000000 in
set_option maxRecDepth 100000 in
theorem c_X11_news (g : Gp) (l : Launch) {a1 : Int32} {a2 : Int32}  {I : MI} {L : ML} {r : Int32} {I' : MI} (h : f_X11_news a1 a2 I L = some (r, I')) : MetI g l yX11_news cX11_news 4 .int 2 [.ref (g.1 + 244), .int a1, .int a2] I L r I' L := by
  unfold f_X11_news at h
  refine w_enter (by decide) (Nat.le_of_ble_eq_true rfl) (own := RX11) rfl ?_
  intro p e s m below meth c args Q hQ C hr hlocks hW ls hl
  have hl : lv_has ls 4 [(0, .ref (g.1 + 244)), (1, .int a1), (2, .int a2)] := hl
  refine lv_aload_n C.1.1 C.1.2.1 dX11_news_0 rfl (lv_at hl 0 rfl) ?_
  refine lv_iload_n C.1.1 C.1.2.1 dX11_news_1 rfl (lv_at hl 1 rfl) ?_
  obtain ⟨r1, hc2, h⟩ := bd1_some h
  refine w_callVi (k := 1) (As := [.int a1]) (rest := []) C hW (c_X11_isSitter g l  hc2) (by decide) rfl (EX_11 (by decide)) K_X11_115 (by decide +kernel) ⟨by decide, by decide⟩ ⟨Nat.le_refl _, Nat.le_refl _⟩ rfl hl.1 rfl (Nat.le_of_ble_eq_true rfl) dX11_news_2 (fun H locs hW => ?_)
  refine lv_if_eq (tgt := 20) C.1.1 C.1.2.1 dX11_news_5 (by decide) (fun hc3 => ?_) (fun hc3 => ?_)
  · replace h := ite_t hc3 h
    refine lv_iconst (v := -1) C.1.1 C.1.2.1 dX11_news_20 (by decide) ?_
    obtain ⟨rfl, rfl⟩ := inj2 h
    subst hQ
    exact w_iret C hW hr hlocks dX11_news_21
  · replace h := ite_f hc3 h
    refine lv_iload_n C.1.1 C.1.2.1 dX11_news_8 rfl (lv_at hl 2 rfl) ?_
    refine lv_i2l C.1.1 C.1.2.1 dX11_news_9 rfl ?_
    refine lv_lconst (v := 0) C.1.1 C.1.2.1 dX11_news_10 (by decide) ?_
    refine lv_ldc2 C.1.1 C.1.2.1 C.1.2.2.2.1 (C.1.2.2.2.2 _ kl_X11_120) dX11_news_11 ?_
    obtain ⟨r4, hc5, h⟩ := bd1_some h
    refine w_callSi (k := 3) (As := [.long a2.toInt64, .long (0 : Int64), .long (2 : Int64)]) (rest := []) C hW (c_X11_in g l  hc5 I L) K_X11_42 (by decide +kernel) ⟨by decide, by decide⟩ ⟨Nat.le_refl _, Nat.le_refl _⟩ rfl hl.1 rfl (Nat.le_of_ble_eq_true rfl) dX11_news_14 (fun H locs hW => ?_)
    refine lv_if_ne (tgt := 22) C.1.1 C.1.2.1 dX11_news_17 (by decide) (fun hc6 => ?_) (fun hc6 => ?_)
    · replace h := ite_f hc6 h
      refine lv_aload_n C.1.1 C.1.2.1 dX11_news_22 rfl (lv_at hl 0 rfl) ?_
      refine lv_iconst (v := 0) C.1.1 C.1.2.1 dX11_news_23 (by decide) ?_
      refine lv_iload_n C.1.1 C.1.2.1 dX11_news_24 rfl (lv_at hl 1 rfl) ?_
      obtain ⟨r7, hc8, h⟩ := bd1_some h
      refine w_callVi (k := 2) (As := [.int (0 : Int32), .int a1]) (rest := []) C hW (c_X11_isDown g l  hc8) (by decide) rfl (EX_11 (by decide)) K_X11_100 (by decide +kernel) ⟨by decide, by decide⟩ ⟨Nat.le_refl _, Nat.le_refl _⟩ rfl hl.1 rfl (Nat.le_of_ble_eq_true rfl) dX11_news_25 (fun H locs hW => ?_)
      refine lv_if_eq (tgt := 34) C.1.1 C.1.2.1 dX11_news_28 (by decide) (fun hc9 => ?_) (fun hc9 => ?_)
      · replace h := ite_t hc9 h
        refine lv_aload_n C.1.1 C.1.2.1 dX11_news_34 rfl (lv_at hl 0 rfl) ?_
        obtain ⟨I10, hc11, h⟩ := bd1_some h
        refine w_callVv (k := 0) (As := []) (rest := []) C hW (c_X11_minds g l  hc11) (by decide) rfl (EX_11 (by decide)) K_X11_126 (by decide +kernel) ⟨by decide, by decide⟩ ⟨Nat.le_refl _, Nat.le_refl _⟩ rfl hl.1 rfl (Nat.le_of_ble_eq_true rfl) dX11_news_35 (fun H locs hW => ?_)
        refine lv_aload_n C.1.1 C.1.2.1 dX11_news_38 rfl (lv_at hl 0 rfl) ?_
        refine G_X11_7 C hW (by decide) dX11_news_39 ?_
        refine lv_bipush (v := 49) C.1.1 C.1.2.1 dX11_news_42 (by decide) ?_
        refine lv_iload_n C.1.1 C.1.2.1 dX11_news_44 rfl (lv_at hl 1 rfl) ?_
        refine lv_iadd C.1.1 C.1.2.1 dX11_news_45 ?_
        obtain ⟨hi12, h⟩ := gi_some h
        refine w_iald C hW (n := 1752) (by decide) (by decide) hi12 dX11_news_46 ?_
        refine lv_topi (fun x13 ex13 => ?_)
        replace h := nm_at ex13 h
        clear ex13
        refine lv_istore_n (lv' := [(3, .int x13), (0, .ref (g.1 + 244)), (1, .int a1), (2, .int a2)]) C.1.1 C.1.2.1 dX11_news_47 rfl hl (by decide) rfl (fun ls hl => ?_)
        refine lv_aload_n C.1.1 C.1.2.1 dX11_news_48 rfl (lv_at hl 1 rfl) ?_
        refine G_X11_7 C hW (by decide) dX11_news_49 ?_
        refine lv_bipush (v := 49) C.1.1 C.1.2.1 dX11_news_52 (by decide) ?_
        refine lv_iload_n C.1.1 C.1.2.1 dX11_news_54 rfl (lv_at hl 2 rfl) ?_
        refine lv_iadd C.1.1 C.1.2.1 dX11_news_55 ?_
        refine lv_iload_n C.1.1 C.1.2.1 dX11_news_56 rfl (lv_at hl 3 rfl) ?_
        obtain ⟨hi14, h⟩ := gi_some h
        refine w_iast C hW (n := 1752) (by decide) (by decide) hi14 dX11_news_57 (fun H locs hW => ?_)
        obtain ⟨I15, eI15, h⟩ := nm_some h
        rw [← eI15] at hW
        clear eI15
        refine lv_iload_n C.1.1 C.1.2.1 dX11_news_58 rfl (lv_at hl 0 rfl) ?_
        obtain ⟨rfl, rfl⟩ := inj2 h
        subst hQ
        exact w_iret C hW hr hlocks dX11_news_59
      · replace h := ite_f hc9 h
        refine lv_bipush (v := -2) C.1.1 C.1.2.1 dX11_news_31 (by decide) ?_
        obtain ⟨rfl, rfl⟩ := inj2 h
        subst hQ
        exact w_iret C hW hr hlocks dX11_news_33
    · replace h := ite_t hc6 h
      refine lv_iconst (v := -1) C.1.1 C.1.2.1 dX11_news_20 (by decide) ?_
      obtain ⟨rfl, rfl⟩ := inj2 h
      subst hQ
      exact w_iret C hW hr hlocks dX11_news_21
def f_X11_praise (a1 : Int32) (I : MI) (L : ML) : Option (Int32 × MI) :=
  bd1 (f_X11_isSitter a1 I L) (fun r1 => (if r1 = 0 then some (((-1 : Int32), I)) else bd1 (f_X11_isDown (0 : Int32) a1 I L) (fun r4 => (if r4 = 0 then gi ((55 : Int32) + a1) 1752 ((if (I 245 ((55 : Int32) + a1).toNatClampNeg) = (9 : Int32) then some (((-2 : Int32), I)) else bd1 (f_X11_minds  I L) (fun I9 => gi ((55 : Int32) + a1) 1752 (gi ((55 : Int32) + a1) 1752 (nm (up2 I9 245 (((55 : Int32) + a1).toNatClampNeg) ((I9 245 ((55 : Int32) + a1).toNatClampNeg) + (1 : Int32))) (fun I13 => gi ((55 : Int32) + a1) 1752 (some ((I13 245 ((55 : Int32) + a1).toNatClampNeg, I13))))))))) else some (((-2 : Int32), I))))))
set_option maxHeartbeats 4000000 in
set_option maxRecDepth 100000 in
theorem c_X11_praise (g : Gp) (l : Launch) {a1 : Int32}  {I : MI} {L : ML} {r : Int32} {I' : MI} (h : f_X11_praise a1 I L = some (r, I')) : MetI g l yX11_praise cX11_praise 2 .int 2 [.ref (g.1 + 244), .int a1] I L r I' L := by
  unfold f_X11_praise at h
  refine w_enter (by decide) (Nat.le_of_ble_eq_true rfl) (own := RX11) rfl ?_
  intro p e s m below meth c args Q hQ C hr hlocks hW ls hl
  have hl : lv_has ls 2 [(0, .ref (g.1 + 244)), (1, .int a1)] := hl
  refine lv_aload_n C.1.1 C.1.2.1 dX11_praise_0 rfl (lv_at hl 0 rfl) ?_
  refine lv_iload_n C.1.1 C.1.2.1 dX11_praise_1 rfl (lv_at hl 1 rfl) ?_
  obtain ⟨r1, hc2, h⟩ := bd1_some h
  refine w_callVi (k := 1) (As := [.int a1]) (rest := []) C hW (c_X11_isSitter g l  hc2) (by decide) rfl (EX_11 (by decide)) K_X11_115 (by decide +kernel) ⟨by decide, by decide⟩ ⟨Nat.le_refl _, Nat.le_refl _⟩ rfl hl.1 rfl (Nat.le_of_ble_eq_true rfl) dX11_praise_2 (fun H locs hW => ?_)
  refine lv_if_ne (tgt := 10) C.1.1 C.1.2.1 dX11_praise_5 (by decide) (fun hc3 => ?_) (fun hc3 => ?_)
  · replace h := ite_f hc3 h
    refine lv_aload_n C.1.1 C.1.2.1 dX11_praise_10 rfl (lv_at hl 0 rfl) ?_
    refine lv_iconst (v := 0) C.1.1 C.1.2.1 dX11_praise_11 (by decide) ?_
    refine lv_iload_n C.1.1 C.1.2.1 dX11_praise_12 rfl (lv_at hl 1 rfl) ?_
    obtain ⟨r4, hc5, h⟩ := bd1_some h
    refine w_callVi (k := 2) (As := [.int (0 : Int32), .int a1]) (rest := []) C hW (c_X11_isDown g l  hc5) (by decide) rfl (EX_11 (by decide)) K_X11_100 (by decide +kernel) ⟨by decide, by decide⟩ ⟨Nat.le_refl _, Nat.le_refl _⟩ rfl hl.1 rfl (Nat.le_of_ble_eq_true rfl) dX11_praise_13 (fun H locs hW => ?_)
    refine lv_if_ne (tgt := 33) C.1.1 C.1.2.1 dX11_praise_16 (by decide) (fun hc6 => ?_) (fun hc6 => ?_)
    · replace h := ite_f hc6 h
      refine lv_bipush (v := -2) C.1.1 C.1.2.1 dX11_praise_33 (by decide) ?_
      obtain ⟨rfl, rfl⟩ := inj2 h
      subst hQ
      exact w_iret C hW hr hlocks dX11_praise_35
    · replace h := ite_t hc6 h
      refine lv_aload_n C.1.1 C.1.2.1 dX11_praise_19 rfl (lv_at hl 0 rfl) ?_
      refine G_X11_7 C hW (by decide) dX11_praise_20 ?_
      refine lv_bipush (v := 55) C.1.1 C.1.2.1 dX11_praise_23 (by decide) ?_
      refine lv_iload_n C.1.1 C.1.2.1 dX11_praise_25 rfl (lv_at hl 1 rfl) ?_
      refine lv_iadd C.1.1 C.1.2.1 dX11_praise_26 ?_
      obtain ⟨hi7, h⟩ := gi_some h
      refine w_iald C hW (n := 1752) (by decide) (by decide) hi7 dX11_praise_27 ?_
      refine lv_bipush (v := 9) C.1.1 C.1.2.1 dX11_praise_28 (by decide) ?_
      refine lv_icmp_ne (tgt := 36) C.1.1 C.1.2.1 dX11_praise_30 (by decide) (fun hc8 => ?_) (fun hc8 => ?_)
      · replace h := ite_f hc8 h
        refine lv_aload_n C.1.1 C.1.2.1 dX11_praise_36 rfl (lv_at hl 0 rfl) ?_
        obtain ⟨I9, hc10, h⟩ := bd1_some h
        refine w_callVv (k := 0) (As := []) (rest := []) C hW (c_X11_minds g l  hc10) (by decide) rfl (EX_11 (by decide)) K_X11_126 (by decide +kernel) ⟨by decide, by decide⟩ ⟨Nat.le_refl _, Nat.le_refl _⟩ rfl hl.1 rfl (Nat.le_of_ble_eq_true rfl) dX11_praise_37 (fun H locs hW => ?_)
        refine lv_aload_n C.1.1 C.1.2.1 dX11_praise_40 rfl (lv_at hl 0 rfl) ?_
        refine G_X11_7 C hW (by decide) dX11_praise_41 ?_
        refine lv_bipush (v := 55) C.1.1 C.1.2.1 dX11_praise_44 (by decide) ?_
        refine lv_iload_n C.1.1 C.1.2.1 dX11_praise_46 rfl (lv_at hl 1 rfl) ?_
        refine lv_iadd C.1.1 C.1.2.1 dX11_praise_47 ?_
        refine lv_dup2_11 C.1.1 C.1.2.1 dX11_praise_48 rfl rfl ?_
        obtain ⟨hi11, h⟩ := gi_some h
        refine w_iald C hW (n := 1752) (by decide) (by decide) hi11 dX11_praise_49 ?_
        refine lv_iconst (v := 1) C.1.1 C.1.2.1 dX11_praise_50 (by decide) ?_
        refine lv_iadd C.1.1 C.1.2.1 dX11_praise_51 ?_
        obtain ⟨hi12, h⟩ := gi_some h
        refine w_iast C hW (n := 1752) (by decide) (by decide) hi12 dX11_praise_52 (fun H locs hW => ?_)
        obtain ⟨I13, eI13, h⟩ := nm_some h
        rw [← eI13] at hW
        clear eI13
        refine lv_aload_n C.1.1 C.1.2.1 dX11_praise_53 rfl (lv_at hl 0 rfl) ?_
        refine G_X11_7 C hW (by decide) dX11_praise_54 ?_
        refine lv_bipush (v := 55) C.1.1 C.1.2.1 dX11_praise_57 (by decide) ?_
        refine lv_iload_n C.1.1 C.1.2.1 dX11_praise_59 rfl (lv_at hl 1 rfl) ?_
        refine lv_iadd C.1.1 C.1.2.1 dX11_praise_60 ?_
        obtain ⟨hi14, h⟩ := gi_some h
        refine w_iald C hW (n := 1752) (by decide) (by decide) hi14 dX11_praise_61 ?_
        obtain ⟨rfl, rfl⟩ := inj2 h
        subst hQ
        exact w_iret C hW hr hlocks dX11_praise_62
      · replace h := ite_t hc8 h
        refine lv_bipush (v := -2) C.1.1 C.1.2.1 dX11_praise_33 (by decide) ?_
        obtain ⟨rfl, rfl⟩ := inj2 h
        subst hQ
        exact w_iret C hW hr hlocks dX11_praise_35
  · replace h := ite_t hc3 h
    refine lv_iconst (v := -1) C.1.1 C.1.2.1 dX11_praise_8 (by decide) ?_
    obtain ⟨rfl, rfl⟩ := inj2 h
    subst hQ
    exact w_iret C hW hr hlocks dX11_praise_9
def b_X11_cloak_64  (I : MI) (L : ML) (z3 : Int32) (z4 : Int32) : Option ((Int32 × Int32) ⊕ ((Int32))) :=
  gi (1 : Int32) 1752 ((if (I 245 (1 : Int32).toNatClampNeg) ≤ z4 then some (Sum.inr z3) else gi ((61 : Int32) + z4) 1752 (nm (z3 + (I 245 ((61 : Int32) + z4).toNatClampNeg)) (fun x19 => nm (z4 + (1 : Int32)) (fun x20 => some (Sum.inl (x19, x20)))))))
set_option maxHeartbeats 4000000 in
set_option maxRecDepth 100000 in
theorem l_X11_cloak_64 {g : Gp} {p : Program} {l : Launch} {e : Env} {s : State} {m : MethodId} {args : Array Value} {below : List Frame} {meth : Method} {c : Code} {Q : State → Prop}  (C : Cx g p s m args c RX11 cX11_cloak 5)   (I : MI) (L : ML) : ∀ (n : Nat) (z3 : Int32) (z4 : Int32) (y0_3 : Int32), lp (fun s => b_X11_cloak_64  I L s.1 s.2) n (z3, z4) = some y0_3 → ∀ (H : Heap) (locs : List Loc) (ls : Array Slot), Ws g s I L H locs → lv_has ls 5 [(0, .ref (g.1 + 244)), (3, .int z3), (4, .int z4)] → (∀ (H : Heap) (locs : List Loc) (ls : Array Slot), Ws g s I L H locs → lv_has ls 5 [(3, .int y0_3)] → W p l e (rmD 2) s m args below meth c H locs 0 0 Q (F0 m 94 ls [])) → W p l e (rmD 2) s m args below meth c H locs 0 0 Q (F0 m 64 ls []) := by
  intro n
  induction n with
  | zero => intro z3 z4 y0_3 h; exact lp_zero h
  | succ n ih =>
      intro z3 z4 y0_3 h H locs ls hW hl hx0
      obtain ⟨r9, h, h9⟩ := lp_some h
      have h : b_X11_cloak_64  I L z3 z4 = some r9 := h
      unfold b_X11_cloak_64 at h
      refine lv_iload C.1.1 C.1.2.1 dX11_cloak_64 (lv_at hl 2 rfl) ?_
      refine lv_aload_n C.1.1 C.1.2.1 dX11_cloak_66 rfl (lv_at hl 0 rfl) ?_
      refine G_X11_7 C hW (by decide) dX11_cloak_67 ?_
      refine lv_iconst (v := 1) C.1.1 C.1.2.1 dX11_cloak_70 (by decide) ?_
      obtain ⟨hi16, h⟩ := gi_some h
      refine w_iald C hW (n := 1752) (by decide) (by decide) hi16 dX11_cloak_71 ?_
      refine lv_icmp_ge (tgt := 94) C.1.1 C.1.2.1 dX11_cloak_72 (by decide) (fun hc17 => ?_) (fun hc17 => ?_)
      · replace h := ite_t hc17 h
        obtain rfl := Option.some.inj h
        replace h9 := Option.some.inj h9
        obtain rfl := pnj1 h9
        exact hx0 _ _ _ hW (lv_sub hl [1] rfl)
      · replace h := ite_f hc17 h
        refine lv_iload_n C.1.1 C.1.2.1 dX11_cloak_75 rfl (lv_at hl 1 rfl) ?_
        refine lv_aload_n C.1.1 C.1.2.1 dX11_cloak_76 rfl (lv_at hl 0 rfl) ?_
        refine G_X11_7 C hW (by decide) dX11_cloak_77 ?_
        refine lv_bipush (v := 61) C.1.1 C.1.2.1 dX11_cloak_80 (by decide) ?_
        refine lv_iload C.1.1 C.1.2.1 dX11_cloak_82 (lv_at hl 2 rfl) ?_
        refine lv_iadd C.1.1 C.1.2.1 dX11_cloak_84 ?_
        obtain ⟨hi18, h⟩ := gi_some h
        refine w_iald C hW (n := 1752) (by decide) (by decide) hi18 dX11_cloak_85 ?_
        refine lv_iadd C.1.1 C.1.2.1 dX11_cloak_86 ?_
        refine lv_topi (fun x19 ex19 => ?_)
        replace h := nm_at ex19 h
        clear ex19
        refine lv_istore_n (lv' := [(3, .int x19), (0, .ref (g.1 + 244)), (4, .int z4)]) C.1.1 C.1.2.1 dX11_cloak_87 rfl hl (by decide) rfl (fun ls hl => ?_)
        obtain ⟨x20, ex20⟩ : ∃ y : Int32, y = z4 + (1 : Int32) := ⟨_, rfl⟩
        replace h := nm_at ex20 h
        refine lv_iinc (v := x20) (lv' := [(4, .int x20), (3, .int x19), (0, .ref (g.1 + 244))]) C.1.1 C.1.2.1 dX11_cloak_88 hl (k := 2) rfl (by rw [ex20]; rfl) (by decide) rfl (fun ls hl => ?_)
        clear ex20
        refine lv_goto (tgt := 64) C.1.1 C.1.2.1 dX11_cloak_91 (by decide) ?_
        obtain rfl := Option.some.inj h
        exact ih _ _ _ h9 _ _ _ hW (lv_sub hl [2, 1, 0] rfl) hx0
def f_X11_cloak (a1 : Int32) (a2 : Int32) (I : MI) (L : ML) : Option (Int32 × MI) :=
  bd1 (f_X11_isSitter a1 I L) (fun r1 => (if r1 = 0 then some (((-1 : Int32), I)) else bd1 (f_X11_in a2.toInt64 (0 : Int64) (1 : Int64)) (fun r4 => (if r4 = 0 then some (((-1 : Int32), I)) else bd1 (f_X11_isDown (0 : Int32) a1 I L) (fun r7 => (if r7 = 0 then gi ((61 : Int32) + a1) 1752 ((if (I 245 ((61 : Int32) + a1).toNatClampNeg) = a2 then some (((-2 : Int32), I)) else bd1 (f_X11_minds  I L) (fun I12 => gi ((61 : Int32) + a1) 1752 (nm (up2 I12 245 (((61 : Int32) + a1).toNatClampNeg) a2) (fun I15 => bd1 (lp (fun s => b_X11_cloak_64  I15 L s.1 s.2) FU (((0 : Int32), (0 : Int32)))) (fun y22 => some (y22, I15))))))) else some (((-2 : Int32), I))))))))
set_option maxHeartbeats 4000000 in
set_option maxRecDepth 100000 in
theorem c_X11_cloak (g : Gp) (l : Launch) {a1 : Int32} {a2 : Int32}  {I : MI} {L : ML} {r : Int32} {I' : MI} (h : f_X11_cloak a1 a2 I L = some (r, I')) : MetI g l yX11_cloak cX11_cloak 5 .int 2 [.ref (g.1 + 244), .int a1, .int a2] I L r I' L := by
  unfold f_X11_cloak at h
  refine w_enter (by decide) (Nat.le_of_ble_eq_true rfl) (own := RX11) rfl ?_
  intro p e s m below meth c args Q hQ C hr hlocks hW ls hl
  have hl : lv_has ls 5 [(0, .ref (g.1 + 244)), (1, .int a1), (2, .int a2)] := hl
  refine lv_aload_n C.1.1 C.1.2.1 dX11_cloak_0 rfl (lv_at hl 0 rfl) ?_
  refine lv_iload_n C.1.1 C.1.2.1 dX11_cloak_1 rfl (lv_at hl 1 rfl) ?_
  obtain ⟨r1, hc2, h⟩ := bd1_some h
  refine w_callVi (k := 1) (As := [.int a1]) (rest := []) C hW (c_X11_isSitter g l  hc2) (by decide) rfl (EX_11 (by decide)) K_X11_115 (by decide +kernel) ⟨by decide, by decide⟩ ⟨Nat.le_refl _, Nat.le_refl _⟩ rfl hl.1 rfl (Nat.le_of_ble_eq_true rfl) dX11_cloak_2 (fun H locs hW => ?_)
  refine lv_if_eq (tgt := 18) C.1.1 C.1.2.1 dX11_cloak_5 (by decide) (fun hc3 => ?_) (fun hc3 => ?_)
  · replace h := ite_t hc3 h
    refine lv_iconst (v := -1) C.1.1 C.1.2.1 dX11_cloak_18 (by decide) ?_
    obtain ⟨rfl, rfl⟩ := inj2 h
    subst hQ
    exact w_iret C hW hr hlocks dX11_cloak_19
  · replace h := ite_f hc3 h
    refine lv_iload_n C.1.1 C.1.2.1 dX11_cloak_8 rfl (lv_at hl 2 rfl) ?_
    refine lv_i2l C.1.1 C.1.2.1 dX11_cloak_9 rfl ?_
    refine lv_lconst (v := 0) C.1.1 C.1.2.1 dX11_cloak_10 (by decide) ?_
    refine lv_lconst (v := 1) C.1.1 C.1.2.1 dX11_cloak_11 (by decide) ?_
    obtain ⟨r4, hc5, h⟩ := bd1_some h
    refine w_callSi (k := 3) (As := [.long a2.toInt64, .long (0 : Int64), .long (1 : Int64)]) (rest := []) C hW (c_X11_in g l  hc5 I L) K_X11_42 (by decide +kernel) ⟨by decide, by decide⟩ ⟨Nat.le_refl _, Nat.le_refl _⟩ rfl hl.1 rfl (Nat.le_of_ble_eq_true rfl) dX11_cloak_12 (fun H locs hW => ?_)
    refine lv_if_ne (tgt := 20) C.1.1 C.1.2.1 dX11_cloak_15 (by decide) (fun hc6 => ?_) (fun hc6 => ?_)
    · replace h := ite_f hc6 h
      refine lv_aload_n C.1.1 C.1.2.1 dX11_cloak_20 rfl (lv_at hl 0 rfl) ?_
      refine lv_iconst (v := 0) C.1.1 C.1.2.1 dX11_cloak_21 (by decide) ?_
      refine lv_iload_n C.1.1 C.1.2.1 dX11_cloak_22 rfl (lv_at hl 1 rfl) ?_
      obtain ⟨r7, hc8, h⟩ := bd1_some h
      refine w_callVi (k := 2) (As := [.int (0 : Int32), .int a1]) (rest := []) C hW (c_X11_isDown g l  hc8) (by decide) rfl (EX_11 (by decide)) K_X11_100 (by decide +kernel) ⟨by decide, by decide⟩ ⟨Nat.le_refl _, Nat.le_refl _⟩ rfl hl.1 rfl (Nat.le_of_ble_eq_true rfl) dX11_cloak_23 (fun H locs hW => ?_)
      refine lv_if_ne (tgt := 42) C.1.1 C.1.2.1 dX11_cloak_26 (by decide) (fun hc9 => ?_) (fun hc9 => ?_)
      · replace h := ite_f hc9 h
        refine lv_bipush (v := -2) C.1.1 C.1.2.1 dX11_cloak_42 (by decide) ?_
        obtain ⟨rfl, rfl⟩ := inj2 h
        subst hQ
        exact w_iret C hW hr hlocks dX11_cloak_44
      · replace h := ite_t hc9 h
        refine lv_aload_n C.1.1 C.1.2.1 dX11_cloak_29 rfl (lv_at hl 0 rfl) ?_
        refine G_X11_7 C hW (by decide) dX11_cloak_30 ?_
        refine lv_bipush (v := 61) C.1.1 C.1.2.1 dX11_cloak_33 (by decide) ?_
        refine lv_iload_n C.1.1 C.1.2.1 dX11_cloak_35 rfl (lv_at hl 1 rfl) ?_
        refine lv_iadd C.1.1 C.1.2.1 dX11_cloak_36 ?_
        obtain ⟨hi10, h⟩ := gi_some h
        refine w_iald C hW (n := 1752) (by decide) (by decide) hi10 dX11_cloak_37 ?_
        refine lv_iload_n C.1.1 C.1.2.1 dX11_cloak_38 rfl (lv_at hl 2 rfl) ?_
        refine lv_icmp_ne (tgt := 45) C.1.1 C.1.2.1 dX11_cloak_39 (by decide) (fun hc11 => ?_) (fun hc11 => ?_)
        · replace h := ite_f hc11 h
          refine lv_aload_n C.1.1 C.1.2.1 dX11_cloak_45 rfl (lv_at hl 0 rfl) ?_
          obtain ⟨I12, hc13, h⟩ := bd1_some h
          refine w_callVv (k := 0) (As := []) (rest := []) C hW (c_X11_minds g l  hc13) (by decide) rfl (EX_11 (by decide)) K_X11_126 (by decide +kernel) ⟨by decide, by decide⟩ ⟨Nat.le_refl _, Nat.le_refl _⟩ rfl hl.1 rfl (Nat.le_of_ble_eq_true rfl) dX11_cloak_46 (fun H locs hW => ?_)
          refine lv_aload_n C.1.1 C.1.2.1 dX11_cloak_49 rfl (lv_at hl 0 rfl) ?_
          refine G_X11_7 C hW (by decide) dX11_cloak_50 ?_
          refine lv_bipush (v := 61) C.1.1 C.1.2.1 dX11_cloak_53 (by decide) ?_
          refine lv_iload_n C.1.1 C.1.2.1 dX11_cloak_55 rfl (lv_at hl 1 rfl) ?_
          refine lv_iadd C.1.1 C.1.2.1 dX11_cloak_56 ?_
          refine lv_iload_n C.1.1 C.1.2.1 dX11_cloak_57 rfl (lv_at hl 2 rfl) ?_
          obtain ⟨hi14, h⟩ := gi_some h
          refine w_iast C hW (n := 1752) (by decide) (by decide) hi14 dX11_cloak_58 (fun H locs hW => ?_)
          obtain ⟨I15, eI15, h⟩ := nm_some h
          rw [← eI15] at hW
          clear eI15
          refine lv_iconst (v := 0) C.1.1 C.1.2.1 dX11_cloak_59 (by decide) ?_
          refine lv_istore_n (lv' := [(3, .int (0 : Int32)), (0, .ref (g.1 + 244)), (1, .int a1), (2, .int a2)]) C.1.1 C.1.2.1 dX11_cloak_60 rfl hl (by decide) rfl (fun ls hl => ?_)
          refine lv_iconst (v := 0) C.1.1 C.1.2.1 dX11_cloak_61 (by decide) ?_
          refine lv_istore (lv' := [(4, .int (0 : Int32)), (3, .int (0 : Int32)), (0, .ref (g.1 + 244)), (1, .int a1), (2, .int a2)]) C.1.1 C.1.2.1 dX11_cloak_62 hl (by decide) rfl (fun ls hl => ?_)
          obtain ⟨y22, hq21, h⟩ := bd1_some h
          refine l_X11_cloak_64 C   I15 L _ _ _ _ hq21 _ _ _ hW (lv_sub hl [2, 1, 0] rfl) (fun H locs ls hW hl => ?_)
          refine lv_iload_n C.1.1 C.1.2.1 dX11_cloak_94 rfl (lv_at hl 0 rfl) ?_
          obtain ⟨rfl, rfl⟩ := inj2 h
          subst hQ
          exact w_iret C hW hr hlocks dX11_cloak_95
        · replace h := ite_t hc11 h
          refine lv_bipush (v := -2) C.1.1 C.1.2.1 dX11_cloak_42 (by decide) ?_
          obtain ⟨rfl, rfl⟩ := inj2 h
          subst hQ
          exact w_iret C hW hr hlocks dX11_cloak_44
    · replace h := ite_t hc6 h
      refine lv_iconst (v := -1) C.1.1 C.1.2.1 dX11_cloak_18 (by decide) ?_
      obtain ⟨rfl, rfl⟩ := inj2 h
      subst hQ
      exact w_iret C hW hr hlocks dX11_cloak_19
def f_X11_heir (a1 : Int32) (I : MI) (L : ML) : Option (Int32 × MI) :=
  bd1 (f_X11_isSitter a1 I L) (fun r1 => (if r1 = 0 then some (((-1 : Int32), I)) else bd1 (f_X11_isDown (0 : Int32) a1 I L) (fun r4 => (if r4 = 0 then some (((-2 : Int32), I)) else bd1 (f_X11_minds  I L) (fun I7 => gi ((13 : Int32) + a1) 1752 (bd1 ((if (I7 245 ((13 : Int32) + a1).toNatClampNeg) ≤ (12 : Int32) then some (10 : Int32) else gi ((13 : Int32) + a1) 1752 (some ((I7 245 ((13 : Int32) + a1).toNatClampNeg) - (2 : Int32))))) (fun y10 => gi ((13 : Int32) + a1) 1752 (nm (up2 I7 245 (((13 : Int32) + a1).toNatClampNeg) y10) (fun I14 => gi ((37 : Int32) + a1) 1752 (nm (up2 I14 245 (((37 : Int32) + a1).toNatClampNeg) (0 : Int32)) (fun I16 => gi ((55 : Int32) + a1) 1752 (nm (up2 I16 245 (((55 : Int32) + a1).toNatClampNeg) (0 : Int32)) (fun I18 => gi ((49 : Int32) + a1) 1752 (nm (up2 I18 245 (((49 : Int32) + a1).toNatClampNeg) (0 : Int32)) (fun I20 => gi ((61 : Int32) + a1) 1752 (nm (up2 I20 245 (((61 : Int32) + a1).toNatClampNeg) (0 : Int32)) (fun I22 => gi (3 : Int32) 1752 (gi ((43 : Int32) + a1) 1752 (nm (up2 I22 245 (((43 : Int32) + a1).toNatClampNeg) (I22 245 (3 : Int32).toNatClampNeg)) (fun I25 => gi ((67 : Int32) + a1) 1752 (nm (up2 I25 245 (((67 : Int32) + a1).toNatClampNeg) (-1 : Int32)) (fun I27 => gi ((13 : Int32) + a1) 1752 (some ((I27 245 ((13 : Int32) + a1).toNatClampNeg, I27)))))))))))))))))))))))))
set_option maxHeartbeats 4000000 in
set_option maxRecDepth 100000 in
theorem c_X11_heir (g : Gp) (l : Launch) {a1 : Int32}  {I : MI} {L : ML} {r : Int32} {I' : MI} (h : f_X11_heir a1 I L = some (r, I')) : MetI g l yX11_heir cX11_heir 2 .int 2 [.ref (g.1 + 244), .int a1] I L r I' L := by
  unfold f_X11_heir at h
  refine w_enter (by decide) (Nat.le_of_ble_eq_true rfl) (own := RX11) rfl ?_
  intro p e s m below meth c args Q hQ C hr hlocks hW ls hl
  have hl : lv_has ls 2 [(0, .ref (g.1 + 244)), (1, .int a1)] := hl
  refine lv_aload_n C.1.1 C.1.2.1 dX11_heir_0 rfl (lv_at hl 0 rfl) ?_
  refine lv_iload_n C.1.1 C.1.2.1 dX11_heir_1 rfl (lv_at hl 1 rfl) ?_
  obtain ⟨r1, hc2, h⟩ := bd1_some h
  refine w_callVi (k := 1) (As := [.int a1]) (rest := []) C hW (c_X11_isSitter g l  hc2) (by decide) rfl (EX_11 (by decide)) K_X11_115 (by decide +kernel) ⟨by decide, by decide⟩ ⟨Nat.le_refl _, Nat.le_refl _⟩ rfl hl.1 rfl (Nat.le_of_ble_eq_true rfl) dX11_heir_2 (fun H locs hW => ?_)
  refine lv_if_ne (tgt := 10) C.1.1 C.1.2.1 dX11_heir_5 (by decide) (fun hc3 => ?_) (fun hc3 => ?_)
  · replace h := ite_f hc3 h
    refine lv_aload_n C.1.1 C.1.2.1 dX11_heir_10 rfl (lv_at hl 0 rfl) ?_
    refine lv_iconst (v := 0) C.1.1 C.1.2.1 dX11_heir_11 (by decide) ?_
    refine lv_iload_n C.1.1 C.1.2.1 dX11_heir_12 rfl (lv_at hl 1 rfl) ?_
    obtain ⟨r4, hc5, h⟩ := bd1_some h
    refine w_callVi (k := 2) (As := [.int (0 : Int32), .int a1]) (rest := []) C hW (c_X11_isDown g l  hc5) (by decide) rfl (EX_11 (by decide)) K_X11_100 (by decide +kernel) ⟨by decide, by decide⟩ ⟨Nat.le_refl _, Nat.le_refl _⟩ rfl hl.1 rfl (Nat.le_of_ble_eq_true rfl) dX11_heir_13 (fun H locs hW => ?_)
    refine lv_if_ne (tgt := 22) C.1.1 C.1.2.1 dX11_heir_16 (by decide) (fun hc6 => ?_) (fun hc6 => ?_)
    · replace h := ite_f hc6 h
      refine lv_aload_n C.1.1 C.1.2.1 dX11_heir_22 rfl (lv_at hl 0 rfl) ?_
      obtain ⟨I7, hc8, h⟩ := bd1_some h
      refine w_callVv (k := 0) (As := []) (rest := []) C hW (c_X11_minds g l  hc8) (by decide) rfl (EX_11 (by decide)) K_X11_126 (by decide +kernel) ⟨by decide, by decide⟩ ⟨Nat.le_refl _, Nat.le_refl _⟩ rfl hl.1 rfl (Nat.le_of_ble_eq_true rfl) dX11_heir_23 (fun H locs hW => ?_)
      refine lv_aload_n C.1.1 C.1.2.1 dX11_heir_26 rfl (lv_at hl 0 rfl) ?_
      refine G_X11_7 C hW (by decide) dX11_heir_27 ?_
      refine lv_bipush (v := 13) C.1.1 C.1.2.1 dX11_heir_30 (by decide) ?_
      refine lv_iload_n C.1.1 C.1.2.1 dX11_heir_32 rfl (lv_at hl 1 rfl) ?_
      refine lv_iadd C.1.1 C.1.2.1 dX11_heir_33 ?_
      refine lv_aload_n C.1.1 C.1.2.1 dX11_heir_34 rfl (lv_at hl 0 rfl) ?_
      refine G_X11_7 C hW (by decide) dX11_heir_35 ?_
      refine lv_bipush (v := 13) C.1.1 C.1.2.1 dX11_heir_38 (by decide) ?_
      refine lv_iload_n C.1.1 C.1.2.1 dX11_heir_40 rfl (lv_at hl 1 rfl) ?_
      refine lv_iadd C.1.1 C.1.2.1 dX11_heir_41 ?_
      obtain ⟨hi9, h⟩ := gi_some h
      refine w_iald C hW (n := 1752) (by decide) (by decide) hi9 dX11_heir_42 ?_
      refine lv_bipush (v := 12) C.1.1 C.1.2.1 dX11_heir_43 (by decide) ?_
      obtain ⟨y10, hj12, h⟩ := bd1_some h
      have kJ11 : ∀ (H : Heap) (locs : List Loc) (ls : Array Slot), Ws g s I7 L H locs → lv_has ls 2 [(0, .ref (g.1 + 244)), (1, .int a1)] → W p l e (rmD 2) s m args below meth c H locs 0 0 Q (F0 m 64 ls [.int y10, .int ((13 : Int32) + a1), .ref (g.1 + 245)]) := by
        intro H locs ls hW hl
        obtain ⟨hi13, h⟩ := gi_some h
        refine w_iast C hW (n := 1752) (by decide) (by decide) hi13 dX11_heir_64 (fun H locs hW => ?_)
        obtain ⟨I14, eI14, h⟩ := nm_some h
        rw [← eI14] at hW
        clear eI14
        refine lv_aload_n C.1.1 C.1.2.1 dX11_heir_65 rfl (lv_at hl 0 rfl) ?_
        refine G_X11_7 C hW (by decide) dX11_heir_66 ?_
        refine lv_bipush (v := 37) C.1.1 C.1.2.1 dX11_heir_69 (by decide) ?_
        refine lv_iload_n C.1.1 C.1.2.1 dX11_heir_71 rfl (lv_at hl 1 rfl) ?_
        refine lv_iadd C.1.1 C.1.2.1 dX11_heir_72 ?_
        refine lv_iconst (v := 0) C.1.1 C.1.2.1 dX11_heir_73 (by decide) ?_
        obtain ⟨hi15, h⟩ := gi_some h
        refine w_iast C hW (n := 1752) (by decide) (by decide) hi15 dX11_heir_74 (fun H locs hW => ?_)
        obtain ⟨I16, eI16, h⟩ := nm_some h
        rw [← eI16] at hW
        clear eI16
        refine lv_aload_n C.1.1 C.1.2.1 dX11_heir_75 rfl (lv_at hl 0 rfl) ?_
        refine G_X11_7 C hW (by decide) dX11_heir_76 ?_
        refine lv_bipush (v := 55) C.1.1 C.1.2.1 dX11_heir_79 (by decide) ?_
        refine lv_iload_n C.1.1 C.1.2.1 dX11_heir_81 rfl (lv_at hl 1 rfl) ?_
        refine lv_iadd C.1.1 C.1.2.1 dX11_heir_82 ?_
        refine lv_iconst (v := 0) C.1.1 C.1.2.1 dX11_heir_83 (by decide) ?_
        obtain ⟨hi17, h⟩ := gi_some h
        refine w_iast C hW (n := 1752) (by decide) (by decide) hi17 dX11_heir_84 (fun H locs hW => ?_)
        obtain ⟨I18, eI18, h⟩ := nm_some h
        rw [← eI18] at hW
        clear eI18
        refine lv_aload_n C.1.1 C.1.2.1 dX11_heir_85 rfl (lv_at hl 0 rfl) ?_
        refine G_X11_7 C hW (by decide) dX11_heir_86 ?_
        refine lv_bipush (v := 49) C.1.1 C.1.2.1 dX11_heir_89 (by decide) ?_
        refine lv_iload_n C.1.1 C.1.2.1 dX11_heir_91 rfl (lv_at hl 1 rfl) ?_
        refine lv_iadd C.1.1 C.1.2.1 dX11_heir_92 ?_
        refine lv_iconst (v := 0) C.1.1 C.1.2.1 dX11_heir_93 (by decide) ?_
        obtain ⟨hi19, h⟩ := gi_some h
        refine w_iast C hW (n := 1752) (by decide) (by decide) hi19 dX11_heir_94 (fun H locs hW => ?_)
        obtain ⟨I20, eI20, h⟩ := nm_some h
        rw [← eI20] at hW
        clear eI20
        refine lv_aload_n C.1.1 C.1.2.1 dX11_heir_95 rfl (lv_at hl 0 rfl) ?_
        refine G_X11_7 C hW (by decide) dX11_heir_96 ?_
        refine lv_bipush (v := 61) C.1.1 C.1.2.1 dX11_heir_99 (by decide) ?_
        refine lv_iload_n C.1.1 C.1.2.1 dX11_heir_101 rfl (lv_at hl 1 rfl) ?_
        refine lv_iadd C.1.1 C.1.2.1 dX11_heir_102 ?_
        refine lv_iconst (v := 0) C.1.1 C.1.2.1 dX11_heir_103 (by decide) ?_
        obtain ⟨hi21, h⟩ := gi_some h
        refine w_iast C hW (n := 1752) (by decide) (by decide) hi21 dX11_heir_104 (fun H locs hW => ?_)
        obtain ⟨I22, eI22, h⟩ := nm_some h
        rw [← eI22] at hW
        clear eI22
        refine lv_aload_n C.1.1 C.1.2.1 dX11_heir_105 rfl (lv_at hl 0 rfl) ?_
        refine G_X11_7 C hW (by decide) dX11_heir_106 ?_
        refine lv_bipush (v := 43) C.1.1 C.1.2.1 dX11_heir_109 (by decide) ?_
        refine lv_iload_n C.1.1 C.1.2.1 dX11_heir_111 rfl (lv_at hl 1 rfl) ?_
        refine lv_iadd C.1.1 C.1.2.1 dX11_heir_112 ?_
        refine lv_aload_n C.1.1 C.1.2.1 dX11_heir_113 rfl (lv_at hl 0 rfl) ?_
        refine G_X11_7 C hW (by decide) dX11_heir_114 ?_
        refine lv_iconst (v := 3) C.1.1 C.1.2.1 dX11_heir_117 (by decide) ?_
        obtain ⟨hi23, h⟩ := gi_some h
        refine w_iald C hW (n := 1752) (by decide) (by decide) hi23 dX11_heir_118 ?_
        obtain ⟨hi24, h⟩ := gi_some h
        refine w_iast C hW (n := 1752) (by decide) (by decide) hi24 dX11_heir_119 (fun H locs hW => ?_)
        obtain ⟨I25, eI25, h⟩ := nm_some h
        rw [← eI25] at hW
        clear eI25
        refine lv_aload_n C.1.1 C.1.2.1 dX11_heir_120 rfl (lv_at hl 0 rfl) ?_
        refine G_X11_7 C hW (by decide) dX11_heir_121 ?_
        refine lv_bipush (v := 67) C.1.1 C.1.2.1 dX11_heir_124 (by decide) ?_
        refine lv_iload_n C.1.1 C.1.2.1 dX11_heir_126 rfl (lv_at hl 1 rfl) ?_
        refine lv_iadd C.1.1 C.1.2.1 dX11_heir_127 ?_
        refine lv_iconst (v := -1) C.1.1 C.1.2.1 dX11_heir_128 (by decide) ?_
        obtain ⟨hi26, h⟩ := gi_some h
        refine w_iast C hW (n := 1752) (by decide) (by decide) hi26 dX11_heir_129 (fun H locs hW => ?_)
        obtain ⟨I27, eI27, h⟩ := nm_some h
        rw [← eI27] at hW
        clear eI27
        refine lv_aload_n C.1.1 C.1.2.1 dX11_heir_130 rfl (lv_at hl 0 rfl) ?_
        refine G_X11_7 C hW (by decide) dX11_heir_131 ?_
        refine lv_bipush (v := 13) C.1.1 C.1.2.1 dX11_heir_134 (by decide) ?_
        refine lv_iload_n C.1.1 C.1.2.1 dX11_heir_136 rfl (lv_at hl 1 rfl) ?_
        refine lv_iadd C.1.1 C.1.2.1 dX11_heir_137 ?_
        obtain ⟨hi28, h⟩ := gi_some h
        refine w_iald C hW (n := 1752) (by decide) (by decide) hi28 dX11_heir_138 ?_
        obtain ⟨rfl, rfl⟩ := inj2 h
        subst hQ
        exact w_iret C hW hr hlocks dX11_heir_139
      clear h
      have h := hj12
      clear hj12
      refine lv_icmp_le (tgt := 62) C.1.1 C.1.2.1 dX11_heir_45 (by decide) (fun hc29 => ?_) (fun hc29 => ?_)
      · replace h := ite_t hc29 h
        refine lv_bipush (v := 10) C.1.1 C.1.2.1 dX11_heir_62 (by decide) ?_
        obtain rfl := inj1 h
        exact kJ11 _ _ _ hW (lv_sub hl [0, 1] rfl)
      · replace h := ite_f hc29 h
        refine lv_aload_n C.1.1 C.1.2.1 dX11_heir_48 rfl (lv_at hl 0 rfl) ?_
        refine G_X11_7 C hW (by decide) dX11_heir_49 ?_
        refine lv_bipush (v := 13) C.1.1 C.1.2.1 dX11_heir_52 (by decide) ?_
        refine lv_iload_n C.1.1 C.1.2.1 dX11_heir_54 rfl (lv_at hl 1 rfl) ?_
        refine lv_iadd C.1.1 C.1.2.1 dX11_heir_55 ?_
        obtain ⟨hi30, h⟩ := gi_some h
        refine w_iald C hW (n := 1752) (by decide) (by decide) hi30 dX11_heir_56 ?_
        refine lv_iconst (v := 2) C.1.1 C.1.2.1 dX11_heir_57 (by decide) ?_
        refine lv_isub C.1.1 C.1.2.1 dX11_heir_58 ?_
        refine lv_goto (tgt := 64) C.1.1 C.1.2.1 dX11_heir_59 (by decide) ?_
        obtain rfl := inj1 h
        exact kJ11 _ _ _ hW (lv_sub hl [0, 1] rfl)
    · replace h := ite_t hc6 h
      refine lv_bipush (v := -2) C.1.1 C.1.2.1 dX11_heir_19 (by decide) ?_
      obtain ⟨rfl, rfl⟩ := inj2 h
      subst hQ
      exact w_iret C hW hr hlocks dX11_heir_21
  · replace h := ite_t hc3 h
    refine lv_iconst (v := -1) C.1.1 C.1.2.1 dX11_heir_8 (by decide) ?_
    obtain ⟨rfl, rfl⟩ := inj2 h
    subst hQ
    exact w_iret C hW hr hlocks dX11_heir_9
def f_X11_undo  (I : MI) (L : ML) : Option (Int32 × MI) :=
  (if (I 244 2) = 0 then some (((-4 : Int32), I)) else nm (up2 I 244 2 ((I 244 2) - (1 : Int32))) (fun I2 => bd1 (f_X11_copyRow ((292 : Int32) + ((73 : Int32) * (I2 244 2))) (0 : Int32) I2 L) (fun I3 => some (I3 244 2, I3))))
set_option maxHeartbeats 4000000 in
set_option maxRecDepth 100000 in
theorem c_X11_undo (g : Gp) (l : Launch)   {I : MI} {L : ML} {r : Int32} {I' : MI} (h : f_X11_undo  I L = some (r, I')) : MetI g l yX11_undo cX11_undo 1 .int 1 [.ref (g.1 + 244)] I L r I' L := by
  unfold f_X11_undo at h
  refine w_enter (by decide) (Nat.le_of_ble_eq_true rfl) (own := RX11) rfl ?_
  intro p e s m below meth c args Q hQ C hr hlocks hW ls hl
  have hl : lv_has ls 1 [(0, .ref (g.1 + 244))] := hl
  refine lv_aload_n C.1.1 C.1.2.1 dX11_undo_0 rfl (lv_at hl 0 rfl) ?_
  refine G_X11_94 C hW (by decide) dX11_undo_1 ?_
  refine lv_if_ne (tgt := 10) C.1.1 C.1.2.1 dX11_undo_4 (by decide) (fun hc1 => ?_) (fun hc1 => ?_)
  · replace h := ite_f hc1 h
    refine lv_aload_n C.1.1 C.1.2.1 dX11_undo_10 rfl (lv_at hl 0 rfl) ?_
    refine lv_dup C.1.1 C.1.2.1 dX11_undo_11 rfl ?_
    refine G_X11_94 C hW (by decide) dX11_undo_12 ?_
    refine lv_iconst (v := 1) C.1.1 C.1.2.1 dX11_undo_15 (by decide) ?_
    refine lv_isub C.1.1 C.1.2.1 dX11_undo_16 ?_
    refine P_X11_94 C hW (by decide) dX11_undo_17 (fun H locs hW => ?_)
    obtain ⟨I2, eI2, h⟩ := nm_some h
    rw [← eI2] at hW
    clear eI2
    refine lv_aload_n C.1.1 C.1.2.1 dX11_undo_20 rfl (lv_at hl 0 rfl) ?_
    refine lv_sipush (v := 292) C.1.1 C.1.2.1 dX11_undo_21 (by decide) ?_
    refine lv_bipush (v := 73) C.1.1 C.1.2.1 dX11_undo_24 (by decide) ?_
    refine lv_aload_n C.1.1 C.1.2.1 dX11_undo_26 rfl (lv_at hl 0 rfl) ?_
    refine G_X11_94 C hW (by decide) dX11_undo_27 ?_
    refine lv_imul C.1.1 C.1.2.1 dX11_undo_30 ?_
    refine lv_iadd C.1.1 C.1.2.1 dX11_undo_31 ?_
    refine lv_iconst (v := 0) C.1.1 C.1.2.1 dX11_undo_32 (by decide) ?_
    obtain ⟨I3, hc4, h⟩ := bd1_some h
    refine w_callVv (k := 2) (As := [.int ((292 : Int32) + ((73 : Int32) * (I2 244 2))), .int (0 : Int32)]) (rest := []) C hW (c_X11_copyRow g l  hc4) (by decide) rfl (EX_11 (by decide)) K_X11_90 (by decide +kernel) ⟨by decide, by decide⟩ ⟨Nat.le_refl _, Nat.le_refl _⟩ rfl hl.1 rfl (Nat.le_of_ble_eq_true rfl) dX11_undo_33 (fun H locs hW => ?_)
    refine lv_aload_n C.1.1 C.1.2.1 dX11_undo_36 rfl (lv_at hl 0 rfl) ?_
    refine G_X11_94 C hW (by decide) dX11_undo_37 ?_
    obtain ⟨rfl, rfl⟩ := inj2 h
    subst hQ
    exact w_iret C hW hr hlocks dX11_undo_40
  · replace h := ite_t hc1 h
    refine lv_bipush (v := -4) C.1.1 C.1.2.1 dX11_undo_7 (by decide) ?_
    obtain ⟨rfl, rfl⟩ := inj2 h
    subst hQ
    exact w_iret C hW hr hlocks dX11_undo_9
def f_X11_seed (a1 : Int32) (I : MI) (L : ML) : Option (Int32 × MI) :=
  bd1 (f_X11_in a1.toInt64 (1 : Int64) (2147483646 : Int64)) (fun r1 => (if r1 = 0 then some (((-1 : Int32), I)) else gi (6 : Int32) 1752 (nm (I 245 (6 : Int32).toNatClampNeg) (fun x5 => gi (6 : Int32) 1752 (nm (up2 I 245 ((6 : Int32).toNatClampNeg) a1) (fun I7 => some (x5, I7)))))))
set_option maxHeartbeats 4000000 in
set_option maxRecDepth 100000 in
theorem c_X11_seed (g : Gp) (l : Launch) {a1 : Int32}  {I : MI} {L : ML} {r : Int32} {I' : MI} (h : f_X11_seed a1 I L = some (r, I')) : MetI g l yX11_seed cX11_seed 3 .int 1 [.ref (g.1 + 244), .int a1] I L r I' L := by
  unfold f_X11_seed at h
  refine w_enter (by decide) (Nat.le_of_ble_eq_true rfl) (own := RX11) rfl ?_
  intro p e s m below meth c args Q hQ C hr hlocks hW ls hl
  have hl : lv_has ls 3 [(0, .ref (g.1 + 244)), (1, .int a1)] := hl
  refine lv_iload_n C.1.1 C.1.2.1 dX11_seed_0 rfl (lv_at hl 1 rfl) ?_
  refine lv_i2l C.1.1 C.1.2.1 dX11_seed_1 rfl ?_
  refine lv_lconst (v := 1) C.1.1 C.1.2.1 dX11_seed_2 (by decide) ?_
  refine lv_ldc2 C.1.1 C.1.2.1 C.1.2.2.2.1 (C.1.2.2.2.2 _ kl_X11_139) dX11_seed_3 ?_
  obtain ⟨r1, hc2, h⟩ := bd1_some h
  refine w_callSi (k := 3) (As := [.long a1.toInt64, .long (1 : Int64), .long (2147483646 : Int64)]) (rest := []) C hW (c_X11_in g l  hc2 I L) K_X11_42 (by decide +kernel) ⟨by decide, by decide⟩ ⟨Nat.le_refl _, Nat.le_refl _⟩ rfl hl.1 rfl (Nat.le_of_ble_eq_true rfl) dX11_seed_6 (fun H locs hW => ?_)
  refine lv_if_ne (tgt := 14) C.1.1 C.1.2.1 dX11_seed_9 (by decide) (fun hc3 => ?_) (fun hc3 => ?_)
  · replace h := ite_f hc3 h
    refine lv_aload_n C.1.1 C.1.2.1 dX11_seed_14 rfl (lv_at hl 0 rfl) ?_
    refine G_X11_7 C hW (by decide) dX11_seed_15 ?_
    refine lv_bipush (v := 6) C.1.1 C.1.2.1 dX11_seed_18 (by decide) ?_
    obtain ⟨hi4, h⟩ := gi_some h
    refine w_iald C hW (n := 1752) (by decide) (by decide) hi4 dX11_seed_20 ?_
    refine lv_topi (fun x5 ex5 => ?_)
    replace h := nm_at ex5 h
    clear ex5
    refine lv_istore_n (lv' := [(2, .int x5), (0, .ref (g.1 + 244)), (1, .int a1)]) C.1.1 C.1.2.1 dX11_seed_21 rfl hl (by decide) rfl (fun ls hl => ?_)
    refine lv_aload_n C.1.1 C.1.2.1 dX11_seed_22 rfl (lv_at hl 1 rfl) ?_
    refine G_X11_7 C hW (by decide) dX11_seed_23 ?_
    refine lv_bipush (v := 6) C.1.1 C.1.2.1 dX11_seed_26 (by decide) ?_
    refine lv_iload_n C.1.1 C.1.2.1 dX11_seed_28 rfl (lv_at hl 2 rfl) ?_
    obtain ⟨hi6, h⟩ := gi_some h
    refine w_iast C hW (n := 1752) (by decide) (by decide) hi6 dX11_seed_29 (fun H locs hW => ?_)
    obtain ⟨I7, eI7, h⟩ := nm_some h
    rw [← eI7] at hW
    clear eI7
    refine lv_iload_n C.1.1 C.1.2.1 dX11_seed_30 rfl (lv_at hl 0 rfl) ?_
    obtain ⟨rfl, rfl⟩ := inj2 h
    subst hQ
    exact w_iret C hW hr hlocks dX11_seed_31
  · replace h := ite_t hc3 h
    refine lv_iconst (v := -1) C.1.1 C.1.2.1 dX11_seed_12 (by decide) ?_
    obtain ⟨rfl, rfl⟩ := inj2 h
    subst hQ
    exact w_iret C hW hr hlocks dX11_seed_13
def f_X11_image (a1 : Int32) (I : MI) (L : ML) : Option (Int32 × MI) :=
  bd1 (f_X11_in a1.toInt64 (0 : Int64) (1 : Int64)) (fun r1 => (if r1 = 0 then some (((-1 : Int32), I)) else gi (0 : Int32) 1752 ((if (I 245 (0 : Int32).toNatClampNeg) = 0 then some (((-2 : Int32), I)) else bd1 (f_X11_copyRow (0 : Int32) ((73 : Int32) * ((1 : Int32) + a1)) I L) (fun I6 => gi a1 2 (nm (up2 I6 246 a1.toNatClampNeg (1 : Int32)) (fun I9 => bd1 (f_X11_sittingIn (0 : Int32) I9 L) (fun r10 => some (r10, I9)))))))))
set_option maxHeartbeats 4000000 in
set_option maxRecDepth 100000 in
theorem c_X11_image (g : Gp) (l : Launch) {a1 : Int32}  {I : MI} {L : ML} {r : Int32} {I' : MI} (h : f_X11_image a1 I L = some (r, I')) : MetI g l yX11_image cX11_image 2 .int 2 [.ref (g.1 + 244), .int a1] I L r I' L := by
  unfold f_X11_image at h
  refine w_enter (by decide) (Nat.le_of_ble_eq_true rfl) (own := RX11) rfl ?_
  intro p e s m below meth c args Q hQ C hr hlocks hW ls hl
  have hl : lv_has ls 2 [(0, .ref (g.1 + 244)), (1, .int a1)] := hl
  refine lv_iload_n C.1.1 C.1.2.1 dX11_image_0 rfl (lv_at hl 1 rfl) ?_
  refine lv_i2l C.1.1 C.1.2.1 dX11_image_1 rfl ?_
  refine lv_lconst (v := 0) C.1.1 C.1.2.1 dX11_image_2 (by decide) ?_
  refine lv_lconst (v := 1) C.1.1 C.1.2.1 dX11_image_3 (by decide) ?_
  obtain ⟨r1, hc2, h⟩ := bd1_some h
  refine w_callSi (k := 3) (As := [.long a1.toInt64, .long (0 : Int64), .long (1 : Int64)]) (rest := []) C hW (c_X11_in g l  hc2 I L) K_X11_42 (by decide +kernel) ⟨by decide, by decide⟩ ⟨Nat.le_refl _, Nat.le_refl _⟩ rfl hl.1 rfl (Nat.le_of_ble_eq_true rfl) dX11_image_4 (fun H locs hW => ?_)
  refine lv_if_ne (tgt := 12) C.1.1 C.1.2.1 dX11_image_7 (by decide) (fun hc3 => ?_) (fun hc3 => ?_)
  · replace h := ite_f hc3 h
    refine lv_aload_n C.1.1 C.1.2.1 dX11_image_12 rfl (lv_at hl 0 rfl) ?_
    refine G_X11_7 C hW (by decide) dX11_image_13 ?_
    refine lv_iconst (v := 0) C.1.1 C.1.2.1 dX11_image_16 (by decide) ?_
    obtain ⟨hi4, h⟩ := gi_some h
    refine w_iald C hW (n := 1752) (by decide) (by decide) hi4 dX11_image_17 ?_
    refine lv_if_ne (tgt := 24) C.1.1 C.1.2.1 dX11_image_18 (by decide) (fun hc5 => ?_) (fun hc5 => ?_)
    · replace h := ite_f hc5 h
      refine lv_aload_n C.1.1 C.1.2.1 dX11_image_24 rfl (lv_at hl 0 rfl) ?_
      refine lv_iconst (v := 0) C.1.1 C.1.2.1 dX11_image_25 (by decide) ?_
      refine lv_bipush (v := 73) C.1.1 C.1.2.1 dX11_image_26 (by decide) ?_
      refine lv_iconst (v := 1) C.1.1 C.1.2.1 dX11_image_28 (by decide) ?_
      refine lv_iload_n C.1.1 C.1.2.1 dX11_image_29 rfl (lv_at hl 1 rfl) ?_
      refine lv_iadd C.1.1 C.1.2.1 dX11_image_30 ?_
      refine lv_imul C.1.1 C.1.2.1 dX11_image_31 ?_
      obtain ⟨I6, hc7, h⟩ := bd1_some h
      refine w_callVv (k := 2) (As := [.int (0 : Int32), .int ((73 : Int32) * ((1 : Int32) + a1))]) (rest := []) C hW (c_X11_copyRow g l  hc7) (by decide) rfl (EX_11 (by decide)) K_X11_90 (by decide +kernel) ⟨by decide, by decide⟩ ⟨Nat.le_refl _, Nat.le_refl _⟩ rfl hl.1 rfl (Nat.le_of_ble_eq_true rfl) dX11_image_32 (fun H locs hW => ?_)
      refine lv_aload_n C.1.1 C.1.2.1 dX11_image_35 rfl (lv_at hl 0 rfl) ?_
      refine G_X11_13 C hW (by decide) dX11_image_36 ?_
      refine lv_iload_n C.1.1 C.1.2.1 dX11_image_39 rfl (lv_at hl 1 rfl) ?_
      refine lv_iconst (v := 1) C.1.1 C.1.2.1 dX11_image_40 (by decide) ?_
      obtain ⟨hi8, h⟩ := gi_some h
      refine w_zast C hW (n := 2) (by decide) (by decide) hi8 (by decide) dX11_image_41 (fun H locs hW => ?_)
      obtain ⟨I9, eI9, h⟩ := nm_some h
      rw [← eI9] at hW
      clear eI9
      refine lv_aload_n C.1.1 C.1.2.1 dX11_image_42 rfl (lv_at hl 0 rfl) ?_
      refine lv_iconst (v := 0) C.1.1 C.1.2.1 dX11_image_43 (by decide) ?_
      obtain ⟨r10, hc11, h⟩ := bd1_some h
      refine w_callVi (k := 1) (As := [.int (0 : Int32)]) (rest := []) C hW (c_X11_sittingIn g l  hc11) (by decide) rfl (EX_11 (by decide)) K_X11_133 (by decide +kernel) ⟨by decide, by decide⟩ ⟨Nat.le_refl _, Nat.le_refl _⟩ rfl hl.1 rfl (Nat.le_of_ble_eq_true rfl) dX11_image_44 (fun H locs hW => ?_)
      obtain ⟨rfl, rfl⟩ := inj2 h
      subst hQ
      exact w_iret C hW hr hlocks dX11_image_47
    · replace h := ite_t hc5 h
      refine lv_bipush (v := -2) C.1.1 C.1.2.1 dX11_image_21 (by decide) ?_
      obtain ⟨rfl, rfl⟩ := inj2 h
      subst hQ
      exact w_iret C hW hr hlocks dX11_image_23
  · replace h := ite_t hc3 h
    refine lv_iconst (v := -1) C.1.1 C.1.2.1 dX11_image_10 (by decide) ?_
    obtain ⟨rfl, rfl⟩ := inj2 h
    subst hQ
    exact w_iret C hW hr hlocks dX11_image_11
def f_X11_restore (a1 : Int32) (I : MI) (L : ML) : Option (Int32 × MI) :=
  bd1 (f_X11_in a1.toInt64 (0 : Int64) (1 : Int64)) (fun r1 => (if r1 = 0 then some (((-1 : Int32), I)) else gi a1 2 ((if (I 246 a1.toNatClampNeg) = 0 then some (((-2 : Int32), I)) else bd1 (f_X11_copyRow ((73 : Int32) * ((1 : Int32) + a1)) (0 : Int32) I L) (fun I6 => nm (up2 I6 244 2 (0 : Int32)) (fun I8 => bd1 (f_X11_sittingIn (0 : Int32) I8 L) (fun r9 => some (r9, I8))))))))
set_option maxHeartbeats 4000000 in
set_option maxRecDepth 100000 in
theorem c_X11_restore (g : Gp) (l : Launch) {a1 : Int32}  {I : MI} {L : ML} {r : Int32} {I' : MI} (h : f_X11_restore a1 I L = some (r, I')) : MetI g l yX11_restore cX11_restore 2 .int 2 [.ref (g.1 + 244), .int a1] I L r I' L := by
  unfold f_X11_restore at h
  refine w_enter (by decide) (Nat.le_of_ble_eq_true rfl) (own := RX11) rfl ?_
  intro p e s m below meth c args Q hQ C hr hlocks hW ls hl
  have hl : lv_has ls 2 [(0, .ref (g.1 + 244)), (1, .int a1)] := hl
  refine lv_iload_n C.1.1 C.1.2.1 dX11_restore_0 rfl (lv_at hl 1 rfl) ?_
  refine lv_i2l C.1.1 C.1.2.1 dX11_restore_1 rfl ?_
  refine lv_lconst (v := 0) C.1.1 C.1.2.1 dX11_restore_2 (by decide) ?_
  refine lv_lconst (v := 1) C.1.1 C.1.2.1 dX11_restore_3 (by decide) ?_
  obtain ⟨r1, hc2, h⟩ := bd1_some h
  refine w_callSi (k := 3) (As := [.long a1.toInt64, .long (0 : Int64), .long (1 : Int64)]) (rest := []) C hW (c_X11_in g l  hc2 I L) K_X11_42 (by decide +kernel) ⟨by decide, by decide⟩ ⟨Nat.le_refl _, Nat.le_refl _⟩ rfl hl.1 rfl (Nat.le_of_ble_eq_true rfl) dX11_restore_4 (fun H locs hW => ?_)
  refine lv_if_ne (tgt := 12) C.1.1 C.1.2.1 dX11_restore_7 (by decide) (fun hc3 => ?_) (fun hc3 => ?_)
  · replace h := ite_f hc3 h
    refine lv_aload_n C.1.1 C.1.2.1 dX11_restore_12 rfl (lv_at hl 0 rfl) ?_
    refine G_X11_13 C hW (by decide) dX11_restore_13 ?_
    refine lv_iload_n C.1.1 C.1.2.1 dX11_restore_16 rfl (lv_at hl 1 rfl) ?_
    obtain ⟨hi4, h⟩ := gi_some h
    refine w_zald C hW (n := 2) (by decide) (by decide) hi4 dX11_restore_17 ?_
    refine lv_if_ne (tgt := 24) C.1.1 C.1.2.1 dX11_restore_18 (by decide) (fun hc5 => ?_) (fun hc5 => ?_)
    · replace h := ite_f hc5 h
      refine lv_aload_n C.1.1 C.1.2.1 dX11_restore_24 rfl (lv_at hl 0 rfl) ?_
      refine lv_bipush (v := 73) C.1.1 C.1.2.1 dX11_restore_25 (by decide) ?_
      refine lv_iconst (v := 1) C.1.1 C.1.2.1 dX11_restore_27 (by decide) ?_
      refine lv_iload_n C.1.1 C.1.2.1 dX11_restore_28 rfl (lv_at hl 1 rfl) ?_
      refine lv_iadd C.1.1 C.1.2.1 dX11_restore_29 ?_
      refine lv_imul C.1.1 C.1.2.1 dX11_restore_30 ?_
      refine lv_iconst (v := 0) C.1.1 C.1.2.1 dX11_restore_31 (by decide) ?_
      obtain ⟨I6, hc7, h⟩ := bd1_some h
      refine w_callVv (k := 2) (As := [.int ((73 : Int32) * ((1 : Int32) + a1)), .int (0 : Int32)]) (rest := []) C hW (c_X11_copyRow g l  hc7) (by decide) rfl (EX_11 (by decide)) K_X11_90 (by decide +kernel) ⟨by decide, by decide⟩ ⟨Nat.le_refl _, Nat.le_refl _⟩ rfl hl.1 rfl (Nat.le_of_ble_eq_true rfl) dX11_restore_32 (fun H locs hW => ?_)
      refine lv_aload_n C.1.1 C.1.2.1 dX11_restore_35 rfl (lv_at hl 0 rfl) ?_
      refine lv_iconst (v := 0) C.1.1 C.1.2.1 dX11_restore_36 (by decide) ?_
      refine P_X11_94 C hW (by decide) dX11_restore_37 (fun H locs hW => ?_)
      obtain ⟨I8, eI8, h⟩ := nm_some h
      rw [← eI8] at hW
      clear eI8
      refine lv_aload_n C.1.1 C.1.2.1 dX11_restore_40 rfl (lv_at hl 0 rfl) ?_
      refine lv_iconst (v := 0) C.1.1 C.1.2.1 dX11_restore_41 (by decide) ?_
      obtain ⟨r9, hc10, h⟩ := bd1_some h
      refine w_callVi (k := 1) (As := [.int (0 : Int32)]) (rest := []) C hW (c_X11_sittingIn g l  hc10) (by decide) rfl (EX_11 (by decide)) K_X11_133 (by decide +kernel) ⟨by decide, by decide⟩ ⟨Nat.le_refl _, Nat.le_refl _⟩ rfl hl.1 rfl (Nat.le_of_ble_eq_true rfl) dX11_restore_42 (fun H locs hW => ?_)
      obtain ⟨rfl, rfl⟩ := inj2 h
      subst hQ
      exact w_iret C hW hr hlocks dX11_restore_45
    · replace h := ite_t hc5 h
      refine lv_bipush (v := -2) C.1.1 C.1.2.1 dX11_restore_21 (by decide) ?_
      obtain ⟨rfl, rfl⟩ := inj2 h
      subst hQ
      exact w_iret C hW hr hlocks dX11_restore_23
  · replace h := ite_t hc3 h
    refine lv_iconst (v := -1) C.1.1 C.1.2.1 dX11_restore_10 (by decide) ?_
    obtain ⟨rfl, rfl⟩ := inj2 h
    subst hQ
    exact w_iret C hW hr hlocks dX11_restore_11
def b_X11_passesMany_2 (v1 : Int32) (L : ML) (z2 : Int32) (I : MI) : Option ((Int32 × MI) ⊕ ((MI))) :=
  (if v1 ≤ z2 then some (Sum.inr I) else bd1 (f_X11_passes (219 : Int32) I L) (fun I2 => nm (z2 + (1 : Int32)) (fun x4 => some (Sum.inl (x4, I2)))))
set_option maxHeartbeats 4000000 in
set_option maxRecDepth 100000 in
theorem l_X11_passesMany_2 {g : Gp} {p : Program} {l : Launch} {e : Env} {s : State} {m : MethodId} {args : Array Value} {below : List Frame} {meth : Method} {c : Code} {Q : State → Prop}  (C : Cx g p s m args c RX11 cX11_passesMany 3) (v1 : Int32)  (L : ML) : ∀ (n : Nat) (z2 : Int32) (I : MI) (Iy0 : MI), lp (fun s => b_X11_passesMany_2 v1 L s.1 s.2) n (z2, I) = some Iy0 → ∀ (H : Heap) (locs : List Loc) (ls : Array Slot), Ws g s I L H locs → lv_has ls 3 [(0, .ref (g.1 + 244)), (1, .int v1), (2, .int z2)] → (∀ (H : Heap) (locs : List Loc) (ls : Array Slot), Ws g s Iy0 L H locs → lv_has ls 3 [] → W p l e (rmD 4) s m args below meth c H locs 0 0 Q (F0 m 20 ls [])) → W p l e (rmD 4) s m args below meth c H locs 0 0 Q (F0 m 2 ls []) := by
  intro n
  induction n with
  | zero => intro z2 I Iy0 h; exact lp_zero h
  | succ n ih =>
      intro z2 I Iy0 h H locs ls hW hl hx0
      obtain ⟨r9, h, h9⟩ := lp_some h
      have h : b_X11_passesMany_2 v1 L z2 I = some r9 := h
      unfold b_X11_passesMany_2 at h
      refine lv_iload_n C.1.1 C.1.2.1 dX11_passesMany_2 rfl (lv_at hl 2 rfl) ?_
      refine lv_iload_n C.1.1 C.1.2.1 dX11_passesMany_3 rfl (lv_at hl 1 rfl) ?_
      refine lv_icmp_ge (tgt := 20) C.1.1 C.1.2.1 dX11_passesMany_4 (by decide) (fun hc1 => ?_) (fun hc1 => ?_)
      · replace h := ite_t hc1 h
        obtain rfl := Option.some.inj h
        replace h9 := Option.some.inj h9
        obtain rfl := pnj1 h9
        exact hx0 _ _ _ hW (lv_sub hl [] rfl)
      · replace h := ite_f hc1 h
        refine lv_aload_n C.1.1 C.1.2.1 dX11_passesMany_7 rfl (lv_at hl 0 rfl) ?_
        refine lv_sipush (v := 219) C.1.1 C.1.2.1 dX11_passesMany_8 (by decide) ?_
        obtain ⟨I2, hc3, h⟩ := bd1_some h
        refine w_callVv (k := 1) (As := [.int (219 : Int32)]) (rest := []) C hW (c_X11_passes g l  hc3) (by decide) rfl (EX_11 (by decide)) K_X11_129 (by decide +kernel) ⟨by decide, by decide⟩ ⟨Nat.le_refl _, Nat.le_refl _⟩ rfl hl.1 rfl (Nat.le_of_ble_eq_true rfl) dX11_passesMany_11 (fun H locs hW => ?_)
        obtain ⟨x4, ex4⟩ : ∃ y : Int32, y = z2 + (1 : Int32) := ⟨_, rfl⟩
        replace h := nm_at ex4 h
        refine lv_iinc (v := x4) (lv' := [(2, .int x4), (0, .ref (g.1 + 244)), (1, .int v1)]) C.1.1 C.1.2.1 dX11_passesMany_14 hl (k := 2) rfl (by rw [ex4]; rfl) (by decide) rfl (fun ls hl => ?_)
        clear ex4
        refine lv_goto (tgt := 2) C.1.1 C.1.2.1 dX11_passesMany_17 (by decide) ?_
        obtain rfl := Option.some.inj h
        exact ih _ _ _ h9 _ _ _ hW (lv_sub hl [1, 2, 0] rfl) hx0
def f_X11_passesMany (a1 : Int32) (I : MI) (L : ML) : Option (MI) :=
  bd1 (lp (fun s => b_X11_passesMany_2 a1 L s.1 s.2) FU (((0 : Int32), I))) (fun I6 => some I6)
set_option maxHeartbeats 4000000 in
set_option maxRecDepth 100000 in
theorem c_X11_passesMany (g : Gp) (l : Launch) {a1 : Int32}  {I : MI} {L : ML} {I' : MI} (h : f_X11_passesMany a1 I L = some I') : MetV g l yX11_passesMany cX11_passesMany 3 4 [.ref (g.1 + 244), .int a1] I L I' L := by
  unfold f_X11_passesMany at h
  refine w_enter (by decide) (Nat.le_of_ble_eq_true rfl) (own := RX11) rfl ?_
  intro p e s m below meth c args Q hQ C hr hlocks hW ls hl
  have hl : lv_has ls 3 [(0, .ref (g.1 + 244)), (1, .int a1)] := hl
  refine lv_iconst (v := 0) C.1.1 C.1.2.1 dX11_passesMany_0 (by decide) ?_
  refine lv_istore_n (lv' := [(2, .int (0 : Int32)), (0, .ref (g.1 + 244)), (1, .int a1)]) C.1.1 C.1.2.1 dX11_passesMany_1 rfl hl (by decide) rfl (fun ls hl => ?_)
  obtain ⟨I6, hq5, h⟩ := bd1_some h
  refine l_X11_passesMany_2 C a1  L _ _ _ _ hq5 _ _ _ hW (lv_sub hl [1, 2, 0] rfl) (fun H locs ls hW hl => ?_)
  obtain rfl := inj1 h
  subst hQ
  exact w_vret C hW hr hlocks dX11_passesMany_20
def f_X11_strain (a1 : Int32) (a2 : Int32) (I : MI) (L : ML) : Option (Int32 × MI) :=
  bd1 (f_X11_isSitter a1 I L) (fun r1 => (if r1 = 0 then some (((-1 : Int32), I)) else bd1 (f_X11_in a2.toInt64 (0 : Int64) (60 : Int64)) (fun r4 => (if r4 = 0 then some (((-1 : Int32), I)) else bd1 (f_X11_copyRow (0 : Int32) (219 : Int32) I L) (fun I7 => bd1 (f_X11_passesMany a2 I7 L) (fun I9 => gi ((256 : Int32) + a1) 1752 (some ((I9 245 ((256 : Int32) + a1).toNatClampNeg, I9)))))))))
set_option maxHeartbeats 4000000 in
set_option maxRecDepth 100000 in
theorem c_X11_strain (g : Gp) (l : Launch) {a1 : Int32} {a2 : Int32}  {I : MI} {L : ML} {r : Int32} {I' : MI} (h : f_X11_strain a1 a2 I L = some (r, I')) : MetI g l yX11_strain cX11_strain 3 .int 5 [.ref (g.1 + 244), .int a1, .int a2] I L r I' L := by
  unfold f_X11_strain at h
  refine w_enter (by decide) (Nat.le_of_ble_eq_true rfl) (own := RX11) rfl ?_
  intro p e s m below meth c args Q hQ C hr hlocks hW ls hl
  have hl : lv_has ls 3 [(0, .ref (g.1 + 244)), (1, .int a1), (2, .int a2)] := hl
  refine lv_aload_n C.1.1 C.1.2.1 dX11_strain_0 rfl (lv_at hl 0 rfl) ?_
  refine lv_iload_n C.1.1 C.1.2.1 dX11_strain_1 rfl (lv_at hl 1 rfl) ?_
  obtain ⟨r1, hc2, h⟩ := bd1_some h
  refine w_callVi (k := 1) (As := [.int a1]) (rest := []) C hW (c_X11_isSitter g l  hc2) (by decide) rfl (EX_11 (by decide)) K_X11_115 (by decide +kernel) ⟨by decide, by decide⟩ ⟨Nat.le_refl _, Nat.le_refl _⟩ rfl hl.1 rfl (Nat.le_of_ble_eq_true rfl) dX11_strain_2 (fun H locs hW => ?_)
  refine lv_if_eq (tgt := 20) C.1.1 C.1.2.1 dX11_strain_5 (by decide) (fun hc3 => ?_) (fun hc3 => ?_)
  · replace h := ite_t hc3 h
    refine lv_iconst (v := -1) C.1.1 C.1.2.1 dX11_strain_20 (by decide) ?_
    obtain ⟨rfl, rfl⟩ := inj2 h
    subst hQ
    exact w_iret C hW hr hlocks dX11_strain_21
  · replace h := ite_f hc3 h
    refine lv_iload_n C.1.1 C.1.2.1 dX11_strain_8 rfl (lv_at hl 2 rfl) ?_
    refine lv_i2l C.1.1 C.1.2.1 dX11_strain_9 rfl ?_
    refine lv_lconst (v := 0) C.1.1 C.1.2.1 dX11_strain_10 (by decide) ?_
    refine lv_ldc2 C.1.1 C.1.2.1 C.1.2.2.2.1 (C.1.2.2.2.2 _ kl_X11_141) dX11_strain_11 ?_
    obtain ⟨r4, hc5, h⟩ := bd1_some h
    refine w_callSi (k := 3) (As := [.long a2.toInt64, .long (0 : Int64), .long (60 : Int64)]) (rest := []) C hW (c_X11_in g l  hc5 I L) K_X11_42 (by decide +kernel) ⟨by decide, by decide⟩ ⟨Nat.le_refl _, Nat.le_refl _⟩ rfl hl.1 rfl (Nat.le_of_ble_eq_true rfl) dX11_strain_14 (fun H locs hW => ?_)
    refine lv_if_ne (tgt := 22) C.1.1 C.1.2.1 dX11_strain_17 (by decide) (fun hc6 => ?_) (fun hc6 => ?_)
    · replace h := ite_f hc6 h
      refine lv_aload_n C.1.1 C.1.2.1 dX11_strain_22 rfl (lv_at hl 0 rfl) ?_
      refine lv_iconst (v := 0) C.1.1 C.1.2.1 dX11_strain_23 (by decide) ?_
      refine lv_sipush (v := 219) C.1.1 C.1.2.1 dX11_strain_24 (by decide) ?_
      obtain ⟨I7, hc8, h⟩ := bd1_some h
      refine w_callVv (k := 2) (As := [.int (0 : Int32), .int (219 : Int32)]) (rest := []) C hW (c_X11_copyRow g l  hc8) (by decide) rfl (EX_11 (by decide)) K_X11_90 (by decide +kernel) ⟨by decide, by decide⟩ ⟨Nat.le_refl _, Nat.le_refl _⟩ rfl hl.1 rfl (Nat.le_of_ble_eq_true rfl) dX11_strain_27 (fun H locs hW => ?_)
      refine lv_aload_n C.1.1 C.1.2.1 dX11_strain_30 rfl (lv_at hl 0 rfl) ?_
      refine lv_iload_n C.1.1 C.1.2.1 dX11_strain_31 rfl (lv_at hl 2 rfl) ?_
      obtain ⟨I9, hc10, h⟩ := bd1_some h
      refine w_callVv (k := 1) (As := [.int a2]) (rest := []) C hW (c_X11_passesMany g l  hc10) (by decide) rfl (EX_11 (by decide)) K_X11_143 (by decide +kernel) ⟨by decide, by decide⟩ ⟨Nat.le_refl _, Nat.le_refl _⟩ rfl hl.1 rfl (Nat.le_of_ble_eq_true rfl) dX11_strain_32 (fun H locs hW => ?_)
      refine lv_aload_n C.1.1 C.1.2.1 dX11_strain_35 rfl (lv_at hl 0 rfl) ?_
      refine G_X11_7 C hW (by decide) dX11_strain_36 ?_
      refine lv_sipush (v := 256) C.1.1 C.1.2.1 dX11_strain_39 (by decide) ?_
      refine lv_iload_n C.1.1 C.1.2.1 dX11_strain_42 rfl (lv_at hl 1 rfl) ?_
      refine lv_iadd C.1.1 C.1.2.1 dX11_strain_43 ?_
      obtain ⟨hi11, h⟩ := gi_some h
      refine w_iald C hW (n := 1752) (by decide) (by decide) hi11 dX11_strain_44 ?_
      obtain ⟨rfl, rfl⟩ := inj2 h
      subst hQ
      exact w_iret C hW hr hlocks dX11_strain_45
    · replace h := ite_t hc6 h
      refine lv_iconst (v := -1) C.1.1 C.1.2.1 dX11_strain_20 (by decide) ?_
      obtain ⟨rfl, rfl⟩ := inj2 h
      subst hQ
      exact w_iret C hW hr hlocks dX11_strain_21
def f_X11_downIn (a1 : Int32) (I : MI) (L : ML) : Option (Int32) :=
  bd1 (f_X11_isDown (219 : Int32) a1 I L) (fun r1 => bd1 ((if r1 = 0 then some (1000000 : Int32) else gi ((286 : Int32) + a1) 1752 (gi (4 : Int32) 1752 (some (((I 245 ((286 : Int32) + a1).toNatClampNeg) - (I 245 (4 : Int32).toNatClampNeg)) + (1 : Int32)))))) (fun y3 => some y3))
set_option maxHeartbeats 4000000 in
set_option maxRecDepth 100000 in
theorem c_X11_downIn (g : Gp) (l : Launch) {a1 : Int32}  {I : MI} {L : ML} {r : Int32} (h : f_X11_downIn a1 I L = some r) : MetI g l yX11_downIn cX11_downIn 2 .int 1 [.ref (g.1 + 244), .int a1] I L r I L := by
  unfold f_X11_downIn at h
  refine w_enter (by decide) (Nat.le_of_ble_eq_true rfl) (own := RX11) rfl ?_
  intro p e s m below meth c args Q hQ C hr hlocks hW ls hl
  have hl : lv_has ls 2 [(0, .ref (g.1 + 244)), (1, .int a1)] := hl
  refine lv_aload_n C.1.1 C.1.2.1 dX11_downIn_0 rfl (lv_at hl 0 rfl) ?_
  refine lv_sipush (v := 219) C.1.1 C.1.2.1 dX11_downIn_1 (by decide) ?_
  refine lv_iload_n C.1.1 C.1.2.1 dX11_downIn_4 rfl (lv_at hl 1 rfl) ?_
  obtain ⟨r1, hc2, h⟩ := bd1_some h
  refine w_callVi (k := 2) (As := [.int (219 : Int32), .int a1]) (rest := []) C hW (c_X11_isDown g l  hc2) (by decide) rfl (EX_11 (by decide)) K_X11_100 (by decide +kernel) ⟨by decide, by decide⟩ ⟨Nat.le_refl _, Nat.le_refl _⟩ rfl hl.1 rfl (Nat.le_of_ble_eq_true rfl) dX11_downIn_5 (fun H locs hW => ?_)
  obtain ⟨y3, hj5, h⟩ := bd1_some h
  have kJ4 : ∀ (H : Heap) (locs : List Loc) (ls : Array Slot), Ws g s I L H locs → lv_has ls 2 [] → W p l e (rmD 1) s m args below meth c H locs 0 0 Q (F0 m 35 ls [.int y3]) := by
    intro H locs ls hW hl
    obtain rfl := inj1 h
    subst hQ
    exact w_iret C hW hr hlocks dX11_downIn_35
  clear h
  have h := hj5
  clear hj5
  refine lv_if_eq (tgt := 33) C.1.1 C.1.2.1 dX11_downIn_8 (by decide) (fun hc6 => ?_) (fun hc6 => ?_)
  · replace h := ite_t hc6 h
    refine lv_ldc C.1.1 C.1.2.1 C.1.2.2.2.1 (C.1.2.2.2.2 _ kc_X11_146) dX11_downIn_33 ?_
    obtain rfl := inj1 h
    exact kJ4 _ _ _ hW (lv_sub hl [] rfl)
  · replace h := ite_f hc6 h
    refine lv_aload_n C.1.1 C.1.2.1 dX11_downIn_11 rfl (lv_at hl 0 rfl) ?_
    refine G_X11_7 C hW (by decide) dX11_downIn_12 ?_
    refine lv_sipush (v := 286) C.1.1 C.1.2.1 dX11_downIn_15 (by decide) ?_
    refine lv_iload_n C.1.1 C.1.2.1 dX11_downIn_18 rfl (lv_at hl 1 rfl) ?_
    refine lv_iadd C.1.1 C.1.2.1 dX11_downIn_19 ?_
    obtain ⟨hi7, h⟩ := gi_some h
    refine w_iald C hW (n := 1752) (by decide) (by decide) hi7 dX11_downIn_20 ?_
    refine lv_aload_n C.1.1 C.1.2.1 dX11_downIn_21 rfl (lv_at hl 0 rfl) ?_
    refine G_X11_7 C hW (by decide) dX11_downIn_22 ?_
    refine lv_iconst (v := 4) C.1.1 C.1.2.1 dX11_downIn_25 (by decide) ?_
    obtain ⟨hi8, h⟩ := gi_some h
    refine w_iald C hW (n := 1752) (by decide) (by decide) hi8 dX11_downIn_26 ?_
    refine lv_isub C.1.1 C.1.2.1 dX11_downIn_27 ?_
    refine lv_iconst (v := 1) C.1.1 C.1.2.1 dX11_downIn_28 (by decide) ?_
    refine lv_iadd C.1.1 C.1.2.1 dX11_downIn_29 ?_
    refine lv_goto (tgt := 35) C.1.1 C.1.2.1 dX11_downIn_30 (by decide) ?_
    obtain rfl := inj1 h
    exact kJ4 _ _ _ hW (lv_sub hl [] rfl)
def f_X11_triesSixty  (I : MI) (L : ML) : Option (MI) :=
  bd1 (f_X11_copyRow (0 : Int32) (219 : Int32) I L) (fun I1 => bd1 (f_X11_passesMany (60 : Int32) I1 L) (fun I3 => some I3))
set_option maxHeartbeats 4000000 in
set_option maxRecDepth 100000 in
theorem c_X11_triesSixty (g : Gp) (l : Launch)   {I : MI} {L : ML} {I' : MI} (h : f_X11_triesSixty  I L = some I') : MetV g l yX11_triesSixty cX11_triesSixty 1 5 [.ref (g.1 + 244)] I L I' L := by
  unfold f_X11_triesSixty at h
  refine w_enter (by decide) (Nat.le_of_ble_eq_true rfl) (own := RX11) rfl ?_
  intro p e s m below meth c args Q hQ C hr hlocks hW ls hl
  have hl : lv_has ls 1 [(0, .ref (g.1 + 244))] := hl
  refine lv_aload_n C.1.1 C.1.2.1 dX11_triesSixty_0 rfl (lv_at hl 0 rfl) ?_
  refine lv_iconst (v := 0) C.1.1 C.1.2.1 dX11_triesSixty_1 (by decide) ?_
  refine lv_sipush (v := 219) C.1.1 C.1.2.1 dX11_triesSixty_2 (by decide) ?_
  obtain ⟨I1, hc2, h⟩ := bd1_some h
  refine w_callVv (k := 2) (As := [.int (0 : Int32), .int (219 : Int32)]) (rest := []) C hW (c_X11_copyRow g l  hc2) (by decide) rfl (EX_11 (by decide)) K_X11_90 (by decide +kernel) ⟨by decide, by decide⟩ ⟨Nat.le_refl _, Nat.le_refl _⟩ rfl hl.1 rfl (Nat.le_of_ble_eq_true rfl) dX11_triesSixty_5 (fun H locs hW => ?_)
  refine lv_aload_n C.1.1 C.1.2.1 dX11_triesSixty_8 rfl (lv_at hl 0 rfl) ?_
  refine lv_bipush (v := 60) C.1.1 C.1.2.1 dX11_triesSixty_9 (by decide) ?_
  obtain ⟨I3, hc4, h⟩ := bd1_some h
  refine w_callVv (k := 1) (As := [.int (60 : Int32)]) (rest := []) C hW (c_X11_passesMany g l  hc4) (by decide) rfl (EX_11 (by decide)) K_X11_143 (by decide +kernel) ⟨by decide, by decide⟩ ⟨Nat.le_refl _, Nat.le_refl _⟩ rfl hl.1 rfl (Nat.le_of_ble_eq_true rfl) dX11_triesSixty_11 (fun H locs hW => ?_)
  obtain rfl := inj1 h
  subst hQ
  exact w_vret C hW hr hlocks dX11_triesSixty_14
def f_X11_down (a1 : Int32) (I : MI) (L : ML) : Option (Int32 × MI) :=
  bd1 (f_X11_isSitter a1 I L) (fun r1 => (if r1 = 0 then some (((-1 : Int32), I)) else bd1 (f_X11_isDown (0 : Int32) a1 I L) (fun r4 => (if r4 = 0 then bd1 (f_X11_triesSixty  I L) (fun I7 => bd1 (f_X11_downIn a1 I7 L) (fun r9 => bd1 ((if r9 = (1000000 : Int32) then some (-4 : Int32) else bd1 (f_X11_downIn a1 I7 L) (fun r15 => some r15))) (fun y11 => some (y11, I7)))) else some (((0 : Int32), I))))))
set_option maxHeartbeats 4000000 in
set_option maxRecDepth 100000 in
theorem c_X11_down (g : Gp) (l : Launch) {a1 : Int32}  {I : MI} {L : ML} {r : Int32} {I' : MI} (h : f_X11_down a1 I L = some (r, I')) : MetI g l yX11_down cX11_down 2 .int 6 [.ref (g.1 + 244), .int a1] I L r I' L := by
  unfold f_X11_down at h
  refine w_enter (by decide) (Nat.le_of_ble_eq_true rfl) (own := RX11) rfl ?_
  intro p e s m below meth c args Q hQ C hr hlocks hW ls hl
  have hl : lv_has ls 2 [(0, .ref (g.1 + 244)), (1, .int a1)] := hl
  refine lv_aload_n C.1.1 C.1.2.1 dX11_down_0 rfl (lv_at hl 0 rfl) ?_
  refine lv_iload_n C.1.1 C.1.2.1 dX11_down_1 rfl (lv_at hl 1 rfl) ?_
  obtain ⟨r1, hc2, h⟩ := bd1_some h
  refine w_callVi (k := 1) (As := [.int a1]) (rest := []) C hW (c_X11_isSitter g l  hc2) (by decide) rfl (EX_11 (by decide)) K_X11_115 (by decide +kernel) ⟨by decide, by decide⟩ ⟨Nat.le_refl _, Nat.le_refl _⟩ rfl hl.1 rfl (Nat.le_of_ble_eq_true rfl) dX11_down_2 (fun H locs hW => ?_)
  refine lv_if_ne (tgt := 10) C.1.1 C.1.2.1 dX11_down_5 (by decide) (fun hc3 => ?_) (fun hc3 => ?_)
  · replace h := ite_f hc3 h
    refine lv_aload_n C.1.1 C.1.2.1 dX11_down_10 rfl (lv_at hl 0 rfl) ?_
    refine lv_iconst (v := 0) C.1.1 C.1.2.1 dX11_down_11 (by decide) ?_
    refine lv_iload_n C.1.1 C.1.2.1 dX11_down_12 rfl (lv_at hl 1 rfl) ?_
    obtain ⟨r4, hc5, h⟩ := bd1_some h
    refine w_callVi (k := 2) (As := [.int (0 : Int32), .int a1]) (rest := []) C hW (c_X11_isDown g l  hc5) (by decide) rfl (EX_11 (by decide)) K_X11_100 (by decide +kernel) ⟨by decide, by decide⟩ ⟨Nat.le_refl _, Nat.le_refl _⟩ rfl hl.1 rfl (Nat.le_of_ble_eq_true rfl) dX11_down_13 (fun H locs hW => ?_)
    refine lv_if_eq (tgt := 21) C.1.1 C.1.2.1 dX11_down_16 (by decide) (fun hc6 => ?_) (fun hc6 => ?_)
    · replace h := ite_t hc6 h
      refine lv_aload_n C.1.1 C.1.2.1 dX11_down_21 rfl (lv_at hl 0 rfl) ?_
      obtain ⟨I7, hc8, h⟩ := bd1_some h
      refine w_callVv (k := 0) (As := []) (rest := []) C hW (c_X11_triesSixty g l  hc8) (by decide) rfl (EX_11 (by decide)) K_X11_147 (by decide +kernel) ⟨by decide, by decide⟩ ⟨Nat.le_refl _, Nat.le_refl _⟩ rfl hl.1 rfl (Nat.le_of_ble_eq_true rfl) dX11_down_22 (fun H locs hW => ?_)
      refine lv_aload_n C.1.1 C.1.2.1 dX11_down_25 rfl (lv_at hl 0 rfl) ?_
      refine lv_iload_n C.1.1 C.1.2.1 dX11_down_26 rfl (lv_at hl 1 rfl) ?_
      obtain ⟨r9, hc10, h⟩ := bd1_some h
      refine w_callVi (k := 1) (As := [.int a1]) (rest := []) C hW (c_X11_downIn g l  hc10) (by decide) rfl (EX_11 (by decide)) K_X11_150 (by decide +kernel) ⟨by decide, by decide⟩ ⟨Nat.le_refl _, Nat.le_refl _⟩ rfl hl.1 rfl (Nat.le_of_ble_eq_true rfl) dX11_down_27 (fun H locs hW => ?_)
      refine lv_ldc C.1.1 C.1.2.1 C.1.2.2.2.1 (C.1.2.2.2.2 _ kc_X11_146) dX11_down_30 ?_
      obtain ⟨y11, hj13, h⟩ := bd1_some h
      have kJ12 : ∀ (H : Heap) (locs : List Loc) (ls : Array Slot), Ws g s I7 L H locs → lv_has ls 2 [] → W p l e (rmD 6) s m args below meth c H locs 0 0 Q (F0 m 45 ls [.int y11]) := by
        intro H locs ls hW hl
        obtain ⟨rfl, rfl⟩ := inj2 h
        subst hQ
        exact w_iret C hW hr hlocks dX11_down_45
      clear h
      have h := hj13
      clear hj13
      refine lv_icmp_ne (tgt := 40) C.1.1 C.1.2.1 dX11_down_32 (by decide) (fun hc14 => ?_) (fun hc14 => ?_)
      · replace h := ite_f hc14 h
        refine lv_aload_n C.1.1 C.1.2.1 dX11_down_40 rfl (lv_at hl 0 rfl) ?_
        refine lv_iload_n C.1.1 C.1.2.1 dX11_down_41 rfl (lv_at hl 1 rfl) ?_
        obtain ⟨r15, hc16, h⟩ := bd1_some h
        refine w_callVi (k := 1) (As := [.int a1]) (rest := []) C hW (c_X11_downIn g l  hc16) (by decide) rfl (EX_11 (by decide)) K_X11_150 (by decide +kernel) ⟨by decide, by decide⟩ ⟨Nat.le_refl _, Nat.le_refl _⟩ rfl hl.1 rfl (Nat.le_of_ble_eq_true rfl) dX11_down_42 (fun H locs hW => ?_)
        obtain rfl := inj1 h
        exact kJ12 _ _ _ hW (lv_sub hl [] rfl)
      · replace h := ite_t hc14 h
        refine lv_bipush (v := -4) C.1.1 C.1.2.1 dX11_down_35 (by decide) ?_
        refine lv_goto (tgt := 45) C.1.1 C.1.2.1 dX11_down_37 (by decide) ?_
        obtain rfl := inj1 h
        exact kJ12 _ _ _ hW (lv_sub hl [] rfl)
    · replace h := ite_f hc6 h
      refine lv_iconst (v := 0) C.1.1 C.1.2.1 dX11_down_19 (by decide) ?_
      obtain ⟨rfl, rfl⟩ := inj2 h
      subst hQ
      exact w_iret C hW hr hlocks dX11_down_20
  · replace h := ite_t hc3 h
    refine lv_iconst (v := -1) C.1.1 C.1.2.1 dX11_down_8 (by decide) ?_
    obtain ⟨rfl, rfl⟩ := inj2 h
    subst hQ
    exact w_iret C hW hr hlocks dX11_down_9
def f_X11_areTwo (a1 : Int32) (a2 : Int32) (I : MI) (L : ML) : Option (Int32) :=
  bd1 (f_X11_isSitter a1 I L) (fun r1 => bd1 ((if r1 = 0 then some (0 : Int32) else bd1 (f_X11_isSitter a2 I L) (fun r8 => (if r8 = 0 then some (0 : Int32) else (if a1 = a2 then some (0 : Int32) else some (1 : Int32)))))) (fun y3 => gd (y3 = 0 ∨ y3 = 1) (some y3)))
set_option maxHeartbeats 4000000 in
set_option maxRecDepth 100000 in
theorem c_X11_areTwo (g : Gp) (l : Launch) {a1 : Int32} {a2 : Int32}  {I : MI} {L : ML} {r : Int32} (h : f_X11_areTwo a1 a2 I L = some r) : MetI g l yX11_areTwo cX11_areTwo 3 .boolean 2 [.ref (g.1 + 244), .int a1, .int a2] I L r I L := by
  unfold f_X11_areTwo at h
  refine w_enter (by decide) (Nat.le_of_ble_eq_true rfl) (own := RX11) rfl ?_
  intro p e s m below meth c args Q hQ C hr hlocks hW ls hl
  have hl : lv_has ls 3 [(0, .ref (g.1 + 244)), (1, .int a1), (2, .int a2)] := hl
  refine lv_aload_n C.1.1 C.1.2.1 dX11_areTwo_0 rfl (lv_at hl 0 rfl) ?_
  refine lv_iload_n C.1.1 C.1.2.1 dX11_areTwo_1 rfl (lv_at hl 1 rfl) ?_
  obtain ⟨r1, hc2, h⟩ := bd1_some h
  refine w_callVi (k := 1) (As := [.int a1]) (rest := []) C hW (c_X11_isSitter g l  hc2) (by decide) rfl (EX_11 (by decide)) K_X11_115 (by decide +kernel) ⟨by decide, by decide⟩ ⟨Nat.le_refl _, Nat.le_refl _⟩ rfl hl.1 rfl (Nat.le_of_ble_eq_true rfl) dX11_areTwo_2 (fun H locs hW => ?_)
  obtain ⟨y3, hj5, h⟩ := bd1_some h
  have kJ4 : ∀ (H : Heap) (locs : List Loc) (ls : Array Slot), Ws g s I L H locs → lv_has ls 3 [] → W p l e (rmD 2) s m args below meth c H locs 0 0 Q (F0 m 26 ls [.int y3]) := by
    intro H locs ls hW hl
    obtain ⟨hb6, h⟩ := gd_some h
    obtain rfl := inj1 h
    subst hQ
    exact w_zret C hW hr hlocks hb6 dX11_areTwo_26
  clear h
  have h := hj5
  clear hj5
  refine lv_if_eq (tgt := 25) C.1.1 C.1.2.1 dX11_areTwo_5 (by decide) (fun hc7 => ?_) (fun hc7 => ?_)
  · replace h := ite_t hc7 h
    refine lv_iconst (v := 0) C.1.1 C.1.2.1 dX11_areTwo_25 (by decide) ?_
    obtain rfl := inj1 h
    exact kJ4 _ _ _ hW (lv_sub hl [] rfl)
  · replace h := ite_f hc7 h
    refine lv_aload_n C.1.1 C.1.2.1 dX11_areTwo_8 rfl (lv_at hl 0 rfl) ?_
    refine lv_iload_n C.1.1 C.1.2.1 dX11_areTwo_9 rfl (lv_at hl 2 rfl) ?_
    obtain ⟨r8, hc9, h⟩ := bd1_some h
    refine w_callVi (k := 1) (As := [.int a2]) (rest := []) C hW (c_X11_isSitter g l  hc9) (by decide) rfl (EX_11 (by decide)) K_X11_115 (by decide +kernel) ⟨by decide, by decide⟩ ⟨Nat.le_refl _, Nat.le_refl _⟩ rfl hl.1 rfl (Nat.le_of_ble_eq_true rfl) dX11_areTwo_10 (fun H locs hW => ?_)
    refine lv_if_eq (tgt := 25) C.1.1 C.1.2.1 dX11_areTwo_13 (by decide) (fun hc10 => ?_) (fun hc10 => ?_)
    · replace h := ite_t hc10 h
      refine lv_iconst (v := 0) C.1.1 C.1.2.1 dX11_areTwo_25 (by decide) ?_
      obtain rfl := inj1 h
      exact kJ4 _ _ _ hW (lv_sub hl [] rfl)
    · replace h := ite_f hc10 h
      refine lv_iload_n C.1.1 C.1.2.1 dX11_areTwo_16 rfl (lv_at hl 1 rfl) ?_
      refine lv_iload_n C.1.1 C.1.2.1 dX11_areTwo_17 rfl (lv_at hl 2 rfl) ?_
      refine lv_icmp_eq (tgt := 25) C.1.1 C.1.2.1 dX11_areTwo_18 (by decide) (fun hc11 => ?_) (fun hc11 => ?_)
      · replace h := ite_t hc11 h
        refine lv_iconst (v := 0) C.1.1 C.1.2.1 dX11_areTwo_25 (by decide) ?_
        obtain rfl := inj1 h
        exact kJ4 _ _ _ hW (lv_sub hl [] rfl)
      · replace h := ite_f hc11 h
        refine lv_iconst (v := 1) C.1.1 C.1.2.1 dX11_areTwo_21 (by decide) ?_
        refine lv_goto (tgt := 26) C.1.1 C.1.2.1 dX11_areTwo_22 (by decide) ?_
        obtain rfl := inj1 h
        exact kJ4 _ _ _ hW (lv_sub hl [] rfl)
def f_X11_duel (a1 : Int32) (a2 : Int32) (I : MI) (L : ML) : Option (Int32 × MI) :=
  bd1 (f_X11_areTwo a1 a2 I L) (fun r1 => (if r1 = 0 then some (((-1 : Int32), I)) else bd1 (f_X11_isDown (0 : Int32) a1 I L) (fun r4 => (if r4 = 0 then bd1 (f_X11_isDown (0 : Int32) a2 I L) (fun r7 => (if r7 = 0 then bd1 (f_X11_triesSixty  I L) (fun I10 => bd1 (f_X11_downIn a1 I10 L) (fun r12 => bd1 (f_X11_downIn a2 I10 L) (fun r14 => bd1 ((if r12 = r14 then some (-4 : Int32) else bd1 (f_X11_downIn a1 I10 L) (fun r20 => bd1 (f_X11_downIn a2 I10 L) (fun r22 => (if r20 ≤ r22 then some a2 else some a1))))) (fun y16 => some (y16, I10))))) else some (((-2 : Int32), I)))) else some (((-2 : Int32), I))))))
set_option maxHeartbeats 4000000 in
set_option maxRecDepth 100000 in
theorem c_X11_duel (g : Gp) (l : Launch) {a1 : Int32} {a2 : Int32}  {I : MI} {L : ML} {r : Int32} {I' : MI} (h : f_X11_duel a1 a2 I L = some (r, I')) : MetI g l yX11_duel cX11_duel 3 .int 6 [.ref (g.1 + 244), .int a1, .int a2] I L r I' L := by
  unfold f_X11_duel at h
  refine w_enter (by decide) (Nat.le_of_ble_eq_true rfl) (own := RX11) rfl ?_
  intro p e s m below meth c args Q hQ C hr hlocks hW ls hl
  have hl : lv_has ls 3 [(0, .ref (g.1 + 244)), (1, .int a1), (2, .int a2)] := hl
  refine lv_aload_n C.1.1 C.1.2.1 dX11_duel_0 rfl (lv_at hl 0 rfl) ?_
  refine lv_iload_n C.1.1 C.1.2.1 dX11_duel_1 rfl (lv_at hl 1 rfl) ?_
  refine lv_iload_n C.1.1 C.1.2.1 dX11_duel_2 rfl (lv_at hl 2 rfl) ?_
  obtain ⟨r1, hc2, h⟩ := bd1_some h
  refine w_callVi (k := 2) (As := [.int a1, .int a2]) (rest := []) C hW (c_X11_areTwo g l  hc2) (by decide) rfl (EX_11 (by decide)) K_X11_153 (by decide +kernel) ⟨by decide, by decide⟩ ⟨Nat.le_refl _, Nat.le_refl _⟩ rfl hl.1 rfl (Nat.le_of_ble_eq_true rfl) dX11_duel_3 (fun H locs hW => ?_)
  refine lv_if_ne (tgt := 11) C.1.1 C.1.2.1 dX11_duel_6 (by decide) (fun hc3 => ?_) (fun hc3 => ?_)
  · replace h := ite_f hc3 h
    refine lv_aload_n C.1.1 C.1.2.1 dX11_duel_11 rfl (lv_at hl 0 rfl) ?_
    refine lv_iconst (v := 0) C.1.1 C.1.2.1 dX11_duel_12 (by decide) ?_
    refine lv_iload_n C.1.1 C.1.2.1 dX11_duel_13 rfl (lv_at hl 1 rfl) ?_
    obtain ⟨r4, hc5, h⟩ := bd1_some h
    refine w_callVi (k := 2) (As := [.int (0 : Int32), .int a1]) (rest := []) C hW (c_X11_isDown g l  hc5) (by decide) rfl (EX_11 (by decide)) K_X11_100 (by decide +kernel) ⟨by decide, by decide⟩ ⟨Nat.le_refl _, Nat.le_refl _⟩ rfl hl.1 rfl (Nat.le_of_ble_eq_true rfl) dX11_duel_14 (fun H locs hW => ?_)
    refine lv_if_ne (tgt := 29) C.1.1 C.1.2.1 dX11_duel_17 (by decide) (fun hc6 => ?_) (fun hc6 => ?_)
    · replace h := ite_f hc6 h
      refine lv_bipush (v := -2) C.1.1 C.1.2.1 dX11_duel_29 (by decide) ?_
      obtain ⟨rfl, rfl⟩ := inj2 h
      subst hQ
      exact w_iret C hW hr hlocks dX11_duel_31
    · replace h := ite_t hc6 h
      refine lv_aload_n C.1.1 C.1.2.1 dX11_duel_20 rfl (lv_at hl 0 rfl) ?_
      refine lv_iconst (v := 0) C.1.1 C.1.2.1 dX11_duel_21 (by decide) ?_
      refine lv_iload_n C.1.1 C.1.2.1 dX11_duel_22 rfl (lv_at hl 2 rfl) ?_
      obtain ⟨r7, hc8, h⟩ := bd1_some h
      refine w_callVi (k := 2) (As := [.int (0 : Int32), .int a2]) (rest := []) C hW (c_X11_isDown g l  hc8) (by decide) rfl (EX_11 (by decide)) K_X11_100 (by decide +kernel) ⟨by decide, by decide⟩ ⟨Nat.le_refl _, Nat.le_refl _⟩ rfl hl.1 rfl (Nat.le_of_ble_eq_true rfl) dX11_duel_23 (fun H locs hW => ?_)
      refine lv_if_eq (tgt := 32) C.1.1 C.1.2.1 dX11_duel_26 (by decide) (fun hc9 => ?_) (fun hc9 => ?_)
      · replace h := ite_t hc9 h
        refine lv_aload_n C.1.1 C.1.2.1 dX11_duel_32 rfl (lv_at hl 0 rfl) ?_
        obtain ⟨I10, hc11, h⟩ := bd1_some h
        refine w_callVv (k := 0) (As := []) (rest := []) C hW (c_X11_triesSixty g l  hc11) (by decide) rfl (EX_11 (by decide)) K_X11_147 (by decide +kernel) ⟨by decide, by decide⟩ ⟨Nat.le_refl _, Nat.le_refl _⟩ rfl hl.1 rfl (Nat.le_of_ble_eq_true rfl) dX11_duel_33 (fun H locs hW => ?_)
        refine lv_aload_n C.1.1 C.1.2.1 dX11_duel_36 rfl (lv_at hl 0 rfl) ?_
        refine lv_iload_n C.1.1 C.1.2.1 dX11_duel_37 rfl (lv_at hl 1 rfl) ?_
        obtain ⟨r12, hc13, h⟩ := bd1_some h
        refine w_callVi (k := 1) (As := [.int a1]) (rest := []) C hW (c_X11_downIn g l  hc13) (by decide) rfl (EX_11 (by decide)) K_X11_150 (by decide +kernel) ⟨by decide, by decide⟩ ⟨Nat.le_refl _, Nat.le_refl _⟩ rfl hl.1 rfl (Nat.le_of_ble_eq_true rfl) dX11_duel_38 (fun H locs hW => ?_)
        refine lv_aload_n C.1.1 C.1.2.1 dX11_duel_41 rfl (lv_at hl 0 rfl) ?_
        refine lv_iload_n C.1.1 C.1.2.1 dX11_duel_42 rfl (lv_at hl 2 rfl) ?_
        obtain ⟨r14, hc15, h⟩ := bd1_some h
        refine w_callVi (k := 1) (As := [.int a2]) (rest := [.int r12]) C hW (c_X11_downIn g l  hc15) (by decide) rfl (EX_11 (by decide)) K_X11_150 (by decide +kernel) ⟨by decide, by decide⟩ ⟨Nat.le_refl _, Nat.le_refl _⟩ rfl hl.1 rfl (Nat.le_of_ble_eq_true rfl) dX11_duel_43 (fun H locs hW => ?_)
        obtain ⟨y16, hj18, h⟩ := bd1_some h
        have kJ17 : ∀ (H : Heap) (locs : List Loc) (ls : Array Slot), Ws g s I10 L H locs → lv_has ls 3 [] → W p l e (rmD 6) s m args below meth c H locs 0 0 Q (F0 m 72 ls [.int y16]) := by
          intro H locs ls hW hl
          obtain ⟨rfl, rfl⟩ := inj2 h
          subst hQ
          exact w_iret C hW hr hlocks dX11_duel_72
        clear h
        have h := hj18
        clear hj18
        refine lv_icmp_ne (tgt := 54) C.1.1 C.1.2.1 dX11_duel_46 (by decide) (fun hc19 => ?_) (fun hc19 => ?_)
        · replace h := ite_f hc19 h
          refine lv_aload_n C.1.1 C.1.2.1 dX11_duel_54 rfl (lv_at hl 0 rfl) ?_
          refine lv_iload_n C.1.1 C.1.2.1 dX11_duel_55 rfl (lv_at hl 1 rfl) ?_
          obtain ⟨r20, hc21, h⟩ := bd1_some h
          refine w_callVi (k := 1) (As := [.int a1]) (rest := []) C hW (c_X11_downIn g l  hc21) (by decide) rfl (EX_11 (by decide)) K_X11_150 (by decide +kernel) ⟨by decide, by decide⟩ ⟨Nat.le_refl _, Nat.le_refl _⟩ rfl hl.1 rfl (Nat.le_of_ble_eq_true rfl) dX11_duel_56 (fun H locs hW => ?_)
          refine lv_aload_n C.1.1 C.1.2.1 dX11_duel_59 rfl (lv_at hl 0 rfl) ?_
          refine lv_iload_n C.1.1 C.1.2.1 dX11_duel_60 rfl (lv_at hl 2 rfl) ?_
          obtain ⟨r22, hc23, h⟩ := bd1_some h
          refine w_callVi (k := 1) (As := [.int a2]) (rest := [.int r20]) C hW (c_X11_downIn g l  hc23) (by decide) rfl (EX_11 (by decide)) K_X11_150 (by decide +kernel) ⟨by decide, by decide⟩ ⟨Nat.le_refl _, Nat.le_refl _⟩ rfl hl.1 rfl (Nat.le_of_ble_eq_true rfl) dX11_duel_61 (fun H locs hW => ?_)
          refine lv_icmp_le (tgt := 71) C.1.1 C.1.2.1 dX11_duel_64 (by decide) (fun hc24 => ?_) (fun hc24 => ?_)
          · replace h := ite_t hc24 h
            refine lv_iload_n C.1.1 C.1.2.1 dX11_duel_71 rfl (lv_at hl 2 rfl) ?_
            obtain rfl := inj1 h
            exact kJ17 _ _ _ hW (lv_sub hl [] rfl)
          · replace h := ite_f hc24 h
            refine lv_iload_n C.1.1 C.1.2.1 dX11_duel_67 rfl (lv_at hl 1 rfl) ?_
            refine lv_goto (tgt := 72) C.1.1 C.1.2.1 dX11_duel_68 (by decide) ?_
            obtain rfl := inj1 h
            exact kJ17 _ _ _ hW (lv_sub hl [] rfl)
        · replace h := ite_t hc19 h
          refine lv_bipush (v := -4) C.1.1 C.1.2.1 dX11_duel_49 (by decide) ?_
          refine lv_goto (tgt := 72) C.1.1 C.1.2.1 dX11_duel_51 (by decide) ?_
          obtain rfl := inj1 h
          exact kJ17 _ _ _ hW (lv_sub hl [] rfl)
      · replace h := ite_f hc9 h
        refine lv_bipush (v := -2) C.1.1 C.1.2.1 dX11_duel_29 (by decide) ?_
        obtain ⟨rfl, rfl⟩ := inj2 h
        subst hQ
        exact w_iret C hW hr hlocks dX11_duel_31
  · replace h := ite_t hc3 h
    refine lv_iconst (v := -1) C.1.1 C.1.2.1 dX11_duel_9 (by decide) ?_
    obtain ⟨rfl, rfl⟩ := inj2 h
    subst hQ
    exact w_iret C hW hr hlocks dX11_duel_10
def b_X11_honour_31 (v1 : Int32) (I : MI) (L : ML) (z2 : Int32) (z3 : Int32) : Option ((Int32 × Int32) ⊕ ((Int32))) :=
  gi (1 : Int32) 1752 ((if (I 245 (1 : Int32).toNatClampNeg) ≤ z3 then some (Sum.inr z2) else bd1 (f_X11_isDown (0 : Int32) z3 I L) (fun r11 => bd1 ((if r11 = 0 then bd1 (f_X11_downIn v1 I L) (fun r18 => bd1 (f_X11_downIn z3 I L) (fun r20 => bd1 ((if r18 ≤ r20 then bd1 (f_X11_downIn v1 I L) (fun r27 => bd1 (f_X11_downIn z3 I L) (fun r29 => (if r29 ≤ r27 then some (0 : Int32) else some (-1 : Int32)))) else some (1 : Int32))) (fun y22 => nm (z2 + y22) (fun x25 => some x25)))) else some z2)) (fun y13 => nm (z3 + (1 : Int32)) (fun x16 => some (Sum.inl (y13, x16)))))))
set_option maxHeartbeats 4000000 in
set_option maxRecDepth 100000 in
theorem l_X11_honour_31 {g : Gp} {p : Program} {l : Launch} {e : Env} {s : State} {m : MethodId} {args : Array Value} {below : List Frame} {meth : Method} {c : Code} {Q : State → Prop}  (C : Cx g p s m args c RX11 cX11_honour 4) (v1 : Int32)  (I : MI) (L : ML) : ∀ (n : Nat) (z2 : Int32) (z3 : Int32) (y0_2 : Int32), lp (fun s => b_X11_honour_31 v1 I L s.1 s.2) n (z2, z3) = some y0_2 → ∀ (H : Heap) (locs : List Loc) (ls : Array Slot), Ws g s I L H locs → lv_has ls 4 [(0, .ref (g.1 + 244)), (1, .int v1), (2, .int z2), (3, .int z3)] → (∀ (H : Heap) (locs : List Loc) (ls : Array Slot), Ws g s I L H locs → lv_has ls 4 [(2, .int y0_2)] → W p l e (rmD 6) s m args below meth c H locs 0 0 Q (F0 m 94 ls [])) → W p l e (rmD 6) s m args below meth c H locs 0 0 Q (F0 m 31 ls []) := by
  intro n
  induction n with
  | zero => intro z2 z3 y0_2 h; exact lp_zero h
  | succ n ih =>
      intro z2 z3 y0_2 h H locs ls hW hl hx0
      obtain ⟨r9, h, h9⟩ := lp_some h
      have h : b_X11_honour_31 v1 I L z2 z3 = some r9 := h
      unfold b_X11_honour_31 at h
      refine lv_iload_n C.1.1 C.1.2.1 dX11_honour_31 rfl (lv_at hl 3 rfl) ?_
      refine lv_aload_n C.1.1 C.1.2.1 dX11_honour_32 rfl (lv_at hl 0 rfl) ?_
      refine G_X11_7 C hW (by decide) dX11_honour_33 ?_
      refine lv_iconst (v := 1) C.1.1 C.1.2.1 dX11_honour_36 (by decide) ?_
      obtain ⟨hi9, h⟩ := gi_some h
      refine w_iald C hW (n := 1752) (by decide) (by decide) hi9 dX11_honour_37 ?_
      refine lv_icmp_ge (tgt := 94) C.1.1 C.1.2.1 dX11_honour_38 (by decide) (fun hc10 => ?_) (fun hc10 => ?_)
      · replace h := ite_t hc10 h
        obtain rfl := Option.some.inj h
        replace h9 := Option.some.inj h9
        obtain rfl := pnj1 h9
        exact hx0 _ _ _ hW (lv_sub hl [2] rfl)
      · replace h := ite_f hc10 h
        refine lv_aload_n C.1.1 C.1.2.1 dX11_honour_41 rfl (lv_at hl 0 rfl) ?_
        refine lv_iconst (v := 0) C.1.1 C.1.2.1 dX11_honour_42 (by decide) ?_
        refine lv_iload_n C.1.1 C.1.2.1 dX11_honour_43 rfl (lv_at hl 3 rfl) ?_
        obtain ⟨r11, hc12, h⟩ := bd1_some h
        refine w_callVi (k := 2) (As := [.int (0 : Int32), .int z3]) (rest := []) C hW (c_X11_isDown g l  hc12) (by decide) rfl (EX_11 (by decide)) K_X11_100 (by decide +kernel) ⟨by decide, by decide⟩ ⟨Nat.le_refl _, Nat.le_refl _⟩ rfl hl.1 rfl (Nat.le_of_ble_eq_true rfl) dX11_honour_44 (fun H locs hW => ?_)
        obtain ⟨y13, hj15, h⟩ := bd1_some h
        have kJ14 : ∀ (H : Heap) (locs : List Loc) (ls : Array Slot), Ws g s I L H locs → lv_has ls 4 [(0, .ref (g.1 + 244)), (1, .int v1), (2, .int y13), (3, .int z3)] → W p l e (rmD 6) s m args below meth c H locs 0 0 Q (F0 m 88 ls []) := by
          intro H locs ls hW hl
          obtain ⟨x16, ex16⟩ : ∃ y : Int32, y = z3 + (1 : Int32) := ⟨_, rfl⟩
          replace h := nm_at ex16 h
          refine lv_iinc (v := x16) (lv' := [(3, .int x16), (0, .ref (g.1 + 244)), (1, .int v1), (2, .int y13)]) C.1.1 C.1.2.1 dX11_honour_88 hl (k := 3) rfl (by rw [ex16]; rfl) (by decide) rfl (fun ls hl => ?_)
          clear ex16
          refine lv_goto (tgt := 31) C.1.1 C.1.2.1 dX11_honour_91 (by decide) ?_
          obtain rfl := Option.some.inj h
          exact ih _ _ _ h9 _ _ _ hW (lv_sub hl [1, 2, 3, 0] rfl) hx0
        clear h
        have h := hj15
        clear hj15
        refine lv_if_ne (tgt := 88) C.1.1 C.1.2.1 dX11_honour_47 (by decide) (fun hc17 => ?_) (fun hc17 => ?_)
        · replace h := ite_f hc17 h
          obtain rfl := inj1 h
          exact kJ14 _ _ _ hW (lv_sub hl [0, 1, 2, 3] rfl)
        · replace h := ite_t hc17 h
          refine lv_iload_n C.1.1 C.1.2.1 dX11_honour_50 rfl (lv_at hl 2 rfl) ?_
          refine lv_aload_n C.1.1 C.1.2.1 dX11_honour_51 rfl (lv_at hl 0 rfl) ?_
          refine lv_iload_n C.1.1 C.1.2.1 dX11_honour_52 rfl (lv_at hl 1 rfl) ?_
          obtain ⟨r18, hc19, h⟩ := bd1_some h
          refine w_callVi (k := 1) (As := [.int v1]) (rest := [.int z2]) C hW (c_X11_downIn g l  hc19) (by decide) rfl (EX_11 (by decide)) K_X11_150 (by decide +kernel) ⟨by decide, by decide⟩ ⟨Nat.le_refl _, Nat.le_refl _⟩ rfl hl.1 rfl (Nat.le_of_ble_eq_true rfl) dX11_honour_53 (fun H locs hW => ?_)
          refine lv_aload_n C.1.1 C.1.2.1 dX11_honour_56 rfl (lv_at hl 0 rfl) ?_
          refine lv_iload_n C.1.1 C.1.2.1 dX11_honour_57 rfl (lv_at hl 3 rfl) ?_
          obtain ⟨r20, hc21, h⟩ := bd1_some h
          refine w_callVi (k := 1) (As := [.int z3]) (rest := [.int r18, .int z2]) C hW (c_X11_downIn g l  hc21) (by decide) rfl (EX_11 (by decide)) K_X11_150 (by decide +kernel) ⟨by decide, by decide⟩ ⟨Nat.le_refl _, Nat.le_refl _⟩ rfl hl.1 rfl (Nat.le_of_ble_eq_true rfl) dX11_honour_58 (fun H locs hW => ?_)
          obtain ⟨y22, hj24, h⟩ := bd1_some h
          have kJ23 : ∀ (H : Heap) (locs : List Loc) (ls : Array Slot), Ws g s I L H locs → lv_has ls 4 [(0, .ref (g.1 + 244)), (1, .int v1), (3, .int z3)] → W p l e (rmD 6) s m args below meth c H locs 0 0 Q (F0 m 86 ls [.int y22, .int z2]) := by
            intro H locs ls hW hl
            refine lv_iadd C.1.1 C.1.2.1 dX11_honour_86 ?_
            refine lv_topi (fun x25 ex25 => ?_)
            replace h := nm_at ex25 h
            clear ex25
            refine lv_istore_n (lv' := [(2, .int x25), (0, .ref (g.1 + 244)), (1, .int v1), (3, .int z3)]) C.1.1 C.1.2.1 dX11_honour_87 rfl hl (by decide) rfl (fun ls hl => ?_)
            obtain rfl := inj1 h
            exact kJ14 _ _ _ hW (lv_sub hl [1, 2, 0, 3] rfl)
          clear h
          have h := hj24
          clear hj24
          refine lv_icmp_le (tgt := 68) C.1.1 C.1.2.1 dX11_honour_61 (by decide) (fun hc26 => ?_) (fun hc26 => ?_)
          · replace h := ite_t hc26 h
            refine lv_aload_n C.1.1 C.1.2.1 dX11_honour_68 rfl (lv_at hl 0 rfl) ?_
            refine lv_iload_n C.1.1 C.1.2.1 dX11_honour_69 rfl (lv_at hl 1 rfl) ?_
            obtain ⟨r27, hc28, h⟩ := bd1_some h
            refine w_callVi (k := 1) (As := [.int v1]) (rest := [.int z2]) C hW (c_X11_downIn g l  hc28) (by decide) rfl (EX_11 (by decide)) K_X11_150 (by decide +kernel) ⟨by decide, by decide⟩ ⟨Nat.le_refl _, Nat.le_refl _⟩ rfl hl.1 rfl (Nat.le_of_ble_eq_true rfl) dX11_honour_70 (fun H locs hW => ?_)
            refine lv_aload_n C.1.1 C.1.2.1 dX11_honour_73 rfl (lv_at hl 0 rfl) ?_
            refine lv_iload_n C.1.1 C.1.2.1 dX11_honour_74 rfl (lv_at hl 3 rfl) ?_
            obtain ⟨r29, hc30, h⟩ := bd1_some h
            refine w_callVi (k := 1) (As := [.int z3]) (rest := [.int r27, .int z2]) C hW (c_X11_downIn g l  hc30) (by decide) rfl (EX_11 (by decide)) K_X11_150 (by decide +kernel) ⟨by decide, by decide⟩ ⟨Nat.le_refl _, Nat.le_refl _⟩ rfl hl.1 rfl (Nat.le_of_ble_eq_true rfl) dX11_honour_75 (fun H locs hW => ?_)
            refine lv_icmp_ge (tgt := 85) C.1.1 C.1.2.1 dX11_honour_78 (by decide) (fun hc31 => ?_) (fun hc31 => ?_)
            · replace h := ite_t hc31 h
              refine lv_iconst (v := 0) C.1.1 C.1.2.1 dX11_honour_85 (by decide) ?_
              obtain rfl := inj1 h
              exact kJ23 _ _ _ hW (lv_sub hl [0, 1, 3] rfl)
            · replace h := ite_f hc31 h
              refine lv_iconst (v := -1) C.1.1 C.1.2.1 dX11_honour_81 (by decide) ?_
              refine lv_goto (tgt := 86) C.1.1 C.1.2.1 dX11_honour_82 (by decide) ?_
              obtain rfl := inj1 h
              exact kJ23 _ _ _ hW (lv_sub hl [0, 1, 3] rfl)
          · replace h := ite_f hc26 h
            refine lv_iconst (v := 1) C.1.1 C.1.2.1 dX11_honour_64 (by decide) ?_
            refine lv_goto (tgt := 86) C.1.1 C.1.2.1 dX11_honour_65 (by decide) ?_
            obtain rfl := inj1 h
            exact kJ23 _ _ _ hW (lv_sub hl [0, 1, 3] rfl)
def f_X11_honour (a1 : Int32) (I : MI) (L : ML) : Option (Int32 × MI) :=
  bd1 (f_X11_isSitter a1 I L) (fun r1 => (if r1 = 0 then some (((-1 : Int32), I)) else bd1 (f_X11_isDown (0 : Int32) a1 I L) (fun r4 => (if r4 = 0 then bd1 (f_X11_triesSixty  I L) (fun I7 => bd1 (lp (fun s => b_X11_honour_31 a1 I7 L s.1 s.2) FU (((10 : Int32), (0 : Int32)))) (fun y33 => some (y33, I7))) else some (((-2 : Int32), I))))))
set_option maxHeartbeats 4000000 in
set_option maxRecDepth 100000 in
theorem c_X11_honour (g : Gp) (l : Launch) {a1 : Int32}  {I : MI} {L : ML} {r : Int32} {I' : MI} (h : f_X11_honour a1 I L = some (r, I')) : MetI g l yX11_honour cX11_honour 4 .int 6 [.ref (g.1 + 244), .int a1] I L r I' L := by
  unfold f_X11_honour at h
  refine w_enter (by decide) (Nat.le_of_ble_eq_true rfl) (own := RX11) rfl ?_
  intro p e s m below meth c args Q hQ C hr hlocks hW ls hl
  have hl : lv_has ls 4 [(0, .ref (g.1 + 244)), (1, .int a1)] := hl
  refine lv_aload_n C.1.1 C.1.2.1 dX11_honour_0 rfl (lv_at hl 0 rfl) ?_
  refine lv_iload_n C.1.1 C.1.2.1 dX11_honour_1 rfl (lv_at hl 1 rfl) ?_
  obtain ⟨r1, hc2, h⟩ := bd1_some h
  refine w_callVi (k := 1) (As := [.int a1]) (rest := []) C hW (c_X11_isSitter g l  hc2) (by decide) rfl (EX_11 (by decide)) K_X11_115 (by decide +kernel) ⟨by decide, by decide⟩ ⟨Nat.le_refl _, Nat.le_refl _⟩ rfl hl.1 rfl (Nat.le_of_ble_eq_true rfl) dX11_honour_2 (fun H locs hW => ?_)
  refine lv_if_ne (tgt := 10) C.1.1 C.1.2.1 dX11_honour_5 (by decide) (fun hc3 => ?_) (fun hc3 => ?_)
  · replace h := ite_f hc3 h
    refine lv_aload_n C.1.1 C.1.2.1 dX11_honour_10 rfl (lv_at hl 0 rfl) ?_
    refine lv_iconst (v := 0) C.1.1 C.1.2.1 dX11_honour_11 (by decide) ?_
    refine lv_iload_n C.1.1 C.1.2.1 dX11_honour_12 rfl (lv_at hl 1 rfl) ?_
    obtain ⟨r4, hc5, h⟩ := bd1_some h
    refine w_callVi (k := 2) (As := [.int (0 : Int32), .int a1]) (rest := []) C hW (c_X11_isDown g l  hc5) (by decide) rfl (EX_11 (by decide)) K_X11_100 (by decide +kernel) ⟨by decide, by decide⟩ ⟨Nat.le_refl _, Nat.le_refl _⟩ rfl hl.1 rfl (Nat.le_of_ble_eq_true rfl) dX11_honour_13 (fun H locs hW => ?_)
    refine lv_if_eq (tgt := 22) C.1.1 C.1.2.1 dX11_honour_16 (by decide) (fun hc6 => ?_) (fun hc6 => ?_)
    · replace h := ite_t hc6 h
      refine lv_aload_n C.1.1 C.1.2.1 dX11_honour_22 rfl (lv_at hl 0 rfl) ?_
      obtain ⟨I7, hc8, h⟩ := bd1_some h
      refine w_callVv (k := 0) (As := []) (rest := []) C hW (c_X11_triesSixty g l  hc8) (by decide) rfl (EX_11 (by decide)) K_X11_147 (by decide +kernel) ⟨by decide, by decide⟩ ⟨Nat.le_refl _, Nat.le_refl _⟩ rfl hl.1 rfl (Nat.le_of_ble_eq_true rfl) dX11_honour_23 (fun H locs hW => ?_)
      refine lv_bipush (v := 10) C.1.1 C.1.2.1 dX11_honour_26 (by decide) ?_
      refine lv_istore_n (lv' := [(2, .int (10 : Int32)), (0, .ref (g.1 + 244)), (1, .int a1)]) C.1.1 C.1.2.1 dX11_honour_28 rfl hl (by decide) rfl (fun ls hl => ?_)
      refine lv_iconst (v := 0) C.1.1 C.1.2.1 dX11_honour_29 (by decide) ?_
      refine lv_istore_n (lv' := [(3, .int (0 : Int32)), (2, .int (10 : Int32)), (0, .ref (g.1 + 244)), (1, .int a1)]) C.1.1 C.1.2.1 dX11_honour_30 rfl hl (by decide) rfl (fun ls hl => ?_)
      obtain ⟨y33, hq32, h⟩ := bd1_some h
      refine l_X11_honour_31 C a1  I7 L _ _ _ _ hq32 _ _ _ hW (lv_sub hl [2, 3, 1, 0] rfl) (fun H locs ls hW hl => ?_)
      refine lv_iload_n C.1.1 C.1.2.1 dX11_honour_94 rfl (lv_at hl 0 rfl) ?_
      obtain ⟨rfl, rfl⟩ := inj2 h
      subst hQ
      exact w_iret C hW hr hlocks dX11_honour_95
    · replace h := ite_f hc6 h
      refine lv_bipush (v := -2) C.1.1 C.1.2.1 dX11_honour_19 (by decide) ?_
      obtain ⟨rfl, rfl⟩ := inj2 h
      subst hQ
      exact w_iret C hW hr hlocks dX11_honour_21
  · replace h := ite_t hc3 h
    refine lv_iconst (v := -1) C.1.1 C.1.2.1 dX11_honour_8 (by decide) ?_
    obtain ⟨rfl, rfl⟩ := inj2 h
    subst hQ
    exact w_iret C hW hr hlocks dX11_honour_9
