def b_X11_round_111 (v4 : Int32) (v5 : Int32) (v7 : Int32) (v8 : Int32) (I : MI) (L : ML) (z9 : Int32) (z10 : Int32) (z11 : Int32) : Option ((Int32 × Int32 × Int32) ⊕ ((Int32 × Int32))) :=
  (if v4 ≤ z11 then some (Sum.inr (z9, z10)) else gi ((((7 : Int32) * v8) + z11) - (1 : Int32)) 448 (bd1 (f_X11_wayOf v7 z11 (0 : Int32) I L) (fun r22 => nm ((I 254 ((((7 : Int32) * v8) + z11) - (1 : Int32)).toNatClampNeg) + r22) (fun x24 => bd1 (if z9 ≤ x24 then some z10 else some z11) (fun y25 => bd1 (if z9 ≤ x24 then some z9 else some x24) (fun y28 => nm (z11 + (1 : Int32)) (fun x31 => some (Sum.inl (y28, y25, x31)))))))))
set_option maxHeartbeats 4000000 in
set_option maxRecDepth 100000 in
theorem l_X11_round_111 {g : Gp} {p : Program} {l : Launch} {e : Env} {s : State} {m : MethodId} {args : Array Value} {below : List Frame} {meth : Method} {c : Code} {Q : State → Prop}  (C : Cx g p s m args c RX11 cX11_round 13) (v4 : Int32) (v5 : Int32) (v7 : Int32) (v8 : Int32)  (I : MI) (L : ML) : ∀ (n : Nat) (z9 : Int32) (z10 : Int32) (z11 : Int32) (y0_9 : Int32) (y0_10 : Int32), lp (fun s => b_X11_round_111 v4 v5 v7 v8 I L s.1 s.2.1 s.2.2) n (z9, z10, z11) = some (y0_9, y0_10) → ∀ (H : Heap) (locs : List Loc) (ls : Array Slot), Ws g s I L H locs → lv_has ls 13 [(0, .ref (g.1 + 244)), (4, .int v4), (5, .int v5), (7, .int v7), (8, .int v8), (9, .int z9), (10, .int z10), (11, .int z11)] → (∀ (H : Heap) (locs : List Loc) (ls : Array Slot), Ws g s I L H locs → lv_has ls 13 [(5, .int v5), (9, .int y0_9), (10, .int y0_10)] → W p l e (rmD 3) s m args below meth c H locs 0 0 Q (F0 m 183 ls [])) → W p l e (rmD 3) s m args below meth c H locs 0 0 Q (F0 m 111 ls []) := by
  intro n
  induction n with
  | zero => intro z9 z10 z11 y0_9 y0_10 h; exact lp_zero h
  | succ n ih =>
      intro z9 z10 z11 y0_9 y0_10 h H locs ls hW hl hx0
      obtain ⟨r9, h, h9⟩ := lp_some h
      have h : b_X11_round_111 v4 v5 v7 v8 I L z9 z10 z11 = some r9 := h
      unfold b_X11_round_111 at h
      refine lv_iload C.1.1 C.1.2.1 dX11_round_111 (lv_at hl 7 rfl) ?_
      refine lv_iload C.1.1 C.1.2.1 dX11_round_113 (lv_at hl 1 rfl) ?_
      refine lv_icmp_ge (tgt := 183) C.1.1 C.1.2.1 dX11_round_115 (by decide) (fun hc20 => ?_) (fun hc20 => ?_)
      · replace h := ite_t hc20 h
        obtain rfl := Option.some.inj h
        replace h9 := Option.some.inj h9
        obtain ⟨rfl, rfl⟩ := pnj2 h9
        exact hx0 _ _ _ hW (lv_sub hl [2, 5, 6] rfl)
      · replace h := ite_f hc20 h
        refine lv_aload_n C.1.1 C.1.2.1 dX11_round_118 rfl (lv_at hl 0 rfl) ?_
        refine G_X11_39 C hW (by decide) dX11_round_119 ?_
        refine lv_bipush (v := 7) C.1.1 C.1.2.1 dX11_round_122 (by decide) ?_
        refine lv_iload C.1.1 C.1.2.1 dX11_round_124 (lv_at hl 4 rfl) ?_
        refine lv_imul C.1.1 C.1.2.1 dX11_round_126 ?_
        refine lv_iload C.1.1 C.1.2.1 dX11_round_127 (lv_at hl 7 rfl) ?_
        refine lv_iadd C.1.1 C.1.2.1 dX11_round_129 ?_
        refine lv_iconst (v := 1) C.1.1 C.1.2.1 dX11_round_130 (by decide) ?_
        refine lv_isub C.1.1 C.1.2.1 dX11_round_131 ?_
        obtain ⟨hi21, h⟩ := gi_some h
        refine w_iald C hW (n := 448) (by decide) (by decide) hi21 dX11_round_132 ?_
        refine lv_aload_n C.1.1 C.1.2.1 dX11_round_133 rfl (lv_at hl 0 rfl) ?_
        refine lv_iload C.1.1 C.1.2.1 dX11_round_134 (lv_at hl 3 rfl) ?_
        refine lv_iload C.1.1 C.1.2.1 dX11_round_136 (lv_at hl 7 rfl) ?_
        refine lv_iconst (v := 0) C.1.1 C.1.2.1 dX11_round_138 (by decide) ?_
        obtain ⟨r22, hc23, h⟩ := bd1_some h
        refine w_callVi (k := 3) (As := [.int v7, .int z11, .int (0 : Int32)]) (rest := [.int (I 254 ((((7 : Int32) * v8) + z11) - (1 : Int32)).toNatClampNeg)]) C hW (c_X11_wayOf g l  hc23) (by decide) rfl (EX_11 (by decide)) K_X11_220 (by decide +kernel) ⟨by decide, by decide⟩ ⟨Nat.le_refl _, Nat.le_refl _⟩ rfl hl.1 rfl (Nat.le_of_ble_eq_true rfl) dX11_round_139 (fun H locs hW => ?_)
        refine lv_iadd C.1.1 C.1.2.1 dX11_round_142 ?_
        refine lv_topi (fun x24 ex24 => ?_)
        replace h := nm_at ex24 h
        clear ex24
        refine lv_istore (lv' := [(12, .int x24), (0, .ref (g.1 + 244)), (4, .int v4), (5, .int v5), (7, .int v7), (8, .int v8), (9, .int z9), (10, .int z10), (11, .int z11)]) C.1.1 C.1.2.1 dX11_round_143 hl (by decide) rfl (fun ls hl => ?_)
        refine lv_iload C.1.1 C.1.2.1 dX11_round_145 (lv_at hl 0 rfl) ?_
        refine lv_iload C.1.1 C.1.2.1 dX11_round_147 (lv_at hl 6 rfl) ?_
        obtain ⟨y25, hj27, h⟩ := bd1_some h
        have kJ26 : ∀ (H : Heap) (locs : List Loc) (ls : Array Slot), Ws g s I L H locs → lv_has ls 13 [(0, .ref (g.1 + 244)), (4, .int v4), (5, .int v5), (7, .int v7), (8, .int v8), (9, .int z9), (11, .int z11), (12, .int x24)] → W p l e (rmD 3) s m args below meth c H locs 0 0 Q (F0 m 159 ls [.int y25]) := by
          intro H locs ls hW hl
          refine lv_istore (lv' := [(10, .int y25), (0, .ref (g.1 + 244)), (4, .int v4), (5, .int v5), (7, .int v7), (8, .int v8), (9, .int z9), (11, .int z11), (12, .int x24)]) C.1.1 C.1.2.1 dX11_round_159 hl (by decide) rfl (fun ls hl => ?_)
          refine lv_iload C.1.1 C.1.2.1 dX11_round_161 (lv_at hl 8 rfl) ?_
          refine lv_iload C.1.1 C.1.2.1 dX11_round_163 (lv_at hl 6 rfl) ?_
          obtain ⟨y28, hj30, h⟩ := bd1_some h
          have kJ29 : ∀ (H : Heap) (locs : List Loc) (ls : Array Slot), Ws g s I L H locs → lv_has ls 13 [(0, .ref (g.1 + 244)), (4, .int v4), (5, .int v5), (7, .int v7), (8, .int v8), (10, .int y25), (11, .int z11)] → W p l e (rmD 3) s m args below meth c H locs 0 0 Q (F0 m 175 ls [.int y28]) := by
            intro H locs ls hW hl
            refine lv_istore (lv' := [(9, .int y28), (0, .ref (g.1 + 244)), (4, .int v4), (5, .int v5), (7, .int v7), (8, .int v8), (10, .int y25), (11, .int z11)]) C.1.1 C.1.2.1 dX11_round_175 hl (by decide) rfl (fun ls hl => ?_)
            obtain ⟨x31, ex31⟩ : ∃ y : Int32, y = z11 + (1 : Int32) := ⟨_, rfl⟩
            replace h := nm_at ex31 h
            refine lv_iinc (v := x31) (lv' := [(11, .int x31), (9, .int y28), (0, .ref (g.1 + 244)), (4, .int v4), (5, .int v5), (7, .int v7), (8, .int v8), (10, .int y25)]) C.1.1 C.1.2.1 dX11_round_177 hl (k := 7) rfl (by rw [ex31]; rfl) (by decide) rfl (fun ls hl => ?_)
            clear ex31
            refine lv_goto (tgt := 111) C.1.1 C.1.2.1 dX11_round_180 (by decide) ?_
            obtain rfl := Option.some.inj h
            exact ih _ _ _ _ _ h9 _ _ _ hW (lv_sub hl [2, 3, 4, 5, 6, 1, 7, 0] rfl) hx0
          clear h
          have h := hj30
          clear hj30
          refine lv_icmp_ge (tgt := 173) C.1.1 C.1.2.1 dX11_round_165 (by decide) (fun hc32 => ?_) (fun hc32 => ?_)
          · replace h := ite_t hc32 h
            refine lv_iload C.1.1 C.1.2.1 dX11_round_173 (lv_at hl 6 rfl) ?_
            obtain rfl := inj1 h
            exact kJ29 _ _ _ hW (lv_sub hl [1, 2, 3, 4, 5, 0, 7] rfl)
          · replace h := ite_f hc32 h
            refine lv_iload C.1.1 C.1.2.1 dX11_round_168 (lv_at hl 8 rfl) ?_
            refine lv_goto (tgt := 175) C.1.1 C.1.2.1 dX11_round_170 (by decide) ?_
            obtain rfl := inj1 h
            exact kJ29 _ _ _ hW (lv_sub hl [1, 2, 3, 4, 5, 0, 7] rfl)
        clear h
        have h := hj27
        clear hj27
        refine lv_icmp_ge (tgt := 157) C.1.1 C.1.2.1 dX11_round_149 (by decide) (fun hc33 => ?_) (fun hc33 => ?_)
        · replace h := ite_t hc33 h
          refine lv_iload C.1.1 C.1.2.1 dX11_round_157 (lv_at hl 7 rfl) ?_
          obtain rfl := inj1 h
          exact kJ26 _ _ _ hW (lv_sub hl [1, 2, 3, 4, 5, 6, 8, 0] rfl)
        · replace h := ite_f hc33 h
          refine lv_iload C.1.1 C.1.2.1 dX11_round_152 (lv_at hl 8 rfl) ?_
          refine lv_goto (tgt := 159) C.1.1 C.1.2.1 dX11_round_154 (by decide) ?_
          obtain rfl := inj1 h
          exact kJ26 _ _ _ hW (lv_sub hl [1, 2, 3, 4, 5, 6, 8, 0] rfl)
def f_X11_round (a1 : Int32) (a2 : Int32) (a3 : Int32) (a4 : Int32) (a5 : Int32) (I : MI) (L : ML) : Option (Int32 × MI) :=
  bd1 (f_X11_isLane a1 a2) (fun r1 => (if r1 = 0 then some (((-1 : Int32), I)) else bd1 (f_X11_in a4.toInt64 (2 : Int64) (7 : Int64)) (fun r4 => (if r4 = 0 then some (((-1 : Int32), I)) else bd1 (f_X11_in a5.toInt64 (0 : Int64) (1 : Int64)) (fun r7 => (if r7 = 0 then some (((-1 : Int32), I)) else bd1 (f_X11_against a1 a2 a3 ((2 : Int32) * a4) I L) (fun r10 => (if 0 ≤ r10 then nm (((24 : Int32) * a1) + a3) (fun x13 => bd1 (f_X11_areWithin x13 ((2 : Int32) * a4) (99 : Int32) I L) (fun r14 => (if r14 = 0 then some (((-2 : Int32), I)) else bd1 (f_X11_layWays x13 a4 I L) (fun I17 => nm (((1 : Int32) <<< ((a4 - (1 : Int32)) &&& (31 : Int32))) - (1 : Int32)) (fun x19 => bd2 (lp (fun s => b_X11_round_111 a4 a5 x13 x19 I17 L s.1 s.2.1 s.2.2) FU (((1000000 : Int32), (0 : Int32), (1 : Int32)))) (fun y35 y36 => bd1 (if a5 = 0 then some y35 else some y36) (fun y37 => some (y37, I17)))))))) else some (r10, I)))))))))
set_option maxHeartbeats 4000000 in
set_option maxRecDepth 100000 in
theorem c_X11_round (g : Gp) (l : Launch) {a1 : Int32} {a2 : Int32} {a3 : Int32} {a4 : Int32} {a5 : Int32}  {I : MI} {L : ML} {r : Int32} {I' : MI} (h : f_X11_round a1 a2 a3 a4 a5 I L = some (r, I')) : MetI g l yX11_round cX11_round 13 .int 3 [.ref (g.1 + 244), .int a1, .int a2, .int a3, .int a4, .int a5] I L r I' L := by
  unfold f_X11_round at h
  refine w_enter (by decide) (Nat.le_of_ble_eq_true rfl) (own := RX11) rfl ?_
  intro p e s m below meth c args Q hQ C hr hlocks hW ls hl
  have hl : lv_has ls 13 [(0, .ref (g.1 + 244)), (1, .int a1), (2, .int a2), (3, .int a3), (4, .int a4), (5, .int a5)] := hl
  refine lv_iload_n C.1.1 C.1.2.1 dX11_round_0 rfl (lv_at hl 1 rfl) ?_
  refine lv_iload_n C.1.1 C.1.2.1 dX11_round_1 rfl (lv_at hl 2 rfl) ?_
  obtain ⟨r1, hc2, h⟩ := bd1_some h
  refine w_callSi (k := 2) (As := [.int a1, .int a2]) (rest := []) C hW (c_X11_isLane g l  hc2 I L) K_X11_205 (by decide +kernel) ⟨by decide, by decide⟩ ⟨Nat.le_refl _, Nat.le_refl _⟩ rfl hl.1 rfl (Nat.le_of_ble_eq_true rfl) dX11_round_2 (fun H locs hW => ?_)
  refine lv_if_eq (tgt := 34) C.1.1 C.1.2.1 dX11_round_5 (by decide) (fun hc3 => ?_) (fun hc3 => ?_)
  · replace h := ite_t hc3 h
    refine lv_iconst (v := -1) C.1.1 C.1.2.1 dX11_round_34 (by decide) ?_
    obtain ⟨rfl, rfl⟩ := inj2 h
    subst hQ
    exact w_iret C hW hr hlocks dX11_round_35
  · replace h := ite_f hc3 h
    refine lv_iload C.1.1 C.1.2.1 dX11_round_8 (lv_at hl 4 rfl) ?_
    refine lv_i2l C.1.1 C.1.2.1 dX11_round_10 rfl ?_
    refine lv_ldc2 C.1.1 C.1.2.1 C.1.2.2.2.1 (C.1.2.2.2.2 _ kl_X11_120) dX11_round_11 ?_
    refine lv_ldc2 C.1.1 C.1.2.1 C.1.2.2.2.1 (C.1.2.2.2.2 _ kl_X11_223) dX11_round_14 ?_
    obtain ⟨r4, hc5, h⟩ := bd1_some h
    refine w_callSi (k := 3) (As := [.long a4.toInt64, .long (2 : Int64), .long (7 : Int64)]) (rest := []) C hW (c_X11_in g l  hc5 I L) K_X11_42 (by decide +kernel) ⟨by decide, by decide⟩ ⟨Nat.le_refl _, Nat.le_refl _⟩ rfl hl.1 rfl (Nat.le_of_ble_eq_true rfl) dX11_round_17 (fun H locs hW => ?_)
    refine lv_if_eq (tgt := 34) C.1.1 C.1.2.1 dX11_round_20 (by decide) (fun hc6 => ?_) (fun hc6 => ?_)
    · replace h := ite_t hc6 h
      refine lv_iconst (v := -1) C.1.1 C.1.2.1 dX11_round_34 (by decide) ?_
      obtain ⟨rfl, rfl⟩ := inj2 h
      subst hQ
      exact w_iret C hW hr hlocks dX11_round_35
    · replace h := ite_f hc6 h
      refine lv_iload C.1.1 C.1.2.1 dX11_round_23 (lv_at hl 5 rfl) ?_
      refine lv_i2l C.1.1 C.1.2.1 dX11_round_25 rfl ?_
      refine lv_lconst (v := 0) C.1.1 C.1.2.1 dX11_round_26 (by decide) ?_
      refine lv_lconst (v := 1) C.1.1 C.1.2.1 dX11_round_27 (by decide) ?_
      obtain ⟨r7, hc8, h⟩ := bd1_some h
      refine w_callSi (k := 3) (As := [.long a5.toInt64, .long (0 : Int64), .long (1 : Int64)]) (rest := []) C hW (c_X11_in g l  hc8 I L) K_X11_42 (by decide +kernel) ⟨by decide, by decide⟩ ⟨Nat.le_refl _, Nat.le_refl _⟩ rfl hl.1 rfl (Nat.le_of_ble_eq_true rfl) dX11_round_28 (fun H locs hW => ?_)
      refine lv_if_ne (tgt := 36) C.1.1 C.1.2.1 dX11_round_31 (by decide) (fun hc9 => ?_) (fun hc9 => ?_)
      · replace h := ite_f hc9 h
        refine lv_aload_n C.1.1 C.1.2.1 dX11_round_36 rfl (lv_at hl 0 rfl) ?_
        refine lv_iload_n C.1.1 C.1.2.1 dX11_round_37 rfl (lv_at hl 1 rfl) ?_
        refine lv_iload_n C.1.1 C.1.2.1 dX11_round_38 rfl (lv_at hl 2 rfl) ?_
        refine lv_iload_n C.1.1 C.1.2.1 dX11_round_39 rfl (lv_at hl 3 rfl) ?_
        refine lv_iconst (v := 2) C.1.1 C.1.2.1 dX11_round_40 (by decide) ?_
        refine lv_iload C.1.1 C.1.2.1 dX11_round_41 (lv_at hl 4 rfl) ?_
        refine lv_imul C.1.1 C.1.2.1 dX11_round_43 ?_
        obtain ⟨r10, hc11, h⟩ := bd1_some h
        refine w_callVi (k := 4) (As := [.int a1, .int a2, .int a3, .int ((2 : Int32) * a4)]) (rest := []) C hW (c_X11_against g l  hc11) (by decide) rfl (EX_11 (by decide)) K_X11_208 (by decide +kernel) ⟨by decide, by decide⟩ ⟨Nat.le_refl _, Nat.le_refl _⟩ rfl hl.1 rfl (Nat.le_of_ble_eq_true rfl) dX11_round_44 (fun H locs hW => ?_)
        refine lv_istore (lv' := [(6, .int r10), (0, .ref (g.1 + 244)), (1, .int a1), (2, .int a2), (3, .int a3), (4, .int a4), (5, .int a5)]) C.1.1 C.1.2.1 dX11_round_47 hl (by decide) rfl (fun ls hl => ?_)
        refine lv_iload C.1.1 C.1.2.1 dX11_round_49 (lv_at hl 0 rfl) ?_
        refine lv_if_ge (tgt := 57) C.1.1 C.1.2.1 dX11_round_51 (by decide) (fun hc12 => ?_) (fun hc12 => ?_)
        · replace h := ite_t hc12 h
          refine lv_bipush (v := 24) C.1.1 C.1.2.1 dX11_round_57 (by decide) ?_
          refine lv_iload_n C.1.1 C.1.2.1 dX11_round_59 rfl (lv_at hl 2 rfl) ?_
          refine lv_imul C.1.1 C.1.2.1 dX11_round_60 ?_
          refine lv_iload_n C.1.1 C.1.2.1 dX11_round_61 rfl (lv_at hl 4 rfl) ?_
          refine lv_iadd C.1.1 C.1.2.1 dX11_round_62 ?_
          refine lv_topi (fun x13 ex13 => ?_)
          replace h := nm_at ex13 h
          clear ex13
          refine lv_istore (lv' := [(7, .int x13), (6, .int r10), (0, .ref (g.1 + 244)), (1, .int a1), (2, .int a2), (3, .int a3), (4, .int a4), (5, .int a5)]) C.1.1 C.1.2.1 dX11_round_63 hl (by decide) rfl (fun ls hl => ?_)
          refine lv_aload_n C.1.1 C.1.2.1 dX11_round_65 rfl (lv_at hl 2 rfl) ?_
          refine lv_iload C.1.1 C.1.2.1 dX11_round_66 (lv_at hl 0 rfl) ?_
          refine lv_iconst (v := 2) C.1.1 C.1.2.1 dX11_round_68 (by decide) ?_
          refine lv_iload C.1.1 C.1.2.1 dX11_round_69 (lv_at hl 6 rfl) ?_
          refine lv_imul C.1.1 C.1.2.1 dX11_round_71 ?_
          refine lv_bipush (v := 99) C.1.1 C.1.2.1 dX11_round_72 (by decide) ?_
          obtain ⟨r14, hc15, h⟩ := bd1_some h
          refine w_callVi (k := 3) (As := [.int x13, .int ((2 : Int32) * a4), .int (99 : Int32)]) (rest := []) C hW (c_X11_areWithin g l  hc15) (by decide) rfl (EX_11 (by decide)) K_X11_225 (by decide +kernel) ⟨by decide, by decide⟩ ⟨Nat.le_refl _, Nat.le_refl _⟩ rfl hl.1 rfl (Nat.le_of_ble_eq_true rfl) dX11_round_74 (fun H locs hW => ?_)
          refine lv_if_ne (tgt := 83) C.1.1 C.1.2.1 dX11_round_77 (by decide) (fun hc16 => ?_) (fun hc16 => ?_)
          · replace h := ite_f hc16 h
            refine lv_aload_n C.1.1 C.1.2.1 dX11_round_83 rfl (lv_at hl 2 rfl) ?_
            refine lv_iload C.1.1 C.1.2.1 dX11_round_84 (lv_at hl 0 rfl) ?_
            refine lv_iload C.1.1 C.1.2.1 dX11_round_86 (lv_at hl 6 rfl) ?_
            obtain ⟨I17, hc18, h⟩ := bd1_some h
            refine w_callVv (k := 2) (As := [.int x13, .int a4]) (rest := []) C hW (c_X11_layWays g l  hc18) (by decide) rfl (EX_11 (by decide)) K_X11_228 (by decide +kernel) ⟨by decide, by decide⟩ ⟨Nat.le_refl _, Nat.le_refl _⟩ rfl hl.1 rfl (Nat.le_of_ble_eq_true rfl) dX11_round_88 (fun H locs hW => ?_)
            refine lv_iconst (v := 1) C.1.1 C.1.2.1 dX11_round_91 (by decide) ?_
            refine lv_iload C.1.1 C.1.2.1 dX11_round_92 (lv_at hl 6 rfl) ?_
            refine lv_iconst (v := 1) C.1.1 C.1.2.1 dX11_round_94 (by decide) ?_
            refine lv_isub C.1.1 C.1.2.1 dX11_round_95 ?_
            refine lv_ishl C.1.1 C.1.2.1 dX11_round_96 ?_
            refine lv_iconst (v := 1) C.1.1 C.1.2.1 dX11_round_97 (by decide) ?_
            refine lv_isub C.1.1 C.1.2.1 dX11_round_98 ?_
            refine lv_topi (fun x19 ex19 => ?_)
            replace h := nm_at ex19 h
            clear ex19
            refine lv_istore (lv' := [(8, .int x19), (7, .int x13), (6, .int r10), (0, .ref (g.1 + 244)), (1, .int a1), (2, .int a2), (3, .int a3), (4, .int a4), (5, .int a5)]) C.1.1 C.1.2.1 dX11_round_99 hl (by decide) rfl (fun ls hl => ?_)
            refine lv_ldc C.1.1 C.1.2.1 C.1.2.2.2.1 (C.1.2.2.2.2 _ kc_X11_146) dX11_round_101 ?_
            refine lv_istore (lv' := [(9, .int (1000000 : Int32)), (8, .int x19), (7, .int x13), (6, .int r10), (0, .ref (g.1 + 244)), (1, .int a1), (2, .int a2), (3, .int a3), (4, .int a4), (5, .int a5)]) C.1.1 C.1.2.1 dX11_round_103 hl (by decide) rfl (fun ls hl => ?_)
            refine lv_iconst (v := 0) C.1.1 C.1.2.1 dX11_round_105 (by decide) ?_
            refine lv_istore (lv' := [(10, .int (0 : Int32)), (9, .int (1000000 : Int32)), (8, .int x19), (7, .int x13), (6, .int r10), (0, .ref (g.1 + 244)), (1, .int a1), (2, .int a2), (3, .int a3), (4, .int a4), (5, .int a5)]) C.1.1 C.1.2.1 dX11_round_106 hl (by decide) rfl (fun ls hl => ?_)
            refine lv_iconst (v := 1) C.1.1 C.1.2.1 dX11_round_108 (by decide) ?_
            refine lv_istore (lv' := [(11, .int (1 : Int32)), (10, .int (0 : Int32)), (9, .int (1000000 : Int32)), (8, .int x19), (7, .int x13), (6, .int r10), (0, .ref (g.1 + 244)), (1, .int a1), (2, .int a2), (3, .int a3), (4, .int a4), (5, .int a5)]) C.1.1 C.1.2.1 dX11_round_109 hl (by decide) rfl (fun ls hl => ?_)
            obtain ⟨y35, y36, hq34, h⟩ := bd2_some h
            refine l_X11_round_111 C a4 a5 x13 x19  I17 L _ _ _ _ _ _ hq34 _ _ _ hW (lv_sub hl [6, 10, 11, 4, 3, 2, 1, 0] rfl) (fun H locs ls hW hl => ?_)
            refine lv_iload C.1.1 C.1.2.1 dX11_round_183 (lv_at hl 0 rfl) ?_
            obtain ⟨y37, hj39, h⟩ := bd1_some h
            have kJ38 : ∀ (H : Heap) (locs : List Loc) (ls : Array Slot), Ws g s I17 L H locs → lv_has ls 13 [] → W p l e (rmD 3) s m args below meth c H locs 0 0 Q (F0 m 195 ls [.int y37]) := by
              intro H locs ls hW hl
              obtain ⟨rfl, rfl⟩ := inj2 h
              subst hQ
              exact w_iret C hW hr hlocks dX11_round_195
            clear h
            have h := hj39
            clear hj39
            refine lv_if_ne (tgt := 193) C.1.1 C.1.2.1 dX11_round_185 (by decide) (fun hc40 => ?_) (fun hc40 => ?_)
            · replace h := ite_f hc40 h
              refine lv_iload C.1.1 C.1.2.1 dX11_round_193 (lv_at hl 2 rfl) ?_
              obtain rfl := inj1 h
              exact kJ38 _ _ _ hW (lv_sub hl [] rfl)
            · replace h := ite_t hc40 h
              refine lv_iload C.1.1 C.1.2.1 dX11_round_188 (lv_at hl 1 rfl) ?_
              refine lv_goto (tgt := 195) C.1.1 C.1.2.1 dX11_round_190 (by decide) ?_
              obtain rfl := inj1 h
              exact kJ38 _ _ _ hW (lv_sub hl [] rfl)
          · replace h := ite_t hc16 h
            refine lv_bipush (v := -2) C.1.1 C.1.2.1 dX11_round_80 (by decide) ?_
            obtain ⟨rfl, rfl⟩ := inj2 h
            subst hQ
            exact w_iret C hW hr hlocks dX11_round_82
        · replace h := ite_f hc12 h
          refine lv_iload C.1.1 C.1.2.1 dX11_round_54 (lv_at hl 0 rfl) ?_
          obtain ⟨rfl, rfl⟩ := inj2 h
          subst hQ
          exact w_iret C hW hr hlocks dX11_round_56
      · replace h := ite_t hc9 h
        refine lv_iconst (v := -1) C.1.1 C.1.2.1 dX11_round_34 (by decide) ?_
        obtain ⟨rfl, rfl⟩ := inj2 h
        subst hQ
        exact w_iret C hW hr hlocks dX11_round_35
def b_X11_knowBy_15 (v1 : Int32) (v2 : Int32) (v5 : Int32) (I : MI) (L : ML) (z4 : Int32) (z6 : Int32) : Option ((Int32 × Int32) ⊕ ((Int32))) :=
  (if v2 ≤ z6 then some (Sum.inr z4) else gi (v1 + ((2 : Int32) * z6)) 96 (bd1 (f_X11_has z4 ((L 247 (v1 + ((2 : Int32) * z6)).toNatClampNeg).toInt32)) (fun r4 => bd1 ((if r4 = 0 then some (0 : Int32) else gi ((v1 + ((2 : Int32) * z6)) + (1 : Int32)) 96 (some ((1 : Int32) <<< (((L 247 ((v1 + ((2 : Int32) * z6)) + (1 : Int32)).toNatClampNeg).toInt32) &&& (31 : Int32)))))) (fun y6 => nm (z4 ||| y6) (fun x9 => nm (z6 + (1 : Int32)) (fun x10 => some (Sum.inl (x9, x10))))))))
set_option maxHeartbeats 4000000 in
set_option maxRecDepth 100000 in
theorem l_X11_knowBy_15 {g : Gp} {p : Program} {l : Launch} {e : Env} {s : State} {m : MethodId} {args : Array Value} {below : List Frame} {meth : Method} {c : Code} {Q : State → Prop}  (C : Cx g p s m args c RX11 cX11_knowBy 7) (v1 : Int32) (v2 : Int32) (v5 : Int32)  (I : MI) (L : ML) : ∀ (n : Nat) (z4 : Int32) (z6 : Int32) (y0_4 : Int32), lp (fun s => b_X11_knowBy_15 v1 v2 v5 I L s.1 s.2) n (z4, z6) = some y0_4 → ∀ (H : Heap) (locs : List Loc) (ls : Array Slot), Ws g s I L H locs → lv_has ls 7 [(0, .ref (g.1 + 244)), (1, .int v1), (2, .int v2), (4, .int z4), (5, .int v5), (6, .int z6)] → (∀ (H : Heap) (locs : List Loc) (ls : Array Slot), Ws g s I L H locs → lv_has ls 7 [(0, .ref (g.1 + 244)), (1, .int v1), (2, .int v2), (4, .int y0_4), (5, .int v5)] → W p l e (rmD 1) s m args below meth c H locs 0 0 Q (F0 m 72 ls [])) → W p l e (rmD 1) s m args below meth c H locs 0 0 Q (F0 m 15 ls []) := by
  intro n
  induction n with
  | zero => intro z4 z6 y0_4 h; exact lp_zero h
  | succ n ih =>
      intro z4 z6 y0_4 h H locs ls hW hl hx0
      obtain ⟨r9, h, h9⟩ := lp_some h
      have h : b_X11_knowBy_15 v1 v2 v5 I L z4 z6 = some r9 := h
      unfold b_X11_knowBy_15 at h
      refine lv_iload C.1.1 C.1.2.1 dX11_knowBy_15 (lv_at hl 5 rfl) ?_
      refine lv_iload_n C.1.1 C.1.2.1 dX11_knowBy_17 rfl (lv_at hl 2 rfl) ?_
      refine lv_icmp_ge (tgt := 72) C.1.1 C.1.2.1 dX11_knowBy_18 (by decide) (fun hc2 => ?_) (fun hc2 => ?_)
      · replace h := ite_t hc2 h
        obtain rfl := Option.some.inj h
        replace h9 := Option.some.inj h9
        obtain rfl := pnj1 h9
        exact hx0 _ _ _ hW (lv_sub hl [0, 1, 2, 3, 4] rfl)
      · replace h := ite_f hc2 h
        refine lv_iload C.1.1 C.1.2.1 dX11_knowBy_21 (lv_at hl 3 rfl) ?_
        refine lv_iload C.1.1 C.1.2.1 dX11_knowBy_23 (lv_at hl 3 rfl) ?_
        refine lv_aload_n C.1.1 C.1.2.1 dX11_knowBy_25 rfl (lv_at hl 0 rfl) ?_
        refine G_X11_17 C hW (by decide) dX11_knowBy_26 ?_
        refine lv_iload_n C.1.1 C.1.2.1 dX11_knowBy_29 rfl (lv_at hl 1 rfl) ?_
        refine lv_iconst (v := 2) C.1.1 C.1.2.1 dX11_knowBy_30 (by decide) ?_
        refine lv_iload C.1.1 C.1.2.1 dX11_knowBy_31 (lv_at hl 5 rfl) ?_
        refine lv_imul C.1.1 C.1.2.1 dX11_knowBy_33 ?_
        refine lv_iadd C.1.1 C.1.2.1 dX11_knowBy_34 ?_
        obtain ⟨hi3, h⟩ := gi_some h
        refine w_lald C hW (n := 96) (by decide) (by decide) hi3 dX11_knowBy_35 ?_
        refine lv_l2i C.1.1 C.1.2.1 dX11_knowBy_36 rfl ?_
        obtain ⟨r4, hc5, h⟩ := bd1_some h
        refine w_callSi (k := 2) (As := [.int z4, .int ((L 247 (v1 + ((2 : Int32) * z6)).toNatClampNeg).toInt32)]) (rest := [.int z4]) C hW (c_X11_has g l  hc5 I L) K_X11_156 (by decide +kernel) ⟨by decide, by decide⟩ ⟨Nat.le_refl _, Nat.le_refl _⟩ rfl hl.1 rfl (Nat.le_of_ble_eq_true rfl) dX11_knowBy_37 (fun H locs hW => ?_)
        obtain ⟨y6, hj8, h⟩ := bd1_some h
        have kJ7 : ∀ (H : Heap) (locs : List Loc) (ls : Array Slot), Ws g s I L H locs → lv_has ls 7 [(0, .ref (g.1 + 244)), (1, .int v1), (2, .int v2), (5, .int v5), (6, .int z6)] → W p l e (rmD 1) s m args below meth c H locs 0 0 Q (F0 m 63 ls [.int y6, .int z4]) := by
          intro H locs ls hW hl
          refine lv_ior C.1.1 C.1.2.1 dX11_knowBy_63 ?_
          refine lv_topi (fun x9 ex9 => ?_)
          replace h := nm_at ex9 h
          clear ex9
          refine lv_istore (lv' := [(4, .int x9), (0, .ref (g.1 + 244)), (1, .int v1), (2, .int v2), (5, .int v5), (6, .int z6)]) C.1.1 C.1.2.1 dX11_knowBy_64 hl (by decide) rfl (fun ls hl => ?_)
          obtain ⟨x10, ex10⟩ : ∃ y : Int32, y = z6 + (1 : Int32) := ⟨_, rfl⟩
          replace h := nm_at ex10 h
          refine lv_iinc (v := x10) (lv' := [(6, .int x10), (4, .int x9), (0, .ref (g.1 + 244)), (1, .int v1), (2, .int v2), (5, .int v5)]) C.1.1 C.1.2.1 dX11_knowBy_66 hl (k := 5) rfl (by rw [ex10]; rfl) (by decide) rfl (fun ls hl => ?_)
          clear ex10
          refine lv_goto (tgt := 15) C.1.1 C.1.2.1 dX11_knowBy_69 (by decide) ?_
          obtain rfl := Option.some.inj h
          exact ih _ _ _ h9 _ _ _ hW (lv_sub hl [2, 3, 4, 1, 5, 0] rfl) hx0
        clear h
        have h := hj8
        clear hj8
        refine lv_if_eq (tgt := 62) C.1.1 C.1.2.1 dX11_knowBy_40 (by decide) (fun hc11 => ?_) (fun hc11 => ?_)
        · replace h := ite_t hc11 h
          refine lv_iconst (v := 0) C.1.1 C.1.2.1 dX11_knowBy_62 (by decide) ?_
          obtain rfl := inj1 h
          exact kJ7 _ _ _ hW (lv_sub hl [0, 1, 2, 4, 5] rfl)
        · replace h := ite_f hc11 h
          refine lv_iconst (v := 1) C.1.1 C.1.2.1 dX11_knowBy_43 (by decide) ?_
          refine lv_aload_n C.1.1 C.1.2.1 dX11_knowBy_44 rfl (lv_at hl 0 rfl) ?_
          refine G_X11_17 C hW (by decide) dX11_knowBy_45 ?_
          refine lv_iload_n C.1.1 C.1.2.1 dX11_knowBy_48 rfl (lv_at hl 1 rfl) ?_
          refine lv_iconst (v := 2) C.1.1 C.1.2.1 dX11_knowBy_49 (by decide) ?_
          refine lv_iload C.1.1 C.1.2.1 dX11_knowBy_50 (lv_at hl 5 rfl) ?_
          refine lv_imul C.1.1 C.1.2.1 dX11_knowBy_52 ?_
          refine lv_iadd C.1.1 C.1.2.1 dX11_knowBy_53 ?_
          refine lv_iconst (v := 1) C.1.1 C.1.2.1 dX11_knowBy_54 (by decide) ?_
          refine lv_iadd C.1.1 C.1.2.1 dX11_knowBy_55 ?_
          obtain ⟨hi12, h⟩ := gi_some h
          refine w_lald C hW (n := 96) (by decide) (by decide) hi12 dX11_knowBy_56 ?_
          refine lv_l2i C.1.1 C.1.2.1 dX11_knowBy_57 rfl ?_
          refine lv_ishl C.1.1 C.1.2.1 dX11_knowBy_58 ?_
          refine lv_goto (tgt := 63) C.1.1 C.1.2.1 dX11_knowBy_59 (by decide) ?_
          obtain rfl := inj1 h
          exact kJ7 _ _ _ hW (lv_sub hl [0, 1, 2, 4, 5] rfl)
def b_X11_knowBy_6 (v1 : Int32) (v2 : Int32) (I : MI) (L : ML) (z4 : Int32) (z5 : Int32) : Option ((Int32 × Int32) ⊕ ((Int32))) :=
  (if v2 ≤ z5 then some (Sum.inr z4) else bd1 (lp (fun s => b_X11_knowBy_15 v1 v2 z5 I L s.1 s.2) FU ((z4, (0 : Int32)))) (fun y14 => nm (z5 + (1 : Int32)) (fun x15 => some (Sum.inl (y14, x15)))))
set_option maxHeartbeats 4000000 in
set_option maxRecDepth 100000 in
theorem l_X11_knowBy_6 {g : Gp} {p : Program} {l : Launch} {e : Env} {s : State} {m : MethodId} {args : Array Value} {below : List Frame} {meth : Method} {c : Code} {Q : State → Prop}  (C : Cx g p s m args c RX11 cX11_knowBy 7) (v1 : Int32) (v2 : Int32)  (I : MI) (L : ML) : ∀ (n : Nat) (z4 : Int32) (z5 : Int32) (y0_4 : Int32), lp (fun s => b_X11_knowBy_6 v1 v2 I L s.1 s.2) n (z4, z5) = some y0_4 → ∀ (H : Heap) (locs : List Loc) (ls : Array Slot), Ws g s I L H locs → lv_has ls 7 [(0, .ref (g.1 + 244)), (1, .int v1), (2, .int v2), (4, .int z4), (5, .int z5)] → (∀ (H : Heap) (locs : List Loc) (ls : Array Slot), Ws g s I L H locs → lv_has ls 7 [(4, .int y0_4)] → W p l e (rmD 1) s m args below meth c H locs 0 0 Q (F0 m 78 ls [])) → W p l e (rmD 1) s m args below meth c H locs 0 0 Q (F0 m 6 ls []) := by
  intro n
  induction n with
  | zero => intro z4 z5 y0_4 h; exact lp_zero h
  | succ n ih =>
      intro z4 z5 y0_4 h H locs ls hW hl hx0
      obtain ⟨r9, h, h9⟩ := lp_some h
      have h : b_X11_knowBy_6 v1 v2 I L z4 z5 = some r9 := h
      unfold b_X11_knowBy_6 at h
      refine lv_iload C.1.1 C.1.2.1 dX11_knowBy_6 (lv_at hl 4 rfl) ?_
      refine lv_iload_n C.1.1 C.1.2.1 dX11_knowBy_8 rfl (lv_at hl 2 rfl) ?_
      refine lv_icmp_ge (tgt := 78) C.1.1 C.1.2.1 dX11_knowBy_9 (by decide) (fun hc1 => ?_) (fun hc1 => ?_)
      · replace h := ite_t hc1 h
        obtain rfl := Option.some.inj h
        replace h9 := Option.some.inj h9
        obtain rfl := pnj1 h9
        exact hx0 _ _ _ hW (lv_sub hl [3] rfl)
      · replace h := ite_f hc1 h
        refine lv_iconst (v := 0) C.1.1 C.1.2.1 dX11_knowBy_12 (by decide) ?_
        refine lv_istore (lv' := [(6, .int (0 : Int32)), (0, .ref (g.1 + 244)), (1, .int v1), (2, .int v2), (4, .int z4), (5, .int z5)]) C.1.1 C.1.2.1 dX11_knowBy_13 hl (by decide) rfl (fun ls hl => ?_)
        obtain ⟨y14, hq13, h⟩ := bd1_some h
        refine l_X11_knowBy_15 C v1 v2 z5  I L _ _ _ _ hq13 _ _ _ hW (lv_sub hl [1, 2, 3, 4, 5, 0] rfl) (fun H locs ls hW hl => ?_)
        obtain ⟨x15, ex15⟩ : ∃ y : Int32, y = z5 + (1 : Int32) := ⟨_, rfl⟩
        replace h := nm_at ex15 h
        refine lv_iinc (v := x15) (lv' := [(5, .int x15), (0, .ref (g.1 + 244)), (1, .int v1), (2, .int v2), (4, .int y14)]) C.1.1 C.1.2.1 dX11_knowBy_72 hl (k := 4) rfl (by rw [ex15]; rfl) (by decide) rfl (fun ls hl => ?_)
        clear ex15
        refine lv_goto (tgt := 6) C.1.1 C.1.2.1 dX11_knowBy_75 (by decide) ?_
        obtain rfl := Option.some.inj h
        exact ih _ _ _ h9 _ _ _ hW (lv_sub hl [1, 2, 3, 4, 0] rfl) hx0
def f_X11_knowBy (a1 : Int32) (a2 : Int32) (a3 : Int32) (I : MI) (L : ML) : Option (Int32) :=
  bd1 (lp (fun s => b_X11_knowBy_6 a1 a2 I L s.1 s.2) FU ((a3, (0 : Int32)))) (fun y17 => some y17)
set_option maxHeartbeats 4000000 in
set_option maxRecDepth 100000 in
theorem c_X11_knowBy (g : Gp) (l : Launch) {a1 : Int32} {a2 : Int32} {a3 : Int32}  {I : MI} {L : ML} {r : Int32} (h : f_X11_knowBy a1 a2 a3 I L = some r) : MetI g l yX11_knowBy cX11_knowBy 7 .int 1 [.ref (g.1 + 244), .int a1, .int a2, .int a3] I L r I L := by
  unfold f_X11_knowBy at h
  refine w_enter (by decide) (Nat.le_of_ble_eq_true rfl) (own := RX11) rfl ?_
  intro p e s m below meth c args Q hQ C hr hlocks hW ls hl
  have hl : lv_has ls 7 [(0, .ref (g.1 + 244)), (1, .int a1), (2, .int a2), (3, .int a3)] := hl
  refine lv_iload_n C.1.1 C.1.2.1 dX11_knowBy_0 rfl (lv_at hl 3 rfl) ?_
  refine lv_istore (lv' := [(4, .int a3), (0, .ref (g.1 + 244)), (1, .int a1), (2, .int a2), (3, .int a3)]) C.1.1 C.1.2.1 dX11_knowBy_1 hl (by decide) rfl (fun ls hl => ?_)
  refine lv_iconst (v := 0) C.1.1 C.1.2.1 dX11_knowBy_3 (by decide) ?_
  refine lv_istore (lv' := [(5, .int (0 : Int32)), (4, .int a3), (0, .ref (g.1 + 244)), (1, .int a1), (2, .int a2), (3, .int a3)]) C.1.1 C.1.2.1 dX11_knowBy_4 hl (by decide) rfl (fun ls hl => ?_)
  obtain ⟨y17, hq16, h⟩ := bd1_some h
  refine l_X11_knowBy_6 C a1 a2  I L _ _ _ _ hq16 _ _ _ hW (lv_sub hl [2, 3, 4, 1, 0] rfl) (fun H locs ls hW hl => ?_)
  refine lv_iload C.1.1 C.1.2.1 dX11_knowBy_78 (lv_at hl 0 rfl) ?_
  obtain rfl := inj1 h
  subst hQ
  exact w_iret C hW hr hlocks dX11_knowBy_80
def f_X11_goesOn (a1 : Int32) (a2 : Int32) (a3 : Int32) (a4 : Int32) (a5 : Int32) (I : MI) (L : ML) : Option (Int32) :=
  bd1 (f_X11_isLane a1 a2) (fun r1 => (if r1 = 0 then some (-1 : Int32) else bd1 (f_X11_in a4.toInt64 (0 : Int64) (12 : Int64)) (fun r4 => (if r4 = 0 then some (-1 : Int32) else bd1 (f_X11_in a5.toInt64 (0 : Int64) (255 : Int64)) (fun r7 => (if r7 = 0 then some (-1 : Int32) else bd1 (f_X11_against a1 a2 a3 ((2 : Int32) * a4) I L) (fun r10 => (if 0 ≤ r10 then nm (((24 : Int32) * a1) + a3) (fun x13 => bd1 (f_X11_areWithin x13 ((2 : Int32) * a4) (7 : Int32) I L) (fun r14 => bd1 ((if r14 = 0 then some (-2 : Int32) else bd1 (f_X11_knowBy x13 a4 a5 I L) (fun r20 => some r20))) (fun y16 => some y16))) else some r10))))))))
set_option maxHeartbeats 4000000 in
set_option maxRecDepth 100000 in
theorem c_X11_goesOn (g : Gp) (l : Launch) {a1 : Int32} {a2 : Int32} {a3 : Int32} {a4 : Int32} {a5 : Int32}  {I : MI} {L : ML} {r : Int32} (h : f_X11_goesOn a1 a2 a3 a4 a5 I L = some r) : MetI g l yX11_goesOn cX11_goesOn 8 .int 3 [.ref (g.1 + 244), .int a1, .int a2, .int a3, .int a4, .int a5] I L r I L := by
  unfold f_X11_goesOn at h
  refine w_enter (by decide) (Nat.le_of_ble_eq_true rfl) (own := RX11) rfl ?_
  intro p e s m below meth c args Q hQ C hr hlocks hW ls hl
  have hl : lv_has ls 8 [(0, .ref (g.1 + 244)), (1, .int a1), (2, .int a2), (3, .int a3), (4, .int a4), (5, .int a5)] := hl
  refine lv_iload_n C.1.1 C.1.2.1 dX11_goesOn_0 rfl (lv_at hl 1 rfl) ?_
  refine lv_iload_n C.1.1 C.1.2.1 dX11_goesOn_1 rfl (lv_at hl 2 rfl) ?_
  obtain ⟨r1, hc2, h⟩ := bd1_some h
  refine w_callSi (k := 2) (As := [.int a1, .int a2]) (rest := []) C hW (c_X11_isLane g l  hc2 I L) K_X11_205 (by decide +kernel) ⟨by decide, by decide⟩ ⟨Nat.le_refl _, Nat.le_refl _⟩ rfl hl.1 rfl (Nat.le_of_ble_eq_true rfl) dX11_goesOn_2 (fun H locs hW => ?_)
  refine lv_if_eq (tgt := 34) C.1.1 C.1.2.1 dX11_goesOn_5 (by decide) (fun hc3 => ?_) (fun hc3 => ?_)
  · replace h := ite_t hc3 h
    refine lv_iconst (v := -1) C.1.1 C.1.2.1 dX11_goesOn_34 (by decide) ?_
    obtain rfl := inj1 h
    subst hQ
    exact w_iret C hW hr hlocks dX11_goesOn_35
  · replace h := ite_f hc3 h
    refine lv_iload C.1.1 C.1.2.1 dX11_goesOn_8 (lv_at hl 4 rfl) ?_
    refine lv_i2l C.1.1 C.1.2.1 dX11_goesOn_10 rfl ?_
    refine lv_lconst (v := 0) C.1.1 C.1.2.1 dX11_goesOn_11 (by decide) ?_
    refine lv_ldc2 C.1.1 C.1.2.1 C.1.2.2.2.1 (C.1.2.2.2.2 _ kl_X11_231) dX11_goesOn_12 ?_
    obtain ⟨r4, hc5, h⟩ := bd1_some h
    refine w_callSi (k := 3) (As := [.long a4.toInt64, .long (0 : Int64), .long (12 : Int64)]) (rest := []) C hW (c_X11_in g l  hc5 I L) K_X11_42 (by decide +kernel) ⟨by decide, by decide⟩ ⟨Nat.le_refl _, Nat.le_refl _⟩ rfl hl.1 rfl (Nat.le_of_ble_eq_true rfl) dX11_goesOn_15 (fun H locs hW => ?_)
    refine lv_if_eq (tgt := 34) C.1.1 C.1.2.1 dX11_goesOn_18 (by decide) (fun hc6 => ?_) (fun hc6 => ?_)
    · replace h := ite_t hc6 h
      refine lv_iconst (v := -1) C.1.1 C.1.2.1 dX11_goesOn_34 (by decide) ?_
      obtain rfl := inj1 h
      subst hQ
      exact w_iret C hW hr hlocks dX11_goesOn_35
    · replace h := ite_f hc6 h
      refine lv_iload C.1.1 C.1.2.1 dX11_goesOn_21 (lv_at hl 5 rfl) ?_
      refine lv_i2l C.1.1 C.1.2.1 dX11_goesOn_23 rfl ?_
      refine lv_lconst (v := 0) C.1.1 C.1.2.1 dX11_goesOn_24 (by decide) ?_
      refine lv_ldc2 C.1.1 C.1.2.1 C.1.2.2.2.1 (C.1.2.2.2.2 _ kl_X11_46) dX11_goesOn_25 ?_
      obtain ⟨r7, hc8, h⟩ := bd1_some h
      refine w_callSi (k := 3) (As := [.long a5.toInt64, .long (0 : Int64), .long (255 : Int64)]) (rest := []) C hW (c_X11_in g l  hc8 I L) K_X11_42 (by decide +kernel) ⟨by decide, by decide⟩ ⟨Nat.le_refl _, Nat.le_refl _⟩ rfl hl.1 rfl (Nat.le_of_ble_eq_true rfl) dX11_goesOn_28 (fun H locs hW => ?_)
      refine lv_if_ne (tgt := 36) C.1.1 C.1.2.1 dX11_goesOn_31 (by decide) (fun hc9 => ?_) (fun hc9 => ?_)
      · replace h := ite_f hc9 h
        refine lv_aload_n C.1.1 C.1.2.1 dX11_goesOn_36 rfl (lv_at hl 0 rfl) ?_
        refine lv_iload_n C.1.1 C.1.2.1 dX11_goesOn_37 rfl (lv_at hl 1 rfl) ?_
        refine lv_iload_n C.1.1 C.1.2.1 dX11_goesOn_38 rfl (lv_at hl 2 rfl) ?_
        refine lv_iload_n C.1.1 C.1.2.1 dX11_goesOn_39 rfl (lv_at hl 3 rfl) ?_
        refine lv_iconst (v := 2) C.1.1 C.1.2.1 dX11_goesOn_40 (by decide) ?_
        refine lv_iload C.1.1 C.1.2.1 dX11_goesOn_41 (lv_at hl 4 rfl) ?_
        refine lv_imul C.1.1 C.1.2.1 dX11_goesOn_43 ?_
        obtain ⟨r10, hc11, h⟩ := bd1_some h
        refine w_callVi (k := 4) (As := [.int a1, .int a2, .int a3, .int ((2 : Int32) * a4)]) (rest := []) C hW (c_X11_against g l  hc11) (by decide) rfl (EX_11 (by decide)) K_X11_208 (by decide +kernel) ⟨by decide, by decide⟩ ⟨Nat.le_refl _, Nat.le_refl _⟩ rfl hl.1 rfl (Nat.le_of_ble_eq_true rfl) dX11_goesOn_44 (fun H locs hW => ?_)
        refine lv_istore (lv' := [(6, .int r10), (0, .ref (g.1 + 244)), (1, .int a1), (2, .int a2), (3, .int a3), (4, .int a4), (5, .int a5)]) C.1.1 C.1.2.1 dX11_goesOn_47 hl (by decide) rfl (fun ls hl => ?_)
        refine lv_iload C.1.1 C.1.2.1 dX11_goesOn_49 (lv_at hl 0 rfl) ?_
        refine lv_if_ge (tgt := 57) C.1.1 C.1.2.1 dX11_goesOn_51 (by decide) (fun hc12 => ?_) (fun hc12 => ?_)
        · replace h := ite_t hc12 h
          refine lv_bipush (v := 24) C.1.1 C.1.2.1 dX11_goesOn_57 (by decide) ?_
          refine lv_iload_n C.1.1 C.1.2.1 dX11_goesOn_59 rfl (lv_at hl 2 rfl) ?_
          refine lv_imul C.1.1 C.1.2.1 dX11_goesOn_60 ?_
          refine lv_iload_n C.1.1 C.1.2.1 dX11_goesOn_61 rfl (lv_at hl 4 rfl) ?_
          refine lv_iadd C.1.1 C.1.2.1 dX11_goesOn_62 ?_
          refine lv_topi (fun x13 ex13 => ?_)
          replace h := nm_at ex13 h
          clear ex13
          refine lv_istore (lv' := [(7, .int x13), (6, .int r10), (0, .ref (g.1 + 244)), (1, .int a1), (2, .int a2), (3, .int a3), (4, .int a4), (5, .int a5)]) C.1.1 C.1.2.1 dX11_goesOn_63 hl (by decide) rfl (fun ls hl => ?_)
          refine lv_aload_n C.1.1 C.1.2.1 dX11_goesOn_65 rfl (lv_at hl 2 rfl) ?_
          refine lv_iload C.1.1 C.1.2.1 dX11_goesOn_66 (lv_at hl 0 rfl) ?_
          refine lv_iconst (v := 2) C.1.1 C.1.2.1 dX11_goesOn_68 (by decide) ?_
          refine lv_iload C.1.1 C.1.2.1 dX11_goesOn_69 (lv_at hl 6 rfl) ?_
          refine lv_imul C.1.1 C.1.2.1 dX11_goesOn_71 ?_
          refine lv_bipush (v := 7) C.1.1 C.1.2.1 dX11_goesOn_72 (by decide) ?_
          obtain ⟨r14, hc15, h⟩ := bd1_some h
          refine w_callVi (k := 3) (As := [.int x13, .int ((2 : Int32) * a4), .int (7 : Int32)]) (rest := []) C hW (c_X11_areWithin g l  hc15) (by decide) rfl (EX_11 (by decide)) K_X11_225 (by decide +kernel) ⟨by decide, by decide⟩ ⟨Nat.le_refl _, Nat.le_refl _⟩ rfl hl.1 rfl (Nat.le_of_ble_eq_true rfl) dX11_goesOn_74 (fun H locs hW => ?_)
          obtain ⟨y16, hj18, h⟩ := bd1_some h
          have kJ17 : ∀ (H : Heap) (locs : List Loc) (ls : Array Slot), Ws g s I L H locs → lv_has ls 8 [] → W p l e (rmD 3) s m args below meth c H locs 0 0 Q (F0 m 95 ls [.int y16]) := by
            intro H locs ls hW hl
            obtain rfl := inj1 h
            subst hQ
            exact w_iret C hW hr hlocks dX11_goesOn_95
          clear h
          have h := hj18
          clear hj18
          refine lv_if_eq (tgt := 93) C.1.1 C.1.2.1 dX11_goesOn_77 (by decide) (fun hc19 => ?_) (fun hc19 => ?_)
          · replace h := ite_t hc19 h
            refine lv_bipush (v := -2) C.1.1 C.1.2.1 dX11_goesOn_93 (by decide) ?_
            obtain rfl := inj1 h
            exact kJ17 _ _ _ hW (lv_sub hl [] rfl)
          · replace h := ite_f hc19 h
            refine lv_aload_n C.1.1 C.1.2.1 dX11_goesOn_80 rfl (lv_at hl 2 rfl) ?_
            refine lv_iload C.1.1 C.1.2.1 dX11_goesOn_81 (lv_at hl 0 rfl) ?_
            refine lv_iload C.1.1 C.1.2.1 dX11_goesOn_83 (lv_at hl 6 rfl) ?_
            refine lv_iload C.1.1 C.1.2.1 dX11_goesOn_85 (lv_at hl 7 rfl) ?_
            obtain ⟨r20, hc21, h⟩ := bd1_some h
            refine w_callVi (k := 3) (As := [.int x13, .int a4, .int a5]) (rest := []) C hW (c_X11_knowBy g l  hc21) (by decide) rfl (EX_11 (by decide)) K_X11_233 (by decide +kernel) ⟨by decide, by decide⟩ ⟨Nat.le_refl _, Nat.le_refl _⟩ rfl hl.1 rfl (Nat.le_of_ble_eq_true rfl) dX11_goesOn_87 (fun H locs hW => ?_)
            refine lv_goto (tgt := 95) C.1.1 C.1.2.1 dX11_goesOn_90 (by decide) ?_
            obtain rfl := inj1 h
            exact kJ17 _ _ _ hW (lv_sub hl [] rfl)
        · replace h := ite_f hc12 h
          refine lv_iload C.1.1 C.1.2.1 dX11_goesOn_54 (lv_at hl 0 rfl) ?_
          obtain rfl := inj1 h
          subst hQ
          exact w_iret C hW hr hlocks dX11_goesOn_56
      · replace h := ite_t hc9 h
        refine lv_iconst (v := -1) C.1.1 C.1.2.1 dX11_goesOn_34 (by decide) ?_
        obtain rfl := inj1 h
        subst hQ
        exact w_iret C hW hr hlocks dX11_goesOn_35
def b_X11_told_91 (v4 : Int32) (v5 : Int32) (v7 : Int32) (I : MI) (L : ML) (z8 : Int32) (z9 : Int32) : Option ((Int32 × Int32) ⊕ ((Int32))) :=
  (if z9 ≤ 0 then some (Sum.inr z8) else bd1 (f_X11_knowBy v7 v4 z9 I L) (fun r18 => bd1 ((if r18 = (255 : Int32) then bd1 (f_X11_ones z9) (fun r25 => bd1 (f_X11_ones z8) (fun r27 => (if r27 < r25 then some z8 else some z9))) else some z8)) (fun y20 => nm (z9 + (-1 : Int32)) (fun x23 => some (Sum.inl (y20, x23))))))
set_option maxHeartbeats 4000000 in
set_option maxRecDepth 100000 in
theorem l_X11_told_91 {g : Gp} {p : Program} {l : Launch} {e : Env} {s : State} {m : MethodId} {args : Array Value} {below : List Frame} {meth : Method} {c : Code} {Q : State → Prop}  (C : Cx g p s m args c RX11 cX11_told 10) (v4 : Int32) (v5 : Int32) (v7 : Int32)  (I : MI) (L : ML) : ∀ (n : Nat) (z8 : Int32) (z9 : Int32) (y0_8 : Int32), lp (fun s => b_X11_told_91 v4 v5 v7 I L s.1 s.2) n (z8, z9) = some y0_8 → ∀ (H : Heap) (locs : List Loc) (ls : Array Slot), Ws g s I L H locs → lv_has ls 10 [(0, .ref (g.1 + 244)), (4, .int v4), (5, .int v5), (7, .int v7), (8, .int z8), (9, .int z9)] → (∀ (H : Heap) (locs : List Loc) (ls : Array Slot), Ws g s I L H locs → lv_has ls 10 [(5, .int v5), (8, .int y0_8)] → W p l e (rmD 3) s m args below meth c H locs 0 0 Q (F0 m 140 ls [])) → W p l e (rmD 3) s m args below meth c H locs 0 0 Q (F0 m 91 ls []) := by
  intro n
  induction n with
  | zero => intro z8 z9 y0_8 h; exact lp_zero h
  | succ n ih =>
      intro z8 z9 y0_8 h H locs ls hW hl hx0
      obtain ⟨r9, h, h9⟩ := lp_some h
      have h : b_X11_told_91 v4 v5 v7 I L z8 z9 = some r9 := h
      unfold b_X11_told_91 at h
      refine lv_iload C.1.1 C.1.2.1 dX11_told_91 (lv_at hl 5 rfl) ?_
      refine lv_if_le (tgt := 140) C.1.1 C.1.2.1 dX11_told_93 (by decide) (fun hc17 => ?_) (fun hc17 => ?_)
      · replace h := ite_t hc17 h
        obtain rfl := Option.some.inj h
        replace h9 := Option.some.inj h9
        obtain rfl := pnj1 h9
        exact hx0 _ _ _ hW (lv_sub hl [2, 4] rfl)
      · replace h := ite_f hc17 h
        refine lv_aload_n C.1.1 C.1.2.1 dX11_told_96 rfl (lv_at hl 0 rfl) ?_
        refine lv_iload C.1.1 C.1.2.1 dX11_told_97 (lv_at hl 3 rfl) ?_
        refine lv_iload C.1.1 C.1.2.1 dX11_told_99 (lv_at hl 1 rfl) ?_
        refine lv_iload C.1.1 C.1.2.1 dX11_told_101 (lv_at hl 5 rfl) ?_
        obtain ⟨r18, hc19, h⟩ := bd1_some h
        refine w_callVi (k := 3) (As := [.int v7, .int v4, .int z9]) (rest := []) C hW (c_X11_knowBy g l  hc19) (by decide) rfl (EX_11 (by decide)) K_X11_233 (by decide +kernel) ⟨by decide, by decide⟩ ⟨Nat.le_refl _, Nat.le_refl _⟩ rfl hl.1 rfl (Nat.le_of_ble_eq_true rfl) dX11_told_103 (fun H locs hW => ?_)
        refine lv_sipush (v := 255) C.1.1 C.1.2.1 dX11_told_106 (by decide) ?_
        obtain ⟨y20, hj22, h⟩ := bd1_some h
        have kJ21 : ∀ (H : Heap) (locs : List Loc) (ls : Array Slot), Ws g s I L H locs → lv_has ls 10 [(0, .ref (g.1 + 244)), (4, .int v4), (5, .int v5), (7, .int v7), (9, .int z9)] → W p l e (rmD 3) s m args below meth c H locs 0 0 Q (F0 m 132 ls [.int y20]) := by
          intro H locs ls hW hl
          refine lv_istore (lv' := [(8, .int y20), (0, .ref (g.1 + 244)), (4, .int v4), (5, .int v5), (7, .int v7), (9, .int z9)]) C.1.1 C.1.2.1 dX11_told_132 hl (by decide) rfl (fun ls hl => ?_)
          obtain ⟨x23, ex23⟩ : ∃ y : Int32, y = z9 + (-1 : Int32) := ⟨_, rfl⟩
          replace h := nm_at ex23 h
          refine lv_iinc (v := x23) (lv' := [(9, .int x23), (8, .int y20), (0, .ref (g.1 + 244)), (4, .int v4), (5, .int v5), (7, .int v7)]) C.1.1 C.1.2.1 dX11_told_134 hl (k := 5) rfl (by rw [ex23]; rfl) (by decide) rfl (fun ls hl => ?_)
          clear ex23
          refine lv_goto (tgt := 91) C.1.1 C.1.2.1 dX11_told_137 (by decide) ?_
          obtain rfl := Option.some.inj h
          exact ih _ _ _ h9 _ _ _ hW (lv_sub hl [2, 3, 4, 5, 1, 0] rfl) hx0
        clear h
        have h := hj22
        clear hj22
        refine lv_icmp_ne (tgt := 130) C.1.1 C.1.2.1 dX11_told_109 (by decide) (fun hc24 => ?_) (fun hc24 => ?_)
        · replace h := ite_f hc24 h
          refine lv_iload C.1.1 C.1.2.1 dX11_told_130 (lv_at hl 4 rfl) ?_
          obtain rfl := inj1 h
          exact kJ21 _ _ _ hW (lv_sub hl [0, 1, 2, 3, 5] rfl)
        · replace h := ite_t hc24 h
          refine lv_iload C.1.1 C.1.2.1 dX11_told_112 (lv_at hl 5 rfl) ?_
          obtain ⟨r25, hc26, h⟩ := bd1_some h
          refine w_callSi (k := 1) (As := [.int z9]) (rest := []) C hW (c_X11_ones g l  hc26 I L) K_X11_164 (by decide +kernel) ⟨by decide, by decide⟩ ⟨Nat.le_refl _, Nat.le_refl _⟩ rfl hl.1 rfl (Nat.le_of_ble_eq_true rfl) dX11_told_114 (fun H locs hW => ?_)
          refine lv_iload C.1.1 C.1.2.1 dX11_told_117 (lv_at hl 4 rfl) ?_
          obtain ⟨r27, hc28, h⟩ := bd1_some h
          refine w_callSi (k := 1) (As := [.int z8]) (rest := [.int r25]) C hW (c_X11_ones g l  hc28 I L) K_X11_164 (by decide +kernel) ⟨by decide, by decide⟩ ⟨Nat.le_refl _, Nat.le_refl _⟩ rfl hl.1 rfl (Nat.le_of_ble_eq_true rfl) dX11_told_119 (fun H locs hW => ?_)
          refine lv_icmp_gt (tgt := 130) C.1.1 C.1.2.1 dX11_told_122 (by decide) (fun hc29 => ?_) (fun hc29 => ?_)
          · replace h := ite_t hc29 h
            refine lv_iload C.1.1 C.1.2.1 dX11_told_130 (lv_at hl 4 rfl) ?_
            obtain rfl := inj1 h
            exact kJ21 _ _ _ hW (lv_sub hl [0, 1, 2, 3, 5] rfl)
          · replace h := ite_f hc29 h
            refine lv_iload C.1.1 C.1.2.1 dX11_told_125 (lv_at hl 5 rfl) ?_
            refine lv_goto (tgt := 132) C.1.1 C.1.2.1 dX11_told_127 (by decide) ?_
            obtain rfl := inj1 h
            exact kJ21 _ _ _ hW (lv_sub hl [0, 1, 2, 3, 5] rfl)
def f_X11_told (a1 : Int32) (a2 : Int32) (a3 : Int32) (a4 : Int32) (a5 : Int32) (I : MI) (L : ML) : Option (Int32) :=
  bd1 (f_X11_isLane a1 a2) (fun r1 => (if r1 = 0 then some (-1 : Int32) else bd1 (f_X11_in a4.toInt64 (0 : Int64) (12 : Int64)) (fun r4 => (if r4 = 0 then some (-1 : Int32) else bd1 (f_X11_in a5.toInt64 (0 : Int64) (1 : Int64)) (fun r7 => (if r7 = 0 then some (-1 : Int32) else bd1 (f_X11_against a1 a2 a3 ((2 : Int32) * a4) I L) (fun r10 => (if 0 ≤ r10 then nm (((24 : Int32) * a1) + a3) (fun x13 => bd1 (f_X11_areWithin x13 ((2 : Int32) * a4) (7 : Int32) I L) (fun r14 => (if r14 = 0 then some (-2 : Int32) else bd1 (lp (fun s => b_X11_told_91 a4 a5 x13 I L s.1 s.2) FU (((255 : Int32), (254 : Int32)))) (fun y31 => bd1 ((if a5 = 0 then bd1 (f_X11_ones y31) (fun r36 => some r36) else some y31)) (fun y32 => some y32))))) else some r10))))))))
set_option maxHeartbeats 4000000 in
set_option maxRecDepth 100000 in
theorem c_X11_told (g : Gp) (l : Launch) {a1 : Int32} {a2 : Int32} {a3 : Int32} {a4 : Int32} {a5 : Int32}  {I : MI} {L : ML} {r : Int32} (h : f_X11_told a1 a2 a3 a4 a5 I L = some r) : MetI g l yX11_told cX11_told 10 .int 3 [.ref (g.1 + 244), .int a1, .int a2, .int a3, .int a4, .int a5] I L r I L := by
  unfold f_X11_told at h
  refine w_enter (by decide) (Nat.le_of_ble_eq_true rfl) (own := RX11) rfl ?_
  intro p e s m below meth c args Q hQ C hr hlocks hW ls hl
  have hl : lv_has ls 10 [(0, .ref (g.1 + 244)), (1, .int a1), (2, .int a2), (3, .int a3), (4, .int a4), (5, .int a5)] := hl
  refine lv_iload_n C.1.1 C.1.2.1 dX11_told_0 rfl (lv_at hl 1 rfl) ?_
  refine lv_iload_n C.1.1 C.1.2.1 dX11_told_1 rfl (lv_at hl 2 rfl) ?_
  obtain ⟨r1, hc2, h⟩ := bd1_some h
  refine w_callSi (k := 2) (As := [.int a1, .int a2]) (rest := []) C hW (c_X11_isLane g l  hc2 I L) K_X11_205 (by decide +kernel) ⟨by decide, by decide⟩ ⟨Nat.le_refl _, Nat.le_refl _⟩ rfl hl.1 rfl (Nat.le_of_ble_eq_true rfl) dX11_told_2 (fun H locs hW => ?_)
  refine lv_if_eq (tgt := 32) C.1.1 C.1.2.1 dX11_told_5 (by decide) (fun hc3 => ?_) (fun hc3 => ?_)
  · replace h := ite_t hc3 h
    refine lv_iconst (v := -1) C.1.1 C.1.2.1 dX11_told_32 (by decide) ?_
    obtain rfl := inj1 h
    subst hQ
    exact w_iret C hW hr hlocks dX11_told_33
  · replace h := ite_f hc3 h
    refine lv_iload C.1.1 C.1.2.1 dX11_told_8 (lv_at hl 4 rfl) ?_
    refine lv_i2l C.1.1 C.1.2.1 dX11_told_10 rfl ?_
    refine lv_lconst (v := 0) C.1.1 C.1.2.1 dX11_told_11 (by decide) ?_
    refine lv_ldc2 C.1.1 C.1.2.1 C.1.2.2.2.1 (C.1.2.2.2.2 _ kl_X11_231) dX11_told_12 ?_
    obtain ⟨r4, hc5, h⟩ := bd1_some h
    refine w_callSi (k := 3) (As := [.long a4.toInt64, .long (0 : Int64), .long (12 : Int64)]) (rest := []) C hW (c_X11_in g l  hc5 I L) K_X11_42 (by decide +kernel) ⟨by decide, by decide⟩ ⟨Nat.le_refl _, Nat.le_refl _⟩ rfl hl.1 rfl (Nat.le_of_ble_eq_true rfl) dX11_told_15 (fun H locs hW => ?_)
    refine lv_if_eq (tgt := 32) C.1.1 C.1.2.1 dX11_told_18 (by decide) (fun hc6 => ?_) (fun hc6 => ?_)
    · replace h := ite_t hc6 h
      refine lv_iconst (v := -1) C.1.1 C.1.2.1 dX11_told_32 (by decide) ?_
      obtain rfl := inj1 h
      subst hQ
      exact w_iret C hW hr hlocks dX11_told_33
    · replace h := ite_f hc6 h
      refine lv_iload C.1.1 C.1.2.1 dX11_told_21 (lv_at hl 5 rfl) ?_
      refine lv_i2l C.1.1 C.1.2.1 dX11_told_23 rfl ?_
      refine lv_lconst (v := 0) C.1.1 C.1.2.1 dX11_told_24 (by decide) ?_
      refine lv_lconst (v := 1) C.1.1 C.1.2.1 dX11_told_25 (by decide) ?_
      obtain ⟨r7, hc8, h⟩ := bd1_some h
      refine w_callSi (k := 3) (As := [.long a5.toInt64, .long (0 : Int64), .long (1 : Int64)]) (rest := []) C hW (c_X11_in g l  hc8 I L) K_X11_42 (by decide +kernel) ⟨by decide, by decide⟩ ⟨Nat.le_refl _, Nat.le_refl _⟩ rfl hl.1 rfl (Nat.le_of_ble_eq_true rfl) dX11_told_26 (fun H locs hW => ?_)
      refine lv_if_ne (tgt := 34) C.1.1 C.1.2.1 dX11_told_29 (by decide) (fun hc9 => ?_) (fun hc9 => ?_)
      · replace h := ite_f hc9 h
        refine lv_aload_n C.1.1 C.1.2.1 dX11_told_34 rfl (lv_at hl 0 rfl) ?_
        refine lv_iload_n C.1.1 C.1.2.1 dX11_told_35 rfl (lv_at hl 1 rfl) ?_
        refine lv_iload_n C.1.1 C.1.2.1 dX11_told_36 rfl (lv_at hl 2 rfl) ?_
        refine lv_iload_n C.1.1 C.1.2.1 dX11_told_37 rfl (lv_at hl 3 rfl) ?_
        refine lv_iconst (v := 2) C.1.1 C.1.2.1 dX11_told_38 (by decide) ?_
        refine lv_iload C.1.1 C.1.2.1 dX11_told_39 (lv_at hl 4 rfl) ?_
        refine lv_imul C.1.1 C.1.2.1 dX11_told_41 ?_
        obtain ⟨r10, hc11, h⟩ := bd1_some h
        refine w_callVi (k := 4) (As := [.int a1, .int a2, .int a3, .int ((2 : Int32) * a4)]) (rest := []) C hW (c_X11_against g l  hc11) (by decide) rfl (EX_11 (by decide)) K_X11_208 (by decide +kernel) ⟨by decide, by decide⟩ ⟨Nat.le_refl _, Nat.le_refl _⟩ rfl hl.1 rfl (Nat.le_of_ble_eq_true rfl) dX11_told_42 (fun H locs hW => ?_)
        refine lv_istore (lv' := [(6, .int r10), (0, .ref (g.1 + 244)), (1, .int a1), (2, .int a2), (3, .int a3), (4, .int a4), (5, .int a5)]) C.1.1 C.1.2.1 dX11_told_45 hl (by decide) rfl (fun ls hl => ?_)
        refine lv_iload C.1.1 C.1.2.1 dX11_told_47 (lv_at hl 0 rfl) ?_
        refine lv_if_ge (tgt := 55) C.1.1 C.1.2.1 dX11_told_49 (by decide) (fun hc12 => ?_) (fun hc12 => ?_)
        · replace h := ite_t hc12 h
          refine lv_bipush (v := 24) C.1.1 C.1.2.1 dX11_told_55 (by decide) ?_
          refine lv_iload_n C.1.1 C.1.2.1 dX11_told_57 rfl (lv_at hl 2 rfl) ?_
          refine lv_imul C.1.1 C.1.2.1 dX11_told_58 ?_
          refine lv_iload_n C.1.1 C.1.2.1 dX11_told_59 rfl (lv_at hl 4 rfl) ?_
          refine lv_iadd C.1.1 C.1.2.1 dX11_told_60 ?_
          refine lv_topi (fun x13 ex13 => ?_)
          replace h := nm_at ex13 h
          clear ex13
          refine lv_istore (lv' := [(7, .int x13), (6, .int r10), (0, .ref (g.1 + 244)), (1, .int a1), (2, .int a2), (3, .int a3), (4, .int a4), (5, .int a5)]) C.1.1 C.1.2.1 dX11_told_61 hl (by decide) rfl (fun ls hl => ?_)
          refine lv_aload_n C.1.1 C.1.2.1 dX11_told_63 rfl (lv_at hl 2 rfl) ?_
          refine lv_iload C.1.1 C.1.2.1 dX11_told_64 (lv_at hl 0 rfl) ?_
          refine lv_iconst (v := 2) C.1.1 C.1.2.1 dX11_told_66 (by decide) ?_
          refine lv_iload C.1.1 C.1.2.1 dX11_told_67 (lv_at hl 6 rfl) ?_
          refine lv_imul C.1.1 C.1.2.1 dX11_told_69 ?_
          refine lv_bipush (v := 7) C.1.1 C.1.2.1 dX11_told_70 (by decide) ?_
          obtain ⟨r14, hc15, h⟩ := bd1_some h
          refine w_callVi (k := 3) (As := [.int x13, .int ((2 : Int32) * a4), .int (7 : Int32)]) (rest := []) C hW (c_X11_areWithin g l  hc15) (by decide) rfl (EX_11 (by decide)) K_X11_225 (by decide +kernel) ⟨by decide, by decide⟩ ⟨Nat.le_refl _, Nat.le_refl _⟩ rfl hl.1 rfl (Nat.le_of_ble_eq_true rfl) dX11_told_72 (fun H locs hW => ?_)
          refine lv_if_ne (tgt := 81) C.1.1 C.1.2.1 dX11_told_75 (by decide) (fun hc16 => ?_) (fun hc16 => ?_)
          · replace h := ite_f hc16 h
            refine lv_sipush (v := 255) C.1.1 C.1.2.1 dX11_told_81 (by decide) ?_
            refine lv_istore (lv' := [(8, .int (255 : Int32)), (7, .int x13), (6, .int r10), (0, .ref (g.1 + 244)), (1, .int a1), (2, .int a2), (3, .int a3), (4, .int a4), (5, .int a5)]) C.1.1 C.1.2.1 dX11_told_84 hl (by decide) rfl (fun ls hl => ?_)
            refine lv_sipush (v := 254) C.1.1 C.1.2.1 dX11_told_86 (by decide) ?_
            refine lv_istore (lv' := [(9, .int (254 : Int32)), (8, .int (255 : Int32)), (7, .int x13), (6, .int r10), (0, .ref (g.1 + 244)), (1, .int a1), (2, .int a2), (3, .int a3), (4, .int a4), (5, .int a5)]) C.1.1 C.1.2.1 dX11_told_89 hl (by decide) rfl (fun ls hl => ?_)
            obtain ⟨y31, hq30, h⟩ := bd1_some h
            refine l_X11_told_91 C a4 a5 x13  I L _ _ _ _ hq30 _ _ _ hW (lv_sub hl [4, 8, 9, 2, 1, 0] rfl) (fun H locs ls hW hl => ?_)
            refine lv_iload C.1.1 C.1.2.1 dX11_told_140 (lv_at hl 0 rfl) ?_
            obtain ⟨y32, hj34, h⟩ := bd1_some h
            have kJ33 : ∀ (H : Heap) (locs : List Loc) (ls : Array Slot), Ws g s I L H locs → lv_has ls 10 [] → W p l e (rmD 3) s m args below meth c H locs 0 0 Q (F0 m 155 ls [.int y32]) := by
              intro H locs ls hW hl
              obtain rfl := inj1 h
              subst hQ
              exact w_iret C hW hr hlocks dX11_told_155
            clear h
            have h := hj34
            clear hj34
            refine lv_if_ne (tgt := 153) C.1.1 C.1.2.1 dX11_told_142 (by decide) (fun hc35 => ?_) (fun hc35 => ?_)
            · replace h := ite_f hc35 h
              refine lv_iload C.1.1 C.1.2.1 dX11_told_153 (lv_at hl 1 rfl) ?_
              obtain rfl := inj1 h
              exact kJ33 _ _ _ hW (lv_sub hl [] rfl)
            · replace h := ite_t hc35 h
              refine lv_iload C.1.1 C.1.2.1 dX11_told_145 (lv_at hl 1 rfl) ?_
              obtain ⟨r36, hc37, h⟩ := bd1_some h
              refine w_callSi (k := 1) (As := [.int y31]) (rest := []) C hW (c_X11_ones g l  hc37 I L) K_X11_164 (by decide +kernel) ⟨by decide, by decide⟩ ⟨Nat.le_refl _, Nat.le_refl _⟩ rfl hl.1 rfl (Nat.le_of_ble_eq_true rfl) dX11_told_147 (fun H locs hW => ?_)
              refine lv_goto (tgt := 155) C.1.1 C.1.2.1 dX11_told_150 (by decide) ?_
              obtain rfl := inj1 h
              exact kJ33 _ _ _ hW (lv_sub hl [] rfl)
          · replace h := ite_t hc16 h
            refine lv_bipush (v := -2) C.1.1 C.1.2.1 dX11_told_78 (by decide) ?_
            obtain rfl := inj1 h
            subst hQ
            exact w_iret C hW hr hlocks dX11_told_80
        · replace h := ite_f hc12 h
          refine lv_iload C.1.1 C.1.2.1 dX11_told_52 (lv_at hl 0 rfl) ?_
          obtain rfl := inj1 h
          subst hQ
          exact w_iret C hW hr hlocks dX11_told_54
      · replace h := ite_t hc9 h
        refine lv_iconst (v := -1) C.1.1 C.1.2.1 dX11_told_32 (by decide) ?_
        obtain rfl := inj1 h
        subst hQ
        exact w_iret C hW hr hlocks dX11_told_33
def b_X11_ate_138 (v1 : Int32) (v5 : Int32) (v6 : Int32) (v8 : Int32) (v9 : Int32) (v10 : Int32) (v11 : Int32) (L : ML) (z12 : Int32) (z13 : Int32) (I : MI) : Option ((Int32 × Int32 × MI) ⊕ ((Int32 × MI))) :=
  (if v5 ≤ z13 then some (Sum.inr (z12, I)) else bd1 (f_X11_has v11 z13) (fun r31 => bd1 ((if r31 = 0 then some I else bd1 (f_X11_eats (219 : Int32) v1 I L) (fun I47 => some I47))) (fun I33 => bd1 (f_X11_passes (219 : Int32) I33 L) (fun I36 => bd1 ((if z12 = 0 then some (0 : Int32) else gi ((256 : Int32) + v1) 1752 (gi (v8 + z13) 96 ((if (lg_cmp ((I36 245 ((256 : Int32) + v1).toNatClampNeg).toInt64) (L 247 (v8 + z13).toNatClampNeg)) = 0 then some (1 : Int32) else some (0 : Int32)))))) (fun y38 => nm (z13 + (1 : Int32)) (fun x41 => some (Sum.inl (y38, x41, I36))))))))
set_option maxHeartbeats 4000000 in
set_option maxRecDepth 100000 in
theorem l_X11_ate_138 {g : Gp} {p : Program} {l : Launch} {e : Env} {s : State} {m : MethodId} {args : Array Value} {below : List Frame} {meth : Method} {c : Code} {Q : State → Prop}  (C : Cx g p s m args c RX11 cX11_ate 14) (v1 : Int32) (v5 : Int32) (v6 : Int32) (v8 : Int32) (v9 : Int32) (v10 : Int32) (v11 : Int32)  (L : ML) : ∀ (n : Nat) (z12 : Int32) (z13 : Int32) (I : MI) (y0_12 : Int32) (Iy0 : MI), lp (fun s => b_X11_ate_138 v1 v5 v6 v8 v9 v10 v11 L s.1 s.2.1 s.2.2) n (z12, z13, I) = some (y0_12, Iy0) → ∀ (H : Heap) (locs : List Loc) (ls : Array Slot), Ws g s I L H locs → lv_has ls 14 [(0, .ref (g.1 + 244)), (1, .int v1), (5, .int v5), (6, .int v6), (8, .int v8), (9, .int v9), (10, .int v10), (11, .int v11), (12, .int z12), (13, .int z13)] → (∀ (H : Heap) (locs : List Loc) (ls : Array Slot), Ws g s Iy0 L H locs → lv_has ls 14 [(0, .ref (g.1 + 244)), (1, .int v1), (5, .int v5), (6, .int v6), (8, .int v8), (9, .int v9), (10, .int v10), (11, .int v11), (12, .int y0_12)] → W p l e (rmD 4) s m args below meth c H locs 0 0 Q (F0 m 213 ls [])) → W p l e (rmD 4) s m args below meth c H locs 0 0 Q (F0 m 138 ls []) := by
  intro n
  induction n with
  | zero => intro z12 z13 I y0_12 Iy0 h; exact lp_zero h
  | succ n ih =>
      intro z12 z13 I y0_12 Iy0 h H locs ls hW hl hx0
      obtain ⟨r9, h, h9⟩ := lp_some h
      have h : b_X11_ate_138 v1 v5 v6 v8 v9 v10 v11 L z12 z13 I = some r9 := h
      unfold b_X11_ate_138 at h
      refine lv_iload C.1.1 C.1.2.1 dX11_ate_138 (lv_at hl 9 rfl) ?_
      refine lv_iload C.1.1 C.1.2.1 dX11_ate_140 (lv_at hl 2 rfl) ?_
      refine lv_icmp_ge (tgt := 213) C.1.1 C.1.2.1 dX11_ate_142 (by decide) (fun hc30 => ?_) (fun hc30 => ?_)
      · replace h := ite_t hc30 h
        obtain rfl := Option.some.inj h
        replace h9 := Option.some.inj h9
        obtain ⟨rfl, rfl⟩ := pnj2 h9
        exact hx0 _ _ _ hW (lv_sub hl [0, 1, 2, 3, 4, 5, 6, 7, 8] rfl)
      · replace h := ite_f hc30 h
        refine lv_iload C.1.1 C.1.2.1 dX11_ate_145 (lv_at hl 7 rfl) ?_
        refine lv_iload C.1.1 C.1.2.1 dX11_ate_147 (lv_at hl 9 rfl) ?_
        obtain ⟨r31, hc32, h⟩ := bd1_some h
        refine w_callSi (k := 2) (As := [.int v11, .int z13]) (rest := []) C hW (c_X11_has g l  hc32 I L) K_X11_156 (by decide +kernel) ⟨by decide, by decide⟩ ⟨Nat.le_refl _, Nat.le_refl _⟩ rfl hl.1 rfl (Nat.le_of_ble_eq_true rfl) dX11_ate_149 (fun H locs hW => ?_)
        obtain ⟨I33, hj35, h⟩ := bd1_some h
        have kJ34 : ∀ (H : Heap) (locs : List Loc) (ls : Array Slot), Ws g s I33 L H locs → lv_has ls 14 [(0, .ref (g.1 + 244)), (1, .int v1), (5, .int v5), (6, .int v6), (8, .int v8), (9, .int v9), (10, .int v10), (11, .int v11), (12, .int z12), (13, .int z13)] → W p l e (rmD 4) s m args below meth c H locs 0 0 Q (F0 m 163 ls []) := by
          intro H locs ls hW hl
          refine lv_aload_n C.1.1 C.1.2.1 dX11_ate_163 rfl (lv_at hl 0 rfl) ?_
          refine lv_sipush (v := 219) C.1.1 C.1.2.1 dX11_ate_164 (by decide) ?_
          obtain ⟨I36, hc37, h⟩ := bd1_some h
          refine w_callVv (k := 1) (As := [.int (219 : Int32)]) (rest := []) C hW (c_X11_passes g l  hc37) (by decide) rfl (EX_11 (by decide)) K_X11_129 (by decide +kernel) ⟨by decide, by decide⟩ ⟨Nat.le_refl _, Nat.le_refl _⟩ rfl hl.1 rfl (Nat.le_of_ble_eq_true rfl) dX11_ate_167 (fun H locs hW => ?_)
          refine lv_iload C.1.1 C.1.2.1 dX11_ate_170 (lv_at hl 8 rfl) ?_
          obtain ⟨y38, hj40, h⟩ := bd1_some h
          have kJ39 : ∀ (H : Heap) (locs : List Loc) (ls : Array Slot), Ws g s I36 L H locs → lv_has ls 14 [(0, .ref (g.1 + 244)), (1, .int v1), (5, .int v5), (6, .int v6), (8, .int v8), (9, .int v9), (10, .int v10), (11, .int v11), (13, .int z13)] → W p l e (rmD 4) s m args below meth c H locs 0 0 Q (F0 m 205 ls [.int y38]) := by
            intro H locs ls hW hl
            refine lv_istore (lv' := [(12, .int y38), (0, .ref (g.1 + 244)), (1, .int v1), (5, .int v5), (6, .int v6), (8, .int v8), (9, .int v9), (10, .int v10), (11, .int v11), (13, .int z13)]) C.1.1 C.1.2.1 dX11_ate_205 hl (by decide) rfl (fun ls hl => ?_)
            obtain ⟨x41, ex41⟩ : ∃ y : Int32, y = z13 + (1 : Int32) := ⟨_, rfl⟩
            replace h := nm_at ex41 h
            refine lv_iinc (v := x41) (lv' := [(13, .int x41), (12, .int y38), (0, .ref (g.1 + 244)), (1, .int v1), (5, .int v5), (6, .int v6), (8, .int v8), (9, .int v9), (10, .int v10), (11, .int v11)]) C.1.1 C.1.2.1 dX11_ate_207 hl (k := 9) rfl (by rw [ex41]; rfl) (by decide) rfl (fun ls hl => ?_)
            clear ex41
            refine lv_goto (tgt := 138) C.1.1 C.1.2.1 dX11_ate_210 (by decide) ?_
            obtain rfl := Option.some.inj h
            exact ih _ _ _ _ _ h9 _ _ _ hW (lv_sub hl [2, 3, 4, 5, 6, 7, 8, 9, 1, 0] rfl) hx0
          clear h
          have h := hj40
          clear hj40
          refine lv_if_eq (tgt := 204) C.1.1 C.1.2.1 dX11_ate_172 (by decide) (fun hc42 => ?_) (fun hc42 => ?_)
          · replace h := ite_t hc42 h
            refine lv_iconst (v := 0) C.1.1 C.1.2.1 dX11_ate_204 (by decide) ?_
            obtain rfl := inj1 h
            exact kJ39 _ _ _ hW (lv_sub hl [0, 1, 2, 3, 4, 5, 6, 7, 9] rfl)
          · replace h := ite_f hc42 h
            refine lv_aload_n C.1.1 C.1.2.1 dX11_ate_175 rfl (lv_at hl 0 rfl) ?_
            refine G_X11_7 C hW (by decide) dX11_ate_176 ?_
            refine lv_sipush (v := 256) C.1.1 C.1.2.1 dX11_ate_179 (by decide) ?_
            refine lv_iload_n C.1.1 C.1.2.1 dX11_ate_182 rfl (lv_at hl 1 rfl) ?_
            refine lv_iadd C.1.1 C.1.2.1 dX11_ate_183 ?_
            obtain ⟨hi43, h⟩ := gi_some h
            refine w_iald C hW (n := 1752) (by decide) (by decide) hi43 dX11_ate_184 ?_
            refine lv_i2l C.1.1 C.1.2.1 dX11_ate_185 rfl ?_
            refine lv_aload_n C.1.1 C.1.2.1 dX11_ate_186 rfl (lv_at hl 0 rfl) ?_
            refine G_X11_17 C hW (by decide) dX11_ate_187 ?_
            refine lv_iload C.1.1 C.1.2.1 dX11_ate_190 (lv_at hl 4 rfl) ?_
            refine lv_iload C.1.1 C.1.2.1 dX11_ate_192 (lv_at hl 9 rfl) ?_
            refine lv_iadd C.1.1 C.1.2.1 dX11_ate_194 ?_
            obtain ⟨hi44, h⟩ := gi_some h
            refine w_lald C hW (n := 96) (by decide) (by decide) hi44 dX11_ate_195 ?_
            refine W.lcmp C.1.1 C.1.2.1 dX11_ate_196 ?_
            refine lv_if_ne (tgt := 204) C.1.1 C.1.2.1 dX11_ate_197 (by decide) (fun hc45 => ?_) (fun hc45 => ?_)
            · replace h := ite_f hc45 h
              refine lv_iconst (v := 0) C.1.1 C.1.2.1 dX11_ate_204 (by decide) ?_
              obtain rfl := inj1 h
              exact kJ39 _ _ _ hW (lv_sub hl [0, 1, 2, 3, 4, 5, 6, 7, 9] rfl)
            · replace h := ite_t hc45 h
              refine lv_iconst (v := 1) C.1.1 C.1.2.1 dX11_ate_200 (by decide) ?_
              refine lv_goto (tgt := 205) C.1.1 C.1.2.1 dX11_ate_201 (by decide) ?_
              obtain rfl := inj1 h
              exact kJ39 _ _ _ hW (lv_sub hl [0, 1, 2, 3, 4, 5, 6, 7, 9] rfl)
        clear h
        have h := hj35
        clear hj35
        refine lv_if_eq (tgt := 163) C.1.1 C.1.2.1 dX11_ate_152 (by decide) (fun hc46 => ?_) (fun hc46 => ?_)
        · replace h := ite_t hc46 h
          obtain rfl := inj1 h
          exact kJ34 _ _ _ hW (lv_sub hl [0, 1, 2, 3, 4, 5, 6, 7, 8, 9] rfl)
        · replace h := ite_f hc46 h
          refine lv_aload_n C.1.1 C.1.2.1 dX11_ate_155 rfl (lv_at hl 0 rfl) ?_
          refine lv_sipush (v := 219) C.1.1 C.1.2.1 dX11_ate_156 (by decide) ?_
          refine lv_iload_n C.1.1 C.1.2.1 dX11_ate_159 rfl (lv_at hl 1 rfl) ?_
          obtain ⟨I47, hc48, h⟩ := bd1_some h
          refine w_callVv (k := 2) (As := [.int (219 : Int32), .int v1]) (rest := []) C hW (c_X11_eats g l  hc48) (by decide) rfl (EX_11 (by decide)) K_X11_136 (by decide +kernel) ⟨by decide, by decide⟩ ⟨Nat.le_refl _, Nat.le_refl _⟩ rfl hl.1 rfl (Nat.le_of_ble_eq_true rfl) dX11_ate_160 (fun H locs hW => ?_)
          obtain rfl := inj1 h
          exact kJ34 _ _ _ hW (lv_sub hl [0, 1, 2, 3, 4, 5, 6, 7, 8, 9] rfl)
def b_X11_ate_98 (v1 : Int32) (v5 : Int32) (v6 : Int32) (v8 : Int32) (L : ML) (z9 : Int32) (z10 : Int32) (z11 : Int32) (I : MI) : Option ((Int32 × Int32 × Int32 × MI) ⊕ ((Int32 × Int32 × MI))) :=
  (if z11 < 0 then some (Sum.inr (z9, z10, I)) else bd1 (f_X11_copyRow (0 : Int32) (219 : Int32) I L) (fun I22 => bd1 (f_X11_ones z11) (fun r24 => gi ((43 : Int32) + v1) 1752 (bd1 ((if (I22 245 ((43 : Int32) + v1).toNatClampNeg) < r24 then some (0 : Int32) else some (1 : Int32))) (fun y27 => bd2 (lp (fun s => b_X11_ate_138 v1 v5 v6 v8 z9 z10 z11 L s.1 s.2.1 s.2.2) FU ((y27, (0 : Int32), I22))) (fun y50 I51 => bd1 ((if y50 = 0 then some (0 : Int32) else some (1 : Int32))) (fun y52 => nm (z9 + y52) (fun x55 => bd1 (if y50 = 0 then some z10 else some z11) (fun y56 => nm (z11 + (-1 : Int32)) (fun x59 => some (Sum.inl (x55, y56, x59, I51))))))))))))
set_option maxHeartbeats 4000000 in
set_option maxRecDepth 100000 in
theorem l_X11_ate_98 {g : Gp} {p : Program} {l : Launch} {e : Env} {s : State} {m : MethodId} {args : Array Value} {below : List Frame} {meth : Method} {c : Code} {Q : State → Prop}  (C : Cx g p s m args c RX11 cX11_ate 14) (v1 : Int32) (v5 : Int32) (v6 : Int32) (v8 : Int32)  (L : ML) : ∀ (n : Nat) (z9 : Int32) (z10 : Int32) (z11 : Int32) (I : MI) (y0_9 : Int32) (y0_10 : Int32) (Iy0 : MI), lp (fun s => b_X11_ate_98 v1 v5 v6 v8 L s.1 s.2.1 s.2.2.1 s.2.2.2) n (z9, z10, z11, I) = some (y0_9, y0_10, Iy0) → ∀ (H : Heap) (locs : List Loc) (ls : Array Slot), Ws g s I L H locs → lv_has ls 14 [(0, .ref (g.1 + 244)), (1, .int v1), (5, .int v5), (6, .int v6), (8, .int v8), (9, .int z9), (10, .int z10), (11, .int z11)] → (∀ (H : Heap) (locs : List Loc) (ls : Array Slot), Ws g s Iy0 L H locs → lv_has ls 14 [(6, .int v6), (9, .int y0_9), (10, .int y0_10)] → W p l e (rmD 4) s m args below meth c H locs 0 0 Q (F0 m 248 ls [])) → W p l e (rmD 4) s m args below meth c H locs 0 0 Q (F0 m 98 ls []) := by
  intro n
  induction n with
  | zero => intro z9 z10 z11 I y0_9 y0_10 Iy0 h; exact lp_zero h
  | succ n ih =>
      intro z9 z10 z11 I y0_9 y0_10 Iy0 h H locs ls hW hl hx0
      obtain ⟨r9, h, h9⟩ := lp_some h
      have h : b_X11_ate_98 v1 v5 v6 v8 L z9 z10 z11 I = some r9 := h
      unfold b_X11_ate_98 at h
      refine lv_iload C.1.1 C.1.2.1 dX11_ate_98 (lv_at hl 7 rfl) ?_
      refine lv_if_lt (tgt := 248) C.1.1 C.1.2.1 dX11_ate_100 (by decide) (fun hc21 => ?_) (fun hc21 => ?_)
      · replace h := ite_t hc21 h
        obtain rfl := Option.some.inj h
        replace h9 := Option.some.inj h9
        obtain ⟨rfl, rfl, rfl⟩ := pnj3 h9
        exact hx0 _ _ _ hW (lv_sub hl [3, 5, 6] rfl)
      · replace h := ite_f hc21 h
        refine lv_aload_n C.1.1 C.1.2.1 dX11_ate_103 rfl (lv_at hl 0 rfl) ?_
        refine lv_iconst (v := 0) C.1.1 C.1.2.1 dX11_ate_104 (by decide) ?_
        refine lv_sipush (v := 219) C.1.1 C.1.2.1 dX11_ate_105 (by decide) ?_
        obtain ⟨I22, hc23, h⟩ := bd1_some h
        refine w_callVv (k := 2) (As := [.int (0 : Int32), .int (219 : Int32)]) (rest := []) C hW (c_X11_copyRow g l  hc23) (by decide) rfl (EX_11 (by decide)) K_X11_90 (by decide +kernel) ⟨by decide, by decide⟩ ⟨Nat.le_refl _, Nat.le_refl _⟩ rfl hl.1 rfl (Nat.le_of_ble_eq_true rfl) dX11_ate_108 (fun H locs hW => ?_)
        refine lv_iload C.1.1 C.1.2.1 dX11_ate_111 (lv_at hl 7 rfl) ?_
        obtain ⟨r24, hc25, h⟩ := bd1_some h
        refine w_callSi (k := 1) (As := [.int z11]) (rest := []) C hW (c_X11_ones g l  hc25 I22 L) K_X11_164 (by decide +kernel) ⟨by decide, by decide⟩ ⟨Nat.le_refl _, Nat.le_refl _⟩ rfl hl.1 rfl (Nat.le_of_ble_eq_true rfl) dX11_ate_113 (fun H locs hW => ?_)
        refine lv_aload_n C.1.1 C.1.2.1 dX11_ate_116 rfl (lv_at hl 0 rfl) ?_
        refine G_X11_7 C hW (by decide) dX11_ate_117 ?_
        refine lv_bipush (v := 43) C.1.1 C.1.2.1 dX11_ate_120 (by decide) ?_
        refine lv_iload_n C.1.1 C.1.2.1 dX11_ate_122 rfl (lv_at hl 1 rfl) ?_
        refine lv_iadd C.1.1 C.1.2.1 dX11_ate_123 ?_
        obtain ⟨hi26, h⟩ := gi_some h
        refine w_iald C hW (n := 1752) (by decide) (by decide) hi26 dX11_ate_124 ?_
        obtain ⟨y27, hj29, h⟩ := bd1_some h
        have kJ28 : ∀ (H : Heap) (locs : List Loc) (ls : Array Slot), Ws g s I22 L H locs → lv_has ls 14 [(0, .ref (g.1 + 244)), (1, .int v1), (5, .int v5), (6, .int v6), (8, .int v8), (9, .int z9), (10, .int z10), (11, .int z11)] → W p l e (rmD 4) s m args below meth c H locs 0 0 Q (F0 m 133 ls [.int y27]) := by
          intro H locs ls hW hl
          refine lv_istore (lv' := [(12, .int y27), (0, .ref (g.1 + 244)), (1, .int v1), (5, .int v5), (6, .int v6), (8, .int v8), (9, .int z9), (10, .int z10), (11, .int z11)]) C.1.1 C.1.2.1 dX11_ate_133 hl (by decide) rfl (fun ls hl => ?_)
          refine lv_iconst (v := 0) C.1.1 C.1.2.1 dX11_ate_135 (by decide) ?_
          refine lv_istore (lv' := [(13, .int (0 : Int32)), (12, .int y27), (0, .ref (g.1 + 244)), (1, .int v1), (5, .int v5), (6, .int v6), (8, .int v8), (9, .int z9), (10, .int z10), (11, .int z11)]) C.1.1 C.1.2.1 dX11_ate_136 hl (by decide) rfl (fun ls hl => ?_)
          obtain ⟨y50, I51, hq49, h⟩ := bd2_some h
          refine l_X11_ate_138 C v1 v5 v6 v8 z9 z10 z11  L _ _ _ _ _ _ hq49 _ _ _ hW (lv_sub hl [2, 3, 4, 5, 6, 7, 8, 9, 1, 0] rfl) (fun H locs ls hW hl => ?_)
          refine lv_iload C.1.1 C.1.2.1 dX11_ate_213 (lv_at hl 5 rfl) ?_
          refine lv_iload C.1.1 C.1.2.1 dX11_ate_215 (lv_at hl 8 rfl) ?_
          obtain ⟨y52, hj54, h⟩ := bd1_some h
          have kJ53 : ∀ (H : Heap) (locs : List Loc) (ls : Array Slot), Ws g s I51 L H locs → lv_has ls 14 [(0, .ref (g.1 + 244)), (1, .int v1), (5, .int v5), (6, .int v6), (8, .int v8), (10, .int z10), (11, .int z11), (12, .int y50)] → W p l e (rmD 4) s m args below meth c H locs 0 0 Q (F0 m 225 ls [.int y52, .int z9]) := by
            intro H locs ls hW hl
            refine lv_iadd C.1.1 C.1.2.1 dX11_ate_225 ?_
            refine lv_topi (fun x55 ex55 => ?_)
            replace h := nm_at ex55 h
            clear ex55
            refine lv_istore (lv' := [(9, .int x55), (0, .ref (g.1 + 244)), (1, .int v1), (5, .int v5), (6, .int v6), (8, .int v8), (10, .int z10), (11, .int z11), (12, .int y50)]) C.1.1 C.1.2.1 dX11_ate_226 hl (by decide) rfl (fun ls hl => ?_)
            refine lv_iload C.1.1 C.1.2.1 dX11_ate_228 (lv_at hl 8 rfl) ?_
            obtain ⟨y56, hj58, h⟩ := bd1_some h
            have kJ57 : ∀ (H : Heap) (locs : List Loc) (ls : Array Slot), Ws g s I51 L H locs → lv_has ls 14 [(0, .ref (g.1 + 244)), (1, .int v1), (5, .int v5), (6, .int v6), (8, .int v8), (9, .int x55), (11, .int z11)] → W p l e (rmD 4) s m args below meth c H locs 0 0 Q (F0 m 240 ls [.int y56]) := by
              intro H locs ls hW hl
              refine lv_istore (lv' := [(10, .int y56), (0, .ref (g.1 + 244)), (1, .int v1), (5, .int v5), (6, .int v6), (8, .int v8), (9, .int x55), (11, .int z11)]) C.1.1 C.1.2.1 dX11_ate_240 hl (by decide) rfl (fun ls hl => ?_)
              obtain ⟨x59, ex59⟩ : ∃ y : Int32, y = z11 + (-1 : Int32) := ⟨_, rfl⟩
              replace h := nm_at ex59 h
              refine lv_iinc (v := x59) (lv' := [(11, .int x59), (10, .int y56), (0, .ref (g.1 + 244)), (1, .int v1), (5, .int v5), (6, .int v6), (8, .int v8), (9, .int x55)]) C.1.1 C.1.2.1 dX11_ate_242 hl (k := 7) rfl (by rw [ex59]; rfl) (by decide) rfl (fun ls hl => ?_)
              clear ex59
              refine lv_goto (tgt := 98) C.1.1 C.1.2.1 dX11_ate_245 (by decide) ?_
              obtain rfl := Option.some.inj h
              exact ih _ _ _ _ _ _ _ h9 _ _ _ hW (lv_sub hl [2, 3, 4, 5, 6, 7, 1, 0] rfl) hx0
            clear h
            have h := hj58
            clear hj58
            refine lv_if_eq (tgt := 238) C.1.1 C.1.2.1 dX11_ate_230 (by decide) (fun hc60 => ?_) (fun hc60 => ?_)
            · replace h := ite_t hc60 h
              refine lv_iload C.1.1 C.1.2.1 dX11_ate_238 (lv_at hl 6 rfl) ?_
              obtain rfl := inj1 h
              exact kJ57 _ _ _ hW (lv_sub hl [1, 2, 3, 4, 5, 0, 7] rfl)
            · replace h := ite_f hc60 h
              refine lv_iload C.1.1 C.1.2.1 dX11_ate_233 (lv_at hl 7 rfl) ?_
              refine lv_goto (tgt := 240) C.1.1 C.1.2.1 dX11_ate_235 (by decide) ?_
              obtain rfl := inj1 h
              exact kJ57 _ _ _ hW (lv_sub hl [1, 2, 3, 4, 5, 0, 7] rfl)
          clear h
          have h := hj54
          clear hj54
          refine lv_if_eq (tgt := 224) C.1.1 C.1.2.1 dX11_ate_217 (by decide) (fun hc61 => ?_) (fun hc61 => ?_)
          · replace h := ite_t hc61 h
            refine lv_iconst (v := 0) C.1.1 C.1.2.1 dX11_ate_224 (by decide) ?_
            obtain rfl := inj1 h
            exact kJ53 _ _ _ hW (lv_sub hl [0, 1, 2, 3, 4, 6, 7, 8] rfl)
          · replace h := ite_f hc61 h
            refine lv_iconst (v := 1) C.1.1 C.1.2.1 dX11_ate_220 (by decide) ?_
            refine lv_goto (tgt := 225) C.1.1 C.1.2.1 dX11_ate_221 (by decide) ?_
            obtain rfl := inj1 h
            exact kJ53 _ _ _ hW (lv_sub hl [0, 1, 2, 3, 4, 6, 7, 8] rfl)
        clear h
        have h := hj29
        clear hj29
        refine lv_icmp_gt (tgt := 132) C.1.1 C.1.2.1 dX11_ate_125 (by decide) (fun hc62 => ?_) (fun hc62 => ?_)
        · replace h := ite_t hc62 h
          refine lv_iconst (v := 0) C.1.1 C.1.2.1 dX11_ate_132 (by decide) ?_
          obtain rfl := inj1 h
          exact kJ28 _ _ _ hW (lv_sub hl [0, 1, 2, 3, 4, 5, 6, 7] rfl)
        · replace h := ite_f hc62 h
          refine lv_iconst (v := 1) C.1.1 C.1.2.1 dX11_ate_128 (by decide) ?_
          refine lv_goto (tgt := 133) C.1.1 C.1.2.1 dX11_ate_129 (by decide) ?_
          obtain rfl := inj1 h
          exact kJ28 _ _ _ hW (lv_sub hl [0, 1, 2, 3, 4, 5, 6, 7] rfl)
def f_X11_ate (a1 : Int32) (a2 : Int32) (a3 : Int32) (a4 : Int32) (a5 : Int32) (a6 : Int32) (I : MI) (L : ML) : Option (Int32 × MI) :=
  bd1 (f_X11_isSitter a1 I L) (fun r1 => (if r1 = 0 then some (((-1 : Int32), I)) else bd1 (f_X11_isLane a2 a3) (fun r4 => (if r4 = 0 then some (((-1 : Int32), I)) else bd1 (f_X11_in a5.toInt64 (1 : Int64) (8 : Int64)) (fun r7 => (if r7 = 0 then some (((-1 : Int32), I)) else bd1 (f_X11_in a6.toInt64 (0 : Int64) (1 : Int64)) (fun r10 => (if r10 = 0 then some (((-1 : Int32), I)) else bd1 (f_X11_against a2 a3 a4 a5 I L) (fun r13 => (if 0 ≤ r13 then bd1 (f_X11_isDown (0 : Int32) a1 I L) (fun r16 => (if r16 = 0 then nm (((24 : Int32) * a2) + a4) (fun x19 => nm (((1 : Int32) <<< (a5 &&& (31 : Int32))) - (1 : Int32)) (fun x20 => bd3 (lp (fun s => b_X11_ate_98 a1 a5 a6 x19 L s.1 s.2.1 s.2.2.1 s.2.2.2) FU (((0 : Int32), (-4 : Int32), x20, I))) (fun y64 y65 I66 => bd1 (if a6 = 0 then some y64 else some y65) (fun y67 => some (y67, I66))))) else some (((-2 : Int32), I)))) else some (r13, I)))))))))))
set_option maxHeartbeats 4000000 in
set_option maxRecDepth 100000 in
theorem c_X11_ate (g : Gp) (l : Launch) {a1 : Int32} {a2 : Int32} {a3 : Int32} {a4 : Int32} {a5 : Int32} {a6 : Int32}  {I : MI} {L : ML} {r : Int32} {I' : MI} (h : f_X11_ate a1 a2 a3 a4 a5 a6 I L = some (r, I')) : MetI g l yX11_ate cX11_ate 14 .int 4 [.ref (g.1 + 244), .int a1, .int a2, .int a3, .int a4, .int a5, .int a6] I L r I' L := by
  unfold f_X11_ate at h
  refine w_enter (by decide) (Nat.le_of_ble_eq_true rfl) (own := RX11) rfl ?_
  intro p e s m below meth c args Q hQ C hr hlocks hW ls hl
  have hl : lv_has ls 14 [(0, .ref (g.1 + 244)), (1, .int a1), (2, .int a2), (3, .int a3), (4, .int a4), (5, .int a5), (6, .int a6)] := hl
  refine lv_aload_n C.1.1 C.1.2.1 dX11_ate_0 rfl (lv_at hl 0 rfl) ?_
  refine lv_iload_n C.1.1 C.1.2.1 dX11_ate_1 rfl (lv_at hl 1 rfl) ?_
  obtain ⟨r1, hc2, h⟩ := bd1_some h
  refine w_callVi (k := 1) (As := [.int a1]) (rest := []) C hW (c_X11_isSitter g l  hc2) (by decide) rfl (EX_11 (by decide)) K_X11_115 (by decide +kernel) ⟨by decide, by decide⟩ ⟨Nat.le_refl _, Nat.le_refl _⟩ rfl hl.1 rfl (Nat.le_of_ble_eq_true rfl) dX11_ate_2 (fun H locs hW => ?_)
  refine lv_if_eq (tgt := 40) C.1.1 C.1.2.1 dX11_ate_5 (by decide) (fun hc3 => ?_) (fun hc3 => ?_)
  · replace h := ite_t hc3 h
    refine lv_iconst (v := -1) C.1.1 C.1.2.1 dX11_ate_40 (by decide) ?_
    obtain ⟨rfl, rfl⟩ := inj2 h
    subst hQ
    exact w_iret C hW hr hlocks dX11_ate_41
  · replace h := ite_f hc3 h
    refine lv_iload_n C.1.1 C.1.2.1 dX11_ate_8 rfl (lv_at hl 2 rfl) ?_
    refine lv_iload_n C.1.1 C.1.2.1 dX11_ate_9 rfl (lv_at hl 3 rfl) ?_
    obtain ⟨r4, hc5, h⟩ := bd1_some h
    refine w_callSi (k := 2) (As := [.int a2, .int a3]) (rest := []) C hW (c_X11_isLane g l  hc5 I L) K_X11_205 (by decide +kernel) ⟨by decide, by decide⟩ ⟨Nat.le_refl _, Nat.le_refl _⟩ rfl hl.1 rfl (Nat.le_of_ble_eq_true rfl) dX11_ate_10 (fun H locs hW => ?_)
    refine lv_if_eq (tgt := 40) C.1.1 C.1.2.1 dX11_ate_13 (by decide) (fun hc6 => ?_) (fun hc6 => ?_)
    · replace h := ite_t hc6 h
      refine lv_iconst (v := -1) C.1.1 C.1.2.1 dX11_ate_40 (by decide) ?_
      obtain ⟨rfl, rfl⟩ := inj2 h
      subst hQ
      exact w_iret C hW hr hlocks dX11_ate_41
    · replace h := ite_f hc6 h
      refine lv_iload C.1.1 C.1.2.1 dX11_ate_16 (lv_at hl 5 rfl) ?_
      refine lv_i2l C.1.1 C.1.2.1 dX11_ate_18 rfl ?_
      refine lv_lconst (v := 1) C.1.1 C.1.2.1 dX11_ate_19 (by decide) ?_
      refine lv_ldc2 C.1.1 C.1.2.1 C.1.2.2.2.1 (C.1.2.2.2.2 _ kl_X11_159) dX11_ate_20 ?_
      obtain ⟨r7, hc8, h⟩ := bd1_some h
      refine w_callSi (k := 3) (As := [.long a5.toInt64, .long (1 : Int64), .long (8 : Int64)]) (rest := []) C hW (c_X11_in g l  hc8 I L) K_X11_42 (by decide +kernel) ⟨by decide, by decide⟩ ⟨Nat.le_refl _, Nat.le_refl _⟩ rfl hl.1 rfl (Nat.le_of_ble_eq_true rfl) dX11_ate_23 (fun H locs hW => ?_)
      refine lv_if_eq (tgt := 40) C.1.1 C.1.2.1 dX11_ate_26 (by decide) (fun hc9 => ?_) (fun hc9 => ?_)
      · replace h := ite_t hc9 h
        refine lv_iconst (v := -1) C.1.1 C.1.2.1 dX11_ate_40 (by decide) ?_
        obtain ⟨rfl, rfl⟩ := inj2 h
        subst hQ
        exact w_iret C hW hr hlocks dX11_ate_41
      · replace h := ite_f hc9 h
        refine lv_iload C.1.1 C.1.2.1 dX11_ate_29 (lv_at hl 6 rfl) ?_
        refine lv_i2l C.1.1 C.1.2.1 dX11_ate_31 rfl ?_
        refine lv_lconst (v := 0) C.1.1 C.1.2.1 dX11_ate_32 (by decide) ?_
        refine lv_lconst (v := 1) C.1.1 C.1.2.1 dX11_ate_33 (by decide) ?_
        obtain ⟨r10, hc11, h⟩ := bd1_some h
        refine w_callSi (k := 3) (As := [.long a6.toInt64, .long (0 : Int64), .long (1 : Int64)]) (rest := []) C hW (c_X11_in g l  hc11 I L) K_X11_42 (by decide +kernel) ⟨by decide, by decide⟩ ⟨Nat.le_refl _, Nat.le_refl _⟩ rfl hl.1 rfl (Nat.le_of_ble_eq_true rfl) dX11_ate_34 (fun H locs hW => ?_)
        refine lv_if_ne (tgt := 42) C.1.1 C.1.2.1 dX11_ate_37 (by decide) (fun hc12 => ?_) (fun hc12 => ?_)
        · replace h := ite_f hc12 h
          refine lv_aload_n C.1.1 C.1.2.1 dX11_ate_42 rfl (lv_at hl 0 rfl) ?_
          refine lv_iload_n C.1.1 C.1.2.1 dX11_ate_43 rfl (lv_at hl 2 rfl) ?_
          refine lv_iload_n C.1.1 C.1.2.1 dX11_ate_44 rfl (lv_at hl 3 rfl) ?_
          refine lv_iload C.1.1 C.1.2.1 dX11_ate_45 (lv_at hl 4 rfl) ?_
          refine lv_iload C.1.1 C.1.2.1 dX11_ate_47 (lv_at hl 5 rfl) ?_
          obtain ⟨r13, hc14, h⟩ := bd1_some h
          refine w_callVi (k := 4) (As := [.int a2, .int a3, .int a4, .int a5]) (rest := []) C hW (c_X11_against g l  hc14) (by decide) rfl (EX_11 (by decide)) K_X11_208 (by decide +kernel) ⟨by decide, by decide⟩ ⟨Nat.le_refl _, Nat.le_refl _⟩ rfl hl.1 rfl (Nat.le_of_ble_eq_true rfl) dX11_ate_49 (fun H locs hW => ?_)
          refine lv_istore (lv' := [(7, .int r13), (0, .ref (g.1 + 244)), (1, .int a1), (2, .int a2), (3, .int a3), (4, .int a4), (5, .int a5), (6, .int a6)]) C.1.1 C.1.2.1 dX11_ate_52 hl (by decide) rfl (fun ls hl => ?_)
          refine lv_iload C.1.1 C.1.2.1 dX11_ate_54 (lv_at hl 0 rfl) ?_
          refine lv_if_ge (tgt := 62) C.1.1 C.1.2.1 dX11_ate_56 (by decide) (fun hc15 => ?_) (fun hc15 => ?_)
          · replace h := ite_t hc15 h
            refine lv_aload_n C.1.1 C.1.2.1 dX11_ate_62 rfl (lv_at hl 1 rfl) ?_
            refine lv_iconst (v := 0) C.1.1 C.1.2.1 dX11_ate_63 (by decide) ?_
            refine lv_iload_n C.1.1 C.1.2.1 dX11_ate_64 rfl (lv_at hl 2 rfl) ?_
            obtain ⟨r16, hc17, h⟩ := bd1_some h
            refine w_callVi (k := 2) (As := [.int (0 : Int32), .int a1]) (rest := []) C hW (c_X11_isDown g l  hc17) (by decide) rfl (EX_11 (by decide)) K_X11_100 (by decide +kernel) ⟨by decide, by decide⟩ ⟨Nat.le_refl _, Nat.le_refl _⟩ rfl hl.1 rfl (Nat.le_of_ble_eq_true rfl) dX11_ate_65 (fun H locs hW => ?_)
            refine lv_if_eq (tgt := 74) C.1.1 C.1.2.1 dX11_ate_68 (by decide) (fun hc18 => ?_) (fun hc18 => ?_)
            · replace h := ite_t hc18 h
              refine lv_bipush (v := 24) C.1.1 C.1.2.1 dX11_ate_74 (by decide) ?_
              refine lv_iload_n C.1.1 C.1.2.1 dX11_ate_76 rfl (lv_at hl 3 rfl) ?_
              refine lv_imul C.1.1 C.1.2.1 dX11_ate_77 ?_
              refine lv_iload C.1.1 C.1.2.1 dX11_ate_78 (lv_at hl 5 rfl) ?_
              refine lv_iadd C.1.1 C.1.2.1 dX11_ate_80 ?_
              refine lv_topi (fun x19 ex19 => ?_)
              replace h := nm_at ex19 h
              clear ex19
              refine lv_istore (lv' := [(8, .int x19), (7, .int r13), (0, .ref (g.1 + 244)), (1, .int a1), (2, .int a2), (3, .int a3), (4, .int a4), (5, .int a5), (6, .int a6)]) C.1.1 C.1.2.1 dX11_ate_81 hl (by decide) rfl (fun ls hl => ?_)
              refine lv_iconst (v := 0) C.1.1 C.1.2.1 dX11_ate_83 (by decide) ?_
              refine lv_istore (lv' := [(9, .int (0 : Int32)), (8, .int x19), (7, .int r13), (0, .ref (g.1 + 244)), (1, .int a1), (2, .int a2), (3, .int a3), (4, .int a4), (5, .int a5), (6, .int a6)]) C.1.1 C.1.2.1 dX11_ate_84 hl (by decide) rfl (fun ls hl => ?_)
              refine lv_bipush (v := -4) C.1.1 C.1.2.1 dX11_ate_86 (by decide) ?_
              refine lv_istore (lv' := [(10, .int (-4 : Int32)), (9, .int (0 : Int32)), (8, .int x19), (7, .int r13), (0, .ref (g.1 + 244)), (1, .int a1), (2, .int a2), (3, .int a3), (4, .int a4), (5, .int a5), (6, .int a6)]) C.1.1 C.1.2.1 dX11_ate_88 hl (by decide) rfl (fun ls hl => ?_)
              refine lv_iconst (v := 1) C.1.1 C.1.2.1 dX11_ate_90 (by decide) ?_
              refine lv_iload C.1.1 C.1.2.1 dX11_ate_91 (lv_at hl 9 rfl) ?_
              refine lv_ishl C.1.1 C.1.2.1 dX11_ate_93 ?_
              refine lv_iconst (v := 1) C.1.1 C.1.2.1 dX11_ate_94 (by decide) ?_
              refine lv_isub C.1.1 C.1.2.1 dX11_ate_95 ?_
              refine lv_topi (fun x20 ex20 => ?_)
              replace h := nm_at ex20 h
              clear ex20
              refine lv_istore (lv' := [(11, .int x20), (10, .int (-4 : Int32)), (9, .int (0 : Int32)), (8, .int x19), (7, .int r13), (0, .ref (g.1 + 244)), (1, .int a1), (2, .int a2), (3, .int a3), (4, .int a4), (5, .int a5), (6, .int a6)]) C.1.1 C.1.2.1 dX11_ate_96 hl (by decide) rfl (fun ls hl => ?_)
              obtain ⟨y64, y65, I66, hq63, h⟩ := bd3_some h
              refine l_X11_ate_98 C a1 a5 a6 x19  L _ _ _ _ _ _ _ _ hq63 _ _ _ hW (lv_sub hl [5, 6, 10, 11, 3, 2, 1, 0] rfl) (fun H locs ls hW hl => ?_)
              refine lv_iload C.1.1 C.1.2.1 dX11_ate_248 (lv_at hl 0 rfl) ?_
              obtain ⟨y67, hj69, h⟩ := bd1_some h
              have kJ68 : ∀ (H : Heap) (locs : List Loc) (ls : Array Slot), Ws g s I66 L H locs → lv_has ls 14 [] → W p l e (rmD 4) s m args below meth c H locs 0 0 Q (F0 m 260 ls [.int y67]) := by
                intro H locs ls hW hl
                obtain ⟨rfl, rfl⟩ := inj2 h
                subst hQ
                exact w_iret C hW hr hlocks dX11_ate_260
              clear h
              have h := hj69
              clear hj69
              refine lv_if_ne (tgt := 258) C.1.1 C.1.2.1 dX11_ate_250 (by decide) (fun hc70 => ?_) (fun hc70 => ?_)
              · replace h := ite_f hc70 h
                refine lv_iload C.1.1 C.1.2.1 dX11_ate_258 (lv_at hl 2 rfl) ?_
                obtain rfl := inj1 h
                exact kJ68 _ _ _ hW (lv_sub hl [] rfl)
              · replace h := ite_t hc70 h
                refine lv_iload C.1.1 C.1.2.1 dX11_ate_253 (lv_at hl 1 rfl) ?_
                refine lv_goto (tgt := 260) C.1.1 C.1.2.1 dX11_ate_255 (by decide) ?_
                obtain rfl := inj1 h
                exact kJ68 _ _ _ hW (lv_sub hl [] rfl)
            · replace h := ite_f hc18 h
              refine lv_bipush (v := -2) C.1.1 C.1.2.1 dX11_ate_71 (by decide) ?_
              obtain ⟨rfl, rfl⟩ := inj2 h
              subst hQ
              exact w_iret C hW hr hlocks dX11_ate_73
          · replace h := ite_f hc15 h
            refine lv_iload C.1.1 C.1.2.1 dX11_ate_59 (lv_at hl 0 rfl) ?_
            obtain ⟨rfl, rfl⟩ := inj2 h
            subst hQ
            exact w_iret C hW hr hlocks dX11_ate_61
        · replace h := ite_t hc12 h
          refine lv_iconst (v := -1) C.1.1 C.1.2.1 dX11_ate_40 (by decide) ?_
          obtain ⟨rfl, rfl⟩ := inj2 h
          subst hQ
          exact w_iret C hW hr hlocks dX11_ate_41
def b_X11_crustsOfAll_4  (I : MI) (L : ML) (z1 : Int32) (z2 : Int32) : Option ((Int32 × Int32) ⊕ ((Int32))) :=
  gi (1 : Int32) 1752 ((if (I 245 (1 : Int32).toNatClampNeg) ≤ z2 then some (Sum.inr z1) else gi ((43 : Int32) + z2) 1752 (nm (z1 + (I 245 ((43 : Int32) + z2).toNatClampNeg)) (fun x4 => nm (z2 + (1 : Int32)) (fun x5 => some (Sum.inl (x4, x5)))))))
set_option maxHeartbeats 4000000 in
set_option maxRecDepth 100000 in
theorem l_X11_crustsOfAll_4 {g : Gp} {p : Program} {l : Launch} {e : Env} {s : State} {m : MethodId} {args : Array Value} {below : List Frame} {meth : Method} {c : Code} {Q : State → Prop}  (C : Cx g p s m args c RX11 cX11_crustsOfAll 3)   (I : MI) (L : ML) : ∀ (n : Nat) (z1 : Int32) (z2 : Int32) (y0_1 : Int32), lp (fun s => b_X11_crustsOfAll_4  I L s.1 s.2) n (z1, z2) = some y0_1 → ∀ (H : Heap) (locs : List Loc) (ls : Array Slot), Ws g s I L H locs → lv_has ls 3 [(0, .ref (g.1 + 244)), (1, .int z1), (2, .int z2)] → (∀ (H : Heap) (locs : List Loc) (ls : Array Slot), Ws g s I L H locs → lv_has ls 3 [(1, .int y0_1)] → W p l e (rmD 0) s m args below meth c H locs 0 0 Q (F0 m 32 ls [])) → W p l e (rmD 0) s m args below meth c H locs 0 0 Q (F0 m 4 ls []) := by
  intro n
  induction n with
  | zero => intro z1 z2 y0_1 h; exact lp_zero h
  | succ n ih =>
      intro z1 z2 y0_1 h H locs ls hW hl hx0
      obtain ⟨r9, h, h9⟩ := lp_some h
      have h : b_X11_crustsOfAll_4  I L z1 z2 = some r9 := h
      unfold b_X11_crustsOfAll_4 at h
      refine lv_iload_n C.1.1 C.1.2.1 dX11_crustsOfAll_4 rfl (lv_at hl 2 rfl) ?_
      refine lv_aload_n C.1.1 C.1.2.1 dX11_crustsOfAll_5 rfl (lv_at hl 0 rfl) ?_
      refine G_X11_7 C hW (by decide) dX11_crustsOfAll_6 ?_
      refine lv_iconst (v := 1) C.1.1 C.1.2.1 dX11_crustsOfAll_9 (by decide) ?_
      obtain ⟨hi1, h⟩ := gi_some h
      refine w_iald C hW (n := 1752) (by decide) (by decide) hi1 dX11_crustsOfAll_10 ?_
      refine lv_icmp_ge (tgt := 32) C.1.1 C.1.2.1 dX11_crustsOfAll_11 (by decide) (fun hc2 => ?_) (fun hc2 => ?_)
      · replace h := ite_t hc2 h
        obtain rfl := Option.some.inj h
        replace h9 := Option.some.inj h9
        obtain rfl := pnj1 h9
        exact hx0 _ _ _ hW (lv_sub hl [1] rfl)
      · replace h := ite_f hc2 h
        refine lv_iload_n C.1.1 C.1.2.1 dX11_crustsOfAll_14 rfl (lv_at hl 1 rfl) ?_
        refine lv_aload_n C.1.1 C.1.2.1 dX11_crustsOfAll_15 rfl (lv_at hl 0 rfl) ?_
        refine G_X11_7 C hW (by decide) dX11_crustsOfAll_16 ?_
        refine lv_bipush (v := 43) C.1.1 C.1.2.1 dX11_crustsOfAll_19 (by decide) ?_
        refine lv_iload_n C.1.1 C.1.2.1 dX11_crustsOfAll_21 rfl (lv_at hl 2 rfl) ?_
        refine lv_iadd C.1.1 C.1.2.1 dX11_crustsOfAll_22 ?_
        obtain ⟨hi3, h⟩ := gi_some h
        refine w_iald C hW (n := 1752) (by decide) (by decide) hi3 dX11_crustsOfAll_23 ?_
        refine lv_iadd C.1.1 C.1.2.1 dX11_crustsOfAll_24 ?_
        refine lv_topi (fun x4 ex4 => ?_)
        replace h := nm_at ex4 h
        clear ex4
        refine lv_istore_n (lv' := [(1, .int x4), (0, .ref (g.1 + 244)), (2, .int z2)]) C.1.1 C.1.2.1 dX11_crustsOfAll_25 rfl hl (by decide) rfl (fun ls hl => ?_)
        obtain ⟨x5, ex5⟩ : ∃ y : Int32, y = z2 + (1 : Int32) := ⟨_, rfl⟩
        replace h := nm_at ex5 h
        refine lv_iinc (v := x5) (lv' := [(2, .int x5), (1, .int x4), (0, .ref (g.1 + 244))]) C.1.1 C.1.2.1 dX11_crustsOfAll_26 hl (k := 2) rfl (by rw [ex5]; rfl) (by decide) rfl (fun ls hl => ?_)
        clear ex5
        refine lv_goto (tgt := 4) C.1.1 C.1.2.1 dX11_crustsOfAll_29 (by decide) ?_
        obtain rfl := Option.some.inj h
        exact ih _ _ _ h9 _ _ _ hW (lv_sub hl [2, 1, 0] rfl) hx0
def f_X11_crustsOfAll  (I : MI) (L : ML) : Option (Int32) :=
  bd1 (lp (fun s => b_X11_crustsOfAll_4  I L s.1 s.2) FU (((0 : Int32), (0 : Int32)))) (fun y7 => some y7)
set_option maxHeartbeats 4000000 in
set_option maxRecDepth 100000 in
theorem c_X11_crustsOfAll (g : Gp) (l : Launch)   {I : MI} {L : ML} {r : Int32} (h : f_X11_crustsOfAll  I L = some r) : MetI g l yX11_crustsOfAll cX11_crustsOfAll 3 .int 0 [.ref (g.1 + 244)] I L r I L := by
  unfold f_X11_crustsOfAll at h
  refine w_enter (by decide) (Nat.le_of_ble_eq_true rfl) (own := RX11) rfl ?_
  intro p e s m below meth c args Q hQ C hr hlocks hW ls hl
  have hl : lv_has ls 3 [(0, .ref (g.1 + 244))] := hl
  refine lv_iconst (v := 0) C.1.1 C.1.2.1 dX11_crustsOfAll_0 (by decide) ?_
  refine lv_istore_n (lv' := [(1, .int (0 : Int32)), (0, .ref (g.1 + 244))]) C.1.1 C.1.2.1 dX11_crustsOfAll_1 rfl hl (by decide) rfl (fun ls hl => ?_)
  refine lv_iconst (v := 0) C.1.1 C.1.2.1 dX11_crustsOfAll_2 (by decide) ?_
  refine lv_istore_n (lv' := [(2, .int (0 : Int32)), (1, .int (0 : Int32)), (0, .ref (g.1 + 244))]) C.1.1 C.1.2.1 dX11_crustsOfAll_3 rfl hl (by decide) rfl (fun ls hl => ?_)
  obtain ⟨y7, hq6, h⟩ := bd1_some h
  refine l_X11_crustsOfAll_4 C   I L _ _ _ _ hq6 _ _ _ hW (lv_sub hl [2, 1, 0] rfl) (fun H locs ls hW hl => ?_)
  refine lv_iload_n C.1.1 C.1.2.1 dX11_crustsOfAll_32 rfl (lv_at hl 0 rfl) ?_
  obtain rfl := inj1 h
  subst hQ
  exact w_iret C hW hr hlocks dX11_crustsOfAll_33
def f_X11_count (a1 : Int32) (I : MI) (L : ML) : Option (Int32) :=
  (if a1 = (0 : Int32) then gi (1 : Int32) 1752 (some (I 245 (1 : Int32).toNatClampNeg)) else (if a1 = (1 : Int32) then bd1 (f_X11_sittingIn (0 : Int32) I L) (fun r4 => some r4) else (if a1 = (2 : Int32) then gi (4 : Int32) 1752 (some (I 245 (4 : Int32).toNatClampNeg)) else (if a1 = (3 : Int32) then gi (2 : Int32) 1752 (some (I 245 (2 : Int32).toNatClampNeg)) else (if a1 = (4 : Int32) then gi (3 : Int32) 1752 (some (I 245 (3 : Int32).toNatClampNeg)) else (if a1 = (5 : Int32) then bd1 (f_X11_crustsOfAll  I L) (fun r13 => some r13) else (if a1 = (6 : Int32) then gi (5 : Int32) 1752 (some (I 245 (5 : Int32).toNatClampNeg)) else (if a1 = (7 : Int32) then gi (0 : Int32) 1752 (bd1 ((if (I 245 (0 : Int32).toNatClampNeg) = (1 : Int32) then bd1 (f_X11_isNight (0 : Int32) I L) (fun r23 => (if r23 = 0 then some (0 : Int32) else some (1 : Int32))) else some (0 : Int32))) (fun y19 => some y19)) else (if a1 = (8 : Int32) then some (I 244 2) else (if a1 = (9 : Int32) then some (I 244 7) else some (-1 : Int32)))))))))))
set_option maxHeartbeats 4000000 in
set_option maxRecDepth 100000 in
theorem c_X11_count (g : Gp) (l : Launch) {a1 : Int32}  {I : MI} {L : ML} {r : Int32} (h : f_X11_count a1 I L = some r) : MetI g l yX11_count cX11_count 2 .int 2 [.ref (g.1 + 244), .int a1] I L r I L := by
  unfold f_X11_count at h
  refine w_enter (by decide) (Nat.le_of_ble_eq_true rfl) (own := RX11) rfl ?_
  intro p e s m below meth c args Q hQ C hr hlocks hW ls hl
  have hl : lv_has ls 2 [(0, .ref (g.1 + 244)), (1, .int a1)] := hl
  refine lv_iload_n C.1.1 C.1.2.1 dX11_count_0 rfl (lv_at hl 1 rfl) ?_
  by_cases hc1 : a1 = (0 : Int32)
  · replace h := ite_t hc1 h
    rw [hc1]
    refine lv_tableIn (tgt := 56) C.1.1 C.1.2.1 dX11_count_1 (by decide) (by decide) rfl (by decide) ?_
    refine lv_aload_n C.1.1 C.1.2.1 dX11_count_56 rfl (lv_at hl 0 rfl) ?_
    refine G_X11_7 C hW (by decide) dX11_count_57 ?_
    refine lv_iconst (v := 1) C.1.1 C.1.2.1 dX11_count_60 (by decide) ?_
    obtain ⟨hi2, h⟩ := gi_some h
    refine w_iald C hW (n := 1752) (by decide) (by decide) hi2 dX11_count_61 ?_
    obtain rfl := inj1 h
    subst hQ
    exact w_iret C hW hr hlocks dX11_count_62
  · replace h := ite_f hc1 h
    by_cases hc3 : a1 = (1 : Int32)
    · replace h := ite_t hc3 h
      rw [hc3]
      refine lv_tableIn (tgt := 63) C.1.1 C.1.2.1 dX11_count_1 (by decide) (by decide) rfl (by decide) ?_
      refine lv_aload_n C.1.1 C.1.2.1 dX11_count_63 rfl (lv_at hl 0 rfl) ?_
      refine lv_iconst (v := 0) C.1.1 C.1.2.1 dX11_count_64 (by decide) ?_
      obtain ⟨r4, hc5, h⟩ := bd1_some h
      refine w_callVi (k := 1) (As := [.int (0 : Int32)]) (rest := []) C hW (c_X11_sittingIn g l  hc5) (by decide) rfl (EX_11 (by decide)) K_X11_133 (by decide +kernel) ⟨by decide, by decide⟩ ⟨Nat.le_refl _, Nat.le_refl _⟩ rfl hl.1 rfl (Nat.le_of_ble_eq_true rfl) dX11_count_65 (fun H locs hW => ?_)
      obtain rfl := inj1 h
      subst hQ
      exact w_iret C hW hr hlocks dX11_count_68
    · replace h := ite_f hc3 h
      by_cases hc6 : a1 = (2 : Int32)
      · replace h := ite_t hc6 h
        rw [hc6]
        refine lv_tableIn (tgt := 69) C.1.1 C.1.2.1 dX11_count_1 (by decide) (by decide) rfl (by decide) ?_
        refine lv_aload_n C.1.1 C.1.2.1 dX11_count_69 rfl (lv_at hl 0 rfl) ?_
        refine G_X11_7 C hW (by decide) dX11_count_70 ?_
        refine lv_iconst (v := 4) C.1.1 C.1.2.1 dX11_count_73 (by decide) ?_
        obtain ⟨hi7, h⟩ := gi_some h
        refine w_iald C hW (n := 1752) (by decide) (by decide) hi7 dX11_count_74 ?_
        obtain rfl := inj1 h
        subst hQ
        exact w_iret C hW hr hlocks dX11_count_75
      · replace h := ite_f hc6 h
        by_cases hc8 : a1 = (3 : Int32)
        · replace h := ite_t hc8 h
          rw [hc8]
          refine lv_tableIn (tgt := 76) C.1.1 C.1.2.1 dX11_count_1 (by decide) (by decide) rfl (by decide) ?_
          refine lv_aload_n C.1.1 C.1.2.1 dX11_count_76 rfl (lv_at hl 0 rfl) ?_
          refine G_X11_7 C hW (by decide) dX11_count_77 ?_
          refine lv_iconst (v := 2) C.1.1 C.1.2.1 dX11_count_80 (by decide) ?_
          obtain ⟨hi9, h⟩ := gi_some h
          refine w_iald C hW (n := 1752) (by decide) (by decide) hi9 dX11_count_81 ?_
          obtain rfl := inj1 h
          subst hQ
          exact w_iret C hW hr hlocks dX11_count_82
        · replace h := ite_f hc8 h
          by_cases hc10 : a1 = (4 : Int32)
          · replace h := ite_t hc10 h
            rw [hc10]
            refine lv_tableIn (tgt := 83) C.1.1 C.1.2.1 dX11_count_1 (by decide) (by decide) rfl (by decide) ?_
            refine lv_aload_n C.1.1 C.1.2.1 dX11_count_83 rfl (lv_at hl 0 rfl) ?_
            refine G_X11_7 C hW (by decide) dX11_count_84 ?_
            refine lv_iconst (v := 3) C.1.1 C.1.2.1 dX11_count_87 (by decide) ?_
            obtain ⟨hi11, h⟩ := gi_some h
            refine w_iald C hW (n := 1752) (by decide) (by decide) hi11 dX11_count_88 ?_
            obtain rfl := inj1 h
            subst hQ
            exact w_iret C hW hr hlocks dX11_count_89
          · replace h := ite_f hc10 h
            by_cases hc12 : a1 = (5 : Int32)
            · replace h := ite_t hc12 h
              rw [hc12]
              refine lv_tableIn (tgt := 90) C.1.1 C.1.2.1 dX11_count_1 (by decide) (by decide) rfl (by decide) ?_
              refine lv_aload_n C.1.1 C.1.2.1 dX11_count_90 rfl (lv_at hl 0 rfl) ?_
              obtain ⟨r13, hc14, h⟩ := bd1_some h
              refine w_callVi (k := 0) (As := []) (rest := []) C hW (c_X11_crustsOfAll g l  hc14) (by decide) rfl (EX_11 (by decide)) K_X11_236 (by decide +kernel) ⟨by decide, by decide⟩ ⟨Nat.le_refl _, Nat.le_refl _⟩ rfl hl.1 rfl (Nat.le_of_ble_eq_true rfl) dX11_count_91 (fun H locs hW => ?_)
              obtain rfl := inj1 h
              subst hQ
              exact w_iret C hW hr hlocks dX11_count_94
            · replace h := ite_f hc12 h
              by_cases hc15 : a1 = (6 : Int32)
              · replace h := ite_t hc15 h
                rw [hc15]
                refine lv_tableIn (tgt := 95) C.1.1 C.1.2.1 dX11_count_1 (by decide) (by decide) rfl (by decide) ?_
                refine lv_aload_n C.1.1 C.1.2.1 dX11_count_95 rfl (lv_at hl 0 rfl) ?_
                refine G_X11_7 C hW (by decide) dX11_count_96 ?_
                refine lv_iconst (v := 5) C.1.1 C.1.2.1 dX11_count_99 (by decide) ?_
                obtain ⟨hi16, h⟩ := gi_some h
                refine w_iald C hW (n := 1752) (by decide) (by decide) hi16 dX11_count_100 ?_
                obtain rfl := inj1 h
                subst hQ
                exact w_iret C hW hr hlocks dX11_count_101
              · replace h := ite_f hc15 h
                by_cases hc17 : a1 = (7 : Int32)
                · replace h := ite_t hc17 h
                  rw [hc17]
                  refine lv_tableIn (tgt := 102) C.1.1 C.1.2.1 dX11_count_1 (by decide) (by decide) rfl (by decide) ?_
                  refine lv_aload_n C.1.1 C.1.2.1 dX11_count_102 rfl (lv_at hl 0 rfl) ?_
                  refine G_X11_7 C hW (by decide) dX11_count_103 ?_
                  refine lv_iconst (v := 0) C.1.1 C.1.2.1 dX11_count_106 (by decide) ?_
                  obtain ⟨hi18, h⟩ := gi_some h
                  refine w_iald C hW (n := 1752) (by decide) (by decide) hi18 dX11_count_107 ?_
                  refine lv_iconst (v := 1) C.1.1 C.1.2.1 dX11_count_108 (by decide) ?_
                  obtain ⟨y19, hj21, h⟩ := bd1_some h
                  have kJ20 : ∀ (H : Heap) (locs : List Loc) (ls : Array Slot), Ws g s I L H locs → lv_has ls 2 [] → W p l e (rmD 2) s m args below meth c H locs 0 0 Q (F0 m 125 ls [.int y19]) := by
                    intro H locs ls hW hl
                    obtain rfl := inj1 h
                    subst hQ
                    exact w_iret C hW hr hlocks dX11_count_125
                  clear h
                  have h := hj21
                  clear hj21
                  refine lv_icmp_ne (tgt := 124) C.1.1 C.1.2.1 dX11_count_109 (by decide) (fun hc22 => ?_) (fun hc22 => ?_)
                  · replace h := ite_f hc22 h
                    refine lv_iconst (v := 0) C.1.1 C.1.2.1 dX11_count_124 (by decide) ?_
                    obtain rfl := inj1 h
                    exact kJ20 _ _ _ hW (lv_sub hl [] rfl)
                  · replace h := ite_t hc22 h
                    refine lv_aload_n C.1.1 C.1.2.1 dX11_count_112 rfl (lv_at hl 0 rfl) ?_
                    refine lv_iconst (v := 0) C.1.1 C.1.2.1 dX11_count_113 (by decide) ?_
                    obtain ⟨r23, hc24, h⟩ := bd1_some h
                    refine w_callVi (k := 1) (As := [.int (0 : Int32)]) (rest := []) C hW (c_X11_isNight g l  hc24) (by decide) rfl (EX_11 (by decide)) K_X11_97 (by decide +kernel) ⟨by decide, by decide⟩ ⟨Nat.le_refl _, Nat.le_refl _⟩ rfl hl.1 rfl (Nat.le_of_ble_eq_true rfl) dX11_count_114 (fun H locs hW => ?_)
                    refine lv_if_eq (tgt := 124) C.1.1 C.1.2.1 dX11_count_117 (by decide) (fun hc25 => ?_) (fun hc25 => ?_)
                    · replace h := ite_t hc25 h
                      refine lv_iconst (v := 0) C.1.1 C.1.2.1 dX11_count_124 (by decide) ?_
                      obtain rfl := inj1 h
                      exact kJ20 _ _ _ hW (lv_sub hl [] rfl)
                    · replace h := ite_f hc25 h
                      refine lv_iconst (v := 1) C.1.1 C.1.2.1 dX11_count_120 (by decide) ?_
                      refine lv_goto (tgt := 125) C.1.1 C.1.2.1 dX11_count_121 (by decide) ?_
                      obtain rfl := inj1 h
                      exact kJ20 _ _ _ hW (lv_sub hl [] rfl)
                · replace h := ite_f hc17 h
                  by_cases hc26 : a1 = (8 : Int32)
                  · replace h := ite_t hc26 h
                    rw [hc26]
                    refine lv_tableIn (tgt := 126) C.1.1 C.1.2.1 dX11_count_1 (by decide) (by decide) rfl (by decide) ?_
                    refine lv_aload_n C.1.1 C.1.2.1 dX11_count_126 rfl (lv_at hl 0 rfl) ?_
                    refine G_X11_94 C hW (by decide) dX11_count_127 ?_
                    obtain rfl := inj1 h
                    subst hQ
                    exact w_iret C hW hr hlocks dX11_count_130
                  · replace h := ite_f hc26 h
                    by_cases hc27 : a1 = (9 : Int32)
                    · replace h := ite_t hc27 h
                      rw [hc27]
                      refine lv_tableIn (tgt := 131) C.1.1 C.1.2.1 dX11_count_1 (by decide) (by decide) rfl (by decide) ?_
                      refine lv_aload_n C.1.1 C.1.2.1 dX11_count_131 rfl (lv_at hl 0 rfl) ?_
                      refine G_X11_48 C hW (by decide) dX11_count_132 ?_
                      obtain rfl := inj1 h
                      subst hQ
                      exact w_iret C hW hr hlocks dX11_count_135
                    · replace h := ite_f hc27 h
                      refine lv_tableOut (tgt := 136) C.1.1 C.1.2.1 dX11_count_1 (by
                        have := lv_neT (a := 0) hc1 (by decide)
                        have := lv_neT (a := 1) hc3 (by decide)
                        have := lv_neT (a := 2) hc6 (by decide)
                        have := lv_neT (a := 3) hc8 (by decide)
                        have := lv_neT (a := 4) hc10 (by decide)
                        have := lv_neT (a := 5) hc12 (by decide)
                        have := lv_neT (a := 6) hc15 (by decide)
                        have := lv_neT (a := 7) hc17 (by decide)
                        have := lv_neT (a := 8) hc26 (by decide)
                        have := lv_neT (a := 9) hc27 (by decide)
                        omega) (by decide) ?_
                      refine lv_iconst (v := -1) C.1.1 C.1.2.1 dX11_count_136 (by decide) ?_
                      obtain rfl := inj1 h
                      subst hQ
                      exact w_iret C hW hr hlocks dX11_count_137
