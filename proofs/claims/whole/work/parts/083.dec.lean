def f_X11_turns (a1 : Int32) (a2 : Int32) (a3 : Int32) (I : MI) (L : ML) : Option (MI) :=
  bd1 ((if a3 = (1 : Int32) then bd1 (f_X11_eats (219 : Int32) a1 I L) (fun I11 => some I11) else (if a3 = (2 : Int32) then bd1 (f_X11_isDown (219 : Int32) a2 I L) (fun r6 => (if r6 = 0 then gi ((268 : Int32) + a2) 1752 (nm (up2 I 245 (((268 : Int32) + a2).toNatClampNeg) (2 : Int32)) (fun I10 => some I10)) else some I)) else some I))) (fun I1 => some I1)
set_option maxHeartbeats 4000000 in
set_option maxRecDepth 100000 in
theorem c_X11_turns (g : Gp) (l : Launch) {a1 : Int32} {a2 : Int32} {a3 : Int32}  {I : MI} {L : ML} {I' : MI} (h : f_X11_turns a1 a2 a3 I L = some I') : MetV g l yX11_turns cX11_turns 4 2 [.ref (g.1 + 244), .int a1, .int a2, .int a3] I L I' L := by
  unfold f_X11_turns at h
  refine w_enter (by decide) (Nat.le_of_ble_eq_true rfl) (own := RX11) rfl ?_
  intro p e s m below meth c args Q hQ C hr hlocks hW ls hl
  have hl : lv_has ls 4 [(0, .ref (g.1 + 244)), (1, .int a1), (2, .int a2), (3, .int a3)] := hl
  refine lv_iload_n C.1.1 C.1.2.1 dX11_turns_0 rfl (lv_at hl 3 rfl) ?_
  refine lv_iconst (v := 1) C.1.1 C.1.2.1 dX11_turns_1 (by decide) ?_
  obtain ⟨I1, hj3, h⟩ := bd1_some h
  have kJ2 : ∀ (H : Heap) (locs : List Loc) (ls : Array Slot), Ws g s I1 L H locs → lv_has ls 4 [] → W p l e (rmD 2) s m args below meth c H locs 0 0 Q (F0 m 43 ls []) := by
    intro H locs ls hW hl
    obtain rfl := inj1 h
    subst hQ
    exact w_vret C hW hr hlocks dX11_turns_43
  clear h
  have h := hj3
  clear hj3
  refine lv_icmp_ne (tgt := 16) C.1.1 C.1.2.1 dX11_turns_2 (by decide) (fun hc4 => ?_) (fun hc4 => ?_)
  · replace h := ite_f hc4 h
    refine lv_iload_n C.1.1 C.1.2.1 dX11_turns_16 rfl (lv_at hl 3 rfl) ?_
    refine lv_iconst (v := 2) C.1.1 C.1.2.1 dX11_turns_17 (by decide) ?_
    refine lv_icmp_ne (tgt := 43) C.1.1 C.1.2.1 dX11_turns_18 (by decide) (fun hc5 => ?_) (fun hc5 => ?_)
    · replace h := ite_f hc5 h
      obtain rfl := inj1 h
      exact kJ2 _ _ _ hW (lv_sub hl [] rfl)
    · replace h := ite_t hc5 h
      refine lv_aload_n C.1.1 C.1.2.1 dX11_turns_21 rfl (lv_at hl 0 rfl) ?_
      refine lv_sipush (v := 219) C.1.1 C.1.2.1 dX11_turns_22 (by decide) ?_
      refine lv_iload_n C.1.1 C.1.2.1 dX11_turns_25 rfl (lv_at hl 2 rfl) ?_
      obtain ⟨r6, hc7, h⟩ := bd1_some h
      refine w_callVi (k := 2) (As := [.int (219 : Int32), .int a2]) (rest := []) C hW (c_X11_isDown g l  hc7) (by decide) rfl (EX_11 (by decide)) K_X11_100 (by decide +kernel) ⟨by decide, by decide⟩ ⟨Nat.le_refl _, Nat.le_refl _⟩ rfl hl.1 rfl (Nat.le_of_ble_eq_true rfl) dX11_turns_26 (fun H locs hW => ?_)
      refine lv_if_ne (tgt := 43) C.1.1 C.1.2.1 dX11_turns_29 (by decide) (fun hc8 => ?_) (fun hc8 => ?_)
      · replace h := ite_f hc8 h
        obtain rfl := inj1 h
        exact kJ2 _ _ _ hW (lv_sub hl [] rfl)
      · replace h := ite_t hc8 h
        refine lv_aload_n C.1.1 C.1.2.1 dX11_turns_32 rfl (lv_at hl 0 rfl) ?_
        refine G_X11_7 C hW (by decide) dX11_turns_33 ?_
        refine lv_sipush (v := 268) C.1.1 C.1.2.1 dX11_turns_36 (by decide) ?_
        refine lv_iload_n C.1.1 C.1.2.1 dX11_turns_39 rfl (lv_at hl 2 rfl) ?_
        refine lv_iadd C.1.1 C.1.2.1 dX11_turns_40 ?_
        refine lv_iconst (v := 2) C.1.1 C.1.2.1 dX11_turns_41 (by decide) ?_
        obtain ⟨hi9, h⟩ := gi_some h
        refine w_iast C hW (n := 1752) (by decide) (by decide) hi9 dX11_turns_42 (fun H locs hW => ?_)
        obtain ⟨I10, eI10, h⟩ := nm_some h
        rw [← eI10] at hW
        clear eI10
        obtain rfl := inj1 h
        exact kJ2 _ _ _ hW (lv_sub hl [] rfl)
  · replace h := ite_t hc4 h
    refine lv_aload_n C.1.1 C.1.2.1 dX11_turns_5 rfl (lv_at hl 0 rfl) ?_
    refine lv_sipush (v := 219) C.1.1 C.1.2.1 dX11_turns_6 (by decide) ?_
    refine lv_iload_n C.1.1 C.1.2.1 dX11_turns_9 rfl (lv_at hl 1 rfl) ?_
    obtain ⟨I11, hc12, h⟩ := bd1_some h
    refine w_callVv (k := 2) (As := [.int (219 : Int32), .int a1]) (rest := []) C hW (c_X11_eats g l  hc12) (by decide) rfl (EX_11 (by decide)) K_X11_136 (by decide +kernel) ⟨by decide, by decide⟩ ⟨Nat.le_refl _, Nat.le_refl _⟩ rfl hl.1 rfl (Nat.le_of_ble_eq_true rfl) dX11_turns_10 (fun H locs hW => ?_)
    refine lv_goto (tgt := 43) C.1.1 C.1.2.1 dX11_turns_13 (by decide) ?_
    obtain rfl := inj1 h
    exact kJ2 _ _ _ hW (lv_sub hl [] rfl)
def f_X11_edgeNow (a1 : Int32) (a2 : Int32) (I : MI) (L : ML) : Option (Int32) :=
  gi ((232 : Int32) + a1) 1752 (gi ((256 : Int32) + a1) 1752 (gi ((232 : Int32) + a2) 1752 (gi ((256 : Int32) + a2) 1752 (some ((((I 245 ((232 : Int32) + a1).toNatClampNeg) - (I 245 ((256 : Int32) + a1).toNatClampNeg)) - (I 245 ((232 : Int32) + a2).toNatClampNeg)) + (I 245 ((256 : Int32) + a2).toNatClampNeg))))))
set_option maxHeartbeats 4000000 in
set_option maxRecDepth 100000 in
theorem c_X11_edgeNow (g : Gp) (l : Launch) {a1 : Int32} {a2 : Int32}  {I : MI} {L : ML} {r : Int32} (h : f_X11_edgeNow a1 a2 I L = some r) : MetI g l yX11_edgeNow cX11_edgeNow 3 .int 0 [.ref (g.1 + 244), .int a1, .int a2] I L r I L := by
  unfold f_X11_edgeNow at h
  refine w_enter (by decide) (Nat.le_of_ble_eq_true rfl) (own := RX11) rfl ?_
  intro p e s m below meth c args Q hQ C hr hlocks hW ls hl
  have hl : lv_has ls 3 [(0, .ref (g.1 + 244)), (1, .int a1), (2, .int a2)] := hl
  refine lv_aload_n C.1.1 C.1.2.1 dX11_edgeNow_0 rfl (lv_at hl 0 rfl) ?_
  refine G_X11_7 C hW (by decide) dX11_edgeNow_1 ?_
  refine lv_sipush (v := 232) C.1.1 C.1.2.1 dX11_edgeNow_4 (by decide) ?_
  refine lv_iload_n C.1.1 C.1.2.1 dX11_edgeNow_7 rfl (lv_at hl 1 rfl) ?_
  refine lv_iadd C.1.1 C.1.2.1 dX11_edgeNow_8 ?_
  obtain ⟨hi1, h⟩ := gi_some h
  refine w_iald C hW (n := 1752) (by decide) (by decide) hi1 dX11_edgeNow_9 ?_
  refine lv_aload_n C.1.1 C.1.2.1 dX11_edgeNow_10 rfl (lv_at hl 0 rfl) ?_
  refine G_X11_7 C hW (by decide) dX11_edgeNow_11 ?_
  refine lv_sipush (v := 256) C.1.1 C.1.2.1 dX11_edgeNow_14 (by decide) ?_
  refine lv_iload_n C.1.1 C.1.2.1 dX11_edgeNow_17 rfl (lv_at hl 1 rfl) ?_
  refine lv_iadd C.1.1 C.1.2.1 dX11_edgeNow_18 ?_
  obtain ⟨hi2, h⟩ := gi_some h
  refine w_iald C hW (n := 1752) (by decide) (by decide) hi2 dX11_edgeNow_19 ?_
  refine lv_isub C.1.1 C.1.2.1 dX11_edgeNow_20 ?_
  refine lv_aload_n C.1.1 C.1.2.1 dX11_edgeNow_21 rfl (lv_at hl 0 rfl) ?_
  refine G_X11_7 C hW (by decide) dX11_edgeNow_22 ?_
  refine lv_sipush (v := 232) C.1.1 C.1.2.1 dX11_edgeNow_25 (by decide) ?_
  refine lv_iload_n C.1.1 C.1.2.1 dX11_edgeNow_28 rfl (lv_at hl 2 rfl) ?_
  refine lv_iadd C.1.1 C.1.2.1 dX11_edgeNow_29 ?_
  obtain ⟨hi3, h⟩ := gi_some h
  refine w_iald C hW (n := 1752) (by decide) (by decide) hi3 dX11_edgeNow_30 ?_
  refine lv_isub C.1.1 C.1.2.1 dX11_edgeNow_31 ?_
  refine lv_aload_n C.1.1 C.1.2.1 dX11_edgeNow_32 rfl (lv_at hl 0 rfl) ?_
  refine G_X11_7 C hW (by decide) dX11_edgeNow_33 ?_
  refine lv_sipush (v := 256) C.1.1 C.1.2.1 dX11_edgeNow_36 (by decide) ?_
  refine lv_iload_n C.1.1 C.1.2.1 dX11_edgeNow_39 rfl (lv_at hl 2 rfl) ?_
  refine lv_iadd C.1.1 C.1.2.1 dX11_edgeNow_40 ?_
  obtain ⟨hi4, h⟩ := gi_some h
  refine w_iald C hW (n := 1752) (by decide) (by decide) hi4 dX11_edgeNow_41 ?_
  refine lv_iadd C.1.1 C.1.2.1 dX11_edgeNow_42 ?_
  obtain rfl := inj1 h
  subst hQ
  exact w_iret C hW hr hlocks dX11_edgeNow_43
def b_X11_game_102 (v1 : Int32) (v2 : Int32) (v4 : Int32) (v5 : Int32) (L : ML) (z6 : Int32) (I : MI) : Option ((Int32 × MI) ⊕ ((MI))) :=
  (if z6 ≤ 0 then some (Sum.inr I) else gd (¬ z6 = 0) (nm (v5 / z6) (fun x22 => nm (x22 - x22 / (9 : Int32) * (9 : Int32)) (fun x23 => bd1 (f_X11_turns v1 v2 (x23 / (3 : Int32)) I L) (fun I24 => bd1 (f_X11_turns v2 v1 (x23 - x23 / (3 : Int32) * (3 : Int32)) I24 L) (fun I26 => bd1 (f_X11_passes (219 : Int32) I26 L) (fun I28 => nm (z6 / (9 : Int32)) (fun x30 => some (Sum.inl (x30, I28))))))))))
set_option maxHeartbeats 4000000 in
set_option maxRecDepth 100000 in
theorem l_X11_game_102 {g : Gp} {p : Program} {l : Launch} {e : Env} {s : State} {m : MethodId} {args : Array Value} {below : List Frame} {meth : Method} {c : Code} {Q : State → Prop}  (C : Cx g p s m args c RX11 cX11_game 12) (v1 : Int32) (v2 : Int32) (v4 : Int32) (v5 : Int32)  (L : ML) : ∀ (n : Nat) (z6 : Int32) (I : MI) (Iy0 : MI), lp (fun s => b_X11_game_102 v1 v2 v4 v5 L s.1 s.2) n (z6, I) = some Iy0 → ∀ (H : Heap) (locs : List Loc) (ls : Array Slot), Ws g s I L H locs → lv_has ls 12 [(0, .ref (g.1 + 244)), (1, .int v1), (2, .int v2), (4, .int v4), (5, .int v5), (6, .int z6)] → (∀ (H : Heap) (locs : List Loc) (ls : Array Slot), Ws g s Iy0 L H locs → lv_has ls 12 [(0, .ref (g.1 + 244)), (1, .int v1), (2, .int v2), (4, .int v4), (5, .int v5)] → W p l e (rmD 4) s m args below meth c H locs 0 0 Q (F0 m 154 ls [])) → W p l e (rmD 4) s m args below meth c H locs 0 0 Q (F0 m 102 ls []) := by
  intro n
  induction n with
  | zero => intro z6 I Iy0 h; exact lp_zero h
  | succ n ih =>
      intro z6 I Iy0 h H locs ls hW hl hx0
      obtain ⟨r9, h, h9⟩ := lp_some h
      have h : b_X11_game_102 v1 v2 v4 v5 L z6 I = some r9 := h
      unfold b_X11_game_102 at h
      refine lv_iload C.1.1 C.1.2.1 dX11_game_102 (lv_at hl 5 rfl) ?_
      refine lv_if_le (tgt := 154) C.1.1 C.1.2.1 dX11_game_104 (by decide) (fun hc20 => ?_) (fun hc20 => ?_)
      · replace h := ite_t hc20 h
        obtain rfl := Option.some.inj h
        replace h9 := Option.some.inj h9
        obtain rfl := pnj1 h9
        exact hx0 _ _ _ hW (lv_sub hl [0, 1, 2, 3, 4] rfl)
      · replace h := ite_f hc20 h
        refine lv_iload C.1.1 C.1.2.1 dX11_game_107 (lv_at hl 4 rfl) ?_
        refine lv_iload C.1.1 C.1.2.1 dX11_game_109 (lv_at hl 5 rfl) ?_
        obtain ⟨hz21, h⟩ := gd_some h
        refine lv_idiv C.1.1 C.1.2.1 dX11_game_111 hz21 ?_
        refine lv_bipush (v := 9) C.1.1 C.1.2.1 dX11_game_112 (by decide) ?_
        obtain ⟨x22, ex22⟩ : ∃ y, y = v5 / z6 := ⟨_, rfl⟩
        rw [← ex22]
        replace h := nm_at ex22 h
        clear ex22
        refine lv_irem C.1.1 C.1.2.1 dX11_game_114 (by decide) ?_
        refine lv_topi (fun x23 ex23 => ?_)
        replace h := nm_at ex23 h
        clear ex23
        refine lv_istore (lv' := [(7, .int x23), (0, .ref (g.1 + 244)), (1, .int v1), (2, .int v2), (4, .int v4), (5, .int v5), (6, .int z6)]) C.1.1 C.1.2.1 dX11_game_115 hl (by decide) rfl (fun ls hl => ?_)
        refine lv_aload_n C.1.1 C.1.2.1 dX11_game_117 rfl (lv_at hl 1 rfl) ?_
        refine lv_iload_n C.1.1 C.1.2.1 dX11_game_118 rfl (lv_at hl 2 rfl) ?_
        refine lv_iload_n C.1.1 C.1.2.1 dX11_game_119 rfl (lv_at hl 3 rfl) ?_
        refine lv_iload C.1.1 C.1.2.1 dX11_game_120 (lv_at hl 0 rfl) ?_
        refine lv_iconst (v := 3) C.1.1 C.1.2.1 dX11_game_122 (by decide) ?_
        refine lv_idiv C.1.1 C.1.2.1 dX11_game_123 (by decide) ?_
        obtain ⟨I24, hc25, h⟩ := bd1_some h
        refine w_callVv (k := 3) (As := [.int v1, .int v2, .int (x23 / (3 : Int32))]) (rest := []) C hW (c_X11_turns g l  hc25) (by decide) rfl (EX_11 (by decide)) K_X11_193 (by decide +kernel) ⟨by decide, by decide⟩ ⟨Nat.le_refl _, Nat.le_refl _⟩ rfl hl.1 rfl (Nat.le_of_ble_eq_true rfl) dX11_game_124 (fun H locs hW => ?_)
        refine lv_aload_n C.1.1 C.1.2.1 dX11_game_127 rfl (lv_at hl 1 rfl) ?_
        refine lv_iload_n C.1.1 C.1.2.1 dX11_game_128 rfl (lv_at hl 3 rfl) ?_
        refine lv_iload_n C.1.1 C.1.2.1 dX11_game_129 rfl (lv_at hl 2 rfl) ?_
        refine lv_iload C.1.1 C.1.2.1 dX11_game_130 (lv_at hl 0 rfl) ?_
        refine lv_iconst (v := 3) C.1.1 C.1.2.1 dX11_game_132 (by decide) ?_
        refine lv_irem C.1.1 C.1.2.1 dX11_game_133 (by decide) ?_
        obtain ⟨I26, hc27, h⟩ := bd1_some h
        refine w_callVv (k := 3) (As := [.int v2, .int v1, .int (x23 - x23 / (3 : Int32) * (3 : Int32))]) (rest := []) C hW (c_X11_turns g l  hc27) (by decide) rfl (EX_11 (by decide)) K_X11_193 (by decide +kernel) ⟨by decide, by decide⟩ ⟨Nat.le_refl _, Nat.le_refl _⟩ rfl hl.1 rfl (Nat.le_of_ble_eq_true rfl) dX11_game_134 (fun H locs hW => ?_)
        refine lv_aload_n C.1.1 C.1.2.1 dX11_game_137 rfl (lv_at hl 1 rfl) ?_
        refine lv_sipush (v := 219) C.1.1 C.1.2.1 dX11_game_138 (by decide) ?_
        obtain ⟨I28, hc29, h⟩ := bd1_some h
        refine w_callVv (k := 1) (As := [.int (219 : Int32)]) (rest := []) C hW (c_X11_passes g l  hc29) (by decide) rfl (EX_11 (by decide)) K_X11_129 (by decide +kernel) ⟨by decide, by decide⟩ ⟨Nat.le_refl _, Nat.le_refl _⟩ rfl hl.1 rfl (Nat.le_of_ble_eq_true rfl) dX11_game_141 (fun H locs hW => ?_)
        refine lv_iload C.1.1 C.1.2.1 dX11_game_144 (lv_at hl 6 rfl) ?_
        refine lv_bipush (v := 9) C.1.1 C.1.2.1 dX11_game_146 (by decide) ?_
        refine lv_idiv C.1.1 C.1.2.1 dX11_game_148 (by decide) ?_
        refine lv_topi (fun x30 ex30 => ?_)
        replace h := nm_at ex30 h
        clear ex30
        refine lv_istore (lv' := [(6, .int x30), (7, .int x23), (0, .ref (g.1 + 244)), (1, .int v1), (2, .int v2), (4, .int v4), (5, .int v5)]) C.1.1 C.1.2.1 dX11_game_149 hl (by decide) rfl (fun ls hl => ?_)
        refine lv_goto (tgt := 102) C.1.1 C.1.2.1 dX11_game_151 (by decide) ?_
        obtain rfl := Option.some.inj h
        exact ih _ _ _ h9 _ _ _ hW (lv_sub hl [2, 3, 4, 5, 6, 0] rfl) hx0
def b_X11_game_80 (v1 : Int32) (v2 : Int32) (v4 : Int32) (L : ML) (z5 : Int32) (I : MI) : Option ((Int32 × MI) ⊕ ((MI))) :=
  (if v4 ≤ z5 then some (Sum.inr I) else bd1 (f_X11_copyRow (0 : Int32) (219 : Int32) I L) (fun I17 => nm (v4 / (9 : Int32)) (fun x19 => bd1 (lp (fun s => b_X11_game_102 v1 v2 v4 z5 L s.1 s.2) FU (x19, I17)) (fun I32 => bd1 (f_X11_edgeNow v1 v2 I32 L) (fun r33 => gi z5 729 (nm (up2 I32 252 z5.toNatClampNeg r33) (fun I36 => nm (z5 + (1 : Int32)) (fun x37 => some (Sum.inl (x37, I36))))))))))
set_option maxHeartbeats 4000000 in
set_option maxRecDepth 100000 in
theorem l_X11_game_80 {g : Gp} {p : Program} {l : Launch} {e : Env} {s : State} {m : MethodId} {args : Array Value} {below : List Frame} {meth : Method} {c : Code} {Q : State → Prop}  (C : Cx g p s m args c RX11 cX11_game 12) (v1 : Int32) (v2 : Int32) (v4 : Int32)  (L : ML) : ∀ (n : Nat) (z5 : Int32) (I : MI) (Iy0 : MI), lp (fun s => b_X11_game_80 v1 v2 v4 L s.1 s.2) n (z5, I) = some Iy0 → ∀ (H : Heap) (locs : List Loc) (ls : Array Slot), Ws g s I L H locs → lv_has ls 12 [(0, .ref (g.1 + 244)), (1, .int v1), (2, .int v2), (4, .int v4), (5, .int z5)] → (∀ (H : Heap) (locs : List Loc) (ls : Array Slot), Ws g s Iy0 L H locs → lv_has ls 12 [(0, .ref (g.1 + 244)), (4, .int v4)] → W p l e (rmD 4) s m args below meth c H locs 0 0 Q (F0 m 173 ls [])) → W p l e (rmD 4) s m args below meth c H locs 0 0 Q (F0 m 80 ls []) := by
  intro n
  induction n with
  | zero => intro z5 I Iy0 h; exact lp_zero h
  | succ n ih =>
      intro z5 I Iy0 h H locs ls hW hl hx0
      obtain ⟨r9, h, h9⟩ := lp_some h
      have h : b_X11_game_80 v1 v2 v4 L z5 I = some r9 := h
      unfold b_X11_game_80 at h
      refine lv_iload C.1.1 C.1.2.1 dX11_game_80 (lv_at hl 4 rfl) ?_
      refine lv_iload C.1.1 C.1.2.1 dX11_game_82 (lv_at hl 3 rfl) ?_
      refine lv_icmp_ge (tgt := 173) C.1.1 C.1.2.1 dX11_game_84 (by decide) (fun hc16 => ?_) (fun hc16 => ?_)
      · replace h := ite_t hc16 h
        obtain rfl := Option.some.inj h
        replace h9 := Option.some.inj h9
        obtain rfl := pnj1 h9
        exact hx0 _ _ _ hW (lv_sub hl [0, 3] rfl)
      · replace h := ite_f hc16 h
        refine lv_aload_n C.1.1 C.1.2.1 dX11_game_87 rfl (lv_at hl 0 rfl) ?_
        refine lv_iconst (v := 0) C.1.1 C.1.2.1 dX11_game_88 (by decide) ?_
        refine lv_sipush (v := 219) C.1.1 C.1.2.1 dX11_game_89 (by decide) ?_
        obtain ⟨I17, hc18, h⟩ := bd1_some h
        refine w_callVv (k := 2) (As := [.int (0 : Int32), .int (219 : Int32)]) (rest := []) C hW (c_X11_copyRow g l  hc18) (by decide) rfl (EX_11 (by decide)) K_X11_90 (by decide +kernel) ⟨by decide, by decide⟩ ⟨Nat.le_refl _, Nat.le_refl _⟩ rfl hl.1 rfl (Nat.le_of_ble_eq_true rfl) dX11_game_92 (fun H locs hW => ?_)
        refine lv_iload C.1.1 C.1.2.1 dX11_game_95 (lv_at hl 3 rfl) ?_
        refine lv_bipush (v := 9) C.1.1 C.1.2.1 dX11_game_97 (by decide) ?_
        refine lv_idiv C.1.1 C.1.2.1 dX11_game_99 (by decide) ?_
        refine lv_topi (fun x19 ex19 => ?_)
        replace h := nm_at ex19 h
        clear ex19
        refine lv_istore (lv' := [(6, .int x19), (0, .ref (g.1 + 244)), (1, .int v1), (2, .int v2), (4, .int v4), (5, .int z5)]) C.1.1 C.1.2.1 dX11_game_100 hl (by decide) rfl (fun ls hl => ?_)
        obtain ⟨I32, hq31, h⟩ := bd1_some h
        refine l_X11_game_102 C v1 v2 v4 z5  L _ _ _ _ hq31 _ _ _ hW (lv_sub hl [1, 2, 3, 4, 5, 0] rfl) (fun H locs ls hW hl => ?_)
        refine lv_aload_n C.1.1 C.1.2.1 dX11_game_154 rfl (lv_at hl 0 rfl) ?_
        refine G_X11_33 C hW (by decide) dX11_game_155 ?_
        refine lv_iload C.1.1 C.1.2.1 dX11_game_158 (lv_at hl 4 rfl) ?_
        refine lv_aload_n C.1.1 C.1.2.1 dX11_game_160 rfl (lv_at hl 0 rfl) ?_
        refine lv_iload_n C.1.1 C.1.2.1 dX11_game_161 rfl (lv_at hl 1 rfl) ?_
        refine lv_iload_n C.1.1 C.1.2.1 dX11_game_162 rfl (lv_at hl 2 rfl) ?_
        obtain ⟨r33, hc34, h⟩ := bd1_some h
        refine w_callVi (k := 2) (As := [.int v1, .int v2]) (rest := [.int z5, .ref (g.1 + 252)]) C hW (c_X11_edgeNow g l  hc34) (by decide) rfl (EX_11 (by decide)) K_X11_197 (by decide +kernel) ⟨by decide, by decide⟩ ⟨Nat.le_refl _, Nat.le_refl _⟩ rfl hl.1 rfl (Nat.le_of_ble_eq_true rfl) dX11_game_163 (fun H locs hW => ?_)
        obtain ⟨hi35, h⟩ := gi_some h
        refine w_iast C hW (n := 729) (by decide) (by decide) hi35 dX11_game_166 (fun H locs hW => ?_)
        obtain ⟨I36, eI36, h⟩ := nm_some h
        rw [← eI36] at hW
        clear eI36
        obtain ⟨x37, ex37⟩ : ∃ y : Int32, y = z5 + (1 : Int32) := ⟨_, rfl⟩
        replace h := nm_at ex37 h
        refine lv_iinc (v := x37) (lv' := [(5, .int x37), (0, .ref (g.1 + 244)), (1, .int v1), (2, .int v2), (4, .int v4)]) C.1.1 C.1.2.1 dX11_game_167 hl (k := 4) rfl (by rw [ex37]; rfl) (by decide) rfl (fun ls hl => ?_)
        clear ex37
        refine lv_goto (tgt := 80) C.1.1 C.1.2.1 dX11_game_170 (by decide) ?_
        obtain rfl := Option.some.inj h
        exact ih _ _ _ h9 _ _ _ hW (lv_sub hl [1, 2, 3, 4, 0] rfl) hx0
def b_X11_game_215 (v5 : Int32) (v6 : Int32) (v7 : Int32) (v8 : Int32) (I : MI) (L : ML) (z9 : Int32) (z10 : Int32) : Option ((Int32 × Int32) ⊕ ((Int32))) :=
  (if (3 : Int32) ≤ z10 then some (Sum.inr z9) else gi ((((9 : Int32) * v6) + ((3 : Int32) * v8)) + z10) 729 (nm (I 252 ((((9 : Int32) * v6) + ((3 : Int32) * v8)) + z10).toNatClampNeg) (fun x46 => bd1 (if z9 ≤ x46 then some z9 else some x46) (fun y47 => nm (z10 + (1 : Int32)) (fun x50 => some (Sum.inl (y47, x50)))))))
set_option maxHeartbeats 4000000 in
set_option maxRecDepth 100000 in
theorem l_X11_game_215 {g : Gp} {p : Program} {l : Launch} {e : Env} {s : State} {m : MethodId} {args : Array Value} {below : List Frame} {meth : Method} {c : Code} {Q : State → Prop}  (C : Cx g p s m args c RX11 cX11_game 12) (v5 : Int32) (v6 : Int32) (v7 : Int32) (v8 : Int32)  (I : MI) (L : ML) : ∀ (n : Nat) (z9 : Int32) (z10 : Int32) (y0_9 : Int32), lp (fun s => b_X11_game_215 v5 v6 v7 v8 I L s.1 s.2) n (z9, z10) = some y0_9 → ∀ (H : Heap) (locs : List Loc) (ls : Array Slot), Ws g s I L H locs → lv_has ls 12 [(0, .ref (g.1 + 244)), (5, .int v5), (6, .int v6), (7, .int v7), (8, .int v8), (9, .int z9), (10, .int z10)] → (∀ (H : Heap) (locs : List Loc) (ls : Array Slot), Ws g s I L H locs → lv_has ls 12 [(0, .ref (g.1 + 244)), (5, .int v5), (6, .int v6), (7, .int v7), (8, .int v8), (9, .int y0_9)] → W p l e (rmD 4) s m args below meth c H locs 0 0 Q (F0 m 263 ls [])) → W p l e (rmD 4) s m args below meth c H locs 0 0 Q (F0 m 215 ls []) := by
  intro n
  induction n with
  | zero => intro z9 z10 y0_9 h; exact lp_zero h
  | succ n ih =>
      intro z9 z10 y0_9 h H locs ls hW hl hx0
      obtain ⟨r9, h, h9⟩ := lp_some h
      have h : b_X11_game_215 v5 v6 v7 v8 I L z9 z10 = some r9 := h
      unfold b_X11_game_215 at h
      refine lv_iload C.1.1 C.1.2.1 dX11_game_215 (lv_at hl 6 rfl) ?_
      refine lv_iconst (v := 3) C.1.1 C.1.2.1 dX11_game_217 (by decide) ?_
      refine lv_icmp_ge (tgt := 263) C.1.1 C.1.2.1 dX11_game_218 (by decide) (fun hc44 => ?_) (fun hc44 => ?_)
      · replace h := ite_t hc44 h
        obtain rfl := Option.some.inj h
        replace h9 := Option.some.inj h9
        obtain rfl := pnj1 h9
        exact hx0 _ _ _ hW (lv_sub hl [0, 1, 2, 3, 4, 5] rfl)
      · replace h := ite_f hc44 h
        refine lv_aload_n C.1.1 C.1.2.1 dX11_game_221 rfl (lv_at hl 0 rfl) ?_
        refine G_X11_33 C hW (by decide) dX11_game_222 ?_
        refine lv_bipush (v := 9) C.1.1 C.1.2.1 dX11_game_225 (by decide) ?_
        refine lv_iload C.1.1 C.1.2.1 dX11_game_227 (lv_at hl 2 rfl) ?_
        refine lv_imul C.1.1 C.1.2.1 dX11_game_229 ?_
        refine lv_iconst (v := 3) C.1.1 C.1.2.1 dX11_game_230 (by decide) ?_
        refine lv_iload C.1.1 C.1.2.1 dX11_game_231 (lv_at hl 4 rfl) ?_
        refine lv_imul C.1.1 C.1.2.1 dX11_game_233 ?_
        refine lv_iadd C.1.1 C.1.2.1 dX11_game_234 ?_
        refine lv_iload C.1.1 C.1.2.1 dX11_game_235 (lv_at hl 6 rfl) ?_
        refine lv_iadd C.1.1 C.1.2.1 dX11_game_237 ?_
        obtain ⟨hi45, h⟩ := gi_some h
        refine w_iald C hW (n := 729) (by decide) (by decide) hi45 dX11_game_238 ?_
        refine lv_topi (fun x46 ex46 => ?_)
        replace h := nm_at ex46 h
        clear ex46
        refine lv_istore (lv' := [(11, .int x46), (0, .ref (g.1 + 244)), (5, .int v5), (6, .int v6), (7, .int v7), (8, .int v8), (9, .int z9), (10, .int z10)]) C.1.1 C.1.2.1 dX11_game_239 hl (by decide) rfl (fun ls hl => ?_)
        refine lv_iload C.1.1 C.1.2.1 dX11_game_241 (lv_at hl 0 rfl) ?_
        refine lv_iload C.1.1 C.1.2.1 dX11_game_243 (lv_at hl 6 rfl) ?_
        obtain ⟨y47, hj49, h⟩ := bd1_some h
        have kJ48 : ∀ (H : Heap) (locs : List Loc) (ls : Array Slot), Ws g s I L H locs → lv_has ls 12 [(0, .ref (g.1 + 244)), (5, .int v5), (6, .int v6), (7, .int v7), (8, .int v8), (10, .int z10)] → W p l e (rmD 4) s m args below meth c H locs 0 0 Q (F0 m 255 ls [.int y47]) := by
          intro H locs ls hW hl
          refine lv_istore (lv' := [(9, .int y47), (0, .ref (g.1 + 244)), (5, .int v5), (6, .int v6), (7, .int v7), (8, .int v8), (10, .int z10)]) C.1.1 C.1.2.1 dX11_game_255 hl (by decide) rfl (fun ls hl => ?_)
          obtain ⟨x50, ex50⟩ : ∃ y : Int32, y = z10 + (1 : Int32) := ⟨_, rfl⟩
          replace h := nm_at ex50 h
          refine lv_iinc (v := x50) (lv' := [(10, .int x50), (9, .int y47), (0, .ref (g.1 + 244)), (5, .int v5), (6, .int v6), (7, .int v7), (8, .int v8)]) C.1.1 C.1.2.1 dX11_game_257 hl (k := 6) rfl (by rw [ex50]; rfl) (by decide) rfl (fun ls hl => ?_)
          clear ex50
          refine lv_goto (tgt := 215) C.1.1 C.1.2.1 dX11_game_260 (by decide) ?_
          obtain rfl := Option.some.inj h
          exact ih _ _ _ h9 _ _ _ hW (lv_sub hl [2, 3, 4, 5, 6, 1, 0] rfl) hx0
        clear h
        have h := hj49
        clear hj49
        refine lv_icmp_ge (tgt := 253) C.1.1 C.1.2.1 dX11_game_245 (by decide) (fun hc51 => ?_) (fun hc51 => ?_)
        · replace h := ite_t hc51 h
          refine lv_iload C.1.1 C.1.2.1 dX11_game_253 (lv_at hl 6 rfl) ?_
          obtain rfl := inj1 h
          exact kJ48 _ _ _ hW (lv_sub hl [1, 2, 3, 4, 5, 7] rfl)
        · replace h := ite_f hc51 h
          refine lv_iload C.1.1 C.1.2.1 dX11_game_248 (lv_at hl 0 rfl) ?_
          refine lv_goto (tgt := 255) C.1.1 C.1.2.1 dX11_game_250 (by decide) ?_
          obtain rfl := inj1 h
          exact kJ48 _ _ _ hW (lv_sub hl [1, 2, 3, 4, 5, 7] rfl)
def b_X11_game_202 (v5 : Int32) (v6 : Int32) (I : MI) (L : ML) (z7 : Int32) (z8 : Int32) : Option ((Int32 × Int32) ⊕ ((Int32))) :=
  (if (3 : Int32) ≤ z8 then some (Sum.inr z7) else bd1 (lp (fun s => b_X11_game_215 v5 v6 z7 z8 I L s.1 s.2) FU (((1000000 : Int32), (0 : Int32)))) (fun y53 => bd1 (if y53 ≤ z7 then some z7 else some y53) (fun y54 => nm (z8 + (1 : Int32)) (fun x57 => some (Sum.inl (y54, x57))))))
set_option maxHeartbeats 4000000 in
set_option maxRecDepth 100000 in
theorem l_X11_game_202 {g : Gp} {p : Program} {l : Launch} {e : Env} {s : State} {m : MethodId} {args : Array Value} {below : List Frame} {meth : Method} {c : Code} {Q : State → Prop}  (C : Cx g p s m args c RX11 cX11_game 12) (v5 : Int32) (v6 : Int32)  (I : MI) (L : ML) : ∀ (n : Nat) (z7 : Int32) (z8 : Int32) (y0_7 : Int32), lp (fun s => b_X11_game_202 v5 v6 I L s.1 s.2) n (z7, z8) = some y0_7 → ∀ (H : Heap) (locs : List Loc) (ls : Array Slot), Ws g s I L H locs → lv_has ls 12 [(0, .ref (g.1 + 244)), (5, .int v5), (6, .int v6), (7, .int z7), (8, .int z8)] → (∀ (H : Heap) (locs : List Loc) (ls : Array Slot), Ws g s I L H locs → lv_has ls 12 [(0, .ref (g.1 + 244)), (5, .int v5), (6, .int v6), (7, .int y0_7)] → W p l e (rmD 4) s m args below meth c H locs 0 0 Q (F0 m 285 ls [])) → W p l e (rmD 4) s m args below meth c H locs 0 0 Q (F0 m 202 ls []) := by
  intro n
  induction n with
  | zero => intro z7 z8 y0_7 h; exact lp_zero h
  | succ n ih =>
      intro z7 z8 y0_7 h H locs ls hW hl hx0
      obtain ⟨r9, h, h9⟩ := lp_some h
      have h : b_X11_game_202 v5 v6 I L z7 z8 = some r9 := h
      unfold b_X11_game_202 at h
      refine lv_iload C.1.1 C.1.2.1 dX11_game_202 (lv_at hl 4 rfl) ?_
      refine lv_iconst (v := 3) C.1.1 C.1.2.1 dX11_game_204 (by decide) ?_
      refine lv_icmp_ge (tgt := 285) C.1.1 C.1.2.1 dX11_game_205 (by decide) (fun hc43 => ?_) (fun hc43 => ?_)
      · replace h := ite_t hc43 h
        obtain rfl := Option.some.inj h
        replace h9 := Option.some.inj h9
        obtain rfl := pnj1 h9
        exact hx0 _ _ _ hW (lv_sub hl [0, 1, 2, 3] rfl)
      · replace h := ite_f hc43 h
        refine lv_ldc C.1.1 C.1.2.1 C.1.2.2.2.1 (C.1.2.2.2.2 _ kc_X11_146) dX11_game_208 ?_
        refine lv_istore (lv' := [(9, .int (1000000 : Int32)), (0, .ref (g.1 + 244)), (5, .int v5), (6, .int v6), (7, .int z7), (8, .int z8)]) C.1.1 C.1.2.1 dX11_game_210 hl (by decide) rfl (fun ls hl => ?_)
        refine lv_iconst (v := 0) C.1.1 C.1.2.1 dX11_game_212 (by decide) ?_
        refine lv_istore (lv' := [(10, .int (0 : Int32)), (9, .int (1000000 : Int32)), (0, .ref (g.1 + 244)), (5, .int v5), (6, .int v6), (7, .int z7), (8, .int z8)]) C.1.1 C.1.2.1 dX11_game_213 hl (by decide) rfl (fun ls hl => ?_)
        obtain ⟨y53, hq52, h⟩ := bd1_some h
        refine l_X11_game_215 C v5 v6 z7 z8  I L _ _ _ _ hq52 _ _ _ hW (lv_sub hl [2, 3, 4, 5, 6, 1, 0] rfl) (fun H locs ls hW hl => ?_)
        refine lv_iload C.1.1 C.1.2.1 dX11_game_263 (lv_at hl 5 rfl) ?_
        refine lv_iload C.1.1 C.1.2.1 dX11_game_265 (lv_at hl 3 rfl) ?_
        obtain ⟨y54, hj56, h⟩ := bd1_some h
        have kJ55 : ∀ (H : Heap) (locs : List Loc) (ls : Array Slot), Ws g s I L H locs → lv_has ls 12 [(0, .ref (g.1 + 244)), (5, .int v5), (6, .int v6), (8, .int z8)] → W p l e (rmD 4) s m args below meth c H locs 0 0 Q (F0 m 277 ls [.int y54]) := by
          intro H locs ls hW hl
          refine lv_istore (lv' := [(7, .int y54), (0, .ref (g.1 + 244)), (5, .int v5), (6, .int v6), (8, .int z8)]) C.1.1 C.1.2.1 dX11_game_277 hl (by decide) rfl (fun ls hl => ?_)
          obtain ⟨x57, ex57⟩ : ∃ y : Int32, y = z8 + (1 : Int32) := ⟨_, rfl⟩
          replace h := nm_at ex57 h
          refine lv_iinc (v := x57) (lv' := [(8, .int x57), (7, .int y54), (0, .ref (g.1 + 244)), (5, .int v5), (6, .int v6)]) C.1.1 C.1.2.1 dX11_game_279 hl (k := 4) rfl (by rw [ex57]; rfl) (by decide) rfl (fun ls hl => ?_)
          clear ex57
          refine lv_goto (tgt := 202) C.1.1 C.1.2.1 dX11_game_282 (by decide) ?_
          obtain rfl := Option.some.inj h
          exact ih _ _ _ h9 _ _ _ hW (lv_sub hl [2, 3, 4, 1, 0] rfl) hx0
        clear h
        have h := hj56
        clear hj56
        refine lv_icmp_le (tgt := 275) C.1.1 C.1.2.1 dX11_game_267 (by decide) (fun hc58 => ?_) (fun hc58 => ?_)
        · replace h := ite_t hc58 h
          refine lv_iload C.1.1 C.1.2.1 dX11_game_275 (lv_at hl 3 rfl) ?_
          obtain rfl := inj1 h
          exact kJ55 _ _ _ hW (lv_sub hl [0, 1, 2, 4] rfl)
        · replace h := ite_f hc58 h
          refine lv_iload C.1.1 C.1.2.1 dX11_game_270 (lv_at hl 5 rfl) ?_
          refine lv_goto (tgt := 277) C.1.1 C.1.2.1 dX11_game_272 (by decide) ?_
          obtain rfl := inj1 h
          exact kJ55 _ _ _ hW (lv_sub hl [0, 1, 2, 4] rfl)
def b_X11_game_188 (v5 : Int32) (L : ML) (z6 : Int32) (I : MI) : Option ((Int32 × MI) ⊕ ((MI))) :=
  (if v5 ≤ z6 then some (Sum.inr I) else bd1 (lp (fun s => b_X11_game_202 v5 z6 I L s.1 s.2) FU (((-1000000 : Int32), (0 : Int32)))) (fun y60 => gi z6 729 (nm (up2 I 252 z6.toNatClampNeg y60) (fun I62 => nm (z6 + (1 : Int32)) (fun x63 => some (Sum.inl (x63, I62)))))))
set_option maxHeartbeats 4000000 in
set_option maxRecDepth 100000 in
theorem l_X11_game_188 {g : Gp} {p : Program} {l : Launch} {e : Env} {s : State} {m : MethodId} {args : Array Value} {below : List Frame} {meth : Method} {c : Code} {Q : State → Prop}  (C : Cx g p s m args c RX11 cX11_game 12) (v5 : Int32)  (L : ML) : ∀ (n : Nat) (z6 : Int32) (I : MI) (Iy0 : MI), lp (fun s => b_X11_game_188 v5 L s.1 s.2) n (z6, I) = some Iy0 → ∀ (H : Heap) (locs : List Loc) (ls : Array Slot), Ws g s I L H locs → lv_has ls 12 [(0, .ref (g.1 + 244)), (5, .int v5), (6, .int z6)] → (∀ (H : Heap) (locs : List Loc) (ls : Array Slot), Ws g s Iy0 L H locs → lv_has ls 12 [(0, .ref (g.1 + 244)), (5, .int v5)] → W p l e (rmD 4) s m args below meth c H locs 0 0 Q (F0 m 300 ls [])) → W p l e (rmD 4) s m args below meth c H locs 0 0 Q (F0 m 188 ls []) := by
  intro n
  induction n with
  | zero => intro z6 I Iy0 h; exact lp_zero h
  | succ n ih =>
      intro z6 I Iy0 h H locs ls hW hl hx0
      obtain ⟨r9, h, h9⟩ := lp_some h
      have h : b_X11_game_188 v5 L z6 I = some r9 := h
      unfold b_X11_game_188 at h
      refine lv_iload C.1.1 C.1.2.1 dX11_game_188 (lv_at hl 2 rfl) ?_
      refine lv_iload C.1.1 C.1.2.1 dX11_game_190 (lv_at hl 1 rfl) ?_
      refine lv_icmp_ge (tgt := 300) C.1.1 C.1.2.1 dX11_game_192 (by decide) (fun hc42 => ?_) (fun hc42 => ?_)
      · replace h := ite_t hc42 h
        obtain rfl := Option.some.inj h
        replace h9 := Option.some.inj h9
        obtain rfl := pnj1 h9
        exact hx0 _ _ _ hW (lv_sub hl [0, 1] rfl)
      · replace h := ite_f hc42 h
        refine lv_ldc C.1.1 C.1.2.1 C.1.2.2.2.1 (C.1.2.2.2.2 _ kc_X11_201) dX11_game_195 ?_
        refine lv_istore (lv' := [(7, .int (-1000000 : Int32)), (0, .ref (g.1 + 244)), (5, .int v5), (6, .int z6)]) C.1.1 C.1.2.1 dX11_game_197 hl (by decide) rfl (fun ls hl => ?_)
        refine lv_iconst (v := 0) C.1.1 C.1.2.1 dX11_game_199 (by decide) ?_
        refine lv_istore (lv' := [(8, .int (0 : Int32)), (7, .int (-1000000 : Int32)), (0, .ref (g.1 + 244)), (5, .int v5), (6, .int z6)]) C.1.1 C.1.2.1 dX11_game_200 hl (by decide) rfl (fun ls hl => ?_)
        obtain ⟨y60, hq59, h⟩ := bd1_some h
        refine l_X11_game_202 C v5 z6  I L _ _ _ _ hq59 _ _ _ hW (lv_sub hl [2, 3, 4, 1, 0] rfl) (fun H locs ls hW hl => ?_)
        refine lv_aload_n C.1.1 C.1.2.1 dX11_game_285 rfl (lv_at hl 0 rfl) ?_
        refine G_X11_33 C hW (by decide) dX11_game_286 ?_
        refine lv_iload C.1.1 C.1.2.1 dX11_game_289 (lv_at hl 2 rfl) ?_
        refine lv_iload C.1.1 C.1.2.1 dX11_game_291 (lv_at hl 3 rfl) ?_
        obtain ⟨hi61, h⟩ := gi_some h
        refine w_iast C hW (n := 729) (by decide) (by decide) hi61 dX11_game_293 (fun H locs hW => ?_)
        obtain ⟨I62, eI62, h⟩ := nm_some h
        rw [← eI62] at hW
        clear eI62
        obtain ⟨x63, ex63⟩ : ∃ y : Int32, y = z6 + (1 : Int32) := ⟨_, rfl⟩
        replace h := nm_at ex63 h
        refine lv_iinc (v := x63) (lv' := [(6, .int x63), (0, .ref (g.1 + 244)), (5, .int v5), (7, .int y60)]) C.1.1 C.1.2.1 dX11_game_294 hl (k := 2) rfl (by rw [ex63]; rfl) (by decide) rfl (fun ls hl => ?_)
        clear ex63
        refine lv_goto (tgt := 188) C.1.1 C.1.2.1 dX11_game_297 (by decide) ?_
        obtain rfl := Option.some.inj h
        exact ih _ _ _ h9 _ _ _ hW (lv_sub hl [1, 2, 0] rfl) hx0
def b_X11_game_180  (L : ML) (z5 : Int32) (I : MI) : Option ((Int32 × MI) ⊕ ((MI))) :=
  (if z5 ≤ 0 then some (Sum.inr I) else bd1 (lp (fun s => b_X11_game_188 z5 L s.1 s.2) FU (((0 : Int32), I))) (fun I65 => nm (z5 / (9 : Int32)) (fun x66 => some (Sum.inl (x66, I65)))))
set_option maxHeartbeats 4000000 in
set_option maxRecDepth 100000 in
theorem l_X11_game_180 {g : Gp} {p : Program} {l : Launch} {e : Env} {s : State} {m : MethodId} {args : Array Value} {below : List Frame} {meth : Method} {c : Code} {Q : State → Prop}  (C : Cx g p s m args c RX11 cX11_game 12)   (L : ML) : ∀ (n : Nat) (z5 : Int32) (I : MI) (Iy0 : MI), lp (fun s => b_X11_game_180  L s.1 s.2) n (z5, I) = some Iy0 → ∀ (H : Heap) (locs : List Loc) (ls : Array Slot), Ws g s I L H locs → lv_has ls 12 [(0, .ref (g.1 + 244)), (5, .int z5)] → (∀ (H : Heap) (locs : List Loc) (ls : Array Slot), Ws g s Iy0 L H locs → lv_has ls 12 [(0, .ref (g.1 + 244))] → W p l e (rmD 4) s m args below meth c H locs 0 0 Q (F0 m 310 ls [])) → W p l e (rmD 4) s m args below meth c H locs 0 0 Q (F0 m 180 ls []) := by
  intro n
  induction n with
  | zero => intro z5 I Iy0 h; exact lp_zero h
  | succ n ih =>
      intro z5 I Iy0 h H locs ls hW hl hx0
      obtain ⟨r9, h, h9⟩ := lp_some h
      have h : b_X11_game_180  L z5 I = some r9 := h
      unfold b_X11_game_180 at h
      refine lv_iload C.1.1 C.1.2.1 dX11_game_180 (lv_at hl 1 rfl) ?_
      refine lv_if_le (tgt := 310) C.1.1 C.1.2.1 dX11_game_182 (by decide) (fun hc41 => ?_) (fun hc41 => ?_)
      · replace h := ite_t hc41 h
        obtain rfl := Option.some.inj h
        replace h9 := Option.some.inj h9
        obtain rfl := pnj1 h9
        exact hx0 _ _ _ hW (lv_sub hl [0] rfl)
      · replace h := ite_f hc41 h
        refine lv_iconst (v := 0) C.1.1 C.1.2.1 dX11_game_185 (by decide) ?_
        refine lv_istore (lv' := [(6, .int (0 : Int32)), (0, .ref (g.1 + 244)), (5, .int z5)]) C.1.1 C.1.2.1 dX11_game_186 hl (by decide) rfl (fun ls hl => ?_)
        obtain ⟨I65, hq64, h⟩ := bd1_some h
        refine l_X11_game_188 C z5  L _ _ _ _ hq64 _ _ _ hW (lv_sub hl [1, 2, 0] rfl) (fun H locs ls hW hl => ?_)
        refine lv_iload C.1.1 C.1.2.1 dX11_game_300 (lv_at hl 1 rfl) ?_
        refine lv_bipush (v := 9) C.1.1 C.1.2.1 dX11_game_302 (by decide) ?_
        refine lv_idiv C.1.1 C.1.2.1 dX11_game_304 (by decide) ?_
        refine lv_topi (fun x66 ex66 => ?_)
        replace h := nm_at ex66 h
        clear ex66
        refine lv_istore (lv' := [(5, .int x66), (0, .ref (g.1 + 244))]) C.1.1 C.1.2.1 dX11_game_305 hl (by decide) rfl (fun ls hl => ?_)
        refine lv_goto (tgt := 180) C.1.1 C.1.2.1 dX11_game_307 (by decide) ?_
        obtain rfl := Option.some.inj h
        exact ih _ _ _ h9 _ _ _ hW (lv_sub hl [1, 0] rfl) hx0
def f_X11_game (a1 : Int32) (a2 : Int32) (a3 : Int32) (I : MI) (L : ML) : Option (Int32 × MI) :=
  bd1 (f_X11_areTwo a1 a2 I L) (fun r1 => (if r1 = 0 then some (((-1 : Int32), I)) else bd1 (f_X11_in a3.toInt64 (0 : Int64) (3 : Int64)) (fun r4 => (if r4 = 0 then some (((-1 : Int32), I)) else bd1 (f_X11_isDown (0 : Int32) a1 I L) (fun r7 => (if r7 = 0 then bd1 (f_X11_isDown (0 : Int32) a2 I L) (fun r10 => (if r10 = 0 then bd1 ((if a3 = 0 then some (1 : Int32) else (if a3 = (1 : Int32) then some (9 : Int32) else (if a3 = (2 : Int32) then some (81 : Int32) else some (729 : Int32))))) (fun y13 => bd1 (lp (fun s => b_X11_game_80 a1 a2 y13 L s.1 s.2) FU (((0 : Int32), I))) (fun I39 => nm (y13 / (9 : Int32)) (fun x40 => bd1 (lp (fun s => b_X11_game_180  L s.1 s.2) FU (x40, I39)) (fun I68 => gi (0 : Int32) 729 (some (((I68 252 (0 : Int32).toNatClampNeg) + (2000 : Int32), I68))))))) else some (((-2 : Int32), I)))) else some (((-2 : Int32), I))))))))
set_option maxHeartbeats 4000000 in
set_option maxRecDepth 100000 in
theorem c_X11_game (g : Gp) (l : Launch) {a1 : Int32} {a2 : Int32} {a3 : Int32}  {I : MI} {L : ML} {r : Int32} {I' : MI} (h : f_X11_game a1 a2 a3 I L = some (r, I')) : MetI g l yX11_game cX11_game 12 .int 4 [.ref (g.1 + 244), .int a1, .int a2, .int a3] I L r I' L := by
  unfold f_X11_game at h
  refine w_enter (by decide) (Nat.le_of_ble_eq_true rfl) (own := RX11) rfl ?_
  intro p e s m below meth c args Q hQ C hr hlocks hW ls hl
  have hl : lv_has ls 12 [(0, .ref (g.1 + 244)), (1, .int a1), (2, .int a2), (3, .int a3)] := hl
  refine lv_aload_n C.1.1 C.1.2.1 dX11_game_0 rfl (lv_at hl 0 rfl) ?_
  refine lv_iload_n C.1.1 C.1.2.1 dX11_game_1 rfl (lv_at hl 1 rfl) ?_
  refine lv_iload_n C.1.1 C.1.2.1 dX11_game_2 rfl (lv_at hl 2 rfl) ?_
  obtain ⟨r1, hc2, h⟩ := bd1_some h
  refine w_callVi (k := 2) (As := [.int a1, .int a2]) (rest := []) C hW (c_X11_areTwo g l  hc2) (by decide) rfl (EX_11 (by decide)) K_X11_153 (by decide +kernel) ⟨by decide, by decide⟩ ⟨Nat.le_refl _, Nat.le_refl _⟩ rfl hl.1 rfl (Nat.le_of_ble_eq_true rfl) dX11_game_3 (fun H locs hW => ?_)
  refine lv_if_eq (tgt := 21) C.1.1 C.1.2.1 dX11_game_6 (by decide) (fun hc3 => ?_) (fun hc3 => ?_)
  · replace h := ite_t hc3 h
    refine lv_iconst (v := -1) C.1.1 C.1.2.1 dX11_game_21 (by decide) ?_
    obtain ⟨rfl, rfl⟩ := inj2 h
    subst hQ
    exact w_iret C hW hr hlocks dX11_game_22
  · replace h := ite_f hc3 h
    refine lv_iload_n C.1.1 C.1.2.1 dX11_game_9 rfl (lv_at hl 3 rfl) ?_
    refine lv_i2l C.1.1 C.1.2.1 dX11_game_10 rfl ?_
    refine lv_lconst (v := 0) C.1.1 C.1.2.1 dX11_game_11 (by decide) ?_
    refine lv_ldc2 C.1.1 C.1.2.1 C.1.2.2.2.1 (C.1.2.2.2.2 _ kl_X11_169) dX11_game_12 ?_
    obtain ⟨r4, hc5, h⟩ := bd1_some h
    refine w_callSi (k := 3) (As := [.long a3.toInt64, .long (0 : Int64), .long (3 : Int64)]) (rest := []) C hW (c_X11_in g l  hc5 I L) K_X11_42 (by decide +kernel) ⟨by decide, by decide⟩ ⟨Nat.le_refl _, Nat.le_refl _⟩ rfl hl.1 rfl (Nat.le_of_ble_eq_true rfl) dX11_game_15 (fun H locs hW => ?_)
    refine lv_if_ne (tgt := 23) C.1.1 C.1.2.1 dX11_game_18 (by decide) (fun hc6 => ?_) (fun hc6 => ?_)
    · replace h := ite_f hc6 h
      refine lv_aload_n C.1.1 C.1.2.1 dX11_game_23 rfl (lv_at hl 0 rfl) ?_
      refine lv_iconst (v := 0) C.1.1 C.1.2.1 dX11_game_24 (by decide) ?_
      refine lv_iload_n C.1.1 C.1.2.1 dX11_game_25 rfl (lv_at hl 1 rfl) ?_
      obtain ⟨r7, hc8, h⟩ := bd1_some h
      refine w_callVi (k := 2) (As := [.int (0 : Int32), .int a1]) (rest := []) C hW (c_X11_isDown g l  hc8) (by decide) rfl (EX_11 (by decide)) K_X11_100 (by decide +kernel) ⟨by decide, by decide⟩ ⟨Nat.le_refl _, Nat.le_refl _⟩ rfl hl.1 rfl (Nat.le_of_ble_eq_true rfl) dX11_game_26 (fun H locs hW => ?_)
      refine lv_if_ne (tgt := 41) C.1.1 C.1.2.1 dX11_game_29 (by decide) (fun hc9 => ?_) (fun hc9 => ?_)
      · replace h := ite_f hc9 h
        refine lv_bipush (v := -2) C.1.1 C.1.2.1 dX11_game_41 (by decide) ?_
        obtain ⟨rfl, rfl⟩ := inj2 h
        subst hQ
        exact w_iret C hW hr hlocks dX11_game_43
      · replace h := ite_t hc9 h
        refine lv_aload_n C.1.1 C.1.2.1 dX11_game_32 rfl (lv_at hl 0 rfl) ?_
        refine lv_iconst (v := 0) C.1.1 C.1.2.1 dX11_game_33 (by decide) ?_
        refine lv_iload_n C.1.1 C.1.2.1 dX11_game_34 rfl (lv_at hl 2 rfl) ?_
        obtain ⟨r10, hc11, h⟩ := bd1_some h
        refine w_callVi (k := 2) (As := [.int (0 : Int32), .int a2]) (rest := []) C hW (c_X11_isDown g l  hc11) (by decide) rfl (EX_11 (by decide)) K_X11_100 (by decide +kernel) ⟨by decide, by decide⟩ ⟨Nat.le_refl _, Nat.le_refl _⟩ rfl hl.1 rfl (Nat.le_of_ble_eq_true rfl) dX11_game_35 (fun H locs hW => ?_)
        refine lv_if_eq (tgt := 44) C.1.1 C.1.2.1 dX11_game_38 (by decide) (fun hc12 => ?_) (fun hc12 => ?_)
        · replace h := ite_t hc12 h
          refine lv_iload_n C.1.1 C.1.2.1 dX11_game_44 rfl (lv_at hl 3 rfl) ?_
          obtain ⟨y13, hj15, h⟩ := bd1_some h
          have kJ14 : ∀ (H : Heap) (locs : List Loc) (ls : Array Slot), Ws g s I L H locs → lv_has ls 12 [(0, .ref (g.1 + 244)), (1, .int a1), (2, .int a2)] → W p l e (rmD 4) s m args below meth c H locs 0 0 Q (F0 m 75 ls [.int y13]) := by
            intro H locs ls hW hl
            refine lv_istore (lv' := [(4, .int y13), (0, .ref (g.1 + 244)), (1, .int a1), (2, .int a2)]) C.1.1 C.1.2.1 dX11_game_75 hl (by decide) rfl (fun ls hl => ?_)
            refine lv_iconst (v := 0) C.1.1 C.1.2.1 dX11_game_77 (by decide) ?_
            refine lv_istore (lv' := [(5, .int (0 : Int32)), (4, .int y13), (0, .ref (g.1 + 244)), (1, .int a1), (2, .int a2)]) C.1.1 C.1.2.1 dX11_game_78 hl (by decide) rfl (fun ls hl => ?_)
            obtain ⟨I39, hq38, h⟩ := bd1_some h
            refine l_X11_game_80 C a1 a2 y13  L _ _ _ _ hq38 _ _ _ hW (lv_sub hl [2, 3, 4, 1, 0] rfl) (fun H locs ls hW hl => ?_)
            refine lv_iload C.1.1 C.1.2.1 dX11_game_173 (lv_at hl 1 rfl) ?_
            refine lv_bipush (v := 9) C.1.1 C.1.2.1 dX11_game_175 (by decide) ?_
            refine lv_idiv C.1.1 C.1.2.1 dX11_game_177 (by decide) ?_
            refine lv_topi (fun x40 ex40 => ?_)
            replace h := nm_at ex40 h
            clear ex40
            refine lv_istore (lv' := [(5, .int x40), (0, .ref (g.1 + 244)), (4, .int y13)]) C.1.1 C.1.2.1 dX11_game_178 hl (by decide) rfl (fun ls hl => ?_)
            obtain ⟨I68, hq67, h⟩ := bd1_some h
            refine l_X11_game_180 C   L _ _ _ _ hq67 _ _ _ hW (lv_sub hl [1, 0] rfl) (fun H locs ls hW hl => ?_)
            refine lv_aload_n C.1.1 C.1.2.1 dX11_game_310 rfl (lv_at hl 0 rfl) ?_
            refine G_X11_33 C hW (by decide) dX11_game_311 ?_
            refine lv_iconst (v := 0) C.1.1 C.1.2.1 dX11_game_314 (by decide) ?_
            obtain ⟨hi69, h⟩ := gi_some h
            refine w_iald C hW (n := 729) (by decide) (by decide) hi69 dX11_game_315 ?_
            refine lv_sipush (v := 2000) C.1.1 C.1.2.1 dX11_game_316 (by decide) ?_
            refine lv_iadd C.1.1 C.1.2.1 dX11_game_319 ?_
            obtain ⟨rfl, rfl⟩ := inj2 h
            subst hQ
            exact w_iret C hW hr hlocks dX11_game_320
          clear h
          have h := hj15
          clear hj15
          refine lv_if_ne (tgt := 52) C.1.1 C.1.2.1 dX11_game_45 (by decide) (fun hc70 => ?_) (fun hc70 => ?_)
          · replace h := ite_f hc70 h
            refine lv_iload_n C.1.1 C.1.2.1 dX11_game_52 rfl (lv_at hl 3 rfl) ?_
            refine lv_iconst (v := 1) C.1.1 C.1.2.1 dX11_game_53 (by decide) ?_
            refine lv_icmp_ne (tgt := 62) C.1.1 C.1.2.1 dX11_game_54 (by decide) (fun hc71 => ?_) (fun hc71 => ?_)
            · replace h := ite_f hc71 h
              refine lv_iload_n C.1.1 C.1.2.1 dX11_game_62 rfl (lv_at hl 3 rfl) ?_
              refine lv_iconst (v := 2) C.1.1 C.1.2.1 dX11_game_63 (by decide) ?_
              refine lv_icmp_ne (tgt := 72) C.1.1 C.1.2.1 dX11_game_64 (by decide) (fun hc72 => ?_) (fun hc72 => ?_)
              · replace h := ite_f hc72 h
                refine lv_sipush (v := 729) C.1.1 C.1.2.1 dX11_game_72 (by decide) ?_
                obtain rfl := inj1 h
                exact kJ14 _ _ _ hW (lv_sub hl [0, 1, 2] rfl)
              · replace h := ite_t hc72 h
                refine lv_bipush (v := 81) C.1.1 C.1.2.1 dX11_game_67 (by decide) ?_
                refine lv_goto (tgt := 75) C.1.1 C.1.2.1 dX11_game_69 (by decide) ?_
                obtain rfl := inj1 h
                exact kJ14 _ _ _ hW (lv_sub hl [0, 1, 2] rfl)
            · replace h := ite_t hc71 h
              refine lv_bipush (v := 9) C.1.1 C.1.2.1 dX11_game_57 (by decide) ?_
              refine lv_goto (tgt := 75) C.1.1 C.1.2.1 dX11_game_59 (by decide) ?_
              obtain rfl := inj1 h
              exact kJ14 _ _ _ hW (lv_sub hl [0, 1, 2] rfl)
          · replace h := ite_t hc70 h
            refine lv_iconst (v := 1) C.1.1 C.1.2.1 dX11_game_48 (by decide) ?_
            refine lv_goto (tgt := 75) C.1.1 C.1.2.1 dX11_game_49 (by decide) ?_
            obtain rfl := inj1 h
            exact kJ14 _ _ _ hW (lv_sub hl [0, 1, 2] rfl)
        · replace h := ite_f hc12 h
          refine lv_bipush (v := -2) C.1.1 C.1.2.1 dX11_game_41 (by decide) ?_
          obtain ⟨rfl, rfl⟩ := inj2 h
          subst hQ
          exact w_iret C hW hr hlocks dX11_game_43
    · replace h := ite_t hc6 h
      refine lv_iconst (v := -1) C.1.1 C.1.2.1 dX11_game_21 (by decide) ?_
      obtain ⟨rfl, rfl⟩ := inj2 h
      subst hQ
      exact w_iret C hW hr hlocks dX11_game_22
def f_X11_isSheet (a1 : Int32) : Option (Int32) :=
  bd1 (f_X11_in a1.toInt64 (0 : Int64) (3 : Int64)) (fun r1 => gd (r1 = 0 ∨ r1 = 1) (some r1))
set_option maxHeartbeats 4000000 in
set_option maxRecDepth 100000 in
theorem c_X11_isSheet (g : Gp) (l : Launch) {a1 : Int32}  {r : Int32} (h : f_X11_isSheet a1 = some r) (I : MI) (L : ML) : MetI g l yX11_isSheet cX11_isSheet 1 .boolean 1 [.int a1] I L r I L := by
  unfold f_X11_isSheet at h
  refine w_enter (by decide) (Nat.le_of_ble_eq_true rfl) (own := RX11) rfl ?_
  intro p e s m below meth c args Q hQ C hr hlocks hW ls hl
  have hl : lv_has ls 1 [(0, .int a1)] := hl
  refine lv_iload_n C.1.1 C.1.2.1 dX11_isSheet_0 rfl (lv_at hl 0 rfl) ?_
  refine lv_i2l C.1.1 C.1.2.1 dX11_isSheet_1 rfl ?_
  refine lv_lconst (v := 0) C.1.1 C.1.2.1 dX11_isSheet_2 (by decide) ?_
  refine lv_ldc2 C.1.1 C.1.2.1 C.1.2.2.2.1 (C.1.2.2.2.2 _ kl_X11_169) dX11_isSheet_3 ?_
  obtain ⟨r1, hc2, h⟩ := bd1_some h
  refine w_callSi (k := 3) (As := [.long a1.toInt64, .long (0 : Int64), .long (3 : Int64)]) (rest := []) C hW (c_X11_in g l  hc2 I L) K_X11_42 (by decide +kernel) ⟨by decide, by decide⟩ ⟨Nat.le_refl _, Nat.le_refl _⟩ rfl hl.1 rfl (Nat.le_of_ble_eq_true rfl) dX11_isSheet_6 (fun H locs hW => ?_)
  obtain ⟨hb3, h⟩ := gd_some h
  obtain rfl := inj1 h
  subst hQ
  exact w_zret C hW hr hlocks hb3 dX11_isSheet_9
def b_X11_sheet_51 (v1 : Int32) (v3 : Int32) (I : MI) (z4 : Int32) (L : ML) : Option ((Int32 × ML) ⊕ ((ML))) :=
  (if (24 : Int32) ≤ z4 then some (Sum.inr L) else gi (((24 : Int32) * v1) + z4) 96 (nm (uq2 L 247 ((((24 : Int32) * v1) + z4).toNatClampNeg) (0 : Int64)) (fun L15 => nm (z4 + (1 : Int32)) (fun x16 => some (Sum.inl (x16, L15))))))
set_option maxHeartbeats 4000000 in
set_option maxRecDepth 100000 in
theorem l_X11_sheet_51 {g : Gp} {p : Program} {l : Launch} {e : Env} {s : State} {m : MethodId} {args : Array Value} {below : List Frame} {meth : Method} {c : Code} {Q : State → Prop}  (C : Cx g p s m args c RX11 cX11_sheet 5) (v1 : Int32) (v3 : Int32)  (I : MI) : ∀ (n : Nat) (z4 : Int32) (L : ML) (Ly0 : ML), lp (fun s => b_X11_sheet_51 v1 v3 I s.1 s.2) n (z4, L) = some Ly0 → ∀ (H : Heap) (locs : List Loc) (ls : Array Slot), Ws g s I L H locs → lv_has ls 5 [(0, .ref (g.1 + 244)), (1, .int v1), (3, .int v3), (4, .int z4)] → (∀ (H : Heap) (locs : List Loc) (ls : Array Slot), Ws g s I Ly0 H locs → lv_has ls 5 [(3, .int v3)] → W p l e (rmD 2) s m args below meth c H locs 0 0 Q (F0 m 77 ls [])) → W p l e (rmD 2) s m args below meth c H locs 0 0 Q (F0 m 51 ls []) := by
  intro n
  induction n with
  | zero => intro z4 L Ly0 h; exact lp_zero h
  | succ n ih =>
      intro z4 L Ly0 h H locs ls hW hl hx0
      obtain ⟨r9, h, h9⟩ := lp_some h
      have h : b_X11_sheet_51 v1 v3 I z4 L = some r9 := h
      unfold b_X11_sheet_51 at h
      refine lv_iload C.1.1 C.1.2.1 dX11_sheet_51 (lv_at hl 3 rfl) ?_
      refine lv_bipush (v := 24) C.1.1 C.1.2.1 dX11_sheet_53 (by decide) ?_
      refine lv_icmp_ge (tgt := 77) C.1.1 C.1.2.1 dX11_sheet_55 (by decide) (fun hc13 => ?_) (fun hc13 => ?_)
      · replace h := ite_t hc13 h
        obtain rfl := Option.some.inj h
        replace h9 := Option.some.inj h9
        obtain rfl := pnj1 h9
        exact hx0 _ _ _ hW (lv_sub hl [2] rfl)
      · replace h := ite_f hc13 h
        refine lv_aload_n C.1.1 C.1.2.1 dX11_sheet_58 rfl (lv_at hl 0 rfl) ?_
        refine G_X11_17 C hW (by decide) dX11_sheet_59 ?_
        refine lv_bipush (v := 24) C.1.1 C.1.2.1 dX11_sheet_62 (by decide) ?_
        refine lv_iload_n C.1.1 C.1.2.1 dX11_sheet_64 rfl (lv_at hl 1 rfl) ?_
        refine lv_imul C.1.1 C.1.2.1 dX11_sheet_65 ?_
        refine lv_iload C.1.1 C.1.2.1 dX11_sheet_66 (lv_at hl 3 rfl) ?_
        refine lv_iadd C.1.1 C.1.2.1 dX11_sheet_68 ?_
        refine lv_lconst (v := 0) C.1.1 C.1.2.1 dX11_sheet_69 (by decide) ?_
        obtain ⟨hi14, h⟩ := gi_some h
        refine w_last C hW (n := 96) (by decide) (by decide) hi14 dX11_sheet_70 (fun H locs hW => ?_)
        obtain ⟨L15, eL15, h⟩ := nm_some h
        rw [← eL15] at hW
        clear eL15
        obtain ⟨x16, ex16⟩ : ∃ y : Int32, y = z4 + (1 : Int32) := ⟨_, rfl⟩
        replace h := nm_at ex16 h
        refine lv_iinc (v := x16) (lv' := [(4, .int x16), (0, .ref (g.1 + 244)), (1, .int v1), (3, .int v3)]) C.1.1 C.1.2.1 dX11_sheet_71 hl (k := 3) rfl (by rw [ex16]; rfl) (by decide) rfl (fun ls hl => ?_)
        clear ex16
        refine lv_goto (tgt := 51) C.1.1 C.1.2.1 dX11_sheet_74 (by decide) ?_
        obtain rfl := Option.some.inj h
        exact ih _ _ _ h9 _ _ _ hW (lv_sub hl [1, 2, 3, 0] rfl) hx0
def f_X11_sheet (a1 : Int32) (a2 : Int32) (a3 : Int32) (I : MI) (L : ML) : Option (Int32 × MI × ML) :=
  bd1 (f_X11_isSheet a1) (fun r1 => (if r1 = 0 then some (((-1 : Int32), I, L)) else bd1 (f_X11_in a2.toInt64 (0 : Int64) (3 : Int64)) (fun r4 => (if r4 = 0 then some (((-1 : Int32), I, L)) else (if a3 ≤ (24 : Int32) then (if 0 ≤ a3 then gi a1 4 (nm (up2 I 248 a1.toNatClampNeg a2) (fun I10 => gi a1 4 (nm (up2 I10 249 a1.toNatClampNeg a3) (fun I12 => bd1 (lp (fun s => b_X11_sheet_51 a1 a3 I12 s.1 s.2) FU (((0 : Int32), L))) (fun L18 => some (a3, I12, L18)))))) else some (((-14 : Int32), I, L))) else some (((-1 : Int32), I, L)))))))
set_option maxHeartbeats 4000000 in
set_option maxRecDepth 100000 in
theorem c_X11_sheet (g : Gp) (l : Launch) {a1 : Int32} {a2 : Int32} {a3 : Int32}  {I : MI} {L : ML} {r : Int32} {I' : MI} {L' : ML} (h : f_X11_sheet a1 a2 a3 I L = some (r, I', L')) : MetI g l yX11_sheet cX11_sheet 5 .int 2 [.ref (g.1 + 244), .int a1, .int a2, .int a3] I L r I' L' := by
  unfold f_X11_sheet at h
  refine w_enter (by decide) (Nat.le_of_ble_eq_true rfl) (own := RX11) rfl ?_
  intro p e s m below meth c args Q hQ C hr hlocks hW ls hl
  have hl : lv_has ls 5 [(0, .ref (g.1 + 244)), (1, .int a1), (2, .int a2), (3, .int a3)] := hl
  refine lv_iload_n C.1.1 C.1.2.1 dX11_sheet_0 rfl (lv_at hl 1 rfl) ?_
  obtain ⟨r1, hc2, h⟩ := bd1_some h
  refine w_callSi (k := 1) (As := [.int a1]) (rest := []) C hW (c_X11_isSheet g l  hc2 I L) K_X11_202 (by decide +kernel) ⟨by decide, by decide⟩ ⟨Nat.le_refl _, Nat.le_refl _⟩ rfl hl.1 rfl (Nat.le_of_ble_eq_true rfl) dX11_sheet_1 (fun H locs hW => ?_)
  refine lv_if_eq (tgt := 25) C.1.1 C.1.2.1 dX11_sheet_4 (by decide) (fun hc3 => ?_) (fun hc3 => ?_)
  · replace h := ite_t hc3 h
    refine lv_iconst (v := -1) C.1.1 C.1.2.1 dX11_sheet_25 (by decide) ?_
    obtain ⟨rfl, rfl, rfl⟩ := inj3 h
    subst hQ
    exact w_iret C hW hr hlocks dX11_sheet_26
  · replace h := ite_f hc3 h
    refine lv_iload_n C.1.1 C.1.2.1 dX11_sheet_7 rfl (lv_at hl 2 rfl) ?_
    refine lv_i2l C.1.1 C.1.2.1 dX11_sheet_8 rfl ?_
    refine lv_lconst (v := 0) C.1.1 C.1.2.1 dX11_sheet_9 (by decide) ?_
    refine lv_ldc2 C.1.1 C.1.2.1 C.1.2.2.2.1 (C.1.2.2.2.2 _ kl_X11_169) dX11_sheet_10 ?_
    obtain ⟨r4, hc5, h⟩ := bd1_some h
    refine w_callSi (k := 3) (As := [.long a2.toInt64, .long (0 : Int64), .long (3 : Int64)]) (rest := []) C hW (c_X11_in g l  hc5 I L) K_X11_42 (by decide +kernel) ⟨by decide, by decide⟩ ⟨Nat.le_refl _, Nat.le_refl _⟩ rfl hl.1 rfl (Nat.le_of_ble_eq_true rfl) dX11_sheet_13 (fun H locs hW => ?_)
    refine lv_if_eq (tgt := 25) C.1.1 C.1.2.1 dX11_sheet_16 (by decide) (fun hc6 => ?_) (fun hc6 => ?_)
    · replace h := ite_t hc6 h
      refine lv_iconst (v := -1) C.1.1 C.1.2.1 dX11_sheet_25 (by decide) ?_
      obtain ⟨rfl, rfl, rfl⟩ := inj3 h
      subst hQ
      exact w_iret C hW hr hlocks dX11_sheet_26
    · replace h := ite_f hc6 h
      refine lv_iload_n C.1.1 C.1.2.1 dX11_sheet_19 rfl (lv_at hl 3 rfl) ?_
      refine lv_bipush (v := 24) C.1.1 C.1.2.1 dX11_sheet_20 (by decide) ?_
      refine lv_icmp_le (tgt := 27) C.1.1 C.1.2.1 dX11_sheet_22 (by decide) (fun hc7 => ?_) (fun hc7 => ?_)
      · replace h := ite_t hc7 h
        refine lv_iload_n C.1.1 C.1.2.1 dX11_sheet_27 rfl (lv_at hl 3 rfl) ?_
        refine lv_if_ge (tgt := 34) C.1.1 C.1.2.1 dX11_sheet_28 (by decide) (fun hc8 => ?_) (fun hc8 => ?_)
        · replace h := ite_t hc8 h
          refine lv_aload_n C.1.1 C.1.2.1 dX11_sheet_34 rfl (lv_at hl 0 rfl) ?_
          refine G_X11_21 C hW (by decide) dX11_sheet_35 ?_
          refine lv_iload_n C.1.1 C.1.2.1 dX11_sheet_38 rfl (lv_at hl 1 rfl) ?_
          refine lv_iload_n C.1.1 C.1.2.1 dX11_sheet_39 rfl (lv_at hl 2 rfl) ?_
          obtain ⟨hi9, h⟩ := gi_some h
          refine w_iast C hW (n := 4) (by decide) (by decide) hi9 dX11_sheet_40 (fun H locs hW => ?_)
          obtain ⟨I10, eI10, h⟩ := nm_some h
          rw [← eI10] at hW
          clear eI10
          refine lv_aload_n C.1.1 C.1.2.1 dX11_sheet_41 rfl (lv_at hl 0 rfl) ?_
          refine G_X11_24 C hW (by decide) dX11_sheet_42 ?_
          refine lv_iload_n C.1.1 C.1.2.1 dX11_sheet_45 rfl (lv_at hl 1 rfl) ?_
          refine lv_iload_n C.1.1 C.1.2.1 dX11_sheet_46 rfl (lv_at hl 3 rfl) ?_
          obtain ⟨hi11, h⟩ := gi_some h
          refine w_iast C hW (n := 4) (by decide) (by decide) hi11 dX11_sheet_47 (fun H locs hW => ?_)
          obtain ⟨I12, eI12, h⟩ := nm_some h
          rw [← eI12] at hW
          clear eI12
          refine lv_iconst (v := 0) C.1.1 C.1.2.1 dX11_sheet_48 (by decide) ?_
          refine lv_istore (lv' := [(4, .int (0 : Int32)), (0, .ref (g.1 + 244)), (1, .int a1), (2, .int a2), (3, .int a3)]) C.1.1 C.1.2.1 dX11_sheet_49 hl (by decide) rfl (fun ls hl => ?_)
          obtain ⟨L18, hq17, h⟩ := bd1_some h
          refine l_X11_sheet_51 C a1 a3  I12 _ _ _ _ hq17 _ _ _ hW (lv_sub hl [1, 2, 4, 0] rfl) (fun H locs ls hW hl => ?_)
          refine lv_iload_n C.1.1 C.1.2.1 dX11_sheet_77 rfl (lv_at hl 0 rfl) ?_
          obtain ⟨rfl, rfl, rfl⟩ := inj3 h
          subst hQ
          exact w_iret C hW hr hlocks dX11_sheet_78
        · replace h := ite_f hc8 h
          refine lv_bipush (v := -14) C.1.1 C.1.2.1 dX11_sheet_31 (by decide) ?_
          obtain ⟨rfl, rfl, rfl⟩ := inj3 h
          subst hQ
          exact w_iret C hW hr hlocks dX11_sheet_33
      · replace h := ite_f hc7 h
        refine lv_iconst (v := -1) C.1.1 C.1.2.1 dX11_sheet_25 (by decide) ?_
        obtain ⟨rfl, rfl, rfl⟩ := inj3 h
        subst hQ
        exact w_iret C hW hr hlocks dX11_sheet_26
def f_X11_drop (a1 : Int32) (I : MI) (L : ML) : Option (Int32 × MI) :=
  bd1 (f_X11_isSheet a1) (fun r1 => (if r1 = 0 then some (((-1 : Int32), I)) else gi a1 4 ((if 0 ≤ (I 249 a1.toNatClampNeg) then gi a1 4 (nm (I 249 a1.toNatClampNeg) (fun x7 => gi a1 4 (nm (up2 I 249 a1.toNatClampNeg (-1 : Int32)) (fun I9 => some (x7, I9))))) else some (((-11 : Int32), I))))))
set_option maxHeartbeats 4000000 in
set_option maxRecDepth 100000 in
theorem c_X11_drop (g : Gp) (l : Launch) {a1 : Int32}  {I : MI} {L : ML} {r : Int32} {I' : MI} (h : f_X11_drop a1 I L = some (r, I')) : MetI g l yX11_drop cX11_drop 3 .int 2 [.ref (g.1 + 244), .int a1] I L r I' L := by
  unfold f_X11_drop at h
  refine w_enter (by decide) (Nat.le_of_ble_eq_true rfl) (own := RX11) rfl ?_
  intro p e s m below meth c args Q hQ C hr hlocks hW ls hl
  have hl : lv_has ls 3 [(0, .ref (g.1 + 244)), (1, .int a1)] := hl
  refine lv_iload_n C.1.1 C.1.2.1 dX11_drop_0 rfl (lv_at hl 1 rfl) ?_
  obtain ⟨r1, hc2, h⟩ := bd1_some h
  refine w_callSi (k := 1) (As := [.int a1]) (rest := []) C hW (c_X11_isSheet g l  hc2 I L) K_X11_202 (by decide +kernel) ⟨by decide, by decide⟩ ⟨Nat.le_refl _, Nat.le_refl _⟩ rfl hl.1 rfl (Nat.le_of_ble_eq_true rfl) dX11_drop_1 (fun H locs hW => ?_)
  refine lv_if_ne (tgt := 9) C.1.1 C.1.2.1 dX11_drop_4 (by decide) (fun hc3 => ?_) (fun hc3 => ?_)
  · replace h := ite_f hc3 h
    refine lv_aload_n C.1.1 C.1.2.1 dX11_drop_9 rfl (lv_at hl 0 rfl) ?_
    refine G_X11_24 C hW (by decide) dX11_drop_10 ?_
    refine lv_iload_n C.1.1 C.1.2.1 dX11_drop_13 rfl (lv_at hl 1 rfl) ?_
    obtain ⟨hi4, h⟩ := gi_some h
    refine w_iald C hW (n := 4) (by decide) (by decide) hi4 dX11_drop_14 ?_
    refine lv_if_ge (tgt := 21) C.1.1 C.1.2.1 dX11_drop_15 (by decide) (fun hc5 => ?_) (fun hc5 => ?_)
    · replace h := ite_t hc5 h
      refine lv_aload_n C.1.1 C.1.2.1 dX11_drop_21 rfl (lv_at hl 0 rfl) ?_
      refine G_X11_24 C hW (by decide) dX11_drop_22 ?_
      refine lv_iload_n C.1.1 C.1.2.1 dX11_drop_25 rfl (lv_at hl 1 rfl) ?_
      obtain ⟨hi6, h⟩ := gi_some h
      refine w_iald C hW (n := 4) (by decide) (by decide) hi6 dX11_drop_26 ?_
      refine lv_topi (fun x7 ex7 => ?_)
      replace h := nm_at ex7 h
      clear ex7
      refine lv_istore_n (lv' := [(2, .int x7), (0, .ref (g.1 + 244)), (1, .int a1)]) C.1.1 C.1.2.1 dX11_drop_27 rfl hl (by decide) rfl (fun ls hl => ?_)
      refine lv_aload_n C.1.1 C.1.2.1 dX11_drop_28 rfl (lv_at hl 1 rfl) ?_
      refine G_X11_24 C hW (by decide) dX11_drop_29 ?_
      refine lv_iload_n C.1.1 C.1.2.1 dX11_drop_32 rfl (lv_at hl 2 rfl) ?_
      refine lv_iconst (v := -1) C.1.1 C.1.2.1 dX11_drop_33 (by decide) ?_
      obtain ⟨hi8, h⟩ := gi_some h
      refine w_iast C hW (n := 4) (by decide) (by decide) hi8 dX11_drop_34 (fun H locs hW => ?_)
      obtain ⟨I9, eI9, h⟩ := nm_some h
      rw [← eI9] at hW
      clear eI9
      refine lv_iload_n C.1.1 C.1.2.1 dX11_drop_35 rfl (lv_at hl 0 rfl) ?_
      obtain ⟨rfl, rfl⟩ := inj2 h
      subst hQ
      exact w_iret C hW hr hlocks dX11_drop_36
    · replace h := ite_f hc5 h
      refine lv_bipush (v := -11) C.1.1 C.1.2.1 dX11_drop_18 (by decide) ?_
      obtain ⟨rfl, rfl⟩ := inj2 h
      subst hQ
      exact w_iret C hW hr hlocks dX11_drop_20
  · replace h := ite_t hc3 h
    refine lv_iconst (v := -1) C.1.1 C.1.2.1 dX11_drop_7 (by decide) ?_
    obtain ⟨rfl, rfl⟩ := inj2 h
    subst hQ
    exact w_iret C hW hr hlocks dX11_drop_8
def f_X11_against (a1 : Int32) (a2 : Int32) (a3 : Int32) (a4 : Int32) (I : MI) (L : ML) : Option (Int32) :=
  gi a1 4 ((if 0 ≤ (I 249 a1.toNatClampNeg) then gi a1 4 ((if (I 248 a1.toNatClampNeg) = a2 then bd1 ((if a3 < 0 then some (-13 : Int32) else (if a4 < 0 then some (-13 : Int32) else gi a1 4 ((if (lg_cmp (a3.toInt64 + a4.toInt64) ((I 249 a1.toNatClampNeg).toInt64)) ≤ 0 then some (0 : Int32) else some (-13 : Int32)))))) (fun y5 => some y5) else some (-12 : Int32))) else some (-11 : Int32)))
set_option maxHeartbeats 4000000 in
set_option maxRecDepth 100000 in
theorem c_X11_against (g : Gp) (l : Launch) {a1 : Int32} {a2 : Int32} {a3 : Int32} {a4 : Int32}  {I : MI} {L : ML} {r : Int32} (h : f_X11_against a1 a2 a3 a4 I L = some r) : MetI g l yX11_against cX11_against 5 .int 0 [.ref (g.1 + 244), .int a1, .int a2, .int a3, .int a4] I L r I L := by
  unfold f_X11_against at h
  refine w_enter (by decide) (Nat.le_of_ble_eq_true rfl) (own := RX11) rfl ?_
  intro p e s m below meth c args Q hQ C hr hlocks hW ls hl
  have hl : lv_has ls 5 [(0, .ref (g.1 + 244)), (1, .int a1), (2, .int a2), (3, .int a3), (4, .int a4)] := hl
  refine lv_aload_n C.1.1 C.1.2.1 dX11_against_0 rfl (lv_at hl 0 rfl) ?_
  refine G_X11_24 C hW (by decide) dX11_against_1 ?_
  refine lv_iload_n C.1.1 C.1.2.1 dX11_against_4 rfl (lv_at hl 1 rfl) ?_
  obtain ⟨hi1, h⟩ := gi_some h
  refine w_iald C hW (n := 4) (by decide) (by decide) hi1 dX11_against_5 ?_
  refine lv_if_ge (tgt := 12) C.1.1 C.1.2.1 dX11_against_6 (by decide) (fun hc2 => ?_) (fun hc2 => ?_)
  · replace h := ite_t hc2 h
    refine lv_aload_n C.1.1 C.1.2.1 dX11_against_12 rfl (lv_at hl 0 rfl) ?_
    refine G_X11_21 C hW (by decide) dX11_against_13 ?_
    refine lv_iload_n C.1.1 C.1.2.1 dX11_against_16 rfl (lv_at hl 1 rfl) ?_
    obtain ⟨hi3, h⟩ := gi_some h
    refine w_iald C hW (n := 4) (by decide) (by decide) hi3 dX11_against_17 ?_
    refine lv_iload_n C.1.1 C.1.2.1 dX11_against_18 rfl (lv_at hl 2 rfl) ?_
    refine lv_icmp_eq (tgt := 25) C.1.1 C.1.2.1 dX11_against_19 (by decide) (fun hc4 => ?_) (fun hc4 => ?_)
    · replace h := ite_t hc4 h
      refine lv_iload_n C.1.1 C.1.2.1 dX11_against_25 rfl (lv_at hl 3 rfl) ?_
      obtain ⟨y5, hj7, h⟩ := bd1_some h
      have kJ6 : ∀ (H : Heap) (locs : List Loc) (ls : Array Slot), Ws g s I L H locs → lv_has ls 5 [] → W p l e (rmD 0) s m args below meth c H locs 0 0 Q (F0 m 57 ls [.int y5]) := by
        intro H locs ls hW hl
        obtain rfl := inj1 h
        subst hQ
        exact w_iret C hW hr hlocks dX11_against_57
      clear h
      have h := hj7
      clear hj7
      refine lv_if_lt (tgt := 51) C.1.1 C.1.2.1 dX11_against_26 (by decide) (fun hc8 => ?_) (fun hc8 => ?_)
      · replace h := ite_t hc8 h
        refine lv_bipush (v := -13) C.1.1 C.1.2.1 dX11_against_51 (by decide) ?_
        refine lv_goto (tgt := 57) C.1.1 C.1.2.1 dX11_against_53 (by decide) ?_
        obtain rfl := inj1 h
        exact kJ6 _ _ _ hW (lv_sub hl [] rfl)
      · replace h := ite_f hc8 h
        refine lv_iload C.1.1 C.1.2.1 dX11_against_29 (lv_at hl 4 rfl) ?_
        refine lv_if_lt (tgt := 51) C.1.1 C.1.2.1 dX11_against_31 (by decide) (fun hc9 => ?_) (fun hc9 => ?_)
        · replace h := ite_t hc9 h
          refine lv_bipush (v := -13) C.1.1 C.1.2.1 dX11_against_51 (by decide) ?_
          refine lv_goto (tgt := 57) C.1.1 C.1.2.1 dX11_against_53 (by decide) ?_
          obtain rfl := inj1 h
          exact kJ6 _ _ _ hW (lv_sub hl [] rfl)
        · replace h := ite_f hc9 h
          refine lv_iload_n C.1.1 C.1.2.1 dX11_against_34 rfl (lv_at hl 3 rfl) ?_
          refine lv_i2l C.1.1 C.1.2.1 dX11_against_35 rfl ?_
          refine lv_iload C.1.1 C.1.2.1 dX11_against_36 (lv_at hl 4 rfl) ?_
          refine lv_i2l C.1.1 C.1.2.1 dX11_against_38 rfl ?_
          refine lv_ladd C.1.1 C.1.2.1 dX11_against_39 ?_
          refine lv_aload_n C.1.1 C.1.2.1 dX11_against_40 rfl (lv_at hl 0 rfl) ?_
          refine G_X11_24 C hW (by decide) dX11_against_41 ?_
          refine lv_iload_n C.1.1 C.1.2.1 dX11_against_44 rfl (lv_at hl 1 rfl) ?_
          obtain ⟨hi10, h⟩ := gi_some h
          refine w_iald C hW (n := 4) (by decide) (by decide) hi10 dX11_against_45 ?_
          refine lv_i2l C.1.1 C.1.2.1 dX11_against_46 rfl ?_
          refine W.lcmp C.1.1 C.1.2.1 dX11_against_47 ?_
          refine lv_if_le (tgt := 56) C.1.1 C.1.2.1 dX11_against_48 (by decide) (fun hc11 => ?_) (fun hc11 => ?_)
          · replace h := ite_t hc11 h
            refine lv_iconst (v := 0) C.1.1 C.1.2.1 dX11_against_56 (by decide) ?_
            obtain rfl := inj1 h
            exact kJ6 _ _ _ hW (lv_sub hl [] rfl)
          · replace h := ite_f hc11 h
            refine lv_bipush (v := -13) C.1.1 C.1.2.1 dX11_against_51 (by decide) ?_
            refine lv_goto (tgt := 57) C.1.1 C.1.2.1 dX11_against_53 (by decide) ?_
            obtain rfl := inj1 h
            exact kJ6 _ _ _ hW (lv_sub hl [] rfl)
    · replace h := ite_f hc4 h
      refine lv_bipush (v := -12) C.1.1 C.1.2.1 dX11_against_22 (by decide) ?_
      obtain rfl := inj1 h
      subst hQ
      exact w_iret C hW hr hlocks dX11_against_24
  · replace h := ite_f hc2 h
    refine lv_bipush (v := -11) C.1.1 C.1.2.1 dX11_against_9 (by decide) ?_
    obtain rfl := inj1 h
    subst hQ
    exact w_iret C hW hr hlocks dX11_against_11
def f_X11_isLane (a1 : Int32) (a2 : Int32) : Option (Int32) :=
  bd1 (f_X11_isSheet a1) (fun r1 => bd1 ((if r1 = 0 then some (0 : Int32) else bd1 (f_X11_in a2.toInt64 (0 : Int64) (3 : Int64)) (fun r8 => (if r8 = 0 then some (0 : Int32) else some (1 : Int32))))) (fun y3 => gd (y3 = 0 ∨ y3 = 1) (some y3)))
set_option maxHeartbeats 4000000 in
set_option maxRecDepth 100000 in
theorem c_X11_isLane (g : Gp) (l : Launch) {a1 : Int32} {a2 : Int32}  {r : Int32} (h : f_X11_isLane a1 a2 = some r) (I : MI) (L : ML) : MetI g l yX11_isLane cX11_isLane 2 .boolean 2 [.int a1, .int a2] I L r I L := by
  unfold f_X11_isLane at h
  refine w_enter (by decide) (Nat.le_of_ble_eq_true rfl) (own := RX11) rfl ?_
  intro p e s m below meth c args Q hQ C hr hlocks hW ls hl
  have hl : lv_has ls 2 [(0, .int a1), (1, .int a2)] := hl
  refine lv_iload_n C.1.1 C.1.2.1 dX11_isLane_0 rfl (lv_at hl 0 rfl) ?_
  obtain ⟨r1, hc2, h⟩ := bd1_some h
  refine w_callSi (k := 1) (As := [.int a1]) (rest := []) C hW (c_X11_isSheet g l  hc2 I L) K_X11_202 (by decide +kernel) ⟨by decide, by decide⟩ ⟨Nat.le_refl _, Nat.le_refl _⟩ rfl hl.1 rfl (Nat.le_of_ble_eq_true rfl) dX11_isLane_1 (fun H locs hW => ?_)
  obtain ⟨y3, hj5, h⟩ := bd1_some h
  have kJ4 : ∀ (H : Heap) (locs : List Loc) (ls : Array Slot), Ws g s I L H locs → lv_has ls 2 [] → W p l e (rmD 2) s m args below meth c H locs 0 0 Q (F0 m 24 ls [.int y3]) := by
    intro H locs ls hW hl
    obtain ⟨hb6, h⟩ := gd_some h
    obtain rfl := inj1 h
    subst hQ
    exact w_zret C hW hr hlocks hb6 dX11_isLane_24
  clear h
  have h := hj5
  clear hj5
  refine lv_if_eq (tgt := 23) C.1.1 C.1.2.1 dX11_isLane_4 (by decide) (fun hc7 => ?_) (fun hc7 => ?_)
  · replace h := ite_t hc7 h
    refine lv_iconst (v := 0) C.1.1 C.1.2.1 dX11_isLane_23 (by decide) ?_
    obtain rfl := inj1 h
    exact kJ4 _ _ _ hW (lv_sub hl [] rfl)
  · replace h := ite_f hc7 h
    refine lv_iload_n C.1.1 C.1.2.1 dX11_isLane_7 rfl (lv_at hl 1 rfl) ?_
    refine lv_i2l C.1.1 C.1.2.1 dX11_isLane_8 rfl ?_
    refine lv_lconst (v := 0) C.1.1 C.1.2.1 dX11_isLane_9 (by decide) ?_
    refine lv_ldc2 C.1.1 C.1.2.1 C.1.2.2.2.1 (C.1.2.2.2.2 _ kl_X11_169) dX11_isLane_10 ?_
    obtain ⟨r8, hc9, h⟩ := bd1_some h
    refine w_callSi (k := 3) (As := [.long a2.toInt64, .long (0 : Int64), .long (3 : Int64)]) (rest := []) C hW (c_X11_in g l  hc9 I L) K_X11_42 (by decide +kernel) ⟨by decide, by decide⟩ ⟨Nat.le_refl _, Nat.le_refl _⟩ rfl hl.1 rfl (Nat.le_of_ble_eq_true rfl) dX11_isLane_13 (fun H locs hW => ?_)
    refine lv_if_eq (tgt := 23) C.1.1 C.1.2.1 dX11_isLane_16 (by decide) (fun hc10 => ?_) (fun hc10 => ?_)
    · replace h := ite_t hc10 h
      refine lv_iconst (v := 0) C.1.1 C.1.2.1 dX11_isLane_23 (by decide) ?_
      obtain rfl := inj1 h
      exact kJ4 _ _ _ hW (lv_sub hl [] rfl)
    · replace h := ite_f hc10 h
      refine lv_iconst (v := 1) C.1.1 C.1.2.1 dX11_isLane_19 (by decide) ?_
      refine lv_goto (tgt := 24) C.1.1 C.1.2.1 dX11_isLane_20 (by decide) ?_
      obtain rfl := inj1 h
      exact kJ4 _ _ _ hW (lv_sub hl [] rfl)
def f_X11_cut (a1 : Int32) (a2 : Int64) : Option (Int64) :=
  bd1 ((if a1 = 0 then some a2.toInt32.toInt8.toInt32.toInt64 else (if a1 = (1 : Int32) then some a2.toInt32.toInt16.toInt32.toInt64 else (if a1 = (2 : Int32) then some a2.toInt32.toInt64 else some a2)))) (fun y1 => some y1)
set_option maxHeartbeats 4000000 in
set_option maxRecDepth 100000 in
theorem c_X11_cut (g : Gp) (l : Launch) {a1 : Int32} {a2 : Int64}  {r : Int64} (h : f_X11_cut a1 a2 = some r) (I : MI) (L : ML) : MetL g l yX11_cut cX11_cut 3 0 [.int a1, .long a2] I L r I L := by
  unfold f_X11_cut at h
  refine w_enter (by decide) (Nat.le_of_ble_eq_true rfl) (own := RX11) rfl ?_
  intro p e s m below meth c args Q hQ C hr hlocks hW ls hl
  have hl : lv_has ls 3 [(0, .int a1), (1, .long a2)] := hl
  refine lv_iload_n C.1.1 C.1.2.1 dX11_cut_0 rfl (lv_at hl 0 rfl) ?_
  obtain ⟨y1, hj3, h⟩ := bd1_some h
  have kJ2 : ∀ (H : Heap) (locs : List Loc) (ls : Array Slot), Ws g s I L H locs → lv_has ls 3 [] → W p l e (rmD 0) s m args below meth c H locs 0 0 Q (F0 m 35 ls [.long y1]) := by
    intro H locs ls hW hl
    obtain rfl := inj1 h
    subst hQ
    exact w_lret C hW hr hlocks dX11_cut_35
  clear h
  have h := hj3
  clear hj3
  refine lv_if_ne (tgt := 11) C.1.1 C.1.2.1 dX11_cut_1 (by decide) (fun hc4 => ?_) (fun hc4 => ?_)
  · replace h := ite_f hc4 h
    refine lv_iload_n C.1.1 C.1.2.1 dX11_cut_11 rfl (lv_at hl 0 rfl) ?_
    refine lv_iconst (v := 1) C.1.1 C.1.2.1 dX11_cut_12 (by decide) ?_
    refine lv_icmp_ne (tgt := 23) C.1.1 C.1.2.1 dX11_cut_13 (by decide) (fun hc5 => ?_) (fun hc5 => ?_)
    · replace h := ite_f hc5 h
      refine lv_iload_n C.1.1 C.1.2.1 dX11_cut_23 rfl (lv_at hl 0 rfl) ?_
      refine lv_iconst (v := 2) C.1.1 C.1.2.1 dX11_cut_24 (by decide) ?_
      refine lv_icmp_ne (tgt := 34) C.1.1 C.1.2.1 dX11_cut_25 (by decide) (fun hc6 => ?_) (fun hc6 => ?_)
      · replace h := ite_f hc6 h
        refine lv_lload_n C.1.1 C.1.2.1 dX11_cut_34 rfl (lv_at hl 1 rfl) ?_
        obtain rfl := inj1 h
        exact kJ2 _ _ _ hW (lv_sub hl [] rfl)
      · replace h := ite_t hc6 h
        refine lv_lload_n C.1.1 C.1.2.1 dX11_cut_28 rfl (lv_at hl 1 rfl) ?_
        refine lv_l2i C.1.1 C.1.2.1 dX11_cut_29 rfl ?_
        refine lv_i2l C.1.1 C.1.2.1 dX11_cut_30 rfl ?_
        refine lv_goto (tgt := 35) C.1.1 C.1.2.1 dX11_cut_31 (by decide) ?_
        obtain rfl := inj1 h
        exact kJ2 _ _ _ hW (lv_sub hl [] rfl)
    · replace h := ite_t hc5 h
      refine lv_lload_n C.1.1 C.1.2.1 dX11_cut_16 rfl (lv_at hl 1 rfl) ?_
      refine lv_l2i C.1.1 C.1.2.1 dX11_cut_17 rfl ?_
      refine lv_i2s C.1.1 C.1.2.1 dX11_cut_18 rfl ?_
      refine lv_i2l C.1.1 C.1.2.1 dX11_cut_19 rfl ?_
      refine lv_goto (tgt := 35) C.1.1 C.1.2.1 dX11_cut_20 (by decide) ?_
      obtain rfl := inj1 h
      exact kJ2 _ _ _ hW (lv_sub hl [] rfl)
  · replace h := ite_t hc4 h
    refine lv_lload_n C.1.1 C.1.2.1 dX11_cut_4 rfl (lv_at hl 1 rfl) ?_
    refine lv_l2i C.1.1 C.1.2.1 dX11_cut_5 rfl ?_
    refine lv_i2b C.1.1 C.1.2.1 dX11_cut_6 rfl ?_
    refine lv_i2l C.1.1 C.1.2.1 dX11_cut_7 rfl ?_
    refine lv_goto (tgt := 35) C.1.1 C.1.2.1 dX11_cut_8 (by decide) ?_
    obtain rfl := inj1 h
    exact kJ2 _ _ _ hW (lv_sub hl [] rfl)
def f_X11_item (a1 : Int32) (a2 : Int32) (a3 : Int32) (a4 : Int64) (I : MI) (L : ML) : Option (Int64 × ML) :=
  bd1 (f_X11_isLane a1 a2) (fun r1 => (if r1 = 0 then some (((-1 : Int64), L)) else bd1 (f_X11_against a1 a2 a3 (1 : Int32) I L) (fun r4 => (if 0 ≤ r4 then bd1 (f_X11_cut a2 a4) (fun r7 => gi (((24 : Int32) * a1) + a3) 96 (nm (uq2 L 247 ((((24 : Int32) * a1) + a3).toNatClampNeg) r7) (fun L10 => gi (((24 : Int32) * a1) + a3) 96 (some ((L10 247 (((24 : Int32) * a1) + a3).toNatClampNeg, L10)))))) else some (r4.toInt64, L)))))
set_option maxHeartbeats 4000000 in
set_option maxRecDepth 100000 in
theorem c_X11_item (g : Gp) (l : Launch) {a1 : Int32} {a2 : Int32} {a3 : Int32} {a4 : Int64}  {I : MI} {L : ML} {r : Int64} {L' : ML} (h : f_X11_item a1 a2 a3 a4 I L = some (r, L')) : MetL g l yX11_item cX11_item 7 3 [.ref (g.1 + 244), .int a1, .int a2, .int a3, .long a4] I L r I L' := by
  unfold f_X11_item at h
  refine w_enter (by decide) (Nat.le_of_ble_eq_true rfl) (own := RX11) rfl ?_
  intro p e s m below meth c args Q hQ C hr hlocks hW ls hl
  have hl : lv_has ls 7 [(0, .ref (g.1 + 244)), (1, .int a1), (2, .int a2), (3, .int a3), (4, .long a4)] := hl
  refine lv_iload_n C.1.1 C.1.2.1 dX11_item_0 rfl (lv_at hl 1 rfl) ?_
  refine lv_iload_n C.1.1 C.1.2.1 dX11_item_1 rfl (lv_at hl 2 rfl) ?_
  obtain ⟨r1, hc2, h⟩ := bd1_some h
  refine w_callSi (k := 2) (As := [.int a1, .int a2]) (rest := []) C hW (c_X11_isLane g l  hc2 I L) K_X11_205 (by decide +kernel) ⟨by decide, by decide⟩ ⟨Nat.le_refl _, Nat.le_refl _⟩ rfl hl.1 rfl (Nat.le_of_ble_eq_true rfl) dX11_item_2 (fun H locs hW => ?_)
  refine lv_if_ne (tgt := 12) C.1.1 C.1.2.1 dX11_item_5 (by decide) (fun hc3 => ?_) (fun hc3 => ?_)
  · replace h := ite_f hc3 h
    refine lv_aload_n C.1.1 C.1.2.1 dX11_item_12 rfl (lv_at hl 0 rfl) ?_
    refine lv_iload_n C.1.1 C.1.2.1 dX11_item_13 rfl (lv_at hl 1 rfl) ?_
    refine lv_iload_n C.1.1 C.1.2.1 dX11_item_14 rfl (lv_at hl 2 rfl) ?_
    refine lv_iload_n C.1.1 C.1.2.1 dX11_item_15 rfl (lv_at hl 3 rfl) ?_
    refine lv_iconst (v := 1) C.1.1 C.1.2.1 dX11_item_16 (by decide) ?_
    obtain ⟨r4, hc5, h⟩ := bd1_some h
    refine w_callVi (k := 4) (As := [.int a1, .int a2, .int a3, .int (1 : Int32)]) (rest := []) C hW (c_X11_against g l  hc5) (by decide) rfl (EX_11 (by decide)) K_X11_208 (by decide +kernel) ⟨by decide, by decide⟩ ⟨Nat.le_refl _, Nat.le_refl _⟩ rfl hl.1 rfl (Nat.le_of_ble_eq_true rfl) dX11_item_17 (fun H locs hW => ?_)
    refine lv_istore (lv' := [(6, .int r4), (0, .ref (g.1 + 244)), (1, .int a1), (2, .int a2), (3, .int a3), (4, .long a4)]) C.1.1 C.1.2.1 dX11_item_20 hl (by decide) rfl (fun ls hl => ?_)
    refine lv_iload C.1.1 C.1.2.1 dX11_item_22 (lv_at hl 0 rfl) ?_
    refine lv_if_ge (tgt := 31) C.1.1 C.1.2.1 dX11_item_24 (by decide) (fun hc6 => ?_) (fun hc6 => ?_)
    · replace h := ite_t hc6 h
      refine lv_aload_n C.1.1 C.1.2.1 dX11_item_31 rfl (lv_at hl 1 rfl) ?_
      refine G_X11_17 C hW (by decide) dX11_item_32 ?_
      refine lv_bipush (v := 24) C.1.1 C.1.2.1 dX11_item_35 (by decide) ?_
      refine lv_iload_n C.1.1 C.1.2.1 dX11_item_37 rfl (lv_at hl 2 rfl) ?_
      refine lv_imul C.1.1 C.1.2.1 dX11_item_38 ?_
      refine lv_iload_n C.1.1 C.1.2.1 dX11_item_39 rfl (lv_at hl 4 rfl) ?_
      refine lv_iadd C.1.1 C.1.2.1 dX11_item_40 ?_
      refine lv_iload_n C.1.1 C.1.2.1 dX11_item_41 rfl (lv_at hl 3 rfl) ?_
      refine lv_lload C.1.1 C.1.2.1 dX11_item_42 (lv_at hl 5 rfl) ?_
      obtain ⟨r7, hc8, h⟩ := bd1_some h
      refine w_callSl (k := 2) (As := [.int a2, .long a4]) (rest := [.int (((24 : Int32) * a1) + a3), .ref (g.1 + 247)]) C hW (c_X11_cut g l  hc8 I L) K_X11_212 (by decide +kernel) ⟨by decide, by decide⟩ ⟨Nat.le_refl _, Nat.le_refl _⟩ rfl hl.1 rfl (Nat.le_of_ble_eq_true rfl) dX11_item_44 (fun H locs hW => ?_)
      obtain ⟨hi9, h⟩ := gi_some h
      refine w_last C hW (n := 96) (by decide) (by decide) hi9 dX11_item_47 (fun H locs hW => ?_)
      obtain ⟨L10, eL10, h⟩ := nm_some h
      rw [← eL10] at hW
      clear eL10
      refine lv_aload_n C.1.1 C.1.2.1 dX11_item_48 rfl (lv_at hl 1 rfl) ?_
      refine G_X11_17 C hW (by decide) dX11_item_49 ?_
      refine lv_bipush (v := 24) C.1.1 C.1.2.1 dX11_item_52 (by decide) ?_
      refine lv_iload_n C.1.1 C.1.2.1 dX11_item_54 rfl (lv_at hl 2 rfl) ?_
      refine lv_imul C.1.1 C.1.2.1 dX11_item_55 ?_
      refine lv_iload_n C.1.1 C.1.2.1 dX11_item_56 rfl (lv_at hl 4 rfl) ?_
      refine lv_iadd C.1.1 C.1.2.1 dX11_item_57 ?_
      obtain ⟨hi11, h⟩ := gi_some h
      refine w_lald C hW (n := 96) (by decide) (by decide) hi11 dX11_item_58 ?_
      obtain ⟨rfl, rfl⟩ := inj2 h
      subst hQ
      exact w_lret C hW hr hlocks dX11_item_59
    · replace h := ite_f hc6 h
      refine lv_iload C.1.1 C.1.2.1 dX11_item_27 (lv_at hl 0 rfl) ?_
      refine lv_i2l C.1.1 C.1.2.1 dX11_item_29 rfl ?_
      obtain ⟨rfl, rfl⟩ := inj2 h
      subst hQ
      exact w_lret C hW hr hlocks dX11_item_30
  · replace h := ite_t hc3 h
    refine lv_ldc2 C.1.1 C.1.2.1 C.1.2.2.2.1 (C.1.2.2.2.2 _ kl_X11_185) dX11_item_8 ?_
    obtain ⟨rfl, rfl⟩ := inj2 h
    subst hQ
    exact w_lret C hW hr hlocks dX11_item_11
def b_X11_copy_96 (v1 : Int32) (v2 : Int32) (v3 : Int32) (v4 : Int32) (v5 : Int32) (I : MI) (z6 : Int32) (L : ML) : Option ((Int32 × ML) ⊕ ((ML))) :=
  (if v5 ≤ z6 then some (Sum.inr L) else gi ((((24 : Int32) * v1) + v2) + z6) 96 (gi z6 24 (nm (uq2 L 253 z6.toNatClampNeg (L 247 ((((24 : Int32) * v1) + v2) + z6).toNatClampNeg)) (fun L25 => nm (z6 + (1 : Int32)) (fun x26 => some (Sum.inl (x26, L25)))))))
set_option maxHeartbeats 4000000 in
set_option maxRecDepth 100000 in
theorem l_X11_copy_96 {g : Gp} {p : Program} {l : Launch} {e : Env} {s : State} {m : MethodId} {args : Array Value} {below : List Frame} {meth : Method} {c : Code} {Q : State → Prop}  (C : Cx g p s m args c RX11 cX11_copy 7) (v1 : Int32) (v2 : Int32) (v3 : Int32) (v4 : Int32) (v5 : Int32)  (I : MI) : ∀ (n : Nat) (z6 : Int32) (L : ML) (Ly0 : ML), lp (fun s => b_X11_copy_96 v1 v2 v3 v4 v5 I s.1 s.2) n (z6, L) = some Ly0 → ∀ (H : Heap) (locs : List Loc) (ls : Array Slot), Ws g s I L H locs → lv_has ls 7 [(0, .ref (g.1 + 244)), (1, .int v1), (2, .int v2), (3, .int v3), (4, .int v4), (5, .int v5), (6, .int z6)] → (∀ (H : Heap) (locs : List Loc) (ls : Array Slot), Ws g s I Ly0 H locs → lv_has ls 7 [(0, .ref (g.1 + 244)), (3, .int v3), (4, .int v4), (5, .int v5)] → W p l e (rmD 2) s m args below meth c H locs 0 0 Q (F0 m 130 ls [])) → W p l e (rmD 2) s m args below meth c H locs 0 0 Q (F0 m 96 ls []) := by
  intro n
  induction n with
  | zero => intro z6 L Ly0 h; exact lp_zero h
  | succ n ih =>
      intro z6 L Ly0 h H locs ls hW hl hx0
      obtain ⟨r9, h, h9⟩ := lp_some h
      have h : b_X11_copy_96 v1 v2 v3 v4 v5 I z6 L = some r9 := h
      unfold b_X11_copy_96 at h
      refine lv_iload C.1.1 C.1.2.1 dX11_copy_96 (lv_at hl 6 rfl) ?_
      refine lv_iload C.1.1 C.1.2.1 dX11_copy_98 (lv_at hl 5 rfl) ?_
      refine lv_icmp_ge (tgt := 130) C.1.1 C.1.2.1 dX11_copy_100 (by decide) (fun hc22 => ?_) (fun hc22 => ?_)
      · replace h := ite_t hc22 h
        obtain rfl := Option.some.inj h
        replace h9 := Option.some.inj h9
        obtain rfl := pnj1 h9
        exact hx0 _ _ _ hW (lv_sub hl [0, 3, 4, 5] rfl)
      · replace h := ite_f hc22 h
        refine lv_aload_n C.1.1 C.1.2.1 dX11_copy_103 rfl (lv_at hl 0 rfl) ?_
        refine G_X11_36 C hW (by decide) dX11_copy_104 ?_
        refine lv_iload C.1.1 C.1.2.1 dX11_copy_107 (lv_at hl 6 rfl) ?_
        refine lv_aload_n C.1.1 C.1.2.1 dX11_copy_109 rfl (lv_at hl 0 rfl) ?_
        refine G_X11_17 C hW (by decide) dX11_copy_110 ?_
        refine lv_bipush (v := 24) C.1.1 C.1.2.1 dX11_copy_113 (by decide) ?_
        refine lv_iload_n C.1.1 C.1.2.1 dX11_copy_115 rfl (lv_at hl 1 rfl) ?_
        refine lv_imul C.1.1 C.1.2.1 dX11_copy_116 ?_
        refine lv_iload_n C.1.1 C.1.2.1 dX11_copy_117 rfl (lv_at hl 2 rfl) ?_
        refine lv_iadd C.1.1 C.1.2.1 dX11_copy_118 ?_
        refine lv_iload C.1.1 C.1.2.1 dX11_copy_119 (lv_at hl 6 rfl) ?_
        refine lv_iadd C.1.1 C.1.2.1 dX11_copy_121 ?_
        obtain ⟨hi23, h⟩ := gi_some h
        refine w_lald C hW (n := 96) (by decide) (by decide) hi23 dX11_copy_122 ?_
        obtain ⟨hi24, h⟩ := gi_some h
        refine w_last C hW (n := 24) (by decide) (by decide) hi24 dX11_copy_123 (fun H locs hW => ?_)
        obtain ⟨L25, eL25, h⟩ := nm_some h
        rw [← eL25] at hW
        clear eL25
        obtain ⟨x26, ex26⟩ : ∃ y : Int32, y = z6 + (1 : Int32) := ⟨_, rfl⟩
        replace h := nm_at ex26 h
        refine lv_iinc (v := x26) (lv' := [(6, .int x26), (0, .ref (g.1 + 244)), (1, .int v1), (2, .int v2), (3, .int v3), (4, .int v4), (5, .int v5)]) C.1.1 C.1.2.1 dX11_copy_124 hl (k := 6) rfl (by rw [ex26]; rfl) (by decide) rfl (fun ls hl => ?_)
        clear ex26
        refine lv_goto (tgt := 96) C.1.1 C.1.2.1 dX11_copy_127 (by decide) ?_
        obtain rfl := Option.some.inj h
        exact ih _ _ _ h9 _ _ _ hW (lv_sub hl [1, 2, 3, 4, 5, 6, 0] rfl) hx0
def b_X11_copy_133 (v3 : Int32) (v4 : Int32) (v5 : Int32) (I : MI) (z6 : Int32) (L : ML) : Option ((Int32 × ML) ⊕ ((ML))) :=
  (if v5 ≤ z6 then some (Sum.inr L) else gi z6 24 (gi ((((24 : Int32) * v3) + v4) + z6) 96 (nm (uq2 L 247 (((((24 : Int32) * v3) + v4) + z6).toNatClampNeg) (L 253 z6.toNatClampNeg)) (fun L32 => nm (z6 + (1 : Int32)) (fun x33 => some (Sum.inl (x33, L32)))))))
set_option maxHeartbeats 4000000 in
set_option maxRecDepth 100000 in
theorem l_X11_copy_133 {g : Gp} {p : Program} {l : Launch} {e : Env} {s : State} {m : MethodId} {args : Array Value} {below : List Frame} {meth : Method} {c : Code} {Q : State → Prop}  (C : Cx g p s m args c RX11 cX11_copy 7) (v3 : Int32) (v4 : Int32) (v5 : Int32)  (I : MI) : ∀ (n : Nat) (z6 : Int32) (L : ML) (Ly0 : ML), lp (fun s => b_X11_copy_133 v3 v4 v5 I s.1 s.2) n (z6, L) = some Ly0 → ∀ (H : Heap) (locs : List Loc) (ls : Array Slot), Ws g s I L H locs → lv_has ls 7 [(0, .ref (g.1 + 244)), (3, .int v3), (4, .int v4), (5, .int v5), (6, .int z6)] → (∀ (H : Heap) (locs : List Loc) (ls : Array Slot), Ws g s I Ly0 H locs → lv_has ls 7 [(5, .int v5)] → W p l e (rmD 2) s m args below meth c H locs 0 0 Q (F0 m 168 ls [])) → W p l e (rmD 2) s m args below meth c H locs 0 0 Q (F0 m 133 ls []) := by
  intro n
  induction n with
  | zero => intro z6 L Ly0 h; exact lp_zero h
  | succ n ih =>
      intro z6 L Ly0 h H locs ls hW hl hx0
      obtain ⟨r9, h, h9⟩ := lp_some h
      have h : b_X11_copy_133 v3 v4 v5 I z6 L = some r9 := h
      unfold b_X11_copy_133 at h
      refine lv_iload C.1.1 C.1.2.1 dX11_copy_133 (lv_at hl 4 rfl) ?_
      refine lv_iload C.1.1 C.1.2.1 dX11_copy_135 (lv_at hl 3 rfl) ?_
      refine lv_icmp_ge (tgt := 168) C.1.1 C.1.2.1 dX11_copy_137 (by decide) (fun hc29 => ?_) (fun hc29 => ?_)
      · replace h := ite_t hc29 h
        obtain rfl := Option.some.inj h
        replace h9 := Option.some.inj h9
        obtain rfl := pnj1 h9
        exact hx0 _ _ _ hW (lv_sub hl [3] rfl)
      · replace h := ite_f hc29 h
        refine lv_aload_n C.1.1 C.1.2.1 dX11_copy_140 rfl (lv_at hl 0 rfl) ?_
        refine G_X11_17 C hW (by decide) dX11_copy_141 ?_
        refine lv_bipush (v := 24) C.1.1 C.1.2.1 dX11_copy_144 (by decide) ?_
        refine lv_iload_n C.1.1 C.1.2.1 dX11_copy_146 rfl (lv_at hl 1 rfl) ?_
        refine lv_imul C.1.1 C.1.2.1 dX11_copy_147 ?_
        refine lv_iload C.1.1 C.1.2.1 dX11_copy_148 (lv_at hl 2 rfl) ?_
        refine lv_iadd C.1.1 C.1.2.1 dX11_copy_150 ?_
        refine lv_iload C.1.1 C.1.2.1 dX11_copy_151 (lv_at hl 4 rfl) ?_
        refine lv_iadd C.1.1 C.1.2.1 dX11_copy_153 ?_
        refine lv_aload_n C.1.1 C.1.2.1 dX11_copy_154 rfl (lv_at hl 0 rfl) ?_
        refine G_X11_36 C hW (by decide) dX11_copy_155 ?_
        refine lv_iload C.1.1 C.1.2.1 dX11_copy_158 (lv_at hl 4 rfl) ?_
        obtain ⟨hi30, h⟩ := gi_some h
        refine w_lald C hW (n := 24) (by decide) (by decide) hi30 dX11_copy_160 ?_
        obtain ⟨hi31, h⟩ := gi_some h
        refine w_last C hW (n := 96) (by decide) (by decide) hi31 dX11_copy_161 (fun H locs hW => ?_)
        obtain ⟨L32, eL32, h⟩ := nm_some h
        rw [← eL32] at hW
        clear eL32
        obtain ⟨x33, ex33⟩ : ∃ y : Int32, y = z6 + (1 : Int32) := ⟨_, rfl⟩
        replace h := nm_at ex33 h
        refine lv_iinc (v := x33) (lv' := [(6, .int x33), (0, .ref (g.1 + 244)), (3, .int v3), (4, .int v4), (5, .int v5)]) C.1.1 C.1.2.1 dX11_copy_162 hl (k := 4) rfl (by rw [ex33]; rfl) (by decide) rfl (fun ls hl => ?_)
        clear ex33
        refine lv_goto (tgt := 133) C.1.1 C.1.2.1 dX11_copy_165 (by decide) ?_
        obtain rfl := Option.some.inj h
        exact ih _ _ _ h9 _ _ _ hW (lv_sub hl [1, 2, 3, 4, 0] rfl) hx0
def f_X11_copy (a1 : Int32) (a2 : Int32) (a3 : Int32) (a4 : Int32) (a5 : Int32) (I : MI) (L : ML) : Option (Int32 × ML) :=
  bd1 (f_X11_isSheet a1) (fun r1 => (if r1 = 0 then some (((-1 : Int32), L)) else bd1 (f_X11_isSheet a3) (fun r4 => (if r4 = 0 then some (((-1 : Int32), L)) else gi a1 4 ((if (I 249 a1.toNatClampNeg) < 0 then some (((-11 : Int32), L)) else gi a3 4 ((if 0 ≤ (I 249 a3.toNatClampNeg) then gi a1 4 (gi a3 4 ((if (I 248 a1.toNatClampNeg) = (I 248 a3.toNatClampNeg) then gi a1 4 (bd1 (f_X11_against a1 (I 248 a1.toNatClampNeg) a2 a5 I L) (fun r15 => (if r15 < 0 then some (((-13 : Int32), L)) else gi a3 4 (bd1 (f_X11_against a3 (I 248 a3.toNatClampNeg) a4 a5 I L) (fun r19 => (if 0 ≤ r19 then bd1 (lp (fun s => b_X11_copy_96 a1 a2 a3 a4 a5 I s.1 s.2) FU (((0 : Int32), L))) (fun L28 => bd1 (lp (fun s => b_X11_copy_133 a3 a4 a5 I s.1 s.2) FU (((0 : Int32), L28))) (fun L35 => some (a5, L35))) else some (((-13 : Int32), L)))))))) else some (((-12 : Int32), L))))) else some (((-11 : Int32), L))))))))))
set_option maxHeartbeats 4000000 in
set_option maxRecDepth 100000 in
theorem c_X11_copy (g : Gp) (l : Launch) {a1 : Int32} {a2 : Int32} {a3 : Int32} {a4 : Int32} {a5 : Int32}  {I : MI} {L : ML} {r : Int32} {L' : ML} (h : f_X11_copy a1 a2 a3 a4 a5 I L = some (r, L')) : MetI g l yX11_copy cX11_copy 7 .int 2 [.ref (g.1 + 244), .int a1, .int a2, .int a3, .int a4, .int a5] I L r I L' := by
  unfold f_X11_copy at h
  refine w_enter (by decide) (Nat.le_of_ble_eq_true rfl) (own := RX11) rfl ?_
  intro p e s m below meth c args Q hQ C hr hlocks hW ls hl
  have hl : lv_has ls 7 [(0, .ref (g.1 + 244)), (1, .int a1), (2, .int a2), (3, .int a3), (4, .int a4), (5, .int a5)] := hl
  refine lv_iload_n C.1.1 C.1.2.1 dX11_copy_0 rfl (lv_at hl 1 rfl) ?_
  obtain ⟨r1, hc2, h⟩ := bd1_some h
  refine w_callSi (k := 1) (As := [.int a1]) (rest := []) C hW (c_X11_isSheet g l  hc2 I L) K_X11_202 (by decide +kernel) ⟨by decide, by decide⟩ ⟨Nat.le_refl _, Nat.le_refl _⟩ rfl hl.1 rfl (Nat.le_of_ble_eq_true rfl) dX11_copy_1 (fun H locs hW => ?_)
  refine lv_if_eq (tgt := 14) C.1.1 C.1.2.1 dX11_copy_4 (by decide) (fun hc3 => ?_) (fun hc3 => ?_)
  · replace h := ite_t hc3 h
    refine lv_iconst (v := -1) C.1.1 C.1.2.1 dX11_copy_14 (by decide) ?_
    obtain ⟨rfl, rfl⟩ := inj2 h
    subst hQ
    exact w_iret C hW hr hlocks dX11_copy_15
  · replace h := ite_f hc3 h
    refine lv_iload_n C.1.1 C.1.2.1 dX11_copy_7 rfl (lv_at hl 3 rfl) ?_
    obtain ⟨r4, hc5, h⟩ := bd1_some h
    refine w_callSi (k := 1) (As := [.int a3]) (rest := []) C hW (c_X11_isSheet g l  hc5 I L) K_X11_202 (by decide +kernel) ⟨by decide, by decide⟩ ⟨Nat.le_refl _, Nat.le_refl _⟩ rfl hl.1 rfl (Nat.le_of_ble_eq_true rfl) dX11_copy_8 (fun H locs hW => ?_)
    refine lv_if_ne (tgt := 16) C.1.1 C.1.2.1 dX11_copy_11 (by decide) (fun hc6 => ?_) (fun hc6 => ?_)
    · replace h := ite_f hc6 h
      refine lv_aload_n C.1.1 C.1.2.1 dX11_copy_16 rfl (lv_at hl 0 rfl) ?_
      refine G_X11_24 C hW (by decide) dX11_copy_17 ?_
      refine lv_iload_n C.1.1 C.1.2.1 dX11_copy_20 rfl (lv_at hl 1 rfl) ?_
      obtain ⟨hi7, h⟩ := gi_some h
      refine w_iald C hW (n := 4) (by decide) (by decide) hi7 dX11_copy_21 ?_
      refine lv_if_lt (tgt := 34) C.1.1 C.1.2.1 dX11_copy_22 (by decide) (fun hc8 => ?_) (fun hc8 => ?_)
      · replace h := ite_t hc8 h
        refine lv_bipush (v := -11) C.1.1 C.1.2.1 dX11_copy_34 (by decide) ?_
        obtain ⟨rfl, rfl⟩ := inj2 h
        subst hQ
        exact w_iret C hW hr hlocks dX11_copy_36
      · replace h := ite_f hc8 h
        refine lv_aload_n C.1.1 C.1.2.1 dX11_copy_25 rfl (lv_at hl 0 rfl) ?_
        refine G_X11_24 C hW (by decide) dX11_copy_26 ?_
        refine lv_iload_n C.1.1 C.1.2.1 dX11_copy_29 rfl (lv_at hl 3 rfl) ?_
        obtain ⟨hi9, h⟩ := gi_some h
        refine w_iald C hW (n := 4) (by decide) (by decide) hi9 dX11_copy_30 ?_
        refine lv_if_ge (tgt := 37) C.1.1 C.1.2.1 dX11_copy_31 (by decide) (fun hc10 => ?_) (fun hc10 => ?_)
        · replace h := ite_t hc10 h
          refine lv_aload_n C.1.1 C.1.2.1 dX11_copy_37 rfl (lv_at hl 0 rfl) ?_
          refine G_X11_21 C hW (by decide) dX11_copy_38 ?_
          refine lv_iload_n C.1.1 C.1.2.1 dX11_copy_41 rfl (lv_at hl 1 rfl) ?_
          obtain ⟨hi11, h⟩ := gi_some h
          refine w_iald C hW (n := 4) (by decide) (by decide) hi11 dX11_copy_42 ?_
          refine lv_aload_n C.1.1 C.1.2.1 dX11_copy_43 rfl (lv_at hl 0 rfl) ?_
          refine G_X11_21 C hW (by decide) dX11_copy_44 ?_
          refine lv_iload_n C.1.1 C.1.2.1 dX11_copy_47 rfl (lv_at hl 3 rfl) ?_
          obtain ⟨hi12, h⟩ := gi_some h
          refine w_iald C hW (n := 4) (by decide) (by decide) hi12 dX11_copy_48 ?_
          refine lv_icmp_eq (tgt := 55) C.1.1 C.1.2.1 dX11_copy_49 (by decide) (fun hc13 => ?_) (fun hc13 => ?_)
          · replace h := ite_t hc13 h
            refine lv_aload_n C.1.1 C.1.2.1 dX11_copy_55 rfl (lv_at hl 0 rfl) ?_
            refine lv_iload_n C.1.1 C.1.2.1 dX11_copy_56 rfl (lv_at hl 1 rfl) ?_
            refine lv_aload_n C.1.1 C.1.2.1 dX11_copy_57 rfl (lv_at hl 0 rfl) ?_
            refine G_X11_21 C hW (by decide) dX11_copy_58 ?_
            refine lv_iload_n C.1.1 C.1.2.1 dX11_copy_61 rfl (lv_at hl 1 rfl) ?_
            obtain ⟨hi14, h⟩ := gi_some h
            refine w_iald C hW (n := 4) (by decide) (by decide) hi14 dX11_copy_62 ?_
            refine lv_iload_n C.1.1 C.1.2.1 dX11_copy_63 rfl (lv_at hl 2 rfl) ?_
            refine lv_iload C.1.1 C.1.2.1 dX11_copy_64 (lv_at hl 5 rfl) ?_
            obtain ⟨r15, hc16, h⟩ := bd1_some h
            refine w_callVi (k := 4) (As := [.int a1, .int (I 248 a1.toNatClampNeg), .int a2, .int a5]) (rest := []) C hW (c_X11_against g l  hc16) (by decide) rfl (EX_11 (by decide)) K_X11_208 (by decide +kernel) ⟨by decide, by decide⟩ ⟨Nat.le_refl _, Nat.le_refl _⟩ rfl hl.1 rfl (Nat.le_of_ble_eq_true rfl) dX11_copy_66 (fun H locs hW => ?_)
            refine lv_if_lt (tgt := 90) C.1.1 C.1.2.1 dX11_copy_69 (by decide) (fun hc17 => ?_) (fun hc17 => ?_)
            · replace h := ite_t hc17 h
              refine lv_bipush (v := -13) C.1.1 C.1.2.1 dX11_copy_90 (by decide) ?_
              obtain ⟨rfl, rfl⟩ := inj2 h
              subst hQ
              exact w_iret C hW hr hlocks dX11_copy_92
            · replace h := ite_f hc17 h
              refine lv_aload_n C.1.1 C.1.2.1 dX11_copy_72 rfl (lv_at hl 0 rfl) ?_
              refine lv_iload_n C.1.1 C.1.2.1 dX11_copy_73 rfl (lv_at hl 3 rfl) ?_
              refine lv_aload_n C.1.1 C.1.2.1 dX11_copy_74 rfl (lv_at hl 0 rfl) ?_
              refine G_X11_21 C hW (by decide) dX11_copy_75 ?_
              refine lv_iload_n C.1.1 C.1.2.1 dX11_copy_78 rfl (lv_at hl 3 rfl) ?_
              obtain ⟨hi18, h⟩ := gi_some h
              refine w_iald C hW (n := 4) (by decide) (by decide) hi18 dX11_copy_79 ?_
              refine lv_iload C.1.1 C.1.2.1 dX11_copy_80 (lv_at hl 4 rfl) ?_
              refine lv_iload C.1.1 C.1.2.1 dX11_copy_82 (lv_at hl 5 rfl) ?_
              obtain ⟨r19, hc20, h⟩ := bd1_some h
              refine w_callVi (k := 4) (As := [.int a3, .int (I 248 a3.toNatClampNeg), .int a4, .int a5]) (rest := []) C hW (c_X11_against g l  hc20) (by decide) rfl (EX_11 (by decide)) K_X11_208 (by decide +kernel) ⟨by decide, by decide⟩ ⟨Nat.le_refl _, Nat.le_refl _⟩ rfl hl.1 rfl (Nat.le_of_ble_eq_true rfl) dX11_copy_84 (fun H locs hW => ?_)
              refine lv_if_ge (tgt := 93) C.1.1 C.1.2.1 dX11_copy_87 (by decide) (fun hc21 => ?_) (fun hc21 => ?_)
              · replace h := ite_t hc21 h
                refine lv_iconst (v := 0) C.1.1 C.1.2.1 dX11_copy_93 (by decide) ?_
                refine lv_istore (lv' := [(6, .int (0 : Int32)), (0, .ref (g.1 + 244)), (1, .int a1), (2, .int a2), (3, .int a3), (4, .int a4), (5, .int a5)]) C.1.1 C.1.2.1 dX11_copy_94 hl (by decide) rfl (fun ls hl => ?_)
                obtain ⟨L28, hq27, h⟩ := bd1_some h
                refine l_X11_copy_96 C a1 a2 a3 a4 a5  I _ _ _ _ hq27 _ _ _ hW (lv_sub hl [1, 2, 3, 4, 5, 6, 0] rfl) (fun H locs ls hW hl => ?_)
                refine lv_iconst (v := 0) C.1.1 C.1.2.1 dX11_copy_130 (by decide) ?_
                refine lv_istore (lv' := [(6, .int (0 : Int32)), (0, .ref (g.1 + 244)), (3, .int a3), (4, .int a4), (5, .int a5)]) C.1.1 C.1.2.1 dX11_copy_131 hl (by decide) rfl (fun ls hl => ?_)
                obtain ⟨L35, hq34, h⟩ := bd1_some h
                refine l_X11_copy_133 C a3 a4 a5  I _ _ _ _ hq34 _ _ _ hW (lv_sub hl [1, 2, 3, 4, 0] rfl) (fun H locs ls hW hl => ?_)
                refine lv_iload C.1.1 C.1.2.1 dX11_copy_168 (lv_at hl 0 rfl) ?_
                obtain ⟨rfl, rfl⟩ := inj2 h
                subst hQ
                exact w_iret C hW hr hlocks dX11_copy_170
              · replace h := ite_f hc21 h
                refine lv_bipush (v := -13) C.1.1 C.1.2.1 dX11_copy_90 (by decide) ?_
                obtain ⟨rfl, rfl⟩ := inj2 h
                subst hQ
                exact w_iret C hW hr hlocks dX11_copy_92
          · replace h := ite_f hc13 h
            refine lv_bipush (v := -12) C.1.1 C.1.2.1 dX11_copy_52 (by decide) ?_
            obtain ⟨rfl, rfl⟩ := inj2 h
            subst hQ
            exact w_iret C hW hr hlocks dX11_copy_54
        · replace h := ite_f hc10 h
          refine lv_bipush (v := -11) C.1.1 C.1.2.1 dX11_copy_34 (by decide) ?_
          obtain ⟨rfl, rfl⟩ := inj2 h
          subst hQ
          exact w_iret C hW hr hlocks dX11_copy_36
    · replace h := ite_t hc6 h
      refine lv_iconst (v := -1) C.1.1 C.1.2.1 dX11_copy_14 (by decide) ?_
      obtain ⟨rfl, rfl⟩ := inj2 h
      subst hQ
      exact w_iret C hW hr hlocks dX11_copy_15
def b_X11_film_62 (v1 : Int32) (v2 : Int32) (v3 : Int32) (v4 : Int32) (v5 : Int32) (z7 : Int32) (I : MI) (L : ML) : Option ((Int32 × MI × ML) ⊕ ((MI × ML))) :=
  (if v2 ≤ z7 then some (Sum.inr (I, L)) else bd1 (f_X11_passes (219 : Int32) I L) (fun I16 => gi ((256 : Int32) + v1) 1752 (bd1 (f_X11_cut v4 ((I16 245 ((256 : Int32) + v1).toNatClampNeg).toInt64)) (fun r19 => gi ((((24 : Int32) * v3) + v5) + z7) 96 (nm (uq2 L 247 (((((24 : Int32) * v3) + v5) + z7).toNatClampNeg) r19) (fun L22 => nm (z7 + (1 : Int32)) (fun x23 => some (Sum.inl (x23, I16, L22)))))))))
set_option maxHeartbeats 4000000 in
set_option maxRecDepth 100000 in
theorem l_X11_film_62 {g : Gp} {p : Program} {l : Launch} {e : Env} {s : State} {m : MethodId} {args : Array Value} {below : List Frame} {meth : Method} {c : Code} {Q : State → Prop}  (C : Cx g p s m args c RX11 cX11_film 8) (v1 : Int32) (v2 : Int32) (v3 : Int32) (v4 : Int32) (v5 : Int32)  : ∀ (n : Nat) (z7 : Int32) (I : MI) (L : ML) (Iy0 : MI) (Ly0 : ML), lp (fun s => b_X11_film_62 v1 v2 v3 v4 v5 s.1 s.2.1 s.2.2) n (z7, I, L) = some (Iy0, Ly0) → ∀ (H : Heap) (locs : List Loc) (ls : Array Slot), Ws g s I L H locs → lv_has ls 8 [(0, .ref (g.1 + 244)), (1, .int v1), (2, .int v2), (3, .int v3), (4, .int v4), (5, .int v5), (7, .int z7)] → (∀ (H : Heap) (locs : List Loc) (ls : Array Slot), Ws g s Iy0 Ly0 H locs → lv_has ls 8 [(2, .int v2)] → W p l e (rmD 4) s m args below meth c H locs 0 0 Q (F0 m 112 ls [])) → W p l e (rmD 4) s m args below meth c H locs 0 0 Q (F0 m 62 ls []) := by
  intro n
  induction n with
  | zero => intro z7 I L Iy0 Ly0 h; exact lp_zero h
  | succ n ih =>
      intro z7 I L Iy0 Ly0 h H locs ls hW hl hx0
      obtain ⟨r9, h, h9⟩ := lp_some h
      have h : b_X11_film_62 v1 v2 v3 v4 v5 z7 I L = some r9 := h
      unfold b_X11_film_62 at h
      refine lv_iload C.1.1 C.1.2.1 dX11_film_62 (lv_at hl 6 rfl) ?_
      refine lv_iload_n C.1.1 C.1.2.1 dX11_film_64 rfl (lv_at hl 2 rfl) ?_
      refine lv_icmp_ge (tgt := 112) C.1.1 C.1.2.1 dX11_film_65 (by decide) (fun hc15 => ?_) (fun hc15 => ?_)
      · replace h := ite_t hc15 h
        obtain rfl := Option.some.inj h
        replace h9 := Option.some.inj h9
        obtain ⟨rfl, rfl⟩ := pnj2 h9
        exact hx0 _ _ _ hW (lv_sub hl [2] rfl)
      · replace h := ite_f hc15 h
        refine lv_aload_n C.1.1 C.1.2.1 dX11_film_68 rfl (lv_at hl 0 rfl) ?_
        refine lv_sipush (v := 219) C.1.1 C.1.2.1 dX11_film_69 (by decide) ?_
        obtain ⟨I16, hc17, h⟩ := bd1_some h
        refine w_callVv (k := 1) (As := [.int (219 : Int32)]) (rest := []) C hW (c_X11_passes g l  hc17) (by decide) rfl (EX_11 (by decide)) K_X11_129 (by decide +kernel) ⟨by decide, by decide⟩ ⟨Nat.le_refl _, Nat.le_refl _⟩ rfl hl.1 rfl (Nat.le_of_ble_eq_true rfl) dX11_film_72 (fun H locs hW => ?_)
        refine lv_aload_n C.1.1 C.1.2.1 dX11_film_75 rfl (lv_at hl 0 rfl) ?_
        refine G_X11_17 C hW (by decide) dX11_film_76 ?_
        refine lv_bipush (v := 24) C.1.1 C.1.2.1 dX11_film_79 (by decide) ?_
        refine lv_iload_n C.1.1 C.1.2.1 dX11_film_81 rfl (lv_at hl 3 rfl) ?_
        refine lv_imul C.1.1 C.1.2.1 dX11_film_82 ?_
        refine lv_iload C.1.1 C.1.2.1 dX11_film_83 (lv_at hl 5 rfl) ?_
        refine lv_iadd C.1.1 C.1.2.1 dX11_film_85 ?_
        refine lv_iload C.1.1 C.1.2.1 dX11_film_86 (lv_at hl 6 rfl) ?_
        refine lv_iadd C.1.1 C.1.2.1 dX11_film_88 ?_
        refine lv_iload C.1.1 C.1.2.1 dX11_film_89 (lv_at hl 4 rfl) ?_
        refine lv_aload_n C.1.1 C.1.2.1 dX11_film_91 rfl (lv_at hl 0 rfl) ?_
        refine G_X11_7 C hW (by decide) dX11_film_92 ?_
        refine lv_sipush (v := 256) C.1.1 C.1.2.1 dX11_film_95 (by decide) ?_
        refine lv_iload_n C.1.1 C.1.2.1 dX11_film_98 rfl (lv_at hl 1 rfl) ?_
        refine lv_iadd C.1.1 C.1.2.1 dX11_film_99 ?_
        obtain ⟨hi18, h⟩ := gi_some h
        refine w_iald C hW (n := 1752) (by decide) (by decide) hi18 dX11_film_100 ?_
        refine lv_i2l C.1.1 C.1.2.1 dX11_film_101 rfl ?_
        obtain ⟨r19, hc20, h⟩ := bd1_some h
        refine w_callSl (k := 2) (As := [.int v4, .long ((I16 245 ((256 : Int32) + v1).toNatClampNeg).toInt64)]) (rest := [.int ((((24 : Int32) * v3) + v5) + z7), .ref (g.1 + 247)]) C hW (c_X11_cut g l  hc20 I16 L) K_X11_212 (by decide +kernel) ⟨by decide, by decide⟩ ⟨Nat.le_refl _, Nat.le_refl _⟩ rfl hl.1 rfl (Nat.le_of_ble_eq_true rfl) dX11_film_102 (fun H locs hW => ?_)
        obtain ⟨hi21, h⟩ := gi_some h
        refine w_last C hW (n := 96) (by decide) (by decide) hi21 dX11_film_105 (fun H locs hW => ?_)
        obtain ⟨L22, eL22, h⟩ := nm_some h
        rw [← eL22] at hW
        clear eL22
        obtain ⟨x23, ex23⟩ : ∃ y : Int32, y = z7 + (1 : Int32) := ⟨_, rfl⟩
        replace h := nm_at ex23 h
        refine lv_iinc (v := x23) (lv' := [(7, .int x23), (0, .ref (g.1 + 244)), (1, .int v1), (2, .int v2), (3, .int v3), (4, .int v4), (5, .int v5)]) C.1.1 C.1.2.1 dX11_film_106 hl (k := 6) rfl (by rw [ex23]; rfl) (by decide) rfl (fun ls hl => ?_)
        clear ex23
        refine lv_goto (tgt := 62) C.1.1 C.1.2.1 dX11_film_109 (by decide) ?_
        obtain rfl := Option.some.inj h
        exact ih _ _ _ _ _ h9 _ _ _ hW (lv_sub hl [1, 2, 3, 4, 5, 6, 0] rfl) hx0
def f_X11_film (a1 : Int32) (a2 : Int32) (a3 : Int32) (a4 : Int32) (a5 : Int32) (I : MI) (L : ML) : Option (Int32 × MI × ML) :=
  bd1 (f_X11_isSitter a1 I L) (fun r1 => (if r1 = 0 then some (((-1 : Int32), I, L)) else bd1 (f_X11_in a2.toInt64 (1 : Int64) (24 : Int64)) (fun r4 => (if r4 = 0 then some (((-1 : Int32), I, L)) else bd1 (f_X11_isLane a3 a4) (fun r7 => (if r7 = 0 then some (((-1 : Int32), I, L)) else bd1 (f_X11_against a3 a4 a5 a2 I L) (fun r10 => (if 0 ≤ r10 then bd1 (f_X11_copyRow (0 : Int32) (219 : Int32) I L) (fun I13 => bd2 (lp (fun s => b_X11_film_62 a1 a2 a3 a4 a5 s.1 s.2.1 s.2.2) FU (((0 : Int32), I13, L))) (fun I25 L26 => some (a2, I25, L26))) else some (r10, I, L)))))))))
set_option maxHeartbeats 4000000 in
set_option maxRecDepth 100000 in
theorem c_X11_film (g : Gp) (l : Launch) {a1 : Int32} {a2 : Int32} {a3 : Int32} {a4 : Int32} {a5 : Int32}  {I : MI} {L : ML} {r : Int32} {I' : MI} {L' : ML} (h : f_X11_film a1 a2 a3 a4 a5 I L = some (r, I', L')) : MetI g l yX11_film cX11_film 8 .int 4 [.ref (g.1 + 244), .int a1, .int a2, .int a3, .int a4, .int a5] I L r I' L' := by
  unfold f_X11_film at h
  refine w_enter (by decide) (Nat.le_of_ble_eq_true rfl) (own := RX11) rfl ?_
  intro p e s m below meth c args Q hQ C hr hlocks hW ls hl
  have hl : lv_has ls 8 [(0, .ref (g.1 + 244)), (1, .int a1), (2, .int a2), (3, .int a3), (4, .int a4), (5, .int a5)] := hl
  refine lv_aload_n C.1.1 C.1.2.1 dX11_film_0 rfl (lv_at hl 0 rfl) ?_
  refine lv_iload_n C.1.1 C.1.2.1 dX11_film_1 rfl (lv_at hl 1 rfl) ?_
  obtain ⟨r1, hc2, h⟩ := bd1_some h
  refine w_callVi (k := 1) (As := [.int a1]) (rest := []) C hW (c_X11_isSitter g l  hc2) (by decide) rfl (EX_11 (by decide)) K_X11_115 (by decide +kernel) ⟨by decide, by decide⟩ ⟨Nat.le_refl _, Nat.le_refl _⟩ rfl hl.1 rfl (Nat.le_of_ble_eq_true rfl) dX11_film_2 (fun H locs hW => ?_)
  refine lv_if_eq (tgt := 29) C.1.1 C.1.2.1 dX11_film_5 (by decide) (fun hc3 => ?_) (fun hc3 => ?_)
  · replace h := ite_t hc3 h
    refine lv_iconst (v := -1) C.1.1 C.1.2.1 dX11_film_29 (by decide) ?_
    obtain ⟨rfl, rfl, rfl⟩ := inj3 h
    subst hQ
    exact w_iret C hW hr hlocks dX11_film_30
  · replace h := ite_f hc3 h
    refine lv_iload_n C.1.1 C.1.2.1 dX11_film_8 rfl (lv_at hl 2 rfl) ?_
    refine lv_i2l C.1.1 C.1.2.1 dX11_film_9 rfl ?_
    refine lv_lconst (v := 1) C.1.1 C.1.2.1 dX11_film_10 (by decide) ?_
    refine lv_ldc2 C.1.1 C.1.2.1 C.1.2.2.2.1 (C.1.2.2.2.2 _ kl_X11_124) dX11_film_11 ?_
    obtain ⟨r4, hc5, h⟩ := bd1_some h
    refine w_callSi (k := 3) (As := [.long a2.toInt64, .long (1 : Int64), .long (24 : Int64)]) (rest := []) C hW (c_X11_in g l  hc5 I L) K_X11_42 (by decide +kernel) ⟨by decide, by decide⟩ ⟨Nat.le_refl _, Nat.le_refl _⟩ rfl hl.1 rfl (Nat.le_of_ble_eq_true rfl) dX11_film_14 (fun H locs hW => ?_)
    refine lv_if_eq (tgt := 29) C.1.1 C.1.2.1 dX11_film_17 (by decide) (fun hc6 => ?_) (fun hc6 => ?_)
    · replace h := ite_t hc6 h
      refine lv_iconst (v := -1) C.1.1 C.1.2.1 dX11_film_29 (by decide) ?_
      obtain ⟨rfl, rfl, rfl⟩ := inj3 h
      subst hQ
      exact w_iret C hW hr hlocks dX11_film_30
    · replace h := ite_f hc6 h
      refine lv_iload_n C.1.1 C.1.2.1 dX11_film_20 rfl (lv_at hl 3 rfl) ?_
      refine lv_iload C.1.1 C.1.2.1 dX11_film_21 (lv_at hl 4 rfl) ?_
      obtain ⟨r7, hc8, h⟩ := bd1_some h
      refine w_callSi (k := 2) (As := [.int a3, .int a4]) (rest := []) C hW (c_X11_isLane g l  hc8 I L) K_X11_205 (by decide +kernel) ⟨by decide, by decide⟩ ⟨Nat.le_refl _, Nat.le_refl _⟩ rfl hl.1 rfl (Nat.le_of_ble_eq_true rfl) dX11_film_23 (fun H locs hW => ?_)
      refine lv_if_ne (tgt := 31) C.1.1 C.1.2.1 dX11_film_26 (by decide) (fun hc9 => ?_) (fun hc9 => ?_)
      · replace h := ite_f hc9 h
        refine lv_aload_n C.1.1 C.1.2.1 dX11_film_31 rfl (lv_at hl 0 rfl) ?_
        refine lv_iload_n C.1.1 C.1.2.1 dX11_film_32 rfl (lv_at hl 3 rfl) ?_
        refine lv_iload C.1.1 C.1.2.1 dX11_film_33 (lv_at hl 4 rfl) ?_
        refine lv_iload C.1.1 C.1.2.1 dX11_film_35 (lv_at hl 5 rfl) ?_
        refine lv_iload_n C.1.1 C.1.2.1 dX11_film_37 rfl (lv_at hl 2 rfl) ?_
        obtain ⟨r10, hc11, h⟩ := bd1_some h
        refine w_callVi (k := 4) (As := [.int a3, .int a4, .int a5, .int a2]) (rest := []) C hW (c_X11_against g l  hc11) (by decide) rfl (EX_11 (by decide)) K_X11_208 (by decide +kernel) ⟨by decide, by decide⟩ ⟨Nat.le_refl _, Nat.le_refl _⟩ rfl hl.1 rfl (Nat.le_of_ble_eq_true rfl) dX11_film_38 (fun H locs hW => ?_)
        refine lv_istore (lv' := [(6, .int r10), (0, .ref (g.1 + 244)), (1, .int a1), (2, .int a2), (3, .int a3), (4, .int a4), (5, .int a5)]) C.1.1 C.1.2.1 dX11_film_41 hl (by decide) rfl (fun ls hl => ?_)
        refine lv_iload C.1.1 C.1.2.1 dX11_film_43 (lv_at hl 0 rfl) ?_
        refine lv_if_ge (tgt := 51) C.1.1 C.1.2.1 dX11_film_45 (by decide) (fun hc12 => ?_) (fun hc12 => ?_)
        · replace h := ite_t hc12 h
          refine lv_aload_n C.1.1 C.1.2.1 dX11_film_51 rfl (lv_at hl 1 rfl) ?_
          refine lv_iconst (v := 0) C.1.1 C.1.2.1 dX11_film_52 (by decide) ?_
          refine lv_sipush (v := 219) C.1.1 C.1.2.1 dX11_film_53 (by decide) ?_
          obtain ⟨I13, hc14, h⟩ := bd1_some h
          refine w_callVv (k := 2) (As := [.int (0 : Int32), .int (219 : Int32)]) (rest := []) C hW (c_X11_copyRow g l  hc14) (by decide) rfl (EX_11 (by decide)) K_X11_90 (by decide +kernel) ⟨by decide, by decide⟩ ⟨Nat.le_refl _, Nat.le_refl _⟩ rfl hl.1 rfl (Nat.le_of_ble_eq_true rfl) dX11_film_56 (fun H locs hW => ?_)
          refine lv_iconst (v := 0) C.1.1 C.1.2.1 dX11_film_59 (by decide) ?_
          refine lv_istore (lv' := [(7, .int (0 : Int32)), (6, .int r10), (0, .ref (g.1 + 244)), (1, .int a1), (2, .int a2), (3, .int a3), (4, .int a4), (5, .int a5)]) C.1.1 C.1.2.1 dX11_film_60 hl (by decide) rfl (fun ls hl => ?_)
          obtain ⟨I25, L26, hq24, h⟩ := bd2_some h
          refine l_X11_film_62 C a1 a2 a3 a4 a5  _ _ _ _ _ _ hq24 _ _ _ hW (lv_sub hl [2, 3, 4, 5, 6, 7, 0] rfl) (fun H locs ls hW hl => ?_)
          refine lv_iload_n C.1.1 C.1.2.1 dX11_film_112 rfl (lv_at hl 0 rfl) ?_
          obtain ⟨rfl, rfl, rfl⟩ := inj3 h
          subst hQ
          exact w_iret C hW hr hlocks dX11_film_113
        · replace h := ite_f hc12 h
          refine lv_iload C.1.1 C.1.2.1 dX11_film_48 (lv_at hl 0 rfl) ?_
          obtain ⟨rfl, rfl, rfl⟩ := inj3 h
          subst hQ
          exact w_iret C hW hr hlocks dX11_film_50
      · replace h := ite_t hc9 h
        refine lv_iconst (v := -1) C.1.1 C.1.2.1 dX11_film_29 (by decide) ?_
        obtain ⟨rfl, rfl, rfl⟩ := inj3 h
        subst hQ
        exact w_iret C hW hr hlocks dX11_film_30
def b_X11_areWithin_6 (v1 : Int32) (v2 : Int32) (v3 : Int32) (I : MI) (L : ML) (z4 : Int32) (z5 : Int32) : Option ((Int32 × Int32) ⊕ ((Int32))) :=
  (if v2 ≤ z5 then some (Sum.inr z4) else bd1 ((if z4 = 0 then some (0 : Int32) else gi (v1 + z5) 96 (bd1 (f_X11_in (L 247 (v1 + z5).toNatClampNeg) (0 : Int64) v3.toInt64) (fun r8 => (if r8 = 0 then some (0 : Int32) else some (1 : Int32)))))) (fun y2 => nm (z5 + (1 : Int32)) (fun x5 => some (Sum.inl (y2, x5)))))
set_option maxHeartbeats 4000000 in
set_option maxRecDepth 100000 in
theorem l_X11_areWithin_6 {g : Gp} {p : Program} {l : Launch} {e : Env} {s : State} {m : MethodId} {args : Array Value} {below : List Frame} {meth : Method} {c : Code} {Q : State → Prop}  (C : Cx g p s m args c RX11 cX11_areWithin 6) (v1 : Int32) (v2 : Int32) (v3 : Int32)  (I : MI) (L : ML) : ∀ (n : Nat) (z4 : Int32) (z5 : Int32) (y0_4 : Int32), lp (fun s => b_X11_areWithin_6 v1 v2 v3 I L s.1 s.2) n (z4, z5) = some y0_4 → ∀ (H : Heap) (locs : List Loc) (ls : Array Slot), Ws g s I L H locs → lv_has ls 6 [(0, .ref (g.1 + 244)), (1, .int v1), (2, .int v2), (3, .int v3), (4, .int z4), (5, .int z5)] → (∀ (H : Heap) (locs : List Loc) (ls : Array Slot), Ws g s I L H locs → lv_has ls 6 [(4, .int y0_4)] → W p l e (rmD 1) s m args below meth c H locs 0 0 Q (F0 m 48 ls [])) → W p l e (rmD 1) s m args below meth c H locs 0 0 Q (F0 m 6 ls []) := by
  intro n
  induction n with
  | zero => intro z4 z5 y0_4 h; exact lp_zero h
  | succ n ih =>
      intro z4 z5 y0_4 h H locs ls hW hl hx0
      obtain ⟨r9, h, h9⟩ := lp_some h
      have h : b_X11_areWithin_6 v1 v2 v3 I L z4 z5 = some r9 := h
      unfold b_X11_areWithin_6 at h
      refine lv_iload C.1.1 C.1.2.1 dX11_areWithin_6 (lv_at hl 5 rfl) ?_
      refine lv_iload_n C.1.1 C.1.2.1 dX11_areWithin_8 rfl (lv_at hl 2 rfl) ?_
      refine lv_icmp_ge (tgt := 48) C.1.1 C.1.2.1 dX11_areWithin_9 (by decide) (fun hc1 => ?_) (fun hc1 => ?_)
      · replace h := ite_t hc1 h
        obtain rfl := Option.some.inj h
        replace h9 := Option.some.inj h9
        obtain rfl := pnj1 h9
        exact hx0 _ _ _ hW (lv_sub hl [4] rfl)
      · replace h := ite_f hc1 h
        refine lv_iload C.1.1 C.1.2.1 dX11_areWithin_12 (lv_at hl 4 rfl) ?_
        obtain ⟨y2, hj4, h⟩ := bd1_some h
        have kJ3 : ∀ (H : Heap) (locs : List Loc) (ls : Array Slot), Ws g s I L H locs → lv_has ls 6 [(0, .ref (g.1 + 244)), (1, .int v1), (2, .int v2), (3, .int v3), (5, .int z5)] → W p l e (rmD 1) s m args below meth c H locs 0 0 Q (F0 m 40 ls [.int y2]) := by
          intro H locs ls hW hl
          refine lv_istore (lv' := [(4, .int y2), (0, .ref (g.1 + 244)), (1, .int v1), (2, .int v2), (3, .int v3), (5, .int z5)]) C.1.1 C.1.2.1 dX11_areWithin_40 hl (by decide) rfl (fun ls hl => ?_)
          obtain ⟨x5, ex5⟩ : ∃ y : Int32, y = z5 + (1 : Int32) := ⟨_, rfl⟩
          replace h := nm_at ex5 h
          refine lv_iinc (v := x5) (lv' := [(5, .int x5), (4, .int y2), (0, .ref (g.1 + 244)), (1, .int v1), (2, .int v2), (3, .int v3)]) C.1.1 C.1.2.1 dX11_areWithin_42 hl (k := 5) rfl (by rw [ex5]; rfl) (by decide) rfl (fun ls hl => ?_)
          clear ex5
          refine lv_goto (tgt := 6) C.1.1 C.1.2.1 dX11_areWithin_45 (by decide) ?_
          obtain rfl := Option.some.inj h
          exact ih _ _ _ h9 _ _ _ hW (lv_sub hl [2, 3, 4, 5, 1, 0] rfl) hx0
        clear h
        have h := hj4
        clear hj4
        refine lv_if_eq (tgt := 39) C.1.1 C.1.2.1 dX11_areWithin_14 (by decide) (fun hc6 => ?_) (fun hc6 => ?_)
        · replace h := ite_t hc6 h
          refine lv_iconst (v := 0) C.1.1 C.1.2.1 dX11_areWithin_39 (by decide) ?_
          obtain rfl := inj1 h
          exact kJ3 _ _ _ hW (lv_sub hl [0, 1, 2, 3, 5] rfl)
        · replace h := ite_f hc6 h
          refine lv_aload_n C.1.1 C.1.2.1 dX11_areWithin_17 rfl (lv_at hl 0 rfl) ?_
          refine G_X11_17 C hW (by decide) dX11_areWithin_18 ?_
          refine lv_iload_n C.1.1 C.1.2.1 dX11_areWithin_21 rfl (lv_at hl 1 rfl) ?_
          refine lv_iload C.1.1 C.1.2.1 dX11_areWithin_22 (lv_at hl 5 rfl) ?_
          refine lv_iadd C.1.1 C.1.2.1 dX11_areWithin_24 ?_
          obtain ⟨hi7, h⟩ := gi_some h
          refine w_lald C hW (n := 96) (by decide) (by decide) hi7 dX11_areWithin_25 ?_
          refine lv_lconst (v := 0) C.1.1 C.1.2.1 dX11_areWithin_26 (by decide) ?_
          refine lv_iload_n C.1.1 C.1.2.1 dX11_areWithin_27 rfl (lv_at hl 3 rfl) ?_
          refine lv_i2l C.1.1 C.1.2.1 dX11_areWithin_28 rfl ?_
          obtain ⟨r8, hc9, h⟩ := bd1_some h
          refine w_callSi (k := 3) (As := [.long (L 247 (v1 + z5).toNatClampNeg), .long (0 : Int64), .long v3.toInt64]) (rest := []) C hW (c_X11_in g l  hc9 I L) K_X11_42 (by decide +kernel) ⟨by decide, by decide⟩ ⟨Nat.le_refl _, Nat.le_refl _⟩ rfl hl.1 rfl (Nat.le_of_ble_eq_true rfl) dX11_areWithin_29 (fun H locs hW => ?_)
          refine lv_if_eq (tgt := 39) C.1.1 C.1.2.1 dX11_areWithin_32 (by decide) (fun hc10 => ?_) (fun hc10 => ?_)
          · replace h := ite_t hc10 h
            refine lv_iconst (v := 0) C.1.1 C.1.2.1 dX11_areWithin_39 (by decide) ?_
            obtain rfl := inj1 h
            exact kJ3 _ _ _ hW (lv_sub hl [0, 1, 2, 3, 5] rfl)
          · replace h := ite_f hc10 h
            refine lv_iconst (v := 1) C.1.1 C.1.2.1 dX11_areWithin_35 (by decide) ?_
            refine lv_goto (tgt := 40) C.1.1 C.1.2.1 dX11_areWithin_36 (by decide) ?_
            obtain rfl := inj1 h
            exact kJ3 _ _ _ hW (lv_sub hl [0, 1, 2, 3, 5] rfl)
def f_X11_areWithin (a1 : Int32) (a2 : Int32) (a3 : Int32) (I : MI) (L : ML) : Option (Int32) :=
  bd1 (lp (fun s => b_X11_areWithin_6 a1 a2 a3 I L s.1 s.2) FU (((1 : Int32), (0 : Int32)))) (fun y12 => gd (y12 = 0 ∨ y12 = 1) (some y12))
set_option maxHeartbeats 4000000 in
set_option maxRecDepth 100000 in
theorem c_X11_areWithin (g : Gp) (l : Launch) {a1 : Int32} {a2 : Int32} {a3 : Int32}  {I : MI} {L : ML} {r : Int32} (h : f_X11_areWithin a1 a2 a3 I L = some r) : MetI g l yX11_areWithin cX11_areWithin 6 .boolean 1 [.ref (g.1 + 244), .int a1, .int a2, .int a3] I L r I L := by
  unfold f_X11_areWithin at h
  refine w_enter (by decide) (Nat.le_of_ble_eq_true rfl) (own := RX11) rfl ?_
  intro p e s m below meth c args Q hQ C hr hlocks hW ls hl
  have hl : lv_has ls 6 [(0, .ref (g.1 + 244)), (1, .int a1), (2, .int a2), (3, .int a3)] := hl
  refine lv_iconst (v := 1) C.1.1 C.1.2.1 dX11_areWithin_0 (by decide) ?_
  refine lv_istore (lv' := [(4, .int (1 : Int32)), (0, .ref (g.1 + 244)), (1, .int a1), (2, .int a2), (3, .int a3)]) C.1.1 C.1.2.1 dX11_areWithin_1 hl (by decide) rfl (fun ls hl => ?_)
  refine lv_iconst (v := 0) C.1.1 C.1.2.1 dX11_areWithin_3 (by decide) ?_
  refine lv_istore (lv' := [(5, .int (0 : Int32)), (4, .int (1 : Int32)), (0, .ref (g.1 + 244)), (1, .int a1), (2, .int a2), (3, .int a3)]) C.1.1 C.1.2.1 dX11_areWithin_4 hl (by decide) rfl (fun ls hl => ?_)
  obtain ⟨y12, hq11, h⟩ := bd1_some h
  refine l_X11_areWithin_6 C a1 a2 a3  I L _ _ _ _ hq11 _ _ _ hW (lv_sub hl [2, 3, 4, 5, 1, 0] rfl) (fun H locs ls hW hl => ?_)
  refine lv_iload C.1.1 C.1.2.1 dX11_areWithin_48 (lv_at hl 0 rfl) ?_
  obtain ⟨hb13, h⟩ := gd_some h
  obtain rfl := inj1 h
  subst hQ
  exact w_zret C hW hr hlocks hb13 dX11_areWithin_50
def f_X11_off (a1 : Int64) (a2 : Int64) : Option (Int32) :=
  bd1 ((if 0 ≤ (lg_cmp a1 a2) then some (a1 - a2) else some (a2 - a1))) (fun y1 => some y1.toInt32)
set_option maxHeartbeats 4000000 in
set_option maxRecDepth 100000 in
theorem c_X11_off (g : Gp) (l : Launch) {a1 : Int64} {a2 : Int64}  {r : Int32} (h : f_X11_off a1 a2 = some r) (I : MI) (L : ML) : MetI g l yX11_off cX11_off 4 .int 0 [.long a1, .long a2] I L r I L := by
  unfold f_X11_off at h
  refine w_enter (by decide) (Nat.le_of_ble_eq_true rfl) (own := RX11) rfl ?_
  intro p e s m below meth c args Q hQ C hr hlocks hW ls hl
  have hl : lv_has ls 4 [(0, .long a1), (2, .long a2)] := hl
  refine lv_lload_n C.1.1 C.1.2.1 dX11_off_0 rfl (lv_at hl 0 rfl) ?_
  refine lv_lload_n C.1.1 C.1.2.1 dX11_off_1 rfl (lv_at hl 1 rfl) ?_
  refine W.lcmp C.1.1 C.1.2.1 dX11_off_2 ?_
  obtain ⟨y1, hj3, h⟩ := bd1_some h
  have kJ2 : ∀ (H : Heap) (locs : List Loc) (ls : Array Slot), Ws g s I L H locs → lv_has ls 4 [] → W p l e (rmD 0) s m args below meth c H locs 0 0 Q (F0 m 15 ls [.long y1]) := by
    intro H locs ls hW hl
    refine lv_l2i C.1.1 C.1.2.1 dX11_off_15 rfl ?_
    obtain rfl := inj1 h
    subst hQ
    exact w_iret C hW hr hlocks dX11_off_16
  clear h
  have h := hj3
  clear hj3
  refine lv_if_ge (tgt := 12) C.1.1 C.1.2.1 dX11_off_3 (by decide) (fun hc4 => ?_) (fun hc4 => ?_)
  · replace h := ite_t hc4 h
    refine lv_lload_n C.1.1 C.1.2.1 dX11_off_12 rfl (lv_at hl 0 rfl) ?_
    refine lv_lload_n C.1.1 C.1.2.1 dX11_off_13 rfl (lv_at hl 1 rfl) ?_
    refine lv_lsub C.1.1 C.1.2.1 dX11_off_14 ?_
    obtain rfl := inj1 h
    exact kJ2 _ _ _ hW (lv_sub hl [] rfl)
  · replace h := ite_f hc4 h
    refine lv_lload_n C.1.1 C.1.2.1 dX11_off_6 rfl (lv_at hl 1 rfl) ?_
    refine lv_lload_n C.1.1 C.1.2.1 dX11_off_7 rfl (lv_at hl 0 rfl) ?_
    refine lv_lsub C.1.1 C.1.2.1 dX11_off_8 ?_
    refine lv_goto (tgt := 15) C.1.1 C.1.2.1 dX11_off_9 (by decide) ?_
    obtain rfl := inj1 h
    exact kJ2 _ _ _ hW (lv_sub hl [] rfl)
def f_X11_wayOf (a1 : Int32) (a2 : Int32) (a3 : Int32) (I : MI) (L : ML) : Option (Int32) :=
  gi (a1 + ((2 : Int32) * a2)) 96 (gi (a1 + ((2 : Int32) * a3)) 96 (bd1 (f_X11_off (L 247 (a1 + ((2 : Int32) * a2)).toNatClampNeg) (L 247 (a1 + ((2 : Int32) * a3)).toNatClampNeg)) (fun r3 => gi ((a1 + ((2 : Int32) * a2)) + (1 : Int32)) 96 (gi ((a1 + ((2 : Int32) * a3)) + (1 : Int32)) 96 (bd1 (f_X11_off (L 247 ((a1 + ((2 : Int32) * a2)) + (1 : Int32)).toNatClampNeg) (L 247 ((a1 + ((2 : Int32) * a3)) + (1 : Int32)).toNatClampNeg)) (fun r7 => some (r3 + r7)))))))
set_option maxHeartbeats 4000000 in
set_option maxRecDepth 100000 in
theorem c_X11_wayOf (g : Gp) (l : Launch) {a1 : Int32} {a2 : Int32} {a3 : Int32}  {I : MI} {L : ML} {r : Int32} (h : f_X11_wayOf a1 a2 a3 I L = some r) : MetI g l yX11_wayOf cX11_wayOf 4 .int 1 [.ref (g.1 + 244), .int a1, .int a2, .int a3] I L r I L := by
  unfold f_X11_wayOf at h
  refine w_enter (by decide) (Nat.le_of_ble_eq_true rfl) (own := RX11) rfl ?_
  intro p e s m below meth c args Q hQ C hr hlocks hW ls hl
  have hl : lv_has ls 4 [(0, .ref (g.1 + 244)), (1, .int a1), (2, .int a2), (3, .int a3)] := hl
  refine lv_aload_n C.1.1 C.1.2.1 dX11_wayOf_0 rfl (lv_at hl 0 rfl) ?_
  refine G_X11_17 C hW (by decide) dX11_wayOf_1 ?_
  refine lv_iload_n C.1.1 C.1.2.1 dX11_wayOf_4 rfl (lv_at hl 1 rfl) ?_
  refine lv_iconst (v := 2) C.1.1 C.1.2.1 dX11_wayOf_5 (by decide) ?_
  refine lv_iload_n C.1.1 C.1.2.1 dX11_wayOf_6 rfl (lv_at hl 2 rfl) ?_
  refine lv_imul C.1.1 C.1.2.1 dX11_wayOf_7 ?_
  refine lv_iadd C.1.1 C.1.2.1 dX11_wayOf_8 ?_
  obtain ⟨hi1, h⟩ := gi_some h
  refine w_lald C hW (n := 96) (by decide) (by decide) hi1 dX11_wayOf_9 ?_
  refine lv_aload_n C.1.1 C.1.2.1 dX11_wayOf_10 rfl (lv_at hl 0 rfl) ?_
  refine G_X11_17 C hW (by decide) dX11_wayOf_11 ?_
  refine lv_iload_n C.1.1 C.1.2.1 dX11_wayOf_14 rfl (lv_at hl 1 rfl) ?_
  refine lv_iconst (v := 2) C.1.1 C.1.2.1 dX11_wayOf_15 (by decide) ?_
  refine lv_iload_n C.1.1 C.1.2.1 dX11_wayOf_16 rfl (lv_at hl 3 rfl) ?_
  refine lv_imul C.1.1 C.1.2.1 dX11_wayOf_17 ?_
  refine lv_iadd C.1.1 C.1.2.1 dX11_wayOf_18 ?_
  obtain ⟨hi2, h⟩ := gi_some h
  refine w_lald C hW (n := 96) (by decide) (by decide) hi2 dX11_wayOf_19 ?_
  obtain ⟨r3, hc4, h⟩ := bd1_some h
  refine w_callSi (k := 2) (As := [.long (L 247 (a1 + ((2 : Int32) * a2)).toNatClampNeg), .long (L 247 (a1 + ((2 : Int32) * a3)).toNatClampNeg)]) (rest := []) C hW (c_X11_off g l  hc4 I L) K_X11_216 (by decide +kernel) ⟨by decide, by decide⟩ ⟨Nat.le_refl _, Nat.le_refl _⟩ rfl hl.1 rfl (Nat.le_of_ble_eq_true rfl) dX11_wayOf_20 (fun H locs hW => ?_)
  refine lv_aload_n C.1.1 C.1.2.1 dX11_wayOf_23 rfl (lv_at hl 0 rfl) ?_
  refine G_X11_17 C hW (by decide) dX11_wayOf_24 ?_
  refine lv_iload_n C.1.1 C.1.2.1 dX11_wayOf_27 rfl (lv_at hl 1 rfl) ?_
  refine lv_iconst (v := 2) C.1.1 C.1.2.1 dX11_wayOf_28 (by decide) ?_
  refine lv_iload_n C.1.1 C.1.2.1 dX11_wayOf_29 rfl (lv_at hl 2 rfl) ?_
  refine lv_imul C.1.1 C.1.2.1 dX11_wayOf_30 ?_
  refine lv_iadd C.1.1 C.1.2.1 dX11_wayOf_31 ?_
  refine lv_iconst (v := 1) C.1.1 C.1.2.1 dX11_wayOf_32 (by decide) ?_
  refine lv_iadd C.1.1 C.1.2.1 dX11_wayOf_33 ?_
  obtain ⟨hi5, h⟩ := gi_some h
  refine w_lald C hW (n := 96) (by decide) (by decide) hi5 dX11_wayOf_34 ?_
  refine lv_aload_n C.1.1 C.1.2.1 dX11_wayOf_35 rfl (lv_at hl 0 rfl) ?_
  refine G_X11_17 C hW (by decide) dX11_wayOf_36 ?_
  refine lv_iload_n C.1.1 C.1.2.1 dX11_wayOf_39 rfl (lv_at hl 1 rfl) ?_
  refine lv_iconst (v := 2) C.1.1 C.1.2.1 dX11_wayOf_40 (by decide) ?_
  refine lv_iload_n C.1.1 C.1.2.1 dX11_wayOf_41 rfl (lv_at hl 3 rfl) ?_
  refine lv_imul C.1.1 C.1.2.1 dX11_wayOf_42 ?_
  refine lv_iadd C.1.1 C.1.2.1 dX11_wayOf_43 ?_
  refine lv_iconst (v := 1) C.1.1 C.1.2.1 dX11_wayOf_44 (by decide) ?_
  refine lv_iadd C.1.1 C.1.2.1 dX11_wayOf_45 ?_
  obtain ⟨hi6, h⟩ := gi_some h
  refine w_lald C hW (n := 96) (by decide) (by decide) hi6 dX11_wayOf_46 ?_
  obtain ⟨r7, hc8, h⟩ := bd1_some h
  refine w_callSi (k := 2) (As := [.long (L 247 ((a1 + ((2 : Int32) * a2)) + (1 : Int32)).toNatClampNeg), .long (L 247 ((a1 + ((2 : Int32) * a3)) + (1 : Int32)).toNatClampNeg)]) (rest := [.int r3]) C hW (c_X11_off g l  hc8 I L) K_X11_216 (by decide +kernel) ⟨by decide, by decide⟩ ⟨Nat.le_refl _, Nat.le_refl _⟩ rfl hl.1 rfl (Nat.le_of_ble_eq_true rfl) dX11_wayOf_47 (fun H locs hW => ?_)
  refine lv_iadd C.1.1 C.1.2.1 dX11_wayOf_50 ?_
  obtain rfl := inj1 h
  subst hQ
  exact w_iret C hW hr hlocks dX11_wayOf_51
def b_X11_layWays_60 (v1 : Int32) (v2 : Int32) (v3 : Int32) (v4 : Int32) (v5 : Int32) (v6 : Int32) (I : MI) (L : ML) (z7 : Int32) (z8 : Int32) : Option ((Int32 × Int32) ⊕ ((Int32))) :=
  (if v2 ≤ z8 then some (Sum.inr z7) else bd1 (f_X11_has v6 (z8 - (1 : Int32))) (fun r9 => bd1 ((if r9 = 0 then some (1000000 : Int32) else gi ((((7 : Int32) * v6) + z8) - (1 : Int32)) 448 (bd1 (f_X11_wayOf v1 z8 v5 I L) (fun r21 => some ((I 254 ((((7 : Int32) * v6) + z8) - (1 : Int32)).toNatClampNeg) + r21))))) (fun y11 => bd1 (if z7 ≤ y11 then some z7 else some y11) (fun y14 => nm (z8 + (1 : Int32)) (fun x17 => some (Sum.inl (y14, x17)))))))
set_option maxHeartbeats 4000000 in
set_option maxRecDepth 100000 in
theorem l_X11_layWays_60 {g : Gp} {p : Program} {l : Launch} {e : Env} {s : State} {m : MethodId} {args : Array Value} {below : List Frame} {meth : Method} {c : Code} {Q : State → Prop}  (C : Cx g p s m args c RX11 cX11_layWays 10) (v1 : Int32) (v2 : Int32) (v3 : Int32) (v4 : Int32) (v5 : Int32) (v6 : Int32)  (I : MI) (L : ML) : ∀ (n : Nat) (z7 : Int32) (z8 : Int32) (y0_7 : Int32), lp (fun s => b_X11_layWays_60 v1 v2 v3 v4 v5 v6 I L s.1 s.2) n (z7, z8) = some y0_7 → ∀ (H : Heap) (locs : List Loc) (ls : Array Slot), Ws g s I L H locs → lv_has ls 10 [(0, .ref (g.1 + 244)), (1, .int v1), (2, .int v2), (3, .int v3), (4, .int v4), (5, .int v5), (6, .int v6), (7, .int z7), (8, .int z8)] → (∀ (H : Heap) (locs : List Loc) (ls : Array Slot), Ws g s I L H locs → lv_has ls 10 [(0, .ref (g.1 + 244)), (1, .int v1), (2, .int v2), (3, .int v3), (4, .int v4), (5, .int v5), (7, .int y0_7)] → W p l e (rmD 2) s m args below meth c H locs 0 0 Q (F0 m 132 ls [])) → W p l e (rmD 2) s m args below meth c H locs 0 0 Q (F0 m 60 ls []) := by
  intro n
  induction n with
  | zero => intro z7 z8 y0_7 h; exact lp_zero h
  | succ n ih =>
      intro z7 z8 y0_7 h H locs ls hW hl hx0
      obtain ⟨r9, h, h9⟩ := lp_some h
      have h : b_X11_layWays_60 v1 v2 v3 v4 v5 v6 I L z7 z8 = some r9 := h
      unfold b_X11_layWays_60 at h
      refine lv_iload C.1.1 C.1.2.1 dX11_layWays_60 (lv_at hl 8 rfl) ?_
      refine lv_iload_n C.1.1 C.1.2.1 dX11_layWays_62 rfl (lv_at hl 2 rfl) ?_
      refine lv_icmp_ge (tgt := 132) C.1.1 C.1.2.1 dX11_layWays_63 (by decide) (fun hc8 => ?_) (fun hc8 => ?_)
      · replace h := ite_t hc8 h
        obtain rfl := Option.some.inj h
        replace h9 := Option.some.inj h9
        obtain rfl := pnj1 h9
        exact hx0 _ _ _ hW (lv_sub hl [0, 1, 2, 3, 4, 5, 7] rfl)
      · replace h := ite_f hc8 h
        refine lv_iload C.1.1 C.1.2.1 dX11_layWays_66 (lv_at hl 6 rfl) ?_
        refine lv_iload C.1.1 C.1.2.1 dX11_layWays_68 (lv_at hl 8 rfl) ?_
        refine lv_iconst (v := 1) C.1.1 C.1.2.1 dX11_layWays_70 (by decide) ?_
        refine lv_isub C.1.1 C.1.2.1 dX11_layWays_71 ?_
        obtain ⟨r9, hc10, h⟩ := bd1_some h
        refine w_callSi (k := 2) (As := [.int v6, .int (z8 - (1 : Int32))]) (rest := []) C hW (c_X11_has g l  hc10 I L) K_X11_156 (by decide +kernel) ⟨by decide, by decide⟩ ⟨Nat.le_refl _, Nat.le_refl _⟩ rfl hl.1 rfl (Nat.le_of_ble_eq_true rfl) dX11_layWays_72 (fun H locs hW => ?_)
        obtain ⟨y11, hj13, h⟩ := bd1_some h
        have kJ12 : ∀ (H : Heap) (locs : List Loc) (ls : Array Slot), Ws g s I L H locs → lv_has ls 10 [(0, .ref (g.1 + 244)), (1, .int v1), (2, .int v2), (3, .int v3), (4, .int v4), (5, .int v5), (6, .int v6), (7, .int z7), (8, .int z8)] → W p l e (rmD 2) s m args below meth c H locs 0 0 Q (F0 m 108 ls [.int y11]) := by
          intro H locs ls hW hl
          refine lv_istore (lv' := [(9, .int y11), (0, .ref (g.1 + 244)), (1, .int v1), (2, .int v2), (3, .int v3), (4, .int v4), (5, .int v5), (6, .int v6), (7, .int z7), (8, .int z8)]) C.1.1 C.1.2.1 dX11_layWays_108 hl (by decide) rfl (fun ls hl => ?_)
          refine lv_iload C.1.1 C.1.2.1 dX11_layWays_110 (lv_at hl 0 rfl) ?_
          refine lv_iload C.1.1 C.1.2.1 dX11_layWays_112 (lv_at hl 8 rfl) ?_
          obtain ⟨y14, hj16, h⟩ := bd1_some h
          have kJ15 : ∀ (H : Heap) (locs : List Loc) (ls : Array Slot), Ws g s I L H locs → lv_has ls 10 [(0, .ref (g.1 + 244)), (1, .int v1), (2, .int v2), (3, .int v3), (4, .int v4), (5, .int v5), (6, .int v6), (8, .int z8)] → W p l e (rmD 2) s m args below meth c H locs 0 0 Q (F0 m 124 ls [.int y14]) := by
            intro H locs ls hW hl
            refine lv_istore (lv' := [(7, .int y14), (0, .ref (g.1 + 244)), (1, .int v1), (2, .int v2), (3, .int v3), (4, .int v4), (5, .int v5), (6, .int v6), (8, .int z8)]) C.1.1 C.1.2.1 dX11_layWays_124 hl (by decide) rfl (fun ls hl => ?_)
            obtain ⟨x17, ex17⟩ : ∃ y : Int32, y = z8 + (1 : Int32) := ⟨_, rfl⟩
            replace h := nm_at ex17 h
            refine lv_iinc (v := x17) (lv' := [(8, .int x17), (7, .int y14), (0, .ref (g.1 + 244)), (1, .int v1), (2, .int v2), (3, .int v3), (4, .int v4), (5, .int v5), (6, .int v6)]) C.1.1 C.1.2.1 dX11_layWays_126 hl (k := 8) rfl (by rw [ex17]; rfl) (by decide) rfl (fun ls hl => ?_)
            clear ex17
            refine lv_goto (tgt := 60) C.1.1 C.1.2.1 dX11_layWays_129 (by decide) ?_
            obtain rfl := Option.some.inj h
            exact ih _ _ _ h9 _ _ _ hW (lv_sub hl [2, 3, 4, 5, 6, 7, 8, 1, 0] rfl) hx0
          clear h
          have h := hj16
          clear hj16
          refine lv_icmp_ge (tgt := 122) C.1.1 C.1.2.1 dX11_layWays_114 (by decide) (fun hc18 => ?_) (fun hc18 => ?_)
          · replace h := ite_t hc18 h
            refine lv_iload C.1.1 C.1.2.1 dX11_layWays_122 (lv_at hl 8 rfl) ?_
            obtain rfl := inj1 h
            exact kJ15 _ _ _ hW (lv_sub hl [1, 2, 3, 4, 5, 6, 7, 9] rfl)
          · replace h := ite_f hc18 h
            refine lv_iload C.1.1 C.1.2.1 dX11_layWays_117 (lv_at hl 0 rfl) ?_
            refine lv_goto (tgt := 124) C.1.1 C.1.2.1 dX11_layWays_119 (by decide) ?_
            obtain rfl := inj1 h
            exact kJ15 _ _ _ hW (lv_sub hl [1, 2, 3, 4, 5, 6, 7, 9] rfl)
        clear h
        have h := hj13
        clear hj13
        refine lv_if_eq (tgt := 106) C.1.1 C.1.2.1 dX11_layWays_75 (by decide) (fun hc19 => ?_) (fun hc19 => ?_)
        · replace h := ite_t hc19 h
          refine lv_ldc C.1.1 C.1.2.1 C.1.2.2.2.1 (C.1.2.2.2.2 _ kc_X11_146) dX11_layWays_106 ?_
          obtain rfl := inj1 h
          exact kJ12 _ _ _ hW (lv_sub hl [0, 1, 2, 3, 4, 5, 6, 7, 8] rfl)
        · replace h := ite_f hc19 h
          refine lv_aload_n C.1.1 C.1.2.1 dX11_layWays_78 rfl (lv_at hl 0 rfl) ?_
          refine G_X11_39 C hW (by decide) dX11_layWays_79 ?_
          refine lv_bipush (v := 7) C.1.1 C.1.2.1 dX11_layWays_82 (by decide) ?_
          refine lv_iload C.1.1 C.1.2.1 dX11_layWays_84 (lv_at hl 6 rfl) ?_
          refine lv_imul C.1.1 C.1.2.1 dX11_layWays_86 ?_
          refine lv_iload C.1.1 C.1.2.1 dX11_layWays_87 (lv_at hl 8 rfl) ?_
          refine lv_iadd C.1.1 C.1.2.1 dX11_layWays_89 ?_
          refine lv_iconst (v := 1) C.1.1 C.1.2.1 dX11_layWays_90 (by decide) ?_
          refine lv_isub C.1.1 C.1.2.1 dX11_layWays_91 ?_
          obtain ⟨hi20, h⟩ := gi_some h
          refine w_iald C hW (n := 448) (by decide) (by decide) hi20 dX11_layWays_92 ?_
          refine lv_aload_n C.1.1 C.1.2.1 dX11_layWays_93 rfl (lv_at hl 0 rfl) ?_
          refine lv_iload_n C.1.1 C.1.2.1 dX11_layWays_94 rfl (lv_at hl 1 rfl) ?_
          refine lv_iload C.1.1 C.1.2.1 dX11_layWays_95 (lv_at hl 8 rfl) ?_
          refine lv_iload C.1.1 C.1.2.1 dX11_layWays_97 (lv_at hl 5 rfl) ?_
          obtain ⟨r21, hc22, h⟩ := bd1_some h
          refine w_callVi (k := 3) (As := [.int v1, .int z8, .int v5]) (rest := [.int (I 254 ((((7 : Int32) * v6) + z8) - (1 : Int32)).toNatClampNeg)]) C hW (c_X11_wayOf g l  hc22) (by decide) rfl (EX_11 (by decide)) K_X11_220 (by decide +kernel) ⟨by decide, by decide⟩ ⟨Nat.le_refl _, Nat.le_refl _⟩ rfl hl.1 rfl (Nat.le_of_ble_eq_true rfl) dX11_layWays_99 (fun H locs hW => ?_)
          refine lv_iadd C.1.1 C.1.2.1 dX11_layWays_102 ?_
          refine lv_goto (tgt := 108) C.1.1 C.1.2.1 dX11_layWays_103 (by decide) ?_
          obtain rfl := inj1 h
          exact kJ12 _ _ _ hW (lv_sub hl [0, 1, 2, 3, 4, 5, 6, 7, 8] rfl)
def b_X11_layWays_18 (v1 : Int32) (v2 : Int32) (v3 : Int32) (v4 : Int32) (L : ML) (z5 : Int32) (I : MI) : Option ((Int32 × MI) ⊕ ((MI))) :=
  (if v2 ≤ z5 then some (Sum.inr I) else nm (v4 &&& (((1 : Int32) <<< ((z5 - (1 : Int32)) &&& (31 : Int32))) ^^^ (-1 : Int32))) (fun x4 => bd1 ((if x4 = 0 then bd1 (f_X11_wayOf v1 (0 : Int32) z5 I L) (fun r35 => some r35) else some (1000000 : Int32))) (fun y5 => bd1 (lp (fun s => b_X11_layWays_60 v1 v2 v3 v4 z5 x4 I L s.1 s.2) FU ((y5, (1 : Int32)))) (fun y24 => bd1 (f_X11_has v4 (z5 - (1 : Int32))) (fun r25 => bd1 ((if r25 = 0 then some (1000000 : Int32) else some y24)) (fun y27 => gi ((((7 : Int32) * v4) + z5) - (1 : Int32)) 448 (nm (up2 I 254 (((((7 : Int32) * v4) + z5) - (1 : Int32)).toNatClampNeg) y27) (fun I31 => nm (z5 + (1 : Int32)) (fun x32 => some (Sum.inl (x32, I31)))))))))))
set_option maxHeartbeats 4000000 in
set_option maxRecDepth 100000 in
theorem l_X11_layWays_18 {g : Gp} {p : Program} {l : Launch} {e : Env} {s : State} {m : MethodId} {args : Array Value} {below : List Frame} {meth : Method} {c : Code} {Q : State → Prop}  (C : Cx g p s m args c RX11 cX11_layWays 10) (v1 : Int32) (v2 : Int32) (v3 : Int32) (v4 : Int32)  (L : ML) : ∀ (n : Nat) (z5 : Int32) (I : MI) (Iy0 : MI), lp (fun s => b_X11_layWays_18 v1 v2 v3 v4 L s.1 s.2) n (z5, I) = some Iy0 → ∀ (H : Heap) (locs : List Loc) (ls : Array Slot), Ws g s I L H locs → lv_has ls 10 [(0, .ref (g.1 + 244)), (1, .int v1), (2, .int v2), (3, .int v3), (4, .int v4), (5, .int z5)] → (∀ (H : Heap) (locs : List Loc) (ls : Array Slot), Ws g s Iy0 L H locs → lv_has ls 10 [(0, .ref (g.1 + 244)), (1, .int v1), (2, .int v2), (3, .int v3), (4, .int v4)] → W p l e (rmD 2) s m args below meth c H locs 0 0 Q (F0 m 172 ls [])) → W p l e (rmD 2) s m args below meth c H locs 0 0 Q (F0 m 18 ls []) := by
  intro n
  induction n with
  | zero => intro z5 I Iy0 h; exact lp_zero h
  | succ n ih =>
      intro z5 I Iy0 h H locs ls hW hl hx0
      obtain ⟨r9, h, h9⟩ := lp_some h
      have h : b_X11_layWays_18 v1 v2 v3 v4 L z5 I = some r9 := h
      unfold b_X11_layWays_18 at h
      refine lv_iload C.1.1 C.1.2.1 dX11_layWays_18 (lv_at hl 5 rfl) ?_
      refine lv_iload_n C.1.1 C.1.2.1 dX11_layWays_20 rfl (lv_at hl 2 rfl) ?_
      refine lv_icmp_ge (tgt := 172) C.1.1 C.1.2.1 dX11_layWays_21 (by decide) (fun hc3 => ?_) (fun hc3 => ?_)
      · replace h := ite_t hc3 h
        obtain rfl := Option.some.inj h
        replace h9 := Option.some.inj h9
        obtain rfl := pnj1 h9
        exact hx0 _ _ _ hW (lv_sub hl [0, 1, 2, 3, 4] rfl)
      · replace h := ite_f hc3 h
        refine lv_iload C.1.1 C.1.2.1 dX11_layWays_24 (lv_at hl 4 rfl) ?_
        refine lv_iconst (v := 1) C.1.1 C.1.2.1 dX11_layWays_26 (by decide) ?_
        refine lv_iload C.1.1 C.1.2.1 dX11_layWays_27 (lv_at hl 5 rfl) ?_
        refine lv_iconst (v := 1) C.1.1 C.1.2.1 dX11_layWays_29 (by decide) ?_
        refine lv_isub C.1.1 C.1.2.1 dX11_layWays_30 ?_
        refine lv_ishl C.1.1 C.1.2.1 dX11_layWays_31 ?_
        refine lv_iconst (v := -1) C.1.1 C.1.2.1 dX11_layWays_32 (by decide) ?_
        refine lv_ixor C.1.1 C.1.2.1 dX11_layWays_33 ?_
        refine lv_iand C.1.1 C.1.2.1 dX11_layWays_34 ?_
        refine lv_topi (fun x4 ex4 => ?_)
        replace h := nm_at ex4 h
        clear ex4
        refine lv_istore (lv' := [(6, .int x4), (0, .ref (g.1 + 244)), (1, .int v1), (2, .int v2), (3, .int v3), (4, .int v4), (5, .int z5)]) C.1.1 C.1.2.1 dX11_layWays_35 hl (by decide) rfl (fun ls hl => ?_)
        refine lv_iload C.1.1 C.1.2.1 dX11_layWays_37 (lv_at hl 0 rfl) ?_
        obtain ⟨y5, hj7, h⟩ := bd1_some h
        have kJ6 : ∀ (H : Heap) (locs : List Loc) (ls : Array Slot), Ws g s I L H locs → lv_has ls 10 [(0, .ref (g.1 + 244)), (1, .int v1), (2, .int v2), (3, .int v3), (4, .int v4), (5, .int z5), (6, .int x4)] → W p l e (rmD 2) s m args below meth c H locs 0 0 Q (F0 m 55 ls [.int y5]) := by
          intro H locs ls hW hl
          refine lv_istore (lv' := [(7, .int y5), (0, .ref (g.1 + 244)), (1, .int v1), (2, .int v2), (3, .int v3), (4, .int v4), (5, .int z5), (6, .int x4)]) C.1.1 C.1.2.1 dX11_layWays_55 hl (by decide) rfl (fun ls hl => ?_)
          refine lv_iconst (v := 1) C.1.1 C.1.2.1 dX11_layWays_57 (by decide) ?_
          refine lv_istore (lv' := [(8, .int (1 : Int32)), (7, .int y5), (0, .ref (g.1 + 244)), (1, .int v1), (2, .int v2), (3, .int v3), (4, .int v4), (5, .int z5), (6, .int x4)]) C.1.1 C.1.2.1 dX11_layWays_58 hl (by decide) rfl (fun ls hl => ?_)
          obtain ⟨y24, hq23, h⟩ := bd1_some h
          refine l_X11_layWays_60 C v1 v2 v3 v4 z5 x4  I L _ _ _ _ hq23 _ _ _ hW (lv_sub hl [2, 3, 4, 5, 6, 7, 8, 1, 0] rfl) (fun H locs ls hW hl => ?_)
          refine lv_aload_n C.1.1 C.1.2.1 dX11_layWays_132 rfl (lv_at hl 0 rfl) ?_
          refine G_X11_39 C hW (by decide) dX11_layWays_133 ?_
          refine lv_bipush (v := 7) C.1.1 C.1.2.1 dX11_layWays_136 (by decide) ?_
          refine lv_iload C.1.1 C.1.2.1 dX11_layWays_138 (lv_at hl 4 rfl) ?_
          refine lv_imul C.1.1 C.1.2.1 dX11_layWays_140 ?_
          refine lv_iload C.1.1 C.1.2.1 dX11_layWays_141 (lv_at hl 5 rfl) ?_
          refine lv_iadd C.1.1 C.1.2.1 dX11_layWays_143 ?_
          refine lv_iconst (v := 1) C.1.1 C.1.2.1 dX11_layWays_144 (by decide) ?_
          refine lv_isub C.1.1 C.1.2.1 dX11_layWays_145 ?_
          refine lv_iload C.1.1 C.1.2.1 dX11_layWays_146 (lv_at hl 4 rfl) ?_
          refine lv_iload C.1.1 C.1.2.1 dX11_layWays_148 (lv_at hl 5 rfl) ?_
          refine lv_iconst (v := 1) C.1.1 C.1.2.1 dX11_layWays_150 (by decide) ?_
          refine lv_isub C.1.1 C.1.2.1 dX11_layWays_151 ?_
          obtain ⟨r25, hc26, h⟩ := bd1_some h
          refine w_callSi (k := 2) (As := [.int v4, .int (z5 - (1 : Int32))]) (rest := [.int ((((7 : Int32) * v4) + z5) - (1 : Int32)), .ref (g.1 + 254)]) C hW (c_X11_has g l  hc26 I L) K_X11_156 (by decide +kernel) ⟨by decide, by decide⟩ ⟨Nat.le_refl _, Nat.le_refl _⟩ rfl hl.1 rfl (Nat.le_of_ble_eq_true rfl) dX11_layWays_152 (fun H locs hW => ?_)
          obtain ⟨y27, hj29, h⟩ := bd1_some h
          have kJ28 : ∀ (H : Heap) (locs : List Loc) (ls : Array Slot), Ws g s I L H locs → lv_has ls 10 [(0, .ref (g.1 + 244)), (1, .int v1), (2, .int v2), (3, .int v3), (4, .int v4), (5, .int z5)] → W p l e (rmD 2) s m args below meth c H locs 0 0 Q (F0 m 165 ls [.int y27, .int ((((7 : Int32) * v4) + z5) - (1 : Int32)), .ref (g.1 + 254)]) := by
            intro H locs ls hW hl
            obtain ⟨hi30, h⟩ := gi_some h
            refine w_iast C hW (n := 448) (by decide) (by decide) hi30 dX11_layWays_165 (fun H locs hW => ?_)
            obtain ⟨I31, eI31, h⟩ := nm_some h
            rw [← eI31] at hW
            clear eI31
            obtain ⟨x32, ex32⟩ : ∃ y : Int32, y = z5 + (1 : Int32) := ⟨_, rfl⟩
            replace h := nm_at ex32 h
            refine lv_iinc (v := x32) (lv' := [(5, .int x32), (0, .ref (g.1 + 244)), (1, .int v1), (2, .int v2), (3, .int v3), (4, .int v4)]) C.1.1 C.1.2.1 dX11_layWays_166 hl (k := 5) rfl (by rw [ex32]; rfl) (by decide) rfl (fun ls hl => ?_)
            clear ex32
            refine lv_goto (tgt := 18) C.1.1 C.1.2.1 dX11_layWays_169 (by decide) ?_
            obtain rfl := Option.some.inj h
            exact ih _ _ _ h9 _ _ _ hW (lv_sub hl [1, 2, 3, 4, 5, 0] rfl) hx0
          clear h
          have h := hj29
          clear hj29
          refine lv_if_eq (tgt := 163) C.1.1 C.1.2.1 dX11_layWays_155 (by decide) (fun hc33 => ?_) (fun hc33 => ?_)
          · replace h := ite_t hc33 h
            refine lv_ldc C.1.1 C.1.2.1 C.1.2.2.2.1 (C.1.2.2.2.2 _ kc_X11_146) dX11_layWays_163 ?_
            obtain rfl := inj1 h
            exact kJ28 _ _ _ hW (lv_sub hl [0, 1, 2, 3, 4, 5] rfl)
          · replace h := ite_f hc33 h
            refine lv_iload C.1.1 C.1.2.1 dX11_layWays_158 (lv_at hl 6 rfl) ?_
            refine lv_goto (tgt := 165) C.1.1 C.1.2.1 dX11_layWays_160 (by decide) ?_
            obtain rfl := inj1 h
            exact kJ28 _ _ _ hW (lv_sub hl [0, 1, 2, 3, 4, 5] rfl)
        clear h
        have h := hj7
        clear hj7
        refine lv_if_ne (tgt := 53) C.1.1 C.1.2.1 dX11_layWays_39 (by decide) (fun hc34 => ?_) (fun hc34 => ?_)
        · replace h := ite_f hc34 h
          refine lv_ldc C.1.1 C.1.2.1 C.1.2.2.2.1 (C.1.2.2.2.2 _ kc_X11_146) dX11_layWays_53 ?_
          obtain rfl := inj1 h
          exact kJ6 _ _ _ hW (lv_sub hl [1, 2, 3, 4, 5, 6, 0] rfl)
        · replace h := ite_t hc34 h
          refine lv_aload_n C.1.1 C.1.2.1 dX11_layWays_42 rfl (lv_at hl 1 rfl) ?_
          refine lv_iload_n C.1.1 C.1.2.1 dX11_layWays_43 rfl (lv_at hl 2 rfl) ?_
          refine lv_iconst (v := 0) C.1.1 C.1.2.1 dX11_layWays_44 (by decide) ?_
          refine lv_iload C.1.1 C.1.2.1 dX11_layWays_45 (lv_at hl 6 rfl) ?_
          obtain ⟨r35, hc36, h⟩ := bd1_some h
          refine w_callVi (k := 3) (As := [.int v1, .int (0 : Int32), .int z5]) (rest := []) C hW (c_X11_wayOf g l  hc36) (by decide) rfl (EX_11 (by decide)) K_X11_220 (by decide +kernel) ⟨by decide, by decide⟩ ⟨Nat.le_refl _, Nat.le_refl _⟩ rfl hl.1 rfl (Nat.le_of_ble_eq_true rfl) dX11_layWays_47 (fun H locs hW => ?_)
          refine lv_goto (tgt := 55) C.1.1 C.1.2.1 dX11_layWays_50 (by decide) ?_
          obtain rfl := inj1 h
          exact kJ6 _ _ _ hW (lv_sub hl [1, 2, 3, 4, 5, 6, 0] rfl)
def b_X11_layWays_9 (v1 : Int32) (v2 : Int32) (v3 : Int32) (L : ML) (z4 : Int32) (I : MI) : Option ((Int32 × MI) ⊕ ((MI))) :=
  (if v3 ≤ z4 then some (Sum.inr I) else bd1 (lp (fun s => b_X11_layWays_18 v1 v2 v3 z4 L s.1 s.2) FU (((1 : Int32), I))) (fun I38 => nm (z4 + (1 : Int32)) (fun x39 => some (Sum.inl (x39, I38)))))
set_option maxHeartbeats 4000000 in
set_option maxRecDepth 100000 in
theorem l_X11_layWays_9 {g : Gp} {p : Program} {l : Launch} {e : Env} {s : State} {m : MethodId} {args : Array Value} {below : List Frame} {meth : Method} {c : Code} {Q : State → Prop}  (C : Cx g p s m args c RX11 cX11_layWays 10) (v1 : Int32) (v2 : Int32) (v3 : Int32)  (L : ML) : ∀ (n : Nat) (z4 : Int32) (I : MI) (Iy0 : MI), lp (fun s => b_X11_layWays_9 v1 v2 v3 L s.1 s.2) n (z4, I) = some Iy0 → ∀ (H : Heap) (locs : List Loc) (ls : Array Slot), Ws g s I L H locs → lv_has ls 10 [(0, .ref (g.1 + 244)), (1, .int v1), (2, .int v2), (3, .int v3), (4, .int z4)] → (∀ (H : Heap) (locs : List Loc) (ls : Array Slot), Ws g s Iy0 L H locs → lv_has ls 10 [] → W p l e (rmD 2) s m args below meth c H locs 0 0 Q (F0 m 178 ls [])) → W p l e (rmD 2) s m args below meth c H locs 0 0 Q (F0 m 9 ls []) := by
  intro n
  induction n with
  | zero => intro z4 I Iy0 h; exact lp_zero h
  | succ n ih =>
      intro z4 I Iy0 h H locs ls hW hl hx0
      obtain ⟨r9, h, h9⟩ := lp_some h
      have h : b_X11_layWays_9 v1 v2 v3 L z4 I = some r9 := h
      unfold b_X11_layWays_9 at h
      refine lv_iload C.1.1 C.1.2.1 dX11_layWays_9 (lv_at hl 4 rfl) ?_
      refine lv_iload_n C.1.1 C.1.2.1 dX11_layWays_11 rfl (lv_at hl 3 rfl) ?_
      refine lv_icmp_ge (tgt := 178) C.1.1 C.1.2.1 dX11_layWays_12 (by decide) (fun hc2 => ?_) (fun hc2 => ?_)
      · replace h := ite_t hc2 h
        obtain rfl := Option.some.inj h
        replace h9 := Option.some.inj h9
        obtain rfl := pnj1 h9
        exact hx0 _ _ _ hW (lv_sub hl [] rfl)
      · replace h := ite_f hc2 h
        refine lv_iconst (v := 1) C.1.1 C.1.2.1 dX11_layWays_15 (by decide) ?_
        refine lv_istore (lv' := [(5, .int (1 : Int32)), (0, .ref (g.1 + 244)), (1, .int v1), (2, .int v2), (3, .int v3), (4, .int z4)]) C.1.1 C.1.2.1 dX11_layWays_16 hl (by decide) rfl (fun ls hl => ?_)
        obtain ⟨I38, hq37, h⟩ := bd1_some h
        refine l_X11_layWays_18 C v1 v2 v3 z4  L _ _ _ _ hq37 _ _ _ hW (lv_sub hl [1, 2, 3, 4, 5, 0] rfl) (fun H locs ls hW hl => ?_)
        obtain ⟨x39, ex39⟩ : ∃ y : Int32, y = z4 + (1 : Int32) := ⟨_, rfl⟩
        replace h := nm_at ex39 h
        refine lv_iinc (v := x39) (lv' := [(4, .int x39), (0, .ref (g.1 + 244)), (1, .int v1), (2, .int v2), (3, .int v3)]) C.1.1 C.1.2.1 dX11_layWays_172 hl (k := 4) rfl (by rw [ex39]; rfl) (by decide) rfl (fun ls hl => ?_)
        clear ex39
        refine lv_goto (tgt := 9) C.1.1 C.1.2.1 dX11_layWays_175 (by decide) ?_
        obtain rfl := Option.some.inj h
        exact ih _ _ _ h9 _ _ _ hW (lv_sub hl [1, 2, 3, 4, 0] rfl) hx0
def f_X11_layWays (a1 : Int32) (a2 : Int32) (I : MI) (L : ML) : Option (MI) :=
  nm ((1 : Int32) <<< ((a2 - (1 : Int32)) &&& (31 : Int32))) (fun x1 => bd1 (lp (fun s => b_X11_layWays_9 a1 a2 x1 L s.1 s.2) FU (((1 : Int32), I))) (fun I41 => some I41))
set_option maxHeartbeats 4000000 in
set_option maxRecDepth 100000 in
theorem c_X11_layWays (g : Gp) (l : Launch) {a1 : Int32} {a2 : Int32}  {I : MI} {L : ML} {I' : MI} (h : f_X11_layWays a1 a2 I L = some I') : MetV g l yX11_layWays cX11_layWays 10 2 [.ref (g.1 + 244), .int a1, .int a2] I L I' L := by
  unfold f_X11_layWays at h
  refine w_enter (by decide) (Nat.le_of_ble_eq_true rfl) (own := RX11) rfl ?_
  intro p e s m below meth c args Q hQ C hr hlocks hW ls hl
  have hl : lv_has ls 10 [(0, .ref (g.1 + 244)), (1, .int a1), (2, .int a2)] := hl
  refine lv_iconst (v := 1) C.1.1 C.1.2.1 dX11_layWays_0 (by decide) ?_
  refine lv_iload_n C.1.1 C.1.2.1 dX11_layWays_1 rfl (lv_at hl 2 rfl) ?_
  refine lv_iconst (v := 1) C.1.1 C.1.2.1 dX11_layWays_2 (by decide) ?_
  refine lv_isub C.1.1 C.1.2.1 dX11_layWays_3 ?_
  refine lv_ishl C.1.1 C.1.2.1 dX11_layWays_4 ?_
  refine lv_topi (fun x1 ex1 => ?_)
  replace h := nm_at ex1 h
  clear ex1
  refine lv_istore_n (lv' := [(3, .int x1), (0, .ref (g.1 + 244)), (1, .int a1), (2, .int a2)]) C.1.1 C.1.2.1 dX11_layWays_5 rfl hl (by decide) rfl (fun ls hl => ?_)
  refine lv_iconst (v := 1) C.1.1 C.1.2.1 dX11_layWays_6 (by decide) ?_
  refine lv_istore (lv' := [(4, .int (1 : Int32)), (3, .int x1), (0, .ref (g.1 + 244)), (1, .int a1), (2, .int a2)]) C.1.1 C.1.2.1 dX11_layWays_7 hl (by decide) rfl (fun ls hl => ?_)
  obtain ⟨I41, hq40, h⟩ := bd1_some h
  refine l_X11_layWays_9 C a1 a2 x1  L _ _ _ _ hq40 _ _ _ hW (lv_sub hl [2, 3, 4, 1, 0] rfl) (fun H locs ls hW hl => ?_)
  obtain rfl := inj1 h
  subst hQ
  exact w_vret C hW hr hlocks dX11_layWays_178
