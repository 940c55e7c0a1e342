def b_X11_sitsBy_14 (v1 : Int32) (v2 : Int32) (v3 : Int32) (L : ML) (z4 : Int32) (z5 : Int32) (I : MI) : Option ((Int32 × Int32 × MI) ⊕ ((Int32 × MI))) :=
  (if v3 ≤ z5 then some (Sum.inr (z4, I)) else bd1 (f_X11_has v2 z5) (fun r4 => bd1 ((if r4 = 0 then some I else bd1 (f_X11_eats (219 : Int32) v1 I L) (fun I20 => some I20))) (fun I6 => bd1 (f_X11_passes (219 : Int32) I6 L) (fun I9 => bd1 (f_X11_isDown (219 : Int32) v1 I9 L) (fun r11 => bd1 ((if r11 = 0 then some (1 : Int32) else some (0 : Int32))) (fun y13 => nm (z4 + y13) (fun x16 => nm (z5 + (1 : Int32)) (fun x17 => some (Sum.inl (x16, x17, I9))))))))))
set_option maxHeartbeats 4000000 in
set_option maxRecDepth 100000 in
theorem l_X11_sitsBy_14 {g : Gp} {p : Program} {l : Launch} {e : Env} {s : State} {m : MethodId} {args : Array Value} {below : List Frame} {meth : Method} {c : Code} {Q : State → Prop}  (C : Cx g p s m args c RX11 cX11_sitsBy 6) (v1 : Int32) (v2 : Int32) (v3 : Int32)  (L : ML) : ∀ (n : Nat) (z4 : Int32) (z5 : Int32) (I : MI) (y0_4 : Int32) (Iy0 : MI), lp (fun s => b_X11_sitsBy_14 v1 v2 v3 L s.1 s.2.1 s.2.2) n (z4, z5, I) = some (y0_4, Iy0) → ∀ (H : Heap) (locs : List Loc) (ls : Array Slot), Ws g s I L H locs → lv_has ls 6 [(0, .ref (g.1 + 244)), (1, .int v1), (2, .int v2), (3, .int v3), (4, .int z4), (5, .int z5)] → (∀ (H : Heap) (locs : List Loc) (ls : Array Slot), Ws g s Iy0 L H locs → lv_has ls 6 [(4, .int y0_4)] → W p l e (rmD 4) s m args below meth c H locs 0 0 Q (F0 m 71 ls [])) → W p l e (rmD 4) s m args below meth c H locs 0 0 Q (F0 m 14 ls []) := by
  intro n
  induction n with
  | zero => intro z4 z5 I y0_4 Iy0 h; exact lp_zero h
  | succ n ih =>
      intro z4 z5 I y0_4 Iy0 h H locs ls hW hl hx0
      obtain ⟨r9, h, h9⟩ := lp_some h
      have h : b_X11_sitsBy_14 v1 v2 v3 L z4 z5 I = some r9 := h
      unfold b_X11_sitsBy_14 at h
      refine lv_iload C.1.1 C.1.2.1 dX11_sitsBy_14 (lv_at hl 5 rfl) ?_
      refine lv_iload_n C.1.1 C.1.2.1 dX11_sitsBy_16 rfl (lv_at hl 3 rfl) ?_
      refine lv_icmp_ge (tgt := 71) C.1.1 C.1.2.1 dX11_sitsBy_17 (by decide) (fun hc3 => ?_) (fun hc3 => ?_)
      · replace h := ite_t hc3 h
        obtain rfl := Option.some.inj h
        replace h9 := Option.some.inj h9
        obtain ⟨rfl, rfl⟩ := pnj2 h9
        exact hx0 _ _ _ hW (lv_sub hl [4] rfl)
      · replace h := ite_f hc3 h
        refine lv_iload_n C.1.1 C.1.2.1 dX11_sitsBy_20 rfl (lv_at hl 2 rfl) ?_
        refine lv_iload C.1.1 C.1.2.1 dX11_sitsBy_21 (lv_at hl 5 rfl) ?_
        obtain ⟨r4, hc5, h⟩ := bd1_some h
        refine w_callSi (k := 2) (As := [.int v2, .int z5]) (rest := []) C hW (c_X11_has g l  hc5 I L) K_X11_156 (by decide +kernel) ⟨by decide, by decide⟩ ⟨Nat.le_refl _, Nat.le_refl _⟩ rfl hl.1 rfl (Nat.le_of_ble_eq_true rfl) dX11_sitsBy_23 (fun H locs hW => ?_)
        obtain ⟨I6, hj8, h⟩ := bd1_some h
        have kJ7 : ∀ (H : Heap) (locs : List Loc) (ls : Array Slot), Ws g s I6 L H locs → lv_has ls 6 [(0, .ref (g.1 + 244)), (1, .int v1), (2, .int v2), (3, .int v3), (4, .int z4), (5, .int z5)] → W p l e (rmD 4) s m args below meth c H locs 0 0 Q (F0 m 37 ls []) := by
          intro H locs ls hW hl
          refine lv_aload_n C.1.1 C.1.2.1 dX11_sitsBy_37 rfl (lv_at hl 0 rfl) ?_
          refine lv_sipush (v := 219) C.1.1 C.1.2.1 dX11_sitsBy_38 (by decide) ?_
          obtain ⟨I9, hc10, h⟩ := bd1_some h
          refine w_callVv (k := 1) (As := [.int (219 : Int32)]) (rest := []) C hW (c_X11_passes g l  hc10) (by decide) rfl (EX_11 (by decide)) K_X11_129 (by decide +kernel) ⟨by decide, by decide⟩ ⟨Nat.le_refl _, Nat.le_refl _⟩ rfl hl.1 rfl (Nat.le_of_ble_eq_true rfl) dX11_sitsBy_41 (fun H locs hW => ?_)
          refine lv_iload C.1.1 C.1.2.1 dX11_sitsBy_44 (lv_at hl 4 rfl) ?_
          refine lv_aload_n C.1.1 C.1.2.1 dX11_sitsBy_46 rfl (lv_at hl 0 rfl) ?_
          refine lv_sipush (v := 219) C.1.1 C.1.2.1 dX11_sitsBy_47 (by decide) ?_
          refine lv_iload_n C.1.1 C.1.2.1 dX11_sitsBy_50 rfl (lv_at hl 1 rfl) ?_
          obtain ⟨r11, hc12, h⟩ := bd1_some h
          refine w_callVi (k := 2) (As := [.int (219 : Int32), .int v1]) (rest := [.int z4]) C hW (c_X11_isDown g l  hc12) (by decide) rfl (EX_11 (by decide)) K_X11_100 (by decide +kernel) ⟨by decide, by decide⟩ ⟨Nat.le_refl _, Nat.le_refl _⟩ rfl hl.1 rfl (Nat.le_of_ble_eq_true rfl) dX11_sitsBy_51 (fun H locs hW => ?_)
          obtain ⟨y13, hj15, h⟩ := bd1_some h
          have kJ14 : ∀ (H : Heap) (locs : List Loc) (ls : Array Slot), Ws g s I9 L H locs → lv_has ls 6 [(0, .ref (g.1 + 244)), (1, .int v1), (2, .int v2), (3, .int v3), (5, .int z5)] → W p l e (rmD 4) s m args below meth c H locs 0 0 Q (F0 m 62 ls [.int y13, .int z4]) := by
            intro H locs ls hW hl
            refine lv_iadd C.1.1 C.1.2.1 dX11_sitsBy_62 ?_
            refine lv_topi (fun x16 ex16 => ?_)
            replace h := nm_at ex16 h
            clear ex16
            refine lv_istore (lv' := [(4, .int x16), (0, .ref (g.1 + 244)), (1, .int v1), (2, .int v2), (3, .int v3), (5, .int z5)]) C.1.1 C.1.2.1 dX11_sitsBy_63 hl (by decide) rfl (fun ls hl => ?_)
            obtain ⟨x17, ex17⟩ : ∃ y : Int32, y = z5 + (1 : Int32) := ⟨_, rfl⟩
            replace h := nm_at ex17 h
            refine lv_iinc (v := x17) (lv' := [(5, .int x17), (4, .int x16), (0, .ref (g.1 + 244)), (1, .int v1), (2, .int v2), (3, .int v3)]) C.1.1 C.1.2.1 dX11_sitsBy_65 hl (k := 5) rfl (by rw [ex17]; rfl) (by decide) rfl (fun ls hl => ?_)
            clear ex17
            refine lv_goto (tgt := 14) C.1.1 C.1.2.1 dX11_sitsBy_68 (by decide) ?_
            obtain rfl := Option.some.inj h
            exact ih _ _ _ _ _ h9 _ _ _ hW (lv_sub hl [2, 3, 4, 5, 1, 0] rfl) hx0
          clear h
          have h := hj15
          clear hj15
          refine lv_if_eq (tgt := 61) C.1.1 C.1.2.1 dX11_sitsBy_54 (by decide) (fun hc18 => ?_) (fun hc18 => ?_)
          · replace h := ite_t hc18 h
            refine lv_iconst (v := 1) C.1.1 C.1.2.1 dX11_sitsBy_61 (by decide) ?_
            obtain rfl := inj1 h
            exact kJ14 _ _ _ hW (lv_sub hl [0, 1, 2, 3, 5] rfl)
          · replace h := ite_f hc18 h
            refine lv_iconst (v := 0) C.1.1 C.1.2.1 dX11_sitsBy_57 (by decide) ?_
            refine lv_goto (tgt := 62) C.1.1 C.1.2.1 dX11_sitsBy_58 (by decide) ?_
            obtain rfl := inj1 h
            exact kJ14 _ _ _ hW (lv_sub hl [0, 1, 2, 3, 5] rfl)
        clear h
        have h := hj8
        clear hj8
        refine lv_if_eq (tgt := 37) C.1.1 C.1.2.1 dX11_sitsBy_26 (by decide) (fun hc19 => ?_) (fun hc19 => ?_)
        · replace h := ite_t hc19 h
          obtain rfl := inj1 h
          exact kJ7 _ _ _ hW (lv_sub hl [0, 1, 2, 3, 4, 5] rfl)
        · replace h := ite_f hc19 h
          refine lv_aload_n C.1.1 C.1.2.1 dX11_sitsBy_29 rfl (lv_at hl 0 rfl) ?_
          refine lv_sipush (v := 219) C.1.1 C.1.2.1 dX11_sitsBy_30 (by decide) ?_
          refine lv_iload_n C.1.1 C.1.2.1 dX11_sitsBy_33 rfl (lv_at hl 1 rfl) ?_
          obtain ⟨I20, hc21, h⟩ := bd1_some h
          refine w_callVv (k := 2) (As := [.int (219 : Int32), .int v1]) (rest := []) C hW (c_X11_eats g l  hc21) (by decide) rfl (EX_11 (by decide)) K_X11_136 (by decide +kernel) ⟨by decide, by decide⟩ ⟨Nat.le_refl _, Nat.le_refl _⟩ rfl hl.1 rfl (Nat.le_of_ble_eq_true rfl) dX11_sitsBy_34 (fun H locs hW => ?_)
          obtain rfl := inj1 h
          exact kJ7 _ _ _ hW (lv_sub hl [0, 1, 2, 3, 4, 5] rfl)
def f_X11_sitsBy (a1 : Int32) (a2 : Int32) (a3 : Int32) (I : MI) (L : ML) : Option (Int32 × MI) :=
  bd1 (f_X11_copyRow (0 : Int32) (219 : Int32) I L) (fun I1 => bd2 (lp (fun s => b_X11_sitsBy_14 a1 a2 a3 L s.1 s.2.1 s.2.2) FU (((0 : Int32), (0 : Int32), I1))) (fun y23 I24 => some (y23, I24)))
set_option maxHeartbeats 4000000 in
set_option maxRecDepth 100000 in
theorem c_X11_sitsBy (g : Gp) (l : Launch) {a1 : Int32} {a2 : Int32} {a3 : Int32}  {I : MI} {L : ML} {r : Int32} {I' : MI} (h : f_X11_sitsBy a1 a2 a3 I L = some (r, I')) : MetI g l yX11_sitsBy cX11_sitsBy 6 .int 4 [.ref (g.1 + 244), .int a1, .int a2, .int a3] I L r I' L := by
  unfold f_X11_sitsBy at h
  refine w_enter (by decide) (Nat.le_of_ble_eq_true rfl) (own := RX11) rfl ?_
  intro p e s m below meth c args Q hQ C hr hlocks hW ls hl
  have hl : lv_has ls 6 [(0, .ref (g.1 + 244)), (1, .int a1), (2, .int a2), (3, .int a3)] := hl
  refine lv_aload_n C.1.1 C.1.2.1 dX11_sitsBy_0 rfl (lv_at hl 0 rfl) ?_
  refine lv_iconst (v := 0) C.1.1 C.1.2.1 dX11_sitsBy_1 (by decide) ?_
  refine lv_sipush (v := 219) C.1.1 C.1.2.1 dX11_sitsBy_2 (by decide) ?_
  obtain ⟨I1, hc2, h⟩ := bd1_some h
  refine w_callVv (k := 2) (As := [.int (0 : Int32), .int (219 : Int32)]) (rest := []) C hW (c_X11_copyRow g l  hc2) (by decide) rfl (EX_11 (by decide)) K_X11_90 (by decide +kernel) ⟨by decide, by decide⟩ ⟨Nat.le_refl _, Nat.le_refl _⟩ rfl hl.1 rfl (Nat.le_of_ble_eq_true rfl) dX11_sitsBy_5 (fun H locs hW => ?_)
  refine lv_iconst (v := 0) C.1.1 C.1.2.1 dX11_sitsBy_8 (by decide) ?_
  refine lv_istore (lv' := [(4, .int (0 : Int32)), (0, .ref (g.1 + 244)), (1, .int a1), (2, .int a2), (3, .int a3)]) C.1.1 C.1.2.1 dX11_sitsBy_9 hl (by decide) rfl (fun ls hl => ?_)
  refine lv_iconst (v := 0) C.1.1 C.1.2.1 dX11_sitsBy_11 (by decide) ?_
  refine lv_istore (lv' := [(5, .int (0 : Int32)), (4, .int (0 : Int32)), (0, .ref (g.1 + 244)), (1, .int a1), (2, .int a2), (3, .int a3)]) C.1.1 C.1.2.1 dX11_sitsBy_12 hl (by decide) rfl (fun ls hl => ?_)
  obtain ⟨y23, I24, hq22, h⟩ := bd2_some h
  refine l_X11_sitsBy_14 C a1 a2 a3  L _ _ _ _ _ _ hq22 _ _ _ hW (lv_sub hl [2, 3, 4, 5, 1, 0] rfl) (fun H locs ls hW hl => ?_)
  refine lv_iload C.1.1 C.1.2.1 dX11_sitsBy_71 (lv_at hl 0 rfl) ?_
  obtain ⟨rfl, rfl⟩ := inj2 h
  subst hQ
  exact w_iret C hW hr hlocks dX11_sitsBy_73
def b_X11_eat_53 (v1 : Int32) (v2 : Int32) (v3 : Int32) (L : ML) (z4 : Int32) (z5 : Int32) (z6 : Int32) (I : MI) : Option ((Int32 × Int32 × Int32 × MI) ⊕ ((Int32 × Int32 × MI))) :=
  (if ((1 : Int32) <<< (v2 &&& (31 : Int32))) ≤ z6 then some (Sum.inr (z4, z5, I)) else bd2 (f_X11_sitsBy v1 z6 v2 I L) (fun r14 I15 => bd1 (f_X11_ones z6) (fun r17 => gi ((43 : Int32) + v1) 1752 (bd1 ((if (I15 245 ((43 : Int32) + v1).toNatClampNeg) < r17 then some (0 : Int32) else (if z5 < r14 then some (1 : Int32) else (if r14 = z5 then bd1 (f_X11_ones z6) (fun r35 => bd1 (f_X11_ones z4) (fun r37 => (if r37 ≤ r35 then some (0 : Int32) else some (1 : Int32)))) else some (0 : Int32))))) (fun y20 => bd1 (if y20 = 0 then some z4 else some z6) (fun y23 => bd1 (if y20 = 0 then some z5 else some r14) (fun y26 => nm (z6 + (1 : Int32)) (fun x29 => some (Sum.inl (y23, y26, x29, I15))))))))))
set_option maxHeartbeats 4000000 in
set_option maxRecDepth 100000 in
theorem l_X11_eat_53 {g : Gp} {p : Program} {l : Launch} {e : Env} {s : State} {m : MethodId} {args : Array Value} {below : List Frame} {meth : Method} {c : Code} {Q : State → Prop}  (C : Cx g p s m args c RX11 cX11_eat 9) (v1 : Int32) (v2 : Int32) (v3 : Int32)  (L : ML) : ∀ (n : Nat) (z4 : Int32) (z5 : Int32) (z6 : Int32) (I : MI) (y0_4 : Int32) (y0_5 : Int32) (Iy0 : MI), lp (fun s => b_X11_eat_53 v1 v2 v3 L s.1 s.2.1 s.2.2.1 s.2.2.2) n (z4, z5, z6, I) = some (y0_4, y0_5, Iy0) → ∀ (H : Heap) (locs : List Loc) (ls : Array Slot), Ws g s I L H locs → lv_has ls 9 [(0, .ref (g.1 + 244)), (1, .int v1), (2, .int v2), (3, .int v3), (4, .int z4), (5, .int z5), (6, .int z6)] → (∀ (H : Heap) (locs : List Loc) (ls : Array Slot), Ws g s Iy0 L H locs → lv_has ls 9 [(3, .int v3), (4, .int y0_4), (5, .int y0_5)] → W p l e (rmD 5) s m args below meth c H locs 0 0 Q (F0 m 156 ls [])) → W p l e (rmD 5) s m args below meth c H locs 0 0 Q (F0 m 53 ls []) := by
  intro n
  induction n with
  | zero => intro z4 z5 z6 I y0_4 y0_5 Iy0 h; exact lp_zero h
  | succ n ih =>
      intro z4 z5 z6 I y0_4 y0_5 Iy0 h H locs ls hW hl hx0
      obtain ⟨r9, h, h9⟩ := lp_some h
      have h : b_X11_eat_53 v1 v2 v3 L z4 z5 z6 I = some r9 := h
      unfold b_X11_eat_53 at h
      refine lv_iload C.1.1 C.1.2.1 dX11_eat_53 (lv_at hl 6 rfl) ?_
      refine lv_iconst (v := 1) C.1.1 C.1.2.1 dX11_eat_55 (by decide) ?_
      refine lv_iload_n C.1.1 C.1.2.1 dX11_eat_56 rfl (lv_at hl 2 rfl) ?_
      refine lv_ishl C.1.1 C.1.2.1 dX11_eat_57 ?_
      refine lv_icmp_ge (tgt := 156) C.1.1 C.1.2.1 dX11_eat_58 (by decide) (fun hc13 => ?_) (fun hc13 => ?_)
      · replace h := ite_t hc13 h
        obtain rfl := Option.some.inj h
        replace h9 := Option.some.inj h9
        obtain ⟨rfl, rfl, rfl⟩ := pnj3 h9
        exact hx0 _ _ _ hW (lv_sub hl [3, 4, 5] rfl)
      · replace h := ite_f hc13 h
        refine lv_aload_n C.1.1 C.1.2.1 dX11_eat_61 rfl (lv_at hl 0 rfl) ?_
        refine lv_iload_n C.1.1 C.1.2.1 dX11_eat_62 rfl (lv_at hl 1 rfl) ?_
        refine lv_iload C.1.1 C.1.2.1 dX11_eat_63 (lv_at hl 6 rfl) ?_
        refine lv_iload_n C.1.1 C.1.2.1 dX11_eat_65 rfl (lv_at hl 2 rfl) ?_
        obtain ⟨r14, I15, hc16, h⟩ := bd2_some h
        refine w_callVi (k := 3) (As := [.int v1, .int z6, .int v2]) (rest := []) C hW (c_X11_sitsBy g l  hc16) (by decide) rfl (EX_11 (by decide)) K_X11_161 (by decide +kernel) ⟨by decide, by decide⟩ ⟨Nat.le_refl _, Nat.le_refl _⟩ rfl hl.1 rfl (Nat.le_of_ble_eq_true rfl) dX11_eat_66 (fun H locs hW => ?_)
        refine lv_istore (lv' := [(7, .int r14), (0, .ref (g.1 + 244)), (1, .int v1), (2, .int v2), (3, .int v3), (4, .int z4), (5, .int z5), (6, .int z6)]) C.1.1 C.1.2.1 dX11_eat_69 hl (by decide) rfl (fun ls hl => ?_)
        refine lv_iload C.1.1 C.1.2.1 dX11_eat_71 (lv_at hl 7 rfl) ?_
        obtain ⟨r17, hc18, h⟩ := bd1_some h
        refine w_callSi (k := 1) (As := [.int z6]) (rest := []) C hW (c_X11_ones g l  hc18 I15 L) K_X11_164 (by decide +kernel) ⟨by decide, by decide⟩ ⟨Nat.le_refl _, Nat.le_refl _⟩ rfl hl.1 rfl (Nat.le_of_ble_eq_true rfl) dX11_eat_73 (fun H locs hW => ?_)
        refine lv_aload_n C.1.1 C.1.2.1 dX11_eat_76 rfl (lv_at hl 1 rfl) ?_
        refine G_X11_7 C hW (by decide) dX11_eat_77 ?_
        refine lv_bipush (v := 43) C.1.1 C.1.2.1 dX11_eat_80 (by decide) ?_
        refine lv_iload_n C.1.1 C.1.2.1 dX11_eat_82 rfl (lv_at hl 2 rfl) ?_
        refine lv_iadd C.1.1 C.1.2.1 dX11_eat_83 ?_
        obtain ⟨hi19, h⟩ := gi_some h
        refine w_iald C hW (n := 1752) (by decide) (by decide) hi19 dX11_eat_84 ?_
        obtain ⟨y20, hj22, h⟩ := bd1_some h
        have kJ21 : ∀ (H : Heap) (locs : List Loc) (ls : Array Slot), Ws g s I15 L H locs → lv_has ls 9 [(0, .ref (g.1 + 244)), (1, .int v1), (2, .int v2), (3, .int v3), (4, .int z4), (5, .int z5), (6, .int z6), (7, .int r14)] → W p l e (rmD 5) s m args below meth c H locs 0 0 Q (F0 m 120 ls [.int y20]) := by
          intro H locs ls hW hl
          refine lv_istore (lv' := [(8, .int y20), (0, .ref (g.1 + 244)), (1, .int v1), (2, .int v2), (3, .int v3), (4, .int z4), (5, .int z5), (6, .int z6), (7, .int r14)]) C.1.1 C.1.2.1 dX11_eat_120 hl (by decide) rfl (fun ls hl => ?_)
          refine lv_iload C.1.1 C.1.2.1 dX11_eat_122 (lv_at hl 0 rfl) ?_
          obtain ⟨y23, hj25, h⟩ := bd1_some h
          have kJ24 : ∀ (H : Heap) (locs : List Loc) (ls : Array Slot), Ws g s I15 L H locs → lv_has ls 9 [(0, .ref (g.1 + 244)), (1, .int v1), (2, .int v2), (3, .int v3), (5, .int z5), (6, .int z6), (7, .int r14), (8, .int y20)] → W p l e (rmD 5) s m args below meth c H locs 0 0 Q (F0 m 134 ls [.int y23]) := by
            intro H locs ls hW hl
            refine lv_istore (lv' := [(4, .int y23), (0, .ref (g.1 + 244)), (1, .int v1), (2, .int v2), (3, .int v3), (5, .int z5), (6, .int z6), (7, .int r14), (8, .int y20)]) C.1.1 C.1.2.1 dX11_eat_134 hl (by decide) rfl (fun ls hl => ?_)
            refine lv_iload C.1.1 C.1.2.1 dX11_eat_136 (lv_at hl 8 rfl) ?_
            obtain ⟨y26, hj28, h⟩ := bd1_some h
            have kJ27 : ∀ (H : Heap) (locs : List Loc) (ls : Array Slot), Ws g s I15 L H locs → lv_has ls 9 [(0, .ref (g.1 + 244)), (1, .int v1), (2, .int v2), (3, .int v3), (4, .int y23), (6, .int z6)] → W p l e (rmD 5) s m args below meth c H locs 0 0 Q (F0 m 148 ls [.int y26]) := by
              intro H locs ls hW hl
              refine lv_istore (lv' := [(5, .int y26), (0, .ref (g.1 + 244)), (1, .int v1), (2, .int v2), (3, .int v3), (4, .int y23), (6, .int z6)]) C.1.1 C.1.2.1 dX11_eat_148 hl (by decide) rfl (fun ls hl => ?_)
              obtain ⟨x29, ex29⟩ : ∃ y : Int32, y = z6 + (1 : Int32) := ⟨_, rfl⟩
              replace h := nm_at ex29 h
              refine lv_iinc (v := x29) (lv' := [(6, .int x29), (5, .int y26), (0, .ref (g.1 + 244)), (1, .int v1), (2, .int v2), (3, .int v3), (4, .int y23)]) C.1.1 C.1.2.1 dX11_eat_150 hl (k := 6) rfl (by rw [ex29]; rfl) (by decide) rfl (fun ls hl => ?_)
              clear ex29
              refine lv_goto (tgt := 53) C.1.1 C.1.2.1 dX11_eat_153 (by decide) ?_
              obtain rfl := Option.some.inj h
              exact ih _ _ _ _ _ _ _ h9 _ _ _ hW (lv_sub hl [2, 3, 4, 5, 6, 1, 0] rfl) hx0
            clear h
            have h := hj28
            clear hj28
            refine lv_if_eq (tgt := 146) C.1.1 C.1.2.1 dX11_eat_138 (by decide) (fun hc30 => ?_) (fun hc30 => ?_)
            · replace h := ite_t hc30 h
              refine lv_iload C.1.1 C.1.2.1 dX11_eat_146 (lv_at hl 5 rfl) ?_
              obtain rfl := inj1 h
              exact kJ27 _ _ _ hW (lv_sub hl [1, 2, 3, 4, 0, 6] rfl)
            · replace h := ite_f hc30 h
              refine lv_iload C.1.1 C.1.2.1 dX11_eat_141 (lv_at hl 7 rfl) ?_
              refine lv_goto (tgt := 148) C.1.1 C.1.2.1 dX11_eat_143 (by decide) ?_
              obtain rfl := inj1 h
              exact kJ27 _ _ _ hW (lv_sub hl [1, 2, 3, 4, 0, 6] rfl)
          clear h
          have h := hj25
          clear hj25
          refine lv_if_eq (tgt := 132) C.1.1 C.1.2.1 dX11_eat_124 (by decide) (fun hc31 => ?_) (fun hc31 => ?_)
          · replace h := ite_t hc31 h
            refine lv_iload C.1.1 C.1.2.1 dX11_eat_132 (lv_at hl 5 rfl) ?_
            obtain rfl := inj1 h
            exact kJ24 _ _ _ hW (lv_sub hl [1, 2, 3, 4, 6, 7, 8, 0] rfl)
          · replace h := ite_f hc31 h
            refine lv_iload C.1.1 C.1.2.1 dX11_eat_127 (lv_at hl 7 rfl) ?_
            refine lv_goto (tgt := 134) C.1.1 C.1.2.1 dX11_eat_129 (by decide) ?_
            obtain rfl := inj1 h
            exact kJ24 _ _ _ hW (lv_sub hl [1, 2, 3, 4, 6, 7, 8, 0] rfl)
        clear h
        have h := hj22
        clear hj22
        refine lv_icmp_gt (tgt := 119) C.1.1 C.1.2.1 dX11_eat_85 (by decide) (fun hc32 => ?_) (fun hc32 => ?_)
        · replace h := ite_t hc32 h
          refine lv_iconst (v := 0) C.1.1 C.1.2.1 dX11_eat_119 (by decide) ?_
          obtain rfl := inj1 h
          exact kJ21 _ _ _ hW (lv_sub hl [1, 2, 3, 4, 5, 6, 7, 0] rfl)
        · replace h := ite_f hc32 h
          refine lv_iload C.1.1 C.1.2.1 dX11_eat_88 (lv_at hl 0 rfl) ?_
          refine lv_iload C.1.1 C.1.2.1 dX11_eat_90 (lv_at hl 6 rfl) ?_
          refine lv_icmp_gt (tgt := 115) C.1.1 C.1.2.1 dX11_eat_92 (by decide) (fun hc33 => ?_) (fun hc33 => ?_)
          · replace h := ite_t hc33 h
            refine lv_iconst (v := 1) C.1.1 C.1.2.1 dX11_eat_115 (by decide) ?_
            refine lv_goto (tgt := 120) C.1.1 C.1.2.1 dX11_eat_116 (by decide) ?_
            obtain rfl := inj1 h
            exact kJ21 _ _ _ hW (lv_sub hl [1, 2, 3, 4, 5, 6, 7, 0] rfl)
          · replace h := ite_f hc33 h
            refine lv_iload C.1.1 C.1.2.1 dX11_eat_95 (lv_at hl 0 rfl) ?_
            refine lv_iload C.1.1 C.1.2.1 dX11_eat_97 (lv_at hl 6 rfl) ?_
            refine lv_icmp_ne (tgt := 119) C.1.1 C.1.2.1 dX11_eat_99 (by decide) (fun hc34 => ?_) (fun hc34 => ?_)
            · replace h := ite_f hc34 h
              refine lv_iconst (v := 0) C.1.1 C.1.2.1 dX11_eat_119 (by decide) ?_
              obtain rfl := inj1 h
              exact kJ21 _ _ _ hW (lv_sub hl [1, 2, 3, 4, 5, 6, 7, 0] rfl)
            · replace h := ite_t hc34 h
              refine lv_iload C.1.1 C.1.2.1 dX11_eat_102 (lv_at hl 7 rfl) ?_
              obtain ⟨r35, hc36, h⟩ := bd1_some h
              refine w_callSi (k := 1) (As := [.int z6]) (rest := []) C hW (c_X11_ones g l  hc36 I15 L) K_X11_164 (by decide +kernel) ⟨by decide, by decide⟩ ⟨Nat.le_refl _, Nat.le_refl _⟩ rfl hl.1 rfl (Nat.le_of_ble_eq_true rfl) dX11_eat_104 (fun H locs hW => ?_)
              refine lv_iload C.1.1 C.1.2.1 dX11_eat_107 (lv_at hl 5 rfl) ?_
              obtain ⟨r37, hc38, h⟩ := bd1_some h
              refine w_callSi (k := 1) (As := [.int z4]) (rest := [.int r35]) C hW (c_X11_ones g l  hc38 I15 L) K_X11_164 (by decide +kernel) ⟨by decide, by decide⟩ ⟨Nat.le_refl _, Nat.le_refl _⟩ rfl hl.1 rfl (Nat.le_of_ble_eq_true rfl) dX11_eat_109 (fun H locs hW => ?_)
              refine lv_icmp_ge (tgt := 119) C.1.1 C.1.2.1 dX11_eat_112 (by decide) (fun hc39 => ?_) (fun hc39 => ?_)
              · replace h := ite_t hc39 h
                refine lv_iconst (v := 0) C.1.1 C.1.2.1 dX11_eat_119 (by decide) ?_
                obtain rfl := inj1 h
                exact kJ21 _ _ _ hW (lv_sub hl [1, 2, 3, 4, 5, 6, 7, 0] rfl)
              · replace h := ite_f hc39 h
                refine lv_iconst (v := 1) C.1.1 C.1.2.1 dX11_eat_115 (by decide) ?_
                refine lv_goto (tgt := 120) C.1.1 C.1.2.1 dX11_eat_116 (by decide) ?_
                obtain rfl := inj1 h
                exact kJ21 _ _ _ hW (lv_sub hl [1, 2, 3, 4, 5, 6, 7, 0] rfl)
def f_X11_eat (a1 : Int32) (a2 : Int32) (a3 : Int32) (I : MI) (L : ML) : Option (Int32 × MI) :=
  bd1 (f_X11_isSitter a1 I L) (fun r1 => (if r1 = 0 then some (((-1 : Int32), I)) else bd1 (f_X11_in a2.toInt64 (1 : Int64) (8 : Int64)) (fun r4 => (if r4 = 0 then some (((-1 : Int32), I)) else bd1 (f_X11_in a3.toInt64 (0 : Int64) (1 : Int64)) (fun r7 => (if r7 = 0 then some (((-1 : Int32), I)) else bd1 (f_X11_isDown (0 : Int32) a1 I L) (fun r10 => (if r10 = 0 then bd3 (lp (fun s => b_X11_eat_53 a1 a2 a3 L s.1 s.2.1 s.2.2.1 s.2.2.2) FU (((0 : Int32), (-1 : Int32), (0 : Int32), I))) (fun y41 y42 I43 => bd1 (if a3 = 0 then some y42 else some y41) (fun y44 => some (y44, I43))) else some (((-2 : Int32), I))))))))))
set_option maxHeartbeats 4000000 in
set_option maxRecDepth 100000 in
theorem c_X11_eat (g : Gp) (l : Launch) {a1 : Int32} {a2 : Int32} {a3 : Int32}  {I : MI} {L : ML} {r : Int32} {I' : MI} (h : f_X11_eat a1 a2 a3 I L = some (r, I')) : MetI g l yX11_eat cX11_eat 9 .int 5 [.ref (g.1 + 244), .int a1, .int a2, .int a3] I L r I' L := by
  unfold f_X11_eat at h
  refine w_enter (by decide) (Nat.le_of_ble_eq_true rfl) (own := RX11) rfl ?_
  intro p e s m below meth c args Q hQ C hr hlocks hW ls hl
  have hl : lv_has ls 9 [(0, .ref (g.1 + 244)), (1, .int a1), (2, .int a2), (3, .int a3)] := hl
  refine lv_aload_n C.1.1 C.1.2.1 dX11_eat_0 rfl (lv_at hl 0 rfl) ?_
  refine lv_iload_n C.1.1 C.1.2.1 dX11_eat_1 rfl (lv_at hl 1 rfl) ?_
  obtain ⟨r1, hc2, h⟩ := bd1_some h
  refine w_callVi (k := 1) (As := [.int a1]) (rest := []) C hW (c_X11_isSitter g l  hc2) (by decide) rfl (EX_11 (by decide)) K_X11_115 (by decide +kernel) ⟨by decide, by decide⟩ ⟨Nat.le_refl _, Nat.le_refl _⟩ rfl hl.1 rfl (Nat.le_of_ble_eq_true rfl) dX11_eat_2 (fun H locs hW => ?_)
  refine lv_if_eq (tgt := 30) C.1.1 C.1.2.1 dX11_eat_5 (by decide) (fun hc3 => ?_) (fun hc3 => ?_)
  · replace h := ite_t hc3 h
    refine lv_iconst (v := -1) C.1.1 C.1.2.1 dX11_eat_30 (by decide) ?_
    obtain ⟨rfl, rfl⟩ := inj2 h
    subst hQ
    exact w_iret C hW hr hlocks dX11_eat_31
  · replace h := ite_f hc3 h
    refine lv_iload_n C.1.1 C.1.2.1 dX11_eat_8 rfl (lv_at hl 2 rfl) ?_
    refine lv_i2l C.1.1 C.1.2.1 dX11_eat_9 rfl ?_
    refine lv_lconst (v := 1) C.1.1 C.1.2.1 dX11_eat_10 (by decide) ?_
    refine lv_ldc2 C.1.1 C.1.2.1 C.1.2.2.2.1 (C.1.2.2.2.2 _ kl_X11_159) dX11_eat_11 ?_
    obtain ⟨r4, hc5, h⟩ := bd1_some h
    refine w_callSi (k := 3) (As := [.long a2.toInt64, .long (1 : Int64), .long (8 : Int64)]) (rest := []) C hW (c_X11_in g l  hc5 I L) K_X11_42 (by decide +kernel) ⟨by decide, by decide⟩ ⟨Nat.le_refl _, Nat.le_refl _⟩ rfl hl.1 rfl (Nat.le_of_ble_eq_true rfl) dX11_eat_14 (fun H locs hW => ?_)
    refine lv_if_eq (tgt := 30) C.1.1 C.1.2.1 dX11_eat_17 (by decide) (fun hc6 => ?_) (fun hc6 => ?_)
    · replace h := ite_t hc6 h
      refine lv_iconst (v := -1) C.1.1 C.1.2.1 dX11_eat_30 (by decide) ?_
      obtain ⟨rfl, rfl⟩ := inj2 h
      subst hQ
      exact w_iret C hW hr hlocks dX11_eat_31
    · replace h := ite_f hc6 h
      refine lv_iload_n C.1.1 C.1.2.1 dX11_eat_20 rfl (lv_at hl 3 rfl) ?_
      refine lv_i2l C.1.1 C.1.2.1 dX11_eat_21 rfl ?_
      refine lv_lconst (v := 0) C.1.1 C.1.2.1 dX11_eat_22 (by decide) ?_
      refine lv_lconst (v := 1) C.1.1 C.1.2.1 dX11_eat_23 (by decide) ?_
      obtain ⟨r7, hc8, h⟩ := bd1_some h
      refine w_callSi (k := 3) (As := [.long a3.toInt64, .long (0 : Int64), .long (1 : Int64)]) (rest := []) C hW (c_X11_in g l  hc8 I L) K_X11_42 (by decide +kernel) ⟨by decide, by decide⟩ ⟨Nat.le_refl _, Nat.le_refl _⟩ rfl hl.1 rfl (Nat.le_of_ble_eq_true rfl) dX11_eat_24 (fun H locs hW => ?_)
      refine lv_if_ne (tgt := 32) C.1.1 C.1.2.1 dX11_eat_27 (by decide) (fun hc9 => ?_) (fun hc9 => ?_)
      · replace h := ite_f hc9 h
        refine lv_aload_n C.1.1 C.1.2.1 dX11_eat_32 rfl (lv_at hl 0 rfl) ?_
        refine lv_iconst (v := 0) C.1.1 C.1.2.1 dX11_eat_33 (by decide) ?_
        refine lv_iload_n C.1.1 C.1.2.1 dX11_eat_34 rfl (lv_at hl 1 rfl) ?_
        obtain ⟨r10, hc11, h⟩ := bd1_some h
        refine w_callVi (k := 2) (As := [.int (0 : Int32), .int a1]) (rest := []) C hW (c_X11_isDown g l  hc11) (by decide) rfl (EX_11 (by decide)) K_X11_100 (by decide +kernel) ⟨by decide, by decide⟩ ⟨Nat.le_refl _, Nat.le_refl _⟩ rfl hl.1 rfl (Nat.le_of_ble_eq_true rfl) dX11_eat_35 (fun H locs hW => ?_)
        refine lv_if_eq (tgt := 44) C.1.1 C.1.2.1 dX11_eat_38 (by decide) (fun hc12 => ?_) (fun hc12 => ?_)
        · replace h := ite_t hc12 h
          refine lv_iconst (v := 0) C.1.1 C.1.2.1 dX11_eat_44 (by decide) ?_
          refine lv_istore (lv' := [(4, .int (0 : Int32)), (0, .ref (g.1 + 244)), (1, .int a1), (2, .int a2), (3, .int a3)]) C.1.1 C.1.2.1 dX11_eat_45 hl (by decide) rfl (fun ls hl => ?_)
          refine lv_iconst (v := -1) C.1.1 C.1.2.1 dX11_eat_47 (by decide) ?_
          refine lv_istore (lv' := [(5, .int (-1 : Int32)), (4, .int (0 : Int32)), (0, .ref (g.1 + 244)), (1, .int a1), (2, .int a2), (3, .int a3)]) C.1.1 C.1.2.1 dX11_eat_48 hl (by decide) rfl (fun ls hl => ?_)
          refine lv_iconst (v := 0) C.1.1 C.1.2.1 dX11_eat_50 (by decide) ?_
          refine lv_istore (lv' := [(6, .int (0 : Int32)), (5, .int (-1 : Int32)), (4, .int (0 : Int32)), (0, .ref (g.1 + 244)), (1, .int a1), (2, .int a2), (3, .int a3)]) C.1.1 C.1.2.1 dX11_eat_51 hl (by decide) rfl (fun ls hl => ?_)
          obtain ⟨y41, y42, I43, hq40, h⟩ := bd3_some h
          refine l_X11_eat_53 C a1 a2 a3  L _ _ _ _ _ _ _ _ hq40 _ _ _ hW (lv_sub hl [3, 4, 5, 6, 2, 1, 0] rfl) (fun H locs ls hW hl => ?_)
          refine lv_iload_n C.1.1 C.1.2.1 dX11_eat_156 rfl (lv_at hl 0 rfl) ?_
          obtain ⟨y44, hj46, h⟩ := bd1_some h
          have kJ45 : ∀ (H : Heap) (locs : List Loc) (ls : Array Slot), Ws g s I43 L H locs → lv_has ls 9 [] → W p l e (rmD 5) s m args below meth c H locs 0 0 Q (F0 m 167 ls [.int y44]) := by
            intro H locs ls hW hl
            obtain ⟨rfl, rfl⟩ := inj2 h
            subst hQ
            exact w_iret C hW hr hlocks dX11_eat_167
          clear h
          have h := hj46
          clear hj46
          refine lv_if_ne (tgt := 165) C.1.1 C.1.2.1 dX11_eat_157 (by decide) (fun hc47 => ?_) (fun hc47 => ?_)
          · replace h := ite_f hc47 h
            refine lv_iload C.1.1 C.1.2.1 dX11_eat_165 (lv_at hl 1 rfl) ?_
            obtain rfl := inj1 h
            exact kJ45 _ _ _ hW (lv_sub hl [] rfl)
          · replace h := ite_t hc47 h
            refine lv_iload C.1.1 C.1.2.1 dX11_eat_160 (lv_at hl 2 rfl) ?_
            refine lv_goto (tgt := 167) C.1.1 C.1.2.1 dX11_eat_162 (by decide) ?_
            obtain rfl := inj1 h
            exact kJ45 _ _ _ hW (lv_sub hl [] rfl)
        · replace h := ite_f hc12 h
          refine lv_bipush (v := -2) C.1.1 C.1.2.1 dX11_eat_41 (by decide) ?_
          obtain ⟨rfl, rfl⟩ := inj2 h
          subst hQ
          exact w_iret C hW hr hlocks dX11_eat_43
      · replace h := ite_t hc9 h
        refine lv_iconst (v := -1) C.1.1 C.1.2.1 dX11_eat_30 (by decide) ?_
        obtain ⟨rfl, rfl⟩ := inj2 h
        subst hQ
        exact w_iret C hW hr hlocks dX11_eat_31
def b_X11_isEnough_52 (v1 : Int32) (v2 : Int32) (v3 : Int32) (L : ML) (z6 : Int32) (z7 : Int32) (I : MI) : Option ((Int32 × Int32 × MI) ⊕ ((MI) ⊕ (MI))) :=
  (if v2 ≤ z7 then some (Sum.inr (Sum.inl I)) else gi z7 40 (bd1 (f_X11_growthIn (219 : Int32) v1 (I 251 z7.toNatClampNeg) I L) (fun r13 => nm (z6 + r13) (fun x15 => gi ((13 : Int32) + v1) 1752 ((if x15 < ((I 245 ((13 : Int32) + v1).toNatClampNeg) + v3) then gi (223 : Int32) 1752 (gi (223 : Int32) 1752 (nm (up2 I 245 ((223 : Int32).toNatClampNeg) ((I 245 (223 : Int32).toNatClampNeg) + (1 : Int32))) (fun I20 => nm (z7 + (1 : Int32)) (fun x21 => some (Sum.inl (x15, x21, I20)))))) else some (Sum.inr (Sum.inr I))))))))
set_option maxHeartbeats 4000000 in
set_option maxRecDepth 100000 in
theorem l_X11_isEnough_52 {g : Gp} {p : Program} {l : Launch} {e : Env} {s : State} {m : MethodId} {args : Array Value} {below : List Frame} {meth : Method} {c : Code} {Q : State → Prop}  (C : Cx g p s m args c RX11 cX11_isEnough 8) (v1 : Int32) (v2 : Int32) (v3 : Int32)  (L : ML) : ∀ (n : Nat) (z6 : Int32) (z7 : Int32) (I : MI) (x : (MI) ⊕ (MI)), lp (fun s => b_X11_isEnough_52 v1 v2 v3 L s.1 s.2.1 s.2.2) n (z6, z7, I) = some x → ∀ (H : Heap) (locs : List Loc) (ls : Array Slot), Ws g s I L H locs → lv_has ls 8 [(0, .ref (g.1 + 244)), (1, .int v1), (2, .int v2), (3, .int v3), (6, .int z6), (7, .int z7)] → (∀ (Iy0 : MI), x = (Sum.inl Iy0) → ∀ (H : Heap) (locs : List Loc) (ls : Array Slot), Ws g s Iy0 L H locs → lv_has ls 8 [] → W p l e (rmD 2) s m args below meth c H locs 0 0 Q (F0 m 114 ls [])) → (∀ (Iy1 : MI), x = (Sum.inr Iy1) → ∀ (H : Heap) (locs : List Loc) (ls : Array Slot), Ws g s Iy1 L H locs → lv_has ls 8 [] → W p l e (rmD 2) s m args below meth c H locs 0 0 Q (F0 m 94 ls [])) → W p l e (rmD 2) s m args below meth c H locs 0 0 Q (F0 m 52 ls []) := by
  intro n
  induction n with
  | zero => intro z6 z7 I x h; exact lp_zero h
  | succ n ih =>
      intro z6 z7 I x h H locs ls hW hl hx0 hx1
      obtain ⟨r9, h, h9⟩ := lp_some h
      have h : b_X11_isEnough_52 v1 v2 v3 L z6 z7 I = some r9 := h
      unfold b_X11_isEnough_52 at h
      refine lv_iload C.1.1 C.1.2.1 dX11_isEnough_52 (lv_at hl 5 rfl) ?_
      refine lv_iload_n C.1.1 C.1.2.1 dX11_isEnough_54 rfl (lv_at hl 2 rfl) ?_
      refine lv_icmp_ge (tgt := 114) C.1.1 C.1.2.1 dX11_isEnough_55 (by decide) (fun hc11 => ?_) (fun hc11 => ?_)
      · replace h := ite_t hc11 h
        obtain rfl := Option.some.inj h
        exact hx0 _ (Option.some.inj h9).symm _ _ _ hW (lv_sub hl [] rfl)
      · replace h := ite_f hc11 h
        refine lv_iload C.1.1 C.1.2.1 dX11_isEnough_58 (lv_at hl 4 rfl) ?_
        refine lv_aload_n C.1.1 C.1.2.1 dX11_isEnough_60 rfl (lv_at hl 0 rfl) ?_
        refine lv_sipush (v := 219) C.1.1 C.1.2.1 dX11_isEnough_61 (by decide) ?_
        refine lv_iload_n C.1.1 C.1.2.1 dX11_isEnough_64 rfl (lv_at hl 1 rfl) ?_
        refine lv_aload_n C.1.1 C.1.2.1 dX11_isEnough_65 rfl (lv_at hl 0 rfl) ?_
        refine G_X11_30 C hW (by decide) dX11_isEnough_66 ?_
        refine lv_iload C.1.1 C.1.2.1 dX11_isEnough_69 (lv_at hl 5 rfl) ?_
        obtain ⟨hi12, h⟩ := gi_some h
        refine w_iald C hW (n := 40) (by decide) (by decide) hi12 dX11_isEnough_71 ?_
        obtain ⟨r13, hc14, h⟩ := bd1_some h
        refine w_callVi (k := 3) (As := [.int (219 : Int32), .int v1, .int (I 251 z7.toNatClampNeg)]) (rest := [.int z6]) C hW (c_X11_growthIn g l  hc14) (by decide) rfl (EX_11 (by decide)) K_X11_104 (by decide +kernel) ⟨by decide, by decide⟩ ⟨Nat.le_refl _, Nat.le_refl _⟩ rfl hl.1 rfl (Nat.le_of_ble_eq_true rfl) dX11_isEnough_72 (fun H locs hW => ?_)
        refine lv_iadd C.1.1 C.1.2.1 dX11_isEnough_75 ?_
        refine lv_topi (fun x15 ex15 => ?_)
        replace h := nm_at ex15 h
        clear ex15
        refine lv_istore (lv' := [(6, .int x15), (0, .ref (g.1 + 244)), (1, .int v1), (2, .int v2), (3, .int v3), (7, .int z7)]) C.1.1 C.1.2.1 dX11_isEnough_76 hl (by decide) rfl (fun ls hl => ?_)
        refine lv_iload C.1.1 C.1.2.1 dX11_isEnough_78 (lv_at hl 0 rfl) ?_
        refine lv_aload_n C.1.1 C.1.2.1 dX11_isEnough_80 rfl (lv_at hl 1 rfl) ?_
        refine G_X11_7 C hW (by decide) dX11_isEnough_81 ?_
        refine lv_bipush (v := 13) C.1.1 C.1.2.1 dX11_isEnough_84 (by decide) ?_
        refine lv_iload_n C.1.1 C.1.2.1 dX11_isEnough_86 rfl (lv_at hl 2 rfl) ?_
        refine lv_iadd C.1.1 C.1.2.1 dX11_isEnough_87 ?_
        obtain ⟨hi16, h⟩ := gi_some h
        refine w_iald C hW (n := 1752) (by decide) (by decide) hi16 dX11_isEnough_88 ?_
        refine lv_iload_n C.1.1 C.1.2.1 dX11_isEnough_89 rfl (lv_at hl 4 rfl) ?_
        refine lv_iadd C.1.1 C.1.2.1 dX11_isEnough_90 ?_
        refine lv_icmp_lt (tgt := 96) C.1.1 C.1.2.1 dX11_isEnough_91 (by decide) (fun hc17 => ?_) (fun hc17 => ?_)
        · replace h := ite_t hc17 h
          refine lv_aload_n C.1.1 C.1.2.1 dX11_isEnough_96 rfl (lv_at hl 1 rfl) ?_
          refine G_X11_7 C hW (by decide) dX11_isEnough_97 ?_
          refine lv_sipush (v := 223) C.1.1 C.1.2.1 dX11_isEnough_100 (by decide) ?_
          refine lv_dup2_11 C.1.1 C.1.2.1 dX11_isEnough_103 rfl rfl ?_
          obtain ⟨hi18, h⟩ := gi_some h
          refine w_iald C hW (n := 1752) (by decide) (by decide) hi18 dX11_isEnough_104 ?_
          refine lv_iconst (v := 1) C.1.1 C.1.2.1 dX11_isEnough_105 (by decide) ?_
          refine lv_iadd C.1.1 C.1.2.1 dX11_isEnough_106 ?_
          obtain ⟨hi19, h⟩ := gi_some h
          refine w_iast C hW (n := 1752) (by decide) (by decide) hi19 dX11_isEnough_107 (fun H locs hW => ?_)
          obtain ⟨I20, eI20, h⟩ := nm_some h
          rw [← eI20] at hW
          clear eI20
          obtain ⟨x21, ex21⟩ : ∃ y : Int32, y = z7 + (1 : Int32) := ⟨_, rfl⟩
          replace h := nm_at ex21 h
          refine lv_iinc (v := x21) (lv' := [(7, .int x21), (6, .int x15), (0, .ref (g.1 + 244)), (1, .int v1), (2, .int v2), (3, .int v3)]) C.1.1 C.1.2.1 dX11_isEnough_108 hl (k := 5) rfl (by rw [ex21]; rfl) (by decide) rfl (fun ls hl => ?_)
          clear ex21
          refine lv_goto (tgt := 52) C.1.1 C.1.2.1 dX11_isEnough_111 (by decide) ?_
          obtain rfl := Option.some.inj h
          exact ih _ _ _ _ h9 _ _ _ hW (lv_sub hl [2, 3, 4, 5, 1, 0] rfl) hx0 hx1
        · replace h := ite_f hc17 h
          obtain rfl := Option.some.inj h
          exact hx1 _ (Option.some.inj h9).symm _ _ _ hW (lv_sub hl [] rfl)
def f_X11_isEnough (a1 : Int32) (a2 : Int32) (a3 : Int32) (a4 : Int32) (a5 : Int32) (I : MI) (L : ML) : Option (Int32 × MI) :=
  bd1 (f_X11_copyRow (0 : Int32) (219 : Int32) I L) (fun I1 => gi ((238 : Int32) + a1) 1752 (gi ((238 : Int32) + a1) 1752 (nm (up2 I1 245 (((238 : Int32) + a1).toNatClampNeg) ((I1 245 ((238 : Int32) + a1).toNatClampNeg) - a4)) (fun I5 => gi ((244 : Int32) + a1) 1752 (gi ((244 : Int32) + a1) 1752 (nm (up2 I5 245 (((244 : Int32) + a1).toNatClampNeg) ((I5 245 ((244 : Int32) + a1).toNatClampNeg) - a5)) (fun I8 => gi ((37 : Int32) + a1) 1752 (nm (I8 245 ((37 : Int32) + a1).toNatClampNeg) (fun x10 => bd1 (lp (fun s => b_X11_isEnough_52 a1 a2 a3 L s.1 s.2.1 s.2.2) FU ((x10, (0 : Int32), I8))) (fun x23 => Sum.elim (fun t26 => some (((1 : Int32), t26))) (fun t29 => some (((0 : Int32), t29))) x23))))))))))
set_option maxHeartbeats 4000000 in
set_option maxRecDepth 100000 in
theorem c_X11_isEnough (g : Gp) (l : Launch) {a1 : Int32} {a2 : Int32} {a3 : Int32} {a4 : Int32} {a5 : Int32}  {I : MI} {L : ML} {r : Int32} {I' : MI} (h : f_X11_isEnough a1 a2 a3 a4 a5 I L = some (r, I')) : MetI g l yX11_isEnough cX11_isEnough 8 .boolean 2 [.ref (g.1 + 244), .int a1, .int a2, .int a3, .int a4, .int a5] I L r I' L := by
  unfold f_X11_isEnough at h
  refine w_enter (by decide) (Nat.le_of_ble_eq_true rfl) (own := RX11) rfl ?_
  intro p e s m below meth c args Q hQ C hr hlocks hW ls hl
  have hl : lv_has ls 8 [(0, .ref (g.1 + 244)), (1, .int a1), (2, .int a2), (3, .int a3), (4, .int a4), (5, .int a5)] := hl
  refine lv_aload_n C.1.1 C.1.2.1 dX11_isEnough_0 rfl (lv_at hl 0 rfl) ?_
  refine lv_iconst (v := 0) C.1.1 C.1.2.1 dX11_isEnough_1 (by decide) ?_
  refine lv_sipush (v := 219) C.1.1 C.1.2.1 dX11_isEnough_2 (by decide) ?_
  obtain ⟨I1, hc2, h⟩ := bd1_some h
  refine w_callVv (k := 2) (As := [.int (0 : Int32), .int (219 : Int32)]) (rest := []) C hW (c_X11_copyRow g l  hc2) (by decide) rfl (EX_11 (by decide)) K_X11_90 (by decide +kernel) ⟨by decide, by decide⟩ ⟨Nat.le_refl _, Nat.le_refl _⟩ rfl hl.1 rfl (Nat.le_of_ble_eq_true rfl) dX11_isEnough_5 (fun H locs hW => ?_)
  refine lv_aload_n C.1.1 C.1.2.1 dX11_isEnough_8 rfl (lv_at hl 0 rfl) ?_
  refine G_X11_7 C hW (by decide) dX11_isEnough_9 ?_
  refine lv_sipush (v := 238) C.1.1 C.1.2.1 dX11_isEnough_12 (by decide) ?_
  refine lv_iload_n C.1.1 C.1.2.1 dX11_isEnough_15 rfl (lv_at hl 1 rfl) ?_
  refine lv_iadd C.1.1 C.1.2.1 dX11_isEnough_16 ?_
  refine lv_dup2_11 C.1.1 C.1.2.1 dX11_isEnough_17 rfl rfl ?_
  obtain ⟨hi3, h⟩ := gi_some h
  refine w_iald C hW (n := 1752) (by decide) (by decide) hi3 dX11_isEnough_18 ?_
  refine lv_iload C.1.1 C.1.2.1 dX11_isEnough_19 (lv_at hl 4 rfl) ?_
  refine lv_isub C.1.1 C.1.2.1 dX11_isEnough_21 ?_
  obtain ⟨hi4, h⟩ := gi_some h
  refine w_iast C hW (n := 1752) (by decide) (by decide) hi4 dX11_isEnough_22 (fun H locs hW => ?_)
  obtain ⟨I5, eI5, h⟩ := nm_some h
  rw [← eI5] at hW
  clear eI5
  refine lv_aload_n C.1.1 C.1.2.1 dX11_isEnough_23 rfl (lv_at hl 0 rfl) ?_
  refine G_X11_7 C hW (by decide) dX11_isEnough_24 ?_
  refine lv_sipush (v := 244) C.1.1 C.1.2.1 dX11_isEnough_27 (by decide) ?_
  refine lv_iload_n C.1.1 C.1.2.1 dX11_isEnough_30 rfl (lv_at hl 1 rfl) ?_
  refine lv_iadd C.1.1 C.1.2.1 dX11_isEnough_31 ?_
  refine lv_dup2_11 C.1.1 C.1.2.1 dX11_isEnough_32 rfl rfl ?_
  obtain ⟨hi6, h⟩ := gi_some h
  refine w_iald C hW (n := 1752) (by decide) (by decide) hi6 dX11_isEnough_33 ?_
  refine lv_iload C.1.1 C.1.2.1 dX11_isEnough_34 (lv_at hl 5 rfl) ?_
  refine lv_isub C.1.1 C.1.2.1 dX11_isEnough_36 ?_
  obtain ⟨hi7, h⟩ := gi_some h
  refine w_iast C hW (n := 1752) (by decide) (by decide) hi7 dX11_isEnough_37 (fun H locs hW => ?_)
  obtain ⟨I8, eI8, h⟩ := nm_some h
  rw [← eI8] at hW
  clear eI8
  refine lv_aload_n C.1.1 C.1.2.1 dX11_isEnough_38 rfl (lv_at hl 0 rfl) ?_
  refine G_X11_7 C hW (by decide) dX11_isEnough_39 ?_
  refine lv_bipush (v := 37) C.1.1 C.1.2.1 dX11_isEnough_42 (by decide) ?_
  refine lv_iload_n C.1.1 C.1.2.1 dX11_isEnough_44 rfl (lv_at hl 1 rfl) ?_
  refine lv_iadd C.1.1 C.1.2.1 dX11_isEnough_45 ?_
  obtain ⟨hi9, h⟩ := gi_some h
  refine w_iald C hW (n := 1752) (by decide) (by decide) hi9 dX11_isEnough_46 ?_
  refine lv_topi (fun x10 ex10 => ?_)
  replace h := nm_at ex10 h
  clear ex10
  refine lv_istore (lv' := [(6, .int x10), (0, .ref (g.1 + 244)), (1, .int a1), (2, .int a2), (3, .int a3), (4, .int a4), (5, .int a5)]) C.1.1 C.1.2.1 dX11_isEnough_47 hl (by decide) rfl (fun ls hl => ?_)
  refine lv_iconst (v := 0) C.1.1 C.1.2.1 dX11_isEnough_49 (by decide) ?_
  refine lv_istore (lv' := [(7, .int (0 : Int32)), (6, .int x10), (0, .ref (g.1 + 244)), (1, .int a1), (2, .int a2), (3, .int a3), (4, .int a4), (5, .int a5)]) C.1.1 C.1.2.1 dX11_isEnough_50 hl (by decide) rfl (fun ls hl => ?_)
  obtain ⟨x23, hq22, h⟩ := bd1_some h
  refine l_X11_isEnough_52 C a1 a2 a3  L _ _ _ _ _ hq22 _ _ _ hW (lv_sub hl [2, 3, 4, 5, 1, 0] rfl) ?_ ?_
  · intro I24 ex25 H locs ls hW hl
    subst ex25
    simp only [Sum.elim_inl, Sum.elim_inr] at h
    refine lv_iconst (v := 1) C.1.1 C.1.2.1 dX11_isEnough_114 (by decide) ?_
    obtain ⟨rfl, rfl⟩ := inj2 h
    subst hQ
    exact w_zret C hW hr hlocks (by decide) dX11_isEnough_115
  · intro I27 ex28 H locs ls hW hl
    subst ex28
    simp only [Sum.elim_inl, Sum.elim_inr] at h
    refine lv_iconst (v := 0) C.1.1 C.1.2.1 dX11_isEnough_94 (by decide) ?_
    obtain ⟨rfl, rfl⟩ := inj2 h
    subst hQ
    exact w_zret C hW hr hlocks (by decide) dX11_isEnough_95
def b_X11_train_57 (v1 : Int32) (v2 : Int32) (v3 : Int32) (L : ML) (z4 : Int32) (I : MI) : Option ((Int32 × MI) ⊕ ((MI))) :=
  (if v2 ≤ z4 then some (Sum.inr I) else bd1 (f_X11_passes (219 : Int32) I L) (fun I16 => gi (224 : Int32) 1752 (gi z4 40 (nm (up2 I16 251 z4.toNatClampNeg (I16 245 (224 : Int32).toNatClampNeg)) (fun I20 => nm (z4 + (1 : Int32)) (fun x21 => some (Sum.inl (x21, I20))))))))
set_option maxHeartbeats 4000000 in
set_option maxRecDepth 100000 in
theorem l_X11_train_57 {g : Gp} {p : Program} {l : Launch} {e : Env} {s : State} {m : MethodId} {args : Array Value} {below : List Frame} {meth : Method} {c : Code} {Q : State → Prop}  (C : Cx g p s m args c RX11 cX11_train 12) (v1 : Int32) (v2 : Int32) (v3 : Int32)  (L : ML) : ∀ (n : Nat) (z4 : Int32) (I : MI) (Iy0 : MI), lp (fun s => b_X11_train_57 v1 v2 v3 L s.1 s.2) n (z4, I) = some Iy0 → ∀ (H : Heap) (locs : List Loc) (ls : Array Slot), Ws g s I L H locs → lv_has ls 12 [(0, .ref (g.1 + 244)), (1, .int v1), (2, .int v2), (3, .int v3), (4, .int z4)] → (∀ (H : Heap) (locs : List Loc) (ls : Array Slot), Ws g s Iy0 L H locs → lv_has ls 12 [(0, .ref (g.1 + 244)), (1, .int v1), (2, .int v2), (3, .int v3)] → W p l e (rmD 4) s m args below meth c H locs 0 0 Q (F0 m 91 ls [])) → W p l e (rmD 4) s m args below meth c H locs 0 0 Q (F0 m 57 ls []) := by
  intro n
  induction n with
  | zero => intro z4 I Iy0 h; exact lp_zero h
  | succ n ih =>
      intro z4 I Iy0 h H locs ls hW hl hx0
      obtain ⟨r9, h, h9⟩ := lp_some h
      have h : b_X11_train_57 v1 v2 v3 L z4 I = some r9 := h
      unfold b_X11_train_57 at h
      refine lv_iload C.1.1 C.1.2.1 dX11_train_57 (lv_at hl 4 rfl) ?_
      refine lv_iload_n C.1.1 C.1.2.1 dX11_train_59 rfl (lv_at hl 2 rfl) ?_
      refine lv_icmp_ge (tgt := 91) C.1.1 C.1.2.1 dX11_train_60 (by decide) (fun hc15 => ?_) (fun hc15 => ?_)
      · replace h := ite_t hc15 h
        obtain rfl := Option.some.inj h
        replace h9 := Option.some.inj h9
        obtain rfl := pnj1 h9
        exact hx0 _ _ _ hW (lv_sub hl [0, 1, 2, 3] rfl)
      · replace h := ite_f hc15 h
        refine lv_aload_n C.1.1 C.1.2.1 dX11_train_63 rfl (lv_at hl 0 rfl) ?_
        refine lv_sipush (v := 219) C.1.1 C.1.2.1 dX11_train_64 (by decide) ?_
        obtain ⟨I16, hc17, h⟩ := bd1_some h
        refine w_callVv (k := 1) (As := [.int (219 : Int32)]) (rest := []) C hW (c_X11_passes g l  hc17) (by decide) rfl (EX_11 (by decide)) K_X11_129 (by decide +kernel) ⟨by decide, by decide⟩ ⟨Nat.le_refl _, Nat.le_refl _⟩ rfl hl.1 rfl (Nat.le_of_ble_eq_true rfl) dX11_train_67 (fun H locs hW => ?_)
        refine lv_aload_n C.1.1 C.1.2.1 dX11_train_70 rfl (lv_at hl 0 rfl) ?_
        refine G_X11_30 C hW (by decide) dX11_train_71 ?_
        refine lv_iload C.1.1 C.1.2.1 dX11_train_74 (lv_at hl 4 rfl) ?_
        refine lv_aload_n C.1.1 C.1.2.1 dX11_train_76 rfl (lv_at hl 0 rfl) ?_
        refine G_X11_7 C hW (by decide) dX11_train_77 ?_
        refine lv_sipush (v := 224) C.1.1 C.1.2.1 dX11_train_80 (by decide) ?_
        obtain ⟨hi18, h⟩ := gi_some h
        refine w_iald C hW (n := 1752) (by decide) (by decide) hi18 dX11_train_83 ?_
        obtain ⟨hi19, h⟩ := gi_some h
        refine w_iast C hW (n := 40) (by decide) (by decide) hi19 dX11_train_84 (fun H locs hW => ?_)
        obtain ⟨I20, eI20, h⟩ := nm_some h
        rw [← eI20] at hW
        clear eI20
        obtain ⟨x21, ex21⟩ : ∃ y : Int32, y = z4 + (1 : Int32) := ⟨_, rfl⟩
        replace h := nm_at ex21 h
        refine lv_iinc (v := x21) (lv' := [(4, .int x21), (0, .ref (g.1 + 244)), (1, .int v1), (2, .int v2), (3, .int v3)]) C.1.1 C.1.2.1 dX11_train_85 hl (k := 4) rfl (by rw [ex21]; rfl) (by decide) rfl (fun ls hl => ?_)
        clear ex21
        refine lv_goto (tgt := 57) C.1.1 C.1.2.1 dX11_train_88 (by decide) ?_
        obtain rfl := Option.some.inj h
        exact ih _ _ _ h9 _ _ _ hW (lv_sub hl [1, 2, 3, 4, 0] rfl) hx0
def b_X11_train_151 (v1 : Int32) (v2 : Int32) (v3 : Int32) (v8 : Int32) (v9 : Int32) (L : ML) (z4 : Int32) (z5 : Int32) (z6 : Int32) (z7 : Int32) (z10 : Int32) (I : MI) : Option ((Int32 × Int32 × Int32 × Int32 × Int32 × MI) ⊕ ((Int32 × Int32 × Int32 × Int32 × MI))) :=
  gi ((25 : Int32) + v1) 1752 ((if (I 245 ((25 : Int32) + v1).toNatClampNeg) < z10 then some (Sum.inr (z4, z5, z6, z7, I)) else nm ((((2 : Int32) * v8) + ((5 : Int32) * v9)) + ((3 : Int32) * z10)) (fun x31 => bd5 ((if z4 ≤ x31 then some (z4, z5, z6, z7, I) else bd2 (f_X11_isEnough v1 v2 v8 v9 z10 I L) (fun r41 I42 => (if r41 = 0 then some (z4, z5, z6, z7, I42) else some (x31, v8, v9, z10, I42))))) (fun y32 y33 y34 y35 I36 => nm (z10 + (1 : Int32)) (fun x39 => some (Sum.inl (y32, y33, y34, y35, x39, I36)))))))
set_option maxHeartbeats 4000000 in
set_option maxRecDepth 100000 in
theorem l_X11_train_151 {g : Gp} {p : Program} {l : Launch} {e : Env} {s : State} {m : MethodId} {args : Array Value} {below : List Frame} {meth : Method} {c : Code} {Q : State → Prop}  (C : Cx g p s m args c RX11 cX11_train 12) (v1 : Int32) (v2 : Int32) (v3 : Int32) (v8 : Int32) (v9 : Int32)  (L : ML) : ∀ (n : Nat) (z4 : Int32) (z5 : Int32) (z6 : Int32) (z7 : Int32) (z10 : Int32) (I : MI) (y0_4 : Int32) (y0_5 : Int32) (y0_6 : Int32) (y0_7 : Int32) (Iy0 : MI), lp (fun s => b_X11_train_151 v1 v2 v3 v8 v9 L s.1 s.2.1 s.2.2.1 s.2.2.2.1 s.2.2.2.2.1 s.2.2.2.2.2) n (z4, z5, z6, z7, z10, I) = some (y0_4, y0_5, y0_6, y0_7, Iy0) → ∀ (H : Heap) (locs : List Loc) (ls : Array Slot), Ws g s I L H locs → lv_has ls 12 [(0, .ref (g.1 + 244)), (1, .int v1), (2, .int v2), (3, .int v3), (4, .int z4), (5, .int z5), (6, .int z6), (7, .int z7), (8, .int v8), (9, .int v9), (10, .int z10)] → (∀ (H : Heap) (locs : List Loc) (ls : Array Slot), Ws g s Iy0 L H locs → lv_has ls 12 [(0, .ref (g.1 + 244)), (1, .int v1), (2, .int v2), (3, .int v3), (4, .int y0_4), (5, .int y0_5), (6, .int y0_6), (7, .int y0_7), (8, .int v8), (9, .int v9)] → W p l e (rmD 4) s m args below meth c H locs 0 0 Q (F0 m 225 ls [])) → W p l e (rmD 4) s m args below meth c H locs 0 0 Q (F0 m 151 ls []) := by
  intro n
  induction n with
  | zero => intro z4 z5 z6 z7 z10 I y0_4 y0_5 y0_6 y0_7 Iy0 h; exact lp_zero h
  | succ n ih =>
      intro z4 z5 z6 z7 z10 I y0_4 y0_5 y0_6 y0_7 Iy0 h H locs ls hW hl hx0
      obtain ⟨r9, h, h9⟩ := lp_some h
      have h : b_X11_train_151 v1 v2 v3 v8 v9 L z4 z5 z6 z7 z10 I = some r9 := h
      unfold b_X11_train_151 at h
      refine lv_iload C.1.1 C.1.2.1 dX11_train_151 (lv_at hl 10 rfl) ?_
      refine lv_aload_n C.1.1 C.1.2.1 dX11_train_153 rfl (lv_at hl 0 rfl) ?_
      refine G_X11_7 C hW (by decide) dX11_train_154 ?_
      refine lv_bipush (v := 25) C.1.1 C.1.2.1 dX11_train_157 (by decide) ?_
      refine lv_iload_n C.1.1 C.1.2.1 dX11_train_159 rfl (lv_at hl 1 rfl) ?_
      refine lv_iadd C.1.1 C.1.2.1 dX11_train_160 ?_
      obtain ⟨hi29, h⟩ := gi_some h
      refine w_iald C hW (n := 1752) (by decide) (by decide) hi29 dX11_train_161 ?_
      refine lv_icmp_gt (tgt := 225) C.1.1 C.1.2.1 dX11_train_162 (by decide) (fun hc30 => ?_) (fun hc30 => ?_)
      · replace h := ite_t hc30 h
        obtain rfl := Option.some.inj h
        replace h9 := Option.some.inj h9
        obtain ⟨rfl, rfl, rfl, rfl, rfl⟩ := pnj5 h9
        exact hx0 _ _ _ hW (lv_sub hl [0, 1, 2, 3, 4, 5, 6, 7, 8, 9] rfl)
      · replace h := ite_f hc30 h
        refine lv_iconst (v := 2) C.1.1 C.1.2.1 dX11_train_165 (by decide) ?_
        refine lv_iload C.1.1 C.1.2.1 dX11_train_166 (lv_at hl 8 rfl) ?_
        refine lv_imul C.1.1 C.1.2.1 dX11_train_168 ?_
        refine lv_iconst (v := 5) C.1.1 C.1.2.1 dX11_train_169 (by decide) ?_
        refine lv_iload C.1.1 C.1.2.1 dX11_train_170 (lv_at hl 9 rfl) ?_
        refine lv_imul C.1.1 C.1.2.1 dX11_train_172 ?_
        refine lv_iadd C.1.1 C.1.2.1 dX11_train_173 ?_
        refine lv_iconst (v := 3) C.1.1 C.1.2.1 dX11_train_174 (by decide) ?_
        refine lv_iload C.1.1 C.1.2.1 dX11_train_175 (lv_at hl 10 rfl) ?_
        refine lv_imul C.1.1 C.1.2.1 dX11_train_177 ?_
        refine lv_iadd C.1.1 C.1.2.1 dX11_train_178 ?_
        refine lv_topi (fun x31 ex31 => ?_)
        replace h := nm_at ex31 h
        clear ex31
        refine lv_istore (lv' := [(11, .int x31), (0, .ref (g.1 + 244)), (1, .int v1), (2, .int v2), (3, .int v3), (4, .int z4), (5, .int z5), (6, .int z6), (7, .int z7), (8, .int v8), (9, .int v9), (10, .int z10)]) C.1.1 C.1.2.1 dX11_train_179 hl (by decide) rfl (fun ls hl => ?_)
        refine lv_iload C.1.1 C.1.2.1 dX11_train_181 (lv_at hl 0 rfl) ?_
        refine lv_iload C.1.1 C.1.2.1 dX11_train_183 (lv_at hl 5 rfl) ?_
        obtain ⟨y32, y33, y34, y35, I36, hj38, h⟩ := bd5_some h
        have kJ37 : ∀ (H : Heap) (locs : List Loc) (ls : Array Slot), Ws g s I36 L H locs → lv_has ls 12 [(0, .ref (g.1 + 244)), (1, .int v1), (2, .int v2), (3, .int v3), (4, .int y32), (5, .int y33), (6, .int y34), (7, .int y35), (8, .int v8), (9, .int v9), (10, .int z10)] → W p l e (rmD 4) s m args below meth c H locs 0 0 Q (F0 m 219 ls []) := by
          intro H locs ls hW hl
          obtain ⟨x39, ex39⟩ : ∃ y : Int32, y = z10 + (1 : Int32) := ⟨_, rfl⟩
          replace h := nm_at ex39 h
          refine lv_iinc (v := x39) (lv' := [(10, .int x39), (0, .ref (g.1 + 244)), (1, .int v1), (2, .int v2), (3, .int v3), (4, .int y32), (5, .int y33), (6, .int y34), (7, .int y35), (8, .int v8), (9, .int v9)]) C.1.1 C.1.2.1 dX11_train_219 hl (k := 10) rfl (by rw [ex39]; rfl) (by decide) rfl (fun ls hl => ?_)
          clear ex39
          refine lv_goto (tgt := 151) C.1.1 C.1.2.1 dX11_train_222 (by decide) ?_
          obtain rfl := Option.some.inj h
          exact ih _ _ _ _ _ _ _ _ _ _ _ h9 _ _ _ hW (lv_sub hl [1, 2, 3, 4, 5, 6, 7, 8, 9, 10, 0] rfl) hx0
        clear h
        have h := hj38
        clear hj38
        refine lv_icmp_ge (tgt := 219) C.1.1 C.1.2.1 dX11_train_185 (by decide) (fun hc40 => ?_) (fun hc40 => ?_)
        · replace h := ite_t hc40 h
          obtain ⟨rfl, rfl, rfl, rfl, rfl⟩ := inj5 h
          exact kJ37 _ _ _ hW (lv_sub hl [1, 2, 3, 4, 5, 6, 7, 8, 9, 10, 11] rfl)
        · replace h := ite_f hc40 h
          refine lv_aload_n C.1.1 C.1.2.1 dX11_train_188 rfl (lv_at hl 1 rfl) ?_
          refine lv_iload_n C.1.1 C.1.2.1 dX11_train_189 rfl (lv_at hl 2 rfl) ?_
          refine lv_iload_n C.1.1 C.1.2.1 dX11_train_190 rfl (lv_at hl 3 rfl) ?_
          refine lv_iload C.1.1 C.1.2.1 dX11_train_191 (lv_at hl 9 rfl) ?_
          refine lv_iload C.1.1 C.1.2.1 dX11_train_193 (lv_at hl 10 rfl) ?_
          refine lv_iload C.1.1 C.1.2.1 dX11_train_195 (lv_at hl 11 rfl) ?_
          obtain ⟨r41, I42, hc43, h⟩ := bd2_some h
          refine w_callVi (k := 5) (As := [.int v1, .int v2, .int v8, .int v9, .int z10]) (rest := []) C hW (c_X11_isEnough g l  hc43) (by decide) rfl (EX_11 (by decide)) K_X11_171 (by decide +kernel) ⟨by decide, by decide⟩ ⟨Nat.le_refl _, Nat.le_refl _⟩ rfl hl.1 rfl (Nat.le_of_ble_eq_true rfl) dX11_train_197 (fun H locs hW => ?_)
          refine lv_if_eq (tgt := 219) C.1.1 C.1.2.1 dX11_train_200 (by decide) (fun hc44 => ?_) (fun hc44 => ?_)
          · replace h := ite_t hc44 h
            obtain ⟨rfl, rfl, rfl, rfl, rfl⟩ := inj5 h
            exact kJ37 _ _ _ hW (lv_sub hl [1, 2, 3, 4, 5, 6, 7, 8, 9, 10, 11] rfl)
          · replace h := ite_f hc44 h
            refine lv_iload C.1.1 C.1.2.1 dX11_train_203 (lv_at hl 0 rfl) ?_
            refine lv_istore (lv' := [(4, .int x31), (11, .int x31), (0, .ref (g.1 + 244)), (1, .int v1), (2, .int v2), (3, .int v3), (5, .int z5), (6, .int z6), (7, .int z7), (8, .int v8), (9, .int v9), (10, .int z10)]) C.1.1 C.1.2.1 dX11_train_205 hl (by decide) rfl (fun ls hl => ?_)
            refine lv_iload C.1.1 C.1.2.1 dX11_train_207 (lv_at hl 9 rfl) ?_
            refine lv_istore (lv' := [(5, .int v8), (4, .int x31), (11, .int x31), (0, .ref (g.1 + 244)), (1, .int v1), (2, .int v2), (3, .int v3), (6, .int z6), (7, .int z7), (8, .int v8), (9, .int v9), (10, .int z10)]) C.1.1 C.1.2.1 dX11_train_209 hl (by decide) rfl (fun ls hl => ?_)
            refine lv_iload C.1.1 C.1.2.1 dX11_train_211 (lv_at hl 10 rfl) ?_
            refine lv_istore (lv' := [(6, .int v9), (5, .int v8), (4, .int x31), (11, .int x31), (0, .ref (g.1 + 244)), (1, .int v1), (2, .int v2), (3, .int v3), (7, .int z7), (8, .int v8), (9, .int v9), (10, .int z10)]) C.1.1 C.1.2.1 dX11_train_213 hl (by decide) rfl (fun ls hl => ?_)
            refine lv_iload C.1.1 C.1.2.1 dX11_train_215 (lv_at hl 11 rfl) ?_
            refine lv_istore (lv' := [(7, .int z10), (6, .int v9), (5, .int v8), (4, .int x31), (11, .int x31), (0, .ref (g.1 + 244)), (1, .int v1), (2, .int v2), (3, .int v3), (8, .int v8), (9, .int v9), (10, .int z10)]) C.1.1 C.1.2.1 dX11_train_217 hl (by decide) rfl (fun ls hl => ?_)
            obtain ⟨rfl, rfl, rfl, rfl, rfl⟩ := inj5 h
            exact kJ37 _ _ _ hW (lv_sub hl [5, 6, 7, 8, 3, 2, 1, 0, 9, 10, 11] rfl)
def b_X11_train_134 (v1 : Int32) (v2 : Int32) (v3 : Int32) (v8 : Int32) (L : ML) (z4 : Int32) (z5 : Int32) (z6 : Int32) (z7 : Int32) (z9 : Int32) (I : MI) : Option ((Int32 × Int32 × Int32 × Int32 × Int32 × MI) ⊕ ((Int32 × Int32 × Int32 × Int32 × MI))) :=
  gi ((19 : Int32) + v1) 1752 ((if (I 245 ((19 : Int32) + v1).toNatClampNeg) < z9 then some (Sum.inr (z4, z5, z6, z7, I)) else bd5 (lp (fun s => b_X11_train_151 v1 v2 v3 v8 z9 L s.1 s.2.1 s.2.2.1 s.2.2.2.1 s.2.2.2.2.1 s.2.2.2.2.2) FU ((z4, z5, z6, z7, (0 : Int32), I))) (fun y46 y47 y48 y49 I50 => nm (z9 + (1 : Int32)) (fun x51 => some (Sum.inl (y46, y47, y48, y49, x51, I50))))))
set_option maxHeartbeats 4000000 in
set_option maxRecDepth 100000 in
theorem l_X11_train_134 {g : Gp} {p : Program} {l : Launch} {e : Env} {s : State} {m : MethodId} {args : Array Value} {below : List Frame} {meth : Method} {c : Code} {Q : State → Prop}  (C : Cx g p s m args c RX11 cX11_train 12) (v1 : Int32) (v2 : Int32) (v3 : Int32) (v8 : Int32)  (L : ML) : ∀ (n : Nat) (z4 : Int32) (z5 : Int32) (z6 : Int32) (z7 : Int32) (z9 : Int32) (I : MI) (y0_4 : Int32) (y0_5 : Int32) (y0_6 : Int32) (y0_7 : Int32) (Iy0 : MI), lp (fun s => b_X11_train_134 v1 v2 v3 v8 L s.1 s.2.1 s.2.2.1 s.2.2.2.1 s.2.2.2.2.1 s.2.2.2.2.2) n (z4, z5, z6, z7, z9, I) = some (y0_4, y0_5, y0_6, y0_7, Iy0) → ∀ (H : Heap) (locs : List Loc) (ls : Array Slot), Ws g s I L H locs → lv_has ls 12 [(0, .ref (g.1 + 244)), (1, .int v1), (2, .int v2), (3, .int v3), (4, .int z4), (5, .int z5), (6, .int z6), (7, .int z7), (8, .int v8), (9, .int z9)] → (∀ (H : Heap) (locs : List Loc) (ls : Array Slot), Ws g s Iy0 L H locs → lv_has ls 12 [(0, .ref (g.1 + 244)), (1, .int v1), (2, .int v2), (3, .int v3), (4, .int y0_4), (5, .int y0_5), (6, .int y0_6), (7, .int y0_7), (8, .int v8)] → W p l e (rmD 4) s m args below meth c H locs 0 0 Q (F0 m 231 ls [])) → W p l e (rmD 4) s m args below meth c H locs 0 0 Q (F0 m 134 ls []) := by
  intro n
  induction n with
  | zero => intro z4 z5 z6 z7 z9 I y0_4 y0_5 y0_6 y0_7 Iy0 h; exact lp_zero h
  | succ n ih =>
      intro z4 z5 z6 z7 z9 I y0_4 y0_5 y0_6 y0_7 Iy0 h H locs ls hW hl hx0
      obtain ⟨r9, h, h9⟩ := lp_some h
      have h : b_X11_train_134 v1 v2 v3 v8 L z4 z5 z6 z7 z9 I = some r9 := h
      unfold b_X11_train_134 at h
      refine lv_iload C.1.1 C.1.2.1 dX11_train_134 (lv_at hl 9 rfl) ?_
      refine lv_aload_n C.1.1 C.1.2.1 dX11_train_136 rfl (lv_at hl 0 rfl) ?_
      refine G_X11_7 C hW (by decide) dX11_train_137 ?_
      refine lv_bipush (v := 19) C.1.1 C.1.2.1 dX11_train_140 (by decide) ?_
      refine lv_iload_n C.1.1 C.1.2.1 dX11_train_142 rfl (lv_at hl 1 rfl) ?_
      refine lv_iadd C.1.1 C.1.2.1 dX11_train_143 ?_
      obtain ⟨hi27, h⟩ := gi_some h
      refine w_iald C hW (n := 1752) (by decide) (by decide) hi27 dX11_train_144 ?_
      refine lv_icmp_gt (tgt := 231) C.1.1 C.1.2.1 dX11_train_145 (by decide) (fun hc28 => ?_) (fun hc28 => ?_)
      · replace h := ite_t hc28 h
        obtain rfl := Option.some.inj h
        replace h9 := Option.some.inj h9
        obtain ⟨rfl, rfl, rfl, rfl, rfl⟩ := pnj5 h9
        exact hx0 _ _ _ hW (lv_sub hl [0, 1, 2, 3, 4, 5, 6, 7, 8] rfl)
      · replace h := ite_f hc28 h
        refine lv_iconst (v := 0) C.1.1 C.1.2.1 dX11_train_148 (by decide) ?_
        refine lv_istore (lv' := [(10, .int (0 : Int32)), (0, .ref (g.1 + 244)), (1, .int v1), (2, .int v2), (3, .int v3), (4, .int z4), (5, .int z5), (6, .int z6), (7, .int z7), (8, .int v8), (9, .int z9)]) C.1.1 C.1.2.1 dX11_train_149 hl (by decide) rfl (fun ls hl => ?_)
        obtain ⟨y46, y47, y48, y49, I50, hq45, h⟩ := bd5_some h
        refine l_X11_train_151 C v1 v2 v3 v8 z9  L _ _ _ _ _ _ _ _ _ _ _ _ hq45 _ _ _ hW (lv_sub hl [1, 2, 3, 4, 5, 6, 7, 8, 9, 10, 0] rfl) (fun H locs ls hW hl => ?_)
        obtain ⟨x51, ex51⟩ : ∃ y : Int32, y = z9 + (1 : Int32) := ⟨_, rfl⟩
        replace h := nm_at ex51 h
        refine lv_iinc (v := x51) (lv' := [(9, .int x51), (0, .ref (g.1 + 244)), (1, .int v1), (2, .int v2), (3, .int v3), (4, .int y46), (5, .int y47), (6, .int y48), (7, .int y49), (8, .int v8)]) C.1.1 C.1.2.1 dX11_train_225 hl (k := 9) rfl (by rw [ex51]; rfl) (by decide) rfl (fun ls hl => ?_)
        clear ex51
        refine lv_goto (tgt := 134) C.1.1 C.1.2.1 dX11_train_228 (by decide) ?_
        obtain rfl := Option.some.inj h
        exact ih _ _ _ _ _ _ _ _ _ _ _ h9 _ _ _ hW (lv_sub hl [1, 2, 3, 4, 5, 6, 7, 8, 9, 0] rfl) hx0
def b_X11_train_107 (v1 : Int32) (v2 : Int32) (v3 : Int32) (L : ML) (z4 : Int32) (z5 : Int32) (z6 : Int32) (z7 : Int32) (z8 : Int32) (I : MI) : Option ((Int32 × Int32 × Int32 × Int32 × Int32 × MI) ⊕ ((Int32 × Int32 × Int32 × Int32 × MI))) :=
  (if (20 : Int32) < z8 then some (Sum.inr (z4, z5, z6, z7, I)) else gi ((13 : Int32) + v1) 1752 ((if (99 : Int32) < ((I 245 ((13 : Int32) + v1).toNatClampNeg) + z8) then some (Sum.inr (z4, z5, z6, z7, I)) else bd5 (lp (fun s => b_X11_train_134 v1 v2 v3 z8 L s.1 s.2.1 s.2.2.1 s.2.2.2.1 s.2.2.2.2.1 s.2.2.2.2.2) FU ((z4, z5, z6, z7, (0 : Int32), I))) (fun y53 y54 y55 y56 I57 => nm (z8 + (1 : Int32)) (fun x58 => some (Sum.inl (y53, y54, y55, y56, x58, I57)))))))
set_option maxHeartbeats 4000000 in
set_option maxRecDepth 100000 in
theorem l_X11_train_107 {g : Gp} {p : Program} {l : Launch} {e : Env} {s : State} {m : MethodId} {args : Array Value} {below : List Frame} {meth : Method} {c : Code} {Q : State → Prop}  (C : Cx g p s m args c RX11 cX11_train 12) (v1 : Int32) (v2 : Int32) (v3 : Int32)  (L : ML) : ∀ (n : Nat) (z4 : Int32) (z5 : Int32) (z6 : Int32) (z7 : Int32) (z8 : Int32) (I : MI) (y0_4 : Int32) (y0_5 : Int32) (y0_6 : Int32) (y0_7 : Int32) (Iy0 : MI), lp (fun s => b_X11_train_107 v1 v2 v3 L s.1 s.2.1 s.2.2.1 s.2.2.2.1 s.2.2.2.2.1 s.2.2.2.2.2) n (z4, z5, z6, z7, z8, I) = some (y0_4, y0_5, y0_6, y0_7, Iy0) → ∀ (H : Heap) (locs : List Loc) (ls : Array Slot), Ws g s I L H locs → lv_has ls 12 [(0, .ref (g.1 + 244)), (1, .int v1), (2, .int v2), (3, .int v3), (4, .int z4), (5, .int z5), (6, .int z6), (7, .int z7), (8, .int z8)] → (∀ (H : Heap) (locs : List Loc) (ls : Array Slot), Ws g s Iy0 L H locs → lv_has ls 12 [(3, .int v3), (4, .int y0_4), (5, .int y0_5), (6, .int y0_6), (7, .int y0_7)] → W p l e (rmD 4) s m args below meth c H locs 0 0 Q (F0 m 237 ls [])) → W p l e (rmD 4) s m args below meth c H locs 0 0 Q (F0 m 107 ls []) := by
  intro n
  induction n with
  | zero => intro z4 z5 z6 z7 z8 I y0_4 y0_5 y0_6 y0_7 Iy0 h; exact lp_zero h
  | succ n ih =>
      intro z4 z5 z6 z7 z8 I y0_4 y0_5 y0_6 y0_7 Iy0 h H locs ls hW hl hx0
      obtain ⟨r9, h, h9⟩ := lp_some h
      have h : b_X11_train_107 v1 v2 v3 L z4 z5 z6 z7 z8 I = some r9 := h
      unfold b_X11_train_107 at h
      refine lv_iload C.1.1 C.1.2.1 dX11_train_107 (lv_at hl 8 rfl) ?_
      refine lv_bipush (v := 20) C.1.1 C.1.2.1 dX11_train_109 (by decide) ?_
      refine lv_icmp_gt (tgt := 237) C.1.1 C.1.2.1 dX11_train_111 (by decide) (fun hc24 => ?_) (fun hc24 => ?_)
      · replace h := ite_t hc24 h
        obtain rfl := Option.some.inj h
        replace h9 := Option.some.inj h9
        obtain ⟨rfl, rfl, rfl, rfl, rfl⟩ := pnj5 h9
        exact hx0 _ _ _ hW (lv_sub hl [3, 4, 5, 6, 7] rfl)
      · replace h := ite_f hc24 h
        refine lv_aload_n C.1.1 C.1.2.1 dX11_train_114 rfl (lv_at hl 0 rfl) ?_
        refine G_X11_7 C hW (by decide) dX11_train_115 ?_
        refine lv_bipush (v := 13) C.1.1 C.1.2.1 dX11_train_118 (by decide) ?_
        refine lv_iload_n C.1.1 C.1.2.1 dX11_train_120 rfl (lv_at hl 1 rfl) ?_
        refine lv_iadd C.1.1 C.1.2.1 dX11_train_121 ?_
        obtain ⟨hi25, h⟩ := gi_some h
        refine w_iald C hW (n := 1752) (by decide) (by decide) hi25 dX11_train_122 ?_
        refine lv_iload C.1.1 C.1.2.1 dX11_train_123 (lv_at hl 8 rfl) ?_
        refine lv_iadd C.1.1 C.1.2.1 dX11_train_125 ?_
        refine lv_bipush (v := 99) C.1.1 C.1.2.1 dX11_train_126 (by decide) ?_
        refine lv_icmp_gt (tgt := 237) C.1.1 C.1.2.1 dX11_train_128 (by decide) (fun hc26 => ?_) (fun hc26 => ?_)
        · replace h := ite_t hc26 h
          obtain rfl := Option.some.inj h
          replace h9 := Option.some.inj h9
          obtain ⟨rfl, rfl, rfl, rfl, rfl⟩ := pnj5 h9
          exact hx0 _ _ _ hW (lv_sub hl [3, 4, 5, 6, 7] rfl)
        · replace h := ite_f hc26 h
          refine lv_iconst (v := 0) C.1.1 C.1.2.1 dX11_train_131 (by decide) ?_
          refine lv_istore (lv' := [(9, .int (0 : Int32)), (0, .ref (g.1 + 244)), (1, .int v1), (2, .int v2), (3, .int v3), (4, .int z4), (5, .int z5), (6, .int z6), (7, .int z7), (8, .int z8)]) C.1.1 C.1.2.1 dX11_train_132 hl (by decide) rfl (fun ls hl => ?_)
          obtain ⟨y53, y54, y55, y56, I57, hq52, h⟩ := bd5_some h
          refine l_X11_train_134 C v1 v2 v3 z8  L _ _ _ _ _ _ _ _ _ _ _ _ hq52 _ _ _ hW (lv_sub hl [1, 2, 3, 4, 5, 6, 7, 8, 9, 0] rfl) (fun H locs ls hW hl => ?_)
          obtain ⟨x58, ex58⟩ : ∃ y : Int32, y = z8 + (1 : Int32) := ⟨_, rfl⟩
          replace h := nm_at ex58 h
          refine lv_iinc (v := x58) (lv' := [(8, .int x58), (0, .ref (g.1 + 244)), (1, .int v1), (2, .int v2), (3, .int v3), (4, .int y53), (5, .int y54), (6, .int y55), (7, .int y56)]) C.1.1 C.1.2.1 dX11_train_231 hl (k := 8) rfl (by rw [ex58]; rfl) (by decide) rfl (fun ls hl => ?_)
          clear ex58
          refine lv_goto (tgt := 107) C.1.1 C.1.2.1 dX11_train_234 (by decide) ?_
          obtain rfl := Option.some.inj h
          exact ih _ _ _ _ _ _ _ _ _ _ _ h9 _ _ _ hW (lv_sub hl [1, 2, 3, 4, 5, 6, 7, 8, 0] rfl) hx0
def f_X11_train (a1 : Int32) (a2 : Int32) (a3 : Int32) (I : MI) (L : ML) : Option (Int32 × MI) :=
  bd1 (f_X11_isSitter a1 I L) (fun r1 => (if r1 = 0 then some (((-1 : Int32), I)) else bd1 (f_X11_in a2.toInt64 (1 : Int64) (40 : Int64)) (fun r4 => (if r4 = 0 then some (((-1 : Int32), I)) else bd1 (f_X11_in a3.toInt64 (0 : Int64) (3 : Int64)) (fun r7 => (if r7 = 0 then some (((-1 : Int32), I)) else bd1 (f_X11_isDown (0 : Int32) a1 I L) (fun r10 => (if r10 = 0 then bd1 (f_X11_copyRow (0 : Int32) (219 : Int32) I L) (fun I13 => bd1 (lp (fun s => b_X11_train_57 a1 a2 a3 L s.1 s.2) FU (((0 : Int32), I13))) (fun I23 => bd5 (lp (fun s => b_X11_train_107 a1 a2 a3 L s.1 s.2.1 s.2.2.1 s.2.2.2.1 s.2.2.2.2.1 s.2.2.2.2.2) FU (((1000000 : Int32), (0 : Int32), (0 : Int32), (0 : Int32), (0 : Int32), I23))) (fun y60 y61 y62 y63 I64 => bd1 ((if y60 = (1000000 : Int32) then some (-4 : Int32) else (if a3 = 0 then some y60 else (if a3 = (1 : Int32) then some y61 else (if a3 = (2 : Int32) then some y62 else some y63))))) (fun y65 => some (y65, I64))))) else some (((-2 : Int32), I))))))))))
set_option maxHeartbeats 4000000 in
set_option maxRecDepth 100000 in
theorem c_X11_train (g : Gp) (l : Launch) {a1 : Int32} {a2 : Int32} {a3 : Int32}  {I : MI} {L : ML} {r : Int32} {I' : MI} (h : f_X11_train a1 a2 a3 I L = some (r, I')) : MetI g l yX11_train cX11_train 12 .int 4 [.ref (g.1 + 244), .int a1, .int a2, .int a3] I L r I' L := by
  unfold f_X11_train at h
  refine w_enter (by decide) (Nat.le_of_ble_eq_true rfl) (own := RX11) rfl ?_
  intro p e s m below meth c args Q hQ C hr hlocks hW ls hl
  have hl : lv_has ls 12 [(0, .ref (g.1 + 244)), (1, .int a1), (2, .int a2), (3, .int a3)] := hl
  refine lv_aload_n C.1.1 C.1.2.1 dX11_train_0 rfl (lv_at hl 0 rfl) ?_
  refine lv_iload_n C.1.1 C.1.2.1 dX11_train_1 rfl (lv_at hl 1 rfl) ?_
  obtain ⟨r1, hc2, h⟩ := bd1_some h
  refine w_callVi (k := 1) (As := [.int a1]) (rest := []) C hW (c_X11_isSitter g l  hc2) (by decide) rfl (EX_11 (by decide)) K_X11_115 (by decide +kernel) ⟨by decide, by decide⟩ ⟨Nat.le_refl _, Nat.le_refl _⟩ rfl hl.1 rfl (Nat.le_of_ble_eq_true rfl) dX11_train_2 (fun H locs hW => ?_)
  refine lv_if_eq (tgt := 32) C.1.1 C.1.2.1 dX11_train_5 (by decide) (fun hc3 => ?_) (fun hc3 => ?_)
  · replace h := ite_t hc3 h
    refine lv_iconst (v := -1) C.1.1 C.1.2.1 dX11_train_32 (by decide) ?_
    obtain ⟨rfl, rfl⟩ := inj2 h
    subst hQ
    exact w_iret C hW hr hlocks dX11_train_33
  · replace h := ite_f hc3 h
    refine lv_iload_n C.1.1 C.1.2.1 dX11_train_8 rfl (lv_at hl 2 rfl) ?_
    refine lv_i2l C.1.1 C.1.2.1 dX11_train_9 rfl ?_
    refine lv_lconst (v := 1) C.1.1 C.1.2.1 dX11_train_10 (by decide) ?_
    refine lv_ldc2 C.1.1 C.1.2.1 C.1.2.2.2.1 (C.1.2.2.2.2 _ kl_X11_167) dX11_train_11 ?_
    obtain ⟨r4, hc5, h⟩ := bd1_some h
    refine w_callSi (k := 3) (As := [.long a2.toInt64, .long (1 : Int64), .long (40 : Int64)]) (rest := []) C hW (c_X11_in g l  hc5 I L) K_X11_42 (by decide +kernel) ⟨by decide, by decide⟩ ⟨Nat.le_refl _, Nat.le_refl _⟩ rfl hl.1 rfl (Nat.le_of_ble_eq_true rfl) dX11_train_14 (fun H locs hW => ?_)
    refine lv_if_eq (tgt := 32) C.1.1 C.1.2.1 dX11_train_17 (by decide) (fun hc6 => ?_) (fun hc6 => ?_)
    · replace h := ite_t hc6 h
      refine lv_iconst (v := -1) C.1.1 C.1.2.1 dX11_train_32 (by decide) ?_
      obtain ⟨rfl, rfl⟩ := inj2 h
      subst hQ
      exact w_iret C hW hr hlocks dX11_train_33
    · replace h := ite_f hc6 h
      refine lv_iload_n C.1.1 C.1.2.1 dX11_train_20 rfl (lv_at hl 3 rfl) ?_
      refine lv_i2l C.1.1 C.1.2.1 dX11_train_21 rfl ?_
      refine lv_lconst (v := 0) C.1.1 C.1.2.1 dX11_train_22 (by decide) ?_
      refine lv_ldc2 C.1.1 C.1.2.1 C.1.2.2.2.1 (C.1.2.2.2.2 _ kl_X11_169) dX11_train_23 ?_
      obtain ⟨r7, hc8, h⟩ := bd1_some h
      refine w_callSi (k := 3) (As := [.long a3.toInt64, .long (0 : Int64), .long (3 : Int64)]) (rest := []) C hW (c_X11_in g l  hc8 I L) K_X11_42 (by decide +kernel) ⟨by decide, by decide⟩ ⟨Nat.le_refl _, Nat.le_refl _⟩ rfl hl.1 rfl (Nat.le_of_ble_eq_true rfl) dX11_train_26 (fun H locs hW => ?_)
      refine lv_if_ne (tgt := 34) C.1.1 C.1.2.1 dX11_train_29 (by decide) (fun hc9 => ?_) (fun hc9 => ?_)
      · replace h := ite_f hc9 h
        refine lv_aload_n C.1.1 C.1.2.1 dX11_train_34 rfl (lv_at hl 0 rfl) ?_
        refine lv_iconst (v := 0) C.1.1 C.1.2.1 dX11_train_35 (by decide) ?_
        refine lv_iload_n C.1.1 C.1.2.1 dX11_train_36 rfl (lv_at hl 1 rfl) ?_
        obtain ⟨r10, hc11, h⟩ := bd1_some h
        refine w_callVi (k := 2) (As := [.int (0 : Int32), .int a1]) (rest := []) C hW (c_X11_isDown g l  hc11) (by decide) rfl (EX_11 (by decide)) K_X11_100 (by decide +kernel) ⟨by decide, by decide⟩ ⟨Nat.le_refl _, Nat.le_refl _⟩ rfl hl.1 rfl (Nat.le_of_ble_eq_true rfl) dX11_train_37 (fun H locs hW => ?_)
        refine lv_if_eq (tgt := 46) C.1.1 C.1.2.1 dX11_train_40 (by decide) (fun hc12 => ?_) (fun hc12 => ?_)
        · replace h := ite_t hc12 h
          refine lv_aload_n C.1.1 C.1.2.1 dX11_train_46 rfl (lv_at hl 0 rfl) ?_
          refine lv_iconst (v := 0) C.1.1 C.1.2.1 dX11_train_47 (by decide) ?_
          refine lv_sipush (v := 219) C.1.1 C.1.2.1 dX11_train_48 (by decide) ?_
          obtain ⟨I13, hc14, h⟩ := bd1_some h
          refine w_callVv (k := 2) (As := [.int (0 : Int32), .int (219 : Int32)]) (rest := []) C hW (c_X11_copyRow g l  hc14) (by decide) rfl (EX_11 (by decide)) K_X11_90 (by decide +kernel) ⟨by decide, by decide⟩ ⟨Nat.le_refl _, Nat.le_refl _⟩ rfl hl.1 rfl (Nat.le_of_ble_eq_true rfl) dX11_train_51 (fun H locs hW => ?_)
          refine lv_iconst (v := 0) C.1.1 C.1.2.1 dX11_train_54 (by decide) ?_
          refine lv_istore (lv' := [(4, .int (0 : Int32)), (0, .ref (g.1 + 244)), (1, .int a1), (2, .int a2), (3, .int a3)]) C.1.1 C.1.2.1 dX11_train_55 hl (by decide) rfl (fun ls hl => ?_)
          obtain ⟨I23, hq22, h⟩ := bd1_some h
          refine l_X11_train_57 C a1 a2 a3  L _ _ _ _ hq22 _ _ _ hW (lv_sub hl [1, 2, 3, 4, 0] rfl) (fun H locs ls hW hl => ?_)
          refine lv_ldc C.1.1 C.1.2.1 C.1.2.2.2.1 (C.1.2.2.2.2 _ kc_X11_146) dX11_train_91 ?_
          refine lv_istore (lv' := [(4, .int (1000000 : Int32)), (0, .ref (g.1 + 244)), (1, .int a1), (2, .int a2), (3, .int a3)]) C.1.1 C.1.2.1 dX11_train_93 hl (by decide) rfl (fun ls hl => ?_)
          refine lv_iconst (v := 0) C.1.1 C.1.2.1 dX11_train_95 (by decide) ?_
          refine lv_istore (lv' := [(5, .int (0 : Int32)), (4, .int (1000000 : Int32)), (0, .ref (g.1 + 244)), (1, .int a1), (2, .int a2), (3, .int a3)]) C.1.1 C.1.2.1 dX11_train_96 hl (by decide) rfl (fun ls hl => ?_)
          refine lv_iconst (v := 0) C.1.1 C.1.2.1 dX11_train_98 (by decide) ?_
          refine lv_istore (lv' := [(6, .int (0 : Int32)), (5, .int (0 : Int32)), (4, .int (1000000 : Int32)), (0, .ref (g.1 + 244)), (1, .int a1), (2, .int a2), (3, .int a3)]) C.1.1 C.1.2.1 dX11_train_99 hl (by decide) rfl (fun ls hl => ?_)
          refine lv_iconst (v := 0) C.1.1 C.1.2.1 dX11_train_101 (by decide) ?_
          refine lv_istore (lv' := [(7, .int (0 : Int32)), (6, .int (0 : Int32)), (5, .int (0 : Int32)), (4, .int (1000000 : Int32)), (0, .ref (g.1 + 244)), (1, .int a1), (2, .int a2), (3, .int a3)]) C.1.1 C.1.2.1 dX11_train_102 hl (by decide) rfl (fun ls hl => ?_)
          refine lv_iconst (v := 0) C.1.1 C.1.2.1 dX11_train_104 (by decide) ?_
          refine lv_istore (lv' := [(8, .int (0 : Int32)), (7, .int (0 : Int32)), (6, .int (0 : Int32)), (5, .int (0 : Int32)), (4, .int (1000000 : Int32)), (0, .ref (g.1 + 244)), (1, .int a1), (2, .int a2), (3, .int a3)]) C.1.1 C.1.2.1 dX11_train_105 hl (by decide) rfl (fun ls hl => ?_)
          obtain ⟨y60, y61, y62, y63, I64, hq59, h⟩ := bd5_some h
          refine l_X11_train_107 C a1 a2 a3  L _ _ _ _ _ _ _ _ _ _ _ _ hq59 _ _ _ hW (lv_sub hl [5, 6, 7, 8, 4, 3, 2, 1, 0] rfl) (fun H locs ls hW hl => ?_)
          refine lv_iload C.1.1 C.1.2.1 dX11_train_237 (lv_at hl 1 rfl) ?_
          refine lv_ldc C.1.1 C.1.2.1 C.1.2.2.2.1 (C.1.2.2.2.2 _ kc_X11_146) dX11_train_239 ?_
          obtain ⟨y65, hj67, h⟩ := bd1_some h
          have kJ66 : ∀ (H : Heap) (locs : List Loc) (ls : Array Slot), Ws g s I64 L H locs → lv_has ls 12 [] → W p l e (rmD 4) s m args below meth c H locs 0 0 Q (F0 m 280 ls [.int y65]) := by
            intro H locs ls hW hl
            obtain ⟨rfl, rfl⟩ := inj2 h
            subst hQ
            exact w_iret C hW hr hlocks dX11_train_280
          clear h
          have h := hj67
          clear hj67
          refine lv_icmp_ne (tgt := 249) C.1.1 C.1.2.1 dX11_train_241 (by decide) (fun hc68 => ?_) (fun hc68 => ?_)
          · replace h := ite_f hc68 h
            refine lv_iload_n C.1.1 C.1.2.1 dX11_train_249 rfl (lv_at hl 0 rfl) ?_
            refine lv_if_ne (tgt := 258) C.1.1 C.1.2.1 dX11_train_250 (by decide) (fun hc69 => ?_) (fun hc69 => ?_)
            · replace h := ite_f hc69 h
              refine lv_iload_n C.1.1 C.1.2.1 dX11_train_258 rfl (lv_at hl 0 rfl) ?_
              refine lv_iconst (v := 1) C.1.1 C.1.2.1 dX11_train_259 (by decide) ?_
              refine lv_icmp_ne (tgt := 268) C.1.1 C.1.2.1 dX11_train_260 (by decide) (fun hc70 => ?_) (fun hc70 => ?_)
              · replace h := ite_f hc70 h
                refine lv_iload_n C.1.1 C.1.2.1 dX11_train_268 rfl (lv_at hl 0 rfl) ?_
                refine lv_iconst (v := 2) C.1.1 C.1.2.1 dX11_train_269 (by decide) ?_
                refine lv_icmp_ne (tgt := 278) C.1.1 C.1.2.1 dX11_train_270 (by decide) (fun hc71 => ?_) (fun hc71 => ?_)
                · replace h := ite_f hc71 h
                  refine lv_iload C.1.1 C.1.2.1 dX11_train_278 (lv_at hl 4 rfl) ?_
                  obtain rfl := inj1 h
                  exact kJ66 _ _ _ hW (lv_sub hl [] rfl)
                · replace h := ite_t hc71 h
                  refine lv_iload C.1.1 C.1.2.1 dX11_train_273 (lv_at hl 3 rfl) ?_
                  refine lv_goto (tgt := 280) C.1.1 C.1.2.1 dX11_train_275 (by decide) ?_
                  obtain rfl := inj1 h
                  exact kJ66 _ _ _ hW (lv_sub hl [] rfl)
              · replace h := ite_t hc70 h
                refine lv_iload C.1.1 C.1.2.1 dX11_train_263 (lv_at hl 2 rfl) ?_
                refine lv_goto (tgt := 280) C.1.1 C.1.2.1 dX11_train_265 (by decide) ?_
                obtain rfl := inj1 h
                exact kJ66 _ _ _ hW (lv_sub hl [] rfl)
            · replace h := ite_t hc69 h
              refine lv_iload C.1.1 C.1.2.1 dX11_train_253 (lv_at hl 1 rfl) ?_
              refine lv_goto (tgt := 280) C.1.1 C.1.2.1 dX11_train_255 (by decide) ?_
              obtain rfl := inj1 h
              exact kJ66 _ _ _ hW (lv_sub hl [] rfl)
          · replace h := ite_t hc68 h
            refine lv_bipush (v := -4) C.1.1 C.1.2.1 dX11_train_244 (by decide) ?_
            refine lv_goto (tgt := 280) C.1.1 C.1.2.1 dX11_train_246 (by decide) ?_
            obtain rfl := inj1 h
            exact kJ66 _ _ _ hW (lv_sub hl [] rfl)
        · replace h := ite_f hc12 h
          refine lv_bipush (v := -2) C.1.1 C.1.2.1 dX11_train_43 (by decide) ?_
          obtain ⟨rfl, rfl⟩ := inj2 h
          subst hQ
          exact w_iret C hW hr hlocks dX11_train_45
      · replace h := ite_t hc9 h
        refine lv_iconst (v := -1) C.1.1 C.1.2.1 dX11_train_32 (by decide) ?_
        obtain ⟨rfl, rfl⟩ := inj2 h
        subst hQ
        exact w_iret C hW hr hlocks dX11_train_33
def b_X11_dusk_31 (v1 : Int32) (L : ML) (z2 : Int32) (z3 : Int32) (I : MI) : Option ((Int32 × Int32 × MI) ⊕ ((Int32 × MI))) :=
  (if (24 : Int32) < z3 then some (Sum.inr (z2, I)) else bd1 (f_X11_copyRow (0 : Int32) (219 : Int32) I L) (fun I7 => gi (221 : Int32) 1752 (nm (up2 I7 245 ((221 : Int32).toNatClampNeg) z3) (fun I10 => bd1 (f_X11_passesMany v1 I10 L) (fun I11 => bd1 (f_X11_sittingIn (219 : Int32) I11 L) (fun r13 => bd1 ((if (1 : Int32) < r13 then some z2 else some z3)) (fun y15 => nm (z3 + (1 : Int32)) (fun x18 => some (Sum.inl (y15, x18, I11))))))))))
set_option maxHeartbeats 4000000 in
set_option maxRecDepth 100000 in
theorem l_X11_dusk_31 {g : Gp} {p : Program} {l : Launch} {e : Env} {s : State} {m : MethodId} {args : Array Value} {below : List Frame} {meth : Method} {c : Code} {Q : State → Prop}  (C : Cx g p s m args c RX11 cX11_dusk 4) (v1 : Int32)  (L : ML) : ∀ (n : Nat) (z2 : Int32) (z3 : Int32) (I : MI) (y0_2 : Int32) (Iy0 : MI), lp (fun s => b_X11_dusk_31 v1 L s.1 s.2.1 s.2.2) n (z2, z3, I) = some (y0_2, Iy0) → ∀ (H : Heap) (locs : List Loc) (ls : Array Slot), Ws g s I L H locs → lv_has ls 4 [(0, .ref (g.1 + 244)), (1, .int v1), (2, .int z2), (3, .int z3)] → (∀ (H : Heap) (locs : List Loc) (ls : Array Slot), Ws g s Iy0 L H locs → lv_has ls 4 [(2, .int y0_2)] → W p l e (rmD 5) s m args below meth c H locs 0 0 Q (F0 m 82 ls [])) → W p l e (rmD 5) s m args below meth c H locs 0 0 Q (F0 m 31 ls []) := by
  intro n
  induction n with
  | zero => intro z2 z3 I y0_2 Iy0 h; exact lp_zero h
  | succ n ih =>
      intro z2 z3 I y0_2 Iy0 h H locs ls hW hl hx0
      obtain ⟨r9, h, h9⟩ := lp_some h
      have h : b_X11_dusk_31 v1 L z2 z3 I = some r9 := h
      unfold b_X11_dusk_31 at h
      refine lv_iload_n C.1.1 C.1.2.1 dX11_dusk_31 rfl (lv_at hl 3 rfl) ?_
      refine lv_bipush (v := 24) C.1.1 C.1.2.1 dX11_dusk_32 (by decide) ?_
      refine lv_icmp_gt (tgt := 82) C.1.1 C.1.2.1 dX11_dusk_34 (by decide) (fun hc6 => ?_) (fun hc6 => ?_)
      · replace h := ite_t hc6 h
        obtain rfl := Option.some.inj h
        replace h9 := Option.some.inj h9
        obtain ⟨rfl, rfl⟩ := pnj2 h9
        exact hx0 _ _ _ hW (lv_sub hl [2] rfl)
      · replace h := ite_f hc6 h
        refine lv_aload_n C.1.1 C.1.2.1 dX11_dusk_37 rfl (lv_at hl 0 rfl) ?_
        refine lv_iconst (v := 0) C.1.1 C.1.2.1 dX11_dusk_38 (by decide) ?_
        refine lv_sipush (v := 219) C.1.1 C.1.2.1 dX11_dusk_39 (by decide) ?_
        obtain ⟨I7, hc8, h⟩ := bd1_some h
        refine w_callVv (k := 2) (As := [.int (0 : Int32), .int (219 : Int32)]) (rest := []) C hW (c_X11_copyRow g l  hc8) (by decide) rfl (EX_11 (by decide)) K_X11_90 (by decide +kernel) ⟨by decide, by decide⟩ ⟨Nat.le_refl _, Nat.le_refl _⟩ rfl hl.1 rfl (Nat.le_of_ble_eq_true rfl) dX11_dusk_42 (fun H locs hW => ?_)
        refine lv_aload_n C.1.1 C.1.2.1 dX11_dusk_45 rfl (lv_at hl 0 rfl) ?_
        refine G_X11_7 C hW (by decide) dX11_dusk_46 ?_
        refine lv_sipush (v := 221) C.1.1 C.1.2.1 dX11_dusk_49 (by decide) ?_
        refine lv_iload_n C.1.1 C.1.2.1 dX11_dusk_52 rfl (lv_at hl 3 rfl) ?_
        obtain ⟨hi9, h⟩ := gi_some h
        refine w_iast C hW (n := 1752) (by decide) (by decide) hi9 dX11_dusk_53 (fun H locs hW => ?_)
        obtain ⟨I10, eI10, h⟩ := nm_some h
        rw [← eI10] at hW
        clear eI10
        refine lv_aload_n C.1.1 C.1.2.1 dX11_dusk_54 rfl (lv_at hl 0 rfl) ?_
        refine lv_iload_n C.1.1 C.1.2.1 dX11_dusk_55 rfl (lv_at hl 1 rfl) ?_
        obtain ⟨I11, hc12, h⟩ := bd1_some h
        refine w_callVv (k := 1) (As := [.int v1]) (rest := []) C hW (c_X11_passesMany g l  hc12) (by decide) rfl (EX_11 (by decide)) K_X11_143 (by decide +kernel) ⟨by decide, by decide⟩ ⟨Nat.le_refl _, Nat.le_refl _⟩ rfl hl.1 rfl (Nat.le_of_ble_eq_true rfl) dX11_dusk_56 (fun H locs hW => ?_)
        refine lv_aload_n C.1.1 C.1.2.1 dX11_dusk_59 rfl (lv_at hl 0 rfl) ?_
        refine lv_sipush (v := 219) C.1.1 C.1.2.1 dX11_dusk_60 (by decide) ?_
        obtain ⟨r13, hc14, h⟩ := bd1_some h
        refine w_callVi (k := 1) (As := [.int (219 : Int32)]) (rest := []) C hW (c_X11_sittingIn g l  hc14) (by decide) rfl (EX_11 (by decide)) K_X11_133 (by decide +kernel) ⟨by decide, by decide⟩ ⟨Nat.le_refl _, Nat.le_refl _⟩ rfl hl.1 rfl (Nat.le_of_ble_eq_true rfl) dX11_dusk_63 (fun H locs hW => ?_)
        refine lv_iconst (v := 1) C.1.1 C.1.2.1 dX11_dusk_66 (by decide) ?_
        obtain ⟨y15, hj17, h⟩ := bd1_some h
        have kJ16 : ∀ (H : Heap) (locs : List Loc) (ls : Array Slot), Ws g s I11 L H locs → lv_has ls 4 [(0, .ref (g.1 + 244)), (1, .int v1), (3, .int z3)] → W p l e (rmD 5) s m args below meth c H locs 0 0 Q (F0 m 75 ls [.int y15]) := by
          intro H locs ls hW hl
          refine lv_istore_n (lv' := [(2, .int y15), (0, .ref (g.1 + 244)), (1, .int v1), (3, .int z3)]) C.1.1 C.1.2.1 dX11_dusk_75 rfl hl (by decide) rfl (fun ls hl => ?_)
          obtain ⟨x18, ex18⟩ : ∃ y : Int32, y = z3 + (1 : Int32) := ⟨_, rfl⟩
          replace h := nm_at ex18 h
          refine lv_iinc (v := x18) (lv' := [(3, .int x18), (2, .int y15), (0, .ref (g.1 + 244)), (1, .int v1)]) C.1.1 C.1.2.1 dX11_dusk_76 hl (k := 3) rfl (by rw [ex18]; rfl) (by decide) rfl (fun ls hl => ?_)
          clear ex18
          refine lv_goto (tgt := 31) C.1.1 C.1.2.1 dX11_dusk_79 (by decide) ?_
          obtain rfl := Option.some.inj h
          exact ih _ _ _ _ _ h9 _ _ _ hW (lv_sub hl [2, 3, 1, 0] rfl) hx0
        clear h
        have h := hj17
        clear hj17
        refine lv_icmp_gt (tgt := 74) C.1.1 C.1.2.1 dX11_dusk_67 (by decide) (fun hc19 => ?_) (fun hc19 => ?_)
        · replace h := ite_t hc19 h
          refine lv_iload_n C.1.1 C.1.2.1 dX11_dusk_74 rfl (lv_at hl 2 rfl) ?_
          obtain rfl := inj1 h
          exact kJ16 _ _ _ hW (lv_sub hl [0, 1, 3] rfl)
        · replace h := ite_f hc19 h
          refine lv_iload_n C.1.1 C.1.2.1 dX11_dusk_70 rfl (lv_at hl 3 rfl) ?_
          refine lv_goto (tgt := 75) C.1.1 C.1.2.1 dX11_dusk_71 (by decide) ?_
          obtain rfl := inj1 h
          exact kJ16 _ _ _ hW (lv_sub hl [0, 1, 3] rfl)
def f_X11_dusk (a1 : Int32) (I : MI) (L : ML) : Option (Int32 × MI) :=
  bd1 (f_X11_in a1.toInt64 (1 : Int64) (40 : Int64)) (fun r1 => (if r1 = 0 then some (((-1 : Int32), I)) else gi (0 : Int32) 1752 ((if (I 245 (0 : Int32).toNatClampNeg) = 0 then some (((-2 : Int32), I)) else bd2 (lp (fun s => b_X11_dusk_31 a1 L s.1 s.2.1 s.2.2) FU (((-4 : Int32), (1 : Int32), I))) (fun y21 I22 => some (y21, I22))))))
set_option maxHeartbeats 4000000 in
set_option maxRecDepth 100000 in
theorem c_X11_dusk (g : Gp) (l : Launch) {a1 : Int32}  {I : MI} {L : ML} {r : Int32} {I' : MI} (h : f_X11_dusk a1 I L = some (r, I')) : MetI g l yX11_dusk cX11_dusk 4 .int 5 [.ref (g.1 + 244), .int a1] I L r I' L := by
  unfold f_X11_dusk at h
  refine w_enter (by decide) (Nat.le_of_ble_eq_true rfl) (own := RX11) rfl ?_
  intro p e s m below meth c args Q hQ C hr hlocks hW ls hl
  have hl : lv_has ls 4 [(0, .ref (g.1 + 244)), (1, .int a1)] := hl
  refine lv_iload_n C.1.1 C.1.2.1 dX11_dusk_0 rfl (lv_at hl 1 rfl) ?_
  refine lv_i2l C.1.1 C.1.2.1 dX11_dusk_1 rfl ?_
  refine lv_lconst (v := 1) C.1.1 C.1.2.1 dX11_dusk_2 (by decide) ?_
  refine lv_ldc2 C.1.1 C.1.2.1 C.1.2.2.2.1 (C.1.2.2.2.2 _ kl_X11_167) dX11_dusk_3 ?_
  obtain ⟨r1, hc2, h⟩ := bd1_some h
  refine w_callSi (k := 3) (As := [.long a1.toInt64, .long (1 : Int64), .long (40 : Int64)]) (rest := []) C hW (c_X11_in g l  hc2 I L) K_X11_42 (by decide +kernel) ⟨by decide, by decide⟩ ⟨Nat.le_refl _, Nat.le_refl _⟩ rfl hl.1 rfl (Nat.le_of_ble_eq_true rfl) dX11_dusk_6 (fun H locs hW => ?_)
  refine lv_if_ne (tgt := 14) C.1.1 C.1.2.1 dX11_dusk_9 (by decide) (fun hc3 => ?_) (fun hc3 => ?_)
  · replace h := ite_f hc3 h
    refine lv_aload_n C.1.1 C.1.2.1 dX11_dusk_14 rfl (lv_at hl 0 rfl) ?_
    refine G_X11_7 C hW (by decide) dX11_dusk_15 ?_
    refine lv_iconst (v := 0) C.1.1 C.1.2.1 dX11_dusk_18 (by decide) ?_
    obtain ⟨hi4, h⟩ := gi_some h
    refine w_iald C hW (n := 1752) (by decide) (by decide) hi4 dX11_dusk_19 ?_
    refine lv_if_ne (tgt := 26) C.1.1 C.1.2.1 dX11_dusk_20 (by decide) (fun hc5 => ?_) (fun hc5 => ?_)
    · replace h := ite_f hc5 h
      refine lv_bipush (v := -4) C.1.1 C.1.2.1 dX11_dusk_26 (by decide) ?_
      refine lv_istore_n (lv' := [(2, .int (-4 : Int32)), (0, .ref (g.1 + 244)), (1, .int a1)]) C.1.1 C.1.2.1 dX11_dusk_28 rfl hl (by decide) rfl (fun ls hl => ?_)
      refine lv_iconst (v := 1) C.1.1 C.1.2.1 dX11_dusk_29 (by decide) ?_
      refine lv_istore_n (lv' := [(3, .int (1 : Int32)), (2, .int (-4 : Int32)), (0, .ref (g.1 + 244)), (1, .int a1)]) C.1.1 C.1.2.1 dX11_dusk_30 rfl hl (by decide) rfl (fun ls hl => ?_)
      obtain ⟨y21, I22, hq20, h⟩ := bd2_some h
      refine l_X11_dusk_31 C a1  L _ _ _ _ _ _ hq20 _ _ _ hW (lv_sub hl [2, 3, 1, 0] rfl) (fun H locs ls hW hl => ?_)
      refine lv_iload_n C.1.1 C.1.2.1 dX11_dusk_82 rfl (lv_at hl 0 rfl) ?_
      obtain ⟨rfl, rfl⟩ := inj2 h
      subst hQ
      exact w_iret C hW hr hlocks dX11_dusk_83
    · replace h := ite_t hc5 h
      refine lv_bipush (v := -2) C.1.1 C.1.2.1 dX11_dusk_23 (by decide) ?_
      obtain ⟨rfl, rfl⟩ := inj2 h
      subst hQ
      exact w_iret C hW hr hlocks dX11_dusk_25
  · replace h := ite_t hc3 h
    refine lv_iconst (v := -1) C.1.1 C.1.2.1 dX11_dusk_12 (by decide) ?_
    obtain ⟨rfl, rfl⟩ := inj2 h
    subst hQ
    exact w_iret C hW hr hlocks dX11_dusk_13
def b_X11_findOdds_13 (v1 : Int32) (v2 : Int32) (v3 : Int32) (v4 : Int32) (I : MI) (z5 : Int32) (L : ML) : Option ((Int32 × ML) ⊕ ((ML))) :=
  (if v3 ≤ z5 then some (Sum.inr L) else nm (uq2 L 244 13 ((L 244 13) * (10 : Int64))) (fun L4 => nm (z5 + (1 : Int32)) (fun x5 => some (Sum.inl (x5, L4)))))
set_option maxHeartbeats 4000000 in
set_option maxRecDepth 100000 in
theorem l_X11_findOdds_13 {g : Gp} {p : Program} {l : Launch} {e : Env} {s : State} {m : MethodId} {args : Array Value} {below : List Frame} {meth : Method} {c : Code} {Q : State → Prop}  (C : Cx g p s m args c RX11 cX11_findOdds 9) (v1 : Int32) (v2 : Int32) (v3 : Int32) (v4 : Int32)  (I : MI) : ∀ (n : Nat) (z5 : Int32) (L : ML) (Ly0 : ML), lp (fun s => b_X11_findOdds_13 v1 v2 v3 v4 I s.1 s.2) n (z5, L) = some Ly0 → ∀ (H : Heap) (locs : List Loc) (ls : Array Slot), Ws g s I L H locs → lv_has ls 9 [(0, .ref (g.1 + 244)), (1, .int v1), (2, .int v2), (3, .int v3), (4, .int v4), (5, .int z5)] → (∀ (H : Heap) (locs : List Loc) (ls : Array Slot), Ws g s I Ly0 H locs → lv_has ls 9 [(0, .ref (g.1 + 244)), (1, .int v1), (2, .int v2), (3, .int v3), (4, .int v4)] → W p l e (rmD 3) s m args below meth c H locs 0 0 Q (F0 m 37 ls [])) → W p l e (rmD 3) s m args below meth c H locs 0 0 Q (F0 m 13 ls []) := by
  intro n
  induction n with
  | zero => intro z5 L Ly0 h; exact lp_zero h
  | succ n ih =>
      intro z5 L Ly0 h H locs ls hW hl hx0
      obtain ⟨r9, h, h9⟩ := lp_some h
      have h : b_X11_findOdds_13 v1 v2 v3 v4 I z5 L = some r9 := h
      unfold b_X11_findOdds_13 at h
      refine lv_iload C.1.1 C.1.2.1 dX11_findOdds_13 (lv_at hl 5 rfl) ?_
      refine lv_iload_n C.1.1 C.1.2.1 dX11_findOdds_15 rfl (lv_at hl 3 rfl) ?_
      refine lv_icmp_ge (tgt := 37) C.1.1 C.1.2.1 dX11_findOdds_16 (by decide) (fun hc3 => ?_) (fun hc3 => ?_)
      · replace h := ite_t hc3 h
        obtain rfl := Option.some.inj h
        replace h9 := Option.some.inj h9
        obtain rfl := pnj1 h9
        exact hx0 _ _ _ hW (lv_sub hl [0, 1, 2, 3, 4] rfl)
      · replace h := ite_f hc3 h
        refine lv_aload_n C.1.1 C.1.2.1 dX11_findOdds_19 rfl (lv_at hl 0 rfl) ?_
        refine lv_dup C.1.1 C.1.2.1 dX11_findOdds_20 rfl ?_
        refine G_X11_179 C hW (by decide) dX11_findOdds_21 ?_
        refine lv_ldc2 C.1.1 C.1.2.1 C.1.2.2.2.1 (C.1.2.2.2.2 _ kl_X11_118) dX11_findOdds_24 ?_
        refine lv_lmul C.1.1 C.1.2.1 dX11_findOdds_27 ?_
        refine P_X11_179 C hW (by decide) dX11_findOdds_28 (fun H locs hW => ?_)
        obtain ⟨L4, eL4, h⟩ := nm_some h
        rw [← eL4] at hW
        clear eL4
        obtain ⟨x5, ex5⟩ : ∃ y : Int32, y = z5 + (1 : Int32) := ⟨_, rfl⟩
        replace h := nm_at ex5 h
        refine lv_iinc (v := x5) (lv' := [(5, .int x5), (0, .ref (g.1 + 244)), (1, .int v1), (2, .int v2), (3, .int v3), (4, .int v4)]) C.1.1 C.1.2.1 dX11_findOdds_31 hl (k := 5) rfl (by rw [ex5]; rfl) (by decide) rfl (fun ls hl => ?_)
        clear ex5
        refine lv_goto (tgt := 13) C.1.1 C.1.2.1 dX11_findOdds_34 (by decide) ?_
        obtain rfl := Option.some.inj h
        exact ih _ _ _ h9 _ _ _ hW (lv_sub hl [1, 2, 3, 4, 5, 0] rfl) hx0
def b_X11_findOdds_62 (v1 : Int32) (v2 : Int32) (v3 : Int32) (v4 : Int32) (v5 : Int32) (L : ML) (z6 : Int64) (z8 : Int32) (I : MI) : Option ((Int64 × Int32 × MI) ⊕ ((Int64 × MI))) :=
  (if v3 ≤ z8 then some (Sum.inr (z6, I)) else bd1 (f_X11_has v5 z8) (fun r12 => bd1 ((if r12 = 0 then some (((10 : Int32) - v4).toInt64) else some v4.toInt64)) (fun y14 => nm (z6 * y14) (fun x17 => bd1 (f_X11_has v5 z8) (fun r18 => bd1 ((if r18 = 0 then some (0 : Int32) else some (1 : Int32))) (fun y20 => bd1 (f_X11_passesBy (219 : Int32) y20 I L) (fun I23 => nm (z8 + (1 : Int32)) (fun x25 => some (Sum.inl (x17, x25, I23))))))))))
set_option maxHeartbeats 4000000 in
set_option maxRecDepth 100000 in
theorem l_X11_findOdds_62 {g : Gp} {p : Program} {l : Launch} {e : Env} {s : State} {m : MethodId} {args : Array Value} {below : List Frame} {meth : Method} {c : Code} {Q : State → Prop}  (C : Cx g p s m args c RX11 cX11_findOdds 9) (v1 : Int32) (v2 : Int32) (v3 : Int32) (v4 : Int32) (v5 : Int32)  (L : ML) : ∀ (n : Nat) (z6 : Int64) (z8 : Int32) (I : MI) (y0_6 : Int64) (Iy0 : MI), lp (fun s => b_X11_findOdds_62 v1 v2 v3 v4 v5 L s.1 s.2.1 s.2.2) n (z6, z8, I) = some (y0_6, Iy0) → ∀ (H : Heap) (locs : List Loc) (ls : Array Slot), Ws g s I L H locs → lv_has ls 9 [(0, .ref (g.1 + 244)), (1, .int v1), (2, .int v2), (3, .int v3), (4, .int v4), (5, .int v5), (6, .long z6), (8, .int z8)] → (∀ (H : Heap) (locs : List Loc) (ls : Array Slot), Ws g s Iy0 L H locs → lv_has ls 9 [(0, .ref (g.1 + 244)), (1, .int v1), (2, .int v2), (3, .int v3), (4, .int v4), (5, .int v5), (6, .long y0_6)] → W p l e (rmD 3) s m args below meth c H locs 0 0 Q (F0 m 123 ls [])) → W p l e (rmD 3) s m args below meth c H locs 0 0 Q (F0 m 62 ls []) := by
  intro n
  induction n with
  | zero => intro z6 z8 I y0_6 Iy0 h; exact lp_zero h
  | succ n ih =>
      intro z6 z8 I y0_6 Iy0 h H locs ls hW hl hx0
      obtain ⟨r9, h, h9⟩ := lp_some h
      have h : b_X11_findOdds_62 v1 v2 v3 v4 v5 L z6 z8 I = some r9 := h
      unfold b_X11_findOdds_62 at h
      refine lv_iload C.1.1 C.1.2.1 dX11_findOdds_62 (lv_at hl 7 rfl) ?_
      refine lv_iload_n C.1.1 C.1.2.1 dX11_findOdds_64 rfl (lv_at hl 3 rfl) ?_
      refine lv_icmp_ge (tgt := 123) C.1.1 C.1.2.1 dX11_findOdds_65 (by decide) (fun hc11 => ?_) (fun hc11 => ?_)
      · replace h := ite_t hc11 h
        obtain rfl := Option.some.inj h
        replace h9 := Option.some.inj h9
        obtain ⟨rfl, rfl⟩ := pnj2 h9
        exact hx0 _ _ _ hW (lv_sub hl [0, 1, 2, 3, 4, 5, 6] rfl)
      · replace h := ite_f hc11 h
        refine lv_lload C.1.1 C.1.2.1 dX11_findOdds_68 (lv_at hl 6 rfl) ?_
        refine lv_iload C.1.1 C.1.2.1 dX11_findOdds_70 (lv_at hl 5 rfl) ?_
        refine lv_iload C.1.1 C.1.2.1 dX11_findOdds_72 (lv_at hl 7 rfl) ?_
        obtain ⟨r12, hc13, h⟩ := bd1_some h
        refine w_callSi (k := 2) (As := [.int v5, .int z8]) (rest := [.long z6]) C hW (c_X11_has g l  hc13 I L) K_X11_156 (by decide +kernel) ⟨by decide, by decide⟩ ⟨Nat.le_refl _, Nat.le_refl _⟩ rfl hl.1 rfl (Nat.le_of_ble_eq_true rfl) dX11_findOdds_74 (fun H locs hW => ?_)
        obtain ⟨y14, hj16, h⟩ := bd1_some h
        have kJ15 : ∀ (H : Heap) (locs : List Loc) (ls : Array Slot), Ws g s I L H locs → lv_has ls 9 [(0, .ref (g.1 + 244)), (1, .int v1), (2, .int v2), (3, .int v3), (4, .int v4), (5, .int v5), (8, .int z8)] → W p l e (rmD 3) s m args below meth c H locs 0 0 Q (F0 m 92 ls [.long y14, .long z6]) := by
          intro H locs ls hW hl
          refine lv_lmul C.1.1 C.1.2.1 dX11_findOdds_92 ?_
          refine lv_topl (fun x17 ex17 => ?_)
          replace h := nm_at ex17 h
          clear ex17
          refine lv_lstore (lv' := [(6, .long x17), (0, .ref (g.1 + 244)), (1, .int v1), (2, .int v2), (3, .int v3), (4, .int v4), (5, .int v5), (8, .int z8)]) C.1.1 C.1.2.1 dX11_findOdds_93 hl (by decide) rfl (fun ls hl => ?_)
          refine lv_aload_n C.1.1 C.1.2.1 dX11_findOdds_95 rfl (lv_at hl 1 rfl) ?_
          refine lv_sipush (v := 219) C.1.1 C.1.2.1 dX11_findOdds_96 (by decide) ?_
          refine lv_iload C.1.1 C.1.2.1 dX11_findOdds_99 (lv_at hl 6 rfl) ?_
          refine lv_iload C.1.1 C.1.2.1 dX11_findOdds_101 (lv_at hl 7 rfl) ?_
          obtain ⟨r18, hc19, h⟩ := bd1_some h
          refine w_callSi (k := 2) (As := [.int v5, .int z8]) (rest := [.int (219 : Int32), .ref (g.1 + 244)]) C hW (c_X11_has g l  hc19 I L) K_X11_156 (by decide +kernel) ⟨by decide, by decide⟩ ⟨Nat.le_refl _, Nat.le_refl _⟩ rfl hl.1 rfl (Nat.le_of_ble_eq_true rfl) dX11_findOdds_103 (fun H locs hW => ?_)
          obtain ⟨y20, hj22, h⟩ := bd1_some h
          have kJ21 : ∀ (H : Heap) (locs : List Loc) (ls : Array Slot), Ws g s I L H locs → lv_has ls 9 [(0, .ref (g.1 + 244)), (1, .int v1), (2, .int v2), (3, .int v3), (4, .int v4), (5, .int v5), (6, .long x17), (8, .int z8)] → W p l e (rmD 3) s m args below meth c H locs 0 0 Q (F0 m 114 ls [.int y20, .int (219 : Int32), .ref (g.1 + 244)]) := by
            intro H locs ls hW hl
            obtain ⟨I23, hc24, h⟩ := bd1_some h
            refine w_callVv (k := 2) (As := [.int (219 : Int32), .int y20]) (rest := []) C hW (c_X11_passesBy g l  hc24) (by decide) rfl (EX_11 (by decide)) K_X11_112 (by decide +kernel) ⟨by decide, by decide⟩ ⟨Nat.le_refl _, Nat.le_refl _⟩ rfl hl.1 rfl (Nat.le_of_ble_eq_true rfl) dX11_findOdds_114 (fun H locs hW => ?_)
            obtain ⟨x25, ex25⟩ : ∃ y : Int32, y = z8 + (1 : Int32) := ⟨_, rfl⟩
            replace h := nm_at ex25 h
            refine lv_iinc (v := x25) (lv' := [(8, .int x25), (0, .ref (g.1 + 244)), (1, .int v1), (2, .int v2), (3, .int v3), (4, .int v4), (5, .int v5), (6, .long x17)]) C.1.1 C.1.2.1 dX11_findOdds_117 hl (k := 7) rfl (by rw [ex25]; rfl) (by decide) rfl (fun ls hl => ?_)
            clear ex25
            refine lv_goto (tgt := 62) C.1.1 C.1.2.1 dX11_findOdds_120 (by decide) ?_
            obtain rfl := Option.some.inj h
            exact ih _ _ _ _ _ h9 _ _ _ hW (lv_sub hl [1, 2, 3, 4, 5, 6, 7, 0] rfl) hx0
          clear h
          have h := hj22
          clear hj22
          refine lv_if_eq (tgt := 113) C.1.1 C.1.2.1 dX11_findOdds_106 (by decide) (fun hc26 => ?_) (fun hc26 => ?_)
          · replace h := ite_t hc26 h
            refine lv_iconst (v := 0) C.1.1 C.1.2.1 dX11_findOdds_113 (by decide) ?_
            obtain rfl := inj1 h
            exact kJ21 _ _ _ hW (lv_sub hl [1, 2, 3, 4, 5, 6, 0, 7] rfl)
          · replace h := ite_f hc26 h
            refine lv_iconst (v := 1) C.1.1 C.1.2.1 dX11_findOdds_109 (by decide) ?_
            refine lv_goto (tgt := 114) C.1.1 C.1.2.1 dX11_findOdds_110 (by decide) ?_
            obtain rfl := inj1 h
            exact kJ21 _ _ _ hW (lv_sub hl [1, 2, 3, 4, 5, 6, 0, 7] rfl)
        clear h
        have h := hj16
        clear hj16
        refine lv_if_eq (tgt := 86) C.1.1 C.1.2.1 dX11_findOdds_77 (by decide) (fun hc27 => ?_) (fun hc27 => ?_)
        · replace h := ite_t hc27 h
          refine lv_bipush (v := 10) C.1.1 C.1.2.1 dX11_findOdds_86 (by decide) ?_
          refine lv_iload C.1.1 C.1.2.1 dX11_findOdds_88 (lv_at hl 4 rfl) ?_
          refine lv_isub C.1.1 C.1.2.1 dX11_findOdds_90 ?_
          refine lv_i2l C.1.1 C.1.2.1 dX11_findOdds_91 rfl ?_
          obtain rfl := inj1 h
          exact kJ15 _ _ _ hW (lv_sub hl [0, 1, 2, 3, 4, 5, 7] rfl)
        · replace h := ite_f hc27 h
          refine lv_iload C.1.1 C.1.2.1 dX11_findOdds_80 (lv_at hl 4 rfl) ?_
          refine lv_i2l C.1.1 C.1.2.1 dX11_findOdds_82 rfl ?_
          refine lv_goto (tgt := 92) C.1.1 C.1.2.1 dX11_findOdds_83 (by decide) ?_
          obtain rfl := inj1 h
          exact kJ15 _ _ _ hW (lv_sub hl [0, 1, 2, 3, 4, 5, 7] rfl)
def b_X11_findOdds_40 (v1 : Int32) (v2 : Int32) (v3 : Int32) (v4 : Int32) (z5 : Int32) (I : MI) (L : ML) : Option ((Int32 × MI × ML) ⊕ ((MI × ML))) :=
  (if ((1 : Int32) <<< (v3 &&& (31 : Int32))) ≤ z5 then some (Sum.inr (I, L)) else bd1 (f_X11_copyRow (0 : Int32) (219 : Int32) I L) (fun I9 => bd2 (lp (fun s => b_X11_findOdds_62 v1 v2 v3 v4 z5 L s.1 s.2.1 s.2.2) FU (((1 : Int64), (0 : Int32), I9))) (fun y29 I30 => bd1 (f_X11_downIn v2 I30 L) (fun r31 => bd1 ((if r31 = (1000000 : Int32) then some (0 : Int64) else bd1 (f_X11_downIn v1 I30 L) (fun r39 => bd1 (f_X11_downIn v2 I30 L) (fun r41 => (if r39 ≤ r41 then some (0 : Int64) else some y29))))) (fun y33 => nm (uq2 L 244 12 ((L 244 12) + y33)) (fun L36 => nm (z5 + (1 : Int32)) (fun x37 => some (Sum.inl (x37, I30, L36)))))))))
set_option maxHeartbeats 4000000 in
set_option maxRecDepth 100000 in
theorem l_X11_findOdds_40 {g : Gp} {p : Program} {l : Launch} {e : Env} {s : State} {m : MethodId} {args : Array Value} {below : List Frame} {meth : Method} {c : Code} {Q : State → Prop}  (C : Cx g p s m args c RX11 cX11_findOdds 9) (v1 : Int32) (v2 : Int32) (v3 : Int32) (v4 : Int32)  : ∀ (n : Nat) (z5 : Int32) (I : MI) (L : ML) (Iy0 : MI) (Ly0 : ML), lp (fun s => b_X11_findOdds_40 v1 v2 v3 v4 s.1 s.2.1 s.2.2) n (z5, I, L) = some (Iy0, Ly0) → ∀ (H : Heap) (locs : List Loc) (ls : Array Slot), Ws g s I L H locs → lv_has ls 9 [(0, .ref (g.1 + 244)), (1, .int v1), (2, .int v2), (3, .int v3), (4, .int v4), (5, .int z5)] → (∀ (H : Heap) (locs : List Loc) (ls : Array Slot), Ws g s Iy0 Ly0 H locs → lv_has ls 9 [] → W p l e (rmD 3) s m args below meth c H locs 0 0 Q (F0 m 167 ls [])) → W p l e (rmD 3) s m args below meth c H locs 0 0 Q (F0 m 40 ls []) := by
  intro n
  induction n with
  | zero => intro z5 I L Iy0 Ly0 h; exact lp_zero h
  | succ n ih =>
      intro z5 I L Iy0 Ly0 h H locs ls hW hl hx0
      obtain ⟨r9, h, h9⟩ := lp_some h
      have h : b_X11_findOdds_40 v1 v2 v3 v4 z5 I L = some r9 := h
      unfold b_X11_findOdds_40 at h
      refine lv_iload C.1.1 C.1.2.1 dX11_findOdds_40 (lv_at hl 5 rfl) ?_
      refine lv_iconst (v := 1) C.1.1 C.1.2.1 dX11_findOdds_42 (by decide) ?_
      refine lv_iload_n C.1.1 C.1.2.1 dX11_findOdds_43 rfl (lv_at hl 3 rfl) ?_
      refine lv_ishl C.1.1 C.1.2.1 dX11_findOdds_44 ?_
      refine lv_icmp_ge (tgt := 167) C.1.1 C.1.2.1 dX11_findOdds_45 (by decide) (fun hc8 => ?_) (fun hc8 => ?_)
      · replace h := ite_t hc8 h
        obtain rfl := Option.some.inj h
        replace h9 := Option.some.inj h9
        obtain ⟨rfl, rfl⟩ := pnj2 h9
        exact hx0 _ _ _ hW (lv_sub hl [] rfl)
      · replace h := ite_f hc8 h
        refine lv_lconst (v := 1) C.1.1 C.1.2.1 dX11_findOdds_48 (by decide) ?_
        refine lv_lstore (lv' := [(6, .long (1 : Int64)), (0, .ref (g.1 + 244)), (1, .int v1), (2, .int v2), (3, .int v3), (4, .int v4), (5, .int z5)]) C.1.1 C.1.2.1 dX11_findOdds_49 hl (by decide) rfl (fun ls hl => ?_)
        refine lv_aload_n C.1.1 C.1.2.1 dX11_findOdds_51 rfl (lv_at hl 1 rfl) ?_
        refine lv_iconst (v := 0) C.1.1 C.1.2.1 dX11_findOdds_52 (by decide) ?_
        refine lv_sipush (v := 219) C.1.1 C.1.2.1 dX11_findOdds_53 (by decide) ?_
        obtain ⟨I9, hc10, h⟩ := bd1_some h
        refine w_callVv (k := 2) (As := [.int (0 : Int32), .int (219 : Int32)]) (rest := []) C hW (c_X11_copyRow g l  hc10) (by decide) rfl (EX_11 (by decide)) K_X11_90 (by decide +kernel) ⟨by decide, by decide⟩ ⟨Nat.le_refl _, Nat.le_refl _⟩ rfl hl.1 rfl (Nat.le_of_ble_eq_true rfl) dX11_findOdds_56 (fun H locs hW => ?_)
        refine lv_iconst (v := 0) C.1.1 C.1.2.1 dX11_findOdds_59 (by decide) ?_
        refine lv_istore (lv' := [(8, .int (0 : Int32)), (6, .long (1 : Int64)), (0, .ref (g.1 + 244)), (1, .int v1), (2, .int v2), (3, .int v3), (4, .int v4), (5, .int z5)]) C.1.1 C.1.2.1 dX11_findOdds_60 hl (by decide) rfl (fun ls hl => ?_)
        obtain ⟨y29, I30, hq28, h⟩ := bd2_some h
        refine l_X11_findOdds_62 C v1 v2 v3 v4 z5  L _ _ _ _ _ _ hq28 _ _ _ hW (lv_sub hl [2, 3, 4, 5, 6, 7, 1, 0] rfl) (fun H locs ls hW hl => ?_)
        refine lv_aload_n C.1.1 C.1.2.1 dX11_findOdds_123 rfl (lv_at hl 0 rfl) ?_
        refine lv_dup C.1.1 C.1.2.1 dX11_findOdds_124 rfl ?_
        refine G_X11_175 C hW (by decide) dX11_findOdds_125 ?_
        refine lv_aload_n C.1.1 C.1.2.1 dX11_findOdds_128 rfl (lv_at hl 0 rfl) ?_
        refine lv_iload_n C.1.1 C.1.2.1 dX11_findOdds_129 rfl (lv_at hl 2 rfl) ?_
        obtain ⟨r31, hc32, h⟩ := bd1_some h
        refine w_callVi (k := 1) (As := [.int v2]) (rest := [.long (L 244 12), .ref (g.1 + 244)]) C hW (c_X11_downIn g l  hc32) (by decide) rfl (EX_11 (by decide)) K_X11_150 (by decide +kernel) ⟨by decide, by decide⟩ ⟨Nat.le_refl _, Nat.le_refl _⟩ rfl hl.1 rfl (Nat.le_of_ble_eq_true rfl) dX11_findOdds_130 (fun H locs hW => ?_)
        refine lv_ldc C.1.1 C.1.2.1 C.1.2.2.2.1 (C.1.2.2.2.2 _ kc_X11_146) dX11_findOdds_133 ?_
        obtain ⟨y33, hj35, h⟩ := bd1_some h
        have kJ34 : ∀ (H : Heap) (locs : List Loc) (ls : Array Slot), Ws g s I30 L H locs → lv_has ls 9 [(0, .ref (g.1 + 244)), (1, .int v1), (2, .int v2), (3, .int v3), (4, .int v4), (5, .int z5)] → W p l e (rmD 3) s m args below meth c H locs 0 0 Q (F0 m 157 ls [.long y33, .long (L 244 12), .ref (g.1 + 244)]) := by
          intro H locs ls hW hl
          refine lv_ladd C.1.1 C.1.2.1 dX11_findOdds_157 ?_
          refine P_X11_175 C hW (by decide) dX11_findOdds_158 (fun H locs hW => ?_)
          obtain ⟨L36, eL36, h⟩ := nm_some h
          rw [← eL36] at hW
          clear eL36
          obtain ⟨x37, ex37⟩ : ∃ y : Int32, y = z5 + (1 : Int32) := ⟨_, rfl⟩
          replace h := nm_at ex37 h
          refine lv_iinc (v := x37) (lv' := [(5, .int x37), (0, .ref (g.1 + 244)), (1, .int v1), (2, .int v2), (3, .int v3), (4, .int v4)]) C.1.1 C.1.2.1 dX11_findOdds_161 hl (k := 5) rfl (by rw [ex37]; rfl) (by decide) rfl (fun ls hl => ?_)
          clear ex37
          refine lv_goto (tgt := 40) C.1.1 C.1.2.1 dX11_findOdds_164 (by decide) ?_
          obtain rfl := Option.some.inj h
          exact ih _ _ _ _ _ h9 _ _ _ hW (lv_sub hl [1, 2, 3, 4, 5, 0] rfl) hx0
        clear h
        have h := hj35
        clear hj35
        refine lv_icmp_eq (tgt := 156) C.1.1 C.1.2.1 dX11_findOdds_135 (by decide) (fun hc38 => ?_) (fun hc38 => ?_)
        · replace h := ite_t hc38 h
          refine lv_lconst (v := 0) C.1.1 C.1.2.1 dX11_findOdds_156 (by decide) ?_
          obtain rfl := inj1 h
          exact kJ34 _ _ _ hW (lv_sub hl [0, 1, 2, 3, 4, 5] rfl)
        · replace h := ite_f hc38 h
          refine lv_aload_n C.1.1 C.1.2.1 dX11_findOdds_138 rfl (lv_at hl 0 rfl) ?_
          refine lv_iload_n C.1.1 C.1.2.1 dX11_findOdds_139 rfl (lv_at hl 1 rfl) ?_
          obtain ⟨r39, hc40, h⟩ := bd1_some h
          refine w_callVi (k := 1) (As := [.int v1]) (rest := [.long (L 244 12), .ref (g.1 + 244)]) C hW (c_X11_downIn g l  hc40) (by decide) rfl (EX_11 (by decide)) K_X11_150 (by decide +kernel) ⟨by decide, by decide⟩ ⟨Nat.le_refl _, Nat.le_refl _⟩ rfl hl.1 rfl (Nat.le_of_ble_eq_true rfl) dX11_findOdds_140 (fun H locs hW => ?_)
          refine lv_aload_n C.1.1 C.1.2.1 dX11_findOdds_143 rfl (lv_at hl 0 rfl) ?_
          refine lv_iload_n C.1.1 C.1.2.1 dX11_findOdds_144 rfl (lv_at hl 2 rfl) ?_
          obtain ⟨r41, hc42, h⟩ := bd1_some h
          refine w_callVi (k := 1) (As := [.int v2]) (rest := [.int r39, .long (L 244 12), .ref (g.1 + 244)]) C hW (c_X11_downIn g l  hc42) (by decide) rfl (EX_11 (by decide)) K_X11_150 (by decide +kernel) ⟨by decide, by decide⟩ ⟨Nat.le_refl _, Nat.le_refl _⟩ rfl hl.1 rfl (Nat.le_of_ble_eq_true rfl) dX11_findOdds_145 (fun H locs hW => ?_)
          refine lv_icmp_le (tgt := 156) C.1.1 C.1.2.1 dX11_findOdds_148 (by decide) (fun hc43 => ?_) (fun hc43 => ?_)
          · replace h := ite_t hc43 h
            refine lv_lconst (v := 0) C.1.1 C.1.2.1 dX11_findOdds_156 (by decide) ?_
            obtain rfl := inj1 h
            exact kJ34 _ _ _ hW (lv_sub hl [0, 1, 2, 3, 4, 5] rfl)
          · replace h := ite_f hc43 h
            refine lv_lload C.1.1 C.1.2.1 dX11_findOdds_151 (lv_at hl 6 rfl) ?_
            refine lv_goto (tgt := 157) C.1.1 C.1.2.1 dX11_findOdds_153 (by decide) ?_
            obtain rfl := inj1 h
            exact kJ34 _ _ _ hW (lv_sub hl [0, 1, 2, 3, 4, 5] rfl)
def f_X11_findOdds (a1 : Int32) (a2 : Int32) (a3 : Int32) (a4 : Int32) (I : MI) (L : ML) : Option (MI × ML) :=
  nm (uq2 L 244 12 (0 : Int64)) (fun L1 => nm (uq2 L1 244 13 (1 : Int64)) (fun L2 => bd1 (lp (fun s => b_X11_findOdds_13 a1 a2 a3 a4 I s.1 s.2) FU (((0 : Int32), L2))) (fun L7 => bd2 (lp (fun s => b_X11_findOdds_40 a1 a2 a3 a4 s.1 s.2.1 s.2.2) FU (((0 : Int32), I, L7))) (fun I45 L46 => some (I45, L46)))))
set_option maxHeartbeats 4000000 in
set_option maxRecDepth 100000 in
theorem c_X11_findOdds (g : Gp) (l : Launch) {a1 : Int32} {a2 : Int32} {a3 : Int32} {a4 : Int32}  {I : MI} {L : ML} {I' : MI} {L' : ML} (h : f_X11_findOdds a1 a2 a3 a4 I L = some (I', L')) : MetV g l yX11_findOdds cX11_findOdds 9 3 [.ref (g.1 + 244), .int a1, .int a2, .int a3, .int a4] I L I' L' := by
  unfold f_X11_findOdds at h
  refine w_enter (by decide) (Nat.le_of_ble_eq_true rfl) (own := RX11) rfl ?_
  intro p e s m below meth c args Q hQ C hr hlocks hW ls hl
  have hl : lv_has ls 9 [(0, .ref (g.1 + 244)), (1, .int a1), (2, .int a2), (3, .int a3), (4, .int a4)] := hl
  refine lv_aload_n C.1.1 C.1.2.1 dX11_findOdds_0 rfl (lv_at hl 0 rfl) ?_
  refine lv_lconst (v := 0) C.1.1 C.1.2.1 dX11_findOdds_1 (by decide) ?_
  refine P_X11_175 C hW (by decide) dX11_findOdds_2 (fun H locs hW => ?_)
  obtain ⟨L1, eL1, h⟩ := nm_some h
  rw [← eL1] at hW
  clear eL1
  refine lv_aload_n C.1.1 C.1.2.1 dX11_findOdds_5 rfl (lv_at hl 0 rfl) ?_
  refine lv_lconst (v := 1) C.1.1 C.1.2.1 dX11_findOdds_6 (by decide) ?_
  refine P_X11_179 C hW (by decide) dX11_findOdds_7 (fun H locs hW => ?_)
  obtain ⟨L2, eL2, h⟩ := nm_some h
  rw [← eL2] at hW
  clear eL2
  refine lv_iconst (v := 0) C.1.1 C.1.2.1 dX11_findOdds_10 (by decide) ?_
  refine lv_istore (lv' := [(5, .int (0 : Int32)), (0, .ref (g.1 + 244)), (1, .int a1), (2, .int a2), (3, .int a3), (4, .int a4)]) C.1.1 C.1.2.1 dX11_findOdds_11 hl (by decide) rfl (fun ls hl => ?_)
  obtain ⟨L7, hq6, h⟩ := bd1_some h
  refine l_X11_findOdds_13 C a1 a2 a3 a4  I _ _ _ _ hq6 _ _ _ hW (lv_sub hl [1, 2, 3, 4, 5, 0] rfl) (fun H locs ls hW hl => ?_)
  refine lv_iconst (v := 0) C.1.1 C.1.2.1 dX11_findOdds_37 (by decide) ?_
  refine lv_istore (lv' := [(5, .int (0 : Int32)), (0, .ref (g.1 + 244)), (1, .int a1), (2, .int a2), (3, .int a3), (4, .int a4)]) C.1.1 C.1.2.1 dX11_findOdds_38 hl (by decide) rfl (fun ls hl => ?_)
  obtain ⟨I45, L46, hq44, h⟩ := bd2_some h
  refine l_X11_findOdds_40 C a1 a2 a3 a4  _ _ _ _ _ _ hq44 _ _ _ hW (lv_sub hl [1, 2, 3, 4, 5, 0] rfl) (fun H locs ls hW hl => ?_)
  obtain ⟨rfl, rfl⟩ := inj2 h
  subst hQ
  exact w_vret C hW hr hlocks dX11_findOdds_167
def f_X11_isSpan (a1 : Int32) (a2 : Int32) : Option (Int32) :=
  bd1 (f_X11_in a1.toInt64 (0 : Int64) (10 : Int64)) (fun r1 => bd1 ((if r1 = 0 then some (0 : Int32) else bd1 (f_X11_in a2.toInt64 (0 : Int64) (10 : Int64)) (fun r8 => (if r8 = 0 then some (0 : Int32) else some (1 : Int32))))) (fun y3 => gd (y3 = 0 ∨ y3 = 1) (some y3)))
set_option maxHeartbeats 4000000 in
set_option maxRecDepth 100000 in
theorem c_X11_isSpan (g : Gp) (l : Launch) {a1 : Int32} {a2 : Int32}  {r : Int32} (h : f_X11_isSpan a1 a2 = some r) (I : MI) (L : ML) : MetI g l yX11_isSpan cX11_isSpan 2 .boolean 1 [.int a1, .int a2] I L r I L := by
  unfold f_X11_isSpan at h
  refine w_enter (by decide) (Nat.le_of_ble_eq_true rfl) (own := RX11) rfl ?_
  intro p e s m below meth c args Q hQ C hr hlocks hW ls hl
  have hl : lv_has ls 2 [(0, .int a1), (1, .int a2)] := hl
  refine lv_iload_n C.1.1 C.1.2.1 dX11_isSpan_0 rfl (lv_at hl 0 rfl) ?_
  refine lv_i2l C.1.1 C.1.2.1 dX11_isSpan_1 rfl ?_
  refine lv_lconst (v := 0) C.1.1 C.1.2.1 dX11_isSpan_2 (by decide) ?_
  refine lv_ldc2 C.1.1 C.1.2.1 C.1.2.2.2.1 (C.1.2.2.2.2 _ kl_X11_118) dX11_isSpan_3 ?_
  obtain ⟨r1, hc2, h⟩ := bd1_some h
  refine w_callSi (k := 3) (As := [.long a1.toInt64, .long (0 : Int64), .long (10 : Int64)]) (rest := []) C hW (c_X11_in g l  hc2 I L) K_X11_42 (by decide +kernel) ⟨by decide, by decide⟩ ⟨Nat.le_refl _, Nat.le_refl _⟩ rfl hl.1 rfl (Nat.le_of_ble_eq_true rfl) dX11_isSpan_6 (fun H locs hW => ?_)
  obtain ⟨y3, hj5, h⟩ := bd1_some h
  have kJ4 : ∀ (H : Heap) (locs : List Loc) (ls : Array Slot), Ws g s I L H locs → lv_has ls 2 [] → W p l e (rmD 1) s m args below meth c H locs 0 0 Q (F0 m 29 ls [.int y3]) := by
    intro H locs ls hW hl
    obtain ⟨hb6, h⟩ := gd_some h
    obtain rfl := inj1 h
    subst hQ
    exact w_zret C hW hr hlocks hb6 dX11_isSpan_29
  clear h
  have h := hj5
  clear hj5
  refine lv_if_eq (tgt := 28) C.1.1 C.1.2.1 dX11_isSpan_9 (by decide) (fun hc7 => ?_) (fun hc7 => ?_)
  · replace h := ite_t hc7 h
    refine lv_iconst (v := 0) C.1.1 C.1.2.1 dX11_isSpan_28 (by decide) ?_
    obtain rfl := inj1 h
    exact kJ4 _ _ _ hW (lv_sub hl [] rfl)
  · replace h := ite_f hc7 h
    refine lv_iload_n C.1.1 C.1.2.1 dX11_isSpan_12 rfl (lv_at hl 1 rfl) ?_
    refine lv_i2l C.1.1 C.1.2.1 dX11_isSpan_13 rfl ?_
    refine lv_lconst (v := 0) C.1.1 C.1.2.1 dX11_isSpan_14 (by decide) ?_
    refine lv_ldc2 C.1.1 C.1.2.1 C.1.2.2.2.1 (C.1.2.2.2.2 _ kl_X11_118) dX11_isSpan_15 ?_
    obtain ⟨r8, hc9, h⟩ := bd1_some h
    refine w_callSi (k := 3) (As := [.long a2.toInt64, .long (0 : Int64), .long (10 : Int64)]) (rest := []) C hW (c_X11_in g l  hc9 I L) K_X11_42 (by decide +kernel) ⟨by decide, by decide⟩ ⟨Nat.le_refl _, Nat.le_refl _⟩ rfl hl.1 rfl (Nat.le_of_ble_eq_true rfl) dX11_isSpan_18 (fun H locs hW => ?_)
    refine lv_if_eq (tgt := 28) C.1.1 C.1.2.1 dX11_isSpan_21 (by decide) (fun hc10 => ?_) (fun hc10 => ?_)
    · replace h := ite_t hc10 h
      refine lv_iconst (v := 0) C.1.1 C.1.2.1 dX11_isSpan_28 (by decide) ?_
      obtain rfl := inj1 h
      exact kJ4 _ _ _ hW (lv_sub hl [] rfl)
    · replace h := ite_f hc10 h
      refine lv_iconst (v := 1) C.1.1 C.1.2.1 dX11_isSpan_24 (by decide) ?_
      refine lv_goto (tgt := 29) C.1.1 C.1.2.1 dX11_isSpan_25 (by decide) ?_
      obtain rfl := inj1 h
      exact kJ4 _ _ _ hW (lv_sub hl [] rfl)
def b_X11_odds_76 (v5 : Int32) (I : MI) (L : ML) (z6 : Int64) (z8 : Int64) : Option ((Int64 × Int64) ⊕ ((Int64))) :=
  (if (lg_cmp z8 (0 : Int64)) = 0 then some (Sum.inr z6) else gd (¬ z8 = 0) (nm (z6 - z6 / z8 * z8) (fun x23 => some (Sum.inl (z8, x23)))))
set_option maxHeartbeats 4000000 in
set_option maxRecDepth 100000 in
theorem l_X11_odds_76 {g : Gp} {p : Program} {l : Launch} {e : Env} {s : State} {m : MethodId} {args : Array Value} {below : List Frame} {meth : Method} {c : Code} {Q : State → Prop}  (C : Cx g p s m args c RX11 cX11_odds 12) (v5 : Int32)  (I : MI) (L : ML) : ∀ (n : Nat) (z6 : Int64) (z8 : Int64) (y0_6 : Int64), lp (fun s => b_X11_odds_76 v5 I L s.1 s.2) n (z6, z8) = some y0_6 → ∀ (H : Heap) (locs : List Loc) (ls : Array Slot), Ws g s I L H locs → lv_has ls 12 [(0, .ref (g.1 + 244)), (5, .int v5), (6, .long z6), (8, .long z8)] → (∀ (H : Heap) (locs : List Loc) (ls : Array Slot), Ws g s I L H locs → lv_has ls 12 [(0, .ref (g.1 + 244)), (5, .int v5), (6, .long y0_6)] → W p l e (rmD 4) s m args below meth c H locs 0 0 Q (F0 m 101 ls [])) → W p l e (rmD 4) s m args below meth c H locs 0 0 Q (F0 m 76 ls []) := by
  intro n
  induction n with
  | zero => intro z6 z8 y0_6 h; exact lp_zero h
  | succ n ih =>
      intro z6 z8 y0_6 h H locs ls hW hl hx0
      obtain ⟨r9, h, h9⟩ := lp_some h
      have h : b_X11_odds_76 v5 I L z6 z8 = some r9 := h
      unfold b_X11_odds_76 at h
      refine lv_lload C.1.1 C.1.2.1 dX11_odds_76 (lv_at hl 3 rfl) ?_
      refine lv_lconst (v := 0) C.1.1 C.1.2.1 dX11_odds_78 (by decide) ?_
      refine W.lcmp C.1.1 C.1.2.1 dX11_odds_79 ?_
      refine lv_if_eq (tgt := 101) C.1.1 C.1.2.1 dX11_odds_80 (by decide) (fun hc21 => ?_) (fun hc21 => ?_)
      · replace h := ite_t hc21 h
        obtain rfl := Option.some.inj h
        replace h9 := Option.some.inj h9
        obtain rfl := pnj1 h9
        exact hx0 _ _ _ hW (lv_sub hl [0, 1, 2] rfl)
      · replace h := ite_f hc21 h
        refine lv_lload C.1.1 C.1.2.1 dX11_odds_83 (lv_at hl 2 rfl) ?_
        refine lv_lload C.1.1 C.1.2.1 dX11_odds_85 (lv_at hl 3 rfl) ?_
        obtain ⟨hz22, h⟩ := gd_some h
        refine lv_lrem C.1.1 C.1.2.1 dX11_odds_87 hz22 ?_
        refine lv_topl (fun x23 ex23 => ?_)
        replace h := nm_at ex23 h
        clear ex23
        refine lv_lstore (lv' := [(10, .long x23), (0, .ref (g.1 + 244)), (5, .int v5), (6, .long z6), (8, .long z8)]) C.1.1 C.1.2.1 dX11_odds_88 hl (by decide) rfl (fun ls hl => ?_)
        refine lv_lload C.1.1 C.1.2.1 dX11_odds_90 (lv_at hl 4 rfl) ?_
        refine lv_lstore (lv' := [(6, .long z8), (10, .long x23), (0, .ref (g.1 + 244)), (5, .int v5), (8, .long z8)]) C.1.1 C.1.2.1 dX11_odds_92 hl (by decide) rfl (fun ls hl => ?_)
        refine lv_lload C.1.1 C.1.2.1 dX11_odds_94 (lv_at hl 1 rfl) ?_
        refine lv_lstore (lv' := [(8, .long x23), (6, .long z8), (10, .long x23), (0, .ref (g.1 + 244)), (5, .int v5)]) C.1.1 C.1.2.1 dX11_odds_96 hl (by decide) rfl (fun ls hl => ?_)
        refine lv_goto (tgt := 76) C.1.1 C.1.2.1 dX11_odds_98 (by decide) ?_
        obtain rfl := Option.some.inj h
        exact ih _ _ _ h9 _ _ _ hW (lv_sub hl [3, 4, 1, 0] rfl) hx0
def f_X11_odds (a1 : Int32) (a2 : Int32) (a3 : Int32) (a4 : Int32) (a5 : Int32) (I : MI) (L : ML) : Option (Int64 × MI × ML) :=
  bd1 (f_X11_areTwo a1 a2 I L) (fun r1 => (if r1 = 0 then some (((-1 : Int64), I, L)) else bd1 (f_X11_isSpan a3 a4) (fun r4 => (if r4 = 0 then some (((-1 : Int64), I, L)) else bd1 (f_X11_in a5.toInt64 (0 : Int64) (1 : Int64)) (fun r7 => (if r7 = 0 then some (((-1 : Int64), I, L)) else bd1 (f_X11_isDown (0 : Int32) a1 I L) (fun r10 => (if r10 = 0 then bd1 (f_X11_isDown (0 : Int32) a2 I L) (fun r13 => (if r13 = 0 then bd2 (f_X11_findOdds a1 a2 a3 a4 I L) (fun I16 L17 => nm (L17 244 12) (fun x19 => nm (L17 244 13) (fun x20 => bd1 (lp (fun s => b_X11_odds_76 a5 I16 L17 s.1 s.2) FU (x19, x20)) (fun y25 => bd1 ((if a5 = 0 then gd (¬ y25 = 0) (some ((L17 244 12) / y25)) else gd (¬ y25 = 0) (some ((L17 244 13) / y25)))) (fun y26 => some (y26, I16, L17)))))) else some (((-2 : Int64), I, L)))) else some (((-2 : Int64), I, L))))))))))
set_option maxHeartbeats 4000000 in
set_option maxRecDepth 100000 in
theorem c_X11_odds (g : Gp) (l : Launch) {a1 : Int32} {a2 : Int32} {a3 : Int32} {a4 : Int32} {a5 : Int32}  {I : MI} {L : ML} {r : Int64} {I' : MI} {L' : ML} (h : f_X11_odds a1 a2 a3 a4 a5 I L = some (r, I', L')) : MetL g l yX11_odds cX11_odds 12 4 [.ref (g.1 + 244), .int a1, .int a2, .int a3, .int a4, .int a5] I L r I' L' := by
  unfold f_X11_odds at h
  refine w_enter (by decide) (Nat.le_of_ble_eq_true rfl) (own := RX11) rfl ?_
  intro p e s m below meth c args Q hQ C hr hlocks hW ls hl
  have hl : lv_has ls 12 [(0, .ref (g.1 + 244)), (1, .int a1), (2, .int a2), (3, .int a3), (4, .int a4), (5, .int a5)] := hl
  refine lv_aload_n C.1.1 C.1.2.1 dX11_odds_0 rfl (lv_at hl 0 rfl) ?_
  refine lv_iload_n C.1.1 C.1.2.1 dX11_odds_1 rfl (lv_at hl 1 rfl) ?_
  refine lv_iload_n C.1.1 C.1.2.1 dX11_odds_2 rfl (lv_at hl 2 rfl) ?_
  obtain ⟨r1, hc2, h⟩ := bd1_some h
  refine w_callVi (k := 2) (As := [.int a1, .int a2]) (rest := []) C hW (c_X11_areTwo g l  hc2) (by decide) rfl (EX_11 (by decide)) K_X11_153 (by decide +kernel) ⟨by decide, by decide⟩ ⟨Nat.le_refl _, Nat.le_refl _⟩ rfl hl.1 rfl (Nat.le_of_ble_eq_true rfl) dX11_odds_3 (fun H locs hW => ?_)
  refine lv_if_eq (tgt := 29) C.1.1 C.1.2.1 dX11_odds_6 (by decide) (fun hc3 => ?_) (fun hc3 => ?_)
  · replace h := ite_t hc3 h
    refine lv_ldc2 C.1.1 C.1.2.1 C.1.2.2.2.1 (C.1.2.2.2.2 _ kl_X11_185) dX11_odds_29 ?_
    obtain ⟨rfl, rfl, rfl⟩ := inj3 h
    subst hQ
    exact w_lret C hW hr hlocks dX11_odds_32
  · replace h := ite_f hc3 h
    refine lv_iload_n C.1.1 C.1.2.1 dX11_odds_9 rfl (lv_at hl 3 rfl) ?_
    refine lv_iload C.1.1 C.1.2.1 dX11_odds_10 (lv_at hl 4 rfl) ?_
    obtain ⟨r4, hc5, h⟩ := bd1_some h
    refine w_callSi (k := 2) (As := [.int a3, .int a4]) (rest := []) C hW (c_X11_isSpan g l  hc5 I L) K_X11_182 (by decide +kernel) ⟨by decide, by decide⟩ ⟨Nat.le_refl _, Nat.le_refl _⟩ rfl hl.1 rfl (Nat.le_of_ble_eq_true rfl) dX11_odds_12 (fun H locs hW => ?_)
    refine lv_if_eq (tgt := 29) C.1.1 C.1.2.1 dX11_odds_15 (by decide) (fun hc6 => ?_) (fun hc6 => ?_)
    · replace h := ite_t hc6 h
      refine lv_ldc2 C.1.1 C.1.2.1 C.1.2.2.2.1 (C.1.2.2.2.2 _ kl_X11_185) dX11_odds_29 ?_
      obtain ⟨rfl, rfl, rfl⟩ := inj3 h
      subst hQ
      exact w_lret C hW hr hlocks dX11_odds_32
    · replace h := ite_f hc6 h
      refine lv_iload C.1.1 C.1.2.1 dX11_odds_18 (lv_at hl 5 rfl) ?_
      refine lv_i2l C.1.1 C.1.2.1 dX11_odds_20 rfl ?_
      refine lv_lconst (v := 0) C.1.1 C.1.2.1 dX11_odds_21 (by decide) ?_
      refine lv_lconst (v := 1) C.1.1 C.1.2.1 dX11_odds_22 (by decide) ?_
      obtain ⟨r7, hc8, h⟩ := bd1_some h
      refine w_callSi (k := 3) (As := [.long a5.toInt64, .long (0 : Int64), .long (1 : Int64)]) (rest := []) C hW (c_X11_in g l  hc8 I L) K_X11_42 (by decide +kernel) ⟨by decide, by decide⟩ ⟨Nat.le_refl _, Nat.le_refl _⟩ rfl hl.1 rfl (Nat.le_of_ble_eq_true rfl) dX11_odds_23 (fun H locs hW => ?_)
      refine lv_if_ne (tgt := 33) C.1.1 C.1.2.1 dX11_odds_26 (by decide) (fun hc9 => ?_) (fun hc9 => ?_)
      · replace h := ite_f hc9 h
        refine lv_aload_n C.1.1 C.1.2.1 dX11_odds_33 rfl (lv_at hl 0 rfl) ?_
        refine lv_iconst (v := 0) C.1.1 C.1.2.1 dX11_odds_34 (by decide) ?_
        refine lv_iload_n C.1.1 C.1.2.1 dX11_odds_35 rfl (lv_at hl 1 rfl) ?_
        obtain ⟨r10, hc11, h⟩ := bd1_some h
        refine w_callVi (k := 2) (As := [.int (0 : Int32), .int a1]) (rest := []) C hW (c_X11_isDown g l  hc11) (by decide) rfl (EX_11 (by decide)) K_X11_100 (by decide +kernel) ⟨by decide, by decide⟩ ⟨Nat.le_refl _, Nat.le_refl _⟩ rfl hl.1 rfl (Nat.le_of_ble_eq_true rfl) dX11_odds_36 (fun H locs hW => ?_)
        refine lv_if_ne (tgt := 51) C.1.1 C.1.2.1 dX11_odds_39 (by decide) (fun hc12 => ?_) (fun hc12 => ?_)
        · replace h := ite_f hc12 h
          refine lv_ldc2 C.1.1 C.1.2.1 C.1.2.2.2.1 (C.1.2.2.2.2 _ kl_X11_187) dX11_odds_51 ?_
          obtain ⟨rfl, rfl, rfl⟩ := inj3 h
          subst hQ
          exact w_lret C hW hr hlocks dX11_odds_54
        · replace h := ite_t hc12 h
          refine lv_aload_n C.1.1 C.1.2.1 dX11_odds_42 rfl (lv_at hl 0 rfl) ?_
          refine lv_iconst (v := 0) C.1.1 C.1.2.1 dX11_odds_43 (by decide) ?_
          refine lv_iload_n C.1.1 C.1.2.1 dX11_odds_44 rfl (lv_at hl 2 rfl) ?_
          obtain ⟨r13, hc14, h⟩ := bd1_some h
          refine w_callVi (k := 2) (As := [.int (0 : Int32), .int a2]) (rest := []) C hW (c_X11_isDown g l  hc14) (by decide) rfl (EX_11 (by decide)) K_X11_100 (by decide +kernel) ⟨by decide, by decide⟩ ⟨Nat.le_refl _, Nat.le_refl _⟩ rfl hl.1 rfl (Nat.le_of_ble_eq_true rfl) dX11_odds_45 (fun H locs hW => ?_)
          refine lv_if_eq (tgt := 55) C.1.1 C.1.2.1 dX11_odds_48 (by decide) (fun hc15 => ?_) (fun hc15 => ?_)
          · replace h := ite_t hc15 h
            refine lv_aload_n C.1.1 C.1.2.1 dX11_odds_55 rfl (lv_at hl 0 rfl) ?_
            refine lv_iload_n C.1.1 C.1.2.1 dX11_odds_56 rfl (lv_at hl 1 rfl) ?_
            refine lv_iload_n C.1.1 C.1.2.1 dX11_odds_57 rfl (lv_at hl 2 rfl) ?_
            refine lv_iload_n C.1.1 C.1.2.1 dX11_odds_58 rfl (lv_at hl 3 rfl) ?_
            refine lv_iload C.1.1 C.1.2.1 dX11_odds_59 (lv_at hl 4 rfl) ?_
            obtain ⟨I16, L17, hc18, h⟩ := bd2_some h
            refine w_callVv (k := 4) (As := [.int a1, .int a2, .int a3, .int a4]) (rest := []) C hW (c_X11_findOdds g l  hc18) (by decide) rfl (EX_11 (by decide)) K_X11_189 (by decide +kernel) ⟨by decide, by decide⟩ ⟨Nat.le_refl _, Nat.le_refl _⟩ rfl hl.1 rfl (Nat.le_of_ble_eq_true rfl) dX11_odds_61 (fun H locs hW => ?_)
            refine lv_aload_n C.1.1 C.1.2.1 dX11_odds_64 rfl (lv_at hl 0 rfl) ?_
            refine G_X11_175 C hW (by decide) dX11_odds_65 ?_
            refine lv_topl (fun x19 ex19 => ?_)
            replace h := nm_at ex19 h
            clear ex19
            refine lv_lstore (lv' := [(6, .long x19), (0, .ref (g.1 + 244)), (1, .int a1), (2, .int a2), (3, .int a3), (4, .int a4), (5, .int a5)]) C.1.1 C.1.2.1 dX11_odds_68 hl (by decide) rfl (fun ls hl => ?_)
            refine lv_aload_n C.1.1 C.1.2.1 dX11_odds_70 rfl (lv_at hl 1 rfl) ?_
            refine G_X11_179 C hW (by decide) dX11_odds_71 ?_
            refine lv_topl (fun x20 ex20 => ?_)
            replace h := nm_at ex20 h
            clear ex20
            refine lv_lstore (lv' := [(8, .long x20), (6, .long x19), (0, .ref (g.1 + 244)), (1, .int a1), (2, .int a2), (3, .int a3), (4, .int a4), (5, .int a5)]) C.1.1 C.1.2.1 dX11_odds_74 hl (by decide) rfl (fun ls hl => ?_)
            obtain ⟨y25, hq24, h⟩ := bd1_some h
            refine l_X11_odds_76 C a5  I16 L17 _ _ _ _ hq24 _ _ _ hW (lv_sub hl [2, 7, 1, 0] rfl) (fun H locs ls hW hl => ?_)
            refine lv_iload C.1.1 C.1.2.1 dX11_odds_101 (lv_at hl 1 rfl) ?_
            obtain ⟨y26, hj28, h⟩ := bd1_some h
            have kJ27 : ∀ (H : Heap) (locs : List Loc) (ls : Array Slot), Ws g s I16 L17 H locs → lv_has ls 12 [] → W p l e (rmD 4) s m args below meth c H locs 0 0 Q (F0 m 123 ls [.long y26]) := by
              intro H locs ls hW hl
              obtain ⟨rfl, rfl, rfl⟩ := inj3 h
              subst hQ
              exact w_lret C hW hr hlocks dX11_odds_123
            clear h
            have h := hj28
            clear hj28
            refine lv_if_ne (tgt := 116) C.1.1 C.1.2.1 dX11_odds_103 (by decide) (fun hc29 => ?_) (fun hc29 => ?_)
            · replace h := ite_f hc29 h
              refine lv_aload_n C.1.1 C.1.2.1 dX11_odds_116 rfl (lv_at hl 0 rfl) ?_
              refine G_X11_179 C hW (by decide) dX11_odds_117 ?_
              refine lv_lload C.1.1 C.1.2.1 dX11_odds_120 (lv_at hl 2 rfl) ?_
              obtain ⟨hz30, h⟩ := gd_some h
              refine lv_ldiv C.1.1 C.1.2.1 dX11_odds_122 hz30 ?_
              obtain rfl := inj1 h
              exact kJ27 _ _ _ hW (lv_sub hl [] rfl)
            · replace h := ite_t hc29 h
              refine lv_aload_n C.1.1 C.1.2.1 dX11_odds_106 rfl (lv_at hl 0 rfl) ?_
              refine G_X11_175 C hW (by decide) dX11_odds_107 ?_
              refine lv_lload C.1.1 C.1.2.1 dX11_odds_110 (lv_at hl 2 rfl) ?_
              obtain ⟨hz31, h⟩ := gd_some h
              refine lv_ldiv C.1.1 C.1.2.1 dX11_odds_112 hz31 ?_
              refine lv_goto (tgt := 123) C.1.1 C.1.2.1 dX11_odds_113 (by decide) ?_
              obtain rfl := inj1 h
              exact kJ27 _ _ _ hW (lv_sub hl [] rfl)
          · replace h := ite_f hc15 h
            refine lv_ldc2 C.1.1 C.1.2.1 C.1.2.2.2.1 (C.1.2.2.2.2 _ kl_X11_187) dX11_odds_51 ?_
            obtain ⟨rfl, rfl, rfl⟩ := inj3 h
            subst hQ
            exact w_lret C hW hr hlocks dX11_odds_54
      · replace h := ite_t hc9 h
        refine lv_ldc2 C.1.1 C.1.2.1 C.1.2.2.2.1 (C.1.2.2.2.2 _ kl_X11_185) dX11_odds_29 ?_
        obtain ⟨rfl, rfl, rfl⟩ := inj3 h
        subst hQ
        exact w_lret C hW hr hlocks dX11_odds_32
def b_X11_challenge_42 (v1 : Int32) (v2 : Int32) (v3 : Int32) (z4 : Int32) (z5 : Int64) (z7 : Int32) (I : MI) (L : ML) : Option ((Int32 × Int64 × Int32 × MI × ML) ⊕ ((Int32 × MI × ML))) :=
  gi (1 : Int32) 1752 ((if (I 245 (1 : Int32).toNatClampNeg) ≤ z7 then some (Sum.inr (z4, I, L)) else bd4 ((if z7 = v1 then some (z4, z5, I, L) else bd1 (f_X11_isDown (0 : Int32) z7 I L) (fun r20 => (if r20 = 0 then bd2 (f_X11_findOdds v1 z7 v2 v3 I L) (fun I23 L24 => bd1 ((if (lg_cmp (L24 244 12) z5) ≤ 0 then some z4 else some z7)) (fun y26 => bd1 ((if (lg_cmp (L24 244 12) z5) ≤ 0 then some z5 else some (L24 244 12))) (fun y29 => some (y26, y29, I23, L24)))) else some (z4, z5, I, L))))) (fun y12 y13 I14 L15 => nm (z7 + (1 : Int32)) (fun x18 => some (Sum.inl (y12, y13, x18, I14, L15))))))
set_option maxHeartbeats 4000000 in
set_option maxRecDepth 100000 in
theorem l_X11_challenge_42 {g : Gp} {p : Program} {l : Launch} {e : Env} {s : State} {m : MethodId} {args : Array Value} {below : List Frame} {meth : Method} {c : Code} {Q : State → Prop}  (C : Cx g p s m args c RX11 cX11_challenge 8) (v1 : Int32) (v2 : Int32) (v3 : Int32)  : ∀ (n : Nat) (z4 : Int32) (z5 : Int64) (z7 : Int32) (I : MI) (L : ML) (y0_4 : Int32) (Iy0 : MI) (Ly0 : ML), lp (fun s => b_X11_challenge_42 v1 v2 v3 s.1 s.2.1 s.2.2.1 s.2.2.2.1 s.2.2.2.2) n (z4, z5, z7, I, L) = some (y0_4, Iy0, Ly0) → ∀ (H : Heap) (locs : List Loc) (ls : Array Slot), Ws g s I L H locs → lv_has ls 8 [(0, .ref (g.1 + 244)), (1, .int v1), (2, .int v2), (3, .int v3), (4, .int z4), (5, .long z5), (7, .int z7)] → (∀ (H : Heap) (locs : List Loc) (ls : Array Slot), Ws g s Iy0 Ly0 H locs → lv_has ls 8 [(4, .int y0_4)] → W p l e (rmD 4) s m args below meth c H locs 0 0 Q (F0 m 124 ls [])) → W p l e (rmD 4) s m args below meth c H locs 0 0 Q (F0 m 42 ls []) := by
  intro n
  induction n with
  | zero => intro z4 z5 z7 I L y0_4 Iy0 Ly0 h; exact lp_zero h
  | succ n ih =>
      intro z4 z5 z7 I L y0_4 Iy0 Ly0 h H locs ls hW hl hx0
      obtain ⟨r9, h, h9⟩ := lp_some h
      have h : b_X11_challenge_42 v1 v2 v3 z4 z5 z7 I L = some r9 := h
      unfold b_X11_challenge_42 at h
      refine lv_iload C.1.1 C.1.2.1 dX11_challenge_42 (lv_at hl 6 rfl) ?_
      refine lv_aload_n C.1.1 C.1.2.1 dX11_challenge_44 rfl (lv_at hl 0 rfl) ?_
      refine G_X11_7 C hW (by decide) dX11_challenge_45 ?_
      refine lv_iconst (v := 1) C.1.1 C.1.2.1 dX11_challenge_48 (by decide) ?_
      obtain ⟨hi10, h⟩ := gi_some h
      refine w_iald C hW (n := 1752) (by decide) (by decide) hi10 dX11_challenge_49 ?_
      refine lv_icmp_ge (tgt := 124) C.1.1 C.1.2.1 dX11_challenge_50 (by decide) (fun hc11 => ?_) (fun hc11 => ?_)
      · replace h := ite_t hc11 h
        obtain rfl := Option.some.inj h
        replace h9 := Option.some.inj h9
        obtain ⟨rfl, rfl, rfl⟩ := pnj3 h9
        exact hx0 _ _ _ hW (lv_sub hl [4] rfl)
      · replace h := ite_f hc11 h
        refine lv_iload C.1.1 C.1.2.1 dX11_challenge_53 (lv_at hl 6 rfl) ?_
        refine lv_iload_n C.1.1 C.1.2.1 dX11_challenge_55 rfl (lv_at hl 1 rfl) ?_
        obtain ⟨y12, y13, I14, L15, hj17, h⟩ := bd4_some h
        have kJ16 : ∀ (H : Heap) (locs : List Loc) (ls : Array Slot), Ws g s I14 L15 H locs → lv_has ls 8 [(0, .ref (g.1 + 244)), (1, .int v1), (2, .int v2), (3, .int v3), (4, .int y12), (5, .long y13), (7, .int z7)] → W p l e (rmD 4) s m args below meth c H locs 0 0 Q (F0 m 118 ls []) := by
          intro H locs ls hW hl
          obtain ⟨x18, ex18⟩ : ∃ y : Int32, y = z7 + (1 : Int32) := ⟨_, rfl⟩
          replace h := nm_at ex18 h
          refine lv_iinc (v := x18) (lv' := [(7, .int x18), (0, .ref (g.1 + 244)), (1, .int v1), (2, .int v2), (3, .int v3), (4, .int y12), (5, .long y13)]) C.1.1 C.1.2.1 dX11_challenge_118 hl (k := 6) rfl (by rw [ex18]; rfl) (by decide) rfl (fun ls hl => ?_)
          clear ex18
          refine lv_goto (tgt := 42) C.1.1 C.1.2.1 dX11_challenge_121 (by decide) ?_
          obtain rfl := Option.some.inj h
          exact ih _ _ _ _ _ _ _ _ h9 _ _ _ hW (lv_sub hl [1, 2, 3, 4, 5, 6, 0] rfl) hx0
        clear h
        have h := hj17
        clear hj17
        refine lv_icmp_eq (tgt := 118) C.1.1 C.1.2.1 dX11_challenge_56 (by decide) (fun hc19 => ?_) (fun hc19 => ?_)
        · replace h := ite_t hc19 h
          obtain ⟨rfl, rfl, rfl, rfl⟩ := inj4 h
          exact kJ16 _ _ _ hW (lv_sub hl [0, 1, 2, 3, 4, 5, 6] rfl)
        · replace h := ite_f hc19 h
          refine lv_aload_n C.1.1 C.1.2.1 dX11_challenge_59 rfl (lv_at hl 0 rfl) ?_
          refine lv_iconst (v := 0) C.1.1 C.1.2.1 dX11_challenge_60 (by decide) ?_
          refine lv_iload C.1.1 C.1.2.1 dX11_challenge_61 (lv_at hl 6 rfl) ?_
          obtain ⟨r20, hc21, h⟩ := bd1_some h
          refine w_callVi (k := 2) (As := [.int (0 : Int32), .int z7]) (rest := []) C hW (c_X11_isDown g l  hc21) (by decide) rfl (EX_11 (by decide)) K_X11_100 (by decide +kernel) ⟨by decide, by decide⟩ ⟨Nat.le_refl _, Nat.le_refl _⟩ rfl hl.1 rfl (Nat.le_of_ble_eq_true rfl) dX11_challenge_63 (fun H locs hW => ?_)
          refine lv_if_ne (tgt := 118) C.1.1 C.1.2.1 dX11_challenge_66 (by decide) (fun hc22 => ?_) (fun hc22 => ?_)
          · replace h := ite_f hc22 h
            obtain ⟨rfl, rfl, rfl, rfl⟩ := inj4 h
            exact kJ16 _ _ _ hW (lv_sub hl [0, 1, 2, 3, 4, 5, 6] rfl)
          · replace h := ite_t hc22 h
            refine lv_aload_n C.1.1 C.1.2.1 dX11_challenge_69 rfl (lv_at hl 0 rfl) ?_
            refine lv_iload_n C.1.1 C.1.2.1 dX11_challenge_70 rfl (lv_at hl 1 rfl) ?_
            refine lv_iload C.1.1 C.1.2.1 dX11_challenge_71 (lv_at hl 6 rfl) ?_
            refine lv_iload_n C.1.1 C.1.2.1 dX11_challenge_73 rfl (lv_at hl 2 rfl) ?_
            refine lv_iload_n C.1.1 C.1.2.1 dX11_challenge_74 rfl (lv_at hl 3 rfl) ?_
            obtain ⟨I23, L24, hc25, h⟩ := bd2_some h
            refine w_callVv (k := 4) (As := [.int v1, .int z7, .int v2, .int v3]) (rest := []) C hW (c_X11_findOdds g l  hc25) (by decide) rfl (EX_11 (by decide)) K_X11_189 (by decide +kernel) ⟨by decide, by decide⟩ ⟨Nat.le_refl _, Nat.le_refl _⟩ rfl hl.1 rfl (Nat.le_of_ble_eq_true rfl) dX11_challenge_75 (fun H locs hW => ?_)
            refine lv_aload_n C.1.1 C.1.2.1 dX11_challenge_78 rfl (lv_at hl 0 rfl) ?_
            refine G_X11_175 C hW (by decide) dX11_challenge_79 ?_
            refine lv_lload C.1.1 C.1.2.1 dX11_challenge_82 (lv_at hl 5 rfl) ?_
            refine W.lcmp C.1.1 C.1.2.1 dX11_challenge_84 ?_
            obtain ⟨y26, hj28, h⟩ := bd1_some h
            have kJ27 : ∀ (H : Heap) (locs : List Loc) (ls : Array Slot), Ws g s I23 L24 H locs → lv_has ls 8 [(0, .ref (g.1 + 244)), (1, .int v1), (2, .int v2), (3, .int v3), (5, .long z5), (7, .int z7)] → W p l e (rmD 4) s m args below meth c H locs 0 0 Q (F0 m 95 ls [.int y26]) := by
              intro H locs ls hW hl
              refine lv_istore (lv' := [(4, .int y26), (0, .ref (g.1 + 244)), (1, .int v1), (2, .int v2), (3, .int v3), (5, .long z5), (7, .int z7)]) C.1.1 C.1.2.1 dX11_challenge_95 hl (by decide) rfl (fun ls hl => ?_)
              refine lv_aload_n C.1.1 C.1.2.1 dX11_challenge_97 rfl (lv_at hl 1 rfl) ?_
              refine G_X11_175 C hW (by decide) dX11_challenge_98 ?_
              refine lv_lload C.1.1 C.1.2.1 dX11_challenge_101 (lv_at hl 5 rfl) ?_
              refine W.lcmp C.1.1 C.1.2.1 dX11_challenge_103 ?_
              obtain ⟨y29, hj31, h⟩ := bd1_some h
              have kJ30 : ∀ (H : Heap) (locs : List Loc) (ls : Array Slot), Ws g s I23 L24 H locs → lv_has ls 8 [(0, .ref (g.1 + 244)), (1, .int v1), (2, .int v2), (3, .int v3), (4, .int y26), (7, .int z7)] → W p l e (rmD 4) s m args below meth c H locs 0 0 Q (F0 m 116 ls [.long y29]) := by
                intro H locs ls hW hl
                refine lv_lstore (lv' := [(5, .long y29), (0, .ref (g.1 + 244)), (1, .int v1), (2, .int v2), (3, .int v3), (4, .int y26), (7, .int z7)]) C.1.1 C.1.2.1 dX11_challenge_116 hl (by decide) rfl (fun ls hl => ?_)
                obtain ⟨rfl, rfl, rfl, rfl⟩ := inj4 h
                exact kJ16 _ _ _ hW (lv_sub hl [1, 2, 3, 4, 5, 0, 6] rfl)
              clear h
              have h := hj31
              clear hj31
              refine lv_if_le (tgt := 114) C.1.1 C.1.2.1 dX11_challenge_104 (by decide) (fun hc32 => ?_) (fun hc32 => ?_)
              · replace h := ite_t hc32 h
                refine lv_lload C.1.1 C.1.2.1 dX11_challenge_114 (lv_at hl 5 rfl) ?_
                obtain rfl := inj1 h
                exact kJ30 _ _ _ hW (lv_sub hl [1, 2, 3, 4, 0, 6] rfl)
              · replace h := ite_f hc32 h
                refine lv_aload_n C.1.1 C.1.2.1 dX11_challenge_107 rfl (lv_at hl 1 rfl) ?_
                refine G_X11_175 C hW (by decide) dX11_challenge_108 ?_
                refine lv_goto (tgt := 116) C.1.1 C.1.2.1 dX11_challenge_111 (by decide) ?_
                obtain rfl := inj1 h
                exact kJ30 _ _ _ hW (lv_sub hl [1, 2, 3, 4, 0, 6] rfl)
            clear h
            have h := hj28
            clear hj28
            refine lv_if_le (tgt := 93) C.1.1 C.1.2.1 dX11_challenge_85 (by decide) (fun hc33 => ?_) (fun hc33 => ?_)
            · replace h := ite_t hc33 h
              refine lv_iload C.1.1 C.1.2.1 dX11_challenge_93 (lv_at hl 4 rfl) ?_
              obtain rfl := inj1 h
              exact kJ27 _ _ _ hW (lv_sub hl [0, 1, 2, 3, 5, 6] rfl)
            · replace h := ite_f hc33 h
              refine lv_iload C.1.1 C.1.2.1 dX11_challenge_88 (lv_at hl 6 rfl) ?_
              refine lv_goto (tgt := 95) C.1.1 C.1.2.1 dX11_challenge_90 (by decide) ?_
              obtain rfl := inj1 h
              exact kJ27 _ _ _ hW (lv_sub hl [0, 1, 2, 3, 5, 6] rfl)
def f_X11_challenge (a1 : Int32) (a2 : Int32) (a3 : Int32) (I : MI) (L : ML) : Option (Int32 × MI × ML) :=
  bd1 (f_X11_isSitter a1 I L) (fun r1 => (if r1 = 0 then some (((-1 : Int32), I, L)) else bd1 (f_X11_isSpan a2 a3) (fun r4 => (if r4 = 0 then some (((-1 : Int32), I, L)) else bd1 (f_X11_isDown (0 : Int32) a1 I L) (fun r7 => (if r7 = 0 then bd3 (lp (fun s => b_X11_challenge_42 a1 a2 a3 s.1 s.2.1 s.2.2.1 s.2.2.2.1 s.2.2.2.2) FU (((-4 : Int32), (-1 : Int64), (0 : Int32), I, L))) (fun y35 I36 L37 => some (y35, I36, L37)) else some (((-2 : Int32), I, L))))))))
set_option maxHeartbeats 4000000 in
set_option maxRecDepth 100000 in
theorem c_X11_challenge (g : Gp) (l : Launch) {a1 : Int32} {a2 : Int32} {a3 : Int32}  {I : MI} {L : ML} {r : Int32} {I' : MI} {L' : ML} (h : f_X11_challenge a1 a2 a3 I L = some (r, I', L')) : MetI g l yX11_challenge cX11_challenge 8 .int 4 [.ref (g.1 + 244), .int a1, .int a2, .int a3] I L r I' L' := by
  unfold f_X11_challenge at h
  refine w_enter (by decide) (Nat.le_of_ble_eq_true rfl) (own := RX11) rfl ?_
  intro p e s m below meth c args Q hQ C hr hlocks hW ls hl
  have hl : lv_has ls 8 [(0, .ref (g.1 + 244)), (1, .int a1), (2, .int a2), (3, .int a3)] := hl
  refine lv_aload_n C.1.1 C.1.2.1 dX11_challenge_0 rfl (lv_at hl 0 rfl) ?_
  refine lv_iload_n C.1.1 C.1.2.1 dX11_challenge_1 rfl (lv_at hl 1 rfl) ?_
  obtain ⟨r1, hc2, h⟩ := bd1_some h
  refine w_callVi (k := 1) (As := [.int a1]) (rest := []) C hW (c_X11_isSitter g l  hc2) (by decide) rfl (EX_11 (by decide)) K_X11_115 (by decide +kernel) ⟨by decide, by decide⟩ ⟨Nat.le_refl _, Nat.le_refl _⟩ rfl hl.1 rfl (Nat.le_of_ble_eq_true rfl) dX11_challenge_2 (fun H locs hW => ?_)
  refine lv_if_eq (tgt := 16) C.1.1 C.1.2.1 dX11_challenge_5 (by decide) (fun hc3 => ?_) (fun hc3 => ?_)
  · replace h := ite_t hc3 h
    refine lv_iconst (v := -1) C.1.1 C.1.2.1 dX11_challenge_16 (by decide) ?_
    obtain ⟨rfl, rfl, rfl⟩ := inj3 h
    subst hQ
    exact w_iret C hW hr hlocks dX11_challenge_17
  · replace h := ite_f hc3 h
    refine lv_iload_n C.1.1 C.1.2.1 dX11_challenge_8 rfl (lv_at hl 2 rfl) ?_
    refine lv_iload_n C.1.1 C.1.2.1 dX11_challenge_9 rfl (lv_at hl 3 rfl) ?_
    obtain ⟨r4, hc5, h⟩ := bd1_some h
    refine w_callSi (k := 2) (As := [.int a2, .int a3]) (rest := []) C hW (c_X11_isSpan g l  hc5 I L) K_X11_182 (by decide +kernel) ⟨by decide, by decide⟩ ⟨Nat.le_refl _, Nat.le_refl _⟩ rfl hl.1 rfl (Nat.le_of_ble_eq_true rfl) dX11_challenge_10 (fun H locs hW => ?_)
    refine lv_if_ne (tgt := 18) C.1.1 C.1.2.1 dX11_challenge_13 (by decide) (fun hc6 => ?_) (fun hc6 => ?_)
    · replace h := ite_f hc6 h
      refine lv_aload_n C.1.1 C.1.2.1 dX11_challenge_18 rfl (lv_at hl 0 rfl) ?_
      refine lv_iconst (v := 0) C.1.1 C.1.2.1 dX11_challenge_19 (by decide) ?_
      refine lv_iload_n C.1.1 C.1.2.1 dX11_challenge_20 rfl (lv_at hl 1 rfl) ?_
      obtain ⟨r7, hc8, h⟩ := bd1_some h
      refine w_callVi (k := 2) (As := [.int (0 : Int32), .int a1]) (rest := []) C hW (c_X11_isDown g l  hc8) (by decide) rfl (EX_11 (by decide)) K_X11_100 (by decide +kernel) ⟨by decide, by decide⟩ ⟨Nat.le_refl _, Nat.le_refl _⟩ rfl hl.1 rfl (Nat.le_of_ble_eq_true rfl) dX11_challenge_21 (fun H locs hW => ?_)
      refine lv_if_eq (tgt := 30) C.1.1 C.1.2.1 dX11_challenge_24 (by decide) (fun hc9 => ?_) (fun hc9 => ?_)
      · replace h := ite_t hc9 h
        refine lv_bipush (v := -4) C.1.1 C.1.2.1 dX11_challenge_30 (by decide) ?_
        refine lv_istore (lv' := [(4, .int (-4 : Int32)), (0, .ref (g.1 + 244)), (1, .int a1), (2, .int a2), (3, .int a3)]) C.1.1 C.1.2.1 dX11_challenge_32 hl (by decide) rfl (fun ls hl => ?_)
        refine lv_ldc2 C.1.1 C.1.2.1 C.1.2.2.2.1 (C.1.2.2.2.2 _ kl_X11_185) dX11_challenge_34 ?_
        refine lv_lstore (lv' := [(5, .long (-1 : Int64)), (4, .int (-4 : Int32)), (0, .ref (g.1 + 244)), (1, .int a1), (2, .int a2), (3, .int a3)]) C.1.1 C.1.2.1 dX11_challenge_37 hl (by decide) rfl (fun ls hl => ?_)
        refine lv_iconst (v := 0) C.1.1 C.1.2.1 dX11_challenge_39 (by decide) ?_
        refine lv_istore (lv' := [(7, .int (0 : Int32)), (5, .long (-1 : Int64)), (4, .int (-4 : Int32)), (0, .ref (g.1 + 244)), (1, .int a1), (2, .int a2), (3, .int a3)]) C.1.1 C.1.2.1 dX11_challenge_40 hl (by decide) rfl (fun ls hl => ?_)
        obtain ⟨y35, I36, L37, hq34, h⟩ := bd3_some h
        refine l_X11_challenge_42 C a1 a2 a3  _ _ _ _ _ _ _ _ _ hq34 _ _ _ hW (lv_sub hl [3, 4, 5, 6, 2, 1, 0] rfl) (fun H locs ls hW hl => ?_)
        refine lv_iload C.1.1 C.1.2.1 dX11_challenge_124 (lv_at hl 0 rfl) ?_
        obtain ⟨rfl, rfl, rfl⟩ := inj3 h
        subst hQ
        exact w_iret C hW hr hlocks dX11_challenge_126
      · replace h := ite_f hc9 h
        refine lv_bipush (v := -2) C.1.1 C.1.2.1 dX11_challenge_27 (by decide) ?_
        obtain ⟨rfl, rfl, rfl⟩ := inj3 h
        subst hQ
        exact w_iret C hW hr hlocks dX11_challenge_29
    · replace h := ite_t hc6 h
      refine lv_iconst (v := -1) C.1.1 C.1.2.1 dX11_challenge_16 (by decide) ?_
      obtain ⟨rfl, rfl, rfl⟩ := inj3 h
      subst hQ
      exact w_iret C hW hr hlocks dX11_challenge_17
