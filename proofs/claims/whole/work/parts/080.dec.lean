def f_X11_in (a1 : Int64) (a2 : Int64) (a3 : Int64) : Option (Int32) :=
  bd1 ((if (lg_cmp a1 a2) < 0 then some (0 : Int32) else (if 0 < (lg_cmp a1 a3) then some (0 : Int32) else some (1 : Int32)))) (fun y1 => gd (y1 = 0 ∨ y1 = 1) (some y1))
set_option maxHeartbeats 4000000 in
set_option maxRecDepth 100000 in
theorem c_X11_in (g : Gp) (l : Launch) {a1 : Int64} {a2 : Int64} {a3 : Int64}  {r : Int32} (h : f_X11_in a1 a2 a3 = some r) (I : MI) (L : ML) : MetI g l yX11_in cX11_in 6 .boolean 0 [.long a1, .long a2, .long a3] I L r I L := by
  unfold f_X11_in at h
  refine w_enter (by decide) (Nat.le_of_ble_eq_true rfl) (own := RX11) rfl ?_
  intro p e s m below meth c args Q hQ C hr hlocks hW ls hl
  have hl : lv_has ls 6 [(0, .long a1), (2, .long a2), (4, .long a3)] := hl
  refine lv_lload_n C.1.1 C.1.2.1 dX11_in_0 rfl (lv_at hl 0 rfl) ?_
  refine lv_lload_n C.1.1 C.1.2.1 dX11_in_1 rfl (lv_at hl 1 rfl) ?_
  refine W.lcmp C.1.1 C.1.2.1 dX11_in_2 ?_
  obtain ⟨y1, hj3, h⟩ := bd1_some h
  have kJ2 : ∀ (H : Heap) (locs : List Loc) (ls : Array Slot), Ws g s I L H locs → lv_has ls 6 [] → W p l e (rmD 0) s m args below meth c H locs 0 0 Q (F0 m 18 ls [.int y1]) := by
    intro H locs ls hW hl
    obtain ⟨hb4, h⟩ := gd_some h
    obtain rfl := inj1 h
    subst hQ
    exact w_zret C hW hr hlocks hb4 dX11_in_18
  clear h
  have h := hj3
  clear hj3
  refine lv_if_lt (tgt := 17) C.1.1 C.1.2.1 dX11_in_3 (by decide) (fun hc5 => ?_) (fun hc5 => ?_)
  · replace h := ite_t hc5 h
    refine lv_iconst (v := 0) C.1.1 C.1.2.1 dX11_in_17 (by decide) ?_
    obtain rfl := inj1 h
    exact kJ2 _ _ _ hW (lv_sub hl [] rfl)
  · replace h := ite_f hc5 h
    refine lv_lload_n C.1.1 C.1.2.1 dX11_in_6 rfl (lv_at hl 0 rfl) ?_
    refine lv_lload C.1.1 C.1.2.1 dX11_in_7 (lv_at hl 2 rfl) ?_
    refine W.lcmp C.1.1 C.1.2.1 dX11_in_9 ?_
    refine lv_if_gt (tgt := 17) C.1.1 C.1.2.1 dX11_in_10 (by decide) (fun hc6 => ?_) (fun hc6 => ?_)
    · replace h := ite_t hc6 h
      refine lv_iconst (v := 0) C.1.1 C.1.2.1 dX11_in_17 (by decide) ?_
      obtain rfl := inj1 h
      exact kJ2 _ _ _ hW (lv_sub hl [] rfl)
    · replace h := ite_f hc6 h
      refine lv_iconst (v := 1) C.1.1 C.1.2.1 dX11_in_13 (by decide) ?_
      refine lv_goto (tgt := 18) C.1.1 C.1.2.1 dX11_in_14 (by decide) ?_
      obtain rfl := inj1 h
      exact kJ2 _ _ _ hW (lv_sub hl [] rfl)
def f_X11_has (a1 : Int32) (a2 : Int32) : Option (Int32) :=
  bd1 ((if ((a1 >>> (a2 &&& (31 : Int32))) &&& (1 : Int32)) = (1 : Int32) then some (1 : Int32) else some (0 : Int32))) (fun y1 => gd (y1 = 0 ∨ y1 = 1) (some y1))
set_option maxHeartbeats 4000000 in
set_option maxRecDepth 100000 in
theorem c_X11_has (g : Gp) (l : Launch) {a1 : Int32} {a2 : Int32}  {r : Int32} (h : f_X11_has a1 a2 = some r) (I : MI) (L : ML) : MetI g l yX11_has cX11_has 2 .boolean 0 [.int a1, .int a2] I L r I L := by
  unfold f_X11_has at h
  refine w_enter (by decide) (Nat.le_of_ble_eq_true rfl) (own := RX11) rfl ?_
  intro p e s m below meth c args Q hQ C hr hlocks hW ls hl
  have hl : lv_has ls 2 [(0, .int a1), (1, .int a2)] := hl
  refine lv_iload_n C.1.1 C.1.2.1 dX11_has_0 rfl (lv_at hl 0 rfl) ?_
  refine lv_iload_n C.1.1 C.1.2.1 dX11_has_1 rfl (lv_at hl 1 rfl) ?_
  refine lv_ishr C.1.1 C.1.2.1 dX11_has_2 ?_
  refine lv_iconst (v := 1) C.1.1 C.1.2.1 dX11_has_3 (by decide) ?_
  refine lv_iand C.1.1 C.1.2.1 dX11_has_4 ?_
  refine lv_iconst (v := 1) C.1.1 C.1.2.1 dX11_has_5 (by decide) ?_
  obtain ⟨y1, hj3, h⟩ := bd1_some h
  have kJ2 : ∀ (H : Heap) (locs : List Loc) (ls : Array Slot), Ws g s I L H locs → lv_has ls 2 [] → W p l e (rmD 0) s m args below meth c H locs 0 0 Q (F0 m 14 ls [.int y1]) := by
    intro H locs ls hW hl
    obtain ⟨hb4, h⟩ := gd_some h
    obtain rfl := inj1 h
    subst hQ
    exact w_zret C hW hr hlocks hb4 dX11_has_14
  clear h
  have h := hj3
  clear hj3
  refine lv_icmp_ne (tgt := 13) C.1.1 C.1.2.1 dX11_has_6 (by decide) (fun hc5 => ?_) (fun hc5 => ?_)
  · replace h := ite_f hc5 h
    refine lv_iconst (v := 0) C.1.1 C.1.2.1 dX11_has_13 (by decide) ?_
    obtain rfl := inj1 h
    exact kJ2 _ _ _ hW (lv_sub hl [] rfl)
  · replace h := ite_t hc5 h
    refine lv_iconst (v := 1) C.1.1 C.1.2.1 dX11_has_9 (by decide) ?_
    refine lv_goto (tgt := 14) C.1.1 C.1.2.1 dX11_has_10 (by decide) ?_
    obtain rfl := inj1 h
    exact kJ2 _ _ _ hW (lv_sub hl [] rfl)
def b_X11_ones_4 (v0 : Int32) (z1 : Int32) (z2 : Int32) : Option ((Int32 × Int32) ⊕ ((Int32))) :=
  (if (8 : Int32) ≤ z2 then some (Sum.inr z1) else nm (z1 + ((v0 >>> (z2 &&& (31 : Int32))) &&& (1 : Int32))) (fun x2 => nm (z2 + (1 : Int32)) (fun x3 => some (Sum.inl (x2, x3)))))
set_option maxHeartbeats 4000000 in
set_option maxRecDepth 100000 in
theorem l_X11_ones_4 {g : Gp} {p : Program} {l : Launch} {e : Env} {s : State} {m : MethodId} {args : Array Value} {below : List Frame} {meth : Method} {c : Code} {Q : State → Prop}  (C : Cx g p s m args c RX11 cX11_ones 3) (v0 : Int32)  (I : MI) (L : ML) : ∀ (n : Nat) (z1 : Int32) (z2 : Int32) (y0_1 : Int32), lp (fun s => b_X11_ones_4 v0 s.1 s.2) n (z1, z2) = some y0_1 → ∀ (H : Heap) (locs : List Loc) (ls : Array Slot), Ws g s I L H locs → lv_has ls 3 [(0, .int v0), (1, .int z1), (2, .int z2)] → (∀ (H : Heap) (locs : List Loc) (ls : Array Slot), Ws g s I L H locs → lv_has ls 3 [(1, .int y0_1)] → W p l e (rmD 0) s m args below meth c H locs 0 0 Q (F0 m 24 ls [])) → W p l e (rmD 0) s m args below meth c H locs 0 0 Q (F0 m 4 ls []) := by
  intro n
  induction n with
  | zero => intro z1 z2 y0_1 h; exact lp_zero h
  | succ n ih =>
      intro z1 z2 y0_1 h H locs ls hW hl hx0
      obtain ⟨r9, h, h9⟩ := lp_some h
      have h : b_X11_ones_4 v0 z1 z2 = some r9 := h
      unfold b_X11_ones_4 at h
      refine lv_iload_n C.1.1 C.1.2.1 dX11_ones_4 rfl (lv_at hl 2 rfl) ?_
      refine lv_bipush (v := 8) C.1.1 C.1.2.1 dX11_ones_5 (by decide) ?_
      refine lv_icmp_ge (tgt := 24) C.1.1 C.1.2.1 dX11_ones_7 (by decide) (fun hc1 => ?_) (fun hc1 => ?_)
      · replace h := ite_t hc1 h
        obtain rfl := Option.some.inj h
        replace h9 := Option.some.inj h9
        obtain rfl := pnj1 h9
        exact hx0 _ _ _ hW (lv_sub hl [1] rfl)
      · replace h := ite_f hc1 h
        refine lv_iload_n C.1.1 C.1.2.1 dX11_ones_10 rfl (lv_at hl 1 rfl) ?_
        refine lv_iload_n C.1.1 C.1.2.1 dX11_ones_11 rfl (lv_at hl 0 rfl) ?_
        refine lv_iload_n C.1.1 C.1.2.1 dX11_ones_12 rfl (lv_at hl 2 rfl) ?_
        refine lv_ishr C.1.1 C.1.2.1 dX11_ones_13 ?_
        refine lv_iconst (v := 1) C.1.1 C.1.2.1 dX11_ones_14 (by decide) ?_
        refine lv_iand C.1.1 C.1.2.1 dX11_ones_15 ?_
        refine lv_iadd C.1.1 C.1.2.1 dX11_ones_16 ?_
        refine lv_topi (fun x2 ex2 => ?_)
        replace h := nm_at ex2 h
        clear ex2
        refine lv_istore_n (lv' := [(1, .int x2), (0, .int v0), (2, .int z2)]) C.1.1 C.1.2.1 dX11_ones_17 rfl hl (by decide) rfl (fun ls hl => ?_)
        obtain ⟨x3, ex3⟩ : ∃ y : Int32, y = z2 + (1 : Int32) := ⟨_, rfl⟩
        replace h := nm_at ex3 h
        refine lv_iinc (v := x3) (lv' := [(2, .int x3), (1, .int x2), (0, .int v0)]) C.1.1 C.1.2.1 dX11_ones_18 hl (k := 2) rfl (by rw [ex3]; rfl) (by decide) rfl (fun ls hl => ?_)
        clear ex3
        refine lv_goto (tgt := 4) C.1.1 C.1.2.1 dX11_ones_21 (by decide) ?_
        obtain rfl := Option.some.inj h
        exact ih _ _ _ h9 _ _ _ hW (lv_sub hl [2, 1, 0] rfl) hx0
def f_X11_ones (a1 : Int32) : Option (Int32) :=
  bd1 (lp (fun s => b_X11_ones_4 a1 s.1 s.2) FU (((0 : Int32), (0 : Int32)))) (fun y5 => some y5)
set_option maxHeartbeats 4000000 in
set_option maxRecDepth 100000 in
theorem c_X11_ones (g : Gp) (l : Launch) {a1 : Int32}  {r : Int32} (h : f_X11_ones a1 = some r) (I : MI) (L : ML) : MetI g l yX11_ones cX11_ones 3 .int 0 [.int a1] I L r I L := by
  unfold f_X11_ones at h
  refine w_enter (by decide) (Nat.le_of_ble_eq_true rfl) (own := RX11) rfl ?_
  intro p e s m below meth c args Q hQ C hr hlocks hW ls hl
  have hl : lv_has ls 3 [(0, .int a1)] := hl
  refine lv_iconst (v := 0) C.1.1 C.1.2.1 dX11_ones_0 (by decide) ?_
  refine lv_istore_n (lv' := [(1, .int (0 : Int32)), (0, .int a1)]) C.1.1 C.1.2.1 dX11_ones_1 rfl hl (by decide) rfl (fun ls hl => ?_)
  refine lv_iconst (v := 0) C.1.1 C.1.2.1 dX11_ones_2 (by decide) ?_
  refine lv_istore_n (lv' := [(2, .int (0 : Int32)), (1, .int (0 : Int32)), (0, .int a1)]) C.1.1 C.1.2.1 dX11_ones_3 rfl hl (by decide) rfl (fun ls hl => ?_)
  obtain ⟨y5, hq4, h⟩ := bd1_some h
  refine l_X11_ones_4 C a1  I L _ _ _ _ hq4 _ _ _ hW (lv_sub hl [2, 1, 0] rfl) (fun H locs ls hW hl => ?_)
  refine lv_iload_n C.1.1 C.1.2.1 dX11_ones_24 rfl (lv_at hl 0 rfl) ?_
  obtain rfl := inj1 h
  subst hQ
  exact w_iret C hW hr hlocks dX11_ones_25
def b_X11_copyRow_2 (v1 : Int32) (v2 : Int32) (L : ML) (z3 : Int32) (I : MI) : Option ((Int32 × MI) ⊕ ((MI))) :=
  (if (73 : Int32) ≤ z3 then some (Sum.inr I) else gi (v1 + z3) 1752 (gi (v2 + z3) 1752 (nm (up2 I 245 ((v2 + z3).toNatClampNeg) (I 245 (v1 + z3).toNatClampNeg)) (fun I4 => nm (z3 + (1 : Int32)) (fun x5 => some (Sum.inl (x5, I4)))))))
set_option maxHeartbeats 4000000 in
set_option maxRecDepth 100000 in
theorem l_X11_copyRow_2 {g : Gp} {p : Program} {l : Launch} {e : Env} {s : State} {m : MethodId} {args : Array Value} {below : List Frame} {meth : Method} {c : Code} {Q : State → Prop}  (C : Cx g p s m args c RX11 cX11_copyRow 4) (v1 : Int32) (v2 : Int32)  (L : ML) : ∀ (n : Nat) (z3 : Int32) (I : MI) (Iy0 : MI), lp (fun s => b_X11_copyRow_2 v1 v2 L s.1 s.2) n (z3, I) = some Iy0 → ∀ (H : Heap) (locs : List Loc) (ls : Array Slot), Ws g s I L H locs → lv_has ls 4 [(0, .ref (g.1 + 244)), (1, .int v1), (2, .int v2), (3, .int z3)] → (∀ (H : Heap) (locs : List Loc) (ls : Array Slot), Ws g s Iy0 L H locs → lv_has ls 4 [] → W p l e (rmD 0) s m args below meth c H locs 0 0 Q (F0 m 30 ls [])) → W p l e (rmD 0) s m args below meth c H locs 0 0 Q (F0 m 2 ls []) := by
  intro n
  induction n with
  | zero => intro z3 I Iy0 h; exact lp_zero h
  | succ n ih =>
      intro z3 I Iy0 h H locs ls hW hl hx0
      obtain ⟨r9, h, h9⟩ := lp_some h
      have h : b_X11_copyRow_2 v1 v2 L z3 I = some r9 := h
      unfold b_X11_copyRow_2 at h
      refine lv_iload_n C.1.1 C.1.2.1 dX11_copyRow_2 rfl (lv_at hl 3 rfl) ?_
      refine lv_bipush (v := 73) C.1.1 C.1.2.1 dX11_copyRow_3 (by decide) ?_
      refine lv_icmp_ge (tgt := 30) C.1.1 C.1.2.1 dX11_copyRow_5 (by decide) (fun hc1 => ?_) (fun hc1 => ?_)
      · replace h := ite_t hc1 h
        obtain rfl := Option.some.inj h
        replace h9 := Option.some.inj h9
        obtain rfl := pnj1 h9
        exact hx0 _ _ _ hW (lv_sub hl [] rfl)
      · replace h := ite_f hc1 h
        refine lv_aload_n C.1.1 C.1.2.1 dX11_copyRow_8 rfl (lv_at hl 0 rfl) ?_
        refine G_X11_7 C hW (by decide) dX11_copyRow_9 ?_
        refine lv_iload_n C.1.1 C.1.2.1 dX11_copyRow_12 rfl (lv_at hl 2 rfl) ?_
        refine lv_iload_n C.1.1 C.1.2.1 dX11_copyRow_13 rfl (lv_at hl 3 rfl) ?_
        refine lv_iadd C.1.1 C.1.2.1 dX11_copyRow_14 ?_
        refine lv_aload_n C.1.1 C.1.2.1 dX11_copyRow_15 rfl (lv_at hl 0 rfl) ?_
        refine G_X11_7 C hW (by decide) dX11_copyRow_16 ?_
        refine lv_iload_n C.1.1 C.1.2.1 dX11_copyRow_19 rfl (lv_at hl 1 rfl) ?_
        refine lv_iload_n C.1.1 C.1.2.1 dX11_copyRow_20 rfl (lv_at hl 3 rfl) ?_
        refine lv_iadd C.1.1 C.1.2.1 dX11_copyRow_21 ?_
        obtain ⟨hi2, h⟩ := gi_some h
        refine w_iald C hW (n := 1752) (by decide) (by decide) hi2 dX11_copyRow_22 ?_
        obtain ⟨hi3, h⟩ := gi_some h
        refine w_iast C hW (n := 1752) (by decide) (by decide) hi3 dX11_copyRow_23 (fun H locs hW => ?_)
        obtain ⟨I4, eI4, h⟩ := nm_some h
        rw [← eI4] at hW
        clear eI4
        obtain ⟨x5, ex5⟩ : ∃ y : Int32, y = z3 + (1 : Int32) := ⟨_, rfl⟩
        replace h := nm_at ex5 h
        refine lv_iinc (v := x5) (lv' := [(3, .int x5), (0, .ref (g.1 + 244)), (1, .int v1), (2, .int v2)]) C.1.1 C.1.2.1 dX11_copyRow_24 hl (k := 3) rfl (by rw [ex5]; rfl) (by decide) rfl (fun ls hl => ?_)
        clear ex5
        refine lv_goto (tgt := 2) C.1.1 C.1.2.1 dX11_copyRow_27 (by decide) ?_
        obtain rfl := Option.some.inj h
        exact ih _ _ _ h9 _ _ _ hW (lv_sub hl [1, 2, 3, 0] rfl) hx0
def f_X11_copyRow (a1 : Int32) (a2 : Int32) (I : MI) (L : ML) : Option (MI) :=
  bd1 (lp (fun s => b_X11_copyRow_2 a1 a2 L s.1 s.2) FU (((0 : Int32), I))) (fun I7 => some I7)
set_option maxHeartbeats 4000000 in
set_option maxRecDepth 100000 in
theorem c_X11_copyRow (g : Gp) (l : Launch) {a1 : Int32} {a2 : Int32}  {I : MI} {L : ML} {I' : MI} (h : f_X11_copyRow a1 a2 I L = some I') : MetV g l yX11_copyRow cX11_copyRow 4 0 [.ref (g.1 + 244), .int a1, .int a2] I L I' L := by
  unfold f_X11_copyRow at h
  refine w_enter (by decide) (Nat.le_of_ble_eq_true rfl) (own := RX11) rfl ?_
  intro p e s m below meth c args Q hQ C hr hlocks hW ls hl
  have hl : lv_has ls 4 [(0, .ref (g.1 + 244)), (1, .int a1), (2, .int a2)] := hl
  refine lv_iconst (v := 0) C.1.1 C.1.2.1 dX11_copyRow_0 (by decide) ?_
  refine lv_istore_n (lv' := [(3, .int (0 : Int32)), (0, .ref (g.1 + 244)), (1, .int a1), (2, .int a2)]) C.1.1 C.1.2.1 dX11_copyRow_1 rfl hl (by decide) rfl (fun ls hl => ?_)
  obtain ⟨I7, hq6, h⟩ := bd1_some h
  refine l_X11_copyRow_2 C a1 a2  L _ _ _ _ hq6 _ _ _ hW (lv_sub hl [1, 2, 3, 0] rfl) (fun H locs ls hW hl => ?_)
  obtain rfl := inj1 h
  subst hQ
  exact w_vret C hW hr hlocks dX11_copyRow_30
def f_X11_isSitter (a1 : Int32) (I : MI) (L : ML) : Option (Int32) :=
  gi (1 : Int32) 1752 (bd1 (f_X11_in a1.toInt64 (0 : Int64) (((I 245 (1 : Int32).toNatClampNeg) - (1 : Int32)).toInt64)) (fun r2 => gd (r2 = 0 ∨ r2 = 1) (some r2)))
set_option maxHeartbeats 4000000 in
set_option maxRecDepth 100000 in
theorem c_X11_isSitter (g : Gp) (l : Launch) {a1 : Int32}  {I : MI} {L : ML} {r : Int32} (h : f_X11_isSitter a1 I L = some r) : MetI g l yX11_isSitter cX11_isSitter 2 .boolean 1 [.ref (g.1 + 244), .int a1] I L r I L := by
  unfold f_X11_isSitter at h
  refine w_enter (by decide) (Nat.le_of_ble_eq_true rfl) (own := RX11) rfl ?_
  intro p e s m below meth c args Q hQ C hr hlocks hW ls hl
  have hl : lv_has ls 2 [(0, .ref (g.1 + 244)), (1, .int a1)] := hl
  refine lv_iload_n C.1.1 C.1.2.1 dX11_isSitter_0 rfl (lv_at hl 1 rfl) ?_
  refine lv_i2l C.1.1 C.1.2.1 dX11_isSitter_1 rfl ?_
  refine lv_lconst (v := 0) C.1.1 C.1.2.1 dX11_isSitter_2 (by decide) ?_
  refine lv_aload_n C.1.1 C.1.2.1 dX11_isSitter_3 rfl (lv_at hl 0 rfl) ?_
  refine G_X11_7 C hW (by decide) dX11_isSitter_4 ?_
  refine lv_iconst (v := 1) C.1.1 C.1.2.1 dX11_isSitter_7 (by decide) ?_
  obtain ⟨hi1, h⟩ := gi_some h
  refine w_iald C hW (n := 1752) (by decide) (by decide) hi1 dX11_isSitter_8 ?_
  refine lv_iconst (v := 1) C.1.1 C.1.2.1 dX11_isSitter_9 (by decide) ?_
  refine lv_isub C.1.1 C.1.2.1 dX11_isSitter_10 ?_
  refine lv_i2l C.1.1 C.1.2.1 dX11_isSitter_11 rfl ?_
  obtain ⟨r2, hc3, h⟩ := bd1_some h
  refine w_callSi (k := 3) (As := [.long a1.toInt64, .long (0 : Int64), .long (((I 245 (1 : Int32).toNatClampNeg) - (1 : Int32)).toInt64)]) (rest := []) C hW (c_X11_in g l  hc3 I L) K_X11_42 (by decide +kernel) ⟨by decide, by decide⟩ ⟨Nat.le_refl _, Nat.le_refl _⟩ rfl hl.1 rfl (Nat.le_of_ble_eq_true rfl) dX11_isSitter_12 (fun H locs hW => ?_)
  obtain ⟨hb4, h⟩ := gd_some h
  obtain rfl := inj1 h
  subst hQ
  exact w_zret C hW hr hlocks hb4 dX11_isSitter_15
def f_X11_isDown (a1 : Int32) (a2 : Int32) (I : MI) (L : ML) : Option (Int32) :=
  gi ((a1 + (67 : Int32)) + a2) 1752 (bd1 ((if (I 245 ((a1 + (67 : Int32)) + a2).toNatClampNeg) < 0 then some (0 : Int32) else some (1 : Int32))) (fun y2 => gd (y2 = 0 ∨ y2 = 1) (some y2)))
set_option maxHeartbeats 4000000 in
set_option maxRecDepth 100000 in
theorem c_X11_isDown (g : Gp) (l : Launch) {a1 : Int32} {a2 : Int32}  {I : MI} {L : ML} {r : Int32} (h : f_X11_isDown a1 a2 I L = some r) : MetI g l yX11_isDown cX11_isDown 3 .boolean 0 [.ref (g.1 + 244), .int a1, .int a2] I L r I L := by
  unfold f_X11_isDown at h
  refine w_enter (by decide) (Nat.le_of_ble_eq_true rfl) (own := RX11) rfl ?_
  intro p e s m below meth c args Q hQ C hr hlocks hW ls hl
  have hl : lv_has ls 3 [(0, .ref (g.1 + 244)), (1, .int a1), (2, .int a2)] := hl
  refine lv_aload_n C.1.1 C.1.2.1 dX11_isDown_0 rfl (lv_at hl 0 rfl) ?_
  refine G_X11_7 C hW (by decide) dX11_isDown_1 ?_
  refine lv_iload_n C.1.1 C.1.2.1 dX11_isDown_4 rfl (lv_at hl 1 rfl) ?_
  refine lv_bipush (v := 67) C.1.1 C.1.2.1 dX11_isDown_5 (by decide) ?_
  refine lv_iadd C.1.1 C.1.2.1 dX11_isDown_7 ?_
  refine lv_iload_n C.1.1 C.1.2.1 dX11_isDown_8 rfl (lv_at hl 2 rfl) ?_
  refine lv_iadd C.1.1 C.1.2.1 dX11_isDown_9 ?_
  obtain ⟨hi1, h⟩ := gi_some h
  refine w_iald C hW (n := 1752) (by decide) (by decide) hi1 dX11_isDown_10 ?_
  obtain ⟨y2, hj4, h⟩ := bd1_some h
  have kJ3 : ∀ (H : Heap) (locs : List Loc) (ls : Array Slot), Ws g s I L H locs → lv_has ls 3 [] → W p l e (rmD 0) s m args below meth c H locs 0 0 Q (F0 m 19 ls [.int y2]) := by
    intro H locs ls hW hl
    obtain ⟨hb5, h⟩ := gd_some h
    obtain rfl := inj1 h
    subst hQ
    exact w_zret C hW hr hlocks hb5 dX11_isDown_19
  clear h
  have h := hj4
  clear hj4
  refine lv_if_lt (tgt := 18) C.1.1 C.1.2.1 dX11_isDown_11 (by decide) (fun hc6 => ?_) (fun hc6 => ?_)
  · replace h := ite_t hc6 h
    refine lv_iconst (v := 0) C.1.1 C.1.2.1 dX11_isDown_18 (by decide) ?_
    obtain rfl := inj1 h
    exact kJ3 _ _ _ hW (lv_sub hl [] rfl)
  · replace h := ite_f hc6 h
    refine lv_iconst (v := 1) C.1.1 C.1.2.1 dX11_isDown_14 (by decide) ?_
    refine lv_goto (tgt := 19) C.1.1 C.1.2.1 dX11_isDown_15 (by decide) ?_
    obtain rfl := inj1 h
    exact kJ3 _ _ _ hW (lv_sub hl [] rfl)
def f_X11_feed (a1 : Int32) (I : MI) (L : ML) : Option (Int32 × MI) :=
  bd1 (f_X11_in a1.toInt64 (0 : Int64) (255 : Int64)) (fun r1 => (if r1 = 0 then some (((-1 : Int32), I)) else (if (I 244 7) = (90 : Int32) then some (((-3 : Int32), I)) else gi (I 244 7) 90 (nm (up2 I 250 ((I 244 7).toNatClampNeg) a1) (fun I6 => nm (up2 I6 244 7 ((I6 244 7) + (1 : Int32))) (fun I7 => some (I7 244 7, I7)))))))
set_option maxHeartbeats 4000000 in
set_option maxRecDepth 100000 in
theorem c_X11_feed (g : Gp) (l : Launch) {a1 : Int32}  {I : MI} {L : ML} {r : Int32} {I' : MI} (h : f_X11_feed a1 I L = some (r, I')) : MetI g l yX11_feed cX11_feed 2 .int 1 [.ref (g.1 + 244), .int a1] I L r I' L := by
  unfold f_X11_feed at h
  refine w_enter (by decide) (Nat.le_of_ble_eq_true rfl) (own := RX11) rfl ?_
  intro p e s m below meth c args Q hQ C hr hlocks hW ls hl
  have hl : lv_has ls 2 [(0, .ref (g.1 + 244)), (1, .int a1)] := hl
  refine lv_iload_n C.1.1 C.1.2.1 dX11_feed_0 rfl (lv_at hl 1 rfl) ?_
  refine lv_i2l C.1.1 C.1.2.1 dX11_feed_1 rfl ?_
  refine lv_lconst (v := 0) C.1.1 C.1.2.1 dX11_feed_2 (by decide) ?_
  refine lv_ldc2 C.1.1 C.1.2.1 C.1.2.2.2.1 (C.1.2.2.2.2 _ kl_X11_46) dX11_feed_3 ?_
  obtain ⟨r1, hc2, h⟩ := bd1_some h
  refine w_callSi (k := 3) (As := [.long a1.toInt64, .long (0 : Int64), .long (255 : Int64)]) (rest := []) C hW (c_X11_in g l  hc2 I L) K_X11_42 (by decide +kernel) ⟨by decide, by decide⟩ ⟨Nat.le_refl _, Nat.le_refl _⟩ rfl hl.1 rfl (Nat.le_of_ble_eq_true rfl) dX11_feed_6 (fun H locs hW => ?_)
  refine lv_if_ne (tgt := 14) C.1.1 C.1.2.1 dX11_feed_9 (by decide) (fun hc3 => ?_) (fun hc3 => ?_)
  · replace h := ite_f hc3 h
    refine lv_aload_n C.1.1 C.1.2.1 dX11_feed_14 rfl (lv_at hl 0 rfl) ?_
    refine G_X11_48 C hW (by decide) dX11_feed_15 ?_
    refine lv_bipush (v := 90) C.1.1 C.1.2.1 dX11_feed_18 (by decide) ?_
    refine lv_icmp_ne (tgt := 26) C.1.1 C.1.2.1 dX11_feed_20 (by decide) (fun hc4 => ?_) (fun hc4 => ?_)
    · replace h := ite_f hc4 h
      refine lv_aload_n C.1.1 C.1.2.1 dX11_feed_26 rfl (lv_at hl 0 rfl) ?_
      refine G_X11_27 C hW (by decide) dX11_feed_27 ?_
      refine lv_aload_n C.1.1 C.1.2.1 dX11_feed_30 rfl (lv_at hl 0 rfl) ?_
      refine G_X11_48 C hW (by decide) dX11_feed_31 ?_
      refine lv_iload_n C.1.1 C.1.2.1 dX11_feed_34 rfl (lv_at hl 1 rfl) ?_
      obtain ⟨hi5, h⟩ := gi_some h
      refine w_iast C hW (n := 90) (by decide) (by decide) hi5 dX11_feed_35 (fun H locs hW => ?_)
      obtain ⟨I6, eI6, h⟩ := nm_some h
      rw [← eI6] at hW
      clear eI6
      refine lv_aload_n C.1.1 C.1.2.1 dX11_feed_36 rfl (lv_at hl 0 rfl) ?_
      refine lv_dup C.1.1 C.1.2.1 dX11_feed_37 rfl ?_
      refine G_X11_48 C hW (by decide) dX11_feed_38 ?_
      refine lv_iconst (v := 1) C.1.1 C.1.2.1 dX11_feed_41 (by decide) ?_
      refine lv_iadd C.1.1 C.1.2.1 dX11_feed_42 ?_
      refine P_X11_48 C hW (by decide) dX11_feed_43 (fun H locs hW => ?_)
      obtain ⟨I7, eI7, h⟩ := nm_some h
      rw [← eI7] at hW
      clear eI7
      refine lv_aload_n C.1.1 C.1.2.1 dX11_feed_46 rfl (lv_at hl 0 rfl) ?_
      refine G_X11_48 C hW (by decide) dX11_feed_47 ?_
      obtain ⟨rfl, rfl⟩ := inj2 h
      subst hQ
      exact w_iret C hW hr hlocks dX11_feed_50
    · replace h := ite_t hc4 h
      refine lv_bipush (v := -3) C.1.1 C.1.2.1 dX11_feed_23 (by decide) ?_
      obtain ⟨rfl, rfl⟩ := inj2 h
      subst hQ
      exact w_iret C hW hr hlocks dX11_feed_25
  · replace h := ite_t hc3 h
    refine lv_iconst (v := -1) C.1.1 C.1.2.1 dX11_feed_12 (by decide) ?_
    obtain ⟨rfl, rfl⟩ := inj2 h
    subst hQ
    exact w_iret C hW hr hlocks dX11_feed_13
def f_X11_byteAt (a1 : Int32) (I : MI) (L : ML) : Option (Int32) :=
  bd1 ((if (I 244 7) ≤ a1 then some (-1 : Int32) else gi a1 90 (some (I 250 a1.toNatClampNeg)))) (fun y1 => some y1)
set_option maxHeartbeats 4000000 in
set_option maxRecDepth 100000 in
theorem c_X11_byteAt (g : Gp) (l : Launch) {a1 : Int32}  {I : MI} {L : ML} {r : Int32} (h : f_X11_byteAt a1 I L = some r) : MetI g l yX11_byteAt cX11_byteAt 2 .int 0 [.ref (g.1 + 244), .int a1] I L r I L := by
  unfold f_X11_byteAt at h
  refine w_enter (by decide) (Nat.le_of_ble_eq_true rfl) (own := RX11) rfl ?_
  intro p e s m below meth c args Q hQ C hr hlocks hW ls hl
  have hl : lv_has ls 2 [(0, .ref (g.1 + 244)), (1, .int a1)] := hl
  refine lv_iload_n C.1.1 C.1.2.1 dX11_byteAt_0 rfl (lv_at hl 1 rfl) ?_
  refine lv_aload_n C.1.1 C.1.2.1 dX11_byteAt_1 rfl (lv_at hl 0 rfl) ?_
  refine G_X11_48 C hW (by decide) dX11_byteAt_2 ?_
  obtain ⟨y1, hj3, h⟩ := bd1_some h
  have kJ2 : ∀ (H : Heap) (locs : List Loc) (ls : Array Slot), Ws g s I L H locs → lv_has ls 2 [] → W p l e (rmD 0) s m args below meth c H locs 0 0 Q (F0 m 18 ls [.int y1]) := by
    intro H locs ls hW hl
    obtain rfl := inj1 h
    subst hQ
    exact w_iret C hW hr hlocks dX11_byteAt_18
  clear h
  have h := hj3
  clear hj3
  refine lv_icmp_ge (tgt := 17) C.1.1 C.1.2.1 dX11_byteAt_5 (by decide) (fun hc4 => ?_) (fun hc4 => ?_)
  · replace h := ite_t hc4 h
    refine lv_iconst (v := -1) C.1.1 C.1.2.1 dX11_byteAt_17 (by decide) ?_
    obtain rfl := inj1 h
    exact kJ2 _ _ _ hW (lv_sub hl [] rfl)
  · replace h := ite_f hc4 h
    refine lv_aload_n C.1.1 C.1.2.1 dX11_byteAt_8 rfl (lv_at hl 0 rfl) ?_
    refine G_X11_27 C hW (by decide) dX11_byteAt_9 ?_
    refine lv_iload_n C.1.1 C.1.2.1 dX11_byteAt_12 rfl (lv_at hl 1 rfl) ?_
    obtain ⟨hi5, h⟩ := gi_some h
    refine w_iald C hW (n := 90) (by decide) (by decide) hi5 dX11_byteAt_13 ?_
    refine lv_goto (tgt := 18) C.1.1 C.1.2.1 dX11_byteAt_14 (by decide) ?_
    obtain rfl := inj1 h
    exact kJ2 _ _ _ hW (lv_sub hl [] rfl)
def f_X11_fails (a1 : Int32) (I : MI) (L : ML) : Option (Int32 × MI) :=
  nm (up2 I 244 10 a1) (fun I1 => some (((0 : Int32), I1)))
set_option maxHeartbeats 4000000 in
set_option maxRecDepth 100000 in
theorem c_X11_fails (g : Gp) (l : Launch) {a1 : Int32}  {I : MI} {L : ML} {r : Int32} {I' : MI} (h : f_X11_fails a1 I L = some (r, I')) : MetI g l yX11_fails cX11_fails 2 .boolean 0 [.ref (g.1 + 244), .int a1] I L r I' L := by
  unfold f_X11_fails at h
  refine w_enter (by decide) (Nat.le_of_ble_eq_true rfl) (own := RX11) rfl ?_
  intro p e s m below meth c args Q hQ C hr hlocks hW ls hl
  have hl : lv_has ls 2 [(0, .ref (g.1 + 244)), (1, .int a1)] := hl
  refine lv_aload_n C.1.1 C.1.2.1 dX11_fails_0 rfl (lv_at hl 0 rfl) ?_
  refine lv_iload_n C.1.1 C.1.2.1 dX11_fails_1 rfl (lv_at hl 1 rfl) ?_
  refine P_X11_52 C hW (by decide) dX11_fails_2 (fun H locs hW => ?_)
  obtain ⟨I1, eI1, h⟩ := nm_some h
  rw [← eI1] at hW
  clear eI1
  refine lv_iconst (v := 0) C.1.1 C.1.2.1 dX11_fails_5 (by decide) ?_
  obtain ⟨rfl, rfl⟩ := inj2 h
  subst hQ
  exact w_zret C hW hr hlocks (by decide) dX11_fails_6
def f_X11_takes (a1 : Int32) (I : MI) (L : ML) : Option (Int32 × MI) :=
  bd1 (f_X11_byteAt (I 244 8) I L) (fun r1 => (if r1 = a1 then nm (up2 I 244 8 ((I 244 8) + (1 : Int32))) (fun I4 => some (((1 : Int32), I4))) else bd2 (f_X11_fails (I 244 8) I L) (fun r5 I6 => gd (r5 = 0 ∨ r5 = 1) (some (r5, I6)))))
set_option maxHeartbeats 4000000 in
set_option maxRecDepth 100000 in
theorem c_X11_takes (g : Gp) (l : Launch) {a1 : Int32}  {I : MI} {L : ML} {r : Int32} {I' : MI} (h : f_X11_takes a1 I L = some (r, I')) : MetI g l yX11_takes cX11_takes 2 .boolean 1 [.ref (g.1 + 244), .int a1] I L r I' L := by
  unfold f_X11_takes at h
  refine w_enter (by decide) (Nat.le_of_ble_eq_true rfl) (own := RX11) rfl ?_
  intro p e s m below meth c args Q hQ C hr hlocks hW ls hl
  have hl : lv_has ls 2 [(0, .ref (g.1 + 244)), (1, .int a1)] := hl
  refine lv_aload_n C.1.1 C.1.2.1 dX11_takes_0 rfl (lv_at hl 0 rfl) ?_
  refine lv_aload_n C.1.1 C.1.2.1 dX11_takes_1 rfl (lv_at hl 0 rfl) ?_
  refine G_X11_55 C hW (by decide) dX11_takes_2 ?_
  obtain ⟨r1, hc2, h⟩ := bd1_some h
  refine w_callVi (k := 1) (As := [.int (I 244 8)]) (rest := []) C hW (c_X11_byteAt g l  hc2) (by decide) rfl (EX_11 (by decide)) K_X11_58 (by decide +kernel) ⟨by decide, by decide⟩ ⟨Nat.le_refl _, Nat.le_refl _⟩ rfl hl.1 rfl (Nat.le_of_ble_eq_true rfl) dX11_takes_5 (fun H locs hW => ?_)
  refine lv_iload_n C.1.1 C.1.2.1 dX11_takes_8 rfl (lv_at hl 1 rfl) ?_
  refine lv_icmp_eq (tgt := 21) C.1.1 C.1.2.1 dX11_takes_9 (by decide) (fun hc3 => ?_) (fun hc3 => ?_)
  · replace h := ite_t hc3 h
    refine lv_aload_n C.1.1 C.1.2.1 dX11_takes_21 rfl (lv_at hl 0 rfl) ?_
    refine lv_dup C.1.1 C.1.2.1 dX11_takes_22 rfl ?_
    refine G_X11_55 C hW (by decide) dX11_takes_23 ?_
    refine lv_iconst (v := 1) C.1.1 C.1.2.1 dX11_takes_26 (by decide) ?_
    refine lv_iadd C.1.1 C.1.2.1 dX11_takes_27 ?_
    refine P_X11_55 C hW (by decide) dX11_takes_28 (fun H locs hW => ?_)
    obtain ⟨I4, eI4, h⟩ := nm_some h
    rw [← eI4] at hW
    clear eI4
    refine lv_iconst (v := 1) C.1.1 C.1.2.1 dX11_takes_31 (by decide) ?_
    obtain ⟨rfl, rfl⟩ := inj2 h
    subst hQ
    exact w_zret C hW hr hlocks (by decide) dX11_takes_32
  · replace h := ite_f hc3 h
    refine lv_aload_n C.1.1 C.1.2.1 dX11_takes_12 rfl (lv_at hl 0 rfl) ?_
    refine lv_aload_n C.1.1 C.1.2.1 dX11_takes_13 rfl (lv_at hl 0 rfl) ?_
    refine G_X11_55 C hW (by decide) dX11_takes_14 ?_
    obtain ⟨r5, I6, hc7, h⟩ := bd2_some h
    refine w_callVi (k := 1) (As := [.int (I 244 8)]) (rest := []) C hW (c_X11_fails g l  hc7) (by decide) rfl (EX_11 (by decide)) K_X11_62 (by decide +kernel) ⟨by decide, by decide⟩ ⟨Nat.le_refl _, Nat.le_refl _⟩ rfl hl.1 rfl (Nat.le_of_ble_eq_true rfl) dX11_takes_17 (fun H locs hW => ?_)
    obtain ⟨hb8, h⟩ := gd_some h
    obtain ⟨rfl, rfl⟩ := inj2 h
    subst hQ
    exact w_zret C hW hr hlocks hb8 dX11_takes_20
def b_X11_takesNumber_11 (v1 : Int32) (v2 : Int32) (v3 : Int32) (v4 : Int32) (L : ML)  (I : MI) : Option ((MI) ⊕ ((MI))) :=
  bd1 (f_X11_byteAt (I 244 8) I L) (fun r3 => bd1 (f_X11_in r3.toInt64 (48 : Int64) (57 : Int64)) (fun r5 => (if r5 = 0 then some (Sum.inr I) else bd1 ((if (2 : Int32) ≤ ((I 244 8) - v4) then some (I 244 9) else bd1 (f_X11_byteAt (I 244 8) I L) (fun r14 => some ((((10 : Int32) * (I 244 9)) + r14) - (48 : Int32))))) (fun y8 => nm (up2 I 244 9 y8) (fun I11 => nm (up2 I11 244 8 ((I11 244 8) + (1 : Int32))) (fun I12 => some (Sum.inl I12)))))))
set_option maxHeartbeats 4000000 in
set_option maxRecDepth 100000 in
theorem l_X11_takesNumber_11 {g : Gp} {p : Program} {l : Launch} {e : Env} {s : State} {m : MethodId} {args : Array Value} {below : List Frame} {meth : Method} {c : Code} {Q : State → Prop}  (C : Cx g p s m args c RX11 cX11_takesNumber 5) (v1 : Int32) (v2 : Int32) (v3 : Int32) (v4 : Int32)  (L : ML) : ∀ (n : Nat)  (I : MI) (Iy0 : MI), lp (fun s => b_X11_takesNumber_11 v1 v2 v3 v4 L s) n I = some Iy0 → ∀ (H : Heap) (locs : List Loc) (ls : Array Slot), Ws g s I L H locs → lv_has ls 5 [(0, .ref (g.1 + 244)), (1, .int v1), (2, .int v2), (3, .int v3), (4, .int v4)] → (∀ (H : Heap) (locs : List Loc) (ls : Array Slot), Ws g s Iy0 L H locs → lv_has ls 5 [(0, .ref (g.1 + 244)), (1, .int v1), (2, .int v2), (3, .int v3), (4, .int v4)] → W p l e (rmD 2) s m args below meth c H locs 0 0 Q (F0 m 86 ls [])) → W p l e (rmD 2) s m args below meth c H locs 0 0 Q (F0 m 11 ls []) := by
  intro n
  induction n with
  | zero => intro  I Iy0 h; exact lp_zero h
  | succ n ih =>
      intro  I Iy0 h H locs ls hW hl hx0
      obtain ⟨r9, h, h9⟩ := lp_some h
      have h : b_X11_takesNumber_11 v1 v2 v3 v4 L  I = some r9 := h
      unfold b_X11_takesNumber_11 at h
      refine lv_aload_n C.1.1 C.1.2.1 dX11_takesNumber_11 rfl (lv_at hl 0 rfl) ?_
      refine lv_aload_n C.1.1 C.1.2.1 dX11_takesNumber_12 rfl (lv_at hl 0 rfl) ?_
      refine G_X11_55 C hW (by decide) dX11_takesNumber_13 ?_
      obtain ⟨r3, hc4, h⟩ := bd1_some h
      refine w_callVi (k := 1) (As := [.int (I 244 8)]) (rest := []) C hW (c_X11_byteAt g l  hc4) (by decide) rfl (EX_11 (by decide)) K_X11_58 (by decide +kernel) ⟨by decide, by decide⟩ ⟨Nat.le_refl _, Nat.le_refl _⟩ rfl hl.1 rfl (Nat.le_of_ble_eq_true rfl) dX11_takesNumber_16 (fun H locs hW => ?_)
      refine lv_i2l C.1.1 C.1.2.1 dX11_takesNumber_19 rfl ?_
      refine lv_ldc2 C.1.1 C.1.2.1 C.1.2.2.2.1 (C.1.2.2.2.2 _ kl_X11_69) dX11_takesNumber_20 ?_
      refine lv_ldc2 C.1.1 C.1.2.1 C.1.2.2.2.1 (C.1.2.2.2.2 _ kl_X11_71) dX11_takesNumber_23 ?_
      obtain ⟨r5, hc6, h⟩ := bd1_some h
      refine w_callSi (k := 3) (As := [.long r3.toInt64, .long (48 : Int64), .long (57 : Int64)]) (rest := []) C hW (c_X11_in g l  hc6 I L) K_X11_42 (by decide +kernel) ⟨by decide, by decide⟩ ⟨Nat.le_refl _, Nat.le_refl _⟩ rfl hl.1 rfl (Nat.le_of_ble_eq_true rfl) dX11_takesNumber_26 (fun H locs hW => ?_)
      refine lv_if_eq (tgt := 86) C.1.1 C.1.2.1 dX11_takesNumber_29 (by decide) (fun hc7 => ?_) (fun hc7 => ?_)
      · replace h := ite_t hc7 h
        obtain rfl := Option.some.inj h
        replace h9 := Option.some.inj h9
        obtain rfl := pnj1 h9
        exact hx0 _ _ _ hW (lv_sub hl [0, 1, 2, 3, 4] rfl)
      · replace h := ite_f hc7 h
        refine lv_aload_n C.1.1 C.1.2.1 dX11_takesNumber_32 rfl (lv_at hl 0 rfl) ?_
        refine lv_aload_n C.1.1 C.1.2.1 dX11_takesNumber_33 rfl (lv_at hl 0 rfl) ?_
        refine G_X11_55 C hW (by decide) dX11_takesNumber_34 ?_
        refine lv_iload C.1.1 C.1.2.1 dX11_takesNumber_37 (lv_at hl 4 rfl) ?_
        refine lv_isub C.1.1 C.1.2.1 dX11_takesNumber_39 ?_
        refine lv_iconst (v := 2) C.1.1 C.1.2.1 dX11_takesNumber_40 (by decide) ?_
        obtain ⟨y8, hj10, h⟩ := bd1_some h
        have kJ9 : ∀ (H : Heap) (locs : List Loc) (ls : Array Slot), Ws g s I L H locs → lv_has ls 5 [(0, .ref (g.1 + 244)), (1, .int v1), (2, .int v2), (3, .int v3), (4, .int v4)] → W p l e (rmD 2) s m args below meth c H locs 0 0 Q (F0 m 70 ls [.int y8, .ref (g.1 + 244)]) := by
          intro H locs ls hW hl
          refine P_X11_66 C hW (by decide) dX11_takesNumber_70 (fun H locs hW => ?_)
          obtain ⟨I11, eI11, h⟩ := nm_some h
          rw [← eI11] at hW
          clear eI11
          refine lv_aload_n C.1.1 C.1.2.1 dX11_takesNumber_73 rfl (lv_at hl 0 rfl) ?_
          refine lv_dup C.1.1 C.1.2.1 dX11_takesNumber_74 rfl ?_
          refine G_X11_55 C hW (by decide) dX11_takesNumber_75 ?_
          refine lv_iconst (v := 1) C.1.1 C.1.2.1 dX11_takesNumber_78 (by decide) ?_
          refine lv_iadd C.1.1 C.1.2.1 dX11_takesNumber_79 ?_
          refine P_X11_55 C hW (by decide) dX11_takesNumber_80 (fun H locs hW => ?_)
          obtain ⟨I12, eI12, h⟩ := nm_some h
          rw [← eI12] at hW
          clear eI12
          refine lv_goto (tgt := 11) C.1.1 C.1.2.1 dX11_takesNumber_83 (by decide) ?_
          obtain rfl := Option.some.inj h
          exact ih _ _ h9 _ _ _ hW (lv_sub hl [0, 1, 2, 3, 4] rfl) hx0
        clear h
        have h := hj10
        clear hj10
        refine lv_icmp_ge (tgt := 66) C.1.1 C.1.2.1 dX11_takesNumber_41 (by decide) (fun hc13 => ?_) (fun hc13 => ?_)
        · replace h := ite_t hc13 h
          refine lv_aload_n C.1.1 C.1.2.1 dX11_takesNumber_66 rfl (lv_at hl 0 rfl) ?_
          refine G_X11_66 C hW (by decide) dX11_takesNumber_67 ?_
          obtain rfl := inj1 h
          exact kJ9 _ _ _ hW (lv_sub hl [0, 1, 2, 3, 4] rfl)
        · replace h := ite_f hc13 h
          refine lv_bipush (v := 10) C.1.1 C.1.2.1 dX11_takesNumber_44 (by decide) ?_
          refine lv_aload_n C.1.1 C.1.2.1 dX11_takesNumber_46 rfl (lv_at hl 0 rfl) ?_
          refine G_X11_66 C hW (by decide) dX11_takesNumber_47 ?_
          refine lv_imul C.1.1 C.1.2.1 dX11_takesNumber_50 ?_
          refine lv_aload_n C.1.1 C.1.2.1 dX11_takesNumber_51 rfl (lv_at hl 0 rfl) ?_
          refine lv_aload_n C.1.1 C.1.2.1 dX11_takesNumber_52 rfl (lv_at hl 0 rfl) ?_
          refine G_X11_55 C hW (by decide) dX11_takesNumber_53 ?_
          obtain ⟨r14, hc15, h⟩ := bd1_some h
          refine w_callVi (k := 1) (As := [.int (I 244 8)]) (rest := [.int ((10 : Int32) * (I 244 9)), .ref (g.1 + 244)]) C hW (c_X11_byteAt g l  hc15) (by decide) rfl (EX_11 (by decide)) K_X11_58 (by decide +kernel) ⟨by decide, by decide⟩ ⟨Nat.le_refl _, Nat.le_refl _⟩ rfl hl.1 rfl (Nat.le_of_ble_eq_true rfl) dX11_takesNumber_56 (fun H locs hW => ?_)
          refine lv_iadd C.1.1 C.1.2.1 dX11_takesNumber_59 ?_
          refine lv_bipush (v := 48) C.1.1 C.1.2.1 dX11_takesNumber_60 (by decide) ?_
          refine lv_isub C.1.1 C.1.2.1 dX11_takesNumber_62 ?_
          refine lv_goto (tgt := 70) C.1.1 C.1.2.1 dX11_takesNumber_63 (by decide) ?_
          obtain rfl := inj1 h
          exact kJ9 _ _ _ hW (lv_sub hl [0, 1, 2, 3, 4] rfl)
def f_X11_takesNumber (a1 : Int32) (a2 : Int32) (a3 : Int32) (I : MI) (L : ML) : Option (Int32 × MI) :=
  nm (I 244 8) (fun x1 => nm (up2 I 244 9 (0 : Int32)) (fun I2 => bd1 (lp (fun s => b_X11_takesNumber_11 a1 a2 a3 x1 L s) FU I2) (fun I17 => (if (I17 244 8) = x1 then bd2 (f_X11_fails x1 I17 L) (fun r19 I20 => gd (r19 = 0 ∨ r19 = 1) (some (r19, I20))) else (if (2 : Int32) < ((I17 244 8) - x1) then bd2 (f_X11_fails x1 I17 L) (fun r24 I25 => gd (r24 = 0 ∨ r24 = 1) (some (r24, I25))) else bd1 (f_X11_in ((I17 244 9).toInt64) a1.toInt64 a2.toInt64) (fun r28 => (if r28 = 0 then bd2 (f_X11_fails x1 I17 L) (fun r35 I36 => gd (r35 = 0 ∨ r35 = 1) (some (r35, I36))) else bd2 (f_X11_takes a3 I17 L) (fun r31 I32 => gd (r31 = 0 ∨ r31 = 1) (some (r31, I32))))))))))
set_option maxHeartbeats 4000000 in
set_option maxRecDepth 100000 in
theorem c_X11_takesNumber (g : Gp) (l : Launch) {a1 : Int32} {a2 : Int32} {a3 : Int32}  {I : MI} {L : ML} {r : Int32} {I' : MI} (h : f_X11_takesNumber a1 a2 a3 I L = some (r, I')) : MetI g l yX11_takesNumber cX11_takesNumber 5 .boolean 2 [.ref (g.1 + 244), .int a1, .int a2, .int a3] I L r I' L := by
  unfold f_X11_takesNumber at h
  refine w_enter (by decide) (Nat.le_of_ble_eq_true rfl) (own := RX11) rfl ?_
  intro p e s m below meth c args Q hQ C hr hlocks hW ls hl
  have hl : lv_has ls 5 [(0, .ref (g.1 + 244)), (1, .int a1), (2, .int a2), (3, .int a3)] := hl
  refine lv_aload_n C.1.1 C.1.2.1 dX11_takesNumber_0 rfl (lv_at hl 0 rfl) ?_
  refine G_X11_55 C hW (by decide) dX11_takesNumber_1 ?_
  refine lv_topi (fun x1 ex1 => ?_)
  replace h := nm_at ex1 h
  clear ex1
  refine lv_istore (lv' := [(4, .int x1), (0, .ref (g.1 + 244)), (1, .int a1), (2, .int a2), (3, .int a3)]) C.1.1 C.1.2.1 dX11_takesNumber_4 hl (by decide) rfl (fun ls hl => ?_)
  refine lv_aload_n C.1.1 C.1.2.1 dX11_takesNumber_6 rfl (lv_at hl 1 rfl) ?_
  refine lv_iconst (v := 0) C.1.1 C.1.2.1 dX11_takesNumber_7 (by decide) ?_
  refine P_X11_66 C hW (by decide) dX11_takesNumber_8 (fun H locs hW => ?_)
  obtain ⟨I2, eI2, h⟩ := nm_some h
  rw [← eI2] at hW
  clear eI2
  obtain ⟨I17, hq16, h⟩ := bd1_some h
  refine l_X11_takesNumber_11 C a1 a2 a3 x1  L _ _ _ hq16 _ _ _ hW (lv_sub hl [1, 2, 3, 4, 0] rfl) (fun H locs ls hW hl => ?_)
  refine lv_aload_n C.1.1 C.1.2.1 dX11_takesNumber_86 rfl (lv_at hl 0 rfl) ?_
  refine G_X11_55 C hW (by decide) dX11_takesNumber_87 ?_
  refine lv_iload C.1.1 C.1.2.1 dX11_takesNumber_90 (lv_at hl 4 rfl) ?_
  refine lv_icmp_eq (tgt := 121) C.1.1 C.1.2.1 dX11_takesNumber_92 (by decide) (fun hc18 => ?_) (fun hc18 => ?_)
  · replace h := ite_t hc18 h
    refine lv_aload_n C.1.1 C.1.2.1 dX11_takesNumber_121 rfl (lv_at hl 0 rfl) ?_
    refine lv_iload C.1.1 C.1.2.1 dX11_takesNumber_122 (lv_at hl 4 rfl) ?_
    obtain ⟨r19, I20, hc21, h⟩ := bd2_some h
    refine w_callVi (k := 1) (As := [.int x1]) (rest := []) C hW (c_X11_fails g l  hc21) (by decide) rfl (EX_11 (by decide)) K_X11_62 (by decide +kernel) ⟨by decide, by decide⟩ ⟨Nat.le_refl _, Nat.le_refl _⟩ rfl hl.1 rfl (Nat.le_of_ble_eq_true rfl) dX11_takesNumber_124 (fun H locs hW => ?_)
    obtain ⟨hb22, h⟩ := gd_some h
    obtain ⟨rfl, rfl⟩ := inj2 h
    subst hQ
    exact w_zret C hW hr hlocks hb22 dX11_takesNumber_127
  · replace h := ite_f hc18 h
    refine lv_aload_n C.1.1 C.1.2.1 dX11_takesNumber_95 rfl (lv_at hl 0 rfl) ?_
    refine G_X11_55 C hW (by decide) dX11_takesNumber_96 ?_
    refine lv_iload C.1.1 C.1.2.1 dX11_takesNumber_99 (lv_at hl 4 rfl) ?_
    refine lv_isub C.1.1 C.1.2.1 dX11_takesNumber_101 ?_
    refine lv_iconst (v := 2) C.1.1 C.1.2.1 dX11_takesNumber_102 (by decide) ?_
    refine lv_icmp_gt (tgt := 121) C.1.1 C.1.2.1 dX11_takesNumber_103 (by decide) (fun hc23 => ?_) (fun hc23 => ?_)
    · replace h := ite_t hc23 h
      refine lv_aload_n C.1.1 C.1.2.1 dX11_takesNumber_121 rfl (lv_at hl 0 rfl) ?_
      refine lv_iload C.1.1 C.1.2.1 dX11_takesNumber_122 (lv_at hl 4 rfl) ?_
      obtain ⟨r24, I25, hc26, h⟩ := bd2_some h
      refine w_callVi (k := 1) (As := [.int x1]) (rest := []) C hW (c_X11_fails g l  hc26) (by decide) rfl (EX_11 (by decide)) K_X11_62 (by decide +kernel) ⟨by decide, by decide⟩ ⟨Nat.le_refl _, Nat.le_refl _⟩ rfl hl.1 rfl (Nat.le_of_ble_eq_true rfl) dX11_takesNumber_124 (fun H locs hW => ?_)
      obtain ⟨hb27, h⟩ := gd_some h
      obtain ⟨rfl, rfl⟩ := inj2 h
      subst hQ
      exact w_zret C hW hr hlocks hb27 dX11_takesNumber_127
    · replace h := ite_f hc23 h
      refine lv_aload_n C.1.1 C.1.2.1 dX11_takesNumber_106 rfl (lv_at hl 0 rfl) ?_
      refine G_X11_66 C hW (by decide) dX11_takesNumber_107 ?_
      refine lv_i2l C.1.1 C.1.2.1 dX11_takesNumber_110 rfl ?_
      refine lv_iload_n C.1.1 C.1.2.1 dX11_takesNumber_111 rfl (lv_at hl 1 rfl) ?_
      refine lv_i2l C.1.1 C.1.2.1 dX11_takesNumber_112 rfl ?_
      refine lv_iload_n C.1.1 C.1.2.1 dX11_takesNumber_113 rfl (lv_at hl 2 rfl) ?_
      refine lv_i2l C.1.1 C.1.2.1 dX11_takesNumber_114 rfl ?_
      obtain ⟨r28, hc29, h⟩ := bd1_some h
      refine w_callSi (k := 3) (As := [.long ((I17 244 9).toInt64), .long a1.toInt64, .long a2.toInt64]) (rest := []) C hW (c_X11_in g l  hc29 I17 L) K_X11_42 (by decide +kernel) ⟨by decide, by decide⟩ ⟨Nat.le_refl _, Nat.le_refl _⟩ rfl hl.1 rfl (Nat.le_of_ble_eq_true rfl) dX11_takesNumber_115 (fun H locs hW => ?_)
      refine lv_if_ne (tgt := 128) C.1.1 C.1.2.1 dX11_takesNumber_118 (by decide) (fun hc30 => ?_) (fun hc30 => ?_)
      · replace h := ite_f hc30 h
        refine lv_aload_n C.1.1 C.1.2.1 dX11_takesNumber_128 rfl (lv_at hl 0 rfl) ?_
        refine lv_iload_n C.1.1 C.1.2.1 dX11_takesNumber_129 rfl (lv_at hl 3 rfl) ?_
        obtain ⟨r31, I32, hc33, h⟩ := bd2_some h
        refine w_callVi (k := 1) (As := [.int a3]) (rest := []) C hW (c_X11_takes g l  hc33) (by decide) rfl (EX_11 (by decide)) K_X11_73 (by decide +kernel) ⟨by decide, by decide⟩ ⟨Nat.le_refl _, Nat.le_refl _⟩ rfl hl.1 rfl (Nat.le_of_ble_eq_true rfl) dX11_takesNumber_130 (fun H locs hW => ?_)
        obtain ⟨hb34, h⟩ := gd_some h
        obtain ⟨rfl, rfl⟩ := inj2 h
        subst hQ
        exact w_zret C hW hr hlocks hb34 dX11_takesNumber_133
      · replace h := ite_t hc30 h
        refine lv_aload_n C.1.1 C.1.2.1 dX11_takesNumber_121 rfl (lv_at hl 0 rfl) ?_
        refine lv_iload C.1.1 C.1.2.1 dX11_takesNumber_122 (lv_at hl 4 rfl) ?_
        obtain ⟨r35, I36, hc37, h⟩ := bd2_some h
        refine w_callVi (k := 1) (As := [.int x1]) (rest := []) C hW (c_X11_fails g l  hc37) (by decide) rfl (EX_11 (by decide)) K_X11_62 (by decide +kernel) ⟨by decide, by decide⟩ ⟨Nat.le_refl _, Nat.le_refl _⟩ rfl hl.1 rfl (Nat.le_of_ble_eq_true rfl) dX11_takesNumber_124 (fun H locs hW => ?_)
        obtain ⟨hb38, h⟩ := gd_some h
        obtain ⟨rfl, rfl⟩ := inj2 h
        subst hQ
        exact w_zret C hW hr hlocks hb38 dX11_takesNumber_127
def f_X11_kindBy (a1 : Int32) : Option (Int32) :=
  bd1 ((if a1 = (112 : Int32) then some (1 : Int32) else (if a1 = (104 : Int32) then some (2 : Int32) else (if a1 = (109 : Int32) then some (3 : Int32) else (if a1 = (121 : Int32) then some (4 : Int32) else (if a1 = (115 : Int32) then some (5 : Int32) else some (0 : Int32))))))) (fun y1 => some y1)
set_option maxHeartbeats 4000000 in
set_option maxRecDepth 100000 in
theorem c_X11_kindBy (g : Gp) (l : Launch) {a1 : Int32}  {r : Int32} (h : f_X11_kindBy a1 = some r) (I : MI) (L : ML) : MetI g l yX11_kindBy cX11_kindBy 1 .int 0 [.int a1] I L r I L := by
  unfold f_X11_kindBy at h
  refine w_enter (by decide) (Nat.le_of_ble_eq_true rfl) (own := RX11) rfl ?_
  intro p e s m below meth c args Q hQ C hr hlocks hW ls hl
  have hl : lv_has ls 1 [(0, .int a1)] := hl
  refine lv_iload_n C.1.1 C.1.2.1 dX11_kindBy_0 rfl (lv_at hl 0 rfl) ?_
  refine lv_bipush (v := 112) C.1.1 C.1.2.1 dX11_kindBy_1 (by decide) ?_
  obtain ⟨y1, hj3, h⟩ := bd1_some h
  have kJ2 : ∀ (H : Heap) (locs : List Loc) (ls : Array Slot), Ws g s I L H locs → lv_has ls 1 [] → W p l e (rmD 0) s m args below meth c H locs 0 0 Q (F0 m 51 ls [.int y1]) := by
    intro H locs ls hW hl
    obtain rfl := inj1 h
    subst hQ
    exact w_iret C hW hr hlocks dX11_kindBy_51
  clear h
  have h := hj3
  clear hj3
  refine lv_icmp_ne (tgt := 10) C.1.1 C.1.2.1 dX11_kindBy_3 (by decide) (fun hc4 => ?_) (fun hc4 => ?_)
  · replace h := ite_f hc4 h
    refine lv_iload_n C.1.1 C.1.2.1 dX11_kindBy_10 rfl (lv_at hl 0 rfl) ?_
    refine lv_bipush (v := 104) C.1.1 C.1.2.1 dX11_kindBy_11 (by decide) ?_
    refine lv_icmp_ne (tgt := 20) C.1.1 C.1.2.1 dX11_kindBy_13 (by decide) (fun hc5 => ?_) (fun hc5 => ?_)
    · replace h := ite_f hc5 h
      refine lv_iload_n C.1.1 C.1.2.1 dX11_kindBy_20 rfl (lv_at hl 0 rfl) ?_
      refine lv_bipush (v := 109) C.1.1 C.1.2.1 dX11_kindBy_21 (by decide) ?_
      refine lv_icmp_ne (tgt := 30) C.1.1 C.1.2.1 dX11_kindBy_23 (by decide) (fun hc6 => ?_) (fun hc6 => ?_)
      · replace h := ite_f hc6 h
        refine lv_iload_n C.1.1 C.1.2.1 dX11_kindBy_30 rfl (lv_at hl 0 rfl) ?_
        refine lv_bipush (v := 121) C.1.1 C.1.2.1 dX11_kindBy_31 (by decide) ?_
        refine lv_icmp_ne (tgt := 40) C.1.1 C.1.2.1 dX11_kindBy_33 (by decide) (fun hc7 => ?_) (fun hc7 => ?_)
        · replace h := ite_f hc7 h
          refine lv_iload_n C.1.1 C.1.2.1 dX11_kindBy_40 rfl (lv_at hl 0 rfl) ?_
          refine lv_bipush (v := 115) C.1.1 C.1.2.1 dX11_kindBy_41 (by decide) ?_
          refine lv_icmp_ne (tgt := 50) C.1.1 C.1.2.1 dX11_kindBy_43 (by decide) (fun hc8 => ?_) (fun hc8 => ?_)
          · replace h := ite_f hc8 h
            refine lv_iconst (v := 0) C.1.1 C.1.2.1 dX11_kindBy_50 (by decide) ?_
            obtain rfl := inj1 h
            exact kJ2 _ _ _ hW (lv_sub hl [] rfl)
          · replace h := ite_t hc8 h
            refine lv_iconst (v := 5) C.1.1 C.1.2.1 dX11_kindBy_46 (by decide) ?_
            refine lv_goto (tgt := 51) C.1.1 C.1.2.1 dX11_kindBy_47 (by decide) ?_
            obtain rfl := inj1 h
            exact kJ2 _ _ _ hW (lv_sub hl [] rfl)
        · replace h := ite_t hc7 h
          refine lv_iconst (v := 4) C.1.1 C.1.2.1 dX11_kindBy_36 (by decide) ?_
          refine lv_goto (tgt := 51) C.1.1 C.1.2.1 dX11_kindBy_37 (by decide) ?_
          obtain rfl := inj1 h
          exact kJ2 _ _ _ hW (lv_sub hl [] rfl)
      · replace h := ite_t hc6 h
        refine lv_iconst (v := 3) C.1.1 C.1.2.1 dX11_kindBy_26 (by decide) ?_
        refine lv_goto (tgt := 51) C.1.1 C.1.2.1 dX11_kindBy_27 (by decide) ?_
        obtain rfl := inj1 h
        exact kJ2 _ _ _ hW (lv_sub hl [] rfl)
    · replace h := ite_t hc5 h
      refine lv_iconst (v := 2) C.1.1 C.1.2.1 dX11_kindBy_16 (by decide) ?_
      refine lv_goto (tgt := 51) C.1.1 C.1.2.1 dX11_kindBy_17 (by decide) ?_
      obtain rfl := inj1 h
      exact kJ2 _ _ _ hW (lv_sub hl [] rfl)
  · replace h := ite_t hc4 h
    refine lv_iconst (v := 1) C.1.1 C.1.2.1 dX11_kindBy_6 (by decide) ?_
    refine lv_goto (tgt := 51) C.1.1 C.1.2.1 dX11_kindBy_7 (by decide) ?_
    obtain rfl := inj1 h
    exact kJ2 _ _ _ hW (lv_sub hl [] rfl)
def f_X11_takesSitter  (I : MI) (L : ML) : Option (Int32 × MI) :=
  gi (220 : Int32) 1752 (nm (I 245 (220 : Int32).toNatClampNeg) (fun x2 => bd1 (f_X11_byteAt (I 244 8) I L) (fun r3 => bd1 (f_X11_kindBy r3) (fun r5 => (if r5 = 0 then bd2 (f_X11_fails (I 244 8) I L) (fun r8 I9 => gd (r8 = 0 ∨ r8 = 1) (some (r8, I9))) else (if x2 = (6 : Int32) then bd2 (f_X11_fails (I 244 8) I L) (fun r48 I49 => gd (r48 = 0 ∨ r48 = 1) (some (r48, I49))) else nm (up2 I 244 8 ((I 244 8) + (1 : Int32))) (fun I13 => gi ((226 : Int32) + x2) 1752 (nm (up2 I13 245 (((226 : Int32) + x2).toNatClampNeg) r5) (fun I15 => gi (222 : Int32) 1752 (gi ((262 : Int32) + x2) 1752 (nm (up2 I15 245 (((262 : Int32) + x2).toNatClampNeg) (I15 245 (222 : Int32).toNatClampNeg)) (fun I18 => gi ((286 : Int32) + x2) 1752 (nm (up2 I18 245 (((286 : Int32) + x2).toNatClampNeg) (-1 : Int32)) (fun I20 => bd2 (f_X11_takesNumber (10 : Int32) (99 : Int32) (44 : Int32) I20 L) (fun r21 I22 => (if r21 = 0 then some (((0 : Int32), I22)) else gi ((232 : Int32) + x2) 1752 (nm (up2 I22 245 (((232 : Int32) + x2).toNatClampNeg) (I22 244 9)) (fun I26 => bd2 (f_X11_takesNumber (0 : Int32) (9 : Int32) (44 : Int32) I26 L) (fun r27 I28 => (if r27 = 0 then some (((0 : Int32), I28)) else gi ((238 : Int32) + x2) 1752 (nm (up2 I28 245 (((238 : Int32) + x2).toNatClampNeg) (I28 244 9)) (fun I32 => bd2 (f_X11_takesNumber (0 : Int32) (9 : Int32) (44 : Int32) I32 L) (fun r33 I34 => (if r33 = 0 then some (((0 : Int32), I34)) else gi ((244 : Int32) + x2) 1752 (nm (up2 I34 245 (((244 : Int32) + x2).toNatClampNeg) (I34 244 9)) (fun I38 => bd2 (f_X11_takesNumber (0 : Int32) (9 : Int32) (59 : Int32) I38 L) (fun r39 I40 => (if r39 = 0 then some (((0 : Int32), I40)) else gi ((250 : Int32) + x2) 1752 (nm (up2 I40 245 (((250 : Int32) + x2).toNatClampNeg) (I40 244 9)) (fun I44 => gi (220 : Int32) 1752 (gi (220 : Int32) 1752 (nm (up2 I44 245 ((220 : Int32).toNatClampNeg) ((I44 245 (220 : Int32).toNatClampNeg) + (1 : Int32))) (fun I47 => some (((1 : Int32), I47)))))))))))))))))))))))))))))))))))
set_option maxHeartbeats 4000000 in
set_option maxRecDepth 100000 in
theorem c_X11_takesSitter (g : Gp) (l : Launch)   {I : MI} {L : ML} {r : Int32} {I' : MI} (h : f_X11_takesSitter  I L = some (r, I')) : MetI g l yX11_takesSitter cX11_takesSitter 3 .boolean 3 [.ref (g.1 + 244)] I L r I' L := by
  unfold f_X11_takesSitter at h
  refine w_enter (by decide) (Nat.le_of_ble_eq_true rfl) (own := RX11) rfl ?_
  intro p e s m below meth c args Q hQ C hr hlocks hW ls hl
  have hl : lv_has ls 3 [(0, .ref (g.1 + 244))] := hl
  refine lv_aload_n C.1.1 C.1.2.1 dX11_takesSitter_0 rfl (lv_at hl 0 rfl) ?_
  refine G_X11_7 C hW (by decide) dX11_takesSitter_1 ?_
  refine lv_sipush (v := 220) C.1.1 C.1.2.1 dX11_takesSitter_4 (by decide) ?_
  obtain ⟨hi1, h⟩ := gi_some h
  refine w_iald C hW (n := 1752) (by decide) (by decide) hi1 dX11_takesSitter_7 ?_
  refine lv_topi (fun x2 ex2 => ?_)
  replace h := nm_at ex2 h
  clear ex2
  refine lv_istore_n (lv' := [(1, .int x2), (0, .ref (g.1 + 244))]) C.1.1 C.1.2.1 dX11_takesSitter_8 rfl hl (by decide) rfl (fun ls hl => ?_)
  refine lv_aload_n C.1.1 C.1.2.1 dX11_takesSitter_9 rfl (lv_at hl 1 rfl) ?_
  refine lv_aload_n C.1.1 C.1.2.1 dX11_takesSitter_10 rfl (lv_at hl 1 rfl) ?_
  refine G_X11_55 C hW (by decide) dX11_takesSitter_11 ?_
  obtain ⟨r3, hc4, h⟩ := bd1_some h
  refine w_callVi (k := 1) (As := [.int (I 244 8)]) (rest := []) C hW (c_X11_byteAt g l  hc4) (by decide) rfl (EX_11 (by decide)) K_X11_58 (by decide +kernel) ⟨by decide, by decide⟩ ⟨Nat.le_refl _, Nat.le_refl _⟩ rfl hl.1 rfl (Nat.le_of_ble_eq_true rfl) dX11_takesSitter_14 (fun H locs hW => ?_)
  obtain ⟨r5, hc6, h⟩ := bd1_some h
  refine w_callSi (k := 1) (As := [.int r3]) (rest := []) C hW (c_X11_kindBy g l  hc6 I L) K_X11_76 (by decide +kernel) ⟨by decide, by decide⟩ ⟨Nat.le_refl _, Nat.le_refl _⟩ rfl hl.1 rfl (Nat.le_of_ble_eq_true rfl) dX11_takesSitter_17 (fun H locs hW => ?_)
  refine lv_istore_n (lv' := [(2, .int r5), (1, .int x2), (0, .ref (g.1 + 244))]) C.1.1 C.1.2.1 dX11_takesSitter_20 rfl hl (by decide) rfl (fun ls hl => ?_)
  refine lv_iload_n C.1.1 C.1.2.1 dX11_takesSitter_21 rfl (lv_at hl 0 rfl) ?_
  refine lv_if_eq (tgt := 31) C.1.1 C.1.2.1 dX11_takesSitter_22 (by decide) (fun hc7 => ?_) (fun hc7 => ?_)
  · replace h := ite_t hc7 h
    refine lv_aload_n C.1.1 C.1.2.1 dX11_takesSitter_31 rfl (lv_at hl 2 rfl) ?_
    refine lv_aload_n C.1.1 C.1.2.1 dX11_takesSitter_32 rfl (lv_at hl 2 rfl) ?_
    refine G_X11_55 C hW (by decide) dX11_takesSitter_33 ?_
    obtain ⟨r8, I9, hc10, h⟩ := bd2_some h
    refine w_callVi (k := 1) (As := [.int (I 244 8)]) (rest := []) C hW (c_X11_fails g l  hc10) (by decide) rfl (EX_11 (by decide)) K_X11_62 (by decide +kernel) ⟨by decide, by decide⟩ ⟨Nat.le_refl _, Nat.le_refl _⟩ rfl hl.1 rfl (Nat.le_of_ble_eq_true rfl) dX11_takesSitter_36 (fun H locs hW => ?_)
    obtain ⟨hb11, h⟩ := gd_some h
    obtain ⟨rfl, rfl⟩ := inj2 h
    subst hQ
    exact w_zret C hW hr hlocks hb11 dX11_takesSitter_39
  · replace h := ite_f hc7 h
    refine lv_iload_n C.1.1 C.1.2.1 dX11_takesSitter_25 rfl (lv_at hl 1 rfl) ?_
    refine lv_bipush (v := 6) C.1.1 C.1.2.1 dX11_takesSitter_26 (by decide) ?_
    refine lv_icmp_ne (tgt := 40) C.1.1 C.1.2.1 dX11_takesSitter_28 (by decide) (fun hc12 => ?_) (fun hc12 => ?_)
    · replace h := ite_f hc12 h
      refine lv_aload_n C.1.1 C.1.2.1 dX11_takesSitter_40 rfl (lv_at hl 2 rfl) ?_
      refine lv_dup C.1.1 C.1.2.1 dX11_takesSitter_41 rfl ?_
      refine G_X11_55 C hW (by decide) dX11_takesSitter_42 ?_
      refine lv_iconst (v := 1) C.1.1 C.1.2.1 dX11_takesSitter_45 (by decide) ?_
      refine lv_iadd C.1.1 C.1.2.1 dX11_takesSitter_46 ?_
      refine P_X11_55 C hW (by decide) dX11_takesSitter_47 (fun H locs hW => ?_)
      obtain ⟨I13, eI13, h⟩ := nm_some h
      rw [← eI13] at hW
      clear eI13
      refine lv_aload_n C.1.1 C.1.2.1 dX11_takesSitter_50 rfl (lv_at hl 2 rfl) ?_
      refine G_X11_7 C hW (by decide) dX11_takesSitter_51 ?_
      refine lv_sipush (v := 226) C.1.1 C.1.2.1 dX11_takesSitter_54 (by decide) ?_
      refine lv_iload_n C.1.1 C.1.2.1 dX11_takesSitter_57 rfl (lv_at hl 1 rfl) ?_
      refine lv_iadd C.1.1 C.1.2.1 dX11_takesSitter_58 ?_
      refine lv_iload_n C.1.1 C.1.2.1 dX11_takesSitter_59 rfl (lv_at hl 0 rfl) ?_
      obtain ⟨hi14, h⟩ := gi_some h
      refine w_iast C hW (n := 1752) (by decide) (by decide) hi14 dX11_takesSitter_60 (fun H locs hW => ?_)
      obtain ⟨I15, eI15, h⟩ := nm_some h
      rw [← eI15] at hW
      clear eI15
      refine lv_aload_n C.1.1 C.1.2.1 dX11_takesSitter_61 rfl (lv_at hl 2 rfl) ?_
      refine G_X11_7 C hW (by decide) dX11_takesSitter_62 ?_
      refine lv_sipush (v := 262) C.1.1 C.1.2.1 dX11_takesSitter_65 (by decide) ?_
      refine lv_iload_n C.1.1 C.1.2.1 dX11_takesSitter_68 rfl (lv_at hl 1 rfl) ?_
      refine lv_iadd C.1.1 C.1.2.1 dX11_takesSitter_69 ?_
      refine lv_aload_n C.1.1 C.1.2.1 dX11_takesSitter_70 rfl (lv_at hl 2 rfl) ?_
      refine G_X11_7 C hW (by decide) dX11_takesSitter_71 ?_
      refine lv_sipush (v := 222) C.1.1 C.1.2.1 dX11_takesSitter_74 (by decide) ?_
      obtain ⟨hi16, h⟩ := gi_some h
      refine w_iald C hW (n := 1752) (by decide) (by decide) hi16 dX11_takesSitter_77 ?_
      obtain ⟨hi17, h⟩ := gi_some h
      refine w_iast C hW (n := 1752) (by decide) (by decide) hi17 dX11_takesSitter_78 (fun H locs hW => ?_)
      obtain ⟨I18, eI18, h⟩ := nm_some h
      rw [← eI18] at hW
      clear eI18
      refine lv_aload_n C.1.1 C.1.2.1 dX11_takesSitter_79 rfl (lv_at hl 2 rfl) ?_
      refine G_X11_7 C hW (by decide) dX11_takesSitter_80 ?_
      refine lv_sipush (v := 286) C.1.1 C.1.2.1 dX11_takesSitter_83 (by decide) ?_
      refine lv_iload_n C.1.1 C.1.2.1 dX11_takesSitter_86 rfl (lv_at hl 1 rfl) ?_
      refine lv_iadd C.1.1 C.1.2.1 dX11_takesSitter_87 ?_
      refine lv_iconst (v := -1) C.1.1 C.1.2.1 dX11_takesSitter_88 (by decide) ?_
      obtain ⟨hi19, h⟩ := gi_some h
      refine w_iast C hW (n := 1752) (by decide) (by decide) hi19 dX11_takesSitter_89 (fun H locs hW => ?_)
      obtain ⟨I20, eI20, h⟩ := nm_some h
      rw [← eI20] at hW
      clear eI20
      refine lv_aload_n C.1.1 C.1.2.1 dX11_takesSitter_90 rfl (lv_at hl 2 rfl) ?_
      refine lv_bipush (v := 10) C.1.1 C.1.2.1 dX11_takesSitter_91 (by decide) ?_
      refine lv_bipush (v := 99) C.1.1 C.1.2.1 dX11_takesSitter_93 (by decide) ?_
      refine lv_bipush (v := 44) C.1.1 C.1.2.1 dX11_takesSitter_95 (by decide) ?_
      obtain ⟨r21, I22, hc23, h⟩ := bd2_some h
      refine w_callVi (k := 3) (As := [.int (10 : Int32), .int (99 : Int32), .int (44 : Int32)]) (rest := []) C hW (c_X11_takesNumber g l  hc23) (by decide) rfl (EX_11 (by decide)) K_X11_79 (by decide +kernel) ⟨by decide, by decide⟩ ⟨Nat.le_refl _, Nat.le_refl _⟩ rfl hl.1 rfl (Nat.le_of_ble_eq_true rfl) dX11_takesSitter_97 (fun H locs hW => ?_)
      refine lv_if_ne (tgt := 105) C.1.1 C.1.2.1 dX11_takesSitter_100 (by decide) (fun hc24 => ?_) (fun hc24 => ?_)
      · replace h := ite_f hc24 h
        refine lv_aload_n C.1.1 C.1.2.1 dX11_takesSitter_105 rfl (lv_at hl 2 rfl) ?_
        refine G_X11_7 C hW (by decide) dX11_takesSitter_106 ?_
        refine lv_sipush (v := 232) C.1.1 C.1.2.1 dX11_takesSitter_109 (by decide) ?_
        refine lv_iload_n C.1.1 C.1.2.1 dX11_takesSitter_112 rfl (lv_at hl 1 rfl) ?_
        refine lv_iadd C.1.1 C.1.2.1 dX11_takesSitter_113 ?_
        refine lv_aload_n C.1.1 C.1.2.1 dX11_takesSitter_114 rfl (lv_at hl 2 rfl) ?_
        refine G_X11_66 C hW (by decide) dX11_takesSitter_115 ?_
        obtain ⟨hi25, h⟩ := gi_some h
        refine w_iast C hW (n := 1752) (by decide) (by decide) hi25 dX11_takesSitter_118 (fun H locs hW => ?_)
        obtain ⟨I26, eI26, h⟩ := nm_some h
        rw [← eI26] at hW
        clear eI26
        refine lv_aload_n C.1.1 C.1.2.1 dX11_takesSitter_119 rfl (lv_at hl 2 rfl) ?_
        refine lv_iconst (v := 0) C.1.1 C.1.2.1 dX11_takesSitter_120 (by decide) ?_
        refine lv_bipush (v := 9) C.1.1 C.1.2.1 dX11_takesSitter_121 (by decide) ?_
        refine lv_bipush (v := 44) C.1.1 C.1.2.1 dX11_takesSitter_123 (by decide) ?_
        obtain ⟨r27, I28, hc29, h⟩ := bd2_some h
        refine w_callVi (k := 3) (As := [.int (0 : Int32), .int (9 : Int32), .int (44 : Int32)]) (rest := []) C hW (c_X11_takesNumber g l  hc29) (by decide) rfl (EX_11 (by decide)) K_X11_79 (by decide +kernel) ⟨by decide, by decide⟩ ⟨Nat.le_refl _, Nat.le_refl _⟩ rfl hl.1 rfl (Nat.le_of_ble_eq_true rfl) dX11_takesSitter_125 (fun H locs hW => ?_)
        refine lv_if_ne (tgt := 133) C.1.1 C.1.2.1 dX11_takesSitter_128 (by decide) (fun hc30 => ?_) (fun hc30 => ?_)
        · replace h := ite_f hc30 h
          refine lv_aload_n C.1.1 C.1.2.1 dX11_takesSitter_133 rfl (lv_at hl 2 rfl) ?_
          refine G_X11_7 C hW (by decide) dX11_takesSitter_134 ?_
          refine lv_sipush (v := 238) C.1.1 C.1.2.1 dX11_takesSitter_137 (by decide) ?_
          refine lv_iload_n C.1.1 C.1.2.1 dX11_takesSitter_140 rfl (lv_at hl 1 rfl) ?_
          refine lv_iadd C.1.1 C.1.2.1 dX11_takesSitter_141 ?_
          refine lv_aload_n C.1.1 C.1.2.1 dX11_takesSitter_142 rfl (lv_at hl 2 rfl) ?_
          refine G_X11_66 C hW (by decide) dX11_takesSitter_143 ?_
          obtain ⟨hi31, h⟩ := gi_some h
          refine w_iast C hW (n := 1752) (by decide) (by decide) hi31 dX11_takesSitter_146 (fun H locs hW => ?_)
          obtain ⟨I32, eI32, h⟩ := nm_some h
          rw [← eI32] at hW
          clear eI32
          refine lv_aload_n C.1.1 C.1.2.1 dX11_takesSitter_147 rfl (lv_at hl 2 rfl) ?_
          refine lv_iconst (v := 0) C.1.1 C.1.2.1 dX11_takesSitter_148 (by decide) ?_
          refine lv_bipush (v := 9) C.1.1 C.1.2.1 dX11_takesSitter_149 (by decide) ?_
          refine lv_bipush (v := 44) C.1.1 C.1.2.1 dX11_takesSitter_151 (by decide) ?_
          obtain ⟨r33, I34, hc35, h⟩ := bd2_some h
          refine w_callVi (k := 3) (As := [.int (0 : Int32), .int (9 : Int32), .int (44 : Int32)]) (rest := []) C hW (c_X11_takesNumber g l  hc35) (by decide) rfl (EX_11 (by decide)) K_X11_79 (by decide +kernel) ⟨by decide, by decide⟩ ⟨Nat.le_refl _, Nat.le_refl _⟩ rfl hl.1 rfl (Nat.le_of_ble_eq_true rfl) dX11_takesSitter_153 (fun H locs hW => ?_)
          refine lv_if_ne (tgt := 161) C.1.1 C.1.2.1 dX11_takesSitter_156 (by decide) (fun hc36 => ?_) (fun hc36 => ?_)
          · replace h := ite_f hc36 h
            refine lv_aload_n C.1.1 C.1.2.1 dX11_takesSitter_161 rfl (lv_at hl 2 rfl) ?_
            refine G_X11_7 C hW (by decide) dX11_takesSitter_162 ?_
            refine lv_sipush (v := 244) C.1.1 C.1.2.1 dX11_takesSitter_165 (by decide) ?_
            refine lv_iload_n C.1.1 C.1.2.1 dX11_takesSitter_168 rfl (lv_at hl 1 rfl) ?_
            refine lv_iadd C.1.1 C.1.2.1 dX11_takesSitter_169 ?_
            refine lv_aload_n C.1.1 C.1.2.1 dX11_takesSitter_170 rfl (lv_at hl 2 rfl) ?_
            refine G_X11_66 C hW (by decide) dX11_takesSitter_171 ?_
            obtain ⟨hi37, h⟩ := gi_some h
            refine w_iast C hW (n := 1752) (by decide) (by decide) hi37 dX11_takesSitter_174 (fun H locs hW => ?_)
            obtain ⟨I38, eI38, h⟩ := nm_some h
            rw [← eI38] at hW
            clear eI38
            refine lv_aload_n C.1.1 C.1.2.1 dX11_takesSitter_175 rfl (lv_at hl 2 rfl) ?_
            refine lv_iconst (v := 0) C.1.1 C.1.2.1 dX11_takesSitter_176 (by decide) ?_
            refine lv_bipush (v := 9) C.1.1 C.1.2.1 dX11_takesSitter_177 (by decide) ?_
            refine lv_bipush (v := 59) C.1.1 C.1.2.1 dX11_takesSitter_179 (by decide) ?_
            obtain ⟨r39, I40, hc41, h⟩ := bd2_some h
            refine w_callVi (k := 3) (As := [.int (0 : Int32), .int (9 : Int32), .int (59 : Int32)]) (rest := []) C hW (c_X11_takesNumber g l  hc41) (by decide) rfl (EX_11 (by decide)) K_X11_79 (by decide +kernel) ⟨by decide, by decide⟩ ⟨Nat.le_refl _, Nat.le_refl _⟩ rfl hl.1 rfl (Nat.le_of_ble_eq_true rfl) dX11_takesSitter_181 (fun H locs hW => ?_)
            refine lv_if_ne (tgt := 189) C.1.1 C.1.2.1 dX11_takesSitter_184 (by decide) (fun hc42 => ?_) (fun hc42 => ?_)
            · replace h := ite_f hc42 h
              refine lv_aload_n C.1.1 C.1.2.1 dX11_takesSitter_189 rfl (lv_at hl 2 rfl) ?_
              refine G_X11_7 C hW (by decide) dX11_takesSitter_190 ?_
              refine lv_sipush (v := 250) C.1.1 C.1.2.1 dX11_takesSitter_193 (by decide) ?_
              refine lv_iload_n C.1.1 C.1.2.1 dX11_takesSitter_196 rfl (lv_at hl 1 rfl) ?_
              refine lv_iadd C.1.1 C.1.2.1 dX11_takesSitter_197 ?_
              refine lv_aload_n C.1.1 C.1.2.1 dX11_takesSitter_198 rfl (lv_at hl 2 rfl) ?_
              refine G_X11_66 C hW (by decide) dX11_takesSitter_199 ?_
              obtain ⟨hi43, h⟩ := gi_some h
              refine w_iast C hW (n := 1752) (by decide) (by decide) hi43 dX11_takesSitter_202 (fun H locs hW => ?_)
              obtain ⟨I44, eI44, h⟩ := nm_some h
              rw [← eI44] at hW
              clear eI44
              refine lv_aload_n C.1.1 C.1.2.1 dX11_takesSitter_203 rfl (lv_at hl 2 rfl) ?_
              refine G_X11_7 C hW (by decide) dX11_takesSitter_204 ?_
              refine lv_sipush (v := 220) C.1.1 C.1.2.1 dX11_takesSitter_207 (by decide) ?_
              refine lv_dup2_11 C.1.1 C.1.2.1 dX11_takesSitter_210 rfl rfl ?_
              obtain ⟨hi45, h⟩ := gi_some h
              refine w_iald C hW (n := 1752) (by decide) (by decide) hi45 dX11_takesSitter_211 ?_
              refine lv_iconst (v := 1) C.1.1 C.1.2.1 dX11_takesSitter_212 (by decide) ?_
              refine lv_iadd C.1.1 C.1.2.1 dX11_takesSitter_213 ?_
              obtain ⟨hi46, h⟩ := gi_some h
              refine w_iast C hW (n := 1752) (by decide) (by decide) hi46 dX11_takesSitter_214 (fun H locs hW => ?_)
              obtain ⟨I47, eI47, h⟩ := nm_some h
              rw [← eI47] at hW
              clear eI47
              refine lv_iconst (v := 1) C.1.1 C.1.2.1 dX11_takesSitter_215 (by decide) ?_
              obtain ⟨rfl, rfl⟩ := inj2 h
              subst hQ
              exact w_zret C hW hr hlocks (by decide) dX11_takesSitter_216
            · replace h := ite_t hc42 h
              refine lv_iconst (v := 0) C.1.1 C.1.2.1 dX11_takesSitter_187 (by decide) ?_
              obtain ⟨rfl, rfl⟩ := inj2 h
              subst hQ
              exact w_zret C hW hr hlocks (by decide) dX11_takesSitter_188
          · replace h := ite_t hc36 h
            refine lv_iconst (v := 0) C.1.1 C.1.2.1 dX11_takesSitter_159 (by decide) ?_
            obtain ⟨rfl, rfl⟩ := inj2 h
            subst hQ
            exact w_zret C hW hr hlocks (by decide) dX11_takesSitter_160
        · replace h := ite_t hc30 h
          refine lv_iconst (v := 0) C.1.1 C.1.2.1 dX11_takesSitter_131 (by decide) ?_
          obtain ⟨rfl, rfl⟩ := inj2 h
          subst hQ
          exact w_zret C hW hr hlocks (by decide) dX11_takesSitter_132
      · replace h := ite_t hc24 h
        refine lv_iconst (v := 0) C.1.1 C.1.2.1 dX11_takesSitter_103 (by decide) ?_
        obtain ⟨rfl, rfl⟩ := inj2 h
        subst hQ
        exact w_zret C hW hr hlocks (by decide) dX11_takesSitter_104
    · replace h := ite_t hc12 h
      refine lv_aload_n C.1.1 C.1.2.1 dX11_takesSitter_31 rfl (lv_at hl 2 rfl) ?_
      refine lv_aload_n C.1.1 C.1.2.1 dX11_takesSitter_32 rfl (lv_at hl 2 rfl) ?_
      refine G_X11_55 C hW (by decide) dX11_takesSitter_33 ?_
      obtain ⟨r48, I49, hc50, h⟩ := bd2_some h
      refine w_callVi (k := 1) (As := [.int (I 244 8)]) (rest := []) C hW (c_X11_fails g l  hc50) (by decide) rfl (EX_11 (by decide)) K_X11_62 (by decide +kernel) ⟨by decide, by decide⟩ ⟨Nat.le_refl _, Nat.le_refl _⟩ rfl hl.1 rfl (Nat.le_of_ble_eq_true rfl) dX11_takesSitter_36 (fun H locs hW => ?_)
      obtain ⟨hb51, h⟩ := gd_some h
      obtain ⟨rfl, rfl⟩ := inj2 h
      subst hQ
      exact w_zret C hW hr hlocks hb51 dX11_takesSitter_39
def f_X11_takesWall  (I : MI) (L : ML) : Option (Int32 × MI) :=
  bd2 (f_X11_takes (119 : Int32) I L) (fun r1 I2 => (if r1 = 0 then some (((0 : Int32), I2)) else bd2 (f_X11_takesNumber (1 : Int32) (24 : Int32) (44 : Int32) I2 L) (fun r5 I6 => (if r5 = 0 then some (((0 : Int32), I6)) else gi (221 : Int32) 1752 (nm (up2 I6 245 ((221 : Int32).toNatClampNeg) (I6 244 9)) (fun I10 => bd2 (f_X11_takesNumber (0 : Int32) (9 : Int32) (59 : Int32) I10 L) (fun r11 I12 => (if r11 = 0 then some (((0 : Int32), I12)) else gi (222 : Int32) 1752 (nm (up2 I12 245 ((222 : Int32).toNatClampNeg) (I12 244 9)) (fun I16 => some (((1 : Int32), I16))))))))))))
set_option maxHeartbeats 4000000 in
set_option maxRecDepth 100000 in
theorem c_X11_takesWall (g : Gp) (l : Launch)   {I : MI} {L : ML} {r : Int32} {I' : MI} (h : f_X11_takesWall  I L = some (r, I')) : MetI g l yX11_takesWall cX11_takesWall 1 .boolean 3 [.ref (g.1 + 244)] I L r I' L := by
  unfold f_X11_takesWall at h
  refine w_enter (by decide) (Nat.le_of_ble_eq_true rfl) (own := RX11) rfl ?_
  intro p e s m below meth c args Q hQ C hr hlocks hW ls hl
  have hl : lv_has ls 1 [(0, .ref (g.1 + 244))] := hl
  refine lv_aload_n C.1.1 C.1.2.1 dX11_takesWall_0 rfl (lv_at hl 0 rfl) ?_
  refine lv_bipush (v := 119) C.1.1 C.1.2.1 dX11_takesWall_1 (by decide) ?_
  obtain ⟨r1, I2, hc3, h⟩ := bd2_some h
  refine w_callVi (k := 1) (As := [.int (119 : Int32)]) (rest := []) C hW (c_X11_takes g l  hc3) (by decide) rfl (EX_11 (by decide)) K_X11_73 (by decide +kernel) ⟨by decide, by decide⟩ ⟨Nat.le_refl _, Nat.le_refl _⟩ rfl hl.1 rfl (Nat.le_of_ble_eq_true rfl) dX11_takesWall_3 (fun H locs hW => ?_)
  refine lv_if_eq (tgt := 21) C.1.1 C.1.2.1 dX11_takesWall_6 (by decide) (fun hc4 => ?_) (fun hc4 => ?_)
  · replace h := ite_t hc4 h
    refine lv_iconst (v := 0) C.1.1 C.1.2.1 dX11_takesWall_21 (by decide) ?_
    obtain ⟨rfl, rfl⟩ := inj2 h
    subst hQ
    exact w_zret C hW hr hlocks (by decide) dX11_takesWall_22
  · replace h := ite_f hc4 h
    refine lv_aload_n C.1.1 C.1.2.1 dX11_takesWall_9 rfl (lv_at hl 0 rfl) ?_
    refine lv_iconst (v := 1) C.1.1 C.1.2.1 dX11_takesWall_10 (by decide) ?_
    refine lv_bipush (v := 24) C.1.1 C.1.2.1 dX11_takesWall_11 (by decide) ?_
    refine lv_bipush (v := 44) C.1.1 C.1.2.1 dX11_takesWall_13 (by decide) ?_
    obtain ⟨r5, I6, hc7, h⟩ := bd2_some h
    refine w_callVi (k := 3) (As := [.int (1 : Int32), .int (24 : Int32), .int (44 : Int32)]) (rest := []) C hW (c_X11_takesNumber g l  hc7) (by decide) rfl (EX_11 (by decide)) K_X11_79 (by decide +kernel) ⟨by decide, by decide⟩ ⟨Nat.le_refl _, Nat.le_refl _⟩ rfl hl.1 rfl (Nat.le_of_ble_eq_true rfl) dX11_takesWall_15 (fun H locs hW => ?_)
    refine lv_if_ne (tgt := 23) C.1.1 C.1.2.1 dX11_takesWall_18 (by decide) (fun hc8 => ?_) (fun hc8 => ?_)
    · replace h := ite_f hc8 h
      refine lv_aload_n C.1.1 C.1.2.1 dX11_takesWall_23 rfl (lv_at hl 0 rfl) ?_
      refine G_X11_7 C hW (by decide) dX11_takesWall_24 ?_
      refine lv_sipush (v := 221) C.1.1 C.1.2.1 dX11_takesWall_27 (by decide) ?_
      refine lv_aload_n C.1.1 C.1.2.1 dX11_takesWall_30 rfl (lv_at hl 0 rfl) ?_
      refine G_X11_66 C hW (by decide) dX11_takesWall_31 ?_
      obtain ⟨hi9, h⟩ := gi_some h
      refine w_iast C hW (n := 1752) (by decide) (by decide) hi9 dX11_takesWall_34 (fun H locs hW => ?_)
      obtain ⟨I10, eI10, h⟩ := nm_some h
      rw [← eI10] at hW
      clear eI10
      refine lv_aload_n C.1.1 C.1.2.1 dX11_takesWall_35 rfl (lv_at hl 0 rfl) ?_
      refine lv_iconst (v := 0) C.1.1 C.1.2.1 dX11_takesWall_36 (by decide) ?_
      refine lv_bipush (v := 9) C.1.1 C.1.2.1 dX11_takesWall_37 (by decide) ?_
      refine lv_bipush (v := 59) C.1.1 C.1.2.1 dX11_takesWall_39 (by decide) ?_
      obtain ⟨r11, I12, hc13, h⟩ := bd2_some h
      refine w_callVi (k := 3) (As := [.int (0 : Int32), .int (9 : Int32), .int (59 : Int32)]) (rest := []) C hW (c_X11_takesNumber g l  hc13) (by decide) rfl (EX_11 (by decide)) K_X11_79 (by decide +kernel) ⟨by decide, by decide⟩ ⟨Nat.le_refl _, Nat.le_refl _⟩ rfl hl.1 rfl (Nat.le_of_ble_eq_true rfl) dX11_takesWall_41 (fun H locs hW => ?_)
      refine lv_if_ne (tgt := 49) C.1.1 C.1.2.1 dX11_takesWall_44 (by decide) (fun hc14 => ?_) (fun hc14 => ?_)
      · replace h := ite_f hc14 h
        refine lv_aload_n C.1.1 C.1.2.1 dX11_takesWall_49 rfl (lv_at hl 0 rfl) ?_
        refine G_X11_7 C hW (by decide) dX11_takesWall_50 ?_
        refine lv_sipush (v := 222) C.1.1 C.1.2.1 dX11_takesWall_53 (by decide) ?_
        refine lv_aload_n C.1.1 C.1.2.1 dX11_takesWall_56 rfl (lv_at hl 0 rfl) ?_
        refine G_X11_66 C hW (by decide) dX11_takesWall_57 ?_
        obtain ⟨hi15, h⟩ := gi_some h
        refine w_iast C hW (n := 1752) (by decide) (by decide) hi15 dX11_takesWall_60 (fun H locs hW => ?_)
        obtain ⟨I16, eI16, h⟩ := nm_some h
        rw [← eI16] at hW
        clear eI16
        refine lv_iconst (v := 1) C.1.1 C.1.2.1 dX11_takesWall_61 (by decide) ?_
        obtain ⟨rfl, rfl⟩ := inj2 h
        subst hQ
        exact w_zret C hW hr hlocks (by decide) dX11_takesWall_62
      · replace h := ite_t hc14 h
        refine lv_iconst (v := 0) C.1.1 C.1.2.1 dX11_takesWall_47 (by decide) ?_
        obtain ⟨rfl, rfl⟩ := inj2 h
        subst hQ
        exact w_zret C hW hr hlocks (by decide) dX11_takesWall_48
    · replace h := ite_t hc8 h
      refine lv_iconst (v := 0) C.1.1 C.1.2.1 dX11_takesWall_21 (by decide) ?_
      obtain ⟨rfl, rfl⟩ := inj2 h
      subst hQ
      exact w_zret C hW hr hlocks (by decide) dX11_takesWall_22
def b_X11_wall_2  (L : ML) (z1 : Int32) (I : MI) : Option ((Int32 × MI) ⊕ ((MI))) :=
  (if (73 : Int32) ≤ z1 then some (Sum.inr I) else gi ((219 : Int32) + z1) 1752 (nm (up2 I 245 (((219 : Int32) + z1).toNatClampNeg) (0 : Int32)) (fun I3 => nm (z1 + (1 : Int32)) (fun x4 => some (Sum.inl (x4, I3))))))
set_option maxHeartbeats 4000000 in
set_option maxRecDepth 100000 in
theorem l_X11_wall_2 {g : Gp} {p : Program} {l : Launch} {e : Env} {s : State} {m : MethodId} {args : Array Value} {below : List Frame} {meth : Method} {c : Code} {Q : State → Prop}  (C : Cx g p s m args c RX11 cX11_wall 2)   (L : ML) : ∀ (n : Nat) (z1 : Int32) (I : MI) (Iy0 : MI), lp (fun s => b_X11_wall_2  L s.1 s.2) n (z1, I) = some Iy0 → ∀ (H : Heap) (locs : List Loc) (ls : Array Slot), Ws g s I L H locs → lv_has ls 2 [(0, .ref (g.1 + 244)), (1, .int z1)] → (∀ (H : Heap) (locs : List Loc) (ls : Array Slot), Ws g s Iy0 L H locs → lv_has ls 2 [(0, .ref (g.1 + 244))] → W p l e (rmD 4) s m args below meth c H locs 0 0 Q (F0 m 25 ls [])) → W p l e (rmD 4) s m args below meth c H locs 0 0 Q (F0 m 2 ls []) := by
  intro n
  induction n with
  | zero => intro z1 I Iy0 h; exact lp_zero h
  | succ n ih =>
      intro z1 I Iy0 h H locs ls hW hl hx0
      obtain ⟨r9, h, h9⟩ := lp_some h
      have h : b_X11_wall_2  L z1 I = some r9 := h
      unfold b_X11_wall_2 at h
      refine lv_iload_n C.1.1 C.1.2.1 dX11_wall_2 rfl (lv_at hl 1 rfl) ?_
      refine lv_bipush (v := 73) C.1.1 C.1.2.1 dX11_wall_3 (by decide) ?_
      refine lv_icmp_ge (tgt := 25) C.1.1 C.1.2.1 dX11_wall_5 (by decide) (fun hc1 => ?_) (fun hc1 => ?_)
      · replace h := ite_t hc1 h
        obtain rfl := Option.some.inj h
        replace h9 := Option.some.inj h9
        obtain rfl := pnj1 h9
        exact hx0 _ _ _ hW (lv_sub hl [0] rfl)
      · replace h := ite_f hc1 h
        refine lv_aload_n C.1.1 C.1.2.1 dX11_wall_8 rfl (lv_at hl 0 rfl) ?_
        refine G_X11_7 C hW (by decide) dX11_wall_9 ?_
        refine lv_sipush (v := 219) C.1.1 C.1.2.1 dX11_wall_12 (by decide) ?_
        refine lv_iload_n C.1.1 C.1.2.1 dX11_wall_15 rfl (lv_at hl 1 rfl) ?_
        refine lv_iadd C.1.1 C.1.2.1 dX11_wall_16 ?_
        refine lv_iconst (v := 0) C.1.1 C.1.2.1 dX11_wall_17 (by decide) ?_
        obtain ⟨hi2, h⟩ := gi_some h
        refine w_iast C hW (n := 1752) (by decide) (by decide) hi2 dX11_wall_18 (fun H locs hW => ?_)
        obtain ⟨I3, eI3, h⟩ := nm_some h
        rw [← eI3] at hW
        clear eI3
        obtain ⟨x4, ex4⟩ : ∃ y : Int32, y = z1 + (1 : Int32) := ⟨_, rfl⟩
        replace h := nm_at ex4 h
        refine lv_iinc (v := x4) (lv' := [(1, .int x4), (0, .ref (g.1 + 244))]) C.1.1 C.1.2.1 dX11_wall_19 hl (k := 1) rfl (by rw [ex4]; rfl) (by decide) rfl (fun ls hl => ?_)
        clear ex4
        refine lv_goto (tgt := 2) C.1.1 C.1.2.1 dX11_wall_22 (by decide) ?_
        obtain rfl := Option.some.inj h
        exact ih _ _ _ h9 _ _ _ hW (lv_sub hl [1, 0] rfl) hx0
def b_X11_wall_59  (L : ML) (z1 : Int32) (I : MI) : Option ((Int32 × MI) ⊕ ((Int32 × MI))) :=
  (if z1 = 0 then some (Sum.inr (z1, I)) else (if (I 244 8) < (I 244 7) then bd2 (f_X11_takesSitter  I L) (fun r18 I19 => some (Sum.inl (r18, I19))) else gi (220 : Int32) 1752 ((if (I 245 (220 : Int32).toNatClampNeg) = 0 then bd2 (f_X11_takesSitter  I L) (fun r23 I24 => some (Sum.inl (r23, I24))) else some (Sum.inr (z1, I))))))
set_option maxHeartbeats 4000000 in
set_option maxRecDepth 100000 in
theorem l_X11_wall_59 {g : Gp} {p : Program} {l : Launch} {e : Env} {s : State} {m : MethodId} {args : Array Value} {below : List Frame} {meth : Method} {c : Code} {Q : State → Prop}  (C : Cx g p s m args c RX11 cX11_wall 2)   (L : ML) : ∀ (n : Nat) (z1 : Int32) (I : MI) (y0_1 : Int32) (Iy0 : MI), lp (fun s => b_X11_wall_59  L s.1 s.2) n (z1, I) = some (y0_1, Iy0) → ∀ (H : Heap) (locs : List Loc) (ls : Array Slot), Ws g s I L H locs → lv_has ls 2 [(0, .ref (g.1 + 244)), (1, .int z1)] → (∀ (H : Heap) (locs : List Loc) (ls : Array Slot), Ws g s Iy0 L H locs → lv_has ls 2 [(0, .ref (g.1 + 244)), (1, .int y0_1)] → W p l e (rmD 4) s m args below meth c H locs 0 0 Q (F0 m 93 ls [])) → W p l e (rmD 4) s m args below meth c H locs 0 0 Q (F0 m 59 ls []) := by
  intro n
  induction n with
  | zero => intro z1 I y0_1 Iy0 h; exact lp_zero h
  | succ n ih =>
      intro z1 I y0_1 Iy0 h H locs ls hW hl hx0
      obtain ⟨r9, h, h9⟩ := lp_some h
      have h : b_X11_wall_59  L z1 I = some r9 := h
      unfold b_X11_wall_59 at h
      refine lv_iload_n C.1.1 C.1.2.1 dX11_wall_59 rfl (lv_at hl 1 rfl) ?_
      refine lv_if_eq (tgt := 93) C.1.1 C.1.2.1 dX11_wall_60 (by decide) (fun hc16 => ?_) (fun hc16 => ?_)
      · replace h := ite_t hc16 h
        obtain rfl := Option.some.inj h
        replace h9 := Option.some.inj h9
        obtain ⟨rfl, rfl⟩ := pnj2 h9
        exact hx0 _ _ _ hW (lv_sub hl [0, 1] rfl)
      · replace h := ite_f hc16 h
        refine lv_aload_n C.1.1 C.1.2.1 dX11_wall_63 rfl (lv_at hl 0 rfl) ?_
        refine G_X11_55 C hW (by decide) dX11_wall_64 ?_
        refine lv_aload_n C.1.1 C.1.2.1 dX11_wall_67 rfl (lv_at hl 0 rfl) ?_
        refine G_X11_48 C hW (by decide) dX11_wall_68 ?_
        refine lv_icmp_lt (tgt := 85) C.1.1 C.1.2.1 dX11_wall_71 (by decide) (fun hc17 => ?_) (fun hc17 => ?_)
        · replace h := ite_t hc17 h
          refine lv_aload_n C.1.1 C.1.2.1 dX11_wall_85 rfl (lv_at hl 0 rfl) ?_
          obtain ⟨r18, I19, hc20, h⟩ := bd2_some h
          refine w_callVi (k := 0) (As := []) (rest := []) C hW (c_X11_takesSitter g l  hc20) (by decide) rfl (EX_11 (by decide)) K_X11_87 (by decide +kernel) ⟨by decide, by decide⟩ ⟨Nat.le_refl _, Nat.le_refl _⟩ rfl hl.1 rfl (Nat.le_of_ble_eq_true rfl) dX11_wall_86 (fun H locs hW => ?_)
          refine lv_istore_n (lv' := [(1, .int r18), (0, .ref (g.1 + 244))]) C.1.1 C.1.2.1 dX11_wall_89 rfl hl (by decide) rfl (fun ls hl => ?_)
          refine lv_goto (tgt := 59) C.1.1 C.1.2.1 dX11_wall_90 (by decide) ?_
          obtain rfl := Option.some.inj h
          exact ih _ _ _ _ h9 _ _ _ hW (lv_sub hl [1, 0] rfl) hx0
        · replace h := ite_f hc17 h
          refine lv_aload_n C.1.1 C.1.2.1 dX11_wall_74 rfl (lv_at hl 0 rfl) ?_
          refine G_X11_7 C hW (by decide) dX11_wall_75 ?_
          refine lv_sipush (v := 220) C.1.1 C.1.2.1 dX11_wall_78 (by decide) ?_
          obtain ⟨hi21, h⟩ := gi_some h
          refine w_iald C hW (n := 1752) (by decide) (by decide) hi21 dX11_wall_81 ?_
          refine lv_if_ne (tgt := 93) C.1.1 C.1.2.1 dX11_wall_82 (by decide) (fun hc22 => ?_) (fun hc22 => ?_)
          · replace h := ite_f hc22 h
            obtain rfl := Option.some.inj h
            replace h9 := Option.some.inj h9
            obtain ⟨rfl, rfl⟩ := pnj2 h9
            exact hx0 _ _ _ hW (lv_sub hl [0, 1] rfl)
          · replace h := ite_t hc22 h
            refine lv_aload_n C.1.1 C.1.2.1 dX11_wall_85 rfl (lv_at hl 0 rfl) ?_
            obtain ⟨r23, I24, hc25, h⟩ := bd2_some h
            refine w_callVi (k := 0) (As := []) (rest := []) C hW (c_X11_takesSitter g l  hc25) (by decide) rfl (EX_11 (by decide)) K_X11_87 (by decide +kernel) ⟨by decide, by decide⟩ ⟨Nat.le_refl _, Nat.le_refl _⟩ rfl hl.1 rfl (Nat.le_of_ble_eq_true rfl) dX11_wall_86 (fun H locs hW => ?_)
            refine lv_istore_n (lv' := [(1, .int r23), (0, .ref (g.1 + 244))]) C.1.1 C.1.2.1 dX11_wall_89 rfl hl (by decide) rfl (fun ls hl => ?_)
            refine lv_goto (tgt := 59) C.1.1 C.1.2.1 dX11_wall_90 (by decide) ?_
            obtain rfl := Option.some.inj h
            exact ih _ _ _ _ h9 _ _ _ hW (lv_sub hl [1, 0] rfl) hx0
def f_X11_wall  (I : MI) (L : ML) : Option (Int32 × MI) :=
  bd1 (lp (fun s => b_X11_wall_2  L s.1 s.2) FU (((0 : Int32), I))) (fun I6 => gi (219 : Int32) 1752 (nm (up2 I6 245 ((219 : Int32).toNatClampNeg) (1 : Int32)) (fun I8 => gi (6 : Int32) 1752 (gi (225 : Int32) 1752 (nm (up2 I8 245 ((225 : Int32).toNatClampNeg) (I8 245 (6 : Int32).toNatClampNeg)) (fun I11 => nm (up2 I11 244 8 (0 : Int32)) (fun I12 => bd2 (f_X11_takesWall  I12 L) (fun r13 I14 => bd2 (lp (fun s => b_X11_wall_59  L s.1 s.2) FU (r13, I14)) (fun y27 I28 => nm (up2 I28 244 7 (0 : Int32)) (fun I29 => (if y27 = 0 then some (((-100 : Int32) - (I29 244 10), I29)) else bd1 (f_X11_copyRow (219 : Int32) (0 : Int32) I29 L) (fun I31 => nm (up2 I31 244 2 (0 : Int32)) (fun I33 => gi (1 : Int32) 1752 (some ((I33 245 (1 : Int32).toNatClampNeg, I33))))))))))))))))
set_option maxHeartbeats 4000000 in
set_option maxRecDepth 100000 in
theorem c_X11_wall (g : Gp) (l : Launch)   {I : MI} {L : ML} {r : Int32} {I' : MI} (h : f_X11_wall  I L = some (r, I')) : MetI g l yX11_wall cX11_wall 2 .int 4 [.ref (g.1 + 244)] I L r I' L := by
  unfold f_X11_wall at h
  refine w_enter (by decide) (Nat.le_of_ble_eq_true rfl) (own := RX11) rfl ?_
  intro p e s m below meth c args Q hQ C hr hlocks hW ls hl
  have hl : lv_has ls 2 [(0, .ref (g.1 + 244))] := hl
  refine lv_iconst (v := 0) C.1.1 C.1.2.1 dX11_wall_0 (by decide) ?_
  refine lv_istore_n (lv' := [(1, .int (0 : Int32)), (0, .ref (g.1 + 244))]) C.1.1 C.1.2.1 dX11_wall_1 rfl hl (by decide) rfl (fun ls hl => ?_)
  obtain ⟨I6, hq5, h⟩ := bd1_some h
  refine l_X11_wall_2 C   L _ _ _ _ hq5 _ _ _ hW (lv_sub hl [1, 0] rfl) (fun H locs ls hW hl => ?_)
  refine lv_aload_n C.1.1 C.1.2.1 dX11_wall_25 rfl (lv_at hl 0 rfl) ?_
  refine G_X11_7 C hW (by decide) dX11_wall_26 ?_
  refine lv_sipush (v := 219) C.1.1 C.1.2.1 dX11_wall_29 (by decide) ?_
  refine lv_iconst (v := 1) C.1.1 C.1.2.1 dX11_wall_32 (by decide) ?_
  obtain ⟨hi7, h⟩ := gi_some h
  refine w_iast C hW (n := 1752) (by decide) (by decide) hi7 dX11_wall_33 (fun H locs hW => ?_)
  obtain ⟨I8, eI8, h⟩ := nm_some h
  rw [← eI8] at hW
  clear eI8
  refine lv_aload_n C.1.1 C.1.2.1 dX11_wall_34 rfl (lv_at hl 0 rfl) ?_
  refine G_X11_7 C hW (by decide) dX11_wall_35 ?_
  refine lv_sipush (v := 225) C.1.1 C.1.2.1 dX11_wall_38 (by decide) ?_
  refine lv_aload_n C.1.1 C.1.2.1 dX11_wall_41 rfl (lv_at hl 0 rfl) ?_
  refine G_X11_7 C hW (by decide) dX11_wall_42 ?_
  refine lv_bipush (v := 6) C.1.1 C.1.2.1 dX11_wall_45 (by decide) ?_
  obtain ⟨hi9, h⟩ := gi_some h
  refine w_iald C hW (n := 1752) (by decide) (by decide) hi9 dX11_wall_47 ?_
  obtain ⟨hi10, h⟩ := gi_some h
  refine w_iast C hW (n := 1752) (by decide) (by decide) hi10 dX11_wall_48 (fun H locs hW => ?_)
  obtain ⟨I11, eI11, h⟩ := nm_some h
  rw [← eI11] at hW
  clear eI11
  refine lv_aload_n C.1.1 C.1.2.1 dX11_wall_49 rfl (lv_at hl 0 rfl) ?_
  refine lv_iconst (v := 0) C.1.1 C.1.2.1 dX11_wall_50 (by decide) ?_
  refine P_X11_55 C hW (by decide) dX11_wall_51 (fun H locs hW => ?_)
  obtain ⟨I12, eI12, h⟩ := nm_some h
  rw [← eI12] at hW
  clear eI12
  refine lv_aload_n C.1.1 C.1.2.1 dX11_wall_54 rfl (lv_at hl 0 rfl) ?_
  obtain ⟨r13, I14, hc15, h⟩ := bd2_some h
  refine w_callVi (k := 0) (As := []) (rest := []) C hW (c_X11_takesWall g l  hc15) (by decide) rfl (EX_11 (by decide)) K_X11_83 (by decide +kernel) ⟨by decide, by decide⟩ ⟨Nat.le_refl _, Nat.le_refl _⟩ rfl hl.1 rfl (Nat.le_of_ble_eq_true rfl) dX11_wall_55 (fun H locs hW => ?_)
  refine lv_istore_n (lv' := [(1, .int r13), (0, .ref (g.1 + 244))]) C.1.1 C.1.2.1 dX11_wall_58 rfl hl (by decide) rfl (fun ls hl => ?_)
  obtain ⟨y27, I28, hq26, h⟩ := bd2_some h
  refine l_X11_wall_59 C   L _ _ _ _ _ hq26 _ _ _ hW (lv_sub hl [1, 0] rfl) (fun H locs ls hW hl => ?_)
  refine lv_aload_n C.1.1 C.1.2.1 dX11_wall_93 rfl (lv_at hl 0 rfl) ?_
  refine lv_iconst (v := 0) C.1.1 C.1.2.1 dX11_wall_94 (by decide) ?_
  refine P_X11_48 C hW (by decide) dX11_wall_95 (fun H locs hW => ?_)
  obtain ⟨I29, eI29, h⟩ := nm_some h
  rw [← eI29] at hW
  clear eI29
  refine lv_iload_n C.1.1 C.1.2.1 dX11_wall_98 rfl (lv_at hl 1 rfl) ?_
  refine lv_if_ne (tgt := 110) C.1.1 C.1.2.1 dX11_wall_99 (by decide) (fun hc30 => ?_) (fun hc30 => ?_)
  · replace h := ite_f hc30 h
    refine lv_aload_n C.1.1 C.1.2.1 dX11_wall_110 rfl (lv_at hl 0 rfl) ?_
    refine lv_sipush (v := 219) C.1.1 C.1.2.1 dX11_wall_111 (by decide) ?_
    refine lv_iconst (v := 0) C.1.1 C.1.2.1 dX11_wall_114 (by decide) ?_
    obtain ⟨I31, hc32, h⟩ := bd1_some h
    refine w_callVv (k := 2) (As := [.int (219 : Int32), .int (0 : Int32)]) (rest := []) C hW (c_X11_copyRow g l  hc32) (by decide) rfl (EX_11 (by decide)) K_X11_90 (by decide +kernel) ⟨by decide, by decide⟩ ⟨Nat.le_refl _, Nat.le_refl _⟩ rfl hl.1 rfl (Nat.le_of_ble_eq_true rfl) dX11_wall_115 (fun H locs hW => ?_)
    refine lv_aload_n C.1.1 C.1.2.1 dX11_wall_118 rfl (lv_at hl 0 rfl) ?_
    refine lv_iconst (v := 0) C.1.1 C.1.2.1 dX11_wall_119 (by decide) ?_
    refine P_X11_94 C hW (by decide) dX11_wall_120 (fun H locs hW => ?_)
    obtain ⟨I33, eI33, h⟩ := nm_some h
    rw [← eI33] at hW
    clear eI33
    refine lv_aload_n C.1.1 C.1.2.1 dX11_wall_123 rfl (lv_at hl 0 rfl) ?_
    refine G_X11_7 C hW (by decide) dX11_wall_124 ?_
    refine lv_iconst (v := 1) C.1.1 C.1.2.1 dX11_wall_127 (by decide) ?_
    obtain ⟨hi34, h⟩ := gi_some h
    refine w_iald C hW (n := 1752) (by decide) (by decide) hi34 dX11_wall_128 ?_
    obtain ⟨rfl, rfl⟩ := inj2 h
    subst hQ
    exact w_iret C hW hr hlocks dX11_wall_129
  · replace h := ite_t hc30 h
    refine lv_bipush (v := -100) C.1.1 C.1.2.1 dX11_wall_102 (by decide) ?_
    refine lv_aload_n C.1.1 C.1.2.1 dX11_wall_104 rfl (lv_at hl 0 rfl) ?_
    refine G_X11_52 C hW (by decide) dX11_wall_105 ?_
    refine lv_isub C.1.1 C.1.2.1 dX11_wall_108 ?_
    obtain ⟨rfl, rfl⟩ := inj2 h
    subst hQ
    exact w_iret C hW hr hlocks dX11_wall_109
def f_X11_isNight (a1 : Int32) (I : MI) (L : ML) : Option (Int32) :=
  gi (a1 + (4 : Int32)) 1752 (nm (I 245 (a1 + (4 : Int32)).toNatClampNeg) (fun x2 => gi (a1 + (2 : Int32)) 1752 (bd1 ((if (x2 - x2 / (24 : Int32) * (24 : Int32)) < (I 245 (a1 + (2 : Int32)).toNatClampNeg) then some (0 : Int32) else some (1 : Int32))) (fun y4 => gd (y4 = 0 ∨ y4 = 1) (some y4)))))
set_option maxHeartbeats 4000000 in
set_option maxRecDepth 100000 in
theorem c_X11_isNight (g : Gp) (l : Launch) {a1 : Int32}  {I : MI} {L : ML} {r : Int32} (h : f_X11_isNight a1 I L = some r) : MetI g l yX11_isNight cX11_isNight 2 .boolean 0 [.ref (g.1 + 244), .int a1] I L r I L := by
  unfold f_X11_isNight at h
  refine w_enter (by decide) (Nat.le_of_ble_eq_true rfl) (own := RX11) rfl ?_
  intro p e s m below meth c args Q hQ C hr hlocks hW ls hl
  have hl : lv_has ls 2 [(0, .ref (g.1 + 244)), (1, .int a1)] := hl
  refine lv_aload_n C.1.1 C.1.2.1 dX11_isNight_0 rfl (lv_at hl 0 rfl) ?_
  refine G_X11_7 C hW (by decide) dX11_isNight_1 ?_
  refine lv_iload_n C.1.1 C.1.2.1 dX11_isNight_4 rfl (lv_at hl 1 rfl) ?_
  refine lv_iconst (v := 4) C.1.1 C.1.2.1 dX11_isNight_5 (by decide) ?_
  refine lv_iadd C.1.1 C.1.2.1 dX11_isNight_6 ?_
  obtain ⟨hi1, h⟩ := gi_some h
  refine w_iald C hW (n := 1752) (by decide) (by decide) hi1 dX11_isNight_7 ?_
  refine lv_bipush (v := 24) C.1.1 C.1.2.1 dX11_isNight_8 (by decide) ?_
  obtain ⟨x2, ex2⟩ : ∃ y, y = I 245 (a1 + (4 : Int32)).toNatClampNeg := ⟨_, rfl⟩
  rw [← ex2]
  replace h := nm_at ex2 h
  clear ex2
  refine lv_irem C.1.1 C.1.2.1 dX11_isNight_10 (by decide) ?_
  refine lv_aload_n C.1.1 C.1.2.1 dX11_isNight_11 rfl (lv_at hl 0 rfl) ?_
  refine G_X11_7 C hW (by decide) dX11_isNight_12 ?_
  refine lv_iload_n C.1.1 C.1.2.1 dX11_isNight_15 rfl (lv_at hl 1 rfl) ?_
  refine lv_iconst (v := 2) C.1.1 C.1.2.1 dX11_isNight_16 (by decide) ?_
  refine lv_iadd C.1.1 C.1.2.1 dX11_isNight_17 ?_
  obtain ⟨hi3, h⟩ := gi_some h
  refine w_iald C hW (n := 1752) (by decide) (by decide) hi3 dX11_isNight_18 ?_
  obtain ⟨y4, hj6, h⟩ := bd1_some h
  have kJ5 : ∀ (H : Heap) (locs : List Loc) (ls : Array Slot), Ws g s I L H locs → lv_has ls 2 [] → W p l e (rmD 0) s m args below meth c H locs 0 0 Q (F0 m 27 ls [.int y4]) := by
    intro H locs ls hW hl
    obtain ⟨hb7, h⟩ := gd_some h
    obtain rfl := inj1 h
    subst hQ
    exact w_zret C hW hr hlocks hb7 dX11_isNight_27
  clear h
  have h := hj6
  clear hj6
  refine lv_icmp_lt (tgt := 26) C.1.1 C.1.2.1 dX11_isNight_19 (by decide) (fun hc8 => ?_) (fun hc8 => ?_)
  · replace h := ite_t hc8 h
    refine lv_iconst (v := 0) C.1.1 C.1.2.1 dX11_isNight_26 (by decide) ?_
    obtain rfl := inj1 h
    exact kJ5 _ _ _ hW (lv_sub hl [] rfl)
  · replace h := ite_f hc8 h
    refine lv_iconst (v := 1) C.1.1 C.1.2.1 dX11_isNight_22 (by decide) ?_
    refine lv_goto (tgt := 27) C.1.1 C.1.2.1 dX11_isNight_23 (by decide) ?_
    obtain rfl := inj1 h
    exact kJ5 _ _ _ hW (lv_sub hl [] rfl)
def f_X11_growthIn (a1 : Int32) (a2 : Int32) (a3 : Int32) (I : MI) (L : ML) : Option (Int32) :=
  gi ((a1 + (7 : Int32)) + a2) 1752 (nm (I 245 ((a1 + (7 : Int32)) + a2).toNatClampNeg) (fun x2 => gi ((a1 + (25 : Int32)) + a2) 1752 (nm (I 245 ((a1 + (25 : Int32)) + a2).toNatClampNeg) (fun x4 => bd1 ((if a3 = (1 : Int32) then some x4 else some (0 : Int32))) (fun y5 => bd1 (f_X11_isNight a1 I L) (fun r8 => bd1 ((if r8 = 0 then some (0 : Int32) else some x4)) (fun y10 => nm (y5 + y10) (fun x13 => gi ((a1 + (61 : Int32)) + a2) 1752 (bd1 ((if (I 245 ((a1 + (61 : Int32)) + a2).toNatClampNeg) = (1 : Int32) then some (x13 / (2 : Int32)) else some x13)) (fun y15 => gi ((a1 + (31 : Int32)) + a2) 1752 (nm (I 245 ((a1 + (31 : Int32)) + a2).toNatClampNeg) (fun x19 => gi ((a1 + (49 : Int32)) + a2) 1752 (bd1 ((if (I 245 ((a1 + (49 : Int32)) + a2).toNatClampNeg) = 0 then some (x19 / (2 : Int32)) else gi ((a1 + (49 : Int32)) + a2) 1752 ((if (I 245 ((a1 + (49 : Int32)) + a2).toNatClampNeg) = (1 : Int32) then some (0 : Int32) else some x19)))) (fun y21 => bd1 ((if x2 = (3 : Int32) then some ((2 : Int32) * y21) else some y21)) (fun y24 => gi ((a1 + (19 : Int32)) + a2) 1752 (bd1 ((if x2 = (4 : Int32) then some (1 : Int32) else (if x2 = (5 : Int32) then some (1 : Int32) else some (0 : Int32)))) (fun y28 => nm ((I 245 ((a1 + (19 : Int32)) + a2).toNatClampNeg) + y28) (fun x31 => bd1 ((if x2 = (2 : Int32) then gi ((a1 + (55 : Int32)) + a2) 1752 (some ((2 : Int32) * (I 245 ((a1 + (55 : Int32)) + a2).toNatClampNeg))) else gi ((a1 + (55 : Int32)) + a2) 1752 (some (I 245 ((a1 + (55 : Int32)) + a2).toNatClampNeg)))) (fun y32 => nm (((x31 + y15) + y24) - y32) (fun x35 => bd1 ((if 0 ≤ x35 then some x35 else some (0 : Int32))) (fun y36 => bd1 ((if x2 = (5 : Int32) then bd1 (f_X11_isNight a1 I L) (fun r43 => (if r43 = 0 then some y36 else some (y36 / (2 : Int32)))) else some y36)) (fun y39 => some y39))))))))))))))))))))))
set_option maxHeartbeats 4000000 in
set_option maxRecDepth 100000 in
theorem c_X11_growthIn (g : Gp) (l : Launch) {a1 : Int32} {a2 : Int32} {a3 : Int32}  {I : MI} {L : ML} {r : Int32} (h : f_X11_growthIn a1 a2 a3 I L = some r) : MetI g l yX11_growthIn cX11_growthIn 12 .int 1 [.ref (g.1 + 244), .int a1, .int a2, .int a3] I L r I L := by
  unfold f_X11_growthIn at h
  refine w_enter (by decide) (Nat.le_of_ble_eq_true rfl) (own := RX11) rfl ?_
  intro p e s m below meth c args Q hQ C hr hlocks hW ls hl
  have hl : lv_has ls 12 [(0, .ref (g.1 + 244)), (1, .int a1), (2, .int a2), (3, .int a3)] := hl
  refine lv_aload_n C.1.1 C.1.2.1 dX11_growthIn_0 rfl (lv_at hl 0 rfl) ?_
  refine G_X11_7 C hW (by decide) dX11_growthIn_1 ?_
  refine lv_iload_n C.1.1 C.1.2.1 dX11_growthIn_4 rfl (lv_at hl 1 rfl) ?_
  refine lv_bipush (v := 7) C.1.1 C.1.2.1 dX11_growthIn_5 (by decide) ?_
  refine lv_iadd C.1.1 C.1.2.1 dX11_growthIn_7 ?_
  refine lv_iload_n C.1.1 C.1.2.1 dX11_growthIn_8 rfl (lv_at hl 2 rfl) ?_
  refine lv_iadd C.1.1 C.1.2.1 dX11_growthIn_9 ?_
  obtain ⟨hi1, h⟩ := gi_some h
  refine w_iald C hW (n := 1752) (by decide) (by decide) hi1 dX11_growthIn_10 ?_
  refine lv_topi (fun x2 ex2 => ?_)
  replace h := nm_at ex2 h
  clear ex2
  refine lv_istore (lv' := [(4, .int x2), (0, .ref (g.1 + 244)), (1, .int a1), (2, .int a2), (3, .int a3)]) C.1.1 C.1.2.1 dX11_growthIn_11 hl (by decide) rfl (fun ls hl => ?_)
  refine lv_aload_n C.1.1 C.1.2.1 dX11_growthIn_13 rfl (lv_at hl 1 rfl) ?_
  refine G_X11_7 C hW (by decide) dX11_growthIn_14 ?_
  refine lv_iload_n C.1.1 C.1.2.1 dX11_growthIn_17 rfl (lv_at hl 2 rfl) ?_
  refine lv_bipush (v := 25) C.1.1 C.1.2.1 dX11_growthIn_18 (by decide) ?_
  refine lv_iadd C.1.1 C.1.2.1 dX11_growthIn_20 ?_
  refine lv_iload_n C.1.1 C.1.2.1 dX11_growthIn_21 rfl (lv_at hl 3 rfl) ?_
  refine lv_iadd C.1.1 C.1.2.1 dX11_growthIn_22 ?_
  obtain ⟨hi3, h⟩ := gi_some h
  refine w_iald C hW (n := 1752) (by decide) (by decide) hi3 dX11_growthIn_23 ?_
  refine lv_topi (fun x4 ex4 => ?_)
  replace h := nm_at ex4 h
  clear ex4
  refine lv_istore (lv' := [(5, .int x4), (4, .int x2), (0, .ref (g.1 + 244)), (1, .int a1), (2, .int a2), (3, .int a3)]) C.1.1 C.1.2.1 dX11_growthIn_24 hl (by decide) rfl (fun ls hl => ?_)
  refine lv_iload_n C.1.1 C.1.2.1 dX11_growthIn_26 rfl (lv_at hl 5 rfl) ?_
  refine lv_iconst (v := 1) C.1.1 C.1.2.1 dX11_growthIn_27 (by decide) ?_
  obtain ⟨y5, hj7, h⟩ := bd1_some h
  have kJ6 : ∀ (H : Heap) (locs : List Loc) (ls : Array Slot), Ws g s I L H locs → lv_has ls 12 [(0, .ref (g.1 + 244)), (1, .int a1), (2, .int a2), (4, .int x2), (5, .int x4)] → W p l e (rmD 1) s m args below meth c H locs 0 0 Q (F0 m 37 ls [.int y5]) := by
    intro H locs ls hW hl
    refine lv_aload_n C.1.1 C.1.2.1 dX11_growthIn_37 rfl (lv_at hl 0 rfl) ?_
    refine lv_iload_n C.1.1 C.1.2.1 dX11_growthIn_38 rfl (lv_at hl 1 rfl) ?_
    obtain ⟨r8, hc9, h⟩ := bd1_some h
    refine w_callVi (k := 1) (As := [.int a1]) (rest := [.int y5]) C hW (c_X11_isNight g l  hc9) (by decide) rfl (EX_11 (by decide)) K_X11_97 (by decide +kernel) ⟨by decide, by decide⟩ ⟨Nat.le_refl _, Nat.le_refl _⟩ rfl hl.1 rfl (Nat.le_of_ble_eq_true rfl) dX11_growthIn_39 (fun H locs hW => ?_)
    obtain ⟨y10, hj12, h⟩ := bd1_some h
    have kJ11 : ∀ (H : Heap) (locs : List Loc) (ls : Array Slot), Ws g s I L H locs → lv_has ls 12 [(0, .ref (g.1 + 244)), (1, .int a1), (2, .int a2), (4, .int x2)] → W p l e (rmD 1) s m args below meth c H locs 0 0 Q (F0 m 51 ls [.int y10, .int y5]) := by
      intro H locs ls hW hl
      refine lv_iadd C.1.1 C.1.2.1 dX11_growthIn_51 ?_
      refine lv_topi (fun x13 ex13 => ?_)
      replace h := nm_at ex13 h
      clear ex13
      refine lv_istore (lv' := [(6, .int x13), (0, .ref (g.1 + 244)), (1, .int a1), (2, .int a2), (4, .int x2)]) C.1.1 C.1.2.1 dX11_growthIn_52 hl (by decide) rfl (fun ls hl => ?_)
      refine lv_aload_n C.1.1 C.1.2.1 dX11_growthIn_54 rfl (lv_at hl 1 rfl) ?_
      refine G_X11_7 C hW (by decide) dX11_growthIn_55 ?_
      refine lv_iload_n C.1.1 C.1.2.1 dX11_growthIn_58 rfl (lv_at hl 2 rfl) ?_
      refine lv_bipush (v := 61) C.1.1 C.1.2.1 dX11_growthIn_59 (by decide) ?_
      refine lv_iadd C.1.1 C.1.2.1 dX11_growthIn_61 ?_
      refine lv_iload_n C.1.1 C.1.2.1 dX11_growthIn_62 rfl (lv_at hl 3 rfl) ?_
      refine lv_iadd C.1.1 C.1.2.1 dX11_growthIn_63 ?_
      obtain ⟨hi14, h⟩ := gi_some h
      refine w_iald C hW (n := 1752) (by decide) (by decide) hi14 dX11_growthIn_64 ?_
      refine lv_iconst (v := 1) C.1.1 C.1.2.1 dX11_growthIn_65 (by decide) ?_
      obtain ⟨y15, hj17, h⟩ := bd1_some h
      have kJ16 : ∀ (H : Heap) (locs : List Loc) (ls : Array Slot), Ws g s I L H locs → lv_has ls 12 [(0, .ref (g.1 + 244)), (1, .int a1), (2, .int a2), (4, .int x2)] → W p l e (rmD 1) s m args below meth c H locs 0 0 Q (F0 m 78 ls [.int y15]) := by
        intro H locs ls hW hl
        refine lv_istore (lv' := [(6, .int y15), (0, .ref (g.1 + 244)), (1, .int a1), (2, .int a2), (4, .int x2)]) C.1.1 C.1.2.1 dX11_growthIn_78 hl (by decide) rfl (fun ls hl => ?_)
        refine lv_aload_n C.1.1 C.1.2.1 dX11_growthIn_80 rfl (lv_at hl 1 rfl) ?_
        refine G_X11_7 C hW (by decide) dX11_growthIn_81 ?_
        refine lv_iload_n C.1.1 C.1.2.1 dX11_growthIn_84 rfl (lv_at hl 2 rfl) ?_
        refine lv_bipush (v := 31) C.1.1 C.1.2.1 dX11_growthIn_85 (by decide) ?_
        refine lv_iadd C.1.1 C.1.2.1 dX11_growthIn_87 ?_
        refine lv_iload_n C.1.1 C.1.2.1 dX11_growthIn_88 rfl (lv_at hl 3 rfl) ?_
        refine lv_iadd C.1.1 C.1.2.1 dX11_growthIn_89 ?_
        obtain ⟨hi18, h⟩ := gi_some h
        refine w_iald C hW (n := 1752) (by decide) (by decide) hi18 dX11_growthIn_90 ?_
        refine lv_topi (fun x19 ex19 => ?_)
        replace h := nm_at ex19 h
        clear ex19
        refine lv_istore (lv' := [(7, .int x19), (6, .int y15), (0, .ref (g.1 + 244)), (1, .int a1), (2, .int a2), (4, .int x2)]) C.1.1 C.1.2.1 dX11_growthIn_91 hl (by decide) rfl (fun ls hl => ?_)
        refine lv_aload_n C.1.1 C.1.2.1 dX11_growthIn_93 rfl (lv_at hl 2 rfl) ?_
        refine G_X11_7 C hW (by decide) dX11_growthIn_94 ?_
        refine lv_iload_n C.1.1 C.1.2.1 dX11_growthIn_97 rfl (lv_at hl 3 rfl) ?_
        refine lv_bipush (v := 49) C.1.1 C.1.2.1 dX11_growthIn_98 (by decide) ?_
        refine lv_iadd C.1.1 C.1.2.1 dX11_growthIn_100 ?_
        refine lv_iload_n C.1.1 C.1.2.1 dX11_growthIn_101 rfl (lv_at hl 4 rfl) ?_
        refine lv_iadd C.1.1 C.1.2.1 dX11_growthIn_102 ?_
        obtain ⟨hi20, h⟩ := gi_some h
        refine w_iald C hW (n := 1752) (by decide) (by decide) hi20 dX11_growthIn_103 ?_
        obtain ⟨y21, hj23, h⟩ := bd1_some h
        have kJ22 : ∀ (H : Heap) (locs : List Loc) (ls : Array Slot), Ws g s I L H locs → lv_has ls 12 [(0, .ref (g.1 + 244)), (1, .int a1), (2, .int a2), (4, .int x2), (6, .int y15)] → W p l e (rmD 1) s m args below meth c H locs 0 0 Q (F0 m 135 ls [.int y21]) := by
          intro H locs ls hW hl
          refine lv_istore (lv' := [(8, .int y21), (0, .ref (g.1 + 244)), (1, .int a1), (2, .int a2), (4, .int x2), (6, .int y15)]) C.1.1 C.1.2.1 dX11_growthIn_135 hl (by decide) rfl (fun ls hl => ?_)
          refine lv_iload C.1.1 C.1.2.1 dX11_growthIn_137 (lv_at hl 4 rfl) ?_
          refine lv_iconst (v := 3) C.1.1 C.1.2.1 dX11_growthIn_139 (by decide) ?_
          obtain ⟨y24, hj26, h⟩ := bd1_some h
          have kJ25 : ∀ (H : Heap) (locs : List Loc) (ls : Array Slot), Ws g s I L H locs → lv_has ls 12 [(0, .ref (g.1 + 244)), (1, .int a1), (2, .int a2), (4, .int x2), (6, .int y15)] → W p l e (rmD 1) s m args below meth c H locs 0 0 Q (F0 m 152 ls [.int y24]) := by
            intro H locs ls hW hl
            refine lv_istore (lv' := [(8, .int y24), (0, .ref (g.1 + 244)), (1, .int a1), (2, .int a2), (4, .int x2), (6, .int y15)]) C.1.1 C.1.2.1 dX11_growthIn_152 hl (by decide) rfl (fun ls hl => ?_)
            refine lv_aload_n C.1.1 C.1.2.1 dX11_growthIn_154 rfl (lv_at hl 1 rfl) ?_
            refine G_X11_7 C hW (by decide) dX11_growthIn_155 ?_
            refine lv_iload_n C.1.1 C.1.2.1 dX11_growthIn_158 rfl (lv_at hl 2 rfl) ?_
            refine lv_bipush (v := 19) C.1.1 C.1.2.1 dX11_growthIn_159 (by decide) ?_
            refine lv_iadd C.1.1 C.1.2.1 dX11_growthIn_161 ?_
            refine lv_iload_n C.1.1 C.1.2.1 dX11_growthIn_162 rfl (lv_at hl 3 rfl) ?_
            refine lv_iadd C.1.1 C.1.2.1 dX11_growthIn_163 ?_
            obtain ⟨hi27, h⟩ := gi_some h
            refine w_iald C hW (n := 1752) (by decide) (by decide) hi27 dX11_growthIn_164 ?_
            refine lv_iload C.1.1 C.1.2.1 dX11_growthIn_165 (lv_at hl 4 rfl) ?_
            refine lv_iconst (v := 4) C.1.1 C.1.2.1 dX11_growthIn_167 (by decide) ?_
            obtain ⟨y28, hj30, h⟩ := bd1_some h
            have kJ29 : ∀ (H : Heap) (locs : List Loc) (ls : Array Slot), Ws g s I L H locs → lv_has ls 12 [(0, .ref (g.1 + 244)), (1, .int a1), (2, .int a2), (4, .int x2), (6, .int y15), (8, .int y24)] → W p l e (rmD 1) s m args below meth c H locs 0 0 Q (F0 m 182 ls [.int y28, .int (I 245 ((a1 + (19 : Int32)) + a2).toNatClampNeg)]) := by
              intro H locs ls hW hl
              refine lv_iadd C.1.1 C.1.2.1 dX11_growthIn_182 ?_
              refine lv_topi (fun x31 ex31 => ?_)
              replace h := nm_at ex31 h
              clear ex31
              refine lv_istore (lv' := [(9, .int x31), (0, .ref (g.1 + 244)), (1, .int a1), (2, .int a2), (4, .int x2), (6, .int y15), (8, .int y24)]) C.1.1 C.1.2.1 dX11_growthIn_183 hl (by decide) rfl (fun ls hl => ?_)
              refine lv_iload C.1.1 C.1.2.1 dX11_growthIn_185 (lv_at hl 4 rfl) ?_
              refine lv_iconst (v := 2) C.1.1 C.1.2.1 dX11_growthIn_187 (by decide) ?_
              obtain ⟨y32, hj34, h⟩ := bd1_some h
              have kJ33 : ∀ (H : Heap) (locs : List Loc) (ls : Array Slot), Ws g s I L H locs → lv_has ls 12 [(0, .ref (g.1 + 244)), (1, .int a1), (4, .int x2), (6, .int y15), (8, .int y24), (9, .int x31)] → W p l e (rmD 1) s m args below meth c H locs 0 0 Q (F0 m 218 ls [.int y32]) := by
                intro H locs ls hW hl
                refine lv_istore (lv' := [(10, .int y32), (0, .ref (g.1 + 244)), (1, .int a1), (4, .int x2), (6, .int y15), (8, .int y24), (9, .int x31)]) C.1.1 C.1.2.1 dX11_growthIn_218 hl (by decide) rfl (fun ls hl => ?_)
                refine lv_iload C.1.1 C.1.2.1 dX11_growthIn_220 (lv_at hl 6 rfl) ?_
                refine lv_iload C.1.1 C.1.2.1 dX11_growthIn_222 (lv_at hl 4 rfl) ?_
                refine lv_iadd C.1.1 C.1.2.1 dX11_growthIn_224 ?_
                refine lv_iload C.1.1 C.1.2.1 dX11_growthIn_225 (lv_at hl 5 rfl) ?_
                refine lv_iadd C.1.1 C.1.2.1 dX11_growthIn_227 ?_
                refine lv_iload C.1.1 C.1.2.1 dX11_growthIn_228 (lv_at hl 0 rfl) ?_
                refine lv_isub C.1.1 C.1.2.1 dX11_growthIn_230 ?_
                refine lv_topi (fun x35 ex35 => ?_)
                replace h := nm_at ex35 h
                clear ex35
                refine lv_istore (lv' := [(11, .int x35), (10, .int y32), (0, .ref (g.1 + 244)), (1, .int a1), (4, .int x2), (6, .int y15), (8, .int y24), (9, .int x31)]) C.1.1 C.1.2.1 dX11_growthIn_231 hl (by decide) rfl (fun ls hl => ?_)
                refine lv_iload C.1.1 C.1.2.1 dX11_growthIn_233 (lv_at hl 0 rfl) ?_
                obtain ⟨y36, hj38, h⟩ := bd1_some h
                have kJ37 : ∀ (H : Heap) (locs : List Loc) (ls : Array Slot), Ws g s I L H locs → lv_has ls 12 [(0, .ref (g.1 + 244)), (1, .int a1), (4, .int x2)] → W p l e (rmD 1) s m args below meth c H locs 0 0 Q (F0 m 244 ls [.int y36]) := by
                  intro H locs ls hW hl
                  refine lv_istore (lv' := [(11, .int y36), (0, .ref (g.1 + 244)), (1, .int a1), (4, .int x2)]) C.1.1 C.1.2.1 dX11_growthIn_244 hl (by decide) rfl (fun ls hl => ?_)
                  refine lv_iload C.1.1 C.1.2.1 dX11_growthIn_246 (lv_at hl 3 rfl) ?_
                  refine lv_iconst (v := 5) C.1.1 C.1.2.1 dX11_growthIn_248 (by decide) ?_
                  obtain ⟨y39, hj41, h⟩ := bd1_some h
                  have kJ40 : ∀ (H : Heap) (locs : List Loc) (ls : Array Slot), Ws g s I L H locs → lv_has ls 12 [] → W p l e (rmD 1) s m args below meth c H locs 0 0 Q (F0 m 269 ls [.int y39]) := by
                    intro H locs ls hW hl
                    obtain rfl := inj1 h
                    subst hQ
                    exact w_iret C hW hr hlocks dX11_growthIn_269
                  clear h
                  have h := hj41
                  clear hj41
                  refine lv_icmp_ne (tgt := 267) C.1.1 C.1.2.1 dX11_growthIn_249 (by decide) (fun hc42 => ?_) (fun hc42 => ?_)
                  · replace h := ite_f hc42 h
                    refine lv_iload C.1.1 C.1.2.1 dX11_growthIn_267 (lv_at hl 0 rfl) ?_
                    obtain rfl := inj1 h
                    exact kJ40 _ _ _ hW (lv_sub hl [] rfl)
                  · replace h := ite_t hc42 h
                    refine lv_aload_n C.1.1 C.1.2.1 dX11_growthIn_252 rfl (lv_at hl 1 rfl) ?_
                    refine lv_iload_n C.1.1 C.1.2.1 dX11_growthIn_253 rfl (lv_at hl 2 rfl) ?_
                    obtain ⟨r43, hc44, h⟩ := bd1_some h
                    refine w_callVi (k := 1) (As := [.int a1]) (rest := []) C hW (c_X11_isNight g l  hc44) (by decide) rfl (EX_11 (by decide)) K_X11_97 (by decide +kernel) ⟨by decide, by decide⟩ ⟨Nat.le_refl _, Nat.le_refl _⟩ rfl hl.1 rfl (Nat.le_of_ble_eq_true rfl) dX11_growthIn_254 (fun H locs hW => ?_)
                    refine lv_if_eq (tgt := 267) C.1.1 C.1.2.1 dX11_growthIn_257 (by decide) (fun hc45 => ?_) (fun hc45 => ?_)
                    · replace h := ite_t hc45 h
                      refine lv_iload C.1.1 C.1.2.1 dX11_growthIn_267 (lv_at hl 0 rfl) ?_
                      obtain rfl := inj1 h
                      exact kJ40 _ _ _ hW (lv_sub hl [] rfl)
                    · replace h := ite_f hc45 h
                      refine lv_iload C.1.1 C.1.2.1 dX11_growthIn_260 (lv_at hl 0 rfl) ?_
                      refine lv_iconst (v := 2) C.1.1 C.1.2.1 dX11_growthIn_262 (by decide) ?_
                      refine lv_idiv C.1.1 C.1.2.1 dX11_growthIn_263 (by decide) ?_
                      refine lv_goto (tgt := 269) C.1.1 C.1.2.1 dX11_growthIn_264 (by decide) ?_
                      obtain rfl := inj1 h
                      exact kJ40 _ _ _ hW (lv_sub hl [] rfl)
                clear h
                have h := hj38
                clear hj38
                refine lv_if_ge (tgt := 242) C.1.1 C.1.2.1 dX11_growthIn_235 (by decide) (fun hc46 => ?_) (fun hc46 => ?_)
                · replace h := ite_t hc46 h
                  refine lv_iload C.1.1 C.1.2.1 dX11_growthIn_242 (lv_at hl 0 rfl) ?_
                  obtain rfl := inj1 h
                  exact kJ37 _ _ _ hW (lv_sub hl [2, 3, 4] rfl)
                · replace h := ite_f hc46 h
                  refine lv_iconst (v := 0) C.1.1 C.1.2.1 dX11_growthIn_238 (by decide) ?_
                  refine lv_goto (tgt := 244) C.1.1 C.1.2.1 dX11_growthIn_239 (by decide) ?_
                  obtain rfl := inj1 h
                  exact kJ37 _ _ _ hW (lv_sub hl [2, 3, 4] rfl)
              clear h
              have h := hj34
              clear hj34
              refine lv_icmp_ne (tgt := 207) C.1.1 C.1.2.1 dX11_growthIn_188 (by decide) (fun hc47 => ?_) (fun hc47 => ?_)
              · replace h := ite_f hc47 h
                refine lv_aload_n C.1.1 C.1.2.1 dX11_growthIn_207 rfl (lv_at hl 1 rfl) ?_
                refine G_X11_7 C hW (by decide) dX11_growthIn_208 ?_
                refine lv_iload_n C.1.1 C.1.2.1 dX11_growthIn_211 rfl (lv_at hl 2 rfl) ?_
                refine lv_bipush (v := 55) C.1.1 C.1.2.1 dX11_growthIn_212 (by decide) ?_
                refine lv_iadd C.1.1 C.1.2.1 dX11_growthIn_214 ?_
                refine lv_iload_n C.1.1 C.1.2.1 dX11_growthIn_215 rfl (lv_at hl 3 rfl) ?_
                refine lv_iadd C.1.1 C.1.2.1 dX11_growthIn_216 ?_
                obtain ⟨hi48, h⟩ := gi_some h
                refine w_iald C hW (n := 1752) (by decide) (by decide) hi48 dX11_growthIn_217 ?_
                obtain rfl := inj1 h
                exact kJ33 _ _ _ hW (lv_sub hl [1, 2, 4, 5, 6, 0] rfl)
              · replace h := ite_t hc47 h
                refine lv_iconst (v := 2) C.1.1 C.1.2.1 dX11_growthIn_191 (by decide) ?_
                refine lv_aload_n C.1.1 C.1.2.1 dX11_growthIn_192 rfl (lv_at hl 1 rfl) ?_
                refine G_X11_7 C hW (by decide) dX11_growthIn_193 ?_
                refine lv_iload_n C.1.1 C.1.2.1 dX11_growthIn_196 rfl (lv_at hl 2 rfl) ?_
                refine lv_bipush (v := 55) C.1.1 C.1.2.1 dX11_growthIn_197 (by decide) ?_
                refine lv_iadd C.1.1 C.1.2.1 dX11_growthIn_199 ?_
                refine lv_iload_n C.1.1 C.1.2.1 dX11_growthIn_200 rfl (lv_at hl 3 rfl) ?_
                refine lv_iadd C.1.1 C.1.2.1 dX11_growthIn_201 ?_
                obtain ⟨hi49, h⟩ := gi_some h
                refine w_iald C hW (n := 1752) (by decide) (by decide) hi49 dX11_growthIn_202 ?_
                refine lv_imul C.1.1 C.1.2.1 dX11_growthIn_203 ?_
                refine lv_goto (tgt := 218) C.1.1 C.1.2.1 dX11_growthIn_204 (by decide) ?_
                obtain rfl := inj1 h
                exact kJ33 _ _ _ hW (lv_sub hl [1, 2, 4, 5, 6, 0] rfl)
            clear h
            have h := hj30
            clear hj30
            refine lv_icmp_eq (tgt := 177) C.1.1 C.1.2.1 dX11_growthIn_168 (by decide) (fun hc50 => ?_) (fun hc50 => ?_)
            · replace h := ite_t hc50 h
              refine lv_iconst (v := 1) C.1.1 C.1.2.1 dX11_growthIn_177 (by decide) ?_
              refine lv_goto (tgt := 182) C.1.1 C.1.2.1 dX11_growthIn_178 (by decide) ?_
              obtain rfl := inj1 h
              exact kJ29 _ _ _ hW (lv_sub hl [1, 2, 3, 4, 5, 0] rfl)
            · replace h := ite_f hc50 h
              refine lv_iload C.1.1 C.1.2.1 dX11_growthIn_171 (lv_at hl 4 rfl) ?_
              refine lv_iconst (v := 5) C.1.1 C.1.2.1 dX11_growthIn_173 (by decide) ?_
              refine lv_icmp_ne (tgt := 181) C.1.1 C.1.2.1 dX11_growthIn_174 (by decide) (fun hc51 => ?_) (fun hc51 => ?_)
              · replace h := ite_f hc51 h
                refine lv_iconst (v := 0) C.1.1 C.1.2.1 dX11_growthIn_181 (by decide) ?_
                obtain rfl := inj1 h
                exact kJ29 _ _ _ hW (lv_sub hl [1, 2, 3, 4, 5, 0] rfl)
              · replace h := ite_t hc51 h
                refine lv_iconst (v := 1) C.1.1 C.1.2.1 dX11_growthIn_177 (by decide) ?_
                refine lv_goto (tgt := 182) C.1.1 C.1.2.1 dX11_growthIn_178 (by decide) ?_
                obtain rfl := inj1 h
                exact kJ29 _ _ _ hW (lv_sub hl [1, 2, 3, 4, 5, 0] rfl)
          clear h
          have h := hj26
          clear hj26
          refine lv_icmp_ne (tgt := 150) C.1.1 C.1.2.1 dX11_growthIn_140 (by decide) (fun hc52 => ?_) (fun hc52 => ?_)
          · replace h := ite_f hc52 h
            refine lv_iload C.1.1 C.1.2.1 dX11_growthIn_150 (lv_at hl 0 rfl) ?_
            obtain rfl := inj1 h
            exact kJ25 _ _ _ hW (lv_sub hl [1, 2, 3, 4, 5] rfl)
          · replace h := ite_t hc52 h
            refine lv_iconst (v := 2) C.1.1 C.1.2.1 dX11_growthIn_143 (by decide) ?_
            refine lv_iload C.1.1 C.1.2.1 dX11_growthIn_144 (lv_at hl 0 rfl) ?_
            refine lv_imul C.1.1 C.1.2.1 dX11_growthIn_146 ?_
            refine lv_goto (tgt := 152) C.1.1 C.1.2.1 dX11_growthIn_147 (by decide) ?_
            obtain rfl := inj1 h
            exact kJ25 _ _ _ hW (lv_sub hl [1, 2, 3, 4, 5] rfl)
        clear h
        have h := hj23
        clear hj23
        refine lv_if_ne (tgt := 114) C.1.1 C.1.2.1 dX11_growthIn_104 (by decide) (fun hc53 => ?_) (fun hc53 => ?_)
        · replace h := ite_f hc53 h
          refine lv_aload_n C.1.1 C.1.2.1 dX11_growthIn_114 rfl (lv_at hl 2 rfl) ?_
          refine G_X11_7 C hW (by decide) dX11_growthIn_115 ?_
          refine lv_iload_n C.1.1 C.1.2.1 dX11_growthIn_118 rfl (lv_at hl 3 rfl) ?_
          refine lv_bipush (v := 49) C.1.1 C.1.2.1 dX11_growthIn_119 (by decide) ?_
          refine lv_iadd C.1.1 C.1.2.1 dX11_growthIn_121 ?_
          refine lv_iload_n C.1.1 C.1.2.1 dX11_growthIn_122 rfl (lv_at hl 4 rfl) ?_
          refine lv_iadd C.1.1 C.1.2.1 dX11_growthIn_123 ?_
          obtain ⟨hi54, h⟩ := gi_some h
          refine w_iald C hW (n := 1752) (by decide) (by decide) hi54 dX11_growthIn_124 ?_
          refine lv_iconst (v := 1) C.1.1 C.1.2.1 dX11_growthIn_125 (by decide) ?_
          refine lv_icmp_ne (tgt := 133) C.1.1 C.1.2.1 dX11_growthIn_126 (by decide) (fun hc55 => ?_) (fun hc55 => ?_)
          · replace h := ite_f hc55 h
            refine lv_iload C.1.1 C.1.2.1 dX11_growthIn_133 (lv_at hl 0 rfl) ?_
            obtain rfl := inj1 h
            exact kJ22 _ _ _ hW (lv_sub hl [2, 3, 4, 5, 1] rfl)
          · replace h := ite_t hc55 h
            refine lv_iconst (v := 0) C.1.1 C.1.2.1 dX11_growthIn_129 (by decide) ?_
            refine lv_goto (tgt := 135) C.1.1 C.1.2.1 dX11_growthIn_130 (by decide) ?_
            obtain rfl := inj1 h
            exact kJ22 _ _ _ hW (lv_sub hl [2, 3, 4, 5, 1] rfl)
        · replace h := ite_t hc53 h
          refine lv_iload C.1.1 C.1.2.1 dX11_growthIn_107 (lv_at hl 0 rfl) ?_
          refine lv_iconst (v := 2) C.1.1 C.1.2.1 dX11_growthIn_109 (by decide) ?_
          refine lv_idiv C.1.1 C.1.2.1 dX11_growthIn_110 (by decide) ?_
          refine lv_goto (tgt := 135) C.1.1 C.1.2.1 dX11_growthIn_111 (by decide) ?_
          obtain rfl := inj1 h
          exact kJ22 _ _ _ hW (lv_sub hl [2, 3, 4, 5, 1] rfl)
      clear h
      have h := hj17
      clear hj17
      refine lv_icmp_ne (tgt := 76) C.1.1 C.1.2.1 dX11_growthIn_66 (by decide) (fun hc56 => ?_) (fun hc56 => ?_)
      · replace h := ite_f hc56 h
        refine lv_iload C.1.1 C.1.2.1 dX11_growthIn_76 (lv_at hl 0 rfl) ?_
        obtain rfl := inj1 h
        exact kJ16 _ _ _ hW (lv_sub hl [1, 2, 3, 4] rfl)
      · replace h := ite_t hc56 h
        refine lv_iload C.1.1 C.1.2.1 dX11_growthIn_69 (lv_at hl 0 rfl) ?_
        refine lv_iconst (v := 2) C.1.1 C.1.2.1 dX11_growthIn_71 (by decide) ?_
        refine lv_idiv C.1.1 C.1.2.1 dX11_growthIn_72 (by decide) ?_
        refine lv_goto (tgt := 78) C.1.1 C.1.2.1 dX11_growthIn_73 (by decide) ?_
        obtain rfl := inj1 h
        exact kJ16 _ _ _ hW (lv_sub hl [1, 2, 3, 4] rfl)
    clear h
    have h := hj12
    clear hj12
    refine lv_if_eq (tgt := 50) C.1.1 C.1.2.1 dX11_growthIn_42 (by decide) (fun hc57 => ?_) (fun hc57 => ?_)
    · replace h := ite_t hc57 h
      refine lv_iconst (v := 0) C.1.1 C.1.2.1 dX11_growthIn_50 (by decide) ?_
      obtain rfl := inj1 h
      exact kJ11 _ _ _ hW (lv_sub hl [0, 1, 2, 3] rfl)
    · replace h := ite_f hc57 h
      refine lv_iload C.1.1 C.1.2.1 dX11_growthIn_45 (lv_at hl 4 rfl) ?_
      refine lv_goto (tgt := 51) C.1.1 C.1.2.1 dX11_growthIn_47 (by decide) ?_
      obtain rfl := inj1 h
      exact kJ11 _ _ _ hW (lv_sub hl [0, 1, 2, 3] rfl)
  clear h
  have h := hj7
  clear hj7
  refine lv_icmp_ne (tgt := 36) C.1.1 C.1.2.1 dX11_growthIn_28 (by decide) (fun hc58 => ?_) (fun hc58 => ?_)
  · replace h := ite_f hc58 h
    refine lv_iconst (v := 0) C.1.1 C.1.2.1 dX11_growthIn_36 (by decide) ?_
    obtain rfl := inj1 h
    exact kJ6 _ _ _ hW (lv_sub hl [2, 3, 4, 1, 0] rfl)
  · replace h := ite_t hc58 h
    refine lv_iload C.1.1 C.1.2.1 dX11_growthIn_31 (lv_at hl 0 rfl) ?_
    refine lv_goto (tgt := 37) C.1.1 C.1.2.1 dX11_growthIn_33 (by decide) ?_
    obtain rfl := inj1 h
    exact kJ6 _ _ _ hW (lv_sub hl [2, 3, 4, 1, 0] rfl)
def b_X11_passesBy_2 (v1 : Int32) (v2 : Int32) (L : ML) (z3 : Int32) (I : MI) : Option ((Int32 × MI) ⊕ ((MI))) :=
  gi (v1 + (1 : Int32)) 1752 ((if (I 245 (v1 + (1 : Int32)).toNatClampNeg) ≤ z3 then some (Sum.inr I) else bd1 (f_X11_isDown v1 z3 I L) (fun r3 => bd1 ((if r3 = 0 then gi ((v1 + (37 : Int32)) + z3) 1752 (bd1 (f_X11_growthIn v1 z3 v2 I L) (fun r11 => nm ((I 245 ((v1 + (37 : Int32)) + z3).toNatClampNeg) + r11) (fun x13 => bd1 ((if x13 ≤ (999 : Int32) then some x13 else some (999 : Int32))) (fun y14 => gi ((v1 + (37 : Int32)) + z3) 1752 (nm (up2 I 245 (((v1 + (37 : Int32)) + z3).toNatClampNeg) y14) (fun I18 => gi ((v1 + (37 : Int32)) + z3) 1752 (gi ((v1 + (13 : Int32)) + z3) 1752 (bd1 ((if (I18 245 ((v1 + (37 : Int32)) + z3).toNatClampNeg) < (I18 245 ((v1 + (13 : Int32)) + z3).toNatClampNeg) then some (-1 : Int32) else gi (v1 + (4 : Int32)) 1752 (some (I18 245 (v1 + (4 : Int32)).toNatClampNeg)))) (fun y21 => gi ((v1 + (67 : Int32)) + z3) 1752 (nm (up2 I18 245 (((v1 + (67 : Int32)) + z3).toNatClampNeg) y21) (fun I25 => some I25))))))))))) else some I)) (fun I5 => nm (z3 + (1 : Int32)) (fun x8 => some (Sum.inl (x8, I5)))))))
set_option maxHeartbeats 4000000 in
set_option maxRecDepth 100000 in
theorem l_X11_passesBy_2 {g : Gp} {p : Program} {l : Launch} {e : Env} {s : State} {m : MethodId} {args : Array Value} {below : List Frame} {meth : Method} {c : Code} {Q : State → Prop}  (C : Cx g p s m args c RX11 cX11_passesBy 5) (v1 : Int32) (v2 : Int32)  (L : ML) : ∀ (n : Nat) (z3 : Int32) (I : MI) (Iy0 : MI), lp (fun s => b_X11_passesBy_2 v1 v2 L s.1 s.2) n (z3, I) = some Iy0 → ∀ (H : Heap) (locs : List Loc) (ls : Array Slot), Ws g s I L H locs → lv_has ls 5 [(0, .ref (g.1 + 244)), (1, .int v1), (2, .int v2), (3, .int z3)] → (∀ (H : Heap) (locs : List Loc) (ls : Array Slot), Ws g s Iy0 L H locs → lv_has ls 5 [(0, .ref (g.1 + 244)), (1, .int v1), (2, .int v2)] → W p l e (rmD 2) s m args below meth c H locs 0 0 Q (F0 m 125 ls [])) → W p l e (rmD 2) s m args below meth c H locs 0 0 Q (F0 m 2 ls []) := by
  intro n
  induction n with
  | zero => intro z3 I Iy0 h; exact lp_zero h
  | succ n ih =>
      intro z3 I Iy0 h H locs ls hW hl hx0
      obtain ⟨r9, h, h9⟩ := lp_some h
      have h : b_X11_passesBy_2 v1 v2 L z3 I = some r9 := h
      unfold b_X11_passesBy_2 at h
      refine lv_iload_n C.1.1 C.1.2.1 dX11_passesBy_2 rfl (lv_at hl 3 rfl) ?_
      refine lv_aload_n C.1.1 C.1.2.1 dX11_passesBy_3 rfl (lv_at hl 0 rfl) ?_
      refine G_X11_7 C hW (by decide) dX11_passesBy_4 ?_
      refine lv_iload_n C.1.1 C.1.2.1 dX11_passesBy_7 rfl (lv_at hl 1 rfl) ?_
      refine lv_iconst (v := 1) C.1.1 C.1.2.1 dX11_passesBy_8 (by decide) ?_
      refine lv_iadd C.1.1 C.1.2.1 dX11_passesBy_9 ?_
      obtain ⟨hi1, h⟩ := gi_some h
      refine w_iald C hW (n := 1752) (by decide) (by decide) hi1 dX11_passesBy_10 ?_
      refine lv_icmp_ge (tgt := 125) C.1.1 C.1.2.1 dX11_passesBy_11 (by decide) (fun hc2 => ?_) (fun hc2 => ?_)
      · replace h := ite_t hc2 h
        obtain rfl := Option.some.inj h
        replace h9 := Option.some.inj h9
        obtain rfl := pnj1 h9
        exact hx0 _ _ _ hW (lv_sub hl [0, 1, 2] rfl)
      · replace h := ite_f hc2 h
        refine lv_aload_n C.1.1 C.1.2.1 dX11_passesBy_14 rfl (lv_at hl 0 rfl) ?_
        refine lv_iload_n C.1.1 C.1.2.1 dX11_passesBy_15 rfl (lv_at hl 1 rfl) ?_
        refine lv_iload_n C.1.1 C.1.2.1 dX11_passesBy_16 rfl (lv_at hl 3 rfl) ?_
        obtain ⟨r3, hc4, h⟩ := bd1_some h
        refine w_callVi (k := 2) (As := [.int v1, .int z3]) (rest := []) C hW (c_X11_isDown g l  hc4) (by decide) rfl (EX_11 (by decide)) K_X11_100 (by decide +kernel) ⟨by decide, by decide⟩ ⟨Nat.le_refl _, Nat.le_refl _⟩ rfl hl.1 rfl (Nat.le_of_ble_eq_true rfl) dX11_passesBy_17 (fun H locs hW => ?_)
        obtain ⟨I5, hj7, h⟩ := bd1_some h
        have kJ6 : ∀ (H : Heap) (locs : List Loc) (ls : Array Slot), Ws g s I5 L H locs → lv_has ls 5 [(0, .ref (g.1 + 244)), (1, .int v1), (2, .int v2), (3, .int z3)] → W p l e (rmD 2) s m args below meth c H locs 0 0 Q (F0 m 119 ls []) := by
          intro H locs ls hW hl
          obtain ⟨x8, ex8⟩ : ∃ y : Int32, y = z3 + (1 : Int32) := ⟨_, rfl⟩
          replace h := nm_at ex8 h
          refine lv_iinc (v := x8) (lv' := [(3, .int x8), (0, .ref (g.1 + 244)), (1, .int v1), (2, .int v2)]) C.1.1 C.1.2.1 dX11_passesBy_119 hl (k := 3) rfl (by rw [ex8]; rfl) (by decide) rfl (fun ls hl => ?_)
          clear ex8
          refine lv_goto (tgt := 2) C.1.1 C.1.2.1 dX11_passesBy_122 (by decide) ?_
          obtain rfl := Option.some.inj h
          exact ih _ _ _ h9 _ _ _ hW (lv_sub hl [1, 2, 3, 0] rfl) hx0
        clear h
        have h := hj7
        clear hj7
        refine lv_if_ne (tgt := 119) C.1.1 C.1.2.1 dX11_passesBy_20 (by decide) (fun hc9 => ?_) (fun hc9 => ?_)
        · replace h := ite_f hc9 h
          obtain rfl := inj1 h
          exact kJ6 _ _ _ hW (lv_sub hl [0, 1, 2, 3] rfl)
        · replace h := ite_t hc9 h
          refine lv_aload_n C.1.1 C.1.2.1 dX11_passesBy_23 rfl (lv_at hl 0 rfl) ?_
          refine G_X11_7 C hW (by decide) dX11_passesBy_24 ?_
          refine lv_iload_n C.1.1 C.1.2.1 dX11_passesBy_27 rfl (lv_at hl 1 rfl) ?_
          refine lv_bipush (v := 37) C.1.1 C.1.2.1 dX11_passesBy_28 (by decide) ?_
          refine lv_iadd C.1.1 C.1.2.1 dX11_passesBy_30 ?_
          refine lv_iload_n C.1.1 C.1.2.1 dX11_passesBy_31 rfl (lv_at hl 3 rfl) ?_
          refine lv_iadd C.1.1 C.1.2.1 dX11_passesBy_32 ?_
          obtain ⟨hi10, h⟩ := gi_some h
          refine w_iald C hW (n := 1752) (by decide) (by decide) hi10 dX11_passesBy_33 ?_
          refine lv_aload_n C.1.1 C.1.2.1 dX11_passesBy_34 rfl (lv_at hl 0 rfl) ?_
          refine lv_iload_n C.1.1 C.1.2.1 dX11_passesBy_35 rfl (lv_at hl 1 rfl) ?_
          refine lv_iload_n C.1.1 C.1.2.1 dX11_passesBy_36 rfl (lv_at hl 3 rfl) ?_
          refine lv_iload_n C.1.1 C.1.2.1 dX11_passesBy_37 rfl (lv_at hl 2 rfl) ?_
          obtain ⟨r11, hc12, h⟩ := bd1_some h
          refine w_callVi (k := 3) (As := [.int v1, .int z3, .int v2]) (rest := [.int (I 245 ((v1 + (37 : Int32)) + z3).toNatClampNeg)]) C hW (c_X11_growthIn g l  hc12) (by decide) rfl (EX_11 (by decide)) K_X11_104 (by decide +kernel) ⟨by decide, by decide⟩ ⟨Nat.le_refl _, Nat.le_refl _⟩ rfl hl.1 rfl (Nat.le_of_ble_eq_true rfl) dX11_passesBy_38 (fun H locs hW => ?_)
          refine lv_iadd C.1.1 C.1.2.1 dX11_passesBy_41 ?_
          refine lv_topi (fun x13 ex13 => ?_)
          replace h := nm_at ex13 h
          clear ex13
          refine lv_istore (lv' := [(4, .int x13), (0, .ref (g.1 + 244)), (1, .int v1), (2, .int v2), (3, .int z3)]) C.1.1 C.1.2.1 dX11_passesBy_42 hl (by decide) rfl (fun ls hl => ?_)
          refine lv_aload_n C.1.1 C.1.2.1 dX11_passesBy_44 rfl (lv_at hl 1 rfl) ?_
          refine G_X11_7 C hW (by decide) dX11_passesBy_45 ?_
          refine lv_iload_n C.1.1 C.1.2.1 dX11_passesBy_48 rfl (lv_at hl 2 rfl) ?_
          refine lv_bipush (v := 37) C.1.1 C.1.2.1 dX11_passesBy_49 (by decide) ?_
          refine lv_iadd C.1.1 C.1.2.1 dX11_passesBy_51 ?_
          refine lv_iload_n C.1.1 C.1.2.1 dX11_passesBy_52 rfl (lv_at hl 4 rfl) ?_
          refine lv_iadd C.1.1 C.1.2.1 dX11_passesBy_53 ?_
          refine lv_iload C.1.1 C.1.2.1 dX11_passesBy_54 (lv_at hl 0 rfl) ?_
          refine lv_sipush (v := 999) C.1.1 C.1.2.1 dX11_passesBy_56 (by decide) ?_
          obtain ⟨y14, hj16, h⟩ := bd1_some h
          have kJ15 : ∀ (H : Heap) (locs : List Loc) (ls : Array Slot), Ws g s I L H locs → lv_has ls 5 [(0, .ref (g.1 + 244)), (1, .int v1), (2, .int v2), (3, .int z3)] → W p l e (rmD 2) s m args below meth c H locs 0 0 Q (F0 m 70 ls [.int y14, .int ((v1 + (37 : Int32)) + z3), .ref (g.1 + 245)]) := by
            intro H locs ls hW hl
            obtain ⟨hi17, h⟩ := gi_some h
            refine w_iast C hW (n := 1752) (by decide) (by decide) hi17 dX11_passesBy_70 (fun H locs hW => ?_)
            obtain ⟨I18, eI18, h⟩ := nm_some h
            rw [← eI18] at hW
            clear eI18
            refine lv_aload_n C.1.1 C.1.2.1 dX11_passesBy_71 rfl (lv_at hl 0 rfl) ?_
            refine G_X11_7 C hW (by decide) dX11_passesBy_72 ?_
            refine lv_iload_n C.1.1 C.1.2.1 dX11_passesBy_75 rfl (lv_at hl 1 rfl) ?_
            refine lv_bipush (v := 67) C.1.1 C.1.2.1 dX11_passesBy_76 (by decide) ?_
            refine lv_iadd C.1.1 C.1.2.1 dX11_passesBy_78 ?_
            refine lv_iload_n C.1.1 C.1.2.1 dX11_passesBy_79 rfl (lv_at hl 3 rfl) ?_
            refine lv_iadd C.1.1 C.1.2.1 dX11_passesBy_80 ?_
            refine lv_aload_n C.1.1 C.1.2.1 dX11_passesBy_81 rfl (lv_at hl 0 rfl) ?_
            refine G_X11_7 C hW (by decide) dX11_passesBy_82 ?_
            refine lv_iload_n C.1.1 C.1.2.1 dX11_passesBy_85 rfl (lv_at hl 1 rfl) ?_
            refine lv_bipush (v := 37) C.1.1 C.1.2.1 dX11_passesBy_86 (by decide) ?_
            refine lv_iadd C.1.1 C.1.2.1 dX11_passesBy_88 ?_
            refine lv_iload_n C.1.1 C.1.2.1 dX11_passesBy_89 rfl (lv_at hl 3 rfl) ?_
            refine lv_iadd C.1.1 C.1.2.1 dX11_passesBy_90 ?_
            obtain ⟨hi19, h⟩ := gi_some h
            refine w_iald C hW (n := 1752) (by decide) (by decide) hi19 dX11_passesBy_91 ?_
            refine lv_aload_n C.1.1 C.1.2.1 dX11_passesBy_92 rfl (lv_at hl 0 rfl) ?_
            refine G_X11_7 C hW (by decide) dX11_passesBy_93 ?_
            refine lv_iload_n C.1.1 C.1.2.1 dX11_passesBy_96 rfl (lv_at hl 1 rfl) ?_
            refine lv_bipush (v := 13) C.1.1 C.1.2.1 dX11_passesBy_97 (by decide) ?_
            refine lv_iadd C.1.1 C.1.2.1 dX11_passesBy_99 ?_
            refine lv_iload_n C.1.1 C.1.2.1 dX11_passesBy_100 rfl (lv_at hl 3 rfl) ?_
            refine lv_iadd C.1.1 C.1.2.1 dX11_passesBy_101 ?_
            obtain ⟨hi20, h⟩ := gi_some h
            refine w_iald C hW (n := 1752) (by decide) (by decide) hi20 dX11_passesBy_102 ?_
            obtain ⟨y21, hj23, h⟩ := bd1_some h
            have kJ22 : ∀ (H : Heap) (locs : List Loc) (ls : Array Slot), Ws g s I18 L H locs → lv_has ls 5 [(0, .ref (g.1 + 244)), (1, .int v1), (2, .int v2), (3, .int z3)] → W p l e (rmD 2) s m args below meth c H locs 0 0 Q (F0 m 118 ls [.int y21, .int ((v1 + (67 : Int32)) + z3), .ref (g.1 + 245)]) := by
              intro H locs ls hW hl
              obtain ⟨hi24, h⟩ := gi_some h
              refine w_iast C hW (n := 1752) (by decide) (by decide) hi24 dX11_passesBy_118 (fun H locs hW => ?_)
              obtain ⟨I25, eI25, h⟩ := nm_some h
              rw [← eI25] at hW
              clear eI25
              obtain rfl := inj1 h
              exact kJ6 _ _ _ hW (lv_sub hl [0, 1, 2, 3] rfl)
            clear h
            have h := hj23
            clear hj23
            refine lv_icmp_lt (tgt := 117) C.1.1 C.1.2.1 dX11_passesBy_103 (by decide) (fun hc26 => ?_) (fun hc26 => ?_)
            · replace h := ite_t hc26 h
              refine lv_iconst (v := -1) C.1.1 C.1.2.1 dX11_passesBy_117 (by decide) ?_
              obtain rfl := inj1 h
              exact kJ22 _ _ _ hW (lv_sub hl [0, 1, 2, 3] rfl)
            · replace h := ite_f hc26 h
              refine lv_aload_n C.1.1 C.1.2.1 dX11_passesBy_106 rfl (lv_at hl 0 rfl) ?_
              refine G_X11_7 C hW (by decide) dX11_passesBy_107 ?_
              refine lv_iload_n C.1.1 C.1.2.1 dX11_passesBy_110 rfl (lv_at hl 1 rfl) ?_
              refine lv_iconst (v := 4) C.1.1 C.1.2.1 dX11_passesBy_111 (by decide) ?_
              refine lv_iadd C.1.1 C.1.2.1 dX11_passesBy_112 ?_
              obtain ⟨hi27, h⟩ := gi_some h
              refine w_iald C hW (n := 1752) (by decide) (by decide) hi27 dX11_passesBy_113 ?_
              refine lv_goto (tgt := 118) C.1.1 C.1.2.1 dX11_passesBy_114 (by decide) ?_
              obtain rfl := inj1 h
              exact kJ22 _ _ _ hW (lv_sub hl [0, 1, 2, 3] rfl)
          clear h
          have h := hj16
          clear hj16
          refine lv_icmp_le (tgt := 68) C.1.1 C.1.2.1 dX11_passesBy_59 (by decide) (fun hc28 => ?_) (fun hc28 => ?_)
          · replace h := ite_t hc28 h
            refine lv_iload C.1.1 C.1.2.1 dX11_passesBy_68 (lv_at hl 0 rfl) ?_
            obtain rfl := inj1 h
            exact kJ15 _ _ _ hW (lv_sub hl [1, 2, 3, 4] rfl)
          · replace h := ite_f hc28 h
            refine lv_sipush (v := 999) C.1.1 C.1.2.1 dX11_passesBy_62 (by decide) ?_
            refine lv_goto (tgt := 70) C.1.1 C.1.2.1 dX11_passesBy_65 (by decide) ?_
            obtain rfl := inj1 h
            exact kJ15 _ _ _ hW (lv_sub hl [1, 2, 3, 4] rfl)
def f_X11_passesBy (a1 : Int32) (a2 : Int32) (I : MI) (L : ML) : Option (MI) :=
  bd1 (lp (fun s => b_X11_passesBy_2 a1 a2 L s.1 s.2) FU (((0 : Int32), I))) (fun I30 => gi (a1 + (5 : Int32)) 1752 (nm (up2 I30 245 ((a1 + (5 : Int32)).toNatClampNeg) a2) (fun I32 => gi (a1 + (4 : Int32)) 1752 (gi (a1 + (4 : Int32)) 1752 (nm (up2 I32 245 ((a1 + (4 : Int32)).toNatClampNeg) ((I32 245 (a1 + (4 : Int32)).toNatClampNeg) + (1 : Int32))) (fun I35 => some I35))))))
set_option maxHeartbeats 4000000 in
set_option maxRecDepth 100000 in
theorem c_X11_passesBy (g : Gp) (l : Launch) {a1 : Int32} {a2 : Int32}  {I : MI} {L : ML} {I' : MI} (h : f_X11_passesBy a1 a2 I L = some I') : MetV g l yX11_passesBy cX11_passesBy 5 2 [.ref (g.1 + 244), .int a1, .int a2] I L I' L := by
  unfold f_X11_passesBy at h
  refine w_enter (by decide) (Nat.le_of_ble_eq_true rfl) (own := RX11) rfl ?_
  intro p e s m below meth c args Q hQ C hr hlocks hW ls hl
  have hl : lv_has ls 5 [(0, .ref (g.1 + 244)), (1, .int a1), (2, .int a2)] := hl
  refine lv_iconst (v := 0) C.1.1 C.1.2.1 dX11_passesBy_0 (by decide) ?_
  refine lv_istore_n (lv' := [(3, .int (0 : Int32)), (0, .ref (g.1 + 244)), (1, .int a1), (2, .int a2)]) C.1.1 C.1.2.1 dX11_passesBy_1 rfl hl (by decide) rfl (fun ls hl => ?_)
  obtain ⟨I30, hq29, h⟩ := bd1_some h
  refine l_X11_passesBy_2 C a1 a2  L _ _ _ _ hq29 _ _ _ hW (lv_sub hl [1, 2, 3, 0] rfl) (fun H locs ls hW hl => ?_)
  refine lv_aload_n C.1.1 C.1.2.1 dX11_passesBy_125 rfl (lv_at hl 0 rfl) ?_
  refine G_X11_7 C hW (by decide) dX11_passesBy_126 ?_
  refine lv_iload_n C.1.1 C.1.2.1 dX11_passesBy_129 rfl (lv_at hl 1 rfl) ?_
  refine lv_iconst (v := 5) C.1.1 C.1.2.1 dX11_passesBy_130 (by decide) ?_
  refine lv_iadd C.1.1 C.1.2.1 dX11_passesBy_131 ?_
  refine lv_iload_n C.1.1 C.1.2.1 dX11_passesBy_132 rfl (lv_at hl 2 rfl) ?_
  obtain ⟨hi31, h⟩ := gi_some h
  refine w_iast C hW (n := 1752) (by decide) (by decide) hi31 dX11_passesBy_133 (fun H locs hW => ?_)
  obtain ⟨I32, eI32, h⟩ := nm_some h
  rw [← eI32] at hW
  clear eI32
  refine lv_aload_n C.1.1 C.1.2.1 dX11_passesBy_134 rfl (lv_at hl 0 rfl) ?_
  refine G_X11_7 C hW (by decide) dX11_passesBy_135 ?_
  refine lv_iload_n C.1.1 C.1.2.1 dX11_passesBy_138 rfl (lv_at hl 1 rfl) ?_
  refine lv_iconst (v := 4) C.1.1 C.1.2.1 dX11_passesBy_139 (by decide) ?_
  refine lv_iadd C.1.1 C.1.2.1 dX11_passesBy_140 ?_
  refine lv_dup2_11 C.1.1 C.1.2.1 dX11_passesBy_141 rfl rfl ?_
  obtain ⟨hi33, h⟩ := gi_some h
  refine w_iald C hW (n := 1752) (by decide) (by decide) hi33 dX11_passesBy_142 ?_
  refine lv_iconst (v := 1) C.1.1 C.1.2.1 dX11_passesBy_143 (by decide) ?_
  refine lv_iadd C.1.1 C.1.2.1 dX11_passesBy_144 ?_
  obtain ⟨hi34, h⟩ := gi_some h
  refine w_iast C hW (n := 1752) (by decide) (by decide) hi34 dX11_passesBy_145 (fun H locs hW => ?_)
  obtain ⟨I35, eI35, h⟩ := nm_some h
  rw [← eI35] at hW
  clear eI35
  obtain rfl := inj1 h
  subst hQ
  exact w_vret C hW hr hlocks dX11_passesBy_146
def f_X11_passes (a1 : Int32) (I : MI) (L : ML) : Option (MI) :=
  gi (a1 + (6 : Int32)) 1752 (nm (((I 245 (a1 + (6 : Int32)).toNatClampNeg).toInt64) * (16807 : Int64)) (fun x2 => gi (a1 + (6 : Int32)) 1752 (nm (up2 I 245 ((a1 + (6 : Int32)).toNatClampNeg) ((x2 - x2 / (2147483647 : Int64) * (2147483647 : Int64)).toInt32)) (fun I4 => gi (a1 + (6 : Int32)) 1752 (nm (I4 245 (a1 + (6 : Int32)).toNatClampNeg) (fun x6 => bd1 (f_X11_passesBy a1 (x6 - x6 / (3 : Int32) * (3 : Int32)) I4 L) (fun I7 => some I7)))))))
set_option maxHeartbeats 4000000 in
set_option maxRecDepth 100000 in
theorem c_X11_passes (g : Gp) (l : Launch) {a1 : Int32}  {I : MI} {L : ML} {I' : MI} (h : f_X11_passes a1 I L = some I') : MetV g l yX11_passes cX11_passes 2 3 [.ref (g.1 + 244), .int a1] I L I' L := by
  unfold f_X11_passes at h
  refine w_enter (by decide) (Nat.le_of_ble_eq_true rfl) (own := RX11) rfl ?_
  intro p e s m below meth c args Q hQ C hr hlocks hW ls hl
  have hl : lv_has ls 2 [(0, .ref (g.1 + 244)), (1, .int a1)] := hl
  refine lv_aload_n C.1.1 C.1.2.1 dX11_passes_0 rfl (lv_at hl 0 rfl) ?_
  refine G_X11_7 C hW (by decide) dX11_passes_1 ?_
  refine lv_iload_n C.1.1 C.1.2.1 dX11_passes_4 rfl (lv_at hl 1 rfl) ?_
  refine lv_bipush (v := 6) C.1.1 C.1.2.1 dX11_passes_5 (by decide) ?_
  refine lv_iadd C.1.1 C.1.2.1 dX11_passes_7 ?_
  refine lv_aload_n C.1.1 C.1.2.1 dX11_passes_8 rfl (lv_at hl 0 rfl) ?_
  refine G_X11_7 C hW (by decide) dX11_passes_9 ?_
  refine lv_iload_n C.1.1 C.1.2.1 dX11_passes_12 rfl (lv_at hl 1 rfl) ?_
  refine lv_bipush (v := 6) C.1.1 C.1.2.1 dX11_passes_13 (by decide) ?_
  refine lv_iadd C.1.1 C.1.2.1 dX11_passes_15 ?_
  obtain ⟨hi1, h⟩ := gi_some h
  refine w_iald C hW (n := 1752) (by decide) (by decide) hi1 dX11_passes_16 ?_
  refine lv_i2l C.1.1 C.1.2.1 dX11_passes_17 rfl ?_
  refine lv_ldc2 C.1.1 C.1.2.1 C.1.2.2.2.1 (C.1.2.2.2.2 _ kl_X11_108) dX11_passes_18 ?_
  refine lv_lmul C.1.1 C.1.2.1 dX11_passes_21 ?_
  refine lv_ldc2 C.1.1 C.1.2.1 C.1.2.2.2.1 (C.1.2.2.2.2 _ kl_X11_110) dX11_passes_22 ?_
  obtain ⟨x2, ex2⟩ : ∃ y, y = ((I 245 (a1 + (6 : Int32)).toNatClampNeg).toInt64) * (16807 : Int64) := ⟨_, rfl⟩
  rw [← ex2]
  replace h := nm_at ex2 h
  clear ex2
  refine lv_lrem C.1.1 C.1.2.1 dX11_passes_25 (by decide) ?_
  refine lv_l2i C.1.1 C.1.2.1 dX11_passes_26 rfl ?_
  obtain ⟨hi3, h⟩ := gi_some h
  refine w_iast C hW (n := 1752) (by decide) (by decide) hi3 dX11_passes_27 (fun H locs hW => ?_)
  obtain ⟨I4, eI4, h⟩ := nm_some h
  rw [← eI4] at hW
  clear eI4
  refine lv_aload_n C.1.1 C.1.2.1 dX11_passes_28 rfl (lv_at hl 0 rfl) ?_
  refine lv_iload_n C.1.1 C.1.2.1 dX11_passes_29 rfl (lv_at hl 1 rfl) ?_
  refine lv_aload_n C.1.1 C.1.2.1 dX11_passes_30 rfl (lv_at hl 0 rfl) ?_
  refine G_X11_7 C hW (by decide) dX11_passes_31 ?_
  refine lv_iload_n C.1.1 C.1.2.1 dX11_passes_34 rfl (lv_at hl 1 rfl) ?_
  refine lv_bipush (v := 6) C.1.1 C.1.2.1 dX11_passes_35 (by decide) ?_
  refine lv_iadd C.1.1 C.1.2.1 dX11_passes_37 ?_
  obtain ⟨hi5, h⟩ := gi_some h
  refine w_iald C hW (n := 1752) (by decide) (by decide) hi5 dX11_passes_38 ?_
  refine lv_iconst (v := 3) C.1.1 C.1.2.1 dX11_passes_39 (by decide) ?_
  obtain ⟨x6, ex6⟩ : ∃ y, y = I4 245 (a1 + (6 : Int32)).toNatClampNeg := ⟨_, rfl⟩
  rw [← ex6]
  replace h := nm_at ex6 h
  clear ex6
  refine lv_irem C.1.1 C.1.2.1 dX11_passes_40 (by decide) ?_
  obtain ⟨I7, hc8, h⟩ := bd1_some h
  refine w_callVv (k := 2) (As := [.int a1, .int (x6 - x6 / (3 : Int32) * (3 : Int32))]) (rest := []) C hW (c_X11_passesBy g l  hc8) (by decide) rfl (EX_11 (by decide)) K_X11_112 (by decide +kernel) ⟨by decide, by decide⟩ ⟨Nat.le_refl _, Nat.le_refl _⟩ rfl hl.1 rfl (Nat.le_of_ble_eq_true rfl) dX11_passes_41 (fun H locs hW => ?_)
  obtain rfl := inj1 h
  subst hQ
  exact w_vret C hW hr hlocks dX11_passes_44
def f_X11_eats (a1 : Int32) (a2 : Int32) (I : MI) (L : ML) : Option (MI) :=
  bd1 (f_X11_isDown a1 a2 I L) (fun r1 => bd1 ((if r1 = 0 then gi ((a1 + (43 : Int32)) + a2) 1752 ((if (I 245 ((a1 + (43 : Int32)) + a2).toNatClampNeg) ≤ 0 then some I else gi ((a1 + (43 : Int32)) + a2) 1752 (gi ((a1 + (43 : Int32)) + a2) 1752 (nm (up2 I 245 (((a1 + (43 : Int32)) + a2).toNatClampNeg) ((I 245 ((a1 + (43 : Int32)) + a2).toNatClampNeg) - (1 : Int32))) (fun I11 => gi ((a1 + (37 : Int32)) + a2) 1752 (bd1 ((if (I11 245 ((a1 + (37 : Int32)) + a2).toNatClampNeg) ≤ (6 : Int32) then some (0 : Int32) else gi ((a1 + (37 : Int32)) + a2) 1752 (some ((I11 245 ((a1 + (37 : Int32)) + a2).toNatClampNeg) - (6 : Int32))))) (fun y13 => gi ((a1 + (37 : Int32)) + a2) 1752 (nm (up2 I11 245 (((a1 + (37 : Int32)) + a2).toNatClampNeg) y13) (fun I17 => some I17))))))))) else some I)) (fun I3 => some I3))
set_option maxHeartbeats 4000000 in
set_option maxRecDepth 100000 in
theorem c_X11_eats (g : Gp) (l : Launch) {a1 : Int32} {a2 : Int32}  {I : MI} {L : ML} {I' : MI} (h : f_X11_eats a1 a2 I L = some I') : MetV g l yX11_eats cX11_eats 3 1 [.ref (g.1 + 244), .int a1, .int a2] I L I' L := by
  unfold f_X11_eats at h
  refine w_enter (by decide) (Nat.le_of_ble_eq_true rfl) (own := RX11) rfl ?_
  intro p e s m below meth c args Q hQ C hr hlocks hW ls hl
  have hl : lv_has ls 3 [(0, .ref (g.1 + 244)), (1, .int a1), (2, .int a2)] := hl
  refine lv_aload_n C.1.1 C.1.2.1 dX11_eats_0 rfl (lv_at hl 0 rfl) ?_
  refine lv_iload_n C.1.1 C.1.2.1 dX11_eats_1 rfl (lv_at hl 1 rfl) ?_
  refine lv_iload_n C.1.1 C.1.2.1 dX11_eats_2 rfl (lv_at hl 2 rfl) ?_
  obtain ⟨r1, hc2, h⟩ := bd1_some h
  refine w_callVi (k := 2) (As := [.int a1, .int a2]) (rest := []) C hW (c_X11_isDown g l  hc2) (by decide) rfl (EX_11 (by decide)) K_X11_100 (by decide +kernel) ⟨by decide, by decide⟩ ⟨Nat.le_refl _, Nat.le_refl _⟩ rfl hl.1 rfl (Nat.le_of_ble_eq_true rfl) dX11_eats_3 (fun H locs hW => ?_)
  obtain ⟨I3, hj5, h⟩ := bd1_some h
  have kJ4 : ∀ (H : Heap) (locs : List Loc) (ls : Array Slot), Ws g s I3 L H locs → lv_has ls 3 [] → W p l e (rmD 1) s m args below meth c H locs 0 0 Q (F0 m 83 ls []) := by
    intro H locs ls hW hl
    obtain rfl := inj1 h
    subst hQ
    exact w_vret C hW hr hlocks dX11_eats_83
  clear h
  have h := hj5
  clear hj5
  refine lv_if_ne (tgt := 83) C.1.1 C.1.2.1 dX11_eats_6 (by decide) (fun hc6 => ?_) (fun hc6 => ?_)
  · replace h := ite_f hc6 h
    obtain rfl := inj1 h
    exact kJ4 _ _ _ hW (lv_sub hl [] rfl)
  · replace h := ite_t hc6 h
    refine lv_aload_n C.1.1 C.1.2.1 dX11_eats_9 rfl (lv_at hl 0 rfl) ?_
    refine G_X11_7 C hW (by decide) dX11_eats_10 ?_
    refine lv_iload_n C.1.1 C.1.2.1 dX11_eats_13 rfl (lv_at hl 1 rfl) ?_
    refine lv_bipush (v := 43) C.1.1 C.1.2.1 dX11_eats_14 (by decide) ?_
    refine lv_iadd C.1.1 C.1.2.1 dX11_eats_16 ?_
    refine lv_iload_n C.1.1 C.1.2.1 dX11_eats_17 rfl (lv_at hl 2 rfl) ?_
    refine lv_iadd C.1.1 C.1.2.1 dX11_eats_18 ?_
    obtain ⟨hi7, h⟩ := gi_some h
    refine w_iald C hW (n := 1752) (by decide) (by decide) hi7 dX11_eats_19 ?_
    refine lv_if_le (tgt := 83) C.1.1 C.1.2.1 dX11_eats_20 (by decide) (fun hc8 => ?_) (fun hc8 => ?_)
    · replace h := ite_t hc8 h
      obtain rfl := inj1 h
      exact kJ4 _ _ _ hW (lv_sub hl [] rfl)
    · replace h := ite_f hc8 h
      refine lv_aload_n C.1.1 C.1.2.1 dX11_eats_23 rfl (lv_at hl 0 rfl) ?_
      refine G_X11_7 C hW (by decide) dX11_eats_24 ?_
      refine lv_iload_n C.1.1 C.1.2.1 dX11_eats_27 rfl (lv_at hl 1 rfl) ?_
      refine lv_bipush (v := 43) C.1.1 C.1.2.1 dX11_eats_28 (by decide) ?_
      refine lv_iadd C.1.1 C.1.2.1 dX11_eats_30 ?_
      refine lv_iload_n C.1.1 C.1.2.1 dX11_eats_31 rfl (lv_at hl 2 rfl) ?_
      refine lv_iadd C.1.1 C.1.2.1 dX11_eats_32 ?_
      refine lv_dup2_11 C.1.1 C.1.2.1 dX11_eats_33 rfl rfl ?_
      obtain ⟨hi9, h⟩ := gi_some h
      refine w_iald C hW (n := 1752) (by decide) (by decide) hi9 dX11_eats_34 ?_
      refine lv_iconst (v := 1) C.1.1 C.1.2.1 dX11_eats_35 (by decide) ?_
      refine lv_isub C.1.1 C.1.2.1 dX11_eats_36 ?_
      obtain ⟨hi10, h⟩ := gi_some h
      refine w_iast C hW (n := 1752) (by decide) (by decide) hi10 dX11_eats_37 (fun H locs hW => ?_)
      obtain ⟨I11, eI11, h⟩ := nm_some h
      rw [← eI11] at hW
      clear eI11
      refine lv_aload_n C.1.1 C.1.2.1 dX11_eats_38 rfl (lv_at hl 0 rfl) ?_
      refine G_X11_7 C hW (by decide) dX11_eats_39 ?_
      refine lv_iload_n C.1.1 C.1.2.1 dX11_eats_42 rfl (lv_at hl 1 rfl) ?_
      refine lv_bipush (v := 37) C.1.1 C.1.2.1 dX11_eats_43 (by decide) ?_
      refine lv_iadd C.1.1 C.1.2.1 dX11_eats_45 ?_
      refine lv_iload_n C.1.1 C.1.2.1 dX11_eats_46 rfl (lv_at hl 2 rfl) ?_
      refine lv_iadd C.1.1 C.1.2.1 dX11_eats_47 ?_
      refine lv_aload_n C.1.1 C.1.2.1 dX11_eats_48 rfl (lv_at hl 0 rfl) ?_
      refine G_X11_7 C hW (by decide) dX11_eats_49 ?_
      refine lv_iload_n C.1.1 C.1.2.1 dX11_eats_52 rfl (lv_at hl 1 rfl) ?_
      refine lv_bipush (v := 37) C.1.1 C.1.2.1 dX11_eats_53 (by decide) ?_
      refine lv_iadd C.1.1 C.1.2.1 dX11_eats_55 ?_
      refine lv_iload_n C.1.1 C.1.2.1 dX11_eats_56 rfl (lv_at hl 2 rfl) ?_
      refine lv_iadd C.1.1 C.1.2.1 dX11_eats_57 ?_
      obtain ⟨hi12, h⟩ := gi_some h
      refine w_iald C hW (n := 1752) (by decide) (by decide) hi12 dX11_eats_58 ?_
      refine lv_bipush (v := 6) C.1.1 C.1.2.1 dX11_eats_59 (by decide) ?_
      obtain ⟨y13, hj15, h⟩ := bd1_some h
      have kJ14 : ∀ (H : Heap) (locs : List Loc) (ls : Array Slot), Ws g s I11 L H locs → lv_has ls 3 [] → W p l e (rmD 1) s m args below meth c H locs 0 0 Q (F0 m 82 ls [.int y13, .int ((a1 + (37 : Int32)) + a2), .ref (g.1 + 245)]) := by
        intro H locs ls hW hl
        obtain ⟨hi16, h⟩ := gi_some h
        refine w_iast C hW (n := 1752) (by decide) (by decide) hi16 dX11_eats_82 (fun H locs hW => ?_)
        obtain ⟨I17, eI17, h⟩ := nm_some h
        rw [← eI17] at hW
        clear eI17
        obtain rfl := inj1 h
        exact kJ4 _ _ _ hW (lv_sub hl [] rfl)
      clear h
      have h := hj15
      clear hj15
      refine lv_icmp_le (tgt := 81) C.1.1 C.1.2.1 dX11_eats_61 (by decide) (fun hc18 => ?_) (fun hc18 => ?_)
      · replace h := ite_t hc18 h
        refine lv_iconst (v := 0) C.1.1 C.1.2.1 dX11_eats_81 (by decide) ?_
        obtain rfl := inj1 h
        exact kJ14 _ _ _ hW (lv_sub hl [] rfl)
      · replace h := ite_f hc18 h
        refine lv_aload_n C.1.1 C.1.2.1 dX11_eats_64 rfl (lv_at hl 0 rfl) ?_
        refine G_X11_7 C hW (by decide) dX11_eats_65 ?_
        refine lv_iload_n C.1.1 C.1.2.1 dX11_eats_68 rfl (lv_at hl 1 rfl) ?_
        refine lv_bipush (v := 37) C.1.1 C.1.2.1 dX11_eats_69 (by decide) ?_
        refine lv_iadd C.1.1 C.1.2.1 dX11_eats_71 ?_
        refine lv_iload_n C.1.1 C.1.2.1 dX11_eats_72 rfl (lv_at hl 2 rfl) ?_
        refine lv_iadd C.1.1 C.1.2.1 dX11_eats_73 ?_
        obtain ⟨hi19, h⟩ := gi_some h
        refine w_iald C hW (n := 1752) (by decide) (by decide) hi19 dX11_eats_74 ?_
        refine lv_bipush (v := 6) C.1.1 C.1.2.1 dX11_eats_75 (by decide) ?_
        refine lv_isub C.1.1 C.1.2.1 dX11_eats_77 ?_
        refine lv_goto (tgt := 82) C.1.1 C.1.2.1 dX11_eats_78 (by decide) ?_
        obtain rfl := inj1 h
        exact kJ14 _ _ _ hW (lv_sub hl [] rfl)
