def f_X10_isDark (a1 : Int32) (a2 : Int32) : Option (Int32) :=
  bd1 ((if (a1 - a1 / (24 : Int32) * (24 : Int32)) < a2 then some (0 : Int32) else some (1 : Int32))) (fun y1 => gd (y1 = 0 ∨ y1 = 1) (some y1))
set_option maxHeartbeats 4000000 in
set_option maxRecDepth 100000 in
theorem c_X10_isDark (g : Gp) (l : Launch) {a1 : Int32} {a2 : Int32}  {r : Int32} (h : f_X10_isDark a1 a2 = some r) (I : MI) (L : ML) : MetI g l yX10_isDark cX10_isDark 2 .boolean 0 [.int a1, .int a2] I L r I L := by
  unfold f_X10_isDark at h
  refine w_enter (by decide) (Nat.le_of_ble_eq_true rfl) (own := RX10) rfl ?_
  intro p e s m below meth c args Q hQ C hr hlocks hW ls hl
  have hl : lv_has ls 2 [(0, .int a1), (1, .int a2)] := hl
  refine lv_iload_n C.1.1 C.1.2.1 dX10_isDark_0 rfl (lv_at hl 0 rfl) ?_
  refine lv_bipush (v := 24) C.1.1 C.1.2.1 dX10_isDark_1 (by decide) ?_
  refine lv_irem C.1.1 C.1.2.1 dX10_isDark_3 (by decide) ?_
  refine lv_iload_n C.1.1 C.1.2.1 dX10_isDark_4 rfl (lv_at hl 1 rfl) ?_
  obtain ⟨y1, hj3, h⟩ := bd1_some h
  have kJ2 : ∀ (H : Heap) (locs : List Loc) (ls : Array Slot), Ws g s I L H locs → lv_has ls 2 [] → W p l e (rmD 0) s m args below meth c H locs 0 0 Q (F0 m 13 ls [.int y1]) := by
    intro H locs ls hW hl
    obtain ⟨hb4, h⟩ := gd_some h
    obtain rfl := inj1 h
    subst hQ
    exact w_zret C hW hr hlocks hb4 dX10_isDark_13
  clear h
  have h := hj3
  clear hj3
  refine lv_icmp_lt (tgt := 12) C.1.1 C.1.2.1 dX10_isDark_5 (by decide) (fun hc5 => ?_) (fun hc5 => ?_)
  · replace h := ite_t hc5 h
    refine lv_iconst (v := 0) C.1.1 C.1.2.1 dX10_isDark_12 (by decide) ?_
    obtain rfl := inj1 h
    exact kJ2 _ _ _ hW (lv_sub hl [] rfl)
  · replace h := ite_f hc5 h
    refine lv_iconst (v := 1) C.1.1 C.1.2.1 dX10_isDark_8 (by decide) ?_
    refine lv_goto (tgt := 13) C.1.1 C.1.2.1 dX10_isDark_9 (by decide) ?_
    obtain rfl := inj1 h
    exact kJ2 _ _ _ hW (lv_sub hl [] rfl)
def b_X0_weigh_18 (v1 : Nat) (L : ML) (z4 : Int32) (I : MI) : Option ((Int32 × MI) ⊕ ((MI))) :=
  (if (I 212 3) ≤ z4 then some (Sum.inr I) else bd1 (f_X10_isDark ((I v1 4) + z4) (I v1 2)) (fun r4 => gi z4 10 (gd (r4 = 0 ∨ r4 = 1) (nm (up2 I 213 z4.toNatClampNeg r4) (fun I8 => nm (z4 + (1 : Int32)) (fun x9 => some (Sum.inl (x9, I8))))))))
set_option maxHeartbeats 4000000 in
set_option maxRecDepth 100000 in
theorem l_X0_weigh_18 {g : Gp} {p : Program} {l : Launch} {e : Env} {s : State} {m : MethodId} {args : Array Value} {below : List Frame} {meth : Method} {c : Code} {Q : State → Prop}  (C : Cx g p s m args c RX0 cX0_weigh 5) (v1 : Nat) (hv1 : kd v1 = 9) (L : ML) : ∀ (n : Nat) (z4 : Int32) (I : MI) (Iy0 : MI), lp (fun s => b_X0_weigh_18 v1 L s.1 s.2) n (z4, I) = some Iy0 → ∀ (H : Heap) (locs : List Loc) (ls : Array Slot), Ws g s I L H locs → lv_has ls 5 [(0, .ref (g.1 + 212)), (1, .ref (g.1 + v1)), (4, .int z4)] → (∀ (H : Heap) (locs : List Loc) (ls : Array Slot), Ws g s Iy0 L H locs → lv_has ls 5 [] → W p l e (rmD 1) s m args below meth c H locs 0 0 Q (F0 m 54 ls [])) → W p l e (rmD 1) s m args below meth c H locs 0 0 Q (F0 m 18 ls []) := by
  intro n
  induction n with
  | zero => intro z4 I Iy0 h; exact lp_zero h
  | succ n ih =>
      intro z4 I Iy0 h H locs ls hW hl hx0
      obtain ⟨r9, h, h9⟩ := lp_some h
      have h : b_X0_weigh_18 v1 L z4 I = some r9 := h
      unfold b_X0_weigh_18 at h
      refine lv_iload C.1.1 C.1.2.1 dX0_weigh_18 (lv_at hl 2 rfl) ?_
      refine lv_aload_n C.1.1 C.1.2.1 dX0_weigh_20 rfl (lv_at hl 0 rfl) ?_
      refine G_X0_29 C hW (by decide) dX0_weigh_21 ?_
      refine lv_icmp_ge (tgt := 54) C.1.1 C.1.2.1 dX0_weigh_24 (by decide) (fun hc3 => ?_) (fun hc3 => ?_)
      · replace h := ite_t hc3 h
        obtain rfl := Option.some.inj h
        replace h9 := Option.some.inj h9
        obtain rfl := pnj1 h9
        exact hx0 _ _ _ hW (lv_sub hl [] rfl)
      · replace h := ite_f hc3 h
        refine lv_aload_n C.1.1 C.1.2.1 dX0_weigh_27 rfl (lv_at hl 0 rfl) ?_
        refine G_X0_9 C hW (by decide) dX0_weigh_28 ?_
        refine lv_iload C.1.1 C.1.2.1 dX0_weigh_31 (lv_at hl 2 rfl) ?_
        refine lv_aload_n C.1.1 C.1.2.1 dX0_weigh_33 rfl (lv_at hl 1 rfl) ?_
        refine G_X0_36 C hW hv1 dX0_weigh_34 ?_
        refine lv_iload C.1.1 C.1.2.1 dX0_weigh_37 (lv_at hl 2 rfl) ?_
        refine lv_iadd C.1.1 C.1.2.1 dX0_weigh_39 ?_
        refine lv_aload_n C.1.1 C.1.2.1 dX0_weigh_40 rfl (lv_at hl 1 rfl) ?_
        refine G_X0_41 C hW hv1 dX0_weigh_41 ?_
        obtain ⟨r4, hc5, h⟩ := bd1_some h
        refine w_callNi (k := 2) (As := [.int ((I v1 4) + z4), .int (I v1 2)]) (rest := [.int z4, .ref (g.1 + 213)]) C hW (c_X10_isDark g l  hc5 I L) (good_U cd_X10_isDark) N_X0_44 ns_X10_isDark ni_X10 (by decide +kernel) ⟨by decide, by decide⟩ ⟨Nat.le_refl _, Nat.le_refl _⟩ rfl hl.1 rfl (Nat.le_of_ble_eq_true rfl) dX0_weigh_44 (fun H locs hW => ?_)
        obtain ⟨hi6, h⟩ := gi_some h
        obtain ⟨hb7, h⟩ := gd_some h
        refine w_zast C hW (n := 10) (by decide) (by decide) hi6 hb7 dX0_weigh_47 (fun H locs hW => ?_)
        obtain ⟨I8, eI8, h⟩ := nm_some h
        rw [← eI8] at hW
        clear eI8
        obtain ⟨x9, ex9⟩ : ∃ y : Int32, y = z4 + (1 : Int32) := ⟨_, rfl⟩
        replace h := nm_at ex9 h
        refine lv_iinc (v := x9) (lv' := [(4, .int x9), (0, .ref (g.1 + 212)), (1, .ref (g.1 + v1))]) C.1.1 C.1.2.1 dX0_weigh_48 hl (k := 2) rfl (by rw [ex9]; rfl) (by decide) rfl (fun ls hl => ?_)
        clear ex9
        refine lv_goto (tgt := 18) C.1.1 C.1.2.1 dX0_weigh_51 (by decide) ?_
        obtain rfl := Option.some.inj h
        exact ih _ _ _ h9 _ _ _ hW (lv_sub hl [1, 2, 0] rfl) hx0
def f_X0_weigh (a1 : Nat) (a2 : Int32) (a3 : Int32) (I : MI) (L : ML) : Option (MI) :=
  nm (up2 I 212 3 (mmin a2 (10 : Int32))) (fun I1 => nm (up2 I1 212 4 a3) (fun I2 => bd1 (lp (fun s => b_X0_weigh_18 a1 L s.1 s.2) FU (((0 : Int32), I2))) (fun I11 => some I11)))
set_option maxHeartbeats 4000000 in
set_option maxRecDepth 100000 in
theorem c_X0_weigh (g : Gp) (l : Launch) {a1 : Nat} {a2 : Int32} {a3 : Int32} (ha1 : kd a1 = 9) {I : MI} {L : ML} {I' : MI} (h : f_X0_weigh a1 a2 a3 I L = some I') : MetV g l yX0_weigh cX0_weigh 5 1 [.ref (g.1 + 212), .ref (g.1 + a1), .int a2, .int a3] I L I' L := by
  unfold f_X0_weigh at h
  refine w_enter (by decide) (Nat.le_of_ble_eq_true rfl) (own := RX0) rfl ?_
  intro p e s m below meth c args Q hQ C hr hlocks hW ls hl
  have hl : lv_has ls 5 [(0, .ref (g.1 + 212)), (1, .ref (g.1 + a1)), (2, .int a2), (3, .int a3)] := hl
  refine lv_aload_n C.1.1 C.1.2.1 dX0_weigh_0 rfl (lv_at hl 0 rfl) ?_
  refine lv_iload_n C.1.1 C.1.2.1 dX0_weigh_1 rfl (lv_at hl 2 rfl) ?_
  refine lv_bipush (v := 10) C.1.1 C.1.2.1 dX0_weigh_2 (by decide) ?_
  refine M_X0_23 (rest := [.ref (g.1 + 212)]) C hl.1 ⟨by decide, Nat.le_of_ble_eq_true rfl⟩ ⟨Nat.le_refl _, Nat.le_refl _⟩ dX0_weigh_4 ?_
  refine P_X0_29 C hW (by decide) dX0_weigh_7 (fun H locs hW => ?_)
  obtain ⟨I1, eI1, h⟩ := nm_some h
  rw [← eI1] at hW
  clear eI1
  refine lv_aload_n C.1.1 C.1.2.1 dX0_weigh_10 rfl (lv_at hl 0 rfl) ?_
  refine lv_iload_n C.1.1 C.1.2.1 dX0_weigh_11 rfl (lv_at hl 3 rfl) ?_
  refine P_X0_33 C hW (by decide) dX0_weigh_12 (fun H locs hW => ?_)
  obtain ⟨I2, eI2, h⟩ := nm_some h
  rw [← eI2] at hW
  clear eI2
  refine lv_iconst (v := 0) C.1.1 C.1.2.1 dX0_weigh_15 (by decide) ?_
  refine lv_istore (lv' := [(4, .int (0 : Int32)), (0, .ref (g.1 + 212)), (1, .ref (g.1 + a1)), (2, .int a2), (3, .int a3)]) C.1.1 C.1.2.1 dX0_weigh_16 hl (by decide) rfl (fun ls hl => ?_)
  obtain ⟨I11, hq10, h⟩ := bd1_some h
  refine l_X0_weigh_18 C a1 ha1 L _ _ _ _ hq10 _ _ _ hW (lv_sub hl [1, 2, 0] rfl) (fun H locs ls hW hl => ?_)
  obtain rfl := inj1 h
  subst hQ
  exact w_vret C hW hr hlocks dX0_weigh_54
def f_X6_chill (a0 : Nat) (a1 : Int32) (a2 : Int32) (I : MI) (L : ML) : Option (Int32) :=
  bd1 ((if a1 = (1 : Int32) then some (I a0 3) else some (0 : Int32))) (fun y1 => bd1 ((if a2 = 0 then some (0 : Int32) else some (I a0 3))) (fun y4 => nm (y1 + y4) (fun x7 => bd1 ((if (I a0 9) = 0 then some x7 else some (x7 / (2 : Int32)))) (fun y8 => some y8))))
set_option maxHeartbeats 4000000 in
set_option maxRecDepth 100000 in
theorem c_X6_chill (g : Gp) (l : Launch) {a0 : Nat} {a1 : Int32} {a2 : Int32} (ha0 : kd a0 = 6) {I : MI} {L : ML} {r : Int32} (h : f_X6_chill a0 a1 a2 I L = some r) : MetI g l yX6_chill cX6_chill 4 .int 0 [.ref (g.1 + a0), .int a1, .int a2] I L r I L := by
  unfold f_X6_chill at h
  refine w_enter (by decide) (Nat.le_of_ble_eq_true rfl) (own := RX6) rfl ?_
  intro p e s m below meth c args Q hQ C hr hlocks hW ls hl
  have hl : lv_has ls 4 [(0, .ref (g.1 + a0)), (1, .int a1), (2, .int a2)] := hl
  refine lv_iload_n C.1.1 C.1.2.1 dX6_chill_0 rfl (lv_at hl 1 rfl) ?_
  refine lv_iconst (v := 1) C.1.1 C.1.2.1 dX6_chill_1 (by decide) ?_
  obtain ⟨y1, hj3, h⟩ := bd1_some h
  have kJ2 : ∀ (H : Heap) (locs : List Loc) (ls : Array Slot), Ws g s I L H locs → lv_has ls 4 [(0, .ref (g.1 + a0)), (2, .int a2)] → W p l e (rmD 0) s m args below meth c H locs 0 0 Q (F0 m 13 ls [.int y1]) := by
    intro H locs ls hW hl
    refine lv_iload_n C.1.1 C.1.2.1 dX6_chill_13 rfl (lv_at hl 1 rfl) ?_
    obtain ⟨y4, hj6, h⟩ := bd1_some h
    have kJ5 : ∀ (H : Heap) (locs : List Loc) (ls : Array Slot), Ws g s I L H locs → lv_has ls 4 [(0, .ref (g.1 + a0))] → W p l e (rmD 0) s m args below meth c H locs 0 0 Q (F0 m 25 ls [.int y4, .int y1]) := by
      intro H locs ls hW hl
      refine lv_iadd C.1.1 C.1.2.1 dX6_chill_25 ?_
      refine lv_topi (fun x7 ex7 => ?_)
      replace h := nm_at ex7 h
      clear ex7
      refine lv_istore_n (lv' := [(3, .int x7), (0, .ref (g.1 + a0))]) C.1.1 C.1.2.1 dX6_chill_26 rfl hl (by decide) rfl (fun ls hl => ?_)
      refine lv_aload_n C.1.1 C.1.2.1 dX6_chill_27 rfl (lv_at hl 1 rfl) ?_
      refine G_X6_42 C hW ha0 dX6_chill_28 ?_
      obtain ⟨y8, hj10, h⟩ := bd1_some h
      have kJ9 : ∀ (H : Heap) (locs : List Loc) (ls : Array Slot), Ws g s I L H locs → lv_has ls 4 [] → W p l e (rmD 0) s m args below meth c H locs 0 0 Q (F0 m 41 ls [.int y8]) := by
        intro H locs ls hW hl
        obtain rfl := inj1 h
        subst hQ
        exact w_iret C hW hr hlocks dX6_chill_41
      clear h
      have h := hj10
      clear hj10
      refine lv_if_eq (tgt := 40) C.1.1 C.1.2.1 dX6_chill_31 (by decide) (fun hc11 => ?_) (fun hc11 => ?_)
      · replace h := ite_t hc11 h
        refine lv_iload_n C.1.1 C.1.2.1 dX6_chill_40 rfl (lv_at hl 0 rfl) ?_
        obtain rfl := inj1 h
        exact kJ9 _ _ _ hW (lv_sub hl [] rfl)
      · replace h := ite_f hc11 h
        refine lv_iload_n C.1.1 C.1.2.1 dX6_chill_34 rfl (lv_at hl 0 rfl) ?_
        refine lv_iconst (v := 2) C.1.1 C.1.2.1 dX6_chill_35 (by decide) ?_
        refine lv_idiv C.1.1 C.1.2.1 dX6_chill_36 (by decide) ?_
        refine lv_goto (tgt := 41) C.1.1 C.1.2.1 dX6_chill_37 (by decide) ?_
        obtain rfl := inj1 h
        exact kJ9 _ _ _ hW (lv_sub hl [] rfl)
    clear h
    have h := hj6
    clear hj6
    refine lv_if_eq (tgt := 24) C.1.1 C.1.2.1 dX6_chill_14 (by decide) (fun hc12 => ?_) (fun hc12 => ?_)
    · replace h := ite_t hc12 h
      refine lv_iconst (v := 0) C.1.1 C.1.2.1 dX6_chill_24 (by decide) ?_
      obtain rfl := inj1 h
      exact kJ5 _ _ _ hW (lv_sub hl [0] rfl)
    · replace h := ite_f hc12 h
      refine lv_aload_n C.1.1 C.1.2.1 dX6_chill_17 rfl (lv_at hl 0 rfl) ?_
      refine G_X6_24 C hW ha0 dX6_chill_18 ?_
      refine lv_goto (tgt := 25) C.1.1 C.1.2.1 dX6_chill_21 (by decide) ?_
      obtain rfl := inj1 h
      exact kJ5 _ _ _ hW (lv_sub hl [0] rfl)
  clear h
  have h := hj3
  clear hj3
  refine lv_icmp_ne (tgt := 12) C.1.1 C.1.2.1 dX6_chill_2 (by decide) (fun hc13 => ?_) (fun hc13 => ?_)
  · replace h := ite_f hc13 h
    refine lv_iconst (v := 0) C.1.1 C.1.2.1 dX6_chill_12 (by decide) ?_
    obtain rfl := inj1 h
    exact kJ2 _ _ _ hW (lv_sub hl [0, 2] rfl)
  · replace h := ite_t hc13 h
    refine lv_aload_n C.1.1 C.1.2.1 dX6_chill_5 rfl (lv_at hl 0 rfl) ?_
    refine G_X6_24 C hW ha0 dX6_chill_6 ?_
    refine lv_goto (tgt := 13) C.1.1 C.1.2.1 dX6_chill_9 (by decide) ?_
    obtain rfl := inj1 h
    exact kJ2 _ _ _ hW (lv_sub hl [0, 2] rfl)
def f_X6_care (a0 : Nat) (I : MI) (L : ML) : Option (Int32) :=
  (if (I a0 7) = (1 : Int32) then some (0 : Int32) else bd1 ((if (I a0 7) = (2 : Int32) then some (I a0 4) else some ((I a0 4) / (2 : Int32)))) (fun y2 => bd1 ((if (I a0 0) = (3 : Int32) then some ((2 : Int32) * y2) else some y2)) (fun y5 => some y5)))
set_option maxHeartbeats 4000000 in
set_option maxRecDepth 100000 in
theorem c_X6_care (g : Gp) (l : Launch) {a0 : Nat} (ha0 : kd a0 = 6) {I : MI} {L : ML} {r : Int32} (h : f_X6_care a0 I L = some r) : MetI g l yX6_care cX6_care 2 .int 0 [.ref (g.1 + a0)] I L r I L := by
  unfold f_X6_care at h
  refine w_enter (by decide) (Nat.le_of_ble_eq_true rfl) (own := RX6) rfl ?_
  intro p e s m below meth c args Q hQ C hr hlocks hW ls hl
  have hl : lv_has ls 2 [(0, .ref (g.1 + a0))] := hl
  refine lv_aload_n C.1.1 C.1.2.1 dX6_care_0 rfl (lv_at hl 0 rfl) ?_
  refine G_X6_36 C hW ha0 dX6_care_1 ?_
  refine lv_iconst (v := 1) C.1.1 C.1.2.1 dX6_care_4 (by decide) ?_
  refine lv_icmp_ne (tgt := 10) C.1.1 C.1.2.1 dX6_care_5 (by decide) (fun hc1 => ?_) (fun hc1 => ?_)
  · replace h := ite_f hc1 h
    refine lv_aload_n C.1.1 C.1.2.1 dX6_care_10 rfl (lv_at hl 0 rfl) ?_
    refine G_X6_36 C hW ha0 dX6_care_11 ?_
    refine lv_iconst (v := 2) C.1.1 C.1.2.1 dX6_care_14 (by decide) ?_
    obtain ⟨y2, hj4, h⟩ := bd1_some h
    have kJ3 : ∀ (H : Heap) (locs : List Loc) (ls : Array Slot), Ws g s I L H locs → lv_has ls 2 [(0, .ref (g.1 + a0))] → W p l e (rmD 0) s m args below meth c H locs 0 0 Q (F0 m 31 ls [.int y2]) := by
      intro H locs ls hW hl
      refine lv_istore_n (lv' := [(1, .int y2), (0, .ref (g.1 + a0))]) C.1.1 C.1.2.1 dX6_care_31 rfl hl (by decide) rfl (fun ls hl => ?_)
      refine lv_aload_n C.1.1 C.1.2.1 dX6_care_32 rfl (lv_at hl 1 rfl) ?_
      refine G_X6_15 C hW ha0 dX6_care_33 ?_
      refine lv_iconst (v := 3) C.1.1 C.1.2.1 dX6_care_36 (by decide) ?_
      obtain ⟨y5, hj7, h⟩ := bd1_some h
      have kJ6 : ∀ (H : Heap) (locs : List Loc) (ls : Array Slot), Ws g s I L H locs → lv_has ls 2 [] → W p l e (rmD 0) s m args below meth c H locs 0 0 Q (F0 m 47 ls [.int y5]) := by
        intro H locs ls hW hl
        obtain rfl := inj1 h
        subst hQ
        exact w_iret C hW hr hlocks dX6_care_47
      clear h
      have h := hj7
      clear hj7
      refine lv_icmp_ne (tgt := 46) C.1.1 C.1.2.1 dX6_care_37 (by decide) (fun hc8 => ?_) (fun hc8 => ?_)
      · replace h := ite_f hc8 h
        refine lv_iload_n C.1.1 C.1.2.1 dX6_care_46 rfl (lv_at hl 0 rfl) ?_
        obtain rfl := inj1 h
        exact kJ6 _ _ _ hW (lv_sub hl [] rfl)
      · replace h := ite_t hc8 h
        refine lv_iconst (v := 2) C.1.1 C.1.2.1 dX6_care_40 (by decide) ?_
        refine lv_iload_n C.1.1 C.1.2.1 dX6_care_41 rfl (lv_at hl 0 rfl) ?_
        refine lv_imul C.1.1 C.1.2.1 dX6_care_42 ?_
        refine lv_goto (tgt := 47) C.1.1 C.1.2.1 dX6_care_43 (by decide) ?_
        obtain rfl := inj1 h
        exact kJ6 _ _ _ hW (lv_sub hl [] rfl)
    clear h
    have h := hj4
    clear hj4
    refine lv_icmp_ne (tgt := 25) C.1.1 C.1.2.1 dX6_care_15 (by decide) (fun hc9 => ?_) (fun hc9 => ?_)
    · replace h := ite_f hc9 h
      refine lv_aload_n C.1.1 C.1.2.1 dX6_care_25 rfl (lv_at hl 0 rfl) ?_
      refine G_X6_27 C hW ha0 dX6_care_26 ?_
      refine lv_iconst (v := 2) C.1.1 C.1.2.1 dX6_care_29 (by decide) ?_
      refine lv_idiv C.1.1 C.1.2.1 dX6_care_30 (by decide) ?_
      obtain rfl := inj1 h
      exact kJ3 _ _ _ hW (lv_sub hl [0] rfl)
    · replace h := ite_t hc9 h
      refine lv_aload_n C.1.1 C.1.2.1 dX6_care_18 rfl (lv_at hl 0 rfl) ?_
      refine G_X6_27 C hW ha0 dX6_care_19 ?_
      refine lv_goto (tgt := 31) C.1.1 C.1.2.1 dX6_care_22 (by decide) ?_
      obtain rfl := inj1 h
      exact kJ3 _ _ _ hW (lv_sub hl [0] rfl)
  · replace h := ite_t hc1 h
    refine lv_iconst (v := 0) C.1.1 C.1.2.1 dX6_care_8 (by decide) ?_
    obtain rfl := inj1 h
    subst hQ
    exact w_iret C hW hr hlocks dX6_care_9
def f_X6_grows (a0 : Nat) (a1 : Int32) (a2 : Int32) (I : MI) (L : ML) : Option (Int32) :=
  bd1 ((if (I a0 0) = (4 : Int32) then some ((I a0 2) + (1 : Int32)) else (if (I a0 0) = (5 : Int32) then some ((I a0 2) + (1 : Int32)) else some (I a0 2)))) (fun y1 => bd1 ((if (I a0 0) = (2 : Int32) then some ((2 : Int32) * (I a0 8)) else some (I a0 8))) (fun y4 => bd1 (f_X6_chill a0 a1 a2 I L) (fun r7 => bd1 (f_X6_care a0 I L) (fun r9 => nm (mmax (0 : Int32) (((y1 + r7) + r9) - y4)) (fun x11 => bd1 ((if (I a0 0) = (5 : Int32) then (if a2 = 0 then some x11 else some (x11 / (2 : Int32))) else some x11)) (fun y12 => some y12))))))
set_option maxHeartbeats 4000000 in
set_option maxRecDepth 100000 in
theorem c_X6_grows (g : Gp) (l : Launch) {a0 : Nat} {a1 : Int32} {a2 : Int32} (ha0 : kd a0 = 6) {I : MI} {L : ML} {r : Int32} (h : f_X6_grows a0 a1 a2 I L = some r) : MetI g l yX6_grows cX6_grows 6 .int 1 [.ref (g.1 + a0), .int a1, .int a2] I L r I L := by
  unfold f_X6_grows at h
  refine w_enter (by decide) (Nat.le_of_ble_eq_true rfl) (own := RX6) rfl ?_
  intro p e s m below meth c args Q hQ C hr hlocks hW ls hl
  have hl : lv_has ls 6 [(0, .ref (g.1 + a0)), (1, .int a1), (2, .int a2)] := hl
  refine lv_aload_n C.1.1 C.1.2.1 dX6_grows_0 rfl (lv_at hl 0 rfl) ?_
  refine G_X6_15 C hW ha0 dX6_grows_1 ?_
  refine lv_iconst (v := 4) C.1.1 C.1.2.1 dX6_grows_4 (by decide) ?_
  obtain ⟨y1, hj3, h⟩ := bd1_some h
  have kJ2 : ∀ (H : Heap) (locs : List Loc) (ls : Array Slot), Ws g s I L H locs → lv_has ls 6 [(0, .ref (g.1 + a0)), (1, .int a1), (2, .int a2)] → W p l e (rmD 1) s m args below meth c H locs 0 0 Q (F0 m 29 ls [.int y1]) := by
    intro H locs ls hW hl
    refine lv_istore_n (lv' := [(3, .int y1), (0, .ref (g.1 + a0)), (1, .int a1), (2, .int a2)]) C.1.1 C.1.2.1 dX6_grows_29 rfl hl (by decide) rfl (fun ls hl => ?_)
    refine lv_aload_n C.1.1 C.1.2.1 dX6_grows_30 rfl (lv_at hl 1 rfl) ?_
    refine G_X6_15 C hW ha0 dX6_grows_31 ?_
    refine lv_iconst (v := 2) C.1.1 C.1.2.1 dX6_grows_34 (by decide) ?_
    obtain ⟨y4, hj6, h⟩ := bd1_some h
    have kJ5 : ∀ (H : Heap) (locs : List Loc) (ls : Array Slot), Ws g s I L H locs → lv_has ls 6 [(0, .ref (g.1 + a0)), (1, .int a1), (2, .int a2), (3, .int y1)] → W p l e (rmD 1) s m args below meth c H locs 0 0 Q (F0 m 51 ls [.int y4]) := by
      intro H locs ls hW hl
      refine lv_istore (lv' := [(4, .int y4), (0, .ref (g.1 + a0)), (1, .int a1), (2, .int a2), (3, .int y1)]) C.1.1 C.1.2.1 dX6_grows_51 hl (by decide) rfl (fun ls hl => ?_)
      refine lv_iconst (v := 0) C.1.1 C.1.2.1 dX6_grows_53 (by decide) ?_
      refine lv_iload_n C.1.1 C.1.2.1 dX6_grows_54 rfl (lv_at hl 4 rfl) ?_
      refine lv_aload_n C.1.1 C.1.2.1 dX6_grows_55 rfl (lv_at hl 1 rfl) ?_
      refine lv_iload_n C.1.1 C.1.2.1 dX6_grows_56 rfl (lv_at hl 2 rfl) ?_
      refine lv_iload_n C.1.1 C.1.2.1 dX6_grows_57 rfl (lv_at hl 3 rfl) ?_
      obtain ⟨r7, hc8, h⟩ := bd1_some h
      refine w_callVi (k := 2) (As := [.int a1, .int a2]) (rest := [.int y1, .int (0 : Int32)]) C hW (c_X6_chill g l ha0 hc8) ha0 rfl (EX_6 ha0) K_X6_59 (by decide +kernel) ⟨by decide, by decide⟩ ⟨Nat.le_refl _, Nat.le_refl _⟩ rfl hl.1 rfl (Nat.le_of_ble_eq_true rfl) dX6_grows_58 (fun H locs hW => ?_)
      refine lv_iadd C.1.1 C.1.2.1 dX6_grows_61 ?_
      refine lv_aload_n C.1.1 C.1.2.1 dX6_grows_62 rfl (lv_at hl 1 rfl) ?_
      obtain ⟨r9, hc10, h⟩ := bd1_some h
      refine w_callVi (k := 0) (As := []) (rest := [.int (y1 + r7), .int (0 : Int32)]) C hW (c_X6_care g l ha0 hc10) ha0 rfl (EX_6 ha0) K_X6_63 (by decide +kernel) ⟨by decide, by decide⟩ ⟨Nat.le_refl _, Nat.le_refl _⟩ rfl hl.1 rfl (Nat.le_of_ble_eq_true rfl) dX6_grows_63 (fun H locs hW => ?_)
      refine lv_iadd C.1.1 C.1.2.1 dX6_grows_66 ?_
      refine lv_iload C.1.1 C.1.2.1 dX6_grows_67 (lv_at hl 0 rfl) ?_
      refine lv_isub C.1.1 C.1.2.1 dX6_grows_69 ?_
      refine M_X6_53 (rest := []) C hl.1 ⟨by decide, Nat.le_of_ble_eq_true rfl⟩ ⟨Nat.le_refl _, Nat.le_refl _⟩ dX6_grows_70 ?_
      refine lv_topi (fun x11 ex11 => ?_)
      replace h := nm_at ex11 h
      clear ex11
      refine lv_istore (lv' := [(5, .int x11), (4, .int y4), (0, .ref (g.1 + a0)), (1, .int a1), (2, .int a2), (3, .int y1)]) C.1.1 C.1.2.1 dX6_grows_73 hl (by decide) rfl (fun ls hl => ?_)
      refine lv_aload_n C.1.1 C.1.2.1 dX6_grows_75 rfl (lv_at hl 2 rfl) ?_
      refine G_X6_15 C hW ha0 dX6_grows_76 ?_
      refine lv_iconst (v := 5) C.1.1 C.1.2.1 dX6_grows_79 (by decide) ?_
      obtain ⟨y12, hj14, h⟩ := bd1_some h
      have kJ13 : ∀ (H : Heap) (locs : List Loc) (ls : Array Slot), Ws g s I L H locs → lv_has ls 6 [] → W p l e (rmD 1) s m args below meth c H locs 0 0 Q (F0 m 96 ls [.int y12]) := by
        intro H locs ls hW hl
        obtain rfl := inj1 h
        subst hQ
        exact w_iret C hW hr hlocks dX6_grows_96
      clear h
      have h := hj14
      clear hj14
      refine lv_icmp_ne (tgt := 94) C.1.1 C.1.2.1 dX6_grows_80 (by decide) (fun hc15 => ?_) (fun hc15 => ?_)
      · replace h := ite_f hc15 h
        refine lv_iload C.1.1 C.1.2.1 dX6_grows_94 (lv_at hl 0 rfl) ?_
        obtain rfl := inj1 h
        exact kJ13 _ _ _ hW (lv_sub hl [] rfl)
      · replace h := ite_t hc15 h
        refine lv_iload_n C.1.1 C.1.2.1 dX6_grows_83 rfl (lv_at hl 4 rfl) ?_
        refine lv_if_eq (tgt := 94) C.1.1 C.1.2.1 dX6_grows_84 (by decide) (fun hc16 => ?_) (fun hc16 => ?_)
        · replace h := ite_t hc16 h
          refine lv_iload C.1.1 C.1.2.1 dX6_grows_94 (lv_at hl 0 rfl) ?_
          obtain rfl := inj1 h
          exact kJ13 _ _ _ hW (lv_sub hl [] rfl)
        · replace h := ite_f hc16 h
          refine lv_iload C.1.1 C.1.2.1 dX6_grows_87 (lv_at hl 0 rfl) ?_
          refine lv_iconst (v := 2) C.1.1 C.1.2.1 dX6_grows_89 (by decide) ?_
          refine lv_idiv C.1.1 C.1.2.1 dX6_grows_90 (by decide) ?_
          refine lv_goto (tgt := 96) C.1.1 C.1.2.1 dX6_grows_91 (by decide) ?_
          obtain rfl := inj1 h
          exact kJ13 _ _ _ hW (lv_sub hl [] rfl)
    clear h
    have h := hj6
    clear hj6
    refine lv_icmp_ne (tgt := 47) C.1.1 C.1.2.1 dX6_grows_35 (by decide) (fun hc17 => ?_) (fun hc17 => ?_)
    · replace h := ite_f hc17 h
      refine lv_aload_n C.1.1 C.1.2.1 dX6_grows_47 rfl (lv_at hl 1 rfl) ?_
      refine G_X6_39 C hW ha0 dX6_grows_48 ?_
      obtain rfl := inj1 h
      exact kJ5 _ _ _ hW (lv_sub hl [1, 2, 3, 0] rfl)
    · replace h := ite_t hc17 h
      refine lv_iconst (v := 2) C.1.1 C.1.2.1 dX6_grows_38 (by decide) ?_
      refine lv_aload_n C.1.1 C.1.2.1 dX6_grows_39 rfl (lv_at hl 1 rfl) ?_
      refine G_X6_39 C hW ha0 dX6_grows_40 ?_
      refine lv_imul C.1.1 C.1.2.1 dX6_grows_43 ?_
      refine lv_goto (tgt := 51) C.1.1 C.1.2.1 dX6_grows_44 (by decide) ?_
      obtain rfl := inj1 h
      exact kJ5 _ _ _ hW (lv_sub hl [1, 2, 3, 0] rfl)
  clear h
  have h := hj3
  clear hj3
  refine lv_icmp_eq (tgt := 16) C.1.1 C.1.2.1 dX6_grows_5 (by decide) (fun hc18 => ?_) (fun hc18 => ?_)
  · replace h := ite_t hc18 h
    refine lv_aload_n C.1.1 C.1.2.1 dX6_grows_16 rfl (lv_at hl 0 rfl) ?_
    refine G_X6_21 C hW ha0 dX6_grows_17 ?_
    refine lv_iconst (v := 1) C.1.1 C.1.2.1 dX6_grows_20 (by decide) ?_
    refine lv_iadd C.1.1 C.1.2.1 dX6_grows_21 ?_
    refine lv_goto (tgt := 29) C.1.1 C.1.2.1 dX6_grows_22 (by decide) ?_
    obtain rfl := inj1 h
    exact kJ2 _ _ _ hW (lv_sub hl [0, 1, 2] rfl)
  · replace h := ite_f hc18 h
    refine lv_aload_n C.1.1 C.1.2.1 dX6_grows_8 rfl (lv_at hl 0 rfl) ?_
    refine G_X6_15 C hW ha0 dX6_grows_9 ?_
    refine lv_iconst (v := 5) C.1.1 C.1.2.1 dX6_grows_12 (by decide) ?_
    refine lv_icmp_ne (tgt := 25) C.1.1 C.1.2.1 dX6_grows_13 (by decide) (fun hc19 => ?_) (fun hc19 => ?_)
    · replace h := ite_f hc19 h
      refine lv_aload_n C.1.1 C.1.2.1 dX6_grows_25 rfl (lv_at hl 0 rfl) ?_
      refine G_X6_21 C hW ha0 dX6_grows_26 ?_
      obtain rfl := inj1 h
      exact kJ2 _ _ _ hW (lv_sub hl [0, 1, 2] rfl)
    · replace h := ite_t hc19 h
      refine lv_aload_n C.1.1 C.1.2.1 dX6_grows_16 rfl (lv_at hl 0 rfl) ?_
      refine G_X6_21 C hW ha0 dX6_grows_17 ?_
      refine lv_iconst (v := 1) C.1.1 C.1.2.1 dX6_grows_20 (by decide) ?_
      refine lv_iadd C.1.1 C.1.2.1 dX6_grows_21 ?_
      refine lv_goto (tgt := 29) C.1.1 C.1.2.1 dX6_grows_22 (by decide) ?_
      obtain rfl := inj1 h
      exact kJ2 _ _ _ hW (lv_sub hl [0, 1, 2] rfl)
def b_X0_tensTo_4 (v0 : Int32) (z1 : Int64) (z3 : Int32) : Option ((Int64 × Int32) ⊕ ((Int64))) :=
  (if v0 ≤ z3 then some (Sum.inr z1) else nm (z1 * (10 : Int64)) (fun x2 => nm (z3 + (1 : Int32)) (fun x3 => some (Sum.inl (x2, x3)))))
set_option maxHeartbeats 4000000 in
set_option maxRecDepth 100000 in
theorem l_X0_tensTo_4 {g : Gp} {p : Program} {l : Launch} {e : Env} {s : State} {m : MethodId} {args : Array Value} {below : List Frame} {meth : Method} {c : Code} {Q : State → Prop}  (C : Cx g p s m args c RX0 cX0_tensTo 4) (v0 : Int32)  (I : MI) (L : ML) : ∀ (n : Nat) (z1 : Int64) (z3 : Int32) (y0_1 : Int64), lp (fun s => b_X0_tensTo_4 v0 s.1 s.2) n (z1, z3) = some y0_1 → ∀ (H : Heap) (locs : List Loc) (ls : Array Slot), Ws g s I L H locs → lv_has ls 4 [(0, .int v0), (1, .long z1), (3, .int z3)] → (∀ (H : Heap) (locs : List Loc) (ls : Array Slot), Ws g s I L H locs → lv_has ls 4 [(1, .long y0_1)] → W p l e (rmD 0) s m args below meth c H locs 0 0 Q (F0 m 21 ls [])) → W p l e (rmD 0) s m args below meth c H locs 0 0 Q (F0 m 4 ls []) := by
  intro n
  induction n with
  | zero => intro z1 z3 y0_1 h; exact lp_zero h
  | succ n ih =>
      intro z1 z3 y0_1 h H locs ls hW hl hx0
      obtain ⟨r9, h, h9⟩ := lp_some h
      have h : b_X0_tensTo_4 v0 z1 z3 = some r9 := h
      unfold b_X0_tensTo_4 at h
      refine lv_iload_n C.1.1 C.1.2.1 dX0_tensTo_4 rfl (lv_at hl 2 rfl) ?_
      refine lv_iload_n C.1.1 C.1.2.1 dX0_tensTo_5 rfl (lv_at hl 0 rfl) ?_
      refine lv_icmp_ge (tgt := 21) C.1.1 C.1.2.1 dX0_tensTo_6 (by decide) (fun hc1 => ?_) (fun hc1 => ?_)
      · replace h := ite_t hc1 h
        obtain rfl := Option.some.inj h
        replace h9 := Option.some.inj h9
        obtain rfl := pnj1 h9
        exact hx0 _ _ _ hW (lv_sub hl [1] rfl)
      · replace h := ite_f hc1 h
        refine lv_lload_n C.1.1 C.1.2.1 dX0_tensTo_9 rfl (lv_at hl 1 rfl) ?_
        refine lv_ldc2 C.1.1 C.1.2.1 C.1.2.2.2.1 (C.1.2.2.2.2 _ kl_X0_74) dX0_tensTo_10 ?_
        refine lv_lmul C.1.1 C.1.2.1 dX0_tensTo_13 ?_
        refine lv_topl (fun x2 ex2 => ?_)
        replace h := nm_at ex2 h
        clear ex2
        refine lv_lstore_n (lv' := [(1, .long x2), (0, .int v0), (3, .int z3)]) C.1.1 C.1.2.1 dX0_tensTo_14 rfl hl (by decide) rfl (fun ls hl => ?_)
        obtain ⟨x3, ex3⟩ : ∃ y : Int32, y = z3 + (1 : Int32) := ⟨_, rfl⟩
        replace h := nm_at ex3 h
        refine lv_iinc (v := x3) (lv' := [(3, .int x3), (1, .long x2), (0, .int v0)]) C.1.1 C.1.2.1 dX0_tensTo_15 hl (k := 2) rfl (by rw [ex3]; rfl) (by decide) rfl (fun ls hl => ?_)
        clear ex3
        refine lv_goto (tgt := 4) C.1.1 C.1.2.1 dX0_tensTo_18 (by decide) ?_
        obtain rfl := Option.some.inj h
        exact ih _ _ _ h9 _ _ _ hW (lv_sub hl [2, 1, 0] rfl) hx0
def f_X0_tensTo (a1 : Int32) : Option (Int64) :=
  bd1 (lp (fun s => b_X0_tensTo_4 a1 s.1 s.2) FU (((1 : Int64), (0 : Int32)))) (fun y5 => some y5)
set_option maxHeartbeats 4000000 in
set_option maxRecDepth 100000 in
theorem c_X0_tensTo (g : Gp) (l : Launch) {a1 : Int32}  {r : Int64} (h : f_X0_tensTo a1 = some r) (I : MI) (L : ML) : MetL g l yX0_tensTo cX0_tensTo 4 0 [.int a1] I L r I L := by
  unfold f_X0_tensTo at h
  refine w_enter (by decide) (Nat.le_of_ble_eq_true rfl) (own := RX0) rfl ?_
  intro p e s m below meth c args Q hQ C hr hlocks hW ls hl
  have hl : lv_has ls 4 [(0, .int a1)] := hl
  refine lv_lconst (v := 1) C.1.1 C.1.2.1 dX0_tensTo_0 (by decide) ?_
  refine lv_lstore_n (lv' := [(1, .long (1 : Int64)), (0, .int a1)]) C.1.1 C.1.2.1 dX0_tensTo_1 rfl hl (by decide) rfl (fun ls hl => ?_)
  refine lv_iconst (v := 0) C.1.1 C.1.2.1 dX0_tensTo_2 (by decide) ?_
  refine lv_istore_n (lv' := [(3, .int (0 : Int32)), (1, .long (1 : Int64)), (0, .int a1)]) C.1.1 C.1.2.1 dX0_tensTo_3 rfl hl (by decide) rfl (fun ls hl => ?_)
  obtain ⟨y5, hq4, h⟩ := bd1_some h
  refine l_X0_tensTo_4 C a1  I L _ _ _ _ hq4 _ _ _ hW (lv_sub hl [2, 1, 0] rfl) (fun H locs ls hW hl => ?_)
  refine lv_lload_n C.1.1 C.1.2.1 dX0_tensTo_21 rfl (lv_at hl 0 rfl) ?_
  obtain rfl := inj1 h
  subst hQ
  exact w_lret C hW hr hlocks dX0_tensTo_22
def b_X0_waysFrom_16 (F9 : Int32 → Int32 → Int32 → MI → ML → Option (Int64)) (v1 : Int32) (v2 : Int32) (v3 : Int32) (I : MI) (L : ML) (z4 : Int64) (z6 : Int32) : Option ((Int64 × Int32) ⊕ ((Int64))) :=
  (if (2 : Int32) ≤ z6 then some (Sum.inr z4) else bd1 ((if z6 = (1 : Int32) then some (I 212 4) else some ((10 : Int32) - (I 212 4)))) (fun y3 => gi z6 2 (gi v1 10 (nm (v2 + (I (215 + z6.toNatClampNeg) v1.toNatClampNeg)) (fun x8 => gi z6 2 (gi v1 10 (nm (v3 + (I (218 + z6.toNatClampNeg) v1.toNatClampNeg)) (fun x11 => bd1 ((if y3 = 0 then some z4 else (if x8 < (I 212 5) then bd1 ((if x11 < (I 212 6) then some (0 : Int32) else some (1 : Int32))) (fun y18 => bd1 ((if y18 = 0 then bd1 (F9 (v1 + (1 : Int32)) x8 x11 I L) (fun r26 => some r26) else bd1 (f_X0_tensTo (((I 212 3) - v1) - (1 : Int32))) (fun r28 => some r28))) (fun y21 => nm (z4 + (y3.toInt64 * y21)) (fun x24 => some x24))) else some z4))) (fun y12 => nm (z6 + (1 : Int32)) (fun x15 => some (Sum.inl (y12, x15))))))))))))
set_option maxHeartbeats 4000000 in
set_option maxRecDepth 100000 in
theorem l_X0_waysFrom_16 {g : Gp} {p : Program} {l : Launch} {e : Env} {s : State} {m : MethodId} {args : Array Value} {below : List Frame} {meth : Method} {c : Code} {Q : State → Prop} {F9 : Int32 → Int32 → Int32 → MI → ML → Option (Int64)} {n9 : Nat} (IH : ∀ (a2 : Int32) (a3 : Int32) (a4 : Int32), ∀ (I : MI) (L : ML) (r : Int64), F9 a2 a3 a4 I L = some r → MetL g l yX0_waysFrom cX0_waysFrom 11 (n9 + 1) [.ref (g.1 + 212), .int a2, .int a3, .int a4] I L r I L) (C : Cx g p s m args c RX0 cX0_waysFrom 11) (v1 : Int32) (v2 : Int32) (v3 : Int32)  (I : MI) (L : ML) : ∀ (n : Nat) (z4 : Int64) (z6 : Int32) (y0_4 : Int64), lp (fun s => b_X0_waysFrom_16 F9 v1 v2 v3 I L s.1 s.2) n (z4, z6) = some y0_4 → ∀ (H : Heap) (locs : List Loc) (ls : Array Slot), Ws g s I L H locs → lv_has ls 11 [(0, .ref (g.1 + 212)), (1, .int v1), (2, .int v2), (3, .int v3), (4, .long z4), (6, .int z6)] → (∀ (H : Heap) (locs : List Loc) (ls : Array Slot), Ws g s I L H locs → lv_has ls 11 [(4, .long y0_4)] → W p l e (rmD (n9 + 1 + 1)) s m args below meth c H locs 0 0 Q (F0 m 148 ls [])) → W p l e (rmD (n9 + 1 + 1)) s m args below meth c H locs 0 0 Q (F0 m 16 ls []) := by
  intro n
  induction n with
  | zero => intro z4 z6 y0_4 h; exact lp_zero h
  | succ n ih =>
      intro z4 z6 y0_4 h H locs ls hW hl hx0
      obtain ⟨r9, h, h9⟩ := lp_some h
      have h : b_X0_waysFrom_16 F9 v1 v2 v3 I L z4 z6 = some r9 := h
      unfold b_X0_waysFrom_16 at h
      refine lv_iload C.1.1 C.1.2.1 dX0_waysFrom_16 (lv_at hl 5 rfl) ?_
      refine lv_iconst (v := 2) C.1.1 C.1.2.1 dX0_waysFrom_18 (by decide) ?_
      refine lv_icmp_ge (tgt := 148) C.1.1 C.1.2.1 dX0_waysFrom_19 (by decide) (fun hc2 => ?_) (fun hc2 => ?_)
      · replace h := ite_t hc2 h
        obtain rfl := Option.some.inj h
        replace h9 := Option.some.inj h9
        obtain rfl := pnj1 h9
        exact hx0 _ _ _ hW (lv_sub hl [4] rfl)
      · replace h := ite_f hc2 h
        refine lv_iload C.1.1 C.1.2.1 dX0_waysFrom_22 (lv_at hl 5 rfl) ?_
        refine lv_iconst (v := 1) C.1.1 C.1.2.1 dX0_waysFrom_24 (by decide) ?_
        obtain ⟨y3, hj5, h⟩ := bd1_some h
        have kJ4 : ∀ (H : Heap) (locs : List Loc) (ls : Array Slot), Ws g s I L H locs → lv_has ls 11 [(0, .ref (g.1 + 212)), (1, .int v1), (2, .int v2), (3, .int v3), (4, .long z4), (6, .int z6)] → W p l e (rmD (n9 + 1 + 1)) s m args below meth c H locs 0 0 Q (F0 m 42 ls [.int y3]) := by
          intro H locs ls hW hl
          refine lv_istore (lv' := [(7, .int y3), (0, .ref (g.1 + 212)), (1, .int v1), (2, .int v2), (3, .int v3), (4, .long z4), (6, .int z6)]) C.1.1 C.1.2.1 dX0_waysFrom_42 hl (by decide) rfl (fun ls hl => ?_)
          refine lv_iload_n C.1.1 C.1.2.1 dX0_waysFrom_44 rfl (lv_at hl 3 rfl) ?_
          refine lv_aload_n C.1.1 C.1.2.1 dX0_waysFrom_45 rfl (lv_at hl 1 rfl) ?_
          refine G_X0_17 C hW (by decide) dX0_waysFrom_46 ?_
          refine lv_iload C.1.1 C.1.2.1 dX0_waysFrom_49 (lv_at hl 6 rfl) ?_
          obtain ⟨hi6, h⟩ := gi_some h
          refine w_agr1 C hW hi6 dX0_waysFrom_51 ?_
          refine lv_iload_n C.1.1 C.1.2.1 dX0_waysFrom_52 rfl (lv_at hl 2 rfl) ?_
          obtain ⟨hi7, h⟩ := gi_some h
          refine w_iald C hW (n := 10) (kd_gr1 hi6) (ln_gr1 hi6) hi7 dX0_waysFrom_53 ?_
          refine lv_iadd C.1.1 C.1.2.1 dX0_waysFrom_54 ?_
          refine lv_topi (fun x8 ex8 => ?_)
          replace h := nm_at ex8 h
          clear ex8
          refine lv_istore (lv' := [(8, .int x8), (7, .int y3), (0, .ref (g.1 + 212)), (1, .int v1), (2, .int v2), (3, .int v3), (4, .long z4), (6, .int z6)]) C.1.1 C.1.2.1 dX0_waysFrom_55 hl (by decide) rfl (fun ls hl => ?_)
          refine lv_iload_n C.1.1 C.1.2.1 dX0_waysFrom_57 rfl (lv_at hl 5 rfl) ?_
          refine lv_aload_n C.1.1 C.1.2.1 dX0_waysFrom_58 rfl (lv_at hl 2 rfl) ?_
          refine G_X0_20 C hW (by decide) dX0_waysFrom_59 ?_
          refine lv_iload C.1.1 C.1.2.1 dX0_waysFrom_62 (lv_at hl 7 rfl) ?_
          obtain ⟨hi9, h⟩ := gi_some h
          refine w_agr2 C hW hi9 dX0_waysFrom_64 ?_
          refine lv_iload_n C.1.1 C.1.2.1 dX0_waysFrom_65 rfl (lv_at hl 3 rfl) ?_
          obtain ⟨hi10, h⟩ := gi_some h
          refine w_iald C hW (n := 10) (kd_gr2 hi9) (ln_gr2 hi9) hi10 dX0_waysFrom_66 ?_
          refine lv_iadd C.1.1 C.1.2.1 dX0_waysFrom_67 ?_
          refine lv_topi (fun x11 ex11 => ?_)
          replace h := nm_at ex11 h
          clear ex11
          refine lv_istore (lv' := [(9, .int x11), (8, .int x8), (7, .int y3), (0, .ref (g.1 + 212)), (1, .int v1), (2, .int v2), (3, .int v3), (4, .long z4), (6, .int z6)]) C.1.1 C.1.2.1 dX0_waysFrom_68 hl (by decide) rfl (fun ls hl => ?_)
          refine lv_iload C.1.1 C.1.2.1 dX0_waysFrom_70 (lv_at hl 2 rfl) ?_
          obtain ⟨y12, hj14, h⟩ := bd1_some h
          have kJ13 : ∀ (H : Heap) (locs : List Loc) (ls : Array Slot), Ws g s I L H locs → lv_has ls 11 [(0, .ref (g.1 + 212)), (1, .int v1), (2, .int v2), (3, .int v3), (4, .long y12), (6, .int z6)] → W p l e (rmD (n9 + 1 + 1)) s m args below meth c H locs 0 0 Q (F0 m 142 ls []) := by
            intro H locs ls hW hl
            obtain ⟨x15, ex15⟩ : ∃ y : Int32, y = z6 + (1 : Int32) := ⟨_, rfl⟩
            replace h := nm_at ex15 h
            refine lv_iinc (v := x15) (lv' := [(6, .int x15), (0, .ref (g.1 + 212)), (1, .int v1), (2, .int v2), (3, .int v3), (4, .long y12)]) C.1.1 C.1.2.1 dX0_waysFrom_142 hl (k := 5) rfl (by rw [ex15]; rfl) (by decide) rfl (fun ls hl => ?_)
            clear ex15
            refine lv_goto (tgt := 16) C.1.1 C.1.2.1 dX0_waysFrom_145 (by decide) ?_
            obtain rfl := Option.some.inj h
            exact ih _ _ _ h9 _ _ _ hW (lv_sub hl [1, 2, 3, 4, 5, 0] rfl) hx0
          clear h
          have h := hj14
          clear hj14
          refine lv_if_eq (tgt := 142) C.1.1 C.1.2.1 dX0_waysFrom_72 (by decide) (fun hc16 => ?_) (fun hc16 => ?_)
          · replace h := ite_t hc16 h
            obtain rfl := inj1 h
            exact kJ13 _ _ _ hW (lv_sub hl [3, 4, 5, 6, 7, 8] rfl)
          · replace h := ite_f hc16 h
            refine lv_iload C.1.1 C.1.2.1 dX0_waysFrom_75 (lv_at hl 1 rfl) ?_
            refine lv_aload_n C.1.1 C.1.2.1 dX0_waysFrom_77 rfl (lv_at hl 3 rfl) ?_
            refine G_X0_57 C hW (by decide) dX0_waysFrom_78 ?_
            refine lv_icmp_lt (tgt := 87) C.1.1 C.1.2.1 dX0_waysFrom_81 (by decide) (fun hc17 => ?_) (fun hc17 => ?_)
            · replace h := ite_t hc17 h
              refine lv_iload C.1.1 C.1.2.1 dX0_waysFrom_87 (lv_at hl 0 rfl) ?_
              refine lv_aload_n C.1.1 C.1.2.1 dX0_waysFrom_89 rfl (lv_at hl 3 rfl) ?_
              refine G_X0_60 C hW (by decide) dX0_waysFrom_90 ?_
              obtain ⟨y18, hj20, h⟩ := bd1_some h
              have kJ19 : ∀ (H : Heap) (locs : List Loc) (ls : Array Slot), Ws g s I L H locs → lv_has ls 11 [(0, .ref (g.1 + 212)), (1, .int v1), (2, .int v2), (3, .int v3), (4, .long z4), (6, .int z6), (7, .int y3), (8, .int x8), (9, .int x11)] → W p l e (rmD (n9 + 1 + 1)) s m args below meth c H locs 0 0 Q (F0 m 101 ls [.int y18]) := by
                intro H locs ls hW hl
                refine lv_istore (lv' := [(10, .int y18), (0, .ref (g.1 + 212)), (1, .int v1), (2, .int v2), (3, .int v3), (4, .long z4), (6, .int z6), (7, .int y3), (8, .int x8), (9, .int x11)]) C.1.1 C.1.2.1 dX0_waysFrom_101 hl (by decide) rfl (fun ls hl => ?_)
                refine lv_lload C.1.1 C.1.2.1 dX0_waysFrom_103 (lv_at hl 5 rfl) ?_
                refine lv_iload C.1.1 C.1.2.1 dX0_waysFrom_105 (lv_at hl 7 rfl) ?_
                refine lv_i2l C.1.1 C.1.2.1 dX0_waysFrom_107 rfl ?_
                refine lv_iload C.1.1 C.1.2.1 dX0_waysFrom_108 (lv_at hl 0 rfl) ?_
                obtain ⟨y21, hj23, h⟩ := bd1_some h
                have kJ22 : ∀ (H : Heap) (locs : List Loc) (ls : Array Slot), Ws g s I L H locs → lv_has ls 11 [(0, .ref (g.1 + 212)), (1, .int v1), (2, .int v2), (3, .int v3), (6, .int z6)] → W p l e (rmD (n9 + 1 + 1)) s m args below meth c H locs 0 0 Q (F0 m 138 ls [.long y21, .long y3.toInt64, .long z4]) := by
                  intro H locs ls hW hl
                  refine lv_lmul C.1.1 C.1.2.1 dX0_waysFrom_138 ?_
                  refine lv_ladd C.1.1 C.1.2.1 dX0_waysFrom_139 ?_
                  refine lv_topl (fun x24 ex24 => ?_)
                  replace h := nm_at ex24 h
                  clear ex24
                  refine lv_lstore (lv' := [(4, .long x24), (0, .ref (g.1 + 212)), (1, .int v1), (2, .int v2), (3, .int v3), (6, .int z6)]) C.1.1 C.1.2.1 dX0_waysFrom_140 hl (by decide) rfl (fun ls hl => ?_)
                  obtain rfl := inj1 h
                  exact kJ13 _ _ _ hW (lv_sub hl [1, 2, 3, 4, 0, 5] rfl)
                clear h
                have h := hj23
                clear hj23
                refine lv_if_eq (tgt := 127) C.1.1 C.1.2.1 dX0_waysFrom_110 (by decide) (fun hc25 => ?_) (fun hc25 => ?_)
                · replace h := ite_t hc25 h
                  refine lv_aload_n C.1.1 C.1.2.1 dX0_waysFrom_127 rfl (lv_at hl 1 rfl) ?_
                  refine lv_iload_n C.1.1 C.1.2.1 dX0_waysFrom_128 rfl (lv_at hl 2 rfl) ?_
                  refine lv_iconst (v := 1) C.1.1 C.1.2.1 dX0_waysFrom_129 (by decide) ?_
                  refine lv_iadd C.1.1 C.1.2.1 dX0_waysFrom_130 ?_
                  refine lv_iload C.1.1 C.1.2.1 dX0_waysFrom_131 (lv_at hl 8 rfl) ?_
                  refine lv_iload C.1.1 C.1.2.1 dX0_waysFrom_133 (lv_at hl 9 rfl) ?_
                  obtain ⟨r26, hc27, h⟩ := bd1_some h
                  refine w_callSl (k := 4) (As := [.ref (g.1 + 212), .int (v1 + (1 : Int32)), .int x8, .int x11]) (rest := [.long y3.toInt64, .long z4]) C hW (IH _ _ _  _ _ _ hc27) K_X0_66 (by decide +kernel) ⟨by simp only [rmD]; omega, by simp only [rmD]; omega⟩ ⟨Nat.le_refl _, Nat.le_refl _⟩ rfl hl.1 rfl (Nat.le_of_ble_eq_true rfl) dX0_waysFrom_135 (fun H locs hW => ?_)
                  obtain rfl := inj1 h
                  exact kJ22 _ _ _ hW (lv_sub hl [1, 2, 3, 4, 6] rfl)
                · replace h := ite_f hc25 h
                  refine lv_aload_n C.1.1 C.1.2.1 dX0_waysFrom_113 rfl (lv_at hl 1 rfl) ?_
                  refine G_X0_29 C hW (by decide) dX0_waysFrom_114 ?_
                  refine lv_iload_n C.1.1 C.1.2.1 dX0_waysFrom_117 rfl (lv_at hl 2 rfl) ?_
                  refine lv_isub C.1.1 C.1.2.1 dX0_waysFrom_118 ?_
                  refine lv_iconst (v := 1) C.1.1 C.1.2.1 dX0_waysFrom_119 (by decide) ?_
                  refine lv_isub C.1.1 C.1.2.1 dX0_waysFrom_120 ?_
                  obtain ⟨r28, hc29, h⟩ := bd1_some h
                  refine w_callSl (k := 1) (As := [.int (((I 212 3) - v1) - (1 : Int32))]) (rest := [.long y3.toInt64, .long z4]) C hW (c_X0_tensTo g l  hc29 I L) K_X0_70 (by decide +kernel) ⟨by simp only [rmD]; omega, by simp only [rmD]; omega⟩ ⟨Nat.le_refl _, Nat.le_refl _⟩ rfl hl.1 rfl (Nat.le_of_ble_eq_true rfl) dX0_waysFrom_121 (fun H locs hW => ?_)
                  refine lv_goto (tgt := 138) C.1.1 C.1.2.1 dX0_waysFrom_124 (by decide) ?_
                  obtain rfl := inj1 h
                  exact kJ22 _ _ _ hW (lv_sub hl [1, 2, 3, 4, 6] rfl)
              clear h
              have h := hj20
              clear hj20
              refine lv_icmp_lt (tgt := 100) C.1.1 C.1.2.1 dX0_waysFrom_93 (by decide) (fun hc30 => ?_) (fun hc30 => ?_)
              · replace h := ite_t hc30 h
                refine lv_iconst (v := 0) C.1.1 C.1.2.1 dX0_waysFrom_100 (by decide) ?_
                obtain rfl := inj1 h
                exact kJ19 _ _ _ hW (lv_sub hl [3, 4, 5, 6, 7, 8, 2, 1, 0] rfl)
              · replace h := ite_f hc30 h
                refine lv_iconst (v := 1) C.1.1 C.1.2.1 dX0_waysFrom_96 (by decide) ?_
                refine lv_goto (tgt := 101) C.1.1 C.1.2.1 dX0_waysFrom_97 (by decide) ?_
                obtain rfl := inj1 h
                exact kJ19 _ _ _ hW (lv_sub hl [3, 4, 5, 6, 7, 8, 2, 1, 0] rfl)
            · replace h := ite_f hc17 h
              refine lv_goto (tgt := 142) C.1.1 C.1.2.1 dX0_waysFrom_84 (by decide) ?_
              obtain rfl := inj1 h
              exact kJ13 _ _ _ hW (lv_sub hl [3, 4, 5, 6, 7, 8] rfl)
        clear h
        have h := hj5
        clear hj5
        refine lv_icmp_ne (tgt := 35) C.1.1 C.1.2.1 dX0_waysFrom_25 (by decide) (fun hc31 => ?_) (fun hc31 => ?_)
        · replace h := ite_f hc31 h
          refine lv_bipush (v := 10) C.1.1 C.1.2.1 dX0_waysFrom_35 (by decide) ?_
          refine lv_aload_n C.1.1 C.1.2.1 dX0_waysFrom_37 rfl (lv_at hl 0 rfl) ?_
          refine G_X0_33 C hW (by decide) dX0_waysFrom_38 ?_
          refine lv_isub C.1.1 C.1.2.1 dX0_waysFrom_41 ?_
          obtain rfl := inj1 h
          exact kJ4 _ _ _ hW (lv_sub hl [0, 1, 2, 3, 4, 5] rfl)
        · replace h := ite_t hc31 h
          refine lv_aload_n C.1.1 C.1.2.1 dX0_waysFrom_28 rfl (lv_at hl 0 rfl) ?_
          refine G_X0_33 C hW (by decide) dX0_waysFrom_29 ?_
          refine lv_goto (tgt := 42) C.1.1 C.1.2.1 dX0_waysFrom_32 (by decide) ?_
          obtain rfl := inj1 h
          exact kJ4 _ _ _ hW (lv_sub hl [0, 1, 2, 3, 4, 5] rfl)
def f_X0_waysFrom : Nat → Int32 → Int32 → Int32 → MI → ML → Option (Int64)
  | 0 => fun _ _ _ _ _ => none
  | n9 + 1 => fun a2 a3 a4 I L => (if a2 < (I 212 3) then bd1 (lp (fun s => b_X0_waysFrom_16 (f_X0_waysFrom n9) a2 a3 a4 I L s.1 s.2) FU (((0 : Int64), (0 : Int32)))) (fun y33 => some y33) else some (0 : Int64))
set_option maxHeartbeats 4000000 in
set_option maxRecDepth 100000 in
theorem cr_X0_waysFrom (g : Gp) (l : Launch) : ∀ (n9 : Nat), ∀ (a2 : Int32) (a3 : Int32) (a4 : Int32), ∀ (I : MI) (L : ML) (r : Int64), f_X0_waysFrom n9 a2 a3 a4 I L = some r → MetL g l yX0_waysFrom cX0_waysFrom 11 (n9 + 1) [.ref (g.1 + 212), .int a2, .int a3, .int a4] I L r I L := by
  intro n9
  induction n9 with
  | zero => intro a2 a3 a4 I L r h; cases h
  | succ n9 IH =>
      intro a2 a3 a4 I L r h
      unfold f_X0_waysFrom at h
      refine w_enter (by decide) (Nat.le_of_ble_eq_true rfl) (own := RX0) rfl ?_
      intro p e s m below meth c args Q hQ C hr hlocks hW ls hl
      have hl : lv_has ls 11 [(0, .ref (g.1 + 212)), (1, .int a2), (2, .int a3), (3, .int a4)] := hl
      refine lv_iload_n C.1.1 C.1.2.1 dX0_waysFrom_0 rfl (lv_at hl 1 rfl) ?_
      refine lv_aload_n C.1.1 C.1.2.1 dX0_waysFrom_1 rfl (lv_at hl 0 rfl) ?_
      refine G_X0_29 C hW (by decide) dX0_waysFrom_2 ?_
      refine lv_icmp_lt (tgt := 10) C.1.1 C.1.2.1 dX0_waysFrom_5 (by decide) (fun hc1 => ?_) (fun hc1 => ?_)
      · replace h := ite_t hc1 h
        refine lv_lconst (v := 0) C.1.1 C.1.2.1 dX0_waysFrom_10 (by decide) ?_
        refine lv_lstore (lv' := [(4, .long (0 : Int64)), (0, .ref (g.1 + 212)), (1, .int a2), (2, .int a3), (3, .int a4)]) C.1.1 C.1.2.1 dX0_waysFrom_11 hl (by decide) rfl (fun ls hl => ?_)
        refine lv_iconst (v := 0) C.1.1 C.1.2.1 dX0_waysFrom_13 (by decide) ?_
        refine lv_istore (lv' := [(6, .int (0 : Int32)), (4, .long (0 : Int64)), (0, .ref (g.1 + 212)), (1, .int a2), (2, .int a3), (3, .int a4)]) C.1.1 C.1.2.1 dX0_waysFrom_14 hl (by decide) rfl (fun ls hl => ?_)
        obtain ⟨y33, hq32, h⟩ := bd1_some h
        refine l_X0_waysFrom_16 IH C a2 a3 a4  I L _ _ _ _ hq32 _ _ _ hW (lv_sub hl [2, 3, 4, 5, 1, 0] rfl) (fun H locs ls hW hl => ?_)
        refine lv_lload C.1.1 C.1.2.1 dX0_waysFrom_148 (lv_at hl 0 rfl) ?_
        obtain rfl := inj1 h
        subst hQ
        exact w_lret C hW hr hlocks dX0_waysFrom_150
      · replace h := ite_f hc1 h
        refine lv_lconst (v := 0) C.1.1 C.1.2.1 dX0_waysFrom_8 (by decide) ?_
        obtain rfl := inj1 h
        subst hQ
        exact w_lret C hW hr hlocks dX0_waysFrom_9
theorem c_X0_waysFrom (g : Gp) (l : Launch) (n9 : Nat) {a2 : Int32} {a3 : Int32} {a4 : Int32} {I : MI} {L : ML} {r : Int64} (h : f_X0_waysFrom n9 a2 a3 a4 I L = some r) : MetL g l yX0_waysFrom cX0_waysFrom 11 (n9 + 1) [.ref (g.1 + 212), .int a2, .int a3, .int a4] I L r I L := cr_X0_waysFrom g l n9 a2 a3 a4 I L r h
def b_X0_waysToOutlast_2 (v1 : Nat) (v2 : Nat) (L : ML) (z3 : Int32) (I : MI) : Option ((Int32 × MI) ⊕ ((MI))) :=
  (if (I 212 3) ≤ z3 then some (Sum.inr I) else gi (0 : Int32) 2 (gi z3 10 (bd1 (f_X6_grows v1 (0 : Int32) (I 213 z3.toNatClampNeg) I L) (fun r4 => gi z3 10 (nm (up2 I (215 + (0 : Int32).toNatClampNeg) z3.toNatClampNeg r4) (fun I7 => gi (1 : Int32) 2 (gi z3 10 (bd1 (f_X6_grows v1 (1 : Int32) (I7 213 z3.toNatClampNeg) I7 L) (fun r10 => gi z3 10 (nm (up2 I7 (215 + (1 : Int32).toNatClampNeg) z3.toNatClampNeg r10) (fun I13 => gi (0 : Int32) 2 (gi z3 10 (bd1 (f_X6_grows v2 (0 : Int32) (I13 213 z3.toNatClampNeg) I13 L) (fun r16 => gi z3 10 (nm (up2 I13 (218 + (0 : Int32).toNatClampNeg) z3.toNatClampNeg r16) (fun I19 => gi (1 : Int32) 2 (gi z3 10 (bd1 (f_X6_grows v2 (1 : Int32) (I19 213 z3.toNatClampNeg) I19 L) (fun r22 => gi z3 10 (nm (up2 I19 (218 + (1 : Int32).toNatClampNeg) z3.toNatClampNeg r22) (fun I25 => nm (z3 + (1 : Int32)) (fun x26 => some (Sum.inl (x26, I25))))))))))))))))))))))))
set_option maxHeartbeats 4000000 in
set_option maxRecDepth 100000 in
theorem l_X0_waysToOutlast_2 {g : Gp} {p : Program} {l : Launch} {e : Env} {s : State} {m : MethodId} {args : Array Value} {below : List Frame} {meth : Method} {c : Code} {Q : State → Prop}  (C : Cx g p s m args c RX0 cX0_waysToOutlast 4) (v1 : Nat) (v2 : Nat) (hv1 : kd v1 = 6) (hv2 : kd v2 = 6) (L : ML) : ∀ (n : Nat) (z3 : Int32) (I : MI) (Iy0 : MI), lp (fun s => b_X0_waysToOutlast_2 v1 v2 L s.1 s.2) n (z3, I) = some Iy0 → ∀ (H : Heap) (locs : List Loc) (ls : Array Slot), Ws g s I L H locs → lv_has ls 4 [(0, .ref (g.1 + 212)), (1, .ref (g.1 + v1)), (2, .ref (g.1 + v2)), (3, .int z3)] → (∀ (H : Heap) (locs : List Loc) (ls : Array Slot), Ws g s Iy0 L H locs → lv_has ls 4 [(0, .ref (g.1 + 212)), (1, .ref (g.1 + v1)), (2, .ref (g.1 + v2))] → W p l e (rmD 14) s m args below meth c H locs 0 0 Q (F0 m 92 ls [])) → W p l e (rmD 14) s m args below meth c H locs 0 0 Q (F0 m 2 ls []) := by
  intro n
  induction n with
  | zero => intro z3 I Iy0 h; exact lp_zero h
  | succ n ih =>
      intro z3 I Iy0 h H locs ls hW hl hx0
      obtain ⟨r9, h, h9⟩ := lp_some h
      have h : b_X0_waysToOutlast_2 v1 v2 L z3 I = some r9 := h
      unfold b_X0_waysToOutlast_2 at h
      refine lv_iload_n C.1.1 C.1.2.1 dX0_waysToOutlast_2 rfl (lv_at hl 3 rfl) ?_
      refine lv_aload_n C.1.1 C.1.2.1 dX0_waysToOutlast_3 rfl (lv_at hl 0 rfl) ?_
      refine G_X0_29 C hW (by decide) dX0_waysToOutlast_4 ?_
      refine lv_icmp_ge (tgt := 92) C.1.1 C.1.2.1 dX0_waysToOutlast_7 (by decide) (fun hc1 => ?_) (fun hc1 => ?_)
      · replace h := ite_t hc1 h
        obtain rfl := Option.some.inj h
        replace h9 := Option.some.inj h9
        obtain rfl := pnj1 h9
        exact hx0 _ _ _ hW (lv_sub hl [0, 1, 2] rfl)
      · replace h := ite_f hc1 h
        refine lv_aload_n C.1.1 C.1.2.1 dX0_waysToOutlast_10 rfl (lv_at hl 0 rfl) ?_
        refine G_X0_17 C hW (by decide) dX0_waysToOutlast_11 ?_
        refine lv_iconst (v := 0) C.1.1 C.1.2.1 dX0_waysToOutlast_14 (by decide) ?_
        obtain ⟨hi2, h⟩ := gi_some h
        refine w_agr1 C hW hi2 dX0_waysToOutlast_15 ?_
        refine lv_iload_n C.1.1 C.1.2.1 dX0_waysToOutlast_16 rfl (lv_at hl 3 rfl) ?_
        refine lv_aload_n C.1.1 C.1.2.1 dX0_waysToOutlast_17 rfl (lv_at hl 1 rfl) ?_
        refine lv_iconst (v := 0) C.1.1 C.1.2.1 dX0_waysToOutlast_18 (by decide) ?_
        refine lv_aload_n C.1.1 C.1.2.1 dX0_waysToOutlast_19 rfl (lv_at hl 0 rfl) ?_
        refine G_X0_9 C hW (by decide) dX0_waysToOutlast_20 ?_
        refine lv_iload_n C.1.1 C.1.2.1 dX0_waysToOutlast_23 rfl (lv_at hl 3 rfl) ?_
        obtain ⟨hi3, h⟩ := gi_some h
        refine w_zald C hW (n := 10) (by decide) (by decide) hi3 dX0_waysToOutlast_24 ?_
        obtain ⟨r4, hc5, h⟩ := bd1_some h
        refine w_callVi (k := 2) (As := [.int (0 : Int32), .int (I 213 z3.toNatClampNeg)]) (rest := [.int z3, .ref (g.1 + (215 + (0 : Int32).toNatClampNeg))]) C hW (c_X6_grows g l hv1 hc5) hv1 rfl (EX_6 hv1) K_X0_48 (by decide +kernel) ⟨by decide, by decide⟩ ⟨Nat.le_refl _, Nat.le_refl _⟩ rfl hl.1 rfl (Nat.le_of_ble_eq_true rfl) dX0_waysToOutlast_25 (fun H locs hW => ?_)
        obtain ⟨hi6, h⟩ := gi_some h
        refine w_iast C hW (n := 10) (kd_gr1 hi2) (ln_gr1 hi2) hi6 dX0_waysToOutlast_28 (fun H locs hW => ?_)
        obtain ⟨I7, eI7, h⟩ := nm_some h
        rw [← eI7] at hW
        clear eI7
        refine lv_aload_n C.1.1 C.1.2.1 dX0_waysToOutlast_29 rfl (lv_at hl 0 rfl) ?_
        refine G_X0_17 C hW (by decide) dX0_waysToOutlast_30 ?_
        refine lv_iconst (v := 1) C.1.1 C.1.2.1 dX0_waysToOutlast_33 (by decide) ?_
        obtain ⟨hi8, h⟩ := gi_some h
        refine w_agr1 C hW hi8 dX0_waysToOutlast_34 ?_
        refine lv_iload_n C.1.1 C.1.2.1 dX0_waysToOutlast_35 rfl (lv_at hl 3 rfl) ?_
        refine lv_aload_n C.1.1 C.1.2.1 dX0_waysToOutlast_36 rfl (lv_at hl 1 rfl) ?_
        refine lv_iconst (v := 1) C.1.1 C.1.2.1 dX0_waysToOutlast_37 (by decide) ?_
        refine lv_aload_n C.1.1 C.1.2.1 dX0_waysToOutlast_38 rfl (lv_at hl 0 rfl) ?_
        refine G_X0_9 C hW (by decide) dX0_waysToOutlast_39 ?_
        refine lv_iload_n C.1.1 C.1.2.1 dX0_waysToOutlast_42 rfl (lv_at hl 3 rfl) ?_
        obtain ⟨hi9, h⟩ := gi_some h
        refine w_zald C hW (n := 10) (by decide) (by decide) hi9 dX0_waysToOutlast_43 ?_
        obtain ⟨r10, hc11, h⟩ := bd1_some h
        refine w_callVi (k := 2) (As := [.int (1 : Int32), .int (I7 213 z3.toNatClampNeg)]) (rest := [.int z3, .ref (g.1 + (215 + (1 : Int32).toNatClampNeg))]) C hW (c_X6_grows g l hv1 hc11) hv1 rfl (EX_6 hv1) K_X0_48 (by decide +kernel) ⟨by decide, by decide⟩ ⟨Nat.le_refl _, Nat.le_refl _⟩ rfl hl.1 rfl (Nat.le_of_ble_eq_true rfl) dX0_waysToOutlast_44 (fun H locs hW => ?_)
        obtain ⟨hi12, h⟩ := gi_some h
        refine w_iast C hW (n := 10) (kd_gr1 hi8) (ln_gr1 hi8) hi12 dX0_waysToOutlast_47 (fun H locs hW => ?_)
        obtain ⟨I13, eI13, h⟩ := nm_some h
        rw [← eI13] at hW
        clear eI13
        refine lv_aload_n C.1.1 C.1.2.1 dX0_waysToOutlast_48 rfl (lv_at hl 0 rfl) ?_
        refine G_X0_20 C hW (by decide) dX0_waysToOutlast_49 ?_
        refine lv_iconst (v := 0) C.1.1 C.1.2.1 dX0_waysToOutlast_52 (by decide) ?_
        obtain ⟨hi14, h⟩ := gi_some h
        refine w_agr2 C hW hi14 dX0_waysToOutlast_53 ?_
        refine lv_iload_n C.1.1 C.1.2.1 dX0_waysToOutlast_54 rfl (lv_at hl 3 rfl) ?_
        refine lv_aload_n C.1.1 C.1.2.1 dX0_waysToOutlast_55 rfl (lv_at hl 2 rfl) ?_
        refine lv_iconst (v := 0) C.1.1 C.1.2.1 dX0_waysToOutlast_56 (by decide) ?_
        refine lv_aload_n C.1.1 C.1.2.1 dX0_waysToOutlast_57 rfl (lv_at hl 0 rfl) ?_
        refine G_X0_9 C hW (by decide) dX0_waysToOutlast_58 ?_
        refine lv_iload_n C.1.1 C.1.2.1 dX0_waysToOutlast_61 rfl (lv_at hl 3 rfl) ?_
        obtain ⟨hi15, h⟩ := gi_some h
        refine w_zald C hW (n := 10) (by decide) (by decide) hi15 dX0_waysToOutlast_62 ?_
        obtain ⟨r16, hc17, h⟩ := bd1_some h
        refine w_callVi (k := 2) (As := [.int (0 : Int32), .int (I13 213 z3.toNatClampNeg)]) (rest := [.int z3, .ref (g.1 + (218 + (0 : Int32).toNatClampNeg))]) C hW (c_X6_grows g l hv2 hc17) hv2 rfl (EX_6 hv2) K_X0_48 (by decide +kernel) ⟨by decide, by decide⟩ ⟨Nat.le_refl _, Nat.le_refl _⟩ rfl hl.1 rfl (Nat.le_of_ble_eq_true rfl) dX0_waysToOutlast_63 (fun H locs hW => ?_)
        obtain ⟨hi18, h⟩ := gi_some h
        refine w_iast C hW (n := 10) (kd_gr2 hi14) (ln_gr2 hi14) hi18 dX0_waysToOutlast_66 (fun H locs hW => ?_)
        obtain ⟨I19, eI19, h⟩ := nm_some h
        rw [← eI19] at hW
        clear eI19
        refine lv_aload_n C.1.1 C.1.2.1 dX0_waysToOutlast_67 rfl (lv_at hl 0 rfl) ?_
        refine G_X0_20 C hW (by decide) dX0_waysToOutlast_68 ?_
        refine lv_iconst (v := 1) C.1.1 C.1.2.1 dX0_waysToOutlast_71 (by decide) ?_
        obtain ⟨hi20, h⟩ := gi_some h
        refine w_agr2 C hW hi20 dX0_waysToOutlast_72 ?_
        refine lv_iload_n C.1.1 C.1.2.1 dX0_waysToOutlast_73 rfl (lv_at hl 3 rfl) ?_
        refine lv_aload_n C.1.1 C.1.2.1 dX0_waysToOutlast_74 rfl (lv_at hl 2 rfl) ?_
        refine lv_iconst (v := 1) C.1.1 C.1.2.1 dX0_waysToOutlast_75 (by decide) ?_
        refine lv_aload_n C.1.1 C.1.2.1 dX0_waysToOutlast_76 rfl (lv_at hl 0 rfl) ?_
        refine G_X0_9 C hW (by decide) dX0_waysToOutlast_77 ?_
        refine lv_iload_n C.1.1 C.1.2.1 dX0_waysToOutlast_80 rfl (lv_at hl 3 rfl) ?_
        obtain ⟨hi21, h⟩ := gi_some h
        refine w_zald C hW (n := 10) (by decide) (by decide) hi21 dX0_waysToOutlast_81 ?_
        obtain ⟨r22, hc23, h⟩ := bd1_some h
        refine w_callVi (k := 2) (As := [.int (1 : Int32), .int (I19 213 z3.toNatClampNeg)]) (rest := [.int z3, .ref (g.1 + (218 + (1 : Int32).toNatClampNeg))]) C hW (c_X6_grows g l hv2 hc23) hv2 rfl (EX_6 hv2) K_X0_48 (by decide +kernel) ⟨by decide, by decide⟩ ⟨Nat.le_refl _, Nat.le_refl _⟩ rfl hl.1 rfl (Nat.le_of_ble_eq_true rfl) dX0_waysToOutlast_82 (fun H locs hW => ?_)
        obtain ⟨hi24, h⟩ := gi_some h
        refine w_iast C hW (n := 10) (kd_gr2 hi20) (ln_gr2 hi20) hi24 dX0_waysToOutlast_85 (fun H locs hW => ?_)
        obtain ⟨I25, eI25, h⟩ := nm_some h
        rw [← eI25] at hW
        clear eI25
        obtain ⟨x26, ex26⟩ : ∃ y : Int32, y = z3 + (1 : Int32) := ⟨_, rfl⟩
        replace h := nm_at ex26 h
        refine lv_iinc (v := x26) (lv' := [(3, .int x26), (0, .ref (g.1 + 212)), (1, .ref (g.1 + v1)), (2, .ref (g.1 + v2))]) C.1.1 C.1.2.1 dX0_waysToOutlast_86 hl (k := 3) rfl (by rw [ex26]; rfl) (by decide) rfl (fun ls hl => ?_)
        clear ex26
        refine lv_goto (tgt := 2) C.1.1 C.1.2.1 dX0_waysToOutlast_89 (by decide) ?_
        obtain rfl := Option.some.inj h
        exact ih _ _ _ h9 _ _ _ hW (lv_sub hl [1, 2, 3, 0] rfl) hx0
def f_X0_waysToOutlast (a1 : Nat) (a2 : Nat) (I : MI) (L : ML) : Option (Int64 × MI) :=
  bd1 (lp (fun s => b_X0_waysToOutlast_2 a1 a2 L s.1 s.2) FU (((0 : Int32), I))) (fun I28 => nm (up2 I28 212 5 (I28 a1 1)) (fun I29 => nm (up2 I29 212 6 (I29 a2 1)) (fun I30 => bd1 (f_X0_waysFrom 12 (0 : Int32) (I30 a1 5) (I30 a2 5) I30 L) (fun r31 => some (r31, I30)))))
set_option maxHeartbeats 4000000 in
set_option maxRecDepth 100000 in
theorem c_X0_waysToOutlast (g : Gp) (l : Launch) {a1 : Nat} {a2 : Nat} (ha1 : kd a1 = 6) (ha2 : kd a2 = 6) {I : MI} {L : ML} {r : Int64} {I' : MI} (h : f_X0_waysToOutlast a1 a2 I L = some (r, I')) : MetL g l yX0_waysToOutlast cX0_waysToOutlast 4 14 [.ref (g.1 + 212), .ref (g.1 + a1), .ref (g.1 + a2)] I L r I' L := by
  unfold f_X0_waysToOutlast at h
  refine w_enter (by decide) (Nat.le_of_ble_eq_true rfl) (own := RX0) rfl ?_
  intro p e s m below meth c args Q hQ C hr hlocks hW ls hl
  have hl : lv_has ls 4 [(0, .ref (g.1 + 212)), (1, .ref (g.1 + a1)), (2, .ref (g.1 + a2))] := hl
  refine lv_iconst (v := 0) C.1.1 C.1.2.1 dX0_waysToOutlast_0 (by decide) ?_
  refine lv_istore_n (lv' := [(3, .int (0 : Int32)), (0, .ref (g.1 + 212)), (1, .ref (g.1 + a1)), (2, .ref (g.1 + a2))]) C.1.1 C.1.2.1 dX0_waysToOutlast_1 rfl hl (by decide) rfl (fun ls hl => ?_)
  obtain ⟨I28, hq27, h⟩ := bd1_some h
  refine l_X0_waysToOutlast_2 C a1 a2 ha1 ha2 L _ _ _ _ hq27 _ _ _ hW (lv_sub hl [1, 2, 3, 0] rfl) (fun H locs ls hW hl => ?_)
  refine lv_aload_n C.1.1 C.1.2.1 dX0_waysToOutlast_92 rfl (lv_at hl 0 rfl) ?_
  refine lv_aload_n C.1.1 C.1.2.1 dX0_waysToOutlast_93 rfl (lv_at hl 1 rfl) ?_
  refine G_X0_54 C hW ha1 dX0_waysToOutlast_94 ?_
  refine P_X0_57 C hW (by decide) dX0_waysToOutlast_97 (fun H locs hW => ?_)
  obtain ⟨I29, eI29, h⟩ := nm_some h
  rw [← eI29] at hW
  clear eI29
  refine lv_aload_n C.1.1 C.1.2.1 dX0_waysToOutlast_100 rfl (lv_at hl 0 rfl) ?_
  refine lv_aload_n C.1.1 C.1.2.1 dX0_waysToOutlast_101 rfl (lv_at hl 2 rfl) ?_
  refine G_X0_54 C hW ha2 dX0_waysToOutlast_102 ?_
  refine P_X0_60 C hW (by decide) dX0_waysToOutlast_105 (fun H locs hW => ?_)
  obtain ⟨I30, eI30, h⟩ := nm_some h
  rw [← eI30] at hW
  clear eI30
  refine lv_aload_n C.1.1 C.1.2.1 dX0_waysToOutlast_108 rfl (lv_at hl 0 rfl) ?_
  refine lv_iconst (v := 0) C.1.1 C.1.2.1 dX0_waysToOutlast_109 (by decide) ?_
  refine lv_aload_n C.1.1 C.1.2.1 dX0_waysToOutlast_110 rfl (lv_at hl 1 rfl) ?_
  refine G_X0_63 C hW ha1 dX0_waysToOutlast_111 ?_
  refine lv_aload_n C.1.1 C.1.2.1 dX0_waysToOutlast_114 rfl (lv_at hl 2 rfl) ?_
  refine G_X0_63 C hW ha2 dX0_waysToOutlast_115 ?_
  obtain ⟨r31, hc32, h⟩ := bd1_some h
  refine w_callSl (k := 4) (As := [.ref (g.1 + 212), .int (0 : Int32), .int (I30 a1 5), .int (I30 a2 5)]) (rest := []) C hW (c_X0_waysFrom g l 12  hc32) K_X0_66 (by decide +kernel) ⟨by decide, by decide⟩ ⟨Nat.le_refl _, Nat.le_refl _⟩ rfl hl.1 rfl (Nat.le_of_ble_eq_true rfl) dX0_waysToOutlast_118 (fun H locs hW => ?_)
  obtain ⟨rfl, rfl⟩ := inj2 h
  subst hQ
  exact w_lret C hW hr hlocks dX0_waysToOutlast_121
def b_X0_lowest_15 (v3 : Int32) (I : MI) (L : ML) (z4 : Int64) (z6 : Int64) (z8 : Int32) : Option ((Int64 × Int64 × Int32) ⊕ ((Int64 × Int64))) :=
  (if (I 212 3) ≤ z8 then some (Sum.inr (z4, z6)) else bd2 ((if (lg_cmp (z4 - z4 / (2 : Int64) * (2 : Int64)) (0 : Int64)) = 0 then (if (lg_cmp (z6 - z6 / (2 : Int64) * (2 : Int64)) (0 : Int64)) = 0 then nm (z4 / (2 : Int64)) (fun x19 => nm (z6 / (2 : Int64)) (fun x20 => some (x19, x20))) else some (z4, z6)) else some (z4, z6))) (fun y4 y5 => bd2 ((if (lg_cmp (y4 - y4 / (5 : Int64) * (5 : Int64)) (0 : Int64)) = 0 then (if (lg_cmp (y5 - y5 / (5 : Int64) * (5 : Int64)) (0 : Int64)) = 0 then nm (y4 / (5 : Int64)) (fun x15 => nm (y5 / (5 : Int64)) (fun x16 => some (x15, x16))) else some (y4, y5)) else some (y4, y5))) (fun y8 y9 => nm (z8 + (1 : Int32)) (fun x12 => some (Sum.inl (y8, y9, x12))))))
set_option maxHeartbeats 4000000 in
set_option maxRecDepth 100000 in
theorem l_X0_lowest_15 {g : Gp} {p : Program} {l : Launch} {e : Env} {s : State} {m : MethodId} {args : Array Value} {below : List Frame} {meth : Method} {c : Code} {Q : State → Prop}  (C : Cx g p s m args c RX0 cX0_lowest 9) (v3 : Int32)  (I : MI) (L : ML) : ∀ (n : Nat) (z4 : Int64) (z6 : Int64) (z8 : Int32) (y0_4 : Int64) (y0_6 : Int64), lp (fun s => b_X0_lowest_15 v3 I L s.1 s.2.1 s.2.2) n (z4, z6, z8) = some (y0_4, y0_6) → ∀ (H : Heap) (locs : List Loc) (ls : Array Slot), Ws g s I L H locs → lv_has ls 9 [(0, .ref (g.1 + 212)), (3, .int v3), (4, .long z4), (6, .long z6), (8, .int z8)] → (∀ (H : Heap) (locs : List Loc) (ls : Array Slot), Ws g s I L H locs → lv_has ls 9 [(3, .int v3), (4, .long y0_4), (6, .long y0_6)] → W p l e (rmD 1) s m args below meth c H locs 0 0 Q (F0 m 106 ls [])) → W p l e (rmD 1) s m args below meth c H locs 0 0 Q (F0 m 15 ls []) := by
  intro n
  induction n with
  | zero => intro z4 z6 z8 y0_4 y0_6 h; exact lp_zero h
  | succ n ih =>
      intro z4 z6 z8 y0_4 y0_6 h H locs ls hW hl hx0
      obtain ⟨r9, h, h9⟩ := lp_some h
      have h : b_X0_lowest_15 v3 I L z4 z6 z8 = some r9 := h
      unfold b_X0_lowest_15 at h
      refine lv_iload C.1.1 C.1.2.1 dX0_lowest_15 (lv_at hl 4 rfl) ?_
      refine lv_aload_n C.1.1 C.1.2.1 dX0_lowest_17 rfl (lv_at hl 0 rfl) ?_
      refine G_X0_29 C hW (by decide) dX0_lowest_18 ?_
      refine lv_icmp_ge (tgt := 106) C.1.1 C.1.2.1 dX0_lowest_21 (by decide) (fun hc3 => ?_) (fun hc3 => ?_)
      · replace h := ite_t hc3 h
        obtain rfl := Option.some.inj h
        replace h9 := Option.some.inj h9
        obtain ⟨rfl, rfl⟩ := pnj2 h9
        exact hx0 _ _ _ hW (lv_sub hl [1, 2, 3] rfl)
      · replace h := ite_f hc3 h
        refine lv_lload C.1.1 C.1.2.1 dX0_lowest_24 (lv_at hl 2 rfl) ?_
        refine lv_ldc2 C.1.1 C.1.2.1 C.1.2.2.2.1 (C.1.2.2.2.2 _ kl_X0_76) dX0_lowest_26 ?_
        refine lv_lrem C.1.1 C.1.2.1 dX0_lowest_29 (by decide) ?_
        refine lv_lconst (v := 0) C.1.1 C.1.2.1 dX0_lowest_30 (by decide) ?_
        refine W.lcmp C.1.1 C.1.2.1 dX0_lowest_31 ?_
        obtain ⟨y4, y5, hj7, h⟩ := bd2_some h
        have kJ6 : ∀ (H : Heap) (locs : List Loc) (ls : Array Slot), Ws g s I L H locs → lv_has ls 9 [(0, .ref (g.1 + 212)), (3, .int v3), (4, .long y4), (6, .long y5), (8, .int z8)] → W p l e (rmD 1) s m args below meth c H locs 0 0 Q (F0 m 62 ls []) := by
          intro H locs ls hW hl
          refine lv_lload C.1.1 C.1.2.1 dX0_lowest_62 (lv_at hl 2 rfl) ?_
          refine lv_ldc2 C.1.1 C.1.2.1 C.1.2.2.2.1 (C.1.2.2.2.2 _ kl_X0_78) dX0_lowest_64 ?_
          refine lv_lrem C.1.1 C.1.2.1 dX0_lowest_67 (by decide) ?_
          refine lv_lconst (v := 0) C.1.1 C.1.2.1 dX0_lowest_68 (by decide) ?_
          refine W.lcmp C.1.1 C.1.2.1 dX0_lowest_69 ?_
          obtain ⟨y8, y9, hj11, h⟩ := bd2_some h
          have kJ10 : ∀ (H : Heap) (locs : List Loc) (ls : Array Slot), Ws g s I L H locs → lv_has ls 9 [(0, .ref (g.1 + 212)), (3, .int v3), (4, .long y8), (6, .long y9), (8, .int z8)] → W p l e (rmD 1) s m args below meth c H locs 0 0 Q (F0 m 100 ls []) := by
            intro H locs ls hW hl
            obtain ⟨x12, ex12⟩ : ∃ y : Int32, y = z8 + (1 : Int32) := ⟨_, rfl⟩
            replace h := nm_at ex12 h
            refine lv_iinc (v := x12) (lv' := [(8, .int x12), (0, .ref (g.1 + 212)), (3, .int v3), (4, .long y8), (6, .long y9)]) C.1.1 C.1.2.1 dX0_lowest_100 hl (k := 4) rfl (by rw [ex12]; rfl) (by decide) rfl (fun ls hl => ?_)
            clear ex12
            refine lv_goto (tgt := 15) C.1.1 C.1.2.1 dX0_lowest_103 (by decide) ?_
            obtain rfl := Option.some.inj h
            exact ih _ _ _ _ _ h9 _ _ _ hW (lv_sub hl [1, 2, 3, 4, 0] rfl) hx0
          clear h
          have h := hj11
          clear hj11
          refine lv_if_ne (tgt := 100) C.1.1 C.1.2.1 dX0_lowest_70 (by decide) (fun hc13 => ?_) (fun hc13 => ?_)
          · replace h := ite_f hc13 h
            obtain ⟨rfl, rfl⟩ := inj2 h
            exact kJ10 _ _ _ hW (lv_sub hl [0, 1, 2, 3, 4] rfl)
          · replace h := ite_t hc13 h
            refine lv_lload C.1.1 C.1.2.1 dX0_lowest_73 (lv_at hl 3 rfl) ?_
            refine lv_ldc2 C.1.1 C.1.2.1 C.1.2.2.2.1 (C.1.2.2.2.2 _ kl_X0_78) dX0_lowest_75 ?_
            refine lv_lrem C.1.1 C.1.2.1 dX0_lowest_78 (by decide) ?_
            refine lv_lconst (v := 0) C.1.1 C.1.2.1 dX0_lowest_79 (by decide) ?_
            refine W.lcmp C.1.1 C.1.2.1 dX0_lowest_80 ?_
            refine lv_if_ne (tgt := 100) C.1.1 C.1.2.1 dX0_lowest_81 (by decide) (fun hc14 => ?_) (fun hc14 => ?_)
            · replace h := ite_f hc14 h
              obtain ⟨rfl, rfl⟩ := inj2 h
              exact kJ10 _ _ _ hW (lv_sub hl [0, 1, 2, 3, 4] rfl)
            · replace h := ite_t hc14 h
              refine lv_lload C.1.1 C.1.2.1 dX0_lowest_84 (lv_at hl 2 rfl) ?_
              refine lv_ldc2 C.1.1 C.1.2.1 C.1.2.2.2.1 (C.1.2.2.2.2 _ kl_X0_78) dX0_lowest_86 ?_
              refine lv_ldiv C.1.1 C.1.2.1 dX0_lowest_89 (by decide) ?_
              refine lv_topl (fun x15 ex15 => ?_)
              replace h := nm_at ex15 h
              clear ex15
              refine lv_lstore (lv' := [(4, .long x15), (0, .ref (g.1 + 212)), (3, .int v3), (6, .long y5), (8, .int z8)]) C.1.1 C.1.2.1 dX0_lowest_90 hl (by decide) rfl (fun ls hl => ?_)
              refine lv_lload C.1.1 C.1.2.1 dX0_lowest_92 (lv_at hl 3 rfl) ?_
              refine lv_ldc2 C.1.1 C.1.2.1 C.1.2.2.2.1 (C.1.2.2.2.2 _ kl_X0_78) dX0_lowest_94 ?_
              refine lv_ldiv C.1.1 C.1.2.1 dX0_lowest_97 (by decide) ?_
              refine lv_topl (fun x16 ex16 => ?_)
              replace h := nm_at ex16 h
              clear ex16
              refine lv_lstore (lv' := [(6, .long x16), (4, .long x15), (0, .ref (g.1 + 212)), (3, .int v3), (8, .int z8)]) C.1.1 C.1.2.1 dX0_lowest_98 hl (by decide) rfl (fun ls hl => ?_)
              obtain ⟨rfl, rfl⟩ := inj2 h
              exact kJ10 _ _ _ hW (lv_sub hl [2, 3, 1, 0, 4] rfl)
        clear h
        have h := hj7
        clear hj7
        refine lv_if_ne (tgt := 62) C.1.1 C.1.2.1 dX0_lowest_32 (by decide) (fun hc17 => ?_) (fun hc17 => ?_)
        · replace h := ite_f hc17 h
          obtain ⟨rfl, rfl⟩ := inj2 h
          exact kJ6 _ _ _ hW (lv_sub hl [0, 1, 2, 3, 4] rfl)
        · replace h := ite_t hc17 h
          refine lv_lload C.1.1 C.1.2.1 dX0_lowest_35 (lv_at hl 3 rfl) ?_
          refine lv_ldc2 C.1.1 C.1.2.1 C.1.2.2.2.1 (C.1.2.2.2.2 _ kl_X0_76) dX0_lowest_37 ?_
          refine lv_lrem C.1.1 C.1.2.1 dX0_lowest_40 (by decide) ?_
          refine lv_lconst (v := 0) C.1.1 C.1.2.1 dX0_lowest_41 (by decide) ?_
          refine W.lcmp C.1.1 C.1.2.1 dX0_lowest_42 ?_
          refine lv_if_ne (tgt := 62) C.1.1 C.1.2.1 dX0_lowest_43 (by decide) (fun hc18 => ?_) (fun hc18 => ?_)
          · replace h := ite_f hc18 h
            obtain ⟨rfl, rfl⟩ := inj2 h
            exact kJ6 _ _ _ hW (lv_sub hl [0, 1, 2, 3, 4] rfl)
          · replace h := ite_t hc18 h
            refine lv_lload C.1.1 C.1.2.1 dX0_lowest_46 (lv_at hl 2 rfl) ?_
            refine lv_ldc2 C.1.1 C.1.2.1 C.1.2.2.2.1 (C.1.2.2.2.2 _ kl_X0_76) dX0_lowest_48 ?_
            refine lv_ldiv C.1.1 C.1.2.1 dX0_lowest_51 (by decide) ?_
            refine lv_topl (fun x19 ex19 => ?_)
            replace h := nm_at ex19 h
            clear ex19
            refine lv_lstore (lv' := [(4, .long x19), (0, .ref (g.1 + 212)), (3, .int v3), (6, .long z6), (8, .int z8)]) C.1.1 C.1.2.1 dX0_lowest_52 hl (by decide) rfl (fun ls hl => ?_)
            refine lv_lload C.1.1 C.1.2.1 dX0_lowest_54 (lv_at hl 3 rfl) ?_
            refine lv_ldc2 C.1.1 C.1.2.1 C.1.2.2.2.1 (C.1.2.2.2.2 _ kl_X0_76) dX0_lowest_56 ?_
            refine lv_ldiv C.1.1 C.1.2.1 dX0_lowest_59 (by decide) ?_
            refine lv_topl (fun x20 ex20 => ?_)
            replace h := nm_at ex20 h
            clear ex20
            refine lv_lstore (lv' := [(6, .long x20), (4, .long x19), (0, .ref (g.1 + 212)), (3, .int v3), (8, .int z8)]) C.1.1 C.1.2.1 dX0_lowest_60 hl (by decide) rfl (fun ls hl => ?_)
            obtain ⟨rfl, rfl⟩ := inj2 h
            exact kJ6 _ _ _ hW (lv_sub hl [2, 3, 1, 0, 4] rfl)
def f_X0_lowest (a1 : Int64) (a2 : Int32) (I : MI) (L : ML) : Option (Int64) :=
  bd1 (f_X0_tensTo (I 212 3)) (fun r1 => bd2 (lp (fun s => b_X0_lowest_15 a2 I L s.1 s.2.1 s.2.2) FU ((a1, r1, (0 : Int32)))) (fun y22 y23 => bd1 (if a2 = 0 then some y22 else some y23) (fun y24 => some y24)))
set_option maxHeartbeats 4000000 in
set_option maxRecDepth 100000 in
theorem c_X0_lowest (g : Gp) (l : Launch) {a1 : Int64} {a2 : Int32}  {I : MI} {L : ML} {r : Int64} (h : f_X0_lowest a1 a2 I L = some r) : MetL g l yX0_lowest cX0_lowest 9 1 [.ref (g.1 + 212), .long a1, .int a2] I L r I L := by
  unfold f_X0_lowest at h
  refine w_enter (by decide) (Nat.le_of_ble_eq_true rfl) (own := RX0) rfl ?_
  intro p e s m below meth c args Q hQ C hr hlocks hW ls hl
  have hl : lv_has ls 9 [(0, .ref (g.1 + 212)), (1, .long a1), (3, .int a2)] := hl
  refine lv_lload_n C.1.1 C.1.2.1 dX0_lowest_0 rfl (lv_at hl 1 rfl) ?_
  refine lv_lstore (lv' := [(4, .long a1), (0, .ref (g.1 + 212)), (1, .long a1), (3, .int a2)]) C.1.1 C.1.2.1 dX0_lowest_1 hl (by decide) rfl (fun ls hl => ?_)
  refine lv_aload_n C.1.1 C.1.2.1 dX0_lowest_3 rfl (lv_at hl 1 rfl) ?_
  refine G_X0_29 C hW (by decide) dX0_lowest_4 ?_
  obtain ⟨r1, hc2, h⟩ := bd1_some h
  refine w_callSl (k := 1) (As := [.int (I 212 3)]) (rest := []) C hW (c_X0_tensTo g l  hc2 I L) K_X0_70 (by decide +kernel) ⟨by decide, by decide⟩ ⟨Nat.le_refl _, Nat.le_refl _⟩ rfl hl.1 rfl (Nat.le_of_ble_eq_true rfl) dX0_lowest_7 (fun H locs hW => ?_)
  refine lv_lstore (lv' := [(6, .long r1), (4, .long a1), (0, .ref (g.1 + 212)), (1, .long a1), (3, .int a2)]) C.1.1 C.1.2.1 dX0_lowest_10 hl (by decide) rfl (fun ls hl => ?_)
  refine lv_iconst (v := 0) C.1.1 C.1.2.1 dX0_lowest_12 (by decide) ?_
  refine lv_istore (lv' := [(8, .int (0 : Int32)), (6, .long r1), (4, .long a1), (0, .ref (g.1 + 212)), (1, .long a1), (3, .int a2)]) C.1.1 C.1.2.1 dX0_lowest_13 hl (by decide) rfl (fun ls hl => ?_)
  obtain ⟨y22, y23, hq21, h⟩ := bd2_some h
  refine l_X0_lowest_15 C a2  I L _ _ _ _ _ _ hq21 _ _ _ hW (lv_sub hl [3, 5, 2, 1, 0] rfl) (fun H locs ls hW hl => ?_)
  refine lv_iload_n C.1.1 C.1.2.1 dX0_lowest_106 rfl (lv_at hl 0 rfl) ?_
  obtain ⟨y24, hj26, h⟩ := bd1_some h
  have kJ25 : ∀ (H : Heap) (locs : List Loc) (ls : Array Slot), Ws g s I L H locs → lv_has ls 9 [] → W p l e (rmD 1) s m args below meth c H locs 0 0 Q (F0 m 117 ls [.long y24]) := by
    intro H locs ls hW hl
    obtain rfl := inj1 h
    subst hQ
    exact w_lret C hW hr hlocks dX0_lowest_117
  clear h
  have h := hj26
  clear hj26
  refine lv_if_ne (tgt := 115) C.1.1 C.1.2.1 dX0_lowest_107 (by decide) (fun hc27 => ?_) (fun hc27 => ?_)
  · replace h := ite_f hc27 h
    refine lv_lload C.1.1 C.1.2.1 dX0_lowest_115 (lv_at hl 2 rfl) ?_
    obtain rfl := inj1 h
    exact kJ25 _ _ _ hW (lv_sub hl [] rfl)
  · replace h := ite_t hc27 h
    refine lv_lload C.1.1 C.1.2.1 dX0_lowest_110 (lv_at hl 1 rfl) ?_
    refine lv_goto (tgt := 117) C.1.1 C.1.2.1 dX0_lowest_112 (by decide) ?_
    obtain rfl := inj1 h
    exact kJ25 _ _ _ hW (lv_sub hl [] rfl)
def f_X10_drawAfter (a1 : Int32) : Option (Int32) :=
  nm ((16807 : Int64) * a1.toInt64) (fun x1 => some ((x1 - x1 / (2147483647 : Int64) * (2147483647 : Int64)).toInt32))
set_option maxHeartbeats 4000000 in
set_option maxRecDepth 100000 in
theorem c_X10_drawAfter (g : Gp) (l : Launch) {a1 : Int32}  {r : Int32} (h : f_X10_drawAfter a1 = some r) (I : MI) (L : ML) : MetI g l yX10_drawAfter cX10_drawAfter 1 .int 0 [.int a1] I L r I L := by
  unfold f_X10_drawAfter at h
  refine w_enter (by decide) (Nat.le_of_ble_eq_true rfl) (own := RX10) rfl ?_
  intro p e s m below meth c args Q hQ C hr hlocks hW ls hl
  have hl : lv_has ls 1 [(0, .int a1)] := hl
  refine lv_ldc2 C.1.1 C.1.2.1 C.1.2.2.2.1 (C.1.2.2.2.2 _ kl_X10_356) dX10_drawAfter_0 ?_
  refine lv_iload_n C.1.1 C.1.2.1 dX10_drawAfter_3 rfl (lv_at hl 0 rfl) ?_
  refine lv_i2l C.1.1 C.1.2.1 dX10_drawAfter_4 rfl ?_
  refine lv_lmul C.1.1 C.1.2.1 dX10_drawAfter_5 ?_
  refine lv_ldc2 C.1.1 C.1.2.1 C.1.2.2.2.1 (C.1.2.2.2.2 _ kl_X10_358) dX10_drawAfter_6 ?_
  obtain ⟨x1, ex1⟩ : ∃ y, y = (16807 : Int64) * a1.toInt64 := ⟨_, rfl⟩
  rw [← ex1]
  replace h := nm_at ex1 h
  clear ex1
  refine lv_lrem C.1.1 C.1.2.1 dX10_drawAfter_9 (by decide) ?_
  refine lv_l2i C.1.1 C.1.2.1 dX10_drawAfter_10 rfl ?_
  obtain rfl := inj1 h
  subst hQ
  exact w_iret C hW hr hlocks dX10_drawAfter_11
def b_X1_setNights_2 (v1 : Int32) (v2 : Int32) (L : ML) (z3 : Int32) (I : MI) : Option ((Int32 × MI) ⊕ ((MI))) :=
  (if (60 : Int32) ≤ z3 then some (Sum.inr I) else bd1 (f_X10_isDark (v1 + z3) v2) (fun r2 => gi z3 60 (gd (r2 = 0 ∨ r2 = 1) (nm (up2 I 209 z3.toNatClampNeg r2) (fun I6 => nm (z3 + (1 : Int32)) (fun x7 => some (Sum.inl (x7, I6))))))))
set_option maxHeartbeats 4000000 in
set_option maxRecDepth 100000 in
theorem l_X1_setNights_2 {g : Gp} {p : Program} {l : Launch} {e : Env} {s : State} {m : MethodId} {args : Array Value} {below : List Frame} {meth : Method} {c : Code} {Q : State → Prop}  (C : Cx g p s m args c RX1 cX1_setNights 4) (v1 : Int32) (v2 : Int32)  (L : ML) : ∀ (n : Nat) (z3 : Int32) (I : MI) (Iy0 : MI), lp (fun s => b_X1_setNights_2 v1 v2 L s.1 s.2) n (z3, I) = some Iy0 → ∀ (H : Heap) (locs : List Loc) (ls : Array Slot), Ws g s I L H locs → lv_has ls 4 [(0, .ref (g.1 + 207)), (1, .int v1), (2, .int v2), (3, .int z3)] → (∀ (H : Heap) (locs : List Loc) (ls : Array Slot), Ws g s Iy0 L H locs → lv_has ls 4 [] → W p l e (rmD 1) s m args below meth c H locs 0 0 Q (F0 m 27 ls [])) → W p l e (rmD 1) s m args below meth c H locs 0 0 Q (F0 m 2 ls []) := by
  intro n
  induction n with
  | zero => intro z3 I Iy0 h; exact lp_zero h
  | succ n ih =>
      intro z3 I Iy0 h H locs ls hW hl hx0
      obtain ⟨r9, h, h9⟩ := lp_some h
      have h : b_X1_setNights_2 v1 v2 L z3 I = some r9 := h
      unfold b_X1_setNights_2 at h
      refine lv_iload_n C.1.1 C.1.2.1 dX1_setNights_2 rfl (lv_at hl 3 rfl) ?_
      refine lv_bipush (v := 60) C.1.1 C.1.2.1 dX1_setNights_3 (by decide) ?_
      refine lv_icmp_ge (tgt := 27) C.1.1 C.1.2.1 dX1_setNights_5 (by decide) (fun hc1 => ?_) (fun hc1 => ?_)
      · replace h := ite_t hc1 h
        obtain rfl := Option.some.inj h
        replace h9 := Option.some.inj h9
        obtain rfl := pnj1 h9
        exact hx0 _ _ _ hW (lv_sub hl [] rfl)
      · replace h := ite_f hc1 h
        refine lv_aload_n C.1.1 C.1.2.1 dX1_setNights_8 rfl (lv_at hl 0 rfl) ?_
        refine G_X1_15 C hW (by decide) dX1_setNights_9 ?_
        refine lv_iload_n C.1.1 C.1.2.1 dX1_setNights_12 rfl (lv_at hl 3 rfl) ?_
        refine lv_iload_n C.1.1 C.1.2.1 dX1_setNights_13 rfl (lv_at hl 1 rfl) ?_
        refine lv_iload_n C.1.1 C.1.2.1 dX1_setNights_14 rfl (lv_at hl 3 rfl) ?_
        refine lv_iadd C.1.1 C.1.2.1 dX1_setNights_15 ?_
        refine lv_iload_n C.1.1 C.1.2.1 dX1_setNights_16 rfl (lv_at hl 2 rfl) ?_
        obtain ⟨r2, hc3, h⟩ := bd1_some h
        refine w_callNi (k := 2) (As := [.int (v1 + z3), .int v2]) (rest := [.int z3, .ref (g.1 + 209)]) C hW (c_X10_isDark g l  hc3 I L) (good_U cd_X10_isDark) N_X1_49 ns_X10_isDark ni_X10 (by decide +kernel) ⟨by decide, by decide⟩ ⟨Nat.le_refl _, Nat.le_refl _⟩ rfl hl.1 rfl (Nat.le_of_ble_eq_true rfl) dX1_setNights_17 (fun H locs hW => ?_)
        obtain ⟨hi4, h⟩ := gi_some h
        obtain ⟨hb5, h⟩ := gd_some h
        refine w_zast C hW (n := 60) (by decide) (by decide) hi4 hb5 dX1_setNights_20 (fun H locs hW => ?_)
        obtain ⟨I6, eI6, h⟩ := nm_some h
        rw [← eI6] at hW
        clear eI6
        obtain ⟨x7, ex7⟩ : ∃ y : Int32, y = z3 + (1 : Int32) := ⟨_, rfl⟩
        replace h := nm_at ex7 h
        refine lv_iinc (v := x7) (lv' := [(3, .int x7), (0, .ref (g.1 + 207)), (1, .int v1), (2, .int v2)]) C.1.1 C.1.2.1 dX1_setNights_21 hl (k := 3) rfl (by rw [ex7]; rfl) (by decide) rfl (fun ls hl => ?_)
        clear ex7
        refine lv_goto (tgt := 2) C.1.1 C.1.2.1 dX1_setNights_24 (by decide) ?_
        obtain rfl := Option.some.inj h
        exact ih _ _ _ h9 _ _ _ hW (lv_sub hl [1, 2, 3, 0] rfl) hx0
def f_X1_setNights (a1 : Int32) (a2 : Int32) (I : MI) (L : ML) : Option (MI) :=
  bd1 (lp (fun s => b_X1_setNights_2 a1 a2 L s.1 s.2) FU (((0 : Int32), I))) (fun I9 => some I9)
set_option maxHeartbeats 4000000 in
set_option maxRecDepth 100000 in
theorem c_X1_setNights (g : Gp) (l : Launch) {a1 : Int32} {a2 : Int32}  {I : MI} {L : ML} {I' : MI} (h : f_X1_setNights a1 a2 I L = some I') : MetV g l yX1_setNights cX1_setNights 4 1 [.ref (g.1 + 207), .int a1, .int a2] I L I' L := by
  unfold f_X1_setNights at h
  refine w_enter (by decide) (Nat.le_of_ble_eq_true rfl) (own := RX1) rfl ?_
  intro p e s m below meth c args Q hQ C hr hlocks hW ls hl
  have hl : lv_has ls 4 [(0, .ref (g.1 + 207)), (1, .int a1), (2, .int a2)] := hl
  refine lv_iconst (v := 0) C.1.1 C.1.2.1 dX1_setNights_0 (by decide) ?_
  refine lv_istore_n (lv' := [(3, .int (0 : Int32)), (0, .ref (g.1 + 207)), (1, .int a1), (2, .int a2)]) C.1.1 C.1.2.1 dX1_setNights_1 rfl hl (by decide) rfl (fun ls hl => ?_)
  obtain ⟨I9, hq8, h⟩ := bd1_some h
  refine l_X1_setNights_2 C a1 a2  L _ _ _ _ hq8 _ _ _ hW (lv_sub hl [1, 2, 3, 0] rfl) (fun H locs ls hW hl => ?_)
  obtain rfl := inj1 h
  subst hQ
  exact w_vret C hW hr hlocks dX1_setNights_27
def b_X1_look_7 (v1 : Nat) (L : ML) (z2 : Int32) (z3 : Int32) (I : MI) : Option ((Int32 × Int32 × MI) ⊕ ((MI))) :=
  (if (60 : Int32) ≤ z3 then some (Sum.inr I) else bd1 (f_X10_drawAfter z2) (fun r3 => gi z3 60 (nm (up2 I 208 z3.toNatClampNeg (r3 - r3 / (3 : Int32) * (3 : Int32))) (fun I6 => nm (z3 + (1 : Int32)) (fun x7 => some (Sum.inl (r3, x7, I6)))))))
set_option maxHeartbeats 4000000 in
set_option maxRecDepth 100000 in
theorem l_X1_look_7 {g : Gp} {p : Program} {l : Launch} {e : Env} {s : State} {m : MethodId} {args : Array Value} {below : List Frame} {meth : Method} {c : Code} {Q : State → Prop}  (C : Cx g p s m args c RX1 cX1_look 4) (v1 : Nat) (hv1 : kd v1 = 9) (L : ML) : ∀ (n : Nat) (z2 : Int32) (z3 : Int32) (I : MI) (Iy0 : MI), lp (fun s => b_X1_look_7 v1 L s.1 s.2.1 s.2.2) n (z2, z3, I) = some Iy0 → ∀ (H : Heap) (locs : List Loc) (ls : Array Slot), Ws g s I L H locs → lv_has ls 4 [(0, .ref (g.1 + 207)), (1, .ref (g.1 + v1)), (2, .int z2), (3, .int z3)] → (∀ (H : Heap) (locs : List Loc) (ls : Array Slot), Ws g s Iy0 L H locs → lv_has ls 4 [(0, .ref (g.1 + 207)), (1, .ref (g.1 + v1))] → W p l e (rmD 2) s m args below meth c H locs 0 0 Q (F0 m 33 ls [])) → W p l e (rmD 2) s m args below meth c H locs 0 0 Q (F0 m 7 ls []) := by
  intro n
  induction n with
  | zero => intro z2 z3 I Iy0 h; exact lp_zero h
  | succ n ih =>
      intro z2 z3 I Iy0 h H locs ls hW hl hx0
      obtain ⟨r9, h, h9⟩ := lp_some h
      have h : b_X1_look_7 v1 L z2 z3 I = some r9 := h
      unfold b_X1_look_7 at h
      refine lv_iload_n C.1.1 C.1.2.1 dX1_look_7 rfl (lv_at hl 3 rfl) ?_
      refine lv_bipush (v := 60) C.1.1 C.1.2.1 dX1_look_8 (by decide) ?_
      refine lv_icmp_ge (tgt := 33) C.1.1 C.1.2.1 dX1_look_10 (by decide) (fun hc2 => ?_) (fun hc2 => ?_)
      · replace h := ite_t hc2 h
        obtain rfl := Option.some.inj h
        replace h9 := Option.some.inj h9
        obtain rfl := pnj1 h9
        exact hx0 _ _ _ hW (lv_sub hl [0, 1] rfl)
      · replace h := ite_f hc2 h
        refine lv_iload_n C.1.1 C.1.2.1 dX1_look_13 rfl (lv_at hl 2 rfl) ?_
        obtain ⟨r3, hc4, h⟩ := bd1_some h
        refine w_callNi (k := 1) (As := [.int z2]) (rest := []) C hW (c_X10_drawAfter g l  hc4 I L) (good_U cd_X10_drawAfter) N_X1_35 ns_X10_drawAfter ni_X10 (by decide +kernel) ⟨by decide, by decide⟩ ⟨Nat.le_refl _, Nat.le_refl _⟩ rfl hl.1 rfl (Nat.le_of_ble_eq_true rfl) dX1_look_14 (fun H locs hW => ?_)
        refine lv_istore_n (lv' := [(2, .int r3), (0, .ref (g.1 + 207)), (1, .ref (g.1 + v1)), (3, .int z3)]) C.1.1 C.1.2.1 dX1_look_17 rfl hl (by decide) rfl (fun ls hl => ?_)
        refine lv_aload_n C.1.1 C.1.2.1 dX1_look_18 rfl (lv_at hl 1 rfl) ?_
        refine G_X1_9 C hW (by decide) dX1_look_19 ?_
        refine lv_iload_n C.1.1 C.1.2.1 dX1_look_22 rfl (lv_at hl 3 rfl) ?_
        refine lv_iload_n C.1.1 C.1.2.1 dX1_look_23 rfl (lv_at hl 0 rfl) ?_
        refine lv_iconst (v := 3) C.1.1 C.1.2.1 dX1_look_24 (by decide) ?_
        refine lv_irem C.1.1 C.1.2.1 dX1_look_25 (by decide) ?_
        obtain ⟨hi5, h⟩ := gi_some h
        refine w_iast C hW (n := 60) (by decide) (by decide) hi5 dX1_look_26 (fun H locs hW => ?_)
        obtain ⟨I6, eI6, h⟩ := nm_some h
        rw [← eI6] at hW
        clear eI6
        obtain ⟨x7, ex7⟩ : ∃ y : Int32, y = z3 + (1 : Int32) := ⟨_, rfl⟩
        replace h := nm_at ex7 h
        refine lv_iinc (v := x7) (lv' := [(3, .int x7), (2, .int r3), (0, .ref (g.1 + 207)), (1, .ref (g.1 + v1))]) C.1.1 C.1.2.1 dX1_look_27 hl (k := 3) rfl (by rw [ex7]; rfl) (by decide) rfl (fun ls hl => ?_)
        clear ex7
        refine lv_goto (tgt := 7) C.1.1 C.1.2.1 dX1_look_30 (by decide) ?_
        obtain rfl := Option.some.inj h
        exact ih _ _ _ _ h9 _ _ _ hW (lv_sub hl [2, 3, 1, 0] rfl) hx0
def f_X1_look (a1 : Nat) (I : MI) (L : ML) : Option (MI) :=
  nm (I a1 6) (fun x1 => bd1 (lp (fun s => b_X1_look_7 a1 L s.1 s.2.1 s.2.2) FU ((x1, (0 : Int32), I))) (fun I9 => bd1 (f_X1_setNights (I9 a1 4) (I9 a1 2) I9 L) (fun I10 => some I10)))
set_option maxHeartbeats 4000000 in
set_option maxRecDepth 100000 in
theorem c_X1_look (g : Gp) (l : Launch) {a1 : Nat} (ha1 : kd a1 = 9) {I : MI} {L : ML} {I' : MI} (h : f_X1_look a1 I L = some I') : MetV g l yX1_look cX1_look 4 2 [.ref (g.1 + 207), .ref (g.1 + a1)] I L I' L := by
  unfold f_X1_look at h
  refine w_enter (by decide) (Nat.le_of_ble_eq_true rfl) (own := RX1) rfl ?_
  intro p e s m below meth c args Q hQ C hr hlocks hW ls hl
  have hl : lv_has ls 4 [(0, .ref (g.1 + 207)), (1, .ref (g.1 + a1))] := hl
  refine lv_aload_n C.1.1 C.1.2.1 dX1_look_0 rfl (lv_at hl 1 rfl) ?_
  refine G_X1_29 C hW ha1 dX1_look_1 ?_
  refine lv_topi (fun x1 ex1 => ?_)
  replace h := nm_at ex1 h
  clear ex1
  refine lv_istore_n (lv' := [(2, .int x1), (0, .ref (g.1 + 207)), (1, .ref (g.1 + a1))]) C.1.1 C.1.2.1 dX1_look_4 rfl hl (by decide) rfl (fun ls hl => ?_)
  refine lv_iconst (v := 0) C.1.1 C.1.2.1 dX1_look_5 (by decide) ?_
  refine lv_istore_n (lv' := [(3, .int (0 : Int32)), (2, .int x1), (0, .ref (g.1 + 207)), (1, .ref (g.1 + a1))]) C.1.1 C.1.2.1 dX1_look_6 rfl hl (by decide) rfl (fun ls hl => ?_)
  obtain ⟨I9, hq8, h⟩ := bd1_some h
  refine l_X1_look_7 C a1 ha1 L _ _ _ _ _ hq8 _ _ _ hW (lv_sub hl [2, 3, 1, 0] rfl) (fun H locs ls hW hl => ?_)
  refine lv_aload_n C.1.1 C.1.2.1 dX1_look_33 rfl (lv_at hl 0 rfl) ?_
  refine lv_aload_n C.1.1 C.1.2.1 dX1_look_34 rfl (lv_at hl 1 rfl) ?_
  refine G_X1_39 C hW ha1 dX1_look_35 ?_
  refine lv_aload_n C.1.1 C.1.2.1 dX1_look_38 rfl (lv_at hl 1 rfl) ?_
  refine G_X1_42 C hW ha1 dX1_look_39 ?_
  obtain ⟨I10, hc11, h⟩ := bd1_some h
  refine w_callVv (k := 2) (As := [.int (I9 a1 4), .int (I9 a1 2)]) (rest := []) C hW (c_X1_setNights g l  hc11) (by decide) rfl (EX_1 (by decide)) K_X1_45 (by decide +kernel) ⟨by decide, by decide⟩ ⟨Nat.le_refl _, Nat.le_refl _⟩ rfl hl.1 rfl (Nat.le_of_ble_eq_true rfl) dX1_look_42 (fun H locs hW => ?_)
  obtain rfl := inj1 h
  subst hQ
  exact w_vret C hW hr hlocks dX1_look_45
def f_X10_within (a1 : Int32) (a2 : Int32) (a3 : Int32) : Option (Int32) :=
  bd1 ((if a1 < a2 then some (0 : Int32) else (if a3 < a1 then some (0 : Int32) else some (1 : Int32)))) (fun y1 => gd (y1 = 0 ∨ y1 = 1) (some y1))
set_option maxHeartbeats 4000000 in
set_option maxRecDepth 100000 in
theorem c_X10_within (g : Gp) (l : Launch) {a1 : Int32} {a2 : Int32} {a3 : Int32}  {r : Int32} (h : f_X10_within a1 a2 a3 = some r) (I : MI) (L : ML) : MetI g l yX10_within cX10_within 3 .boolean 0 [.int a1, .int a2, .int a3] I L r I L := by
  unfold f_X10_within at h
  refine w_enter (by decide) (Nat.le_of_ble_eq_true rfl) (own := RX10) rfl ?_
  intro p e s m below meth c args Q hQ C hr hlocks hW ls hl
  have hl : lv_has ls 3 [(0, .int a1), (1, .int a2), (2, .int a3)] := hl
  refine lv_iload_n C.1.1 C.1.2.1 dX10_within_0 rfl (lv_at hl 0 rfl) ?_
  refine lv_iload_n C.1.1 C.1.2.1 dX10_within_1 rfl (lv_at hl 1 rfl) ?_
  obtain ⟨y1, hj3, h⟩ := bd1_some h
  have kJ2 : ∀ (H : Heap) (locs : List Loc) (ls : Array Slot), Ws g s I L H locs → lv_has ls 3 [] → W p l e (rmD 0) s m args below meth c H locs 0 0 Q (F0 m 15 ls [.int y1]) := by
    intro H locs ls hW hl
    obtain ⟨hb4, h⟩ := gd_some h
    obtain rfl := inj1 h
    subst hQ
    exact w_zret C hW hr hlocks hb4 dX10_within_15
  clear h
  have h := hj3
  clear hj3
  refine lv_icmp_lt (tgt := 14) C.1.1 C.1.2.1 dX10_within_2 (by decide) (fun hc5 => ?_) (fun hc5 => ?_)
  · replace h := ite_t hc5 h
    refine lv_iconst (v := 0) C.1.1 C.1.2.1 dX10_within_14 (by decide) ?_
    obtain rfl := inj1 h
    exact kJ2 _ _ _ hW (lv_sub hl [] rfl)
  · replace h := ite_f hc5 h
    refine lv_iload_n C.1.1 C.1.2.1 dX10_within_5 rfl (lv_at hl 0 rfl) ?_
    refine lv_iload_n C.1.1 C.1.2.1 dX10_within_6 rfl (lv_at hl 2 rfl) ?_
    refine lv_icmp_gt (tgt := 14) C.1.1 C.1.2.1 dX10_within_7 (by decide) (fun hc6 => ?_) (fun hc6 => ?_)
    · replace h := ite_t hc6 h
      refine lv_iconst (v := 0) C.1.1 C.1.2.1 dX10_within_14 (by decide) ?_
      obtain rfl := inj1 h
      exact kJ2 _ _ _ hW (lv_sub hl [] rfl)
    · replace h := ite_f hc6 h
      refine lv_iconst (v := 1) C.1.1 C.1.2.1 dX10_within_10 (by decide) ?_
      refine lv_goto (tgt := 15) C.1.1 C.1.2.1 dX10_within_11 (by decide) ?_
      obtain rfl := inj1 h
      exact kJ2 _ _ _ hW (lv_sub hl [] rfl)
def f_X6_sits (a0 : Nat) (I : MI) (L : ML) : Option (Int32) :=
  bd1 ((if (I a0 10) = (-4 : Int32) then some (1 : Int32) else some (0 : Int32))) (fun y1 => gd (y1 = 0 ∨ y1 = 1) (some y1))
set_option maxHeartbeats 4000000 in
set_option maxRecDepth 100000 in
theorem c_X6_sits (g : Gp) (l : Launch) {a0 : Nat} (ha0 : kd a0 = 6) {I : MI} {L : ML} {r : Int32} (h : f_X6_sits a0 I L = some r) : MetI g l yX6_sits cX6_sits 1 .boolean 0 [.ref (g.1 + a0)] I L r I L := by
  unfold f_X6_sits at h
  refine w_enter (by decide) (Nat.le_of_ble_eq_true rfl) (own := RX6) rfl ?_
  intro p e s m below meth c args Q hQ C hr hlocks hW ls hl
  have hl : lv_has ls 1 [(0, .ref (g.1 + a0))] := hl
  refine lv_aload_n C.1.1 C.1.2.1 dX6_sits_0 rfl (lv_at hl 0 rfl) ?_
  refine G_X6_9 C hW ha0 dX6_sits_1 ?_
  refine lv_bipush (v := -4) C.1.1 C.1.2.1 dX6_sits_4 (by decide) ?_
  obtain ⟨y1, hj3, h⟩ := bd1_some h
  have kJ2 : ∀ (H : Heap) (locs : List Loc) (ls : Array Slot), Ws g s I L H locs → lv_has ls 1 [] → W p l e (rmD 0) s m args below meth c H locs 0 0 Q (F0 m 14 ls [.int y1]) := by
    intro H locs ls hW hl
    obtain ⟨hb4, h⟩ := gd_some h
    obtain rfl := inj1 h
    subst hQ
    exact w_zret C hW hr hlocks hb4 dX6_sits_14
  clear h
  have h := hj3
  clear hj3
  refine lv_icmp_ne (tgt := 13) C.1.1 C.1.2.1 dX6_sits_6 (by decide) (fun hc5 => ?_) (fun hc5 => ?_)
  · replace h := ite_f hc5 h
    refine lv_iconst (v := 0) C.1.1 C.1.2.1 dX6_sits_13 (by decide) ?_
    obtain rfl := inj1 h
    exact kJ2 _ _ _ hW (lv_sub hl [] rfl)
  · replace h := ite_t hc5 h
    refine lv_iconst (v := 1) C.1.1 C.1.2.1 dX6_sits_9 (by decide) ?_
    refine lv_goto (tgt := 14) C.1.1 C.1.2.1 dX6_sits_10 (by decide) ?_
    obtain rfl := inj1 h
    exact kJ2 _ _ _ hW (lv_sub hl [] rfl)
def f_X6_canEat (a0 : Nat) (I : MI) (L : ML) : Option (Int32) :=
  bd1 (f_X6_sits a0 I L) (fun r1 => bd1 ((if r1 = 0 then some (0 : Int32) else (if (I a0 6) ≤ 0 then some (0 : Int32) else some (1 : Int32)))) (fun y3 => gd (y3 = 0 ∨ y3 = 1) (some y3)))
set_option maxHeartbeats 4000000 in
set_option maxRecDepth 100000 in
theorem c_X6_canEat (g : Gp) (l : Launch) {a0 : Nat} (ha0 : kd a0 = 6) {I : MI} {L : ML} {r : Int32} (h : f_X6_canEat a0 I L = some r) : MetI g l yX6_canEat cX6_canEat 1 .boolean 1 [.ref (g.1 + a0)] I L r I L := by
  unfold f_X6_canEat at h
  refine w_enter (by decide) (Nat.le_of_ble_eq_true rfl) (own := RX6) rfl ?_
  intro p e s m below meth c args Q hQ C hr hlocks hW ls hl
  have hl : lv_has ls 1 [(0, .ref (g.1 + a0))] := hl
  refine lv_aload_n C.1.1 C.1.2.1 dX6_canEat_0 rfl (lv_at hl 0 rfl) ?_
  obtain ⟨r1, hc2, h⟩ := bd1_some h
  refine w_callVi (k := 0) (As := []) (rest := []) C hW (c_X6_sits g l ha0 hc2) ha0 rfl (EX_6 ha0) K_X6_46 (by decide +kernel) ⟨by decide, by decide⟩ ⟨Nat.le_refl _, Nat.le_refl _⟩ rfl hl.1 rfl (Nat.le_of_ble_eq_true rfl) dX6_canEat_1 (fun H locs hW => ?_)
  obtain ⟨y3, hj5, h⟩ := bd1_some h
  have kJ4 : ∀ (H : Heap) (locs : List Loc) (ls : Array Slot), Ws g s I L H locs → lv_has ls 1 [] → W p l e (rmD 1) s m args below meth c H locs 0 0 Q (F0 m 19 ls [.int y3]) := by
    intro H locs ls hW hl
    obtain ⟨hb6, h⟩ := gd_some h
    obtain rfl := inj1 h
    subst hQ
    exact w_zret C hW hr hlocks hb6 dX6_canEat_19
  clear h
  have h := hj5
  clear hj5
  refine lv_if_eq (tgt := 18) C.1.1 C.1.2.1 dX6_canEat_4 (by decide) (fun hc7 => ?_) (fun hc7 => ?_)
  · replace h := ite_t hc7 h
    refine lv_iconst (v := 0) C.1.1 C.1.2.1 dX6_canEat_18 (by decide) ?_
    obtain rfl := inj1 h
    exact kJ4 _ _ _ hW (lv_sub hl [] rfl)
  · replace h := ite_f hc7 h
    refine lv_aload_n C.1.1 C.1.2.1 dX6_canEat_7 rfl (lv_at hl 0 rfl) ?_
    refine G_X6_33 C hW ha0 dX6_canEat_8 ?_
    refine lv_if_le (tgt := 18) C.1.1 C.1.2.1 dX6_canEat_11 (by decide) (fun hc8 => ?_) (fun hc8 => ?_)
    · replace h := ite_t hc8 h
      refine lv_iconst (v := 0) C.1.1 C.1.2.1 dX6_canEat_18 (by decide) ?_
      obtain rfl := inj1 h
      exact kJ4 _ _ _ hW (lv_sub hl [] rfl)
    · replace h := ite_f hc8 h
      refine lv_iconst (v := 1) C.1.1 C.1.2.1 dX6_canEat_14 (by decide) ?_
      refine lv_goto (tgt := 19) C.1.1 C.1.2.1 dX6_canEat_15 (by decide) ?_
      obtain rfl := inj1 h
      exact kJ4 _ _ _ hW (lv_sub hl [] rfl)
def f_X6_eatCrust (a0 : Nat) (I : MI) (L : ML) : Option (MI) :=
  bd1 (f_X6_canEat a0 I L) (fun r1 => bd1 ((if r1 = 0 then some I else nm (up2 I a0 6 ((I a0 6) - (1 : Int32))) (fun I7 => nm (up2 I7 a0 5 (mmax (0 : Int32) ((I7 a0 5) - (6 : Int32)))) (fun I8 => some I8)))) (fun I3 => some I3))
set_option maxHeartbeats 4000000 in
set_option maxRecDepth 100000 in
theorem c_X6_eatCrust (g : Gp) (l : Launch) {a0 : Nat} (ha0 : kd a0 = 6) {I : MI} {L : ML} {I' : MI} (h : f_X6_eatCrust a0 I L = some I') : MetV g l yX6_eatCrust cX6_eatCrust 1 2 [.ref (g.1 + a0)] I L I' L := by
  unfold f_X6_eatCrust at h
  refine w_enter (by decide) (Nat.le_of_ble_eq_true rfl) (own := RX6) rfl ?_
  intro p e s m below meth c args Q hQ C hr hlocks hW ls hl
  have hl : lv_has ls 1 [(0, .ref (g.1 + a0))] := hl
  refine lv_aload_n C.1.1 C.1.2.1 dX6_eatCrust_0 rfl (lv_at hl 0 rfl) ?_
  obtain ⟨r1, hc2, h⟩ := bd1_some h
  refine w_callVi (k := 0) (As := []) (rest := []) C hW (c_X6_canEat g l ha0 hc2) ha0 rfl (EX_6 ha0) K_X6_50 (by decide +kernel) ⟨by decide, by decide⟩ ⟨Nat.le_refl _, Nat.le_refl _⟩ rfl hl.1 rfl (Nat.le_of_ble_eq_true rfl) dX6_eatCrust_1 (fun H locs hW => ?_)
  obtain ⟨I3, hj5, h⟩ := bd1_some h
  have kJ4 : ∀ (H : Heap) (locs : List Loc) (ls : Array Slot), Ws g s I3 L H locs → lv_has ls 1 [] → W p l e (rmD 2) s m args below meth c H locs 0 0 Q (F0 m 32 ls []) := by
    intro H locs ls hW hl
    obtain rfl := inj1 h
    subst hQ
    exact w_vret C hW hr hlocks dX6_eatCrust_32
  clear h
  have h := hj5
  clear hj5
  refine lv_if_eq (tgt := 32) C.1.1 C.1.2.1 dX6_eatCrust_4 (by decide) (fun hc6 => ?_) (fun hc6 => ?_)
  · replace h := ite_t hc6 h
    obtain rfl := inj1 h
    exact kJ4 _ _ _ hW (lv_sub hl [] rfl)
  · replace h := ite_f hc6 h
    refine lv_aload_n C.1.1 C.1.2.1 dX6_eatCrust_7 rfl (lv_at hl 0 rfl) ?_
    refine lv_dup C.1.1 C.1.2.1 dX6_eatCrust_8 rfl ?_
    refine G_X6_33 C hW ha0 dX6_eatCrust_9 ?_
    refine lv_iconst (v := 1) C.1.1 C.1.2.1 dX6_eatCrust_12 (by decide) ?_
    refine lv_isub C.1.1 C.1.2.1 dX6_eatCrust_13 ?_
    refine P_X6_33 C hW ha0 dX6_eatCrust_14 (fun H locs hW => ?_)
    obtain ⟨I7, eI7, h⟩ := nm_some h
    rw [← eI7] at hW
    clear eI7
    refine lv_aload_n C.1.1 C.1.2.1 dX6_eatCrust_17 rfl (lv_at hl 0 rfl) ?_
    refine lv_iconst (v := 0) C.1.1 C.1.2.1 dX6_eatCrust_18 (by decide) ?_
    refine lv_aload_n C.1.1 C.1.2.1 dX6_eatCrust_19 rfl (lv_at hl 0 rfl) ?_
    refine G_X6_30 C hW ha0 dX6_eatCrust_20 ?_
    refine lv_bipush (v := 6) C.1.1 C.1.2.1 dX6_eatCrust_23 (by decide) ?_
    refine lv_isub C.1.1 C.1.2.1 dX6_eatCrust_25 ?_
    refine M_X6_53 (rest := [.ref (g.1 + a0)]) C hl.1 ⟨by decide, Nat.le_of_ble_eq_true rfl⟩ ⟨Nat.le_refl _, Nat.le_refl _⟩ dX6_eatCrust_26 ?_
    refine P_X6_30 C hW ha0 dX6_eatCrust_29 (fun H locs hW => ?_)
    obtain ⟨I8, eI8, h⟩ := nm_some h
    rw [← eI8] at hW
    clear eI8
    obtain rfl := inj1 h
    exact kJ4 _ _ _ hW (lv_sub hl [] rfl)
def f_X6_passHour (a0 : Nat) (a1 : Int32) (a2 : Int32) (a3 : Int32) (I : MI) (L : ML) : Option (MI) :=
  bd1 (f_X6_sits a0 I L) (fun r1 => (if r1 = 0 then some I else bd1 (f_X6_grows a0 a1 a2 I L) (fun r4 => nm (up2 I a0 5 (mmin (999 : Int32) ((I a0 5) + r4))) (fun I6 => bd1 ((if (I6 a0 5) < (I6 a0 1) then some I6 else nm (up2 I6 a0 10 a3) (fun I11 => some I11))) (fun I7 => some I7)))))
set_option maxHeartbeats 4000000 in
set_option maxRecDepth 100000 in
theorem c_X6_passHour (g : Gp) (l : Launch) {a0 : Nat} {a1 : Int32} {a2 : Int32} {a3 : Int32} (ha0 : kd a0 = 6) {I : MI} {L : ML} {I' : MI} (h : f_X6_passHour a0 a1 a2 a3 I L = some I') : MetV g l yX6_passHour cX6_passHour 4 2 [.ref (g.1 + a0), .int a1, .int a2, .int a3] I L I' L := by
  unfold f_X6_passHour at h
  refine w_enter (by decide) (Nat.le_of_ble_eq_true rfl) (own := RX6) rfl ?_
  intro p e s m below meth c args Q hQ C hr hlocks hW ls hl
  have hl : lv_has ls 4 [(0, .ref (g.1 + a0)), (1, .int a1), (2, .int a2), (3, .int a3)] := hl
  refine lv_aload_n C.1.1 C.1.2.1 dX6_passHour_0 rfl (lv_at hl 0 rfl) ?_
  obtain ⟨r1, hc2, h⟩ := bd1_some h
  refine w_callVi (k := 0) (As := []) (rest := []) C hW (c_X6_sits g l ha0 hc2) ha0 rfl (EX_6 ha0) K_X6_46 (by decide +kernel) ⟨by decide, by decide⟩ ⟨Nat.le_refl _, Nat.le_refl _⟩ rfl hl.1 rfl (Nat.le_of_ble_eq_true rfl) dX6_passHour_1 (fun H locs hW => ?_)
  refine lv_if_ne (tgt := 8) C.1.1 C.1.2.1 dX6_passHour_4 (by decide) (fun hc3 => ?_) (fun hc3 => ?_)
  · replace h := ite_f hc3 h
    refine lv_aload_n C.1.1 C.1.2.1 dX6_passHour_8 rfl (lv_at hl 0 rfl) ?_
    refine lv_sipush (v := 999) C.1.1 C.1.2.1 dX6_passHour_9 (by decide) ?_
    refine lv_aload_n C.1.1 C.1.2.1 dX6_passHour_12 rfl (lv_at hl 0 rfl) ?_
    refine G_X6_30 C hW ha0 dX6_passHour_13 ?_
    refine lv_aload_n C.1.1 C.1.2.1 dX6_passHour_16 rfl (lv_at hl 0 rfl) ?_
    refine lv_iload_n C.1.1 C.1.2.1 dX6_passHour_17 rfl (lv_at hl 1 rfl) ?_
    refine lv_iload_n C.1.1 C.1.2.1 dX6_passHour_18 rfl (lv_at hl 2 rfl) ?_
    obtain ⟨r4, hc5, h⟩ := bd1_some h
    refine w_callVi (k := 2) (As := [.int a1, .int a2]) (rest := [.int (I a0 5), .int (999 : Int32), .ref (g.1 + a0)]) C hW (c_X6_grows g l ha0 hc5) ha0 rfl (EX_6 ha0) K_X6_67 (by decide +kernel) ⟨by decide, by decide⟩ ⟨Nat.le_refl _, Nat.le_refl _⟩ rfl hl.1 rfl (Nat.le_of_ble_eq_true rfl) dX6_passHour_19 (fun H locs hW => ?_)
    refine lv_iadd C.1.1 C.1.2.1 dX6_passHour_22 ?_
    refine M_X6_70 (rest := [.ref (g.1 + a0)]) C hl.1 ⟨by decide, Nat.le_of_ble_eq_true rfl⟩ ⟨Nat.le_refl _, Nat.le_refl _⟩ dX6_passHour_23 ?_
    refine P_X6_30 C hW ha0 dX6_passHour_26 (fun H locs hW => ?_)
    obtain ⟨I6, eI6, h⟩ := nm_some h
    rw [← eI6] at hW
    clear eI6
    refine lv_aload_n C.1.1 C.1.2.1 dX6_passHour_29 rfl (lv_at hl 0 rfl) ?_
    refine G_X6_30 C hW ha0 dX6_passHour_30 ?_
    refine lv_aload_n C.1.1 C.1.2.1 dX6_passHour_33 rfl (lv_at hl 0 rfl) ?_
    refine G_X6_18 C hW ha0 dX6_passHour_34 ?_
    obtain ⟨I7, hj9, h⟩ := bd1_some h
    have kJ8 : ∀ (H : Heap) (locs : List Loc) (ls : Array Slot), Ws g s I7 L H locs → lv_has ls 4 [] → W p l e (rmD 2) s m args below meth c H locs 0 0 Q (F0 m 45 ls []) := by
      intro H locs ls hW hl
      obtain rfl := inj1 h
      subst hQ
      exact w_vret C hW hr hlocks dX6_passHour_45
    clear h
    have h := hj9
    clear hj9
    refine lv_icmp_lt (tgt := 45) C.1.1 C.1.2.1 dX6_passHour_37 (by decide) (fun hc10 => ?_) (fun hc10 => ?_)
    · replace h := ite_t hc10 h
      obtain rfl := inj1 h
      exact kJ8 _ _ _ hW (lv_sub hl [] rfl)
    · replace h := ite_f hc10 h
      refine lv_aload_n C.1.1 C.1.2.1 dX6_passHour_40 rfl (lv_at hl 0 rfl) ?_
      refine lv_iload_n C.1.1 C.1.2.1 dX6_passHour_41 rfl (lv_at hl 3 rfl) ?_
      refine P_X6_9 C hW ha0 dX6_passHour_42 (fun H locs hW => ?_)
      obtain ⟨I11, eI11, h⟩ := nm_some h
      rw [← eI11] at hW
      clear eI11
      obtain rfl := inj1 h
      exact kJ8 _ _ _ hW (lv_sub hl [] rfl)
  · replace h := ite_t hc3 h
    obtain rfl := inj1 h
    subst hQ
    exact w_vret C hW hr hlocks dX6_passHour_7
def f_X1_pass (a1 : Int32) (a2 : Int32) (I : MI) (L : ML) : Option (MI) :=
  bd1 (f_X10_within a1 (0 : Int32) (59 : Int32)) (fun r1 => (if r1 = 0 then some I else bd1 ((if a2 = 0 then some I else bd1 (f_X6_eatCrust 211 I L) (fun I12 => some I12))) (fun I4 => gi a1 60 (gi a1 60 (bd1 (f_X6_passHour 211 (I4 208 a1.toNatClampNeg) (I4 209 a1.toNatClampNeg) a1 I4 L) (fun I9 => some I9))))))
set_option maxHeartbeats 4000000 in
set_option maxRecDepth 100000 in
theorem c_X1_pass (g : Gp) (l : Launch) {a1 : Int32} {a2 : Int32}  {I : MI} {L : ML} {I' : MI} (h : f_X1_pass a1 a2 I L = some I') : MetV g l yX1_pass cX1_pass 3 3 [.ref (g.1 + 207), .int a1, .int a2] I L I' L := by
  unfold f_X1_pass at h
  refine w_enter (by decide) (Nat.le_of_ble_eq_true rfl) (own := RX1) rfl ?_
  intro p e s m below meth c args Q hQ C hr hlocks hW ls hl
  have hl : lv_has ls 3 [(0, .ref (g.1 + 207)), (1, .int a1), (2, .int a2)] := hl
  refine lv_iload_n C.1.1 C.1.2.1 dX1_pass_0 rfl (lv_at hl 1 rfl) ?_
  refine lv_iconst (v := 0) C.1.1 C.1.2.1 dX1_pass_1 (by decide) ?_
  refine lv_bipush (v := 59) C.1.1 C.1.2.1 dX1_pass_2 (by decide) ?_
  obtain ⟨r1, hc2, h⟩ := bd1_some h
  refine w_callNi (k := 3) (As := [.int a1, .int (0 : Int32), .int (59 : Int32)]) (rest := []) C hW (c_X10_within g l  hc2 I L) (good_U cd_X10_within) N_X1_53 ns_X10_within ni_X10 (by decide +kernel) ⟨by decide, by decide⟩ ⟨Nat.le_refl _, Nat.le_refl _⟩ rfl hl.1 rfl (Nat.le_of_ble_eq_true rfl) dX1_pass_4 (fun H locs hW => ?_)
  refine lv_if_ne (tgt := 11) C.1.1 C.1.2.1 dX1_pass_7 (by decide) (fun hc3 => ?_) (fun hc3 => ?_)
  · replace h := ite_f hc3 h
    refine lv_iload_n C.1.1 C.1.2.1 dX1_pass_11 rfl (lv_at hl 2 rfl) ?_
    obtain ⟨I4, hj6, h⟩ := bd1_some h
    have kJ5 : ∀ (H : Heap) (locs : List Loc) (ls : Array Slot), Ws g s I4 L H locs → lv_has ls 3 [(0, .ref (g.1 + 207)), (1, .int a1)] → W p l e (rmD 3) s m args below meth c H locs 0 0 Q (F0 m 22 ls []) := by
      intro H locs ls hW hl
      refine lv_aload_n C.1.1 C.1.2.1 dX1_pass_22 rfl (lv_at hl 0 rfl) ?_
      refine G_X1_25 C hW (by decide) dX1_pass_23 ?_
      refine lv_aload_n C.1.1 C.1.2.1 dX1_pass_26 rfl (lv_at hl 0 rfl) ?_
      refine G_X1_9 C hW (by decide) dX1_pass_27 ?_
      refine lv_iload_n C.1.1 C.1.2.1 dX1_pass_30 rfl (lv_at hl 1 rfl) ?_
      obtain ⟨hi7, h⟩ := gi_some h
      refine w_iald C hW (n := 60) (by decide) (by decide) hi7 dX1_pass_31 ?_
      refine lv_aload_n C.1.1 C.1.2.1 dX1_pass_32 rfl (lv_at hl 0 rfl) ?_
      refine G_X1_15 C hW (by decide) dX1_pass_33 ?_
      refine lv_iload_n C.1.1 C.1.2.1 dX1_pass_36 rfl (lv_at hl 1 rfl) ?_
      obtain ⟨hi8, h⟩ := gi_some h
      refine w_zald C hW (n := 60) (by decide) (by decide) hi8 dX1_pass_37 ?_
      refine lv_iload_n C.1.1 C.1.2.1 dX1_pass_38 rfl (lv_at hl 1 rfl) ?_
      obtain ⟨I9, hc10, h⟩ := bd1_some h
      refine w_callVv (k := 3) (As := [.int (I4 208 a1.toNatClampNeg), .int (I4 209 a1.toNatClampNeg), .int a1]) (rest := []) C hW (c_X6_passHour g l (by decide) hc10) (by decide) rfl (EX_6 (by decide)) K_X1_60 (by decide +kernel) ⟨by decide, by decide⟩ ⟨Nat.le_refl _, Nat.le_refl _⟩ rfl hl.1 rfl (Nat.le_of_ble_eq_true rfl) dX1_pass_39 (fun H locs hW => ?_)
      obtain rfl := inj1 h
      subst hQ
      exact w_vret C hW hr hlocks dX1_pass_42
    clear h
    have h := hj6
    clear hj6
    refine lv_if_eq (tgt := 22) C.1.1 C.1.2.1 dX1_pass_12 (by decide) (fun hc11 => ?_) (fun hc11 => ?_)
    · replace h := ite_t hc11 h
      obtain rfl := inj1 h
      exact kJ5 _ _ _ hW (lv_sub hl [0, 1] rfl)
    · replace h := ite_f hc11 h
      refine lv_aload_n C.1.1 C.1.2.1 dX1_pass_15 rfl (lv_at hl 0 rfl) ?_
      refine G_X1_25 C hW (by decide) dX1_pass_16 ?_
      obtain ⟨I12, hc13, h⟩ := bd1_some h
      refine w_callVv (k := 0) (As := []) (rest := []) C hW (c_X6_eatCrust g l (by decide) hc13) (by decide) rfl (EX_6 (by decide)) K_X1_57 (by decide +kernel) ⟨by decide, by decide⟩ ⟨Nat.le_refl _, Nat.le_refl _⟩ rfl hl.1 rfl (Nat.le_of_ble_eq_true rfl) dX1_pass_19 (fun H locs hW => ?_)
      obtain rfl := inj1 h
      exact kJ5 _ _ _ hW (lv_sub hl [0, 1] rfl)
  · replace h := ite_t hc3 h
    obtain rfl := inj1 h
    subst hQ
    exact w_vret C hW hr hlocks dX1_pass_10
def f_X1_isMeal (a1 : Int32) (a2 : Int32) : Option (Int32) :=
  bd1 ((if (8 : Int32) ≤ a1 then some (0 : Int32) else (if ((a2 >>> (a1 &&& (31 : Int32))) &&& (1 : Int32)) = (1 : Int32) then some (1 : Int32) else some (0 : Int32)))) (fun y1 => gd (y1 = 0 ∨ y1 = 1) (some y1))
set_option maxHeartbeats 4000000 in
set_option maxRecDepth 100000 in
theorem c_X1_isMeal (g : Gp) (l : Launch) {a1 : Int32} {a2 : Int32}  {r : Int32} (h : f_X1_isMeal a1 a2 = some r) (I : MI) (L : ML) : MetI g l yX1_isMeal cX1_isMeal 2 .boolean 0 [.int a1, .int a2] I L r I L := by
  unfold f_X1_isMeal at h
  refine w_enter (by decide) (Nat.le_of_ble_eq_true rfl) (own := RX1) rfl ?_
  intro p e s m below meth c args Q hQ C hr hlocks hW ls hl
  have hl : lv_has ls 2 [(0, .int a1), (1, .int a2)] := hl
  refine lv_iload_n C.1.1 C.1.2.1 dX1_isMeal_0 rfl (lv_at hl 0 rfl) ?_
  refine lv_bipush (v := 8) C.1.1 C.1.2.1 dX1_isMeal_1 (by decide) ?_
  obtain ⟨y1, hj3, h⟩ := bd1_some h
  have kJ2 : ∀ (H : Heap) (locs : List Loc) (ls : Array Slot), Ws g s I L H locs → lv_has ls 2 [] → W p l e (rmD 0) s m args below meth c H locs 0 0 Q (F0 m 20 ls [.int y1]) := by
    intro H locs ls hW hl
    obtain ⟨hb4, h⟩ := gd_some h
    obtain rfl := inj1 h
    subst hQ
    exact w_zret C hW hr hlocks hb4 dX1_isMeal_20
  clear h
  have h := hj3
  clear hj3
  refine lv_icmp_ge (tgt := 19) C.1.1 C.1.2.1 dX1_isMeal_3 (by decide) (fun hc5 => ?_) (fun hc5 => ?_)
  · replace h := ite_t hc5 h
    refine lv_iconst (v := 0) C.1.1 C.1.2.1 dX1_isMeal_19 (by decide) ?_
    obtain rfl := inj1 h
    exact kJ2 _ _ _ hW (lv_sub hl [] rfl)
  · replace h := ite_f hc5 h
    refine lv_iload_n C.1.1 C.1.2.1 dX1_isMeal_6 rfl (lv_at hl 1 rfl) ?_
    refine lv_iload_n C.1.1 C.1.2.1 dX1_isMeal_7 rfl (lv_at hl 0 rfl) ?_
    refine lv_ishr C.1.1 C.1.2.1 dX1_isMeal_8 ?_
    refine lv_iconst (v := 1) C.1.1 C.1.2.1 dX1_isMeal_9 (by decide) ?_
    refine lv_iand C.1.1 C.1.2.1 dX1_isMeal_10 ?_
    refine lv_iconst (v := 1) C.1.1 C.1.2.1 dX1_isMeal_11 (by decide) ?_
    refine lv_icmp_ne (tgt := 19) C.1.1 C.1.2.1 dX1_isMeal_12 (by decide) (fun hc6 => ?_) (fun hc6 => ?_)
    · replace h := ite_f hc6 h
      refine lv_iconst (v := 0) C.1.1 C.1.2.1 dX1_isMeal_19 (by decide) ?_
      obtain rfl := inj1 h
      exact kJ2 _ _ _ hW (lv_sub hl [] rfl)
    · replace h := ite_t hc6 h
      refine lv_iconst (v := 1) C.1.1 C.1.2.1 dX1_isMeal_15 (by decide) ?_
      refine lv_goto (tgt := 20) C.1.1 C.1.2.1 dX1_isMeal_16 (by decide) ?_
      obtain rfl := inj1 h
      exact kJ2 _ _ _ hW (lv_sub hl [] rfl)
def f_X6_takeFrom (a0 : Nat) (a1 : Nat) (I : MI) (L : ML) : Option (MI) :=
  nm (up2 I a0 0 (I a1 0)) (fun I1 => nm (up2 I1 a0 1 (I1 a1 1)) (fun I2 => nm (up2 I2 a0 2 (I2 a1 2)) (fun I3 => nm (up2 I3 a0 3 (I3 a1 3)) (fun I4 => nm (up2 I4 a0 4 (I4 a1 4)) (fun I5 => nm (up2 I5 a0 5 (I5 a1 5)) (fun I6 => nm (up2 I6 a0 6 (I6 a1 6)) (fun I7 => nm (up2 I7 a0 7 (I7 a1 7)) (fun I8 => nm (up2 I8 a0 8 (I8 a1 8)) (fun I9 => gd (I9 a1 9 = 0 ∨ I9 a1 9 = 1) (nm (up2 I9 a0 9 (I9 a1 9)) (fun I11 => nm (up2 I11 a0 10 (I11 a1 10)) (fun I12 => some I12))))))))))))
set_option maxHeartbeats 4000000 in
set_option maxRecDepth 100000 in
theorem c_X6_takeFrom (g : Gp) (l : Launch) {a0 : Nat} {a1 : Nat} (ha0 : kd a0 = 6) (ha1 : kd a1 = 6) {I : MI} {L : ML} {I' : MI} (h : f_X6_takeFrom a0 a1 I L = some I') : MetV g l yX6_takeFrom cX6_takeFrom 2 0 [.ref (g.1 + a0), .ref (g.1 + a1)] I L I' L := by
  unfold f_X6_takeFrom at h
  refine w_enter (by decide) (Nat.le_of_ble_eq_true rfl) (own := RX6) rfl ?_
  intro p e s m below meth c args Q hQ C hr hlocks hW ls hl
  have hl : lv_has ls 2 [(0, .ref (g.1 + a0)), (1, .ref (g.1 + a1))] := hl
  refine lv_aload_n C.1.1 C.1.2.1 dX6_takeFrom_0 rfl (lv_at hl 0 rfl) ?_
  refine lv_aload_n C.1.1 C.1.2.1 dX6_takeFrom_1 rfl (lv_at hl 1 rfl) ?_
  refine G_X6_15 C hW ha1 dX6_takeFrom_2 ?_
  refine P_X6_15 C hW ha0 dX6_takeFrom_5 (fun H locs hW => ?_)
  obtain ⟨I1, eI1, h⟩ := nm_some h
  rw [← eI1] at hW
  clear eI1
  refine lv_aload_n C.1.1 C.1.2.1 dX6_takeFrom_8 rfl (lv_at hl 0 rfl) ?_
  refine lv_aload_n C.1.1 C.1.2.1 dX6_takeFrom_9 rfl (lv_at hl 1 rfl) ?_
  refine G_X6_18 C hW ha1 dX6_takeFrom_10 ?_
  refine P_X6_18 C hW ha0 dX6_takeFrom_13 (fun H locs hW => ?_)
  obtain ⟨I2, eI2, h⟩ := nm_some h
  rw [← eI2] at hW
  clear eI2
  refine lv_aload_n C.1.1 C.1.2.1 dX6_takeFrom_16 rfl (lv_at hl 0 rfl) ?_
  refine lv_aload_n C.1.1 C.1.2.1 dX6_takeFrom_17 rfl (lv_at hl 1 rfl) ?_
  refine G_X6_21 C hW ha1 dX6_takeFrom_18 ?_
  refine P_X6_21 C hW ha0 dX6_takeFrom_21 (fun H locs hW => ?_)
  obtain ⟨I3, eI3, h⟩ := nm_some h
  rw [← eI3] at hW
  clear eI3
  refine lv_aload_n C.1.1 C.1.2.1 dX6_takeFrom_24 rfl (lv_at hl 0 rfl) ?_
  refine lv_aload_n C.1.1 C.1.2.1 dX6_takeFrom_25 rfl (lv_at hl 1 rfl) ?_
  refine G_X6_24 C hW ha1 dX6_takeFrom_26 ?_
  refine P_X6_24 C hW ha0 dX6_takeFrom_29 (fun H locs hW => ?_)
  obtain ⟨I4, eI4, h⟩ := nm_some h
  rw [← eI4] at hW
  clear eI4
  refine lv_aload_n C.1.1 C.1.2.1 dX6_takeFrom_32 rfl (lv_at hl 0 rfl) ?_
  refine lv_aload_n C.1.1 C.1.2.1 dX6_takeFrom_33 rfl (lv_at hl 1 rfl) ?_
  refine G_X6_27 C hW ha1 dX6_takeFrom_34 ?_
  refine P_X6_27 C hW ha0 dX6_takeFrom_37 (fun H locs hW => ?_)
  obtain ⟨I5, eI5, h⟩ := nm_some h
  rw [← eI5] at hW
  clear eI5
  refine lv_aload_n C.1.1 C.1.2.1 dX6_takeFrom_40 rfl (lv_at hl 0 rfl) ?_
  refine lv_aload_n C.1.1 C.1.2.1 dX6_takeFrom_41 rfl (lv_at hl 1 rfl) ?_
  refine G_X6_30 C hW ha1 dX6_takeFrom_42 ?_
  refine P_X6_30 C hW ha0 dX6_takeFrom_45 (fun H locs hW => ?_)
  obtain ⟨I6, eI6, h⟩ := nm_some h
  rw [← eI6] at hW
  clear eI6
  refine lv_aload_n C.1.1 C.1.2.1 dX6_takeFrom_48 rfl (lv_at hl 0 rfl) ?_
  refine lv_aload_n C.1.1 C.1.2.1 dX6_takeFrom_49 rfl (lv_at hl 1 rfl) ?_
  refine G_X6_33 C hW ha1 dX6_takeFrom_50 ?_
  refine P_X6_33 C hW ha0 dX6_takeFrom_53 (fun H locs hW => ?_)
  obtain ⟨I7, eI7, h⟩ := nm_some h
  rw [← eI7] at hW
  clear eI7
  refine lv_aload_n C.1.1 C.1.2.1 dX6_takeFrom_56 rfl (lv_at hl 0 rfl) ?_
  refine lv_aload_n C.1.1 C.1.2.1 dX6_takeFrom_57 rfl (lv_at hl 1 rfl) ?_
  refine G_X6_36 C hW ha1 dX6_takeFrom_58 ?_
  refine P_X6_36 C hW ha0 dX6_takeFrom_61 (fun H locs hW => ?_)
  obtain ⟨I8, eI8, h⟩ := nm_some h
  rw [← eI8] at hW
  clear eI8
  refine lv_aload_n C.1.1 C.1.2.1 dX6_takeFrom_64 rfl (lv_at hl 0 rfl) ?_
  refine lv_aload_n C.1.1 C.1.2.1 dX6_takeFrom_65 rfl (lv_at hl 1 rfl) ?_
  refine G_X6_39 C hW ha1 dX6_takeFrom_66 ?_
  refine P_X6_39 C hW ha0 dX6_takeFrom_69 (fun H locs hW => ?_)
  obtain ⟨I9, eI9, h⟩ := nm_some h
  rw [← eI9] at hW
  clear eI9
  refine lv_aload_n C.1.1 C.1.2.1 dX6_takeFrom_72 rfl (lv_at hl 0 rfl) ?_
  refine lv_aload_n C.1.1 C.1.2.1 dX6_takeFrom_73 rfl (lv_at hl 1 rfl) ?_
  refine G_X6_42 C hW ha1 dX6_takeFrom_74 ?_
  obtain ⟨hb10, h⟩ := gd_some h
  refine P_X6_42 C hW ha0 hb10 dX6_takeFrom_77 (fun H locs hW => ?_)
  obtain ⟨I11, eI11, h⟩ := nm_some h
  rw [← eI11] at hW
  clear eI11
  refine lv_aload_n C.1.1 C.1.2.1 dX6_takeFrom_80 rfl (lv_at hl 0 rfl) ?_
  refine lv_aload_n C.1.1 C.1.2.1 dX6_takeFrom_81 rfl (lv_at hl 1 rfl) ?_
  refine G_X6_9 C hW ha1 dX6_takeFrom_82 ?_
  refine P_X6_9 C hW ha0 dX6_takeFrom_85 (fun H locs hW => ?_)
  obtain ⟨I12, eI12, h⟩ := nm_some h
  rw [← eI12] at hW
  clear eI12
  obtain rfl := inj1 h
  subst hQ
  exact w_vret C hW hr hlocks dX6_takeFrom_88
def b_X1_strainBehind_10 (v2 : Int32) (L : ML) (z3 : Int32) (I : MI) : Option ((Int32 × MI) ⊕ ((MI))) :=
  (if v2 ≤ z3 then some (Sum.inr I) else bd1 (f_X1_pass z3 (0 : Int32) I L) (fun I4 => nm (z3 + (1 : Int32)) (fun x6 => some (Sum.inl (x6, I4)))))
set_option maxHeartbeats 4000000 in
set_option maxRecDepth 100000 in
theorem l_X1_strainBehind_10 {g : Gp} {p : Program} {l : Launch} {e : Env} {s : State} {m : MethodId} {args : Array Value} {below : List Frame} {meth : Method} {c : Code} {Q : State → Prop}  (C : Cx g p s m args c RX1 cX1_strainBehind 4) (v2 : Int32)  (L : ML) : ∀ (n : Nat) (z3 : Int32) (I : MI) (Iy0 : MI), lp (fun s => b_X1_strainBehind_10 v2 L s.1 s.2) n (z3, I) = some Iy0 → ∀ (H : Heap) (locs : List Loc) (ls : Array Slot), Ws g s I L H locs → lv_has ls 4 [(0, .ref (g.1 + 207)), (2, .int v2), (3, .int z3)] → (∀ (H : Heap) (locs : List Loc) (ls : Array Slot), Ws g s Iy0 L H locs → lv_has ls 4 [(0, .ref (g.1 + 207))] → W p l e (rmD 4) s m args below meth c H locs 0 0 Q (F0 m 27 ls [])) → W p l e (rmD 4) s m args below meth c H locs 0 0 Q (F0 m 10 ls []) := by
  intro n
  induction n with
  | zero => intro z3 I Iy0 h; exact lp_zero h
  | succ n ih =>
      intro z3 I Iy0 h H locs ls hW hl hx0
      obtain ⟨r9, h, h9⟩ := lp_some h
      have h : b_X1_strainBehind_10 v2 L z3 I = some r9 := h
      unfold b_X1_strainBehind_10 at h
      refine lv_iload_n C.1.1 C.1.2.1 dX1_strainBehind_10 rfl (lv_at hl 2 rfl) ?_
      refine lv_iload_n C.1.1 C.1.2.1 dX1_strainBehind_11 rfl (lv_at hl 1 rfl) ?_
      refine lv_icmp_ge (tgt := 27) C.1.1 C.1.2.1 dX1_strainBehind_12 (by decide) (fun hc3 => ?_) (fun hc3 => ?_)
      · replace h := ite_t hc3 h
        obtain rfl := Option.some.inj h
        replace h9 := Option.some.inj h9
        obtain rfl := pnj1 h9
        exact hx0 _ _ _ hW (lv_sub hl [0] rfl)
      · replace h := ite_f hc3 h
        refine lv_aload_n C.1.1 C.1.2.1 dX1_strainBehind_15 rfl (lv_at hl 0 rfl) ?_
        refine lv_iload_n C.1.1 C.1.2.1 dX1_strainBehind_16 rfl (lv_at hl 2 rfl) ?_
        refine lv_iconst (v := 0) C.1.1 C.1.2.1 dX1_strainBehind_17 (by decide) ?_
        obtain ⟨I4, hc5, h⟩ := bd1_some h
        refine w_callVv (k := 2) (As := [.int z3, .int (0 : Int32)]) (rest := []) C hW (c_X1_pass g l  hc5) (by decide) rfl (EX_1 (by decide)) K_X1_68 (by decide +kernel) ⟨by decide, by decide⟩ ⟨Nat.le_refl _, Nat.le_refl _⟩ rfl hl.1 rfl (Nat.le_of_ble_eq_true rfl) dX1_strainBehind_18 (fun H locs hW => ?_)
        obtain ⟨x6, ex6⟩ : ∃ y : Int32, y = z3 + (1 : Int32) := ⟨_, rfl⟩
        replace h := nm_at ex6 h
        refine lv_iinc (v := x6) (lv' := [(3, .int x6), (0, .ref (g.1 + 207)), (2, .int v2)]) C.1.1 C.1.2.1 dX1_strainBehind_21 hl (k := 2) rfl (by rw [ex6]; rfl) (by decide) rfl (fun ls hl => ?_)
        clear ex6
        refine lv_goto (tgt := 10) C.1.1 C.1.2.1 dX1_strainBehind_24 (by decide) ?_
        obtain rfl := Option.some.inj h
        exact ih _ _ _ h9 _ _ _ hW (lv_sub hl [1, 2, 0] rfl) hx0
def f_X1_strainBehind (a1 : Nat) (a2 : Int32) (I : MI) (L : ML) : Option (Int32 × MI) :=
  bd1 (f_X6_takeFrom 211 a1 I L) (fun I1 => bd1 (lp (fun s => b_X1_strainBehind_10 a2 L s.1 s.2) FU (((0 : Int32), I1))) (fun I8 => some (I8 211 5, I8)))
set_option maxHeartbeats 4000000 in
set_option maxRecDepth 100000 in
theorem c_X1_strainBehind (g : Gp) (l : Launch) {a1 : Nat} {a2 : Int32} (ha1 : kd a1 = 6) {I : MI} {L : ML} {r : Int32} {I' : MI} (h : f_X1_strainBehind a1 a2 I L = some (r, I')) : MetI g l yX1_strainBehind cX1_strainBehind 4 .int 4 [.ref (g.1 + 207), .ref (g.1 + a1), .int a2] I L r I' L := by
  unfold f_X1_strainBehind at h
  refine w_enter (by decide) (Nat.le_of_ble_eq_true rfl) (own := RX1) rfl ?_
  intro p e s m below meth c args Q hQ C hr hlocks hW ls hl
  have hl : lv_has ls 4 [(0, .ref (g.1 + 207)), (1, .ref (g.1 + a1)), (2, .int a2)] := hl
  refine lv_aload_n C.1.1 C.1.2.1 dX1_strainBehind_0 rfl (lv_at hl 0 rfl) ?_
  refine G_X1_25 C hW (by decide) dX1_strainBehind_1 ?_
  refine lv_aload_n C.1.1 C.1.2.1 dX1_strainBehind_4 rfl (lv_at hl 1 rfl) ?_
  obtain ⟨I1, hc2, h⟩ := bd1_some h
  refine w_callVv (k := 1) (As := [.ref (g.1 + a1)]) (rest := []) C hW (c_X6_takeFrom g l (by decide) ha1 hc2) (by decide) rfl (EX_6 (by decide)) K_X1_64 (by decide +kernel) ⟨by decide, by decide⟩ ⟨Nat.le_refl _, Nat.le_refl _⟩ rfl hl.1 rfl (Nat.le_of_ble_eq_true rfl) dX1_strainBehind_5 (fun H locs hW => ?_)
  refine lv_iconst (v := 0) C.1.1 C.1.2.1 dX1_strainBehind_8 (by decide) ?_
  refine lv_istore_n (lv' := [(3, .int (0 : Int32)), (0, .ref (g.1 + 207)), (1, .ref (g.1 + a1)), (2, .int a2)]) C.1.1 C.1.2.1 dX1_strainBehind_9 rfl hl (by decide) rfl (fun ls hl => ?_)
  obtain ⟨I8, hq7, h⟩ := bd1_some h
  refine l_X1_strainBehind_10 C a2  L _ _ _ _ hq7 _ _ _ hW (lv_sub hl [1, 3, 0] rfl) (fun H locs ls hW hl => ?_)
  refine lv_aload_n C.1.1 C.1.2.1 dX1_strainBehind_27 rfl (lv_at hl 0 rfl) ?_
  refine G_X1_25 C hW (by decide) dX1_strainBehind_28 ?_
  refine G_X1_72 C hW (by decide) dX1_strainBehind_31 ?_
  obtain ⟨rfl, rfl⟩ := inj2 h
  subst hQ
  exact w_iret C hW hr hlocks dX1_strainBehind_34
def f_X5_holds (a0 : Nat) (a1 : Int32) (a2 : Int32) (I : MI) (L : ML) : Option (Int32) :=
  bd1 ((if a1 < 0 then some (0 : Int32) else (if a2 < 0 then some (0 : Int32) else (if (I a0 1) < a1 then some (0 : Int32) else (if ((I a0 1) - a1) < a2 then some (0 : Int32) else some (1 : Int32)))))) (fun y1 => gd (y1 = 0 ∨ y1 = 1) (some y1))
set_option maxHeartbeats 4000000 in
set_option maxRecDepth 100000 in
theorem c_X5_holds (g : Gp) (l : Launch) {a0 : Nat} {a1 : Int32} {a2 : Int32} (ha0 : kd a0 = 5) {I : MI} {L : ML} {r : Int32} (h : f_X5_holds a0 a1 a2 I L = some r) : MetI g l yX5_holds cX5_holds 3 .boolean 0 [.ref (g.1 + a0), .int a1, .int a2] I L r I L := by
  unfold f_X5_holds at h
  refine w_enter (by decide) (Nat.le_of_ble_eq_true rfl) (own := RX5) rfl ?_
  intro p e s m below meth c args Q hQ C hr hlocks hW ls hl
  have hl : lv_has ls 3 [(0, .ref (g.1 + a0)), (1, .int a1), (2, .int a2)] := hl
  refine lv_iload_n C.1.1 C.1.2.1 dX5_holds_0 rfl (lv_at hl 1 rfl) ?_
  obtain ⟨y1, hj3, h⟩ := bd1_some h
  have kJ2 : ∀ (H : Heap) (locs : List Loc) (ls : Array Slot), Ws g s I L H locs → lv_has ls 3 [] → W p l e (rmD 0) s m args below meth c H locs 0 0 Q (F0 m 31 ls [.int y1]) := by
    intro H locs ls hW hl
    obtain ⟨hb4, h⟩ := gd_some h
    obtain rfl := inj1 h
    subst hQ
    exact w_zret C hW hr hlocks hb4 dX5_holds_31
  clear h
  have h := hj3
  clear hj3
  refine lv_if_lt (tgt := 30) C.1.1 C.1.2.1 dX5_holds_1 (by decide) (fun hc5 => ?_) (fun hc5 => ?_)
  · replace h := ite_t hc5 h
    refine lv_iconst (v := 0) C.1.1 C.1.2.1 dX5_holds_30 (by decide) ?_
    obtain rfl := inj1 h
    exact kJ2 _ _ _ hW (lv_sub hl [] rfl)
  · replace h := ite_f hc5 h
    refine lv_iload_n C.1.1 C.1.2.1 dX5_holds_4 rfl (lv_at hl 2 rfl) ?_
    refine lv_if_lt (tgt := 30) C.1.1 C.1.2.1 dX5_holds_5 (by decide) (fun hc6 => ?_) (fun hc6 => ?_)
    · replace h := ite_t hc6 h
      refine lv_iconst (v := 0) C.1.1 C.1.2.1 dX5_holds_30 (by decide) ?_
      obtain rfl := inj1 h
      exact kJ2 _ _ _ hW (lv_sub hl [] rfl)
    · replace h := ite_f hc6 h
      refine lv_iload_n C.1.1 C.1.2.1 dX5_holds_8 rfl (lv_at hl 1 rfl) ?_
      refine lv_aload_n C.1.1 C.1.2.1 dX5_holds_9 rfl (lv_at hl 0 rfl) ?_
      refine G_X5_19 C hW ha0 dX5_holds_10 ?_
      refine lv_icmp_gt (tgt := 30) C.1.1 C.1.2.1 dX5_holds_13 (by decide) (fun hc7 => ?_) (fun hc7 => ?_)
      · replace h := ite_t hc7 h
        refine lv_iconst (v := 0) C.1.1 C.1.2.1 dX5_holds_30 (by decide) ?_
        obtain rfl := inj1 h
        exact kJ2 _ _ _ hW (lv_sub hl [] rfl)
      · replace h := ite_f hc7 h
        refine lv_iload_n C.1.1 C.1.2.1 dX5_holds_16 rfl (lv_at hl 2 rfl) ?_
        refine lv_aload_n C.1.1 C.1.2.1 dX5_holds_17 rfl (lv_at hl 0 rfl) ?_
        refine G_X5_19 C hW ha0 dX5_holds_18 ?_
        refine lv_iload_n C.1.1 C.1.2.1 dX5_holds_21 rfl (lv_at hl 1 rfl) ?_
        refine lv_isub C.1.1 C.1.2.1 dX5_holds_22 ?_
        refine lv_icmp_gt (tgt := 30) C.1.1 C.1.2.1 dX5_holds_23 (by decide) (fun hc8 => ?_) (fun hc8 => ?_)
        · replace h := ite_t hc8 h
          refine lv_iconst (v := 0) C.1.1 C.1.2.1 dX5_holds_30 (by decide) ?_
          obtain rfl := inj1 h
          exact kJ2 _ _ _ hW (lv_sub hl [] rfl)
        · replace h := ite_f hc8 h
          refine lv_iconst (v := 1) C.1.1 C.1.2.1 dX5_holds_26 (by decide) ?_
          refine lv_goto (tgt := 31) C.1.1 C.1.2.1 dX5_holds_27 (by decide) ?_
          obtain rfl := inj1 h
          exact kJ2 _ _ _ hW (lv_sub hl [] rfl)
def f_X5_cut (a0 : Nat) (a1 : Int64) (I : MI) (L : ML) : Option (Int64) :=
  nm (I a0 0) (fun x1 => (if x1 = (0 : Int32) then some a1.toInt32.toInt8.toInt32.toInt64 else (if x1 = (1 : Int32) then some a1.toInt32.toInt16.toInt32.toInt64 else (if x1 = (2 : Int32) then some a1.toInt32.toInt64 else some a1))))
set_option maxHeartbeats 4000000 in
set_option maxRecDepth 100000 in
theorem c_X5_cut (g : Gp) (l : Launch) {a0 : Nat} {a1 : Int64} (ha0 : kd a0 = 5) {I : MI} {L : ML} {r : Int64} (h : f_X5_cut a0 a1 I L = some r) : MetL g l yX5_cut cX5_cut 3 0 [.ref (g.1 + a0), .long a1] I L r I L := by
  unfold f_X5_cut at h
  refine w_enter (by decide) (Nat.le_of_ble_eq_true rfl) (own := RX5) rfl ?_
  intro p e s m below meth c args Q hQ C hr hlocks hW ls hl
  have hl : lv_has ls 3 [(0, .ref (g.1 + a0)), (1, .long a1)] := hl
  refine lv_aload_n C.1.1 C.1.2.1 dX5_cut_0 rfl (lv_at hl 0 rfl) ?_
  refine G_X5_11 C hW ha0 dX5_cut_1 ?_
  refine lv_topi (fun x1 ex1 => ?_)
  replace h := nm_at ex1 h
  clear ex1
  by_cases hc2 : x1 = (0 : Int32)
  · replace h := ite_t hc2 h
    rw [hc2]
    refine lv_tableIn (tgt := 32) C.1.1 C.1.2.1 dX5_cut_4 (by decide) (by decide) rfl (by decide) ?_
    refine lv_lload_n C.1.1 C.1.2.1 dX5_cut_32 rfl (lv_at hl 1 rfl) ?_
    refine lv_l2i C.1.1 C.1.2.1 dX5_cut_33 rfl ?_
    refine lv_i2b C.1.1 C.1.2.1 dX5_cut_34 rfl ?_
    refine lv_i2l C.1.1 C.1.2.1 dX5_cut_35 rfl ?_
    obtain rfl := inj1 h
    subst hQ
    exact w_lret C hW hr hlocks dX5_cut_36
  · replace h := ite_f hc2 h
    by_cases hc3 : x1 = (1 : Int32)
    · replace h := ite_t hc3 h
      rw [hc3]
      refine lv_tableIn (tgt := 37) C.1.1 C.1.2.1 dX5_cut_4 (by decide) (by decide) rfl (by decide) ?_
      refine lv_lload_n C.1.1 C.1.2.1 dX5_cut_37 rfl (lv_at hl 1 rfl) ?_
      refine lv_l2i C.1.1 C.1.2.1 dX5_cut_38 rfl ?_
      refine lv_i2s C.1.1 C.1.2.1 dX5_cut_39 rfl ?_
      refine lv_i2l C.1.1 C.1.2.1 dX5_cut_40 rfl ?_
      obtain rfl := inj1 h
      subst hQ
      exact w_lret C hW hr hlocks dX5_cut_41
    · replace h := ite_f hc3 h
      by_cases hc4 : x1 = (2 : Int32)
      · replace h := ite_t hc4 h
        rw [hc4]
        refine lv_tableIn (tgt := 42) C.1.1 C.1.2.1 dX5_cut_4 (by decide) (by decide) rfl (by decide) ?_
        refine lv_lload_n C.1.1 C.1.2.1 dX5_cut_42 rfl (lv_at hl 1 rfl) ?_
        refine lv_l2i C.1.1 C.1.2.1 dX5_cut_43 rfl ?_
        refine lv_i2l C.1.1 C.1.2.1 dX5_cut_44 rfl ?_
        obtain rfl := inj1 h
        subst hQ
        exact w_lret C hW hr hlocks dX5_cut_45
      · replace h := ite_f hc4 h
        refine lv_tableOut (tgt := 46) C.1.1 C.1.2.1 dX5_cut_4 (by
          have := lv_neT (a := 0) hc2 (by decide)
          have := lv_neT (a := 1) hc3 (by decide)
          have := lv_neT (a := 2) hc4 (by decide)
          omega) (by decide) ?_
        refine lv_lload_n C.1.1 C.1.2.1 dX5_cut_46 rfl (lv_at hl 1 rfl) ?_
        obtain rfl := inj1 h
        subst hQ
        exact w_lret C hW hr hlocks dX5_cut_47
def f_X5_put (a0 : Nat) (a1 : Int32) (a2 : Int64) (I : MI) (L : ML) : Option (ML) :=
  bd1 (f_X5_holds a0 a1 (1 : Int32) I L) (fun r1 => bd1 ((if r1 = 0 then some L else bd1 (f_X5_cut a0 a2 I L) (fun r7 => gi a1 24 (nm (uq2 L (a0 + 1) a1.toNatClampNeg r7) (fun L10 => some L10))))) (fun L3 => some L3))
set_option maxHeartbeats 4000000 in
set_option maxRecDepth 100000 in
theorem c_X5_put (g : Gp) (l : Launch) {a0 : Nat} {a1 : Int32} {a2 : Int64} (ha0 : kd a0 = 5) {I : MI} {L : ML} {L' : ML} (h : f_X5_put a0 a1 a2 I L = some L') : MetV g l yX5_put cX5_put 4 1 [.ref (g.1 + a0), .int a1, .long a2] I L I L' := by
  unfold f_X5_put at h
  refine w_enter (by decide) (Nat.le_of_ble_eq_true rfl) (own := RX5) rfl ?_
  intro p e s m below meth c args Q hQ C hr hlocks hW ls hl
  have hl : lv_has ls 4 [(0, .ref (g.1 + a0)), (1, .int a1), (2, .long a2)] := hl
  refine lv_aload_n C.1.1 C.1.2.1 dX5_put_0 rfl (lv_at hl 0 rfl) ?_
  refine lv_iload_n C.1.1 C.1.2.1 dX5_put_1 rfl (lv_at hl 1 rfl) ?_
  refine lv_iconst (v := 1) C.1.1 C.1.2.1 dX5_put_2 (by decide) ?_
  obtain ⟨r1, hc2, h⟩ := bd1_some h
  refine w_callVi (k := 2) (As := [.int a1, .int (1 : Int32)]) (rest := []) C hW (c_X5_holds g l ha0 hc2) ha0 rfl (EX_5 ha0) K_X5_22 (by decide +kernel) ⟨by decide, by decide⟩ ⟨Nat.le_refl _, Nat.le_refl _⟩ rfl hl.1 rfl (Nat.le_of_ble_eq_true rfl) dX5_put_3 (fun H locs hW => ?_)
  obtain ⟨L3, hj5, h⟩ := bd1_some h
  have kJ4 : ∀ (H : Heap) (locs : List Loc) (ls : Array Slot), Ws g s I L3 H locs → lv_has ls 4 [] → W p l e (rmD 1) s m args below meth c H locs 0 0 Q (F0 m 20 ls []) := by
    intro H locs ls hW hl
    obtain rfl := inj1 h
    subst hQ
    exact w_vret C hW hr hlocks dX5_put_20
  clear h
  have h := hj5
  clear hj5
  refine lv_if_eq (tgt := 20) C.1.1 C.1.2.1 dX5_put_6 (by decide) (fun hc6 => ?_) (fun hc6 => ?_)
  · replace h := ite_t hc6 h
    obtain rfl := inj1 h
    exact kJ4 _ _ _ hW (lv_sub hl [] rfl)
  · replace h := ite_f hc6 h
    refine lv_aload_n C.1.1 C.1.2.1 dX5_put_9 rfl (lv_at hl 0 rfl) ?_
    refine G_X5_15 C hW ha0 dX5_put_10 ?_
    refine lv_iload_n C.1.1 C.1.2.1 dX5_put_13 rfl (lv_at hl 1 rfl) ?_
    refine lv_aload_n C.1.1 C.1.2.1 dX5_put_14 rfl (lv_at hl 0 rfl) ?_
    refine lv_lload_n C.1.1 C.1.2.1 dX5_put_15 rfl (lv_at hl 2 rfl) ?_
    obtain ⟨r7, hc8, h⟩ := bd1_some h
    refine w_callVl (k := 1) (As := [.long a2]) (rest := [.int a1, .ref (g.1 + (a0 + 1))]) C hW (c_X5_cut g l ha0 hc8) ha0 rfl (EX_5 ha0) K_X5_26 (by decide +kernel) ⟨by decide, by decide⟩ ⟨Nat.le_refl _, Nat.le_refl _⟩ rfl hl.1 rfl (Nat.le_of_ble_eq_true rfl) dX5_put_16 (fun H locs hW => ?_)
    obtain ⟨hi9, h⟩ := gi_some h
    refine w_last C hW (n := 24) (kd_it ha0) (ln_it ha0) hi9 dX5_put_19 (fun H locs hW => ?_)
    obtain ⟨L10, eL10, h⟩ := nm_some h
    rw [← eL10] at hW
    clear eL10
    obtain rfl := inj1 h
    exact kJ4 _ _ _ hW (lv_sub hl [] rfl)
def b_X1_filmOnto_11 (v1 : Nat) (v2 : Int32) (v4 : Int32) (z5 : Int32) (I : MI) (L : ML) : Option ((Int32 × MI × ML) ⊕ ((MI × ML))) :=
  (if v4 ≤ z5 then some (Sum.inr (I, L)) else bd1 (f_X1_pass z5 (0 : Int32) I L) (fun I4 => bd1 (f_X5_put v1 (v2 + z5) ((I4 211 5).toInt64) I4 L) (fun L6 => nm (z5 + (1 : Int32)) (fun x8 => some (Sum.inl (x8, I4, L6))))))
set_option maxHeartbeats 4000000 in
set_option maxRecDepth 100000 in
theorem l_X1_filmOnto_11 {g : Gp} {p : Program} {l : Launch} {e : Env} {s : State} {m : MethodId} {args : Array Value} {below : List Frame} {meth : Method} {c : Code} {Q : State → Prop}  (C : Cx g p s m args c RX1 cX1_filmOnto 6) (v1 : Nat) (v2 : Int32) (v4 : Int32) (hv1 : kd v1 = 5) : ∀ (n : Nat) (z5 : Int32) (I : MI) (L : ML) (Iy0 : MI) (Ly0 : ML), lp (fun s => b_X1_filmOnto_11 v1 v2 v4 s.1 s.2.1 s.2.2) n (z5, I, L) = some (Iy0, Ly0) → ∀ (H : Heap) (locs : List Loc) (ls : Array Slot), Ws g s I L H locs → lv_has ls 6 [(0, .ref (g.1 + 207)), (1, .ref (g.1 + v1)), (2, .int v2), (4, .int v4), (5, .int z5)] → (∀ (H : Heap) (locs : List Loc) (ls : Array Slot), Ws g s Iy0 Ly0 H locs → lv_has ls 6 [] → W p l e (rmD 4) s m args below meth c H locs 0 0 Q (F0 m 47 ls [])) → W p l e (rmD 4) s m args below meth c H locs 0 0 Q (F0 m 11 ls []) := by
  intro n
  induction n with
  | zero => intro z5 I L Iy0 Ly0 h; exact lp_zero h
  | succ n ih =>
      intro z5 I L Iy0 Ly0 h H locs ls hW hl hx0
      obtain ⟨r9, h, h9⟩ := lp_some h
      have h : b_X1_filmOnto_11 v1 v2 v4 z5 I L = some r9 := h
      unfold b_X1_filmOnto_11 at h
      refine lv_iload C.1.1 C.1.2.1 dX1_filmOnto_11 (lv_at hl 4 rfl) ?_
      refine lv_iload C.1.1 C.1.2.1 dX1_filmOnto_13 (lv_at hl 3 rfl) ?_
      refine lv_icmp_ge (tgt := 47) C.1.1 C.1.2.1 dX1_filmOnto_15 (by decide) (fun hc3 => ?_) (fun hc3 => ?_)
      · replace h := ite_t hc3 h
        obtain rfl := Option.some.inj h
        replace h9 := Option.some.inj h9
        obtain ⟨rfl, rfl⟩ := pnj2 h9
        exact hx0 _ _ _ hW (lv_sub hl [] rfl)
      · replace h := ite_f hc3 h
        refine lv_aload_n C.1.1 C.1.2.1 dX1_filmOnto_18 rfl (lv_at hl 0 rfl) ?_
        refine lv_iload C.1.1 C.1.2.1 dX1_filmOnto_19 (lv_at hl 4 rfl) ?_
        refine lv_iconst (v := 0) C.1.1 C.1.2.1 dX1_filmOnto_21 (by decide) ?_
        obtain ⟨I4, hc5, h⟩ := bd1_some h
        refine w_callVv (k := 2) (As := [.int z5, .int (0 : Int32)]) (rest := []) C hW (c_X1_pass g l  hc5) (by decide) rfl (EX_1 (by decide)) K_X1_68 (by decide +kernel) ⟨by decide, by decide⟩ ⟨Nat.le_refl _, Nat.le_refl _⟩ rfl hl.1 rfl (Nat.le_of_ble_eq_true rfl) dX1_filmOnto_22 (fun H locs hW => ?_)
        refine lv_aload_n C.1.1 C.1.2.1 dX1_filmOnto_25 rfl (lv_at hl 1 rfl) ?_
        refine lv_iload_n C.1.1 C.1.2.1 dX1_filmOnto_26 rfl (lv_at hl 2 rfl) ?_
        refine lv_iload C.1.1 C.1.2.1 dX1_filmOnto_27 (lv_at hl 4 rfl) ?_
        refine lv_iadd C.1.1 C.1.2.1 dX1_filmOnto_29 ?_
        refine lv_aload_n C.1.1 C.1.2.1 dX1_filmOnto_30 rfl (lv_at hl 0 rfl) ?_
        refine G_X1_25 C hW (by decide) dX1_filmOnto_31 ?_
        refine G_X1_72 C hW (by decide) dX1_filmOnto_34 ?_
        refine lv_i2l C.1.1 C.1.2.1 dX1_filmOnto_37 rfl ?_
        obtain ⟨L6, hc7, h⟩ := bd1_some h
        refine w_callVv (k := 2) (As := [.int (v2 + z5), .long ((I4 211 5).toInt64)]) (rest := []) C hW (c_X5_put g l hv1 hc7) hv1 rfl (EX_5 hv1) K_X1_75 (by decide +kernel) ⟨by decide, by decide⟩ ⟨Nat.le_refl _, Nat.le_refl _⟩ rfl hl.1 rfl (Nat.le_of_ble_eq_true rfl) dX1_filmOnto_38 (fun H locs hW => ?_)
        obtain ⟨x8, ex8⟩ : ∃ y : Int32, y = z5 + (1 : Int32) := ⟨_, rfl⟩
        replace h := nm_at ex8 h
        refine lv_iinc (v := x8) (lv' := [(5, .int x8), (0, .ref (g.1 + 207)), (1, .ref (g.1 + v1)), (2, .int v2), (4, .int v4)]) C.1.1 C.1.2.1 dX1_filmOnto_41 hl (k := 4) rfl (by rw [ex8]; rfl) (by decide) rfl (fun ls hl => ?_)
        clear ex8
        refine lv_goto (tgt := 11) C.1.1 C.1.2.1 dX1_filmOnto_44 (by decide) ?_
        obtain rfl := Option.some.inj h
        exact ih _ _ _ _ _ h9 _ _ _ hW (lv_sub hl [1, 2, 3, 4, 0] rfl) hx0
def f_X1_filmOnto (a1 : Nat) (a2 : Int32) (a3 : Nat) (a4 : Int32) (I : MI) (L : ML) : Option (MI × ML) :=
  bd1 (f_X6_takeFrom 211 a3 I L) (fun I1 => bd2 (lp (fun s => b_X1_filmOnto_11 a1 a2 a4 s.1 s.2.1 s.2.2) FU (((0 : Int32), I1, L))) (fun I10 L11 => some (I10, L11)))
set_option maxHeartbeats 4000000 in
set_option maxRecDepth 100000 in
theorem c_X1_filmOnto (g : Gp) (l : Launch) {a1 : Nat} {a2 : Int32} {a3 : Nat} {a4 : Int32} (ha1 : kd a1 = 5) (ha3 : kd a3 = 6) {I : MI} {L : ML} {I' : MI} {L' : ML} (h : f_X1_filmOnto a1 a2 a3 a4 I L = some (I', L')) : MetV g l yX1_filmOnto cX1_filmOnto 6 4 [.ref (g.1 + 207), .ref (g.1 + a1), .int a2, .ref (g.1 + a3), .int a4] I L I' L' := by
  unfold f_X1_filmOnto at h
  refine w_enter (by decide) (Nat.le_of_ble_eq_true rfl) (own := RX1) rfl ?_
  intro p e s m below meth c args Q hQ C hr hlocks hW ls hl
  have hl : lv_has ls 6 [(0, .ref (g.1 + 207)), (1, .ref (g.1 + a1)), (2, .int a2), (3, .ref (g.1 + a3)), (4, .int a4)] := hl
  refine lv_aload_n C.1.1 C.1.2.1 dX1_filmOnto_0 rfl (lv_at hl 0 rfl) ?_
  refine G_X1_25 C hW (by decide) dX1_filmOnto_1 ?_
  refine lv_aload_n C.1.1 C.1.2.1 dX1_filmOnto_4 rfl (lv_at hl 3 rfl) ?_
  obtain ⟨I1, hc2, h⟩ := bd1_some h
  refine w_callVv (k := 1) (As := [.ref (g.1 + a3)]) (rest := []) C hW (c_X6_takeFrom g l (by decide) ha3 hc2) (by decide) rfl (EX_6 (by decide)) K_X1_64 (by decide +kernel) ⟨by decide, by decide⟩ ⟨Nat.le_refl _, Nat.le_refl _⟩ rfl hl.1 rfl (Nat.le_of_ble_eq_true rfl) dX1_filmOnto_5 (fun H locs hW => ?_)
  refine lv_iconst (v := 0) C.1.1 C.1.2.1 dX1_filmOnto_8 (by decide) ?_
  refine lv_istore (lv' := [(5, .int (0 : Int32)), (0, .ref (g.1 + 207)), (1, .ref (g.1 + a1)), (2, .int a2), (3, .ref (g.1 + a3)), (4, .int a4)]) C.1.1 C.1.2.1 dX1_filmOnto_9 hl (by decide) rfl (fun ls hl => ?_)
  obtain ⟨I10, L11, hq9, h⟩ := bd2_some h
  refine l_X1_filmOnto_11 C a1 a2 a4 ha1 _ _ _ _ _ _ hq9 _ _ _ hW (lv_sub hl [1, 2, 3, 5, 0] rfl) (fun H locs ls hW hl => ?_)
  obtain ⟨rfl, rfl⟩ := inj2 h
  subst hQ
  exact w_vret C hW hr hlocks dX1_filmOnto_47
def b_X1_sittingBehind_5 (v1 : Nat) (v2 : Int32) (L : ML) (z3 : Int32) (z4 : Int32) (I : MI) : Option ((Int32 × Int32 × MI) ⊕ ((Int32 × MI))) :=
  (if (I v1 1) ≤ z4 then some (Sum.inr (z3, I)) else gi z4 6 (bd2 (f_X1_strainBehind (v1 + 2 + z4.toNatClampNeg) v2 I L) (fun r3 I4 => bd1 (f_X6_sits 211 I4 L) (fun r6 => bd1 ((if r6 = 0 then some z3 else nm (z3 + (1 : Int32)) (fun x13 => some x13))) (fun y8 => nm (z4 + (1 : Int32)) (fun x11 => some (Sum.inl (y8, x11, I4))))))))
set_option maxHeartbeats 4000000 in
set_option maxRecDepth 100000 in
theorem l_X1_sittingBehind_5 {g : Gp} {p : Program} {l : Launch} {e : Env} {s : State} {m : MethodId} {args : Array Value} {below : List Frame} {meth : Method} {c : Code} {Q : State → Prop}  (C : Cx g p s m args c RX1 cX1_sittingBehind 5) (v1 : Nat) (v2 : Int32) (hv1 : kd v1 = 9) (L : ML) : ∀ (n : Nat) (z3 : Int32) (z4 : Int32) (I : MI) (y0_3 : Int32) (Iy0 : MI), lp (fun s => b_X1_sittingBehind_5 v1 v2 L s.1 s.2.1 s.2.2) n (z3, z4, I) = some (y0_3, Iy0) → ∀ (H : Heap) (locs : List Loc) (ls : Array Slot), Ws g s I L H locs → lv_has ls 5 [(0, .ref (g.1 + 207)), (1, .ref (g.1 + v1)), (2, .int v2), (3, .int z3), (4, .int z4)] → (∀ (H : Heap) (locs : List Loc) (ls : Array Slot), Ws g s Iy0 L H locs → lv_has ls 5 [(3, .int y0_3)] → W p l e (rmD 5) s m args below meth c H locs 0 0 Q (F0 m 46 ls [])) → W p l e (rmD 5) s m args below meth c H locs 0 0 Q (F0 m 5 ls []) := by
  intro n
  induction n with
  | zero => intro z3 z4 I y0_3 Iy0 h; exact lp_zero h
  | succ n ih =>
      intro z3 z4 I y0_3 Iy0 h H locs ls hW hl hx0
      obtain ⟨r9, h, h9⟩ := lp_some h
      have h : b_X1_sittingBehind_5 v1 v2 L z3 z4 I = some r9 := h
      unfold b_X1_sittingBehind_5 at h
      refine lv_iload C.1.1 C.1.2.1 dX1_sittingBehind_5 (lv_at hl 4 rfl) ?_
      refine lv_aload_n C.1.1 C.1.2.1 dX1_sittingBehind_7 rfl (lv_at hl 1 rfl) ?_
      refine G_X1_81 C hW hv1 dX1_sittingBehind_8 ?_
      refine lv_icmp_ge (tgt := 46) C.1.1 C.1.2.1 dX1_sittingBehind_11 (by decide) (fun hc1 => ?_) (fun hc1 => ?_)
      · replace h := ite_t hc1 h
        obtain rfl := Option.some.inj h
        replace h9 := Option.some.inj h9
        obtain ⟨rfl, rfl⟩ := pnj2 h9
        exact hx0 _ _ _ hW (lv_sub hl [3] rfl)
      · replace h := ite_f hc1 h
        refine lv_aload_n C.1.1 C.1.2.1 dX1_sittingBehind_14 rfl (lv_at hl 0 rfl) ?_
        refine lv_aload_n C.1.1 C.1.2.1 dX1_sittingBehind_15 rfl (lv_at hl 1 rfl) ?_
        refine G_X1_84 C hW hv1 dX1_sittingBehind_16 ?_
        refine lv_iload C.1.1 C.1.2.1 dX1_sittingBehind_19 (lv_at hl 4 rfl) ?_
        obtain ⟨hi2, h⟩ := gi_some h
        refine w_asit C hW (w := v1) hv1 hi2 dX1_sittingBehind_21 ?_
        refine lv_iload_n C.1.1 C.1.2.1 dX1_sittingBehind_22 rfl (lv_at hl 2 rfl) ?_
        obtain ⟨r3, I4, hc5, h⟩ := bd2_some h
        refine w_callVi (k := 2) (As := [.ref (g.1 + (v1 + 2 + z4.toNatClampNeg)), .int v2]) (rest := []) C hW (c_X1_strainBehind g l (kd_sit hv1 hi2) hc5) (by decide) rfl (EX_1 (by decide)) K_X1_88 (by decide +kernel) ⟨by decide, by decide⟩ ⟨Nat.le_refl _, Nat.le_refl _⟩ rfl hl.1 rfl (Nat.le_of_ble_eq_true rfl) dX1_sittingBehind_23 (fun H locs hW => ?_)
        refine lv_pop C.1.1 C.1.2.1 dX1_sittingBehind_26 rfl ?_
        refine lv_aload_n C.1.1 C.1.2.1 dX1_sittingBehind_27 rfl (lv_at hl 0 rfl) ?_
        refine G_X1_25 C hW (by decide) dX1_sittingBehind_28 ?_
        obtain ⟨r6, hc7, h⟩ := bd1_some h
        refine w_callVi (k := 0) (As := []) (rest := []) C hW (c_X6_sits g l (by decide) hc7) (by decide) rfl (EX_6 (by decide)) K_X1_92 (by decide +kernel) ⟨by decide, by decide⟩ ⟨Nat.le_refl _, Nat.le_refl _⟩ rfl hl.1 rfl (Nat.le_of_ble_eq_true rfl) dX1_sittingBehind_31 (fun H locs hW => ?_)
        obtain ⟨y8, hj10, h⟩ := bd1_some h
        have kJ9 : ∀ (H : Heap) (locs : List Loc) (ls : Array Slot), Ws g s I4 L H locs → lv_has ls 5 [(0, .ref (g.1 + 207)), (1, .ref (g.1 + v1)), (2, .int v2), (3, .int y8), (4, .int z4)] → W p l e (rmD 5) s m args below meth c H locs 0 0 Q (F0 m 40 ls []) := by
          intro H locs ls hW hl
          obtain ⟨x11, ex11⟩ : ∃ y : Int32, y = z4 + (1 : Int32) := ⟨_, rfl⟩
          replace h := nm_at ex11 h
          refine lv_iinc (v := x11) (lv' := [(4, .int x11), (0, .ref (g.1 + 207)), (1, .ref (g.1 + v1)), (2, .int v2), (3, .int y8)]) C.1.1 C.1.2.1 dX1_sittingBehind_40 hl (k := 4) rfl (by rw [ex11]; rfl) (by decide) rfl (fun ls hl => ?_)
          clear ex11
          refine lv_goto (tgt := 5) C.1.1 C.1.2.1 dX1_sittingBehind_43 (by decide) ?_
          obtain rfl := Option.some.inj h
          exact ih _ _ _ _ _ h9 _ _ _ hW (lv_sub hl [1, 2, 3, 4, 0] rfl) hx0
        clear h
        have h := hj10
        clear hj10
        refine lv_if_eq (tgt := 40) C.1.1 C.1.2.1 dX1_sittingBehind_34 (by decide) (fun hc12 => ?_) (fun hc12 => ?_)
        · replace h := ite_t hc12 h
          obtain rfl := inj1 h
          exact kJ9 _ _ _ hW (lv_sub hl [0, 1, 2, 3, 4] rfl)
        · replace h := ite_f hc12 h
          obtain ⟨x13, ex13⟩ : ∃ y : Int32, y = z3 + (1 : Int32) := ⟨_, rfl⟩
          replace h := nm_at ex13 h
          refine lv_iinc (v := x13) (lv' := [(3, .int x13), (0, .ref (g.1 + 207)), (1, .ref (g.1 + v1)), (2, .int v2), (4, .int z4)]) C.1.1 C.1.2.1 dX1_sittingBehind_37 hl (k := 3) rfl (by rw [ex13]; rfl) (by decide) rfl (fun ls hl => ?_)
          clear ex13
          obtain rfl := inj1 h
          exact kJ9 _ _ _ hW (lv_sub hl [1, 2, 3, 0, 4] rfl)
def f_X1_sittingBehind (a1 : Nat) (a2 : Int32) (I : MI) (L : ML) : Option (Int32 × MI) :=
  bd2 (lp (fun s => b_X1_sittingBehind_5 a1 a2 L s.1 s.2.1 s.2.2) FU (((0 : Int32), (0 : Int32), I))) (fun y15 I16 => some (y15, I16))
set_option maxHeartbeats 4000000 in
set_option maxRecDepth 100000 in
theorem c_X1_sittingBehind (g : Gp) (l : Launch) {a1 : Nat} {a2 : Int32} (ha1 : kd a1 = 9) {I : MI} {L : ML} {r : Int32} {I' : MI} (h : f_X1_sittingBehind a1 a2 I L = some (r, I')) : MetI g l yX1_sittingBehind cX1_sittingBehind 5 .int 5 [.ref (g.1 + 207), .ref (g.1 + a1), .int a2] I L r I' L := by
  unfold f_X1_sittingBehind at h
  refine w_enter (by decide) (Nat.le_of_ble_eq_true rfl) (own := RX1) rfl ?_
  intro p e s m below meth c args Q hQ C hr hlocks hW ls hl
  have hl : lv_has ls 5 [(0, .ref (g.1 + 207)), (1, .ref (g.1 + a1)), (2, .int a2)] := hl
  refine lv_iconst (v := 0) C.1.1 C.1.2.1 dX1_sittingBehind_0 (by decide) ?_
  refine lv_istore_n (lv' := [(3, .int (0 : Int32)), (0, .ref (g.1 + 207)), (1, .ref (g.1 + a1)), (2, .int a2)]) C.1.1 C.1.2.1 dX1_sittingBehind_1 rfl hl (by decide) rfl (fun ls hl => ?_)
  refine lv_iconst (v := 0) C.1.1 C.1.2.1 dX1_sittingBehind_2 (by decide) ?_
  refine lv_istore (lv' := [(4, .int (0 : Int32)), (3, .int (0 : Int32)), (0, .ref (g.1 + 207)), (1, .ref (g.1 + a1)), (2, .int a2)]) C.1.1 C.1.2.1 dX1_sittingBehind_3 hl (by decide) rfl (fun ls hl => ?_)
  obtain ⟨y15, I16, hq14, h⟩ := bd2_some h
  refine l_X1_sittingBehind_5 C a1 a2 ha1 L _ _ _ _ _ _ hq14 _ _ _ hW (lv_sub hl [2, 3, 4, 1, 0] rfl) (fun H locs ls hW hl => ?_)
  refine lv_iload_n C.1.1 C.1.2.1 dX1_sittingBehind_46 rfl (lv_at hl 0 rfl) ?_
  obtain ⟨rfl, rfl⟩ := inj2 h
  subst hQ
  exact w_iret C hW hr hlocks dX1_sittingBehind_47
