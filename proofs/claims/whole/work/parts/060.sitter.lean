def f_J6_compare_7cf53 (a1 : Int32) (a2 : Int32) : Option (Int32) :=
  bd1 ((if a2 ≤ a1 then (if a1 = a2 then some (0 : Int32) else some (1 : Int32)) else some (-1 : Int32))) (fun y1 => some y1)
set_option maxHeartbeats 4000000 in
set_option maxRecDepth 100000 in
theorem c_J6_compare_7cf53 (g : Gp) (l : Launch) {a1 : Int32} {a2 : Int32}  {r : Int32} (h : f_J6_compare_7cf53 a1 a2 = some r) (I : MI) (L : ML) : MetI g l yJ6_compare_7cf53 cJ6_compare_7cf53 2 .int 0 [.int a1, .int a2] I L r I L := by
  unfold f_J6_compare_7cf53 at h
  refine w_enter (by decide) (Nat.le_of_ble_eq_true rfl) (own := RJ6) rfl ?_
  intro p e s m below meth c args Q hQ C hr hlocks hW ls hl
  have hl : lv_has ls 2 [(0, .int a1), (1, .int a2)] := hl
  refine lv_iload_n C.1.1 C.1.2.1 dJ6_compare_7cf53_0 rfl (lv_at hl 0 rfl) ?_
  refine lv_iload_n C.1.1 C.1.2.1 dJ6_compare_7cf53_1 rfl (lv_at hl 1 rfl) ?_
  obtain ⟨y1, hj3, h⟩ := bd1_some h
  have kJ2 : ∀ (H : Heap) (locs : List Loc) (ls : Array Slot), Ws g s I L H locs → lv_has ls 2 [] → W p l e (rmD 0) s m args below meth c H locs 0 0 Q (F0 m 19 ls [.int y1]) := by
    intro H locs ls hW hl
    cases h
    subst hQ
    exact w_iret C hW hr hlocks dJ6_compare_7cf53_19
  clear h
  have h := hj3
  clear hj3
  refine lv_icmp_ge (tgt := 9) C.1.1 C.1.2.1 dJ6_compare_7cf53_2 (by decide) (fun hc4 => ?_) (fun hc4 => ?_)
  · replace h := ite_t hc4 h
    refine lv_iload_n C.1.1 C.1.2.1 dJ6_compare_7cf53_9 rfl (lv_at hl 0 rfl) ?_
    refine lv_iload_n C.1.1 C.1.2.1 dJ6_compare_7cf53_10 rfl (lv_at hl 1 rfl) ?_
    refine lv_icmp_ne (tgt := 18) C.1.1 C.1.2.1 dJ6_compare_7cf53_11 (by decide) (fun hc5 => ?_) (fun hc5 => ?_)
    · replace h := ite_f hc5 h
      refine lv_iconst (v := 1) C.1.1 C.1.2.1 dJ6_compare_7cf53_18 (by decide) ?_
      cases h
      exact kJ2 _ _ _ hW (lv_sub hl [] rfl)
    · replace h := ite_t hc5 h
      refine lv_iconst (v := 0) C.1.1 C.1.2.1 dJ6_compare_7cf53_14 (by decide) ?_
      refine lv_goto (tgt := 19) C.1.1 C.1.2.1 dJ6_compare_7cf53_15 (by decide) ?_
      cases h
      exact kJ2 _ _ _ hW (lv_sub hl [] rfl)
  · replace h := ite_f hc4 h
    refine lv_iconst (v := -1) C.1.1 C.1.2.1 dJ6_compare_7cf53_5 (by decide) ?_
    refine lv_goto (tgt := 19) C.1.1 C.1.2.1 dJ6_compare_7cf53_6 (by decide) ?_
    cases h
    exact kJ2 _ _ _ hW (lv_sub hl [] rfl)
def f_J6_bitCount_0f7a4 (a1 : Int32) : Option (Int32) :=
  nm (a1 - (((a1.toUInt32 >>> ((1 : Int32).toUInt32 &&& Int32.toUInt32 31)).toInt32) &&& (1431655765 : Int32))) (fun x1 => nm ((x1 &&& (858993459 : Int32)) + (((x1.toUInt32 >>> ((2 : Int32).toUInt32 &&& Int32.toUInt32 31)).toInt32) &&& (858993459 : Int32))) (fun x2 => nm ((x2 + ((x2.toUInt32 >>> ((4 : Int32).toUInt32 &&& Int32.toUInt32 31)).toInt32)) &&& (252645135 : Int32)) (fun x3 => nm (x3 + ((x3.toUInt32 >>> ((8 : Int32).toUInt32 &&& Int32.toUInt32 31)).toInt32)) (fun x4 => nm (x4 + ((x4.toUInt32 >>> ((16 : Int32).toUInt32 &&& Int32.toUInt32 31)).toInt32)) (fun x5 => some (x5 &&& (63 : Int32)))))))
set_option maxHeartbeats 4000000 in
set_option maxRecDepth 100000 in
theorem c_J6_bitCount_0f7a4 (g : Gp) (l : Launch) {a1 : Int32}  {r : Int32} (h : f_J6_bitCount_0f7a4 a1 = some r) (I : MI) (L : ML) : MetI g l yJ6_bitCount_0f7a4 cJ6_bitCount_0f7a4 1 .int 0 [.int a1] I L r I L := by
  unfold f_J6_bitCount_0f7a4 at h
  refine w_enter (by decide) (Nat.le_of_ble_eq_true rfl) (own := RJ6) rfl ?_
  intro p e s m below meth c args Q hQ C hr hlocks hW ls hl
  have hl : lv_has ls 1 [(0, .int a1)] := hl
  refine lv_iload_n C.1.1 C.1.2.1 dJ6_bitCount_0f7a4_0 rfl (lv_at hl 0 rfl) ?_
  refine lv_iload_n C.1.1 C.1.2.1 dJ6_bitCount_0f7a4_1 rfl (lv_at hl 0 rfl) ?_
  refine lv_iconst (v := 1) C.1.1 C.1.2.1 dJ6_bitCount_0f7a4_2 (by decide) ?_
  refine lv_iushr C.1.1 C.1.2.1 dJ6_bitCount_0f7a4_3 rfl ?_
  refine lv_ldcw C.1.1 C.1.2.1 C.1.2.2.2.1 (C.1.2.2.2.2 _ kc_J6_265) dJ6_bitCount_0f7a4_4 ?_
  refine lv_iand C.1.1 C.1.2.1 dJ6_bitCount_0f7a4_7 ?_
  refine lv_isub C.1.1 C.1.2.1 dJ6_bitCount_0f7a4_8 ?_
  refine lv_topi (fun x1 ex1 => ?_)
  replace h := nm_at ex1 h
  clear ex1
  refine lv_istore_n (lv' := [(0, .int x1)]) C.1.1 C.1.2.1 dJ6_bitCount_0f7a4_9 rfl hl (by decide) rfl (fun ls hl => ?_)
  refine lv_iload_n C.1.1 C.1.2.1 dJ6_bitCount_0f7a4_10 rfl (lv_at hl 0 rfl) ?_
  refine lv_ldcw C.1.1 C.1.2.1 C.1.2.2.2.1 (C.1.2.2.2.2 _ kc_J6_266) dJ6_bitCount_0f7a4_11 ?_
  refine lv_iand C.1.1 C.1.2.1 dJ6_bitCount_0f7a4_14 ?_
  refine lv_iload_n C.1.1 C.1.2.1 dJ6_bitCount_0f7a4_15 rfl (lv_at hl 0 rfl) ?_
  refine lv_iconst (v := 2) C.1.1 C.1.2.1 dJ6_bitCount_0f7a4_16 (by decide) ?_
  refine lv_iushr C.1.1 C.1.2.1 dJ6_bitCount_0f7a4_17 rfl ?_
  refine lv_ldcw C.1.1 C.1.2.1 C.1.2.2.2.1 (C.1.2.2.2.2 _ kc_J6_266) dJ6_bitCount_0f7a4_18 ?_
  refine lv_iand C.1.1 C.1.2.1 dJ6_bitCount_0f7a4_21 ?_
  refine lv_iadd C.1.1 C.1.2.1 dJ6_bitCount_0f7a4_22 ?_
  refine lv_topi (fun x2 ex2 => ?_)
  replace h := nm_at ex2 h
  clear ex2
  refine lv_istore_n (lv' := [(0, .int x2)]) C.1.1 C.1.2.1 dJ6_bitCount_0f7a4_23 rfl hl (by decide) rfl (fun ls hl => ?_)
  refine lv_iload_n C.1.1 C.1.2.1 dJ6_bitCount_0f7a4_24 rfl (lv_at hl 0 rfl) ?_
  refine lv_iload_n C.1.1 C.1.2.1 dJ6_bitCount_0f7a4_25 rfl (lv_at hl 0 rfl) ?_
  refine lv_iconst (v := 4) C.1.1 C.1.2.1 dJ6_bitCount_0f7a4_26 (by decide) ?_
  refine lv_iushr C.1.1 C.1.2.1 dJ6_bitCount_0f7a4_27 rfl ?_
  refine lv_iadd C.1.1 C.1.2.1 dJ6_bitCount_0f7a4_28 ?_
  refine lv_ldcw C.1.1 C.1.2.1 C.1.2.2.2.1 (C.1.2.2.2.2 _ kc_J6_267) dJ6_bitCount_0f7a4_29 ?_
  refine lv_iand C.1.1 C.1.2.1 dJ6_bitCount_0f7a4_32 ?_
  refine lv_topi (fun x3 ex3 => ?_)
  replace h := nm_at ex3 h
  clear ex3
  refine lv_istore_n (lv' := [(0, .int x3)]) C.1.1 C.1.2.1 dJ6_bitCount_0f7a4_33 rfl hl (by decide) rfl (fun ls hl => ?_)
  refine lv_iload_n C.1.1 C.1.2.1 dJ6_bitCount_0f7a4_34 rfl (lv_at hl 0 rfl) ?_
  refine lv_iload_n C.1.1 C.1.2.1 dJ6_bitCount_0f7a4_35 rfl (lv_at hl 0 rfl) ?_
  refine lv_bipush (v := 8) C.1.1 C.1.2.1 dJ6_bitCount_0f7a4_36 (by decide) ?_
  refine lv_iushr C.1.1 C.1.2.1 dJ6_bitCount_0f7a4_38 rfl ?_
  refine lv_iadd C.1.1 C.1.2.1 dJ6_bitCount_0f7a4_39 ?_
  refine lv_topi (fun x4 ex4 => ?_)
  replace h := nm_at ex4 h
  clear ex4
  refine lv_istore_n (lv' := [(0, .int x4)]) C.1.1 C.1.2.1 dJ6_bitCount_0f7a4_40 rfl hl (by decide) rfl (fun ls hl => ?_)
  refine lv_iload_n C.1.1 C.1.2.1 dJ6_bitCount_0f7a4_41 rfl (lv_at hl 0 rfl) ?_
  refine lv_iload_n C.1.1 C.1.2.1 dJ6_bitCount_0f7a4_42 rfl (lv_at hl 0 rfl) ?_
  refine lv_bipush (v := 16) C.1.1 C.1.2.1 dJ6_bitCount_0f7a4_43 (by decide) ?_
  refine lv_iushr C.1.1 C.1.2.1 dJ6_bitCount_0f7a4_45 rfl ?_
  refine lv_iadd C.1.1 C.1.2.1 dJ6_bitCount_0f7a4_46 ?_
  refine lv_topi (fun x5 ex5 => ?_)
  replace h := nm_at ex5 h
  clear ex5
  refine lv_istore_n (lv' := [(0, .int x5)]) C.1.1 C.1.2.1 dJ6_bitCount_0f7a4_47 rfl hl (by decide) rfl (fun ls hl => ?_)
  refine lv_iload_n C.1.1 C.1.2.1 dJ6_bitCount_0f7a4_48 rfl (lv_at hl 0 rfl) ?_
  refine lv_bipush (v := 63) C.1.1 C.1.2.1 dJ6_bitCount_0f7a4_49 (by decide) ?_
  refine lv_iand C.1.1 C.1.2.1 dJ6_bitCount_0f7a4_51 ?_
  cases h
  subst hQ
  exact w_iret C hW hr hlocks dJ6_bitCount_0f7a4_52
def f_X6_takeFrom (a0 : Nat) (a1 : Nat) (I : MI) (L : ML) : Option (MI) :=
  nm (up2 I a0 0 (I a1 0)) (fun I1 => nm (up2 I1 a0 1 (I1 a1 1)) (fun I2 => nm (up2 I2 a0 2 (I2 a1 2)) (fun I3 => nm (up2 I3 a0 3 (I3 a1 3)) (fun I4 => nm (up2 I4 a0 4 (I4 a1 4)) (fun I5 => nm (up2 I5 a0 5 (I5 a1 5)) (fun I6 => nm (up2 I6 a0 6 (I6 a1 6)) (fun I7 => nm (up2 I7 a0 7 (I7 a1 7)) (fun I8 => nm (up2 I8 a0 8 (I8 a1 8)) (fun I9 => gd (I9 a1 9 = 0 ∨ I9 a1 9 = 1) (nm (up2 I9 a0 9 (I9 a1 9)) (fun I11 => nm (up2 I11 a0 10 (I11 a1 10)) (fun I12 => some I12))))))))))))
set_option maxHeartbeats 4000000 in
set_option maxRecDepth 100000 in
theorem c_X6_takeFrom (g : Gp) (l : Launch) {a0 : Nat} {a1 : Nat} (ha0 : kd a0 = 6) (ha1 : kd a1 = 6) {I : MI} {L : ML} {I' : MI} (h : f_X6_takeFrom a0 a1 I L = some I') : MetV g l yX6_takeFrom cX6_takeFrom 2 0 [.ref (g.1 + a0), .ref (g.1 + a1)] I L I' L := by
  unfold f_X6_takeFrom at h
  refine w_enter (by decide) (Nat.le_of_ble_eq_true rfl) (own := RX6) rfl ?_
  intro p e s m below meth c args Q hQ C hr hlocks hW ls hl
  have hl : lv_has ls 2 [(0, .ref (g.1 + a0)), (1, .ref (g.1 + a1))] := hl
  refine lv_aload_n C.1.1 C.1.2.1 dX6_takeFrom_0 rfl (lv_at hl 0 rfl) ?_
  refine lv_aload_n C.1.1 C.1.2.1 dX6_takeFrom_1 rfl (lv_at hl 1 rfl) ?_
  refine G_X6_15 C hW ha1 dX6_takeFrom_2 ?_
  refine P_X6_15 C hW ha0 dX6_takeFrom_5 (fun H locs hW => ?_)
  obtain ⟨I1, eI1, h⟩ := nm_some h
  rw [← eI1] at hW
  clear eI1
  refine lv_aload_n C.1.1 C.1.2.1 dX6_takeFrom_8 rfl (lv_at hl 0 rfl) ?_
  refine lv_aload_n C.1.1 C.1.2.1 dX6_takeFrom_9 rfl (lv_at hl 1 rfl) ?_
  refine G_X6_18 C hW ha1 dX6_takeFrom_10 ?_
  refine P_X6_18 C hW ha0 dX6_takeFrom_13 (fun H locs hW => ?_)
  obtain ⟨I2, eI2, h⟩ := nm_some h
  rw [← eI2] at hW
  clear eI2
  refine lv_aload_n C.1.1 C.1.2.1 dX6_takeFrom_16 rfl (lv_at hl 0 rfl) ?_
  refine lv_aload_n C.1.1 C.1.2.1 dX6_takeFrom_17 rfl (lv_at hl 1 rfl) ?_
  refine G_X6_21 C hW ha1 dX6_takeFrom_18 ?_
  refine P_X6_21 C hW ha0 dX6_takeFrom_21 (fun H locs hW => ?_)
  obtain ⟨I3, eI3, h⟩ := nm_some h
  rw [← eI3] at hW
  clear eI3
  refine lv_aload_n C.1.1 C.1.2.1 dX6_takeFrom_24 rfl (lv_at hl 0 rfl) ?_
  refine lv_aload_n C.1.1 C.1.2.1 dX6_takeFrom_25 rfl (lv_at hl 1 rfl) ?_
  refine G_X6_24 C hW ha1 dX6_takeFrom_26 ?_
  refine P_X6_24 C hW ha0 dX6_takeFrom_29 (fun H locs hW => ?_)
  obtain ⟨I4, eI4, h⟩ := nm_some h
  rw [← eI4] at hW
  clear eI4
  refine lv_aload_n C.1.1 C.1.2.1 dX6_takeFrom_32 rfl (lv_at hl 0 rfl) ?_
  refine lv_aload_n C.1.1 C.1.2.1 dX6_takeFrom_33 rfl (lv_at hl 1 rfl) ?_
  refine G_X6_27 C hW ha1 dX6_takeFrom_34 ?_
  refine P_X6_27 C hW ha0 dX6_takeFrom_37 (fun H locs hW => ?_)
  obtain ⟨I5, eI5, h⟩ := nm_some h
  rw [← eI5] at hW
  clear eI5
  refine lv_aload_n C.1.1 C.1.2.1 dX6_takeFrom_40 rfl (lv_at hl 0 rfl) ?_
  refine lv_aload_n C.1.1 C.1.2.1 dX6_takeFrom_41 rfl (lv_at hl 1 rfl) ?_
  refine G_X6_30 C hW ha1 dX6_takeFrom_42 ?_
  refine P_X6_30 C hW ha0 dX6_takeFrom_45 (fun H locs hW => ?_)
  obtain ⟨I6, eI6, h⟩ := nm_some h
  rw [← eI6] at hW
  clear eI6
  refine lv_aload_n C.1.1 C.1.2.1 dX6_takeFrom_48 rfl (lv_at hl 0 rfl) ?_
  refine lv_aload_n C.1.1 C.1.2.1 dX6_takeFrom_49 rfl (lv_at hl 1 rfl) ?_
  refine G_X6_33 C hW ha1 dX6_takeFrom_50 ?_
  refine P_X6_33 C hW ha0 dX6_takeFrom_53 (fun H locs hW => ?_)
  obtain ⟨I7, eI7, h⟩ := nm_some h
  rw [← eI7] at hW
  clear eI7
  refine lv_aload_n C.1.1 C.1.2.1 dX6_takeFrom_56 rfl (lv_at hl 0 rfl) ?_
  refine lv_aload_n C.1.1 C.1.2.1 dX6_takeFrom_57 rfl (lv_at hl 1 rfl) ?_
  refine G_X6_36 C hW ha1 dX6_takeFrom_58 ?_
  refine P_X6_36 C hW ha0 dX6_takeFrom_61 (fun H locs hW => ?_)
  obtain ⟨I8, eI8, h⟩ := nm_some h
  rw [← eI8] at hW
  clear eI8
  refine lv_aload_n C.1.1 C.1.2.1 dX6_takeFrom_64 rfl (lv_at hl 0 rfl) ?_
  refine lv_aload_n C.1.1 C.1.2.1 dX6_takeFrom_65 rfl (lv_at hl 1 rfl) ?_
  refine G_X6_39 C hW ha1 dX6_takeFrom_66 ?_
  refine P_X6_39 C hW ha0 dX6_takeFrom_69 (fun H locs hW => ?_)
  obtain ⟨I9, eI9, h⟩ := nm_some h
  rw [← eI9] at hW
  clear eI9
  refine lv_aload_n C.1.1 C.1.2.1 dX6_takeFrom_72 rfl (lv_at hl 0 rfl) ?_
  refine lv_aload_n C.1.1 C.1.2.1 dX6_takeFrom_73 rfl (lv_at hl 1 rfl) ?_
  refine G_X6_42 C hW ha1 dX6_takeFrom_74 ?_
  obtain ⟨hb10, h⟩ := gd_some h
  refine P_X6_42 C hW ha0 hb10 dX6_takeFrom_77 (fun H locs hW => ?_)
  obtain ⟨I11, eI11, h⟩ := nm_some h
  rw [← eI11] at hW
  clear eI11
  refine lv_aload_n C.1.1 C.1.2.1 dX6_takeFrom_80 rfl (lv_at hl 0 rfl) ?_
  refine lv_aload_n C.1.1 C.1.2.1 dX6_takeFrom_81 rfl (lv_at hl 1 rfl) ?_
  refine G_X6_9 C hW ha1 dX6_takeFrom_82 ?_
  refine P_X6_9 C hW ha0 dX6_takeFrom_85 (fun H locs hW => ?_)
  obtain ⟨I12, eI12, h⟩ := nm_some h
  rw [← eI12] at hW
  clear eI12
  cases h
  subst hQ
  exact w_vret C hW hr hlocks dX6_takeFrom_88
def f_X6_sitDown (a0 : Nat) (a1 : Int32) (I : MI) (L : ML) : Option (MI) :=
  nm (up2 I a0 5 (0 : Int32)) (fun I1 => nm (up2 I1 a0 6 a1) (fun I2 => nm (up2 I2 a0 7 (0 : Int32)) (fun I3 => nm (up2 I3 a0 8 (0 : Int32)) (fun I4 => nm (up2 I4 a0 9 (0 : Int32)) (fun I5 => nm (up2 I5 a0 10 (-4 : Int32)) (fun I6 => some I6))))))
set_option maxHeartbeats 4000000 in
set_option maxRecDepth 100000 in
theorem c_X6_sitDown (g : Gp) (l : Launch) {a0 : Nat} {a1 : Int32} (ha0 : kd a0 = 6) {I : MI} {L : ML} {I' : MI} (h : f_X6_sitDown a0 a1 I L = some I') : MetV g l yX6_sitDown cX6_sitDown 2 0 [.ref (g.1 + a0), .int a1] I L I' L := by
  unfold f_X6_sitDown at h
  refine w_enter (by decide) (Nat.le_of_ble_eq_true rfl) (own := RX6) rfl ?_
  intro p e s m below meth c args Q hQ C hr hlocks hW ls hl
  have hl : lv_has ls 2 [(0, .ref (g.1 + a0)), (1, .int a1)] := hl
  refine lv_aload_n C.1.1 C.1.2.1 dX6_sitDown_0 rfl (lv_at hl 0 rfl) ?_
  refine lv_iconst (v := 0) C.1.1 C.1.2.1 dX6_sitDown_1 (by decide) ?_
  refine P_X6_30 C hW ha0 dX6_sitDown_2 (fun H locs hW => ?_)
  obtain ⟨I1, eI1, h⟩ := nm_some h
  rw [← eI1] at hW
  clear eI1
  refine lv_aload_n C.1.1 C.1.2.1 dX6_sitDown_5 rfl (lv_at hl 0 rfl) ?_
  refine lv_iload_n C.1.1 C.1.2.1 dX6_sitDown_6 rfl (lv_at hl 1 rfl) ?_
  refine P_X6_33 C hW ha0 dX6_sitDown_7 (fun H locs hW => ?_)
  obtain ⟨I2, eI2, h⟩ := nm_some h
  rw [← eI2] at hW
  clear eI2
  refine lv_aload_n C.1.1 C.1.2.1 dX6_sitDown_10 rfl (lv_at hl 0 rfl) ?_
  refine lv_iconst (v := 0) C.1.1 C.1.2.1 dX6_sitDown_11 (by decide) ?_
  refine P_X6_36 C hW ha0 dX6_sitDown_12 (fun H locs hW => ?_)
  obtain ⟨I3, eI3, h⟩ := nm_some h
  rw [← eI3] at hW
  clear eI3
  refine lv_aload_n C.1.1 C.1.2.1 dX6_sitDown_15 rfl (lv_at hl 0 rfl) ?_
  refine lv_iconst (v := 0) C.1.1 C.1.2.1 dX6_sitDown_16 (by decide) ?_
  refine P_X6_39 C hW ha0 dX6_sitDown_17 (fun H locs hW => ?_)
  obtain ⟨I4, eI4, h⟩ := nm_some h
  rw [← eI4] at hW
  clear eI4
  refine lv_aload_n C.1.1 C.1.2.1 dX6_sitDown_20 rfl (lv_at hl 0 rfl) ?_
  refine lv_iconst (v := 0) C.1.1 C.1.2.1 dX6_sitDown_21 (by decide) ?_
  refine P_X6_42 C hW ha0 (by decide) dX6_sitDown_22 (fun H locs hW => ?_)
  obtain ⟨I5, eI5, h⟩ := nm_some h
  rw [← eI5] at hW
  clear eI5
  refine lv_aload_n C.1.1 C.1.2.1 dX6_sitDown_25 rfl (lv_at hl 0 rfl) ?_
  refine lv_bipush (v := -4) C.1.1 C.1.2.1 dX6_sitDown_26 (by decide) ?_
  refine P_X6_9 C hW ha0 dX6_sitDown_28 (fun H locs hW => ?_)
  obtain ⟨I6, eI6, h⟩ := nm_some h
  rw [← eI6] at hW
  clear eI6
  cases h
  subst hQ
  exact w_vret C hW hr hlocks dX6_sitDown_31
def f_X6_sits (a0 : Nat) (I : MI) (L : ML) : Option (Int32) :=
  bd1 ((if (I a0 10) = (-4 : Int32) then some (1 : Int32) else some (0 : Int32))) (fun y1 => gd (y1 = 0 ∨ y1 = 1) (some y1))
set_option maxHeartbeats 4000000 in
set_option maxRecDepth 100000 in
theorem c_X6_sits (g : Gp) (l : Launch) {a0 : Nat} (ha0 : kd a0 = 6) {I : MI} {L : ML} {r : Int32} (h : f_X6_sits a0 I L = some r) : MetI g l yX6_sits cX6_sits 1 .boolean 0 [.ref (g.1 + a0)] I L r I L := by
  unfold f_X6_sits at h
  refine w_enter (by decide) (Nat.le_of_ble_eq_true rfl) (own := RX6) rfl ?_
  intro p e s m below meth c args Q hQ C hr hlocks hW ls hl
  have hl : lv_has ls 1 [(0, .ref (g.1 + a0))] := hl
  refine lv_aload_n C.1.1 C.1.2.1 dX6_sits_0 rfl (lv_at hl 0 rfl) ?_
  refine G_X6_9 C hW ha0 dX6_sits_1 ?_
  refine lv_bipush (v := -4) C.1.1 C.1.2.1 dX6_sits_4 (by decide) ?_
  obtain ⟨y1, hj3, h⟩ := bd1_some h
  have kJ2 : ∀ (H : Heap) (locs : List Loc) (ls : Array Slot), Ws g s I L H locs → lv_has ls 1 [] → W p l e (rmD 0) s m args below meth c H locs 0 0 Q (F0 m 14 ls [.int y1]) := by
    intro H locs ls hW hl
    obtain ⟨hb4, h⟩ := gd_some h
    cases h
    subst hQ
    exact w_zret C hW hr hlocks hb4 dX6_sits_14
  clear h
  have h := hj3
  clear hj3
  refine lv_icmp_ne (tgt := 13) C.1.1 C.1.2.1 dX6_sits_6 (by decide) (fun hc5 => ?_) (fun hc5 => ?_)
  · replace h := ite_f hc5 h
    refine lv_iconst (v := 0) C.1.1 C.1.2.1 dX6_sits_13 (by decide) ?_
    cases h
    exact kJ2 _ _ _ hW (lv_sub hl [] rfl)
  · replace h := ite_t hc5 h
    refine lv_iconst (v := 1) C.1.1 C.1.2.1 dX6_sits_9 (by decide) ?_
    refine lv_goto (tgt := 14) C.1.1 C.1.2.1 dX6_sits_10 (by decide) ?_
    cases h
    exact kJ2 _ _ _ hW (lv_sub hl [] rfl)
def f_X6_canEat (a0 : Nat) (I : MI) (L : ML) : Option (Int32) :=
  bd1 (f_X6_sits a0 I L) (fun r1 => bd1 ((if r1 = 0 then some (0 : Int32) else (if (I a0 6) ≤ 0 then some (0 : Int32) else some (1 : Int32)))) (fun y3 => gd (y3 = 0 ∨ y3 = 1) (some y3)))
set_option maxHeartbeats 4000000 in
set_option maxRecDepth 100000 in
theorem c_X6_canEat (g : Gp) (l : Launch) {a0 : Nat} (ha0 : kd a0 = 6) {I : MI} {L : ML} {r : Int32} (h : f_X6_canEat a0 I L = some r) : MetI g l yX6_canEat cX6_canEat 1 .boolean 1 [.ref (g.1 + a0)] I L r I L := by
  unfold f_X6_canEat at h
  refine w_enter (by decide) (Nat.le_of_ble_eq_true rfl) (own := RX6) rfl ?_
  intro p e s m below meth c args Q hQ C hr hlocks hW ls hl
  have hl : lv_has ls 1 [(0, .ref (g.1 + a0))] := hl
  refine lv_aload_n C.1.1 C.1.2.1 dX6_canEat_0 rfl (lv_at hl 0 rfl) ?_
  obtain ⟨r1, hc2, h⟩ := bd1_some h
  refine w_callVi (k := 0) (As := []) (rest := []) C hW (c_X6_sits g l ha0 hc2) ha0 rfl (EX_6 ha0) K_X6_46 (by decide +kernel) ⟨by decide, by decide⟩ ⟨Nat.le_refl _, Nat.le_refl _⟩ rfl hl.1 rfl (Nat.le_of_ble_eq_true rfl) dX6_canEat_1 (fun H locs hW => ?_)
  obtain ⟨y3, hj5, h⟩ := bd1_some h
  have kJ4 : ∀ (H : Heap) (locs : List Loc) (ls : Array Slot), Ws g s I L H locs → lv_has ls 1 [] → W p l e (rmD 1) s m args below meth c H locs 0 0 Q (F0 m 19 ls [.int y3]) := by
    intro H locs ls hW hl
    obtain ⟨hb6, h⟩ := gd_some h
    cases h
    subst hQ
    exact w_zret C hW hr hlocks hb6 dX6_canEat_19
  clear h
  have h := hj5
  clear hj5
  refine lv_if_eq (tgt := 18) C.1.1 C.1.2.1 dX6_canEat_4 (by decide) (fun hc7 => ?_) (fun hc7 => ?_)
  · replace h := ite_t hc7 h
    refine lv_iconst (v := 0) C.1.1 C.1.2.1 dX6_canEat_18 (by decide) ?_
    cases h
    exact kJ4 _ _ _ hW (lv_sub hl [] rfl)
  · replace h := ite_f hc7 h
    refine lv_aload_n C.1.1 C.1.2.1 dX6_canEat_7 rfl (lv_at hl 0 rfl) ?_
    refine G_X6_33 C hW ha0 dX6_canEat_8 ?_
    refine lv_if_le (tgt := 18) C.1.1 C.1.2.1 dX6_canEat_11 (by decide) (fun hc8 => ?_) (fun hc8 => ?_)
    · replace h := ite_t hc8 h
      refine lv_iconst (v := 0) C.1.1 C.1.2.1 dX6_canEat_18 (by decide) ?_
      cases h
      exact kJ4 _ _ _ hW (lv_sub hl [] rfl)
    · replace h := ite_f hc8 h
      refine lv_iconst (v := 1) C.1.1 C.1.2.1 dX6_canEat_14 (by decide) ?_
      refine lv_goto (tgt := 19) C.1.1 C.1.2.1 dX6_canEat_15 (by decide) ?_
      cases h
      exact kJ4 _ _ _ hW (lv_sub hl [] rfl)
def f_X6_eatCrust (a0 : Nat) (I : MI) (L : ML) : Option (MI) :=
  bd1 (f_X6_canEat a0 I L) (fun r1 => bd1 ((if r1 = 0 then some I else nm (up2 I a0 6 ((I a0 6) - (1 : Int32))) (fun I7 => nm (up2 I7 a0 5 (mmax (0 : Int32) ((I7 a0 5) - (6 : Int32)))) (fun I8 => some I8)))) (fun I3 => some I3))
set_option maxHeartbeats 4000000 in
set_option maxRecDepth 100000 in
theorem c_X6_eatCrust (g : Gp) (l : Launch) {a0 : Nat} (ha0 : kd a0 = 6) {I : MI} {L : ML} {I' : MI} (h : f_X6_eatCrust a0 I L = some I') : MetV g l yX6_eatCrust cX6_eatCrust 1 2 [.ref (g.1 + a0)] I L I' L := by
  unfold f_X6_eatCrust at h
  refine w_enter (by decide) (Nat.le_of_ble_eq_true rfl) (own := RX6) rfl ?_
  intro p e s m below meth c args Q hQ C hr hlocks hW ls hl
  have hl : lv_has ls 1 [(0, .ref (g.1 + a0))] := hl
  refine lv_aload_n C.1.1 C.1.2.1 dX6_eatCrust_0 rfl (lv_at hl 0 rfl) ?_
  obtain ⟨r1, hc2, h⟩ := bd1_some h
  refine w_callVi (k := 0) (As := []) (rest := []) C hW (c_X6_canEat g l ha0 hc2) ha0 rfl (EX_6 ha0) K_X6_50 (by decide +kernel) ⟨by decide, by decide⟩ ⟨Nat.le_refl _, Nat.le_refl _⟩ rfl hl.1 rfl (Nat.le_of_ble_eq_true rfl) dX6_eatCrust_1 (fun H locs hW => ?_)
  obtain ⟨I3, hj5, h⟩ := bd1_some h
  have kJ4 : ∀ (H : Heap) (locs : List Loc) (ls : Array Slot), Ws g s I3 L H locs → lv_has ls 1 [] → W p l e (rmD 2) s m args below meth c H locs 0 0 Q (F0 m 32 ls []) := by
    intro H locs ls hW hl
    cases h
    subst hQ
    exact w_vret C hW hr hlocks dX6_eatCrust_32
  clear h
  have h := hj5
  clear hj5
  refine lv_if_eq (tgt := 32) C.1.1 C.1.2.1 dX6_eatCrust_4 (by decide) (fun hc6 => ?_) (fun hc6 => ?_)
  · replace h := ite_t hc6 h
    cases h
    exact kJ4 _ _ _ hW (lv_sub hl [] rfl)
  · replace h := ite_f hc6 h
    refine lv_aload_n C.1.1 C.1.2.1 dX6_eatCrust_7 rfl (lv_at hl 0 rfl) ?_
    refine lv_dup C.1.1 C.1.2.1 dX6_eatCrust_8 rfl ?_
    refine G_X6_33 C hW ha0 dX6_eatCrust_9 ?_
    refine lv_iconst (v := 1) C.1.1 C.1.2.1 dX6_eatCrust_12 (by decide) ?_
    refine lv_isub C.1.1 C.1.2.1 dX6_eatCrust_13 ?_
    refine P_X6_33 C hW ha0 dX6_eatCrust_14 (fun H locs hW => ?_)
    obtain ⟨I7, eI7, h⟩ := nm_some h
    rw [← eI7] at hW
    clear eI7
    refine lv_aload_n C.1.1 C.1.2.1 dX6_eatCrust_17 rfl (lv_at hl 0 rfl) ?_
    refine lv_iconst (v := 0) C.1.1 C.1.2.1 dX6_eatCrust_18 (by decide) ?_
    refine lv_aload_n C.1.1 C.1.2.1 dX6_eatCrust_19 rfl (lv_at hl 0 rfl) ?_
    refine G_X6_30 C hW ha0 dX6_eatCrust_20 ?_
    refine lv_bipush (v := 6) C.1.1 C.1.2.1 dX6_eatCrust_23 (by decide) ?_
    refine lv_isub C.1.1 C.1.2.1 dX6_eatCrust_25 ?_
    refine M_X6_53 (rest := [.ref (g.1 + a0)]) C hl.1 ⟨by decide, Nat.le_of_ble_eq_true rfl⟩ ⟨Nat.le_refl _, Nat.le_refl _⟩ dX6_eatCrust_26 ?_
    refine P_X6_30 C hW ha0 dX6_eatCrust_29 (fun H locs hW => ?_)
    obtain ⟨I8, eI8, h⟩ := nm_some h
    rw [← eI8] at hW
    clear eI8
    cases h
    exact kJ4 _ _ _ hW (lv_sub hl [] rfl)
def f_X6_chill (a0 : Nat) (a1 : Int32) (a2 : Int32) (I : MI) (L : ML) : Option (Int32) :=
  bd1 ((if a1 = (1 : Int32) then some (I a0 3) else some (0 : Int32))) (fun y1 => bd1 ((if a2 = 0 then some (0 : Int32) else some (I a0 3))) (fun y4 => nm (y1 + y4) (fun x7 => bd1 ((if (I a0 9) = 0 then some x7 else some (x7 / (2 : Int32)))) (fun y8 => some y8))))
set_option maxHeartbeats 4000000 in
set_option maxRecDepth 100000 in
theorem c_X6_chill (g : Gp) (l : Launch) {a0 : Nat} {a1 : Int32} {a2 : Int32} (ha0 : kd a0 = 6) {I : MI} {L : ML} {r : Int32} (h : f_X6_chill a0 a1 a2 I L = some r) : MetI g l yX6_chill cX6_chill 4 .int 0 [.ref (g.1 + a0), .int a1, .int a2] I L r I L := by
  unfold f_X6_chill at h
  refine w_enter (by decide) (Nat.le_of_ble_eq_true rfl) (own := RX6) rfl ?_
  intro p e s m below meth c args Q hQ C hr hlocks hW ls hl
  have hl : lv_has ls 4 [(0, .ref (g.1 + a0)), (1, .int a1), (2, .int a2)] := hl
  refine lv_iload_n C.1.1 C.1.2.1 dX6_chill_0 rfl (lv_at hl 1 rfl) ?_
  refine lv_iconst (v := 1) C.1.1 C.1.2.1 dX6_chill_1 (by decide) ?_
  obtain ⟨y1, hj3, h⟩ := bd1_some h
  have kJ2 : ∀ (H : Heap) (locs : List Loc) (ls : Array Slot), Ws g s I L H locs → lv_has ls 4 [(0, .ref (g.1 + a0)), (2, .int a2)] → W p l e (rmD 0) s m args below meth c H locs 0 0 Q (F0 m 13 ls [.int y1]) := by
    intro H locs ls hW hl
    refine lv_iload_n C.1.1 C.1.2.1 dX6_chill_13 rfl (lv_at hl 1 rfl) ?_
    obtain ⟨y4, hj6, h⟩ := bd1_some h
    have kJ5 : ∀ (H : Heap) (locs : List Loc) (ls : Array Slot), Ws g s I L H locs → lv_has ls 4 [(0, .ref (g.1 + a0))] → W p l e (rmD 0) s m args below meth c H locs 0 0 Q (F0 m 25 ls [.int y4, .int y1]) := by
      intro H locs ls hW hl
      refine lv_iadd C.1.1 C.1.2.1 dX6_chill_25 ?_
      refine lv_topi (fun x7 ex7 => ?_)
      replace h := nm_at ex7 h
      clear ex7
      refine lv_istore_n (lv' := [(3, .int x7), (0, .ref (g.1 + a0))]) C.1.1 C.1.2.1 dX6_chill_26 rfl hl (by decide) rfl (fun ls hl => ?_)
      refine lv_aload_n C.1.1 C.1.2.1 dX6_chill_27 rfl (lv_at hl 1 rfl) ?_
      refine G_X6_42 C hW ha0 dX6_chill_28 ?_
      obtain ⟨y8, hj10, h⟩ := bd1_some h
      have kJ9 : ∀ (H : Heap) (locs : List Loc) (ls : Array Slot), Ws g s I L H locs → lv_has ls 4 [] → W p l e (rmD 0) s m args below meth c H locs 0 0 Q (F0 m 41 ls [.int y8]) := by
        intro H locs ls hW hl
        cases h
        subst hQ
        exact w_iret C hW hr hlocks dX6_chill_41
      clear h
      have h := hj10
      clear hj10
      refine lv_if_eq (tgt := 40) C.1.1 C.1.2.1 dX6_chill_31 (by decide) (fun hc11 => ?_) (fun hc11 => ?_)
      · replace h := ite_t hc11 h
        refine lv_iload_n C.1.1 C.1.2.1 dX6_chill_40 rfl (lv_at hl 0 rfl) ?_
        cases h
        exact kJ9 _ _ _ hW (lv_sub hl [] rfl)
      · replace h := ite_f hc11 h
        refine lv_iload_n C.1.1 C.1.2.1 dX6_chill_34 rfl (lv_at hl 0 rfl) ?_
        refine lv_iconst (v := 2) C.1.1 C.1.2.1 dX6_chill_35 (by decide) ?_
        refine lv_idiv C.1.1 C.1.2.1 dX6_chill_36 (by decide) ?_
        refine lv_goto (tgt := 41) C.1.1 C.1.2.1 dX6_chill_37 (by decide) ?_
        cases h
        exact kJ9 _ _ _ hW (lv_sub hl [] rfl)
    clear h
    have h := hj6
    clear hj6
    refine lv_if_eq (tgt := 24) C.1.1 C.1.2.1 dX6_chill_14 (by decide) (fun hc12 => ?_) (fun hc12 => ?_)
    · replace h := ite_t hc12 h
      refine lv_iconst (v := 0) C.1.1 C.1.2.1 dX6_chill_24 (by decide) ?_
      cases h
      exact kJ5 _ _ _ hW (lv_sub hl [0] rfl)
    · replace h := ite_f hc12 h
      refine lv_aload_n C.1.1 C.1.2.1 dX6_chill_17 rfl (lv_at hl 0 rfl) ?_
      refine G_X6_24 C hW ha0 dX6_chill_18 ?_
      refine lv_goto (tgt := 25) C.1.1 C.1.2.1 dX6_chill_21 (by decide) ?_
      cases h
      exact kJ5 _ _ _ hW (lv_sub hl [0] rfl)
  clear h
  have h := hj3
  clear hj3
  refine lv_icmp_ne (tgt := 12) C.1.1 C.1.2.1 dX6_chill_2 (by decide) (fun hc13 => ?_) (fun hc13 => ?_)
  · replace h := ite_f hc13 h
    refine lv_iconst (v := 0) C.1.1 C.1.2.1 dX6_chill_12 (by decide) ?_
    cases h
    exact kJ2 _ _ _ hW (lv_sub hl [0, 2] rfl)
  · replace h := ite_t hc13 h
    refine lv_aload_n C.1.1 C.1.2.1 dX6_chill_5 rfl (lv_at hl 0 rfl) ?_
    refine G_X6_24 C hW ha0 dX6_chill_6 ?_
    refine lv_goto (tgt := 13) C.1.1 C.1.2.1 dX6_chill_9 (by decide) ?_
    cases h
    exact kJ2 _ _ _ hW (lv_sub hl [0, 2] rfl)
def f_X6_care (a0 : Nat) (I : MI) (L : ML) : Option (Int32) :=
  (if (I a0 7) = (1 : Int32) then some (0 : Int32) else bd1 ((if (I a0 7) = (2 : Int32) then some (I a0 4) else some ((I a0 4) / (2 : Int32)))) (fun y2 => bd1 ((if (I a0 0) = (3 : Int32) then some ((2 : Int32) * y2) else some y2)) (fun y5 => some y5)))
set_option maxHeartbeats 4000000 in
set_option maxRecDepth 100000 in
theorem c_X6_care (g : Gp) (l : Launch) {a0 : Nat} (ha0 : kd a0 = 6) {I : MI} {L : ML} {r : Int32} (h : f_X6_care a0 I L = some r) : MetI g l yX6_care cX6_care 2 .int 0 [.ref (g.1 + a0)] I L r I L := by
  unfold f_X6_care at h
  refine w_enter (by decide) (Nat.le_of_ble_eq_true rfl) (own := RX6) rfl ?_
  intro p e s m below meth c args Q hQ C hr hlocks hW ls hl
  have hl : lv_has ls 2 [(0, .ref (g.1 + a0))] := hl
  refine lv_aload_n C.1.1 C.1.2.1 dX6_care_0 rfl (lv_at hl 0 rfl) ?_
  refine G_X6_36 C hW ha0 dX6_care_1 ?_
  refine lv_iconst (v := 1) C.1.1 C.1.2.1 dX6_care_4 (by decide) ?_
  refine lv_icmp_ne (tgt := 10) C.1.1 C.1.2.1 dX6_care_5 (by decide) (fun hc1 => ?_) (fun hc1 => ?_)
  · replace h := ite_f hc1 h
    refine lv_aload_n C.1.1 C.1.2.1 dX6_care_10 rfl (lv_at hl 0 rfl) ?_
    refine G_X6_36 C hW ha0 dX6_care_11 ?_
    refine lv_iconst (v := 2) C.1.1 C.1.2.1 dX6_care_14 (by decide) ?_
    obtain ⟨y2, hj4, h⟩ := bd1_some h
    have kJ3 : ∀ (H : Heap) (locs : List Loc) (ls : Array Slot), Ws g s I L H locs → lv_has ls 2 [(0, .ref (g.1 + a0))] → W p l e (rmD 0) s m args below meth c H locs 0 0 Q (F0 m 31 ls [.int y2]) := by
      intro H locs ls hW hl
      refine lv_istore_n (lv' := [(1, .int y2), (0, .ref (g.1 + a0))]) C.1.1 C.1.2.1 dX6_care_31 rfl hl (by decide) rfl (fun ls hl => ?_)
      refine lv_aload_n C.1.1 C.1.2.1 dX6_care_32 rfl (lv_at hl 1 rfl) ?_
      refine G_X6_15 C hW ha0 dX6_care_33 ?_
      refine lv_iconst (v := 3) C.1.1 C.1.2.1 dX6_care_36 (by decide) ?_
      obtain ⟨y5, hj7, h⟩ := bd1_some h
      have kJ6 : ∀ (H : Heap) (locs : List Loc) (ls : Array Slot), Ws g s I L H locs → lv_has ls 2 [] → W p l e (rmD 0) s m args below meth c H locs 0 0 Q (F0 m 47 ls [.int y5]) := by
        intro H locs ls hW hl
        cases h
        subst hQ
        exact w_iret C hW hr hlocks dX6_care_47
      clear h
      have h := hj7
      clear hj7
      refine lv_icmp_ne (tgt := 46) C.1.1 C.1.2.1 dX6_care_37 (by decide) (fun hc8 => ?_) (fun hc8 => ?_)
      · replace h := ite_f hc8 h
        refine lv_iload_n C.1.1 C.1.2.1 dX6_care_46 rfl (lv_at hl 0 rfl) ?_
        cases h
        exact kJ6 _ _ _ hW (lv_sub hl [] rfl)
      · replace h := ite_t hc8 h
        refine lv_iconst (v := 2) C.1.1 C.1.2.1 dX6_care_40 (by decide) ?_
        refine lv_iload_n C.1.1 C.1.2.1 dX6_care_41 rfl (lv_at hl 0 rfl) ?_
        refine lv_imul C.1.1 C.1.2.1 dX6_care_42 ?_
        refine lv_goto (tgt := 47) C.1.1 C.1.2.1 dX6_care_43 (by decide) ?_
        cases h
        exact kJ6 _ _ _ hW (lv_sub hl [] rfl)
    clear h
    have h := hj4
    clear hj4
    refine lv_icmp_ne (tgt := 25) C.1.1 C.1.2.1 dX6_care_15 (by decide) (fun hc9 => ?_) (fun hc9 => ?_)
    · replace h := ite_f hc9 h
      refine lv_aload_n C.1.1 C.1.2.1 dX6_care_25 rfl (lv_at hl 0 rfl) ?_
      refine G_X6_27 C hW ha0 dX6_care_26 ?_
      refine lv_iconst (v := 2) C.1.1 C.1.2.1 dX6_care_29 (by decide) ?_
      refine lv_idiv C.1.1 C.1.2.1 dX6_care_30 (by decide) ?_
      cases h
      exact kJ3 _ _ _ hW (lv_sub hl [0] rfl)
    · replace h := ite_t hc9 h
      refine lv_aload_n C.1.1 C.1.2.1 dX6_care_18 rfl (lv_at hl 0 rfl) ?_
      refine G_X6_27 C hW ha0 dX6_care_19 ?_
      refine lv_goto (tgt := 31) C.1.1 C.1.2.1 dX6_care_22 (by decide) ?_
      cases h
      exact kJ3 _ _ _ hW (lv_sub hl [0] rfl)
  · replace h := ite_t hc1 h
    refine lv_iconst (v := 0) C.1.1 C.1.2.1 dX6_care_8 (by decide) ?_
    cases h
    subst hQ
    exact w_iret C hW hr hlocks dX6_care_9
def f_X6_grows (a0 : Nat) (a1 : Int32) (a2 : Int32) (I : MI) (L : ML) : Option (Int32) :=
  bd1 ((if (I a0 0) = (4 : Int32) then some ((I a0 2) + (1 : Int32)) else (if (I a0 0) = (5 : Int32) then some ((I a0 2) + (1 : Int32)) else some (I a0 2)))) (fun y1 => bd1 ((if (I a0 0) = (2 : Int32) then some ((2 : Int32) * (I a0 8)) else some (I a0 8))) (fun y4 => bd1 (f_X6_chill a0 a1 a2 I L) (fun r7 => bd1 (f_X6_care a0 I L) (fun r9 => nm (mmax (0 : Int32) (((y1 + r7) + r9) - y4)) (fun x11 => bd1 ((if (I a0 0) = (5 : Int32) then (if a2 = 0 then some x11 else some (x11 / (2 : Int32))) else some x11)) (fun y12 => some y12))))))
set_option maxHeartbeats 4000000 in
set_option maxRecDepth 100000 in
theorem c_X6_grows (g : Gp) (l : Launch) {a0 : Nat} {a1 : Int32} {a2 : Int32} (ha0 : kd a0 = 6) {I : MI} {L : ML} {r : Int32} (h : f_X6_grows a0 a1 a2 I L = some r) : MetI g l yX6_grows cX6_grows 6 .int 1 [.ref (g.1 + a0), .int a1, .int a2] I L r I L := by
  unfold f_X6_grows at h
  refine w_enter (by decide) (Nat.le_of_ble_eq_true rfl) (own := RX6) rfl ?_
  intro p e s m below meth c args Q hQ C hr hlocks hW ls hl
  have hl : lv_has ls 6 [(0, .ref (g.1 + a0)), (1, .int a1), (2, .int a2)] := hl
  refine lv_aload_n C.1.1 C.1.2.1 dX6_grows_0 rfl (lv_at hl 0 rfl) ?_
  refine G_X6_15 C hW ha0 dX6_grows_1 ?_
  refine lv_iconst (v := 4) C.1.1 C.1.2.1 dX6_grows_4 (by decide) ?_
  obtain ⟨y1, hj3, h⟩ := bd1_some h
  have kJ2 : ∀ (H : Heap) (locs : List Loc) (ls : Array Slot), Ws g s I L H locs → lv_has ls 6 [(0, .ref (g.1 + a0)), (1, .int a1), (2, .int a2)] → W p l e (rmD 1) s m args below meth c H locs 0 0 Q (F0 m 29 ls [.int y1]) := by
    intro H locs ls hW hl
    refine lv_istore_n (lv' := [(3, .int y1), (0, .ref (g.1 + a0)), (1, .int a1), (2, .int a2)]) C.1.1 C.1.2.1 dX6_grows_29 rfl hl (by decide) rfl (fun ls hl => ?_)
    refine lv_aload_n C.1.1 C.1.2.1 dX6_grows_30 rfl (lv_at hl 1 rfl) ?_
    refine G_X6_15 C hW ha0 dX6_grows_31 ?_
    refine lv_iconst (v := 2) C.1.1 C.1.2.1 dX6_grows_34 (by decide) ?_
    obtain ⟨y4, hj6, h⟩ := bd1_some h
    have kJ5 : ∀ (H : Heap) (locs : List Loc) (ls : Array Slot), Ws g s I L H locs → lv_has ls 6 [(0, .ref (g.1 + a0)), (1, .int a1), (2, .int a2), (3, .int y1)] → W p l e (rmD 1) s m args below meth c H locs 0 0 Q (F0 m 51 ls [.int y4]) := by
      intro H locs ls hW hl
      refine lv_istore (lv' := [(4, .int y4), (0, .ref (g.1 + a0)), (1, .int a1), (2, .int a2), (3, .int y1)]) C.1.1 C.1.2.1 dX6_grows_51 hl (by decide) rfl (fun ls hl => ?_)
      refine lv_iconst (v := 0) C.1.1 C.1.2.1 dX6_grows_53 (by decide) ?_
      refine lv_iload_n C.1.1 C.1.2.1 dX6_grows_54 rfl (lv_at hl 4 rfl) ?_
      refine lv_aload_n C.1.1 C.1.2.1 dX6_grows_55 rfl (lv_at hl 1 rfl) ?_
      refine lv_iload_n C.1.1 C.1.2.1 dX6_grows_56 rfl (lv_at hl 2 rfl) ?_
      refine lv_iload_n C.1.1 C.1.2.1 dX6_grows_57 rfl (lv_at hl 3 rfl) ?_
      obtain ⟨r7, hc8, h⟩ := bd1_some h
      refine w_callVi (k := 2) (As := [.int a1, .int a2]) (rest := [.int y1, .int (0 : Int32)]) C hW (c_X6_chill g l ha0 hc8) ha0 rfl (EX_6 ha0) K_X6_59 (by decide +kernel) ⟨by decide, by decide⟩ ⟨Nat.le_refl _, Nat.le_refl _⟩ rfl hl.1 rfl (Nat.le_of_ble_eq_true rfl) dX6_grows_58 (fun H locs hW => ?_)
      refine lv_iadd C.1.1 C.1.2.1 dX6_grows_61 ?_
      refine lv_aload_n C.1.1 C.1.2.1 dX6_grows_62 rfl (lv_at hl 1 rfl) ?_
      obtain ⟨r9, hc10, h⟩ := bd1_some h
      refine w_callVi (k := 0) (As := []) (rest := [.int (y1 + r7), .int (0 : Int32)]) C hW (c_X6_care g l ha0 hc10) ha0 rfl (EX_6 ha0) K_X6_63 (by decide +kernel) ⟨by decide, by decide⟩ ⟨Nat.le_refl _, Nat.le_refl _⟩ rfl hl.1 rfl (Nat.le_of_ble_eq_true rfl) dX6_grows_63 (fun H locs hW => ?_)
      refine lv_iadd C.1.1 C.1.2.1 dX6_grows_66 ?_
      refine lv_iload C.1.1 C.1.2.1 dX6_grows_67 (lv_at hl 0 rfl) ?_
      refine lv_isub C.1.1 C.1.2.1 dX6_grows_69 ?_
      refine M_X6_53 (rest := []) C hl.1 ⟨by decide, Nat.le_of_ble_eq_true rfl⟩ ⟨Nat.le_refl _, Nat.le_refl _⟩ dX6_grows_70 ?_
      refine lv_topi (fun x11 ex11 => ?_)
      replace h := nm_at ex11 h
      clear ex11
      refine lv_istore (lv' := [(5, .int x11), (4, .int y4), (0, .ref (g.1 + a0)), (1, .int a1), (2, .int a2), (3, .int y1)]) C.1.1 C.1.2.1 dX6_grows_73 hl (by decide) rfl (fun ls hl => ?_)
      refine lv_aload_n C.1.1 C.1.2.1 dX6_grows_75 rfl (lv_at hl 2 rfl) ?_
      refine G_X6_15 C hW ha0 dX6_grows_76 ?_
      refine lv_iconst (v := 5) C.1.1 C.1.2.1 dX6_grows_79 (by decide) ?_
      obtain ⟨y12, hj14, h⟩ := bd1_some h
      have kJ13 : ∀ (H : Heap) (locs : List Loc) (ls : Array Slot), Ws g s I L H locs → lv_has ls 6 [] → W p l e (rmD 1) s m args below meth c H locs 0 0 Q (F0 m 96 ls [.int y12]) := by
        intro H locs ls hW hl
        cases h
        subst hQ
        exact w_iret C hW hr hlocks dX6_grows_96
      clear h
      have h := hj14
      clear hj14
      refine lv_icmp_ne (tgt := 94) C.1.1 C.1.2.1 dX6_grows_80 (by decide) (fun hc15 => ?_) (fun hc15 => ?_)
      · replace h := ite_f hc15 h
        refine lv_iload C.1.1 C.1.2.1 dX6_grows_94 (lv_at hl 0 rfl) ?_
        cases h
        exact kJ13 _ _ _ hW (lv_sub hl [] rfl)
      · replace h := ite_t hc15 h
        refine lv_iload_n C.1.1 C.1.2.1 dX6_grows_83 rfl (lv_at hl 4 rfl) ?_
        refine lv_if_eq (tgt := 94) C.1.1 C.1.2.1 dX6_grows_84 (by decide) (fun hc16 => ?_) (fun hc16 => ?_)
        · replace h := ite_t hc16 h
          refine lv_iload C.1.1 C.1.2.1 dX6_grows_94 (lv_at hl 0 rfl) ?_
          cases h
          exact kJ13 _ _ _ hW (lv_sub hl [] rfl)
        · replace h := ite_f hc16 h
          refine lv_iload C.1.1 C.1.2.1 dX6_grows_87 (lv_at hl 0 rfl) ?_
          refine lv_iconst (v := 2) C.1.1 C.1.2.1 dX6_grows_89 (by decide) ?_
          refine lv_idiv C.1.1 C.1.2.1 dX6_grows_90 (by decide) ?_
          refine lv_goto (tgt := 96) C.1.1 C.1.2.1 dX6_grows_91 (by decide) ?_
          cases h
          exact kJ13 _ _ _ hW (lv_sub hl [] rfl)
    clear h
    have h := hj6
    clear hj6
    refine lv_icmp_ne (tgt := 47) C.1.1 C.1.2.1 dX6_grows_35 (by decide) (fun hc17 => ?_) (fun hc17 => ?_)
    · replace h := ite_f hc17 h
      refine lv_aload_n C.1.1 C.1.2.1 dX6_grows_47 rfl (lv_at hl 1 rfl) ?_
      refine G_X6_39 C hW ha0 dX6_grows_48 ?_
      cases h
      exact kJ5 _ _ _ hW (lv_sub hl [1, 2, 3, 0] rfl)
    · replace h := ite_t hc17 h
      refine lv_iconst (v := 2) C.1.1 C.1.2.1 dX6_grows_38 (by decide) ?_
      refine lv_aload_n C.1.1 C.1.2.1 dX6_grows_39 rfl (lv_at hl 1 rfl) ?_
      refine G_X6_39 C hW ha0 dX6_grows_40 ?_
      refine lv_imul C.1.1 C.1.2.1 dX6_grows_43 ?_
      refine lv_goto (tgt := 51) C.1.1 C.1.2.1 dX6_grows_44 (by decide) ?_
      cases h
      exact kJ5 _ _ _ hW (lv_sub hl [1, 2, 3, 0] rfl)
  clear h
  have h := hj3
  clear hj3
  refine lv_icmp_eq (tgt := 16) C.1.1 C.1.2.1 dX6_grows_5 (by decide) (fun hc18 => ?_) (fun hc18 => ?_)
  · replace h := ite_t hc18 h
    refine lv_aload_n C.1.1 C.1.2.1 dX6_grows_16 rfl (lv_at hl 0 rfl) ?_
    refine G_X6_21 C hW ha0 dX6_grows_17 ?_
    refine lv_iconst (v := 1) C.1.1 C.1.2.1 dX6_grows_20 (by decide) ?_
    refine lv_iadd C.1.1 C.1.2.1 dX6_grows_21 ?_
    refine lv_goto (tgt := 29) C.1.1 C.1.2.1 dX6_grows_22 (by decide) ?_
    cases h
    exact kJ2 _ _ _ hW (lv_sub hl [0, 1, 2] rfl)
  · replace h := ite_f hc18 h
    refine lv_aload_n C.1.1 C.1.2.1 dX6_grows_8 rfl (lv_at hl 0 rfl) ?_
    refine G_X6_15 C hW ha0 dX6_grows_9 ?_
    refine lv_iconst (v := 5) C.1.1 C.1.2.1 dX6_grows_12 (by decide) ?_
    refine lv_icmp_ne (tgt := 25) C.1.1 C.1.2.1 dX6_grows_13 (by decide) (fun hc19 => ?_) (fun hc19 => ?_)
    · replace h := ite_f hc19 h
      refine lv_aload_n C.1.1 C.1.2.1 dX6_grows_25 rfl (lv_at hl 0 rfl) ?_
      refine G_X6_21 C hW ha0 dX6_grows_26 ?_
      cases h
      exact kJ2 _ _ _ hW (lv_sub hl [0, 1, 2] rfl)
    · replace h := ite_t hc19 h
      refine lv_aload_n C.1.1 C.1.2.1 dX6_grows_16 rfl (lv_at hl 0 rfl) ?_
      refine G_X6_21 C hW ha0 dX6_grows_17 ?_
      refine lv_iconst (v := 1) C.1.1 C.1.2.1 dX6_grows_20 (by decide) ?_
      refine lv_iadd C.1.1 C.1.2.1 dX6_grows_21 ?_
      refine lv_goto (tgt := 29) C.1.1 C.1.2.1 dX6_grows_22 (by decide) ?_
      cases h
      exact kJ2 _ _ _ hW (lv_sub hl [0, 1, 2] rfl)
def f_X6_passHour (a0 : Nat) (a1 : Int32) (a2 : Int32) (a3 : Int32) (I : MI) (L : ML) : Option (MI) :=
  bd1 (f_X6_sits a0 I L) (fun r1 => (if r1 = 0 then some I else bd1 (f_X6_grows a0 a1 a2 I L) (fun r4 => nm (up2 I a0 5 (mmin (999 : Int32) ((I a0 5) + r4))) (fun I6 => bd1 ((if (I6 a0 5) < (I6 a0 1) then some I6 else nm (up2 I6 a0 10 a3) (fun I11 => some I11))) (fun I7 => some I7)))))
set_option maxHeartbeats 4000000 in
set_option maxRecDepth 100000 in
theorem c_X6_passHour (g : Gp) (l : Launch) {a0 : Nat} {a1 : Int32} {a2 : Int32} {a3 : Int32} (ha0 : kd a0 = 6) {I : MI} {L : ML} {I' : MI} (h : f_X6_passHour a0 a1 a2 a3 I L = some I') : MetV g l yX6_passHour cX6_passHour 4 2 [.ref (g.1 + a0), .int a1, .int a2, .int a3] I L I' L := by
  unfold f_X6_passHour at h
  refine w_enter (by decide) (Nat.le_of_ble_eq_true rfl) (own := RX6) rfl ?_
  intro p e s m below meth c args Q hQ C hr hlocks hW ls hl
  have hl : lv_has ls 4 [(0, .ref (g.1 + a0)), (1, .int a1), (2, .int a2), (3, .int a3)] := hl
  refine lv_aload_n C.1.1 C.1.2.1 dX6_passHour_0 rfl (lv_at hl 0 rfl) ?_
  obtain ⟨r1, hc2, h⟩ := bd1_some h
  refine w_callVi (k := 0) (As := []) (rest := []) C hW (c_X6_sits g l ha0 hc2) ha0 rfl (EX_6 ha0) K_X6_46 (by decide +kernel) ⟨by decide, by decide⟩ ⟨Nat.le_refl _, Nat.le_refl _⟩ rfl hl.1 rfl (Nat.le_of_ble_eq_true rfl) dX6_passHour_1 (fun H locs hW => ?_)
  refine lv_if_ne (tgt := 8) C.1.1 C.1.2.1 dX6_passHour_4 (by decide) (fun hc3 => ?_) (fun hc3 => ?_)
  · replace h := ite_f hc3 h
    refine lv_aload_n C.1.1 C.1.2.1 dX6_passHour_8 rfl (lv_at hl 0 rfl) ?_
    refine lv_sipush (v := 999) C.1.1 C.1.2.1 dX6_passHour_9 (by decide) ?_
    refine lv_aload_n C.1.1 C.1.2.1 dX6_passHour_12 rfl (lv_at hl 0 rfl) ?_
    refine G_X6_30 C hW ha0 dX6_passHour_13 ?_
    refine lv_aload_n C.1.1 C.1.2.1 dX6_passHour_16 rfl (lv_at hl 0 rfl) ?_
    refine lv_iload_n C.1.1 C.1.2.1 dX6_passHour_17 rfl (lv_at hl 1 rfl) ?_
    refine lv_iload_n C.1.1 C.1.2.1 dX6_passHour_18 rfl (lv_at hl 2 rfl) ?_
    obtain ⟨r4, hc5, h⟩ := bd1_some h
    refine w_callVi (k := 2) (As := [.int a1, .int a2]) (rest := [.int (I a0 5), .int (999 : Int32), .ref (g.1 + a0)]) C hW (c_X6_grows g l ha0 hc5) ha0 rfl (EX_6 ha0) K_X6_67 (by decide +kernel) ⟨by decide, by decide⟩ ⟨Nat.le_refl _, Nat.le_refl _⟩ rfl hl.1 rfl (Nat.le_of_ble_eq_true rfl) dX6_passHour_19 (fun H locs hW => ?_)
    refine lv_iadd C.1.1 C.1.2.1 dX6_passHour_22 ?_
    refine M_X6_70 (rest := [.ref (g.1 + a0)]) C hl.1 ⟨by decide, Nat.le_of_ble_eq_true rfl⟩ ⟨Nat.le_refl _, Nat.le_refl _⟩ dX6_passHour_23 ?_
    refine P_X6_30 C hW ha0 dX6_passHour_26 (fun H locs hW => ?_)
    obtain ⟨I6, eI6, h⟩ := nm_some h
    rw [← eI6] at hW
    clear eI6
    refine lv_aload_n C.1.1 C.1.2.1 dX6_passHour_29 rfl (lv_at hl 0 rfl) ?_
    refine G_X6_30 C hW ha0 dX6_passHour_30 ?_
    refine lv_aload_n C.1.1 C.1.2.1 dX6_passHour_33 rfl (lv_at hl 0 rfl) ?_
    refine G_X6_18 C hW ha0 dX6_passHour_34 ?_
    obtain ⟨I7, hj9, h⟩ := bd1_some h
    have kJ8 : ∀ (H : Heap) (locs : List Loc) (ls : Array Slot), Ws g s I7 L H locs → lv_has ls 4 [] → W p l e (rmD 2) s m args below meth c H locs 0 0 Q (F0 m 45 ls []) := by
      intro H locs ls hW hl
      cases h
      subst hQ
      exact w_vret C hW hr hlocks dX6_passHour_45
    clear h
    have h := hj9
    clear hj9
    refine lv_icmp_lt (tgt := 45) C.1.1 C.1.2.1 dX6_passHour_37 (by decide) (fun hc10 => ?_) (fun hc10 => ?_)
    · replace h := ite_t hc10 h
      cases h
      exact kJ8 _ _ _ hW (lv_sub hl [] rfl)
    · replace h := ite_f hc10 h
      refine lv_aload_n C.1.1 C.1.2.1 dX6_passHour_40 rfl (lv_at hl 0 rfl) ?_
      refine lv_iload_n C.1.1 C.1.2.1 dX6_passHour_41 rfl (lv_at hl 3 rfl) ?_
      refine P_X6_9 C hW ha0 dX6_passHour_42 (fun H locs hW => ?_)
      obtain ⟨I11, eI11, h⟩ := nm_some h
      rw [← eI11] at hW
      clear eI11
      cases h
      exact kJ8 _ _ _ hW (lv_sub hl [] rfl)
  · replace h := ite_t hc3 h
    cases h
    subst hQ
    exact w_vret C hW hr hlocks dX6_passHour_7
