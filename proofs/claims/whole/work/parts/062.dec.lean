def f_X3_forget  (I : MI) (L : ML) : Option (MI) :=
  nm (up2 I 19 2 (0 : Int32)) (fun I1 => some I1)
set_option maxHeartbeats 4000000 in
set_option maxRecDepth 100000 in
theorem c_X3_forget (g : Gp) (l : Launch)   {I : MI} {L : ML} {I' : MI} (h : f_X3_forget  I L = some I') : MetV g l yX3_forget cX3_forget 1 0 [.ref (g.1 + 19)] I L I' L := by
  unfold f_X3_forget at h
  refine w_enter (by decide) (Nat.le_of_ble_eq_true rfl) (own := RX3) rfl ?_
  intro p e s m below meth c args Q hQ C hr hlocks hW ls hl
  have hl : lv_has ls 1 [(0, .ref (g.1 + 19))] := hl
  refine lv_aload_n C.1.1 C.1.2.1 dX3_forget_0 rfl (lv_at hl 0 rfl) ?_
  refine lv_iconst (v := 0) C.1.1 C.1.2.1 dX3_forget_1 (by decide) ?_
  refine P_X3_26 C hW (by decide) dX3_forget_2 (fun H locs hW => ?_)
  obtain ⟨I1, eI1, h⟩ := nm_some h
  rw [← eI1] at hW
  clear eI1
  obtain rfl := inj1 h
  subst hQ
  exact w_vret C hW hr hlocks dX3_forget_5
def f_X4_edgeAt (a1 : Int32) (I : MI) (L : ML) : Option (Int32) :=
  bd1 (f_X10_within a1 (0 : Int32) (6 : Int32)) (fun r1 => (if r1 = 0 then some (0 : Int32) else gi a1 7 (gi a1 7 (some (((I (223 + 2 * a1.toNatClampNeg) 1) - (I (223 + 2 * a1.toNatClampNeg) 5)) - ((I (224 + 2 * a1.toNatClampNeg) 1) - (I (224 + 2 * a1.toNatClampNeg) 5)))))))
set_option maxHeartbeats 4000000 in
set_option maxRecDepth 100000 in
theorem c_X4_edgeAt (g : Gp) (l : Launch) {a1 : Int32}  {I : MI} {L : ML} {r : Int32} (h : f_X4_edgeAt a1 I L = some r) : MetI g l yX4_edgeAt cX4_edgeAt 4 .int 1 [.ref (g.1 + 220), .int a1] I L r I L := by
  unfold f_X4_edgeAt at h
  refine w_enter (by decide) (Nat.le_of_ble_eq_true rfl) (own := RX4) rfl ?_
  intro p e s m below meth c args Q hQ C hr hlocks hW ls hl
  have hl : lv_has ls 4 [(0, .ref (g.1 + 220)), (1, .int a1)] := hl
  refine lv_iload_n C.1.1 C.1.2.1 dX4_edgeAt_0 rfl (lv_at hl 1 rfl) ?_
  refine lv_iconst (v := 0) C.1.1 C.1.2.1 dX4_edgeAt_1 (by decide) ?_
  refine lv_bipush (v := 6) C.1.1 C.1.2.1 dX4_edgeAt_2 (by decide) ?_
  obtain ⟨r1, hc2, h⟩ := bd1_some h
  refine w_callNi (k := 3) (As := [.int a1, .int (0 : Int32), .int (6 : Int32)]) (rest := []) C hW (c_X10_within g l  hc2 I L) (good_U cd_X10_within) N_X4_56 ns_X10_within ni_X10 (by decide +kernel) ⟨by decide, by decide⟩ ⟨Nat.le_refl _, Nat.le_refl _⟩ rfl hl.1 rfl (Nat.le_of_ble_eq_true rfl) dX4_edgeAt_4 (fun H locs hW => ?_)
  refine lv_if_ne (tgt := 12) C.1.1 C.1.2.1 dX4_edgeAt_7 (by decide) (fun hc3 => ?_) (fun hc3 => ?_)
  · replace h := ite_f hc3 h
    refine lv_aload_n C.1.1 C.1.2.1 dX4_edgeAt_12 rfl (lv_at hl 0 rfl) ?_
    refine G_X4_13 C hW (by decide) dX4_edgeAt_13 ?_
    refine lv_iload_n C.1.1 C.1.2.1 dX4_edgeAt_16 rfl (lv_at hl 1 rfl) ?_
    obtain ⟨hi4, h⟩ := gi_some h
    refine w_aone C hW hi4 dX4_edgeAt_17 ?_
    refine lv_astore_n (lv' := [(2, .ref (g.1 + (223 + 2 * a1.toNatClampNeg))), (0, .ref (g.1 + 220)), (1, .int a1)]) C.1.1 C.1.2.1 dX4_edgeAt_18 rfl hl (by decide) rfl (fun ls hl => ?_)
    refine lv_aload_n C.1.1 C.1.2.1 dX4_edgeAt_19 rfl (lv_at hl 1 rfl) ?_
    refine G_X4_17 C hW (by decide) dX4_edgeAt_20 ?_
    refine lv_iload_n C.1.1 C.1.2.1 dX4_edgeAt_23 rfl (lv_at hl 2 rfl) ?_
    obtain ⟨hi5, h⟩ := gi_some h
    refine w_aoth C hW hi5 dX4_edgeAt_24 ?_
    refine lv_astore_n (lv' := [(3, .ref (g.1 + (224 + 2 * a1.toNatClampNeg))), (2, .ref (g.1 + (223 + 2 * a1.toNatClampNeg))), (0, .ref (g.1 + 220)), (1, .int a1)]) C.1.1 C.1.2.1 dX4_edgeAt_25 rfl hl (by decide) rfl (fun ls hl => ?_)
    refine lv_aload_n C.1.1 C.1.2.1 dX4_edgeAt_26 rfl (lv_at hl 1 rfl) ?_
    refine G_X4_60 C hW (kd_one hi4) dX4_edgeAt_27 ?_
    refine lv_aload_n C.1.1 C.1.2.1 dX4_edgeAt_30 rfl (lv_at hl 1 rfl) ?_
    refine G_X4_64 C hW (kd_one hi4) dX4_edgeAt_31 ?_
    refine lv_isub C.1.1 C.1.2.1 dX4_edgeAt_34 ?_
    refine lv_aload_n C.1.1 C.1.2.1 dX4_edgeAt_35 rfl (lv_at hl 0 rfl) ?_
    refine G_X4_60 C hW (kd_oth hi5) dX4_edgeAt_36 ?_
    refine lv_aload_n C.1.1 C.1.2.1 dX4_edgeAt_39 rfl (lv_at hl 0 rfl) ?_
    refine G_X4_64 C hW (kd_oth hi5) dX4_edgeAt_40 ?_
    refine lv_isub C.1.1 C.1.2.1 dX4_edgeAt_43 ?_
    refine lv_isub C.1.1 C.1.2.1 dX4_edgeAt_44 ?_
    obtain rfl := inj1 h
    subst hQ
    exact w_iret C hW hr hlocks dX4_edgeAt_45
  · replace h := ite_t hc3 h
    refine lv_iconst (v := 0) C.1.1 C.1.2.1 dX4_edgeAt_10 (by decide) ?_
    obtain rfl := inj1 h
    subst hQ
    exact w_iret C hW hr hlocks dX4_edgeAt_11
def f_X4_isAllowed (a1 : Int32) (a2 : Int32) (I : MI) (L : ML) : Option (Int32) :=
  bd1 (f_X10_within a1 (0 : Int32) (5 : Int32)) (fun r1 => (if r1 = 0 then some (0 : Int32) else bd1 ((if (a1 - a1 / (2 : Int32) * (2 : Int32)) = 0 then some (1 : Int32) else some (0 : Int32))) (fun y4 => bd1 ((if y4 = 0 then gi a1 7 (some (224 + 2 * a1.toNatClampNeg)) else gi a1 7 (some (223 + 2 * a1.toNatClampNeg)))) (fun y7 => gd (kd y7 = 6) (bd1 ((if y4 = 0 then gi a1 7 (some (223 + 2 * a1.toNatClampNeg)) else gi a1 7 (some (224 + 2 * a1.toNatClampNeg)))) (fun y11 => gd (kd y11 = 6) ((if a2 = (1 : Int32) then bd1 (f_X6_canEat y7 I L) (fun r24 => gd (r24 = 0 ∨ r24 = 1) (some r24)) else bd1 ((if a2 = (2 : Int32) then bd1 (f_X6_sits y11 I L) (fun r21 => (if r21 = 0 then some (0 : Int32) else some (1 : Int32))) else some (1 : Int32))) (fun y16 => gd (y16 = 0 ∨ y16 = 1) (some y16))))))))))
set_option maxHeartbeats 4000000 in
set_option maxRecDepth 100000 in
theorem c_X4_isAllowed (g : Gp) (l : Launch) {a1 : Int32} {a2 : Int32}  {I : MI} {L : ML} {r : Int32} (h : f_X4_isAllowed a1 a2 I L = some r) : MetI g l yX4_isAllowed cX4_isAllowed 6 .boolean 2 [.ref (g.1 + 220), .int a1, .int a2] I L r I L := by
  unfold f_X4_isAllowed at h
  refine w_enter (by decide) (Nat.le_of_ble_eq_true rfl) (own := RX4) rfl ?_
  intro p e s m below meth c args Q hQ C hr hlocks hW ls hl
  have hl : lv_has ls 6 [(0, .ref (g.1 + 220)), (1, .int a1), (2, .int a2)] := hl
  refine lv_iload_n C.1.1 C.1.2.1 dX4_isAllowed_0 rfl (lv_at hl 1 rfl) ?_
  refine lv_iconst (v := 0) C.1.1 C.1.2.1 dX4_isAllowed_1 (by decide) ?_
  refine lv_iconst (v := 5) C.1.1 C.1.2.1 dX4_isAllowed_2 (by decide) ?_
  obtain ⟨r1, hc2, h⟩ := bd1_some h
  refine w_callNi (k := 3) (As := [.int a1, .int (0 : Int32), .int (5 : Int32)]) (rest := []) C hW (c_X10_within g l  hc2 I L) (good_U cd_X10_within) N_X4_56 ns_X10_within ni_X10 (by decide +kernel) ⟨by decide, by decide⟩ ⟨Nat.le_refl _, Nat.le_refl _⟩ rfl hl.1 rfl (Nat.le_of_ble_eq_true rfl) dX4_isAllowed_3 (fun H locs hW => ?_)
  refine lv_if_ne (tgt := 11) C.1.1 C.1.2.1 dX4_isAllowed_6 (by decide) (fun hc3 => ?_) (fun hc3 => ?_)
  · replace h := ite_f hc3 h
    refine lv_iload_n C.1.1 C.1.2.1 dX4_isAllowed_11 rfl (lv_at hl 1 rfl) ?_
    refine lv_iconst (v := 2) C.1.1 C.1.2.1 dX4_isAllowed_12 (by decide) ?_
    refine lv_irem C.1.1 C.1.2.1 dX4_isAllowed_13 (by decide) ?_
    obtain ⟨y4, hj6, h⟩ := bd1_some h
    have kJ5 : ∀ (H : Heap) (locs : List Loc) (ls : Array Slot), Ws g s I L H locs → lv_has ls 6 [(0, .ref (g.1 + 220)), (1, .int a1), (2, .int a2)] → W p l e (rmD 2) s m args below meth c H locs 0 0 Q (F0 m 22 ls [.int y4]) := by
      intro H locs ls hW hl
      refine lv_istore_n (lv' := [(3, .int y4), (0, .ref (g.1 + 220)), (1, .int a1), (2, .int a2)]) C.1.1 C.1.2.1 dX4_isAllowed_22 rfl hl (by decide) rfl (fun ls hl => ?_)
      refine lv_iload_n C.1.1 C.1.2.1 dX4_isAllowed_23 rfl (lv_at hl 0 rfl) ?_
      obtain ⟨y7, hj9, h⟩ := bd1_some h
      obtain ⟨hk10, h⟩ := gd_some h
      have kJ8 : ∀ (H : Heap) (locs : List Loc) (ls : Array Slot), Ws g s I L H locs → lv_has ls 6 [(0, .ref (g.1 + 220)), (1, .int a1), (2, .int a2), (3, .int y4)] → W p l e (rmD 2) s m args below meth c H locs 0 0 Q (F0 m 42 ls [.ref (g.1 + y7)]) := by
        intro H locs ls hW hl
        refine lv_astore (lv' := [(4, .ref (g.1 + y7)), (0, .ref (g.1 + 220)), (1, .int a1), (2, .int a2), (3, .int y4)]) C.1.1 C.1.2.1 dX4_isAllowed_42 hl (by decide) rfl (fun ls hl => ?_)
        refine lv_iload_n C.1.1 C.1.2.1 dX4_isAllowed_44 rfl (lv_at hl 4 rfl) ?_
        obtain ⟨y11, hj13, h⟩ := bd1_some h
        obtain ⟨hk14, h⟩ := gd_some h
        have kJ12 : ∀ (H : Heap) (locs : List Loc) (ls : Array Slot), Ws g s I L H locs → lv_has ls 6 [(2, .int a2), (4, .ref (g.1 + y7))] → W p l e (rmD 2) s m args below meth c H locs 0 0 Q (F0 m 63 ls [.ref (g.1 + y11)]) := by
          intro H locs ls hW hl
          refine lv_astore (lv' := [(5, .ref (g.1 + y11)), (2, .int a2), (4, .ref (g.1 + y7))]) C.1.1 C.1.2.1 dX4_isAllowed_63 hl (by decide) rfl (fun ls hl => ?_)
          refine lv_iload_n C.1.1 C.1.2.1 dX4_isAllowed_65 rfl (lv_at hl 1 rfl) ?_
          refine lv_iconst (v := 1) C.1.1 C.1.2.1 dX4_isAllowed_66 (by decide) ?_
          refine lv_icmp_ne (tgt := 76) C.1.1 C.1.2.1 dX4_isAllowed_67 (by decide) (fun hc15 => ?_) (fun hc15 => ?_)
          · replace h := ite_f hc15 h
            refine lv_iload_n C.1.1 C.1.2.1 dX4_isAllowed_76 rfl (lv_at hl 1 rfl) ?_
            refine lv_iconst (v := 2) C.1.1 C.1.2.1 dX4_isAllowed_77 (by decide) ?_
            obtain ⟨y16, hj18, h⟩ := bd1_some h
            have kJ17 : ∀ (H : Heap) (locs : List Loc) (ls : Array Slot), Ws g s I L H locs → lv_has ls 6 [] → W p l e (rmD 2) s m args below meth c H locs 0 0 Q (F0 m 94 ls [.int y16]) := by
              intro H locs ls hW hl
              obtain ⟨hb19, h⟩ := gd_some h
              obtain rfl := inj1 h
              subst hQ
              exact w_zret C hW hr hlocks hb19 dX4_isAllowed_94
            clear h
            have h := hj18
            clear hj18
            refine lv_icmp_ne (tgt := 89) C.1.1 C.1.2.1 dX4_isAllowed_78 (by decide) (fun hc20 => ?_) (fun hc20 => ?_)
            · replace h := ite_f hc20 h
              refine lv_iconst (v := 1) C.1.1 C.1.2.1 dX4_isAllowed_89 (by decide) ?_
              refine lv_goto (tgt := 94) C.1.1 C.1.2.1 dX4_isAllowed_90 (by decide) ?_
              obtain rfl := inj1 h
              exact kJ17 _ _ _ hW (lv_sub hl [] rfl)
            · replace h := ite_t hc20 h
              refine lv_aload C.1.1 C.1.2.1 dX4_isAllowed_81 (lv_at hl 0 rfl) ?_
              obtain ⟨r21, hc22, h⟩ := bd1_some h
              refine w_callVi (k := 0) (As := []) (rest := []) C hW (c_X6_sits g l hk14 hc22) hk14 rfl (EX_6 hk14) K_X4_71 (by decide +kernel) ⟨by decide, by decide⟩ ⟨Nat.le_refl _, Nat.le_refl _⟩ rfl hl.1 rfl (Nat.le_of_ble_eq_true rfl) dX4_isAllowed_83 (fun H locs hW => ?_)
              refine lv_if_eq (tgt := 93) C.1.1 C.1.2.1 dX4_isAllowed_86 (by decide) (fun hc23 => ?_) (fun hc23 => ?_)
              · replace h := ite_t hc23 h
                refine lv_iconst (v := 0) C.1.1 C.1.2.1 dX4_isAllowed_93 (by decide) ?_
                obtain rfl := inj1 h
                exact kJ17 _ _ _ hW (lv_sub hl [] rfl)
              · replace h := ite_f hc23 h
                refine lv_iconst (v := 1) C.1.1 C.1.2.1 dX4_isAllowed_89 (by decide) ?_
                refine lv_goto (tgt := 94) C.1.1 C.1.2.1 dX4_isAllowed_90 (by decide) ?_
                obtain rfl := inj1 h
                exact kJ17 _ _ _ hW (lv_sub hl [] rfl)
          · replace h := ite_t hc15 h
            refine lv_aload C.1.1 C.1.2.1 dX4_isAllowed_70 (lv_at hl 2 rfl) ?_
            obtain ⟨r24, hc25, h⟩ := bd1_some h
            refine w_callVi (k := 0) (As := []) (rest := []) C hW (c_X6_canEat g l hk10 hc25) hk10 rfl (EX_6 hk10) K_X4_67 (by decide +kernel) ⟨by decide, by decide⟩ ⟨Nat.le_refl _, Nat.le_refl _⟩ rfl hl.1 rfl (Nat.le_of_ble_eq_true rfl) dX4_isAllowed_72 (fun H locs hW => ?_)
            obtain ⟨hb26, h⟩ := gd_some h
            obtain rfl := inj1 h
            subst hQ
            exact w_zret C hW hr hlocks hb26 dX4_isAllowed_75
        clear h
        have h := hj13
        clear hj13
        refine lv_if_eq (tgt := 57) C.1.1 C.1.2.1 dX4_isAllowed_45 (by decide) (fun hc27 => ?_) (fun hc27 => ?_)
        · replace h := ite_t hc27 h
          refine lv_aload_n C.1.1 C.1.2.1 dX4_isAllowed_57 rfl (lv_at hl 1 rfl) ?_
          refine G_X4_13 C hW (by decide) dX4_isAllowed_58 ?_
          refine lv_iload_n C.1.1 C.1.2.1 dX4_isAllowed_61 rfl (lv_at hl 2 rfl) ?_
          obtain ⟨hi28, h⟩ := gi_some h
          refine w_aone C hW hi28 dX4_isAllowed_62 ?_
          obtain rfl := inj1 h
          exact kJ12 _ _ _ hW (lv_sub hl [3, 0] rfl)
        · replace h := ite_f hc27 h
          refine lv_aload_n C.1.1 C.1.2.1 dX4_isAllowed_48 rfl (lv_at hl 1 rfl) ?_
          refine G_X4_17 C hW (by decide) dX4_isAllowed_49 ?_
          refine lv_iload_n C.1.1 C.1.2.1 dX4_isAllowed_52 rfl (lv_at hl 2 rfl) ?_
          obtain ⟨hi29, h⟩ := gi_some h
          refine w_aoth C hW hi29 dX4_isAllowed_53 ?_
          refine lv_goto (tgt := 63) C.1.1 C.1.2.1 dX4_isAllowed_54 (by decide) ?_
          obtain rfl := inj1 h
          exact kJ12 _ _ _ hW (lv_sub hl [3, 0] rfl)
      clear h
      have h := hj9
      clear hj9
      refine lv_if_eq (tgt := 36) C.1.1 C.1.2.1 dX4_isAllowed_24 (by decide) (fun hc30 => ?_) (fun hc30 => ?_)
      · replace h := ite_t hc30 h
        refine lv_aload_n C.1.1 C.1.2.1 dX4_isAllowed_36 rfl (lv_at hl 1 rfl) ?_
        refine G_X4_17 C hW (by decide) dX4_isAllowed_37 ?_
        refine lv_iload_n C.1.1 C.1.2.1 dX4_isAllowed_40 rfl (lv_at hl 2 rfl) ?_
        obtain ⟨hi31, h⟩ := gi_some h
        refine w_aoth C hW hi31 dX4_isAllowed_41 ?_
        obtain rfl := inj1 h
        exact kJ8 _ _ _ hW (lv_sub hl [1, 2, 3, 0] rfl)
      · replace h := ite_f hc30 h
        refine lv_aload_n C.1.1 C.1.2.1 dX4_isAllowed_27 rfl (lv_at hl 1 rfl) ?_
        refine G_X4_13 C hW (by decide) dX4_isAllowed_28 ?_
        refine lv_iload_n C.1.1 C.1.2.1 dX4_isAllowed_31 rfl (lv_at hl 2 rfl) ?_
        obtain ⟨hi32, h⟩ := gi_some h
        refine w_aone C hW hi32 dX4_isAllowed_32 ?_
        refine lv_goto (tgt := 42) C.1.1 C.1.2.1 dX4_isAllowed_33 (by decide) ?_
        obtain rfl := inj1 h
        exact kJ8 _ _ _ hW (lv_sub hl [1, 2, 3, 0] rfl)
    clear h
    have h := hj6
    clear hj6
    refine lv_if_ne (tgt := 21) C.1.1 C.1.2.1 dX4_isAllowed_14 (by decide) (fun hc33 => ?_) (fun hc33 => ?_)
    · replace h := ite_f hc33 h
      refine lv_iconst (v := 0) C.1.1 C.1.2.1 dX4_isAllowed_21 (by decide) ?_
      obtain rfl := inj1 h
      exact kJ5 _ _ _ hW (lv_sub hl [0, 1, 2] rfl)
    · replace h := ite_t hc33 h
      refine lv_iconst (v := 1) C.1.1 C.1.2.1 dX4_isAllowed_17 (by decide) ?_
      refine lv_goto (tgt := 22) C.1.1 C.1.2.1 dX4_isAllowed_18 (by decide) ?_
      obtain rfl := inj1 h
      exact kJ5 _ _ _ hW (lv_sub hl [0, 1, 2] rfl)
  · replace h := ite_t hc3 h
    refine lv_iconst (v := 0) C.1.1 C.1.2.1 dX4_isAllowed_9 (by decide) ?_
    obtain rfl := inj1 h
    subst hQ
    exact w_zret C hW hr hlocks (by decide) dX4_isAllowed_10
def f_X4_playMove (a1 : Int32) (a2 : Int32) (I : MI) (L : ML) : Option (MI) :=
  bd1 (f_X10_within a1 (0 : Int32) (5 : Int32)) (fun r1 => (if r1 = 0 then some I else gi (a1 + (1 : Int32)) 7 (gi (a1 + (1 : Int32)) 7 (gi a1 7 (bd1 (f_X6_takeFrom (223 + 2 * (a1 + (1 : Int32)).toNatClampNeg) (223 + 2 * a1.toNatClampNeg) I L) (fun I7 => gi a1 7 (bd1 (f_X6_takeFrom (224 + 2 * (a1 + (1 : Int32)).toNatClampNeg) (224 + 2 * a1.toNatClampNeg) I7 L) (fun I10 => bd1 ((if (a1 - a1 / (2 : Int32) * (2 : Int32)) = 0 then some (1 : Int32) else some (0 : Int32))) (fun y12 => bd1 ((if a2 = (1 : Int32) then bd1 ((if y12 = 0 then some (224 + 2 * (a1 + (1 : Int32)).toNatClampNeg) else some (223 + 2 * (a1 + (1 : Int32)).toNatClampNeg))) (fun y47 => gd (kd y47 = 6) (bd1 (f_X6_eatCrust y47 I10 L) (fun I51 => some I51))) else some I10)) (fun I15 => bd1 ((if a2 = (2 : Int32) then bd1 ((if y12 = 0 then some (223 + 2 * (a1 + (1 : Int32)).toNatClampNeg) else some (224 + 2 * (a1 + (1 : Int32)).toNatClampNeg))) (fun y40 => gd (kd y40 = 6) (nm (up2 I15 y40 7 (2 : Int32)) (fun I44 => some I44))) else some I15)) (fun I18 => bd1 ((if y12 = 0 then (if I18 220 2 = 0 then some I18 else nm (a1 / (2 : Int32)) (fun x26 => gd (¬ I18 220 2 = 0) (gi x26 60 (gd (¬ I18 220 2 = 0) (gi x26 60 (bd1 (f_X6_passHour (223 + 2 * (a1 + (1 : Int32)).toNatClampNeg) (I18 208 x26.toNatClampNeg) (I18 209 x26.toNatClampNeg) x26 I18 L) (fun I31 => gd (¬ I31 220 2 = 0) (gi x26 60 (gd (¬ I31 220 2 = 0) (gi x26 60 (bd1 (f_X6_passHour (224 + 2 * (a1 + (1 : Int32)).toNatClampNeg) (I31 208 x26.toNatClampNeg) (I31 209 x26.toNatClampNeg) x26 I31 L) (fun I37 => some I37)))))))))))) else some I18)) (fun I21 => some I21))))))))))))
set_option maxHeartbeats 4000000 in
set_option maxRecDepth 100000 in
theorem c_X4_playMove (g : Gp) (l : Launch) {a1 : Int32} {a2 : Int32}  {I : MI} {L : ML} {I' : MI} (h : f_X4_playMove a1 a2 I L = some I') : MetV g l yX4_playMove cX4_playMove 7 3 [.ref (g.1 + 220), .int a1, .int a2] I L I' L := by
  unfold f_X4_playMove at h
  refine w_enter (by decide) (Nat.le_of_ble_eq_true rfl) (own := RX4) rfl ?_
  intro p e s m below meth c args Q hQ C hr hlocks hW ls hl
  have hl : lv_has ls 7 [(0, .ref (g.1 + 220)), (1, .int a1), (2, .int a2)] := hl
  refine lv_iload_n C.1.1 C.1.2.1 dX4_playMove_0 rfl (lv_at hl 1 rfl) ?_
  refine lv_iconst (v := 0) C.1.1 C.1.2.1 dX4_playMove_1 (by decide) ?_
  refine lv_iconst (v := 5) C.1.1 C.1.2.1 dX4_playMove_2 (by decide) ?_
  obtain ⟨r1, hc2, h⟩ := bd1_some h
  refine w_callNi (k := 3) (As := [.int a1, .int (0 : Int32), .int (5 : Int32)]) (rest := []) C hW (c_X10_within g l  hc2 I L) (good_U cd_X10_within) N_X4_56 ns_X10_within ni_X10 (by decide +kernel) ⟨by decide, by decide⟩ ⟨Nat.le_refl _, Nat.le_refl _⟩ rfl hl.1 rfl (Nat.le_of_ble_eq_true rfl) dX4_playMove_3 (fun H locs hW => ?_)
  refine lv_if_ne (tgt := 10) C.1.1 C.1.2.1 dX4_playMove_6 (by decide) (fun hc3 => ?_) (fun hc3 => ?_)
  · replace h := ite_f hc3 h
    refine lv_aload_n C.1.1 C.1.2.1 dX4_playMove_10 rfl (lv_at hl 0 rfl) ?_
    refine G_X4_13 C hW (by decide) dX4_playMove_11 ?_
    refine lv_iload_n C.1.1 C.1.2.1 dX4_playMove_14 rfl (lv_at hl 1 rfl) ?_
    refine lv_iconst (v := 1) C.1.1 C.1.2.1 dX4_playMove_15 (by decide) ?_
    refine lv_iadd C.1.1 C.1.2.1 dX4_playMove_16 ?_
    obtain ⟨hi4, h⟩ := gi_some h
    refine w_aone C hW hi4 dX4_playMove_17 ?_
    refine lv_astore_n (lv' := [(3, .ref (g.1 + (223 + 2 * (a1 + (1 : Int32)).toNatClampNeg))), (0, .ref (g.1 + 220)), (1, .int a1), (2, .int a2)]) C.1.1 C.1.2.1 dX4_playMove_18 rfl hl (by decide) rfl (fun ls hl => ?_)
    refine lv_aload_n C.1.1 C.1.2.1 dX4_playMove_19 rfl (lv_at hl 1 rfl) ?_
    refine G_X4_17 C hW (by decide) dX4_playMove_20 ?_
    refine lv_iload_n C.1.1 C.1.2.1 dX4_playMove_23 rfl (lv_at hl 2 rfl) ?_
    refine lv_iconst (v := 1) C.1.1 C.1.2.1 dX4_playMove_24 (by decide) ?_
    refine lv_iadd C.1.1 C.1.2.1 dX4_playMove_25 ?_
    obtain ⟨hi5, h⟩ := gi_some h
    refine w_aoth C hW hi5 dX4_playMove_26 ?_
    refine lv_astore (lv' := [(4, .ref (g.1 + (224 + 2 * (a1 + (1 : Int32)).toNatClampNeg))), (3, .ref (g.1 + (223 + 2 * (a1 + (1 : Int32)).toNatClampNeg))), (0, .ref (g.1 + 220)), (1, .int a1), (2, .int a2)]) C.1.1 C.1.2.1 dX4_playMove_27 hl (by decide) rfl (fun ls hl => ?_)
    refine lv_aload_n C.1.1 C.1.2.1 dX4_playMove_29 rfl (lv_at hl 1 rfl) ?_
    refine lv_aload_n C.1.1 C.1.2.1 dX4_playMove_30 rfl (lv_at hl 2 rfl) ?_
    refine G_X4_13 C hW (by decide) dX4_playMove_31 ?_
    refine lv_iload_n C.1.1 C.1.2.1 dX4_playMove_34 rfl (lv_at hl 3 rfl) ?_
    obtain ⟨hi6, h⟩ := gi_some h
    refine w_aone C hW hi6 dX4_playMove_35 ?_
    obtain ⟨I7, hc8, h⟩ := bd1_some h
    refine w_callVv (k := 1) (As := [.ref (g.1 + (223 + 2 * a1.toNatClampNeg))]) (rest := []) C hW (c_X6_takeFrom g l (kd_one hi4) (kd_one hi6) hc8) (kd_one hi4) rfl (EX_6 (kd_one hi4)) K_X4_25 (by decide +kernel) ⟨by decide, by decide⟩ ⟨Nat.le_refl _, Nat.le_refl _⟩ rfl hl.1 rfl (Nat.le_of_ble_eq_true rfl) dX4_playMove_36 (fun H locs hW => ?_)
    refine lv_aload C.1.1 C.1.2.1 dX4_playMove_39 (lv_at hl 0 rfl) ?_
    refine lv_aload_n C.1.1 C.1.2.1 dX4_playMove_41 rfl (lv_at hl 2 rfl) ?_
    refine G_X4_17 C hW (by decide) dX4_playMove_42 ?_
    refine lv_iload_n C.1.1 C.1.2.1 dX4_playMove_45 rfl (lv_at hl 3 rfl) ?_
    obtain ⟨hi9, h⟩ := gi_some h
    refine w_aoth C hW hi9 dX4_playMove_46 ?_
    obtain ⟨I10, hc11, h⟩ := bd1_some h
    refine w_callVv (k := 1) (As := [.ref (g.1 + (224 + 2 * a1.toNatClampNeg))]) (rest := []) C hW (c_X6_takeFrom g l (kd_oth hi5) (kd_oth hi9) hc11) (kd_oth hi5) rfl (EX_6 (kd_oth hi5)) K_X4_25 (by decide +kernel) ⟨by decide, by decide⟩ ⟨Nat.le_refl _, Nat.le_refl _⟩ rfl hl.1 rfl (Nat.le_of_ble_eq_true rfl) dX4_playMove_47 (fun H locs hW => ?_)
    refine lv_iload_n C.1.1 C.1.2.1 dX4_playMove_50 rfl (lv_at hl 3 rfl) ?_
    refine lv_iconst (v := 2) C.1.1 C.1.2.1 dX4_playMove_51 (by decide) ?_
    refine lv_irem C.1.1 C.1.2.1 dX4_playMove_52 (by decide) ?_
    obtain ⟨y12, hj14, h⟩ := bd1_some h
    have kJ13 : ∀ (H : Heap) (locs : List Loc) (ls : Array Slot), Ws g s I10 L H locs → lv_has ls 7 [(0, .ref (g.1 + 220)), (1, .int a1), (2, .int a2), (3, .ref (g.1 + (223 + 2 * (a1 + (1 : Int32)).toNatClampNeg))), (4, .ref (g.1 + (224 + 2 * (a1 + (1 : Int32)).toNatClampNeg)))] → W p l e (rmD 3) s m args below meth c H locs 0 0 Q (F0 m 61 ls [.int y12]) := by
      intro H locs ls hW hl
      refine lv_istore (lv' := [(5, .int y12), (0, .ref (g.1 + 220)), (1, .int a1), (2, .int a2), (3, .ref (g.1 + (223 + 2 * (a1 + (1 : Int32)).toNatClampNeg))), (4, .ref (g.1 + (224 + 2 * (a1 + (1 : Int32)).toNatClampNeg)))]) C.1.1 C.1.2.1 dX4_playMove_61 hl (by decide) rfl (fun ls hl => ?_)
      refine lv_iload_n C.1.1 C.1.2.1 dX4_playMove_63 rfl (lv_at hl 3 rfl) ?_
      refine lv_iconst (v := 1) C.1.1 C.1.2.1 dX4_playMove_64 (by decide) ?_
      obtain ⟨I15, hj17, h⟩ := bd1_some h
      have kJ16 : ∀ (H : Heap) (locs : List Loc) (ls : Array Slot), Ws g s I15 L H locs → lv_has ls 7 [(0, .ref (g.1 + 220)), (1, .int a1), (2, .int a2), (3, .ref (g.1 + (223 + 2 * (a1 + (1 : Int32)).toNatClampNeg))), (4, .ref (g.1 + (224 + 2 * (a1 + (1 : Int32)).toNatClampNeg))), (5, .int y12)] → W p l e (rmD 3) s m args below meth c H locs 0 0 Q (F0 m 82 ls []) := by
        intro H locs ls hW hl
        refine lv_iload_n C.1.1 C.1.2.1 dX4_playMove_82 rfl (lv_at hl 2 rfl) ?_
        refine lv_iconst (v := 2) C.1.1 C.1.2.1 dX4_playMove_83 (by decide) ?_
        obtain ⟨I18, hj20, h⟩ := bd1_some h
        have kJ19 : ∀ (H : Heap) (locs : List Loc) (ls : Array Slot), Ws g s I18 L H locs → lv_has ls 7 [(0, .ref (g.1 + 220)), (1, .int a1), (3, .ref (g.1 + (223 + 2 * (a1 + (1 : Int32)).toNatClampNeg))), (4, .ref (g.1 + (224 + 2 * (a1 + (1 : Int32)).toNatClampNeg))), (5, .int y12)] → W p l e (rmD 3) s m args below meth c H locs 0 0 Q (F0 m 102 ls []) := by
          intro H locs ls hW hl
          refine lv_iload C.1.1 C.1.2.1 dX4_playMove_102 (lv_at hl 4 rfl) ?_
          obtain ⟨I21, hj23, h⟩ := bd1_some h
          have kJ22 : ∀ (H : Heap) (locs : List Loc) (ls : Array Slot), Ws g s I21 L H locs → lv_has ls 7 [] → W p l e (rmD 3) s m args below meth c H locs 0 0 Q (F0 m 172 ls []) := by
            intro H locs ls hW hl
            obtain rfl := inj1 h
            subst hQ
            exact w_vret C hW hr hlocks dX4_playMove_172
          clear h
          have h := hj23
          clear hj23
          refine lv_if_ne (tgt := 172) C.1.1 C.1.2.1 dX4_playMove_104 (by decide) (fun hc24 => ?_) (fun hc24 => ?_)
          · replace h := ite_f hc24 h
            obtain rfl := inj1 h
            exact kJ22 _ _ _ hW (lv_sub hl [] rfl)
          · replace h := ite_t hc24 h
            refine lv_aload_n C.1.1 C.1.2.1 dX4_playMove_107 rfl (lv_at hl 0 rfl) ?_
            refine G_X4_21 C hW (by decide) dX4_playMove_108 ?_
            by_cases hz25 : I18 220 2 = 0
            · replace h := ite_t hz25 h
              rw [if_pos hz25]
              refine lv_ifnullN (tgt := 172) C.1.1 C.1.2.1 dX4_playMove_111 (by decide) ?_
              obtain rfl := inj1 h
              exact kJ22 _ _ _ hW (lv_sub hl [] rfl)
            · replace h := ite_f hz25 h
              rw [if_neg hz25]
              refine lv_ifnull C.1.1 C.1.2.1 dX4_playMove_111 ?_
              refine lv_iload_n C.1.1 C.1.2.1 dX4_playMove_114 rfl (lv_at hl 1 rfl) ?_
              refine lv_iconst (v := 2) C.1.1 C.1.2.1 dX4_playMove_115 (by decide) ?_
              refine lv_idiv C.1.1 C.1.2.1 dX4_playMove_116 (by decide) ?_
              refine lv_topi (fun x26 ex26 => ?_)
              replace h := nm_at ex26 h
              clear ex26
              refine lv_istore (lv' := [(6, .int x26), (0, .ref (g.1 + 220)), (1, .int a1), (3, .ref (g.1 + (223 + 2 * (a1 + (1 : Int32)).toNatClampNeg))), (4, .ref (g.1 + (224 + 2 * (a1 + (1 : Int32)).toNatClampNeg))), (5, .int y12)]) C.1.1 C.1.2.1 dX4_playMove_117 hl (by decide) rfl (fun ls hl => ?_)
              refine lv_aload_n C.1.1 C.1.2.1 dX4_playMove_119 rfl (lv_at hl 3 rfl) ?_
              refine lv_aload_n C.1.1 C.1.2.1 dX4_playMove_120 rfl (lv_at hl 1 rfl) ?_
              obtain ⟨hz27, h⟩ := gd_some h
              refine G_X4_21 C hW (by decide) dX4_playMove_121 ?_
              rw [if_neg hz27]
              refine G_X4_80 C hW (by decide) dX4_playMove_124 ?_
              refine lv_iload C.1.1 C.1.2.1 dX4_playMove_127 (lv_at hl 0 rfl) ?_
              obtain ⟨hi28, h⟩ := gi_some h
              refine w_iald C hW (n := 60) (by decide) (by decide) hi28 dX4_playMove_129 ?_
              refine lv_aload_n C.1.1 C.1.2.1 dX4_playMove_130 rfl (lv_at hl 1 rfl) ?_
              obtain ⟨hz29, h⟩ := gd_some h
              refine G_X4_21 C hW (by decide) dX4_playMove_131 ?_
              rw [if_neg hz29]
              refine G_X4_86 C hW (by decide) dX4_playMove_134 ?_
              refine lv_iload C.1.1 C.1.2.1 dX4_playMove_137 (lv_at hl 0 rfl) ?_
              obtain ⟨hi30, h⟩ := gi_some h
              refine w_zald C hW (n := 60) (by decide) (by decide) hi30 dX4_playMove_139 ?_
              refine lv_iload C.1.1 C.1.2.1 dX4_playMove_140 (lv_at hl 0 rfl) ?_
              obtain ⟨I31, hc32, h⟩ := bd1_some h
              refine w_callVv (k := 3) (As := [.int (I18 208 x26.toNatClampNeg), .int (I18 209 x26.toNatClampNeg), .int x26]) (rest := []) C hW (c_X6_passHour g l (kd_one hi4) hc32) (kd_one hi4) rfl (EX_6 (kd_one hi4)) K_X4_90 (by decide +kernel) ⟨by decide, by decide⟩ ⟨Nat.le_refl _, Nat.le_refl _⟩ rfl hl.1 rfl (Nat.le_of_ble_eq_true rfl) dX4_playMove_142 (fun H locs hW => ?_)
              refine lv_aload C.1.1 C.1.2.1 dX4_playMove_145 (lv_at hl 4 rfl) ?_
              refine lv_aload_n C.1.1 C.1.2.1 dX4_playMove_147 rfl (lv_at hl 1 rfl) ?_
              obtain ⟨hz33, h⟩ := gd_some h
              refine G_X4_21 C hW (by decide) dX4_playMove_148 ?_
              rw [if_neg hz33]
              refine G_X4_80 C hW (by decide) dX4_playMove_151 ?_
              refine lv_iload C.1.1 C.1.2.1 dX4_playMove_154 (lv_at hl 0 rfl) ?_
              obtain ⟨hi34, h⟩ := gi_some h
              refine w_iald C hW (n := 60) (by decide) (by decide) hi34 dX4_playMove_156 ?_
              refine lv_aload_n C.1.1 C.1.2.1 dX4_playMove_157 rfl (lv_at hl 1 rfl) ?_
              obtain ⟨hz35, h⟩ := gd_some h
              refine G_X4_21 C hW (by decide) dX4_playMove_158 ?_
              rw [if_neg hz35]
              refine G_X4_86 C hW (by decide) dX4_playMove_161 ?_
              refine lv_iload C.1.1 C.1.2.1 dX4_playMove_164 (lv_at hl 0 rfl) ?_
              obtain ⟨hi36, h⟩ := gi_some h
              refine w_zald C hW (n := 60) (by decide) (by decide) hi36 dX4_playMove_166 ?_
              refine lv_iload C.1.1 C.1.2.1 dX4_playMove_167 (lv_at hl 0 rfl) ?_
              obtain ⟨I37, hc38, h⟩ := bd1_some h
              refine w_callVv (k := 3) (As := [.int (I31 208 x26.toNatClampNeg), .int (I31 209 x26.toNatClampNeg), .int x26]) (rest := []) C hW (c_X6_passHour g l (kd_oth hi5) hc38) (kd_oth hi5) rfl (EX_6 (kd_oth hi5)) K_X4_90 (by decide +kernel) ⟨by decide, by decide⟩ ⟨Nat.le_refl _, Nat.le_refl _⟩ rfl hl.1 rfl (Nat.le_of_ble_eq_true rfl) dX4_playMove_169 (fun H locs hW => ?_)
              obtain rfl := inj1 h
              exact kJ22 _ _ _ hW (lv_sub hl [] rfl)
        clear h
        have h := hj20
        clear hj20
        refine lv_icmp_ne (tgt := 102) C.1.1 C.1.2.1 dX4_playMove_84 (by decide) (fun hc39 => ?_) (fun hc39 => ?_)
        · replace h := ite_f hc39 h
          obtain rfl := inj1 h
          exact kJ19 _ _ _ hW (lv_sub hl [0, 1, 3, 4, 5] rfl)
        · replace h := ite_t hc39 h
          refine lv_iload C.1.1 C.1.2.1 dX4_playMove_87 (lv_at hl 5 rfl) ?_
          obtain ⟨y40, hj42, h⟩ := bd1_some h
          obtain ⟨hk43, h⟩ := gd_some h
          have kJ41 : ∀ (H : Heap) (locs : List Loc) (ls : Array Slot), Ws g s I15 L H locs → lv_has ls 7 [(0, .ref (g.1 + 220)), (1, .int a1), (3, .ref (g.1 + (223 + 2 * (a1 + (1 : Int32)).toNatClampNeg))), (4, .ref (g.1 + (224 + 2 * (a1 + (1 : Int32)).toNatClampNeg))), (5, .int y12)] → W p l e (rmD 3) s m args below meth c H locs 0 0 Q (F0 m 98 ls [.ref (g.1 + y40)]) := by
            intro H locs ls hW hl
            refine lv_iconst (v := 2) C.1.1 C.1.2.1 dX4_playMove_98 (by decide) ?_
            refine P_X4_77 C hW hk43 dX4_playMove_99 (fun H locs hW => ?_)
            obtain ⟨I44, eI44, h⟩ := nm_some h
            rw [← eI44] at hW
            clear eI44
            obtain rfl := inj1 h
            exact kJ19 _ _ _ hW (lv_sub hl [0, 1, 2, 3, 4] rfl)
          clear h
          have h := hj42
          clear hj42
          refine lv_if_eq (tgt := 97) C.1.1 C.1.2.1 dX4_playMove_89 (by decide) (fun hc45 => ?_) (fun hc45 => ?_)
          · replace h := ite_t hc45 h
            refine lv_aload_n C.1.1 C.1.2.1 dX4_playMove_97 rfl (lv_at hl 3 rfl) ?_
            obtain rfl := inj1 h
            exact kJ41 _ _ _ hW (lv_sub hl [0, 1, 3, 4, 5] rfl)
          · replace h := ite_f hc45 h
            refine lv_aload C.1.1 C.1.2.1 dX4_playMove_92 (lv_at hl 4 rfl) ?_
            refine lv_goto (tgt := 98) C.1.1 C.1.2.1 dX4_playMove_94 (by decide) ?_
            obtain rfl := inj1 h
            exact kJ41 _ _ _ hW (lv_sub hl [0, 1, 3, 4, 5] rfl)
      clear h
      have h := hj17
      clear hj17
      refine lv_icmp_ne (tgt := 82) C.1.1 C.1.2.1 dX4_playMove_65 (by decide) (fun hc46 => ?_) (fun hc46 => ?_)
      · replace h := ite_f hc46 h
        obtain rfl := inj1 h
        exact kJ16 _ _ _ hW (lv_sub hl [1, 2, 3, 4, 5, 0] rfl)
      · replace h := ite_t hc46 h
        refine lv_iload C.1.1 C.1.2.1 dX4_playMove_68 (lv_at hl 0 rfl) ?_
        obtain ⟨y47, hj49, h⟩ := bd1_some h
        obtain ⟨hk50, h⟩ := gd_some h
        have kJ48 : ∀ (H : Heap) (locs : List Loc) (ls : Array Slot), Ws g s I10 L H locs → lv_has ls 7 [(0, .ref (g.1 + 220)), (1, .int a1), (2, .int a2), (3, .ref (g.1 + (223 + 2 * (a1 + (1 : Int32)).toNatClampNeg))), (4, .ref (g.1 + (224 + 2 * (a1 + (1 : Int32)).toNatClampNeg))), (5, .int y12)] → W p l e (rmD 3) s m args below meth c H locs 0 0 Q (F0 m 79 ls [.ref (g.1 + y47)]) := by
          intro H locs ls hW hl
          obtain ⟨I51, hc52, h⟩ := bd1_some h
          refine w_callVv (k := 0) (As := []) (rest := []) C hW (c_X6_eatCrust g l hk50 hc52) hk50 rfl (EX_6 hk50) K_X4_74 (by decide +kernel) ⟨by decide, by decide⟩ ⟨Nat.le_refl _, Nat.le_refl _⟩ rfl hl.1 rfl (Nat.le_of_ble_eq_true rfl) dX4_playMove_79 (fun H locs hW => ?_)
          obtain rfl := inj1 h
          exact kJ16 _ _ _ hW (lv_sub hl [0, 1, 2, 3, 4, 5] rfl)
        clear h
        have h := hj49
        clear hj49
        refine lv_if_eq (tgt := 77) C.1.1 C.1.2.1 dX4_playMove_70 (by decide) (fun hc53 => ?_) (fun hc53 => ?_)
        · replace h := ite_t hc53 h
          refine lv_aload C.1.1 C.1.2.1 dX4_playMove_77 (lv_at hl 5 rfl) ?_
          obtain rfl := inj1 h
          exact kJ48 _ _ _ hW (lv_sub hl [1, 2, 3, 4, 5, 0] rfl)
        · replace h := ite_f hc53 h
          refine lv_aload_n C.1.1 C.1.2.1 dX4_playMove_73 rfl (lv_at hl 4 rfl) ?_
          refine lv_goto (tgt := 79) C.1.1 C.1.2.1 dX4_playMove_74 (by decide) ?_
          obtain rfl := inj1 h
          exact kJ48 _ _ _ hW (lv_sub hl [1, 2, 3, 4, 5, 0] rfl)
    clear h
    have h := hj14
    clear hj14
    refine lv_if_ne (tgt := 60) C.1.1 C.1.2.1 dX4_playMove_53 (by decide) (fun hc54 => ?_) (fun hc54 => ?_)
    · replace h := ite_f hc54 h
      refine lv_iconst (v := 0) C.1.1 C.1.2.1 dX4_playMove_60 (by decide) ?_
      obtain rfl := inj1 h
      exact kJ13 _ _ _ hW (lv_sub hl [2, 3, 4, 1, 0] rfl)
    · replace h := ite_t hc54 h
      refine lv_iconst (v := 1) C.1.1 C.1.2.1 dX4_playMove_56 (by decide) ?_
      refine lv_goto (tgt := 61) C.1.1 C.1.2.1 dX4_playMove_57 (by decide) ?_
      obtain rfl := inj1 h
      exact kJ13 _ _ _ hW (lv_sub hl [2, 3, 4, 1, 0] rfl)
  · replace h := ite_t hc3 h
    obtain rfl := inj1 h
    subst hQ
    exact w_vret C hW hr hlocks dX4_playMove_9
def b_X4_edgeFrom_39 (F9 : Int32 → Int32 → MI → ML → Option (Int32 × MI)) (v1 : Int32) (v2 : Int32) (v3 : Int32) (L : ML) (z4 : Int32) (z5 : Int32) (I : MI) : Option ((Int32 × Int32 × MI) ⊕ ((Int32 × MI))) :=
  (if (3 : Int32) ≤ z5 then some (Sum.inr (z4, I)) else bd1 (f_X4_isAllowed v1 z5 I L) (fun r9 => bd2 ((if r9 = 0 then some (z4, I) else bd1 (f_X4_playMove v1 z5 I L) (fun I17 => bd2 (F9 (v1 + (1 : Int32)) v2 I17 L) (fun r19 I20 => bd1 ((if v3 = 0 then some (mmin z4 r19) else some (mmax z4 r19))) (fun y22 => some (y22, I20)))))) (fun y11 I12 => nm (z5 + (1 : Int32)) (fun x15 => some (Sum.inl (y11, x15, I12))))))
set_option maxHeartbeats 4000000 in
set_option maxRecDepth 100000 in
theorem l_X4_edgeFrom_39 {g : Gp} {p : Program} {l : Launch} {e : Env} {s : State} {m : MethodId} {args : Array Value} {below : List Frame} {meth : Method} {c : Code} {Q : State → Prop} {F9 : Int32 → Int32 → MI → ML → Option (Int32 × MI)} {n9 : Nat} (IH : ∀ (a2 : Int32) (a3 : Int32), ∀ (I : MI) (L : ML) (r : Int32) (I' : MI), F9 a2 a3 I L = some (r, I') → MetI g l yX4_edgeFrom cX4_edgeFrom 7 .int (n9 + 4) [.ref (g.1 + 220), .int a2, .int a3] I L r I' L) (C : Cx g p s m args c RX4 cX4_edgeFrom 7) (v1 : Int32) (v2 : Int32) (v3 : Int32)  (L : ML) : ∀ (n : Nat) (z4 : Int32) (z5 : Int32) (I : MI) (y0_4 : Int32) (Iy0 : MI), lp (fun s => b_X4_edgeFrom_39 F9 v1 v2 v3 L s.1 s.2.1 s.2.2) n (z4, z5, I) = some (y0_4, Iy0) → ∀ (H : Heap) (locs : List Loc) (ls : Array Slot), Ws g s I L H locs → lv_has ls 7 [(0, .ref (g.1 + 220)), (1, .int v1), (2, .int v2), (3, .int v3), (4, .int z4), (5, .int z5)] → (∀ (H : Heap) (locs : List Loc) (ls : Array Slot), Ws g s Iy0 L H locs → lv_has ls 7 [(4, .int y0_4)] → W p l e (rmD (n9 + 1 + 4)) s m args below meth c H locs 0 0 Q (F0 m 104 ls [])) → W p l e (rmD (n9 + 1 + 4)) s m args below meth c H locs 0 0 Q (F0 m 39 ls []) := by
  intro n
  induction n with
  | zero => intro z4 z5 I y0_4 Iy0 h; exact lp_zero h
  | succ n ih =>
      intro z4 z5 I y0_4 Iy0 h H locs ls hW hl hx0
      obtain ⟨r9, h, h9⟩ := lp_some h
      have h : b_X4_edgeFrom_39 F9 v1 v2 v3 L z4 z5 I = some r9 := h
      unfold b_X4_edgeFrom_39 at h
      refine lv_iload C.1.1 C.1.2.1 dX4_edgeFrom_39 (lv_at hl 5 rfl) ?_
      refine lv_iconst (v := 3) C.1.1 C.1.2.1 dX4_edgeFrom_41 (by decide) ?_
      refine lv_icmp_ge (tgt := 104) C.1.1 C.1.2.1 dX4_edgeFrom_42 (by decide) (fun hc8 => ?_) (fun hc8 => ?_)
      · replace h := ite_t hc8 h
        obtain rfl := Option.some.inj h
        replace h9 := Option.some.inj h9
        obtain ⟨rfl, rfl⟩ := pnj2 h9
        exact hx0 _ _ _ hW (lv_sub hl [4] rfl)
      · replace h := ite_f hc8 h
        refine lv_aload_n C.1.1 C.1.2.1 dX4_edgeFrom_45 rfl (lv_at hl 0 rfl) ?_
        refine lv_iload_n C.1.1 C.1.2.1 dX4_edgeFrom_46 rfl (lv_at hl 1 rfl) ?_
        refine lv_iload C.1.1 C.1.2.1 dX4_edgeFrom_47 (lv_at hl 5 rfl) ?_
        obtain ⟨r9, hc10, h⟩ := bd1_some h
        refine w_callVi (k := 2) (As := [.int v1, .int z5]) (rest := []) C hW (c_X4_isAllowed g l  hc10) (by decide) rfl (EX_4 (by decide)) K_X4_45 (by decide +kernel) ⟨by simp only [rmD]; omega, by simp only [rmD]; omega⟩ ⟨Nat.le_refl _, Nat.le_refl _⟩ rfl hl.1 rfl (Nat.le_of_ble_eq_true rfl) dX4_edgeFrom_49 (fun H locs hW => ?_)
        obtain ⟨y11, I12, hj14, h⟩ := bd2_some h
        have kJ13 : ∀ (H : Heap) (locs : List Loc) (ls : Array Slot), Ws g s I12 L H locs → lv_has ls 7 [(0, .ref (g.1 + 220)), (1, .int v1), (2, .int v2), (3, .int v3), (4, .int y11), (5, .int z5)] → W p l e (rmD (n9 + 1 + 4)) s m args below meth c H locs 0 0 Q (F0 m 98 ls []) := by
          intro H locs ls hW hl
          obtain ⟨x15, ex15⟩ : ∃ y : Int32, y = z5 + (1 : Int32) := ⟨_, rfl⟩
          replace h := nm_at ex15 h
          refine lv_iinc (v := x15) (lv' := [(5, .int x15), (0, .ref (g.1 + 220)), (1, .int v1), (2, .int v2), (3, .int v3), (4, .int y11)]) C.1.1 C.1.2.1 dX4_edgeFrom_98 hl (k := 5) rfl (by rw [ex15]; rfl) (by decide) rfl (fun ls hl => ?_)
          clear ex15
          refine lv_goto (tgt := 39) C.1.1 C.1.2.1 dX4_edgeFrom_101 (by decide) ?_
          obtain rfl := Option.some.inj h
          exact ih _ _ _ _ _ h9 _ _ _ hW (lv_sub hl [1, 2, 3, 4, 5, 0] rfl) hx0
        clear h
        have h := hj14
        clear hj14
        refine lv_if_ne (tgt := 58) C.1.1 C.1.2.1 dX4_edgeFrom_52 (by decide) (fun hc16 => ?_) (fun hc16 => ?_)
        · replace h := ite_f hc16 h
          refine lv_aload_n C.1.1 C.1.2.1 dX4_edgeFrom_58 rfl (lv_at hl 0 rfl) ?_
          refine lv_iload_n C.1.1 C.1.2.1 dX4_edgeFrom_59 rfl (lv_at hl 1 rfl) ?_
          refine lv_iload C.1.1 C.1.2.1 dX4_edgeFrom_60 (lv_at hl 5 rfl) ?_
          obtain ⟨I17, hc18, h⟩ := bd1_some h
          refine w_callVv (k := 2) (As := [.int v1, .int z5]) (rest := []) C hW (c_X4_playMove g l  hc18) (by decide) rfl (EX_4 (by decide)) K_X4_49 (by decide +kernel) ⟨by simp only [rmD]; omega, by simp only [rmD]; omega⟩ ⟨Nat.le_refl _, Nat.le_refl _⟩ rfl hl.1 rfl (Nat.le_of_ble_eq_true rfl) dX4_edgeFrom_62 (fun H locs hW => ?_)
          refine lv_aload_n C.1.1 C.1.2.1 dX4_edgeFrom_65 rfl (lv_at hl 0 rfl) ?_
          refine lv_iload_n C.1.1 C.1.2.1 dX4_edgeFrom_66 rfl (lv_at hl 1 rfl) ?_
          refine lv_iconst (v := 1) C.1.1 C.1.2.1 dX4_edgeFrom_67 (by decide) ?_
          refine lv_iadd C.1.1 C.1.2.1 dX4_edgeFrom_68 ?_
          refine lv_iload_n C.1.1 C.1.2.1 dX4_edgeFrom_69 rfl (lv_at hl 2 rfl) ?_
          obtain ⟨r19, I20, hc21, h⟩ := bd2_some h
          refine w_callSi (k := 3) (As := [.ref (g.1 + 220), .int (v1 + (1 : Int32)), .int v2]) (rest := []) C hW (IH _ _  _ _ _ _ hc21) K_X4_35 (by decide +kernel) ⟨by simp only [rmD]; omega, by simp only [rmD]; omega⟩ ⟨Nat.le_refl _, Nat.le_refl _⟩ rfl hl.1 rfl (Nat.le_of_ble_eq_true rfl) dX4_edgeFrom_70 (fun H locs hW => ?_)
          refine lv_istore (lv' := [(6, .int r19), (0, .ref (g.1 + 220)), (1, .int v1), (2, .int v2), (3, .int v3), (4, .int z4), (5, .int z5)]) C.1.1 C.1.2.1 dX4_edgeFrom_73 hl (by decide) rfl (fun ls hl => ?_)
          refine lv_iload_n C.1.1 C.1.2.1 dX4_edgeFrom_75 rfl (lv_at hl 4 rfl) ?_
          obtain ⟨y22, hj24, h⟩ := bd1_some h
          have kJ23 : ∀ (H : Heap) (locs : List Loc) (ls : Array Slot), Ws g s I20 L H locs → lv_has ls 7 [(0, .ref (g.1 + 220)), (1, .int v1), (2, .int v2), (3, .int v3), (5, .int z5)] → W p l e (rmD (n9 + 1 + 4)) s m args below meth c H locs 0 0 Q (F0 m 96 ls [.int y22]) := by
            intro H locs ls hW hl
            refine lv_istore (lv' := [(4, .int y22), (0, .ref (g.1 + 220)), (1, .int v1), (2, .int v2), (3, .int v3), (5, .int z5)]) C.1.1 C.1.2.1 dX4_edgeFrom_96 hl (by decide) rfl (fun ls hl => ?_)
            obtain ⟨rfl, rfl⟩ := inj2 h
            exact kJ13 _ _ _ hW (lv_sub hl [1, 2, 3, 4, 0, 5] rfl)
          clear h
          have h := hj24
          clear hj24
          refine lv_if_eq (tgt := 89) C.1.1 C.1.2.1 dX4_edgeFrom_76 (by decide) (fun hc25 => ?_) (fun hc25 => ?_)
          · replace h := ite_t hc25 h
            refine lv_iload C.1.1 C.1.2.1 dX4_edgeFrom_89 (lv_at hl 5 rfl) ?_
            refine lv_iload C.1.1 C.1.2.1 dX4_edgeFrom_91 (lv_at hl 0 rfl) ?_
            refine M_X4_29 (rest := []) C hl.1 ⟨by simp only [rmD]; omega, by simp [rmD, Value.category]; omega⟩ ⟨Nat.le_refl _, Nat.le_refl _⟩ dX4_edgeFrom_93 ?_
            obtain rfl := inj1 h
            exact kJ23 _ _ _ hW (lv_sub hl [1, 2, 3, 4, 6] rfl)
          · replace h := ite_f hc25 h
            refine lv_iload C.1.1 C.1.2.1 dX4_edgeFrom_79 (lv_at hl 5 rfl) ?_
            refine lv_iload C.1.1 C.1.2.1 dX4_edgeFrom_81 (lv_at hl 0 rfl) ?_
            refine M_X4_53 (rest := []) C hl.1 ⟨by simp only [rmD]; omega, by simp [rmD, Value.category]; omega⟩ ⟨Nat.le_refl _, Nat.le_refl _⟩ dX4_edgeFrom_83 ?_
            refine lv_goto (tgt := 96) C.1.1 C.1.2.1 dX4_edgeFrom_86 (by decide) ?_
            obtain rfl := inj1 h
            exact kJ23 _ _ _ hW (lv_sub hl [1, 2, 3, 4, 6] rfl)
        · replace h := ite_t hc16 h
          refine lv_goto (tgt := 98) C.1.1 C.1.2.1 dX4_edgeFrom_55 (by decide) ?_
          obtain ⟨rfl, rfl⟩ := inj2 h
          exact kJ13 _ _ _ hW (lv_sub hl [0, 1, 2, 3, 4, 5] rfl)
def f_X4_edgeFrom : Nat → Int32 → Int32 → MI → ML → Option (Int32 × MI)
  | 0 => fun _ _ _ _ => none
  | n9 + 1 => fun a2 a3 I L => (if a2 < a3 then bd1 ((if (a2 - a2 / (2 : Int32) * (2 : Int32)) = 0 then some (1 : Int32) else some (0 : Int32))) (fun y2 => bd1 ((if y2 = 0 then some (1000000 : Int32) else some (-1000000 : Int32))) (fun y5 => bd2 (lp (fun s => b_X4_edgeFrom_39 (f_X4_edgeFrom n9) a2 a3 y2 L s.1 s.2.1 s.2.2) FU ((y5, (0 : Int32), I))) (fun y27 I28 => some (y27, I28)))) else bd1 (f_X4_edgeAt a2 I L) (fun r31 => some (r31, I)))
set_option maxHeartbeats 4000000 in
set_option maxRecDepth 100000 in
theorem cr_X4_edgeFrom (g : Gp) (l : Launch) : ∀ (n9 : Nat), ∀ (a2 : Int32) (a3 : Int32), ∀ (I : MI) (L : ML) (r : Int32) (I' : MI), f_X4_edgeFrom n9 a2 a3 I L = some (r, I') → MetI g l yX4_edgeFrom cX4_edgeFrom 7 .int (n9 + 4) [.ref (g.1 + 220), .int a2, .int a3] I L r I' L := by
  intro n9
  induction n9 with
  | zero => intro a2 a3 I L r I' h; cases h
  | succ n9 IH =>
      intro a2 a3 I L r I' h
      unfold f_X4_edgeFrom at h
      refine w_enter (by decide) (Nat.le_of_ble_eq_true rfl) (own := RX4) rfl ?_
      intro p e s m below meth c args Q hQ C hr hlocks hW ls hl
      have hl : lv_has ls 7 [(0, .ref (g.1 + 220)), (1, .int a2), (2, .int a3)] := hl
      refine lv_iload_n C.1.1 C.1.2.1 dX4_edgeFrom_0 rfl (lv_at hl 1 rfl) ?_
      refine lv_iload_n C.1.1 C.1.2.1 dX4_edgeFrom_1 rfl (lv_at hl 2 rfl) ?_
      refine lv_icmp_lt (tgt := 11) C.1.1 C.1.2.1 dX4_edgeFrom_2 (by decide) (fun hc1 => ?_) (fun hc1 => ?_)
      · replace h := ite_t hc1 h
        refine lv_iload_n C.1.1 C.1.2.1 dX4_edgeFrom_11 rfl (lv_at hl 1 rfl) ?_
        refine lv_iconst (v := 2) C.1.1 C.1.2.1 dX4_edgeFrom_12 (by decide) ?_
        refine lv_irem C.1.1 C.1.2.1 dX4_edgeFrom_13 (by decide) ?_
        obtain ⟨y2, hj4, h⟩ := bd1_some h
        have kJ3 : ∀ (H : Heap) (locs : List Loc) (ls : Array Slot), Ws g s I L H locs → lv_has ls 7 [(0, .ref (g.1 + 220)), (1, .int a2), (2, .int a3)] → W p l e (rmD (n9 + 1 + 4)) s m args below meth c H locs 0 0 Q (F0 m 22 ls [.int y2]) := by
          intro H locs ls hW hl
          refine lv_istore_n (lv' := [(3, .int y2), (0, .ref (g.1 + 220)), (1, .int a2), (2, .int a3)]) C.1.1 C.1.2.1 dX4_edgeFrom_22 rfl hl (by decide) rfl (fun ls hl => ?_)
          refine lv_iload_n C.1.1 C.1.2.1 dX4_edgeFrom_23 rfl (lv_at hl 0 rfl) ?_
          obtain ⟨y5, hj7, h⟩ := bd1_some h
          have kJ6 : ∀ (H : Heap) (locs : List Loc) (ls : Array Slot), Ws g s I L H locs → lv_has ls 7 [(0, .ref (g.1 + 220)), (1, .int a2), (2, .int a3), (3, .int y2)] → W p l e (rmD (n9 + 1 + 4)) s m args below meth c H locs 0 0 Q (F0 m 34 ls [.int y5]) := by
            intro H locs ls hW hl
            refine lv_istore (lv' := [(4, .int y5), (0, .ref (g.1 + 220)), (1, .int a2), (2, .int a3), (3, .int y2)]) C.1.1 C.1.2.1 dX4_edgeFrom_34 hl (by decide) rfl (fun ls hl => ?_)
            refine lv_iconst (v := 0) C.1.1 C.1.2.1 dX4_edgeFrom_36 (by decide) ?_
            refine lv_istore (lv' := [(5, .int (0 : Int32)), (4, .int y5), (0, .ref (g.1 + 220)), (1, .int a2), (2, .int a3), (3, .int y2)]) C.1.1 C.1.2.1 dX4_edgeFrom_37 hl (by decide) rfl (fun ls hl => ?_)
            obtain ⟨y27, I28, hq26, h⟩ := bd2_some h
            refine l_X4_edgeFrom_39 IH C a2 a3 y2  L _ _ _ _ _ _ hq26 _ _ _ hW (lv_sub hl [2, 3, 4, 5, 1, 0] rfl) (fun H locs ls hW hl => ?_)
            refine lv_iload C.1.1 C.1.2.1 dX4_edgeFrom_104 (lv_at hl 0 rfl) ?_
            obtain ⟨rfl, rfl⟩ := inj2 h
            subst hQ
            exact w_iret C hW hr hlocks dX4_edgeFrom_106
          clear h
          have h := hj7
          clear hj7
          refine lv_if_eq (tgt := 32) C.1.1 C.1.2.1 dX4_edgeFrom_24 (by decide) (fun hc29 => ?_) (fun hc29 => ?_)
          · replace h := ite_t hc29 h
            refine lv_ldc C.1.1 C.1.2.1 C.1.2.2.2.1 (C.1.2.2.2.2 _ kc_X4_44) dX4_edgeFrom_32 ?_
            obtain rfl := inj1 h
            exact kJ6 _ _ _ hW (lv_sub hl [1, 2, 3, 0] rfl)
          · replace h := ite_f hc29 h
            refine lv_ldc C.1.1 C.1.2.1 C.1.2.2.2.1 (C.1.2.2.2.2 _ kc_X4_43) dX4_edgeFrom_27 ?_
            refine lv_goto (tgt := 34) C.1.1 C.1.2.1 dX4_edgeFrom_29 (by decide) ?_
            obtain rfl := inj1 h
            exact kJ6 _ _ _ hW (lv_sub hl [1, 2, 3, 0] rfl)
        clear h
        have h := hj4
        clear hj4
        refine lv_if_ne (tgt := 21) C.1.1 C.1.2.1 dX4_edgeFrom_14 (by decide) (fun hc30 => ?_) (fun hc30 => ?_)
        · replace h := ite_f hc30 h
          refine lv_iconst (v := 0) C.1.1 C.1.2.1 dX4_edgeFrom_21 (by decide) ?_
          obtain rfl := inj1 h
          exact kJ3 _ _ _ hW (lv_sub hl [0, 1, 2] rfl)
        · replace h := ite_t hc30 h
          refine lv_iconst (v := 1) C.1.1 C.1.2.1 dX4_edgeFrom_17 (by decide) ?_
          refine lv_goto (tgt := 22) C.1.1 C.1.2.1 dX4_edgeFrom_18 (by decide) ?_
          obtain rfl := inj1 h
          exact kJ3 _ _ _ hW (lv_sub hl [0, 1, 2] rfl)
      · replace h := ite_f hc1 h
        refine lv_aload_n C.1.1 C.1.2.1 dX4_edgeFrom_5 rfl (lv_at hl 0 rfl) ?_
        refine lv_iload_n C.1.1 C.1.2.1 dX4_edgeFrom_6 rfl (lv_at hl 1 rfl) ?_
        obtain ⟨r31, hc32, h⟩ := bd1_some h
        refine w_callVi (k := 1) (As := [.int a2]) (rest := []) C hW (c_X4_edgeAt g l  hc32) (by decide) rfl (EX_4 (by decide)) K_X4_39 (by decide +kernel) ⟨by simp only [rmD]; omega, by simp only [rmD]; omega⟩ ⟨Nat.le_refl _, Nat.le_refl _⟩ rfl hl.1 rfl (Nat.le_of_ble_eq_true rfl) dX4_edgeFrom_7 (fun H locs hW => ?_)
        obtain ⟨rfl, rfl⟩ := inj2 h
        subst hQ
        exact w_iret C hW hr hlocks dX4_edgeFrom_10
theorem c_X4_edgeFrom (g : Gp) (l : Launch) (n9 : Nat) {a2 : Int32} {a3 : Int32} {I : MI} {L : ML} {r : Int32} {I' : MI} (h : f_X4_edgeFrom n9 a2 a3 I L = some (r, I')) : MetI g l yX4_edgeFrom cX4_edgeFrom 7 .int (n9 + 4) [.ref (g.1 + 220), .int a2, .int a3] I L r I' L := cr_X4_edgeFrom g l n9 a2 a3 I L r I' h
def f_X4_play (a1 : Nat) (a2 : Nat) (a4 : Int32) (I : MI) (L : ML) : Option (Int32 × MI) :=
  nm (up2 I 220 2 1) (fun I1 => gi (0 : Int32) 7 (bd1 (f_X6_takeFrom (223 + 2 * (0 : Int32).toNatClampNeg) a1 I1 L) (fun I3 => gi (0 : Int32) 7 (bd1 (f_X6_takeFrom (224 + 2 * (0 : Int32).toNatClampNeg) a2 I3 L) (fun I6 => bd2 (f_X4_edgeFrom 8 (0 : Int32) (mmin ((2 : Int32) * a4) (6 : Int32)) I6 L) (fun r8 I9 => some (r8, I9)))))))
set_option maxHeartbeats 4000000 in
set_option maxRecDepth 100000 in
theorem c_X4_play (g : Gp) (l : Launch) {a1 : Nat} {a2 : Nat} {a4 : Int32} (ha1 : kd a1 = 6) (ha2 : kd a2 = 6) {I : MI} {L : ML} {r : Int32} {I' : MI} (h : f_X4_play a1 a2 a4 I L = some (r, I')) : MetI g l yX4_play cX4_play 5 .int 13 [.ref (g.1 + 220), .ref (g.1 + a1), .ref (g.1 + a2), .ref (g.1 + 207), .int a4] I L r I' L := by
  unfold f_X4_play at h
  refine w_enter (by decide) (Nat.le_of_ble_eq_true rfl) (own := RX4) rfl ?_
  intro p e s m below meth c args Q hQ C hr hlocks hW ls hl
  have hl : lv_has ls 5 [(0, .ref (g.1 + 220)), (1, .ref (g.1 + a1)), (2, .ref (g.1 + a2)), (3, .ref (g.1 + 207)), (4, .int a4)] := hl
  refine lv_aload_n C.1.1 C.1.2.1 dX4_play_0 rfl (lv_at hl 0 rfl) ?_
  refine lv_aload_n C.1.1 C.1.2.1 dX4_play_1 rfl (lv_at hl 3 rfl) ?_
  refine P_X4_21 C hW dX4_play_2 (fun H locs hW => ?_)
  obtain ⟨I1, eI1, h⟩ := nm_some h
  rw [← eI1] at hW
  clear eI1
  refine lv_aload_n C.1.1 C.1.2.1 dX4_play_5 rfl (lv_at hl 0 rfl) ?_
  refine G_X4_13 C hW (by decide) dX4_play_6 ?_
  refine lv_iconst (v := 0) C.1.1 C.1.2.1 dX4_play_9 (by decide) ?_
  obtain ⟨hi2, h⟩ := gi_some h
  refine w_aone C hW hi2 dX4_play_10 ?_
  refine lv_aload_n C.1.1 C.1.2.1 dX4_play_11 rfl (lv_at hl 1 rfl) ?_
  obtain ⟨I3, hc4, h⟩ := bd1_some h
  refine w_callVv (k := 1) (As := [.ref (g.1 + a1)]) (rest := []) C hW (c_X6_takeFrom g l (kd_one hi2) ha1 hc4) (kd_one hi2) rfl (EX_6 (kd_one hi2)) K_X4_25 (by decide +kernel) ⟨by decide, by decide⟩ ⟨Nat.le_refl _, Nat.le_refl _⟩ rfl hl.1 rfl (Nat.le_of_ble_eq_true rfl) dX4_play_12 (fun H locs hW => ?_)
  refine lv_aload_n C.1.1 C.1.2.1 dX4_play_15 rfl (lv_at hl 0 rfl) ?_
  refine G_X4_17 C hW (by decide) dX4_play_16 ?_
  refine lv_iconst (v := 0) C.1.1 C.1.2.1 dX4_play_19 (by decide) ?_
  obtain ⟨hi5, h⟩ := gi_some h
  refine w_aoth C hW hi5 dX4_play_20 ?_
  refine lv_aload_n C.1.1 C.1.2.1 dX4_play_21 rfl (lv_at hl 2 rfl) ?_
  obtain ⟨I6, hc7, h⟩ := bd1_some h
  refine w_callVv (k := 1) (As := [.ref (g.1 + a2)]) (rest := []) C hW (c_X6_takeFrom g l (kd_oth hi5) ha2 hc7) (kd_oth hi5) rfl (EX_6 (kd_oth hi5)) K_X4_25 (by decide +kernel) ⟨by decide, by decide⟩ ⟨Nat.le_refl _, Nat.le_refl _⟩ rfl hl.1 rfl (Nat.le_of_ble_eq_true rfl) dX4_play_22 (fun H locs hW => ?_)
  refine lv_aload_n C.1.1 C.1.2.1 dX4_play_25 rfl (lv_at hl 0 rfl) ?_
  refine lv_iconst (v := 0) C.1.1 C.1.2.1 dX4_play_26 (by decide) ?_
  refine lv_iconst (v := 2) C.1.1 C.1.2.1 dX4_play_27 (by decide) ?_
  refine lv_iload C.1.1 C.1.2.1 dX4_play_28 (lv_at hl 4 rfl) ?_
  refine lv_imul C.1.1 C.1.2.1 dX4_play_30 ?_
  refine lv_bipush (v := 6) C.1.1 C.1.2.1 dX4_play_31 (by decide) ?_
  refine M_X4_29 (rest := [.int (0 : Int32), .ref (g.1 + 220)]) C hl.1 ⟨by decide, Nat.le_of_ble_eq_true rfl⟩ ⟨Nat.le_refl _, Nat.le_refl _⟩ dX4_play_33 ?_
  obtain ⟨r8, I9, hc10, h⟩ := bd2_some h
  refine w_callSi (k := 3) (As := [.ref (g.1 + 220), .int (0 : Int32), .int (mmin ((2 : Int32) * a4) (6 : Int32))]) (rest := []) C hW (c_X4_edgeFrom g l 8  hc10) K_X4_35 (by decide +kernel) ⟨by decide, by decide⟩ ⟨Nat.le_refl _, Nat.le_refl _⟩ rfl hl.1 rfl (Nat.le_of_ble_eq_true rfl) dX4_play_36 (fun H locs hW => ?_)
  obtain ⟨rfl, rfl⟩ := inj2 h
  subst hQ
  exact w_iret C hW hr hlocks dX4_play_39
def f_X5_isNothing (a0 : Nat) (I : MI) (L : ML) : Option (Int32) :=
  bd1 ((if (I a0 0) = (-1 : Int32) then some (1 : Int32) else some (0 : Int32))) (fun y1 => gd (y1 = 0 ∨ y1 = 1) (some y1))
set_option maxHeartbeats 4000000 in
set_option maxRecDepth 100000 in
theorem c_X5_isNothing (g : Gp) (l : Launch) {a0 : Nat} (ha0 : kd a0 = 5) {I : MI} {L : ML} {r : Int32} (h : f_X5_isNothing a0 I L = some r) : MetI g l yX5_isNothing cX5_isNothing 1 .boolean 0 [.ref (g.1 + a0)] I L r I L := by
  unfold f_X5_isNothing at h
  refine w_enter (by decide) (Nat.le_of_ble_eq_true rfl) (own := RX5) rfl ?_
  intro p e s m below meth c args Q hQ C hr hlocks hW ls hl
  have hl : lv_has ls 1 [(0, .ref (g.1 + a0))] := hl
  refine lv_aload_n C.1.1 C.1.2.1 dX5_isNothing_0 rfl (lv_at hl 0 rfl) ?_
  refine G_X5_11 C hW ha0 dX5_isNothing_1 ?_
  refine lv_iconst (v := -1) C.1.1 C.1.2.1 dX5_isNothing_4 (by decide) ?_
  obtain ⟨y1, hj3, h⟩ := bd1_some h
  have kJ2 : ∀ (H : Heap) (locs : List Loc) (ls : Array Slot), Ws g s I L H locs → lv_has ls 1 [] → W p l e (rmD 0) s m args below meth c H locs 0 0 Q (F0 m 13 ls [.int y1]) := by
    intro H locs ls hW hl
    obtain ⟨hb4, h⟩ := gd_some h
    obtain rfl := inj1 h
    subst hQ
    exact w_zret C hW hr hlocks hb4 dX5_isNothing_13
  clear h
  have h := hj3
  clear hj3
  refine lv_icmp_ne (tgt := 12) C.1.1 C.1.2.1 dX5_isNothing_5 (by decide) (fun hc5 => ?_) (fun hc5 => ?_)
  · replace h := ite_f hc5 h
    refine lv_iconst (v := 0) C.1.1 C.1.2.1 dX5_isNothing_12 (by decide) ?_
    obtain rfl := inj1 h
    exact kJ2 _ _ _ hW (lv_sub hl [] rfl)
  · replace h := ite_t hc5 h
    refine lv_iconst (v := 1) C.1.1 C.1.2.1 dX5_isNothing_8 (by decide) ?_
    refine lv_goto (tgt := 13) C.1.1 C.1.2.1 dX5_isNothing_9 (by decide) ?_
    obtain rfl := inj1 h
    exact kJ2 _ _ _ hW (lv_sub hl [] rfl)
def f_X5_becomeNothing (a0 : Nat) (I : MI) (L : ML) : Option (MI) :=
  nm (up2 I a0 0 (-1 : Int32)) (fun I1 => nm (up2 I1 a0 1 (0 : Int32)) (fun I2 => some I2))
set_option maxHeartbeats 4000000 in
set_option maxRecDepth 100000 in
theorem c_X5_becomeNothing (g : Gp) (l : Launch) {a0 : Nat} (ha0 : kd a0 = 5) {I : MI} {L : ML} {I' : MI} (h : f_X5_becomeNothing a0 I L = some I') : MetV g l yX5_becomeNothing cX5_becomeNothing 1 0 [.ref (g.1 + a0)] I L I' L := by
  unfold f_X5_becomeNothing at h
  refine w_enter (by decide) (Nat.le_of_ble_eq_true rfl) (own := RX5) rfl ?_
  intro p e s m below meth c args Q hQ C hr hlocks hW ls hl
  have hl : lv_has ls 1 [(0, .ref (g.1 + a0))] := hl
  refine lv_aload_n C.1.1 C.1.2.1 dX5_becomeNothing_0 rfl (lv_at hl 0 rfl) ?_
  refine lv_iconst (v := -1) C.1.1 C.1.2.1 dX5_becomeNothing_1 (by decide) ?_
  refine P_X5_11 C hW ha0 dX5_becomeNothing_2 (fun H locs hW => ?_)
  obtain ⟨I1, eI1, h⟩ := nm_some h
  rw [← eI1] at hW
  clear eI1
  refine lv_aload_n C.1.1 C.1.2.1 dX5_becomeNothing_5 rfl (lv_at hl 0 rfl) ?_
  refine lv_iconst (v := 0) C.1.1 C.1.2.1 dX5_becomeNothing_6 (by decide) ?_
  refine P_X5_19 C hW ha0 dX5_becomeNothing_7 (fun H locs hW => ?_)
  obtain ⟨I2, eI2, h⟩ := nm_some h
  rw [← eI2] at hW
  clear eI2
  obtain rfl := inj1 h
  subst hQ
  exact w_vret C hW hr hlocks dX5_becomeNothing_10
def b_X5_begin_12 (v0 : Nat) (I : MI) (z3 : Int32) (L : ML) : Option ((Int32 × ML) ⊕ ((ML))) :=
  (if (24 : Int32) ≤ z3 then some (Sum.inr L) else gi z3 24 (nm (uq2 L (v0 + 1) z3.toNatClampNeg (0 : Int64)) (fun L5 => nm (z3 + (1 : Int32)) (fun x6 => some (Sum.inl (x6, L5))))))
set_option maxHeartbeats 4000000 in
set_option maxRecDepth 100000 in
theorem l_X5_begin_12 {g : Gp} {p : Program} {l : Launch} {e : Env} {s : State} {m : MethodId} {args : Array Value} {below : List Frame} {meth : Method} {c : Code} {Q : State → Prop}  (C : Cx g p s m args c RX5 cX5_begin 4) (v0 : Nat) (hv0 : kd v0 = 5) (I : MI) : ∀ (n : Nat) (z3 : Int32) (L : ML) (Ly0 : ML), lp (fun s => b_X5_begin_12 v0 I s.1 s.2) n (z3, L) = some Ly0 → ∀ (H : Heap) (locs : List Loc) (ls : Array Slot), Ws g s I L H locs → lv_has ls 4 [(0, .ref (g.1 + v0)), (3, .int z3)] → (∀ (H : Heap) (locs : List Loc) (ls : Array Slot), Ws g s I Ly0 H locs → lv_has ls 4 [] → W p l e (rmD 0) s m args below meth c H locs 0 0 Q (F0 m 31 ls [])) → W p l e (rmD 0) s m args below meth c H locs 0 0 Q (F0 m 12 ls []) := by
  intro n
  induction n with
  | zero => intro z3 L Ly0 h; exact lp_zero h
  | succ n ih =>
      intro z3 L Ly0 h H locs ls hW hl hx0
      obtain ⟨r9, h, h9⟩ := lp_some h
      have h : b_X5_begin_12 v0 I z3 L = some r9 := h
      unfold b_X5_begin_12 at h
      refine lv_iload_n C.1.1 C.1.2.1 dX5_begin_12 rfl (lv_at hl 1 rfl) ?_
      refine lv_bipush (v := 24) C.1.1 C.1.2.1 dX5_begin_13 (by decide) ?_
      refine lv_icmp_ge (tgt := 31) C.1.1 C.1.2.1 dX5_begin_15 (by decide) (fun hc3 => ?_) (fun hc3 => ?_)
      · replace h := ite_t hc3 h
        obtain rfl := Option.some.inj h
        replace h9 := Option.some.inj h9
        obtain rfl := pnj1 h9
        exact hx0 _ _ _ hW (lv_sub hl [] rfl)
      · replace h := ite_f hc3 h
        refine lv_aload_n C.1.1 C.1.2.1 dX5_begin_18 rfl (lv_at hl 0 rfl) ?_
        refine G_X5_15 C hW hv0 dX5_begin_19 ?_
        refine lv_iload_n C.1.1 C.1.2.1 dX5_begin_22 rfl (lv_at hl 1 rfl) ?_
        refine lv_lconst (v := 0) C.1.1 C.1.2.1 dX5_begin_23 (by decide) ?_
        obtain ⟨hi4, h⟩ := gi_some h
        refine w_last C hW (n := 24) (kd_it hv0) (ln_it hv0) hi4 dX5_begin_24 (fun H locs hW => ?_)
        obtain ⟨L5, eL5, h⟩ := nm_some h
        rw [← eL5] at hW
        clear eL5
        obtain ⟨x6, ex6⟩ : ∃ y : Int32, y = z3 + (1 : Int32) := ⟨_, rfl⟩
        replace h := nm_at ex6 h
        refine lv_iinc (v := x6) (lv' := [(3, .int x6), (0, .ref (g.1 + v0))]) C.1.1 C.1.2.1 dX5_begin_25 hl (k := 1) rfl (by rw [ex6]; rfl) (by decide) rfl (fun ls hl => ?_)
        clear ex6
        refine lv_goto (tgt := 12) C.1.1 C.1.2.1 dX5_begin_28 (by decide) ?_
        obtain rfl := Option.some.inj h
        exact ih _ _ _ h9 _ _ _ hW (lv_sub hl [1, 0] rfl) hx0
def f_X5_begin (a0 : Nat) (a1 : Int32) (a2 : Int32) (I : MI) (L : ML) : Option (MI × ML) :=
  nm (up2 I a0 0 a1) (fun I1 => nm (up2 I1 a0 1 a2) (fun I2 => bd1 (lp (fun s => b_X5_begin_12 a0 I2 s.1 s.2) FU (((0 : Int32), L))) (fun L8 => some (I2, L8))))
set_option maxHeartbeats 4000000 in
set_option maxRecDepth 100000 in
theorem c_X5_begin (g : Gp) (l : Launch) {a0 : Nat} {a1 : Int32} {a2 : Int32} (ha0 : kd a0 = 5) {I : MI} {L : ML} {I' : MI} {L' : ML} (h : f_X5_begin a0 a1 a2 I L = some (I', L')) : MetV g l yX5_begin cX5_begin 4 0 [.ref (g.1 + a0), .int a1, .int a2] I L I' L' := by
  unfold f_X5_begin at h
  refine w_enter (by decide) (Nat.le_of_ble_eq_true rfl) (own := RX5) rfl ?_
  intro p e s m below meth c args Q hQ C hr hlocks hW ls hl
  have hl : lv_has ls 4 [(0, .ref (g.1 + a0)), (1, .int a1), (2, .int a2)] := hl
  refine lv_aload_n C.1.1 C.1.2.1 dX5_begin_0 rfl (lv_at hl 0 rfl) ?_
  refine lv_iload_n C.1.1 C.1.2.1 dX5_begin_1 rfl (lv_at hl 1 rfl) ?_
  refine P_X5_11 C hW ha0 dX5_begin_2 (fun H locs hW => ?_)
  obtain ⟨I1, eI1, h⟩ := nm_some h
  rw [← eI1] at hW
  clear eI1
  refine lv_aload_n C.1.1 C.1.2.1 dX5_begin_5 rfl (lv_at hl 0 rfl) ?_
  refine lv_iload_n C.1.1 C.1.2.1 dX5_begin_6 rfl (lv_at hl 2 rfl) ?_
  refine P_X5_19 C hW ha0 dX5_begin_7 (fun H locs hW => ?_)
  obtain ⟨I2, eI2, h⟩ := nm_some h
  rw [← eI2] at hW
  clear eI2
  refine lv_iconst (v := 0) C.1.1 C.1.2.1 dX5_begin_10 (by decide) ?_
  refine lv_istore_n (lv' := [(3, .int (0 : Int32)), (0, .ref (g.1 + a0)), (1, .int a1), (2, .int a2)]) C.1.1 C.1.2.1 dX5_begin_11 rfl hl (by decide) rfl (fun ls hl => ?_)
  obtain ⟨L8, hq7, h⟩ := bd1_some h
  refine l_X5_begin_12 C a0 ha0 I2 _ _ _ _ hq7 _ _ _ hW (lv_sub hl [1, 0] rfl) (fun H locs ls hW hl => ?_)
  obtain ⟨rfl, rfl⟩ := inj2 h
  subst hQ
  exact w_vret C hW hr hlocks dX5_begin_31
def b_X5_areWithin_14 (v0 : Nat) (v1 : Int32) (v2 : Int32) (v3 : Int32) (I : MI) (L : ML) (z4 : Int32) : Option ((Int32) ⊕ ((Unit) ⊕ (Unit))) :=
  (if (v1 + v2) ≤ z4 then some (Sum.inr ((Sum.inl ()))) else gi z4 24 ((if (lg_cmp (L (v0 + 1) z4.toNatClampNeg) (0 : Int64)) < 0 then some (Sum.inr ((Sum.inr ()))) else gi z4 24 ((if (lg_cmp (L (v0 + 1) z4.toNatClampNeg) v3.toInt64) ≤ 0 then nm (z4 + (1 : Int32)) (fun x9 => some (Sum.inl x9)) else some (Sum.inr ((Sum.inr ()))))))))
set_option maxHeartbeats 4000000 in
set_option maxRecDepth 100000 in
theorem l_X5_areWithin_14 {g : Gp} {p : Program} {l : Launch} {e : Env} {s : State} {m : MethodId} {args : Array Value} {below : List Frame} {meth : Method} {c : Code} {Q : State → Prop}  (C : Cx g p s m args c RX5 cX5_areWithin 5) (v0 : Nat) (v1 : Int32) (v2 : Int32) (v3 : Int32) (hv0 : kd v0 = 5) (I : MI) (L : ML) : ∀ (n : Nat) (z4 : Int32) (x : (Unit) ⊕ (Unit)), lp (fun s => b_X5_areWithin_14 v0 v1 v2 v3 I L s) n z4 = some x → ∀ (H : Heap) (locs : List Loc) (ls : Array Slot), Ws g s I L H locs → lv_has ls 5 [(0, .ref (g.1 + v0)), (1, .int v1), (2, .int v2), (3, .int v3), (4, .int z4)] → (∀ (_ : Unit), x = (Sum.inl ()) → ∀ (H : Heap) (locs : List Loc) (ls : Array Slot), Ws g s I L H locs → lv_has ls 5 [] → W p l e (rmD 1) s m args below meth c H locs 0 0 Q (F0 m 55 ls [])) → (∀ (_ : Unit), x = (Sum.inr ()) → ∀ (H : Heap) (locs : List Loc) (ls : Array Slot), Ws g s I L H locs → lv_has ls 5 [] → W p l e (rmD 1) s m args below meth c H locs 0 0 Q (F0 m 47 ls [])) → W p l e (rmD 1) s m args below meth c H locs 0 0 Q (F0 m 14 ls []) := by
  intro n
  induction n with
  | zero => intro z4 x h; exact lp_zero h
  | succ n ih =>
      intro z4 x h H locs ls hW hl hx0 hx1
      obtain ⟨r9, h, h9⟩ := lp_some h
      have h : b_X5_areWithin_14 v0 v1 v2 v3 I L z4 = some r9 := h
      unfold b_X5_areWithin_14 at h
      refine lv_iload C.1.1 C.1.2.1 dX5_areWithin_14 (lv_at hl 4 rfl) ?_
      refine lv_iload_n C.1.1 C.1.2.1 dX5_areWithin_16 rfl (lv_at hl 1 rfl) ?_
      refine lv_iload_n C.1.1 C.1.2.1 dX5_areWithin_17 rfl (lv_at hl 2 rfl) ?_
      refine lv_iadd C.1.1 C.1.2.1 dX5_areWithin_18 ?_
      refine lv_icmp_ge (tgt := 55) C.1.1 C.1.2.1 dX5_areWithin_19 (by decide) (fun hc4 => ?_) (fun hc4 => ?_)
      · replace h := ite_t hc4 h
        obtain rfl := Option.some.inj h
        exact hx0 () (Option.some.inj h9).symm _ _ _ hW (lv_sub hl [] rfl)
      · replace h := ite_f hc4 h
        refine lv_aload_n C.1.1 C.1.2.1 dX5_areWithin_22 rfl (lv_at hl 0 rfl) ?_
        refine G_X5_15 C hW hv0 dX5_areWithin_23 ?_
        refine lv_iload C.1.1 C.1.2.1 dX5_areWithin_26 (lv_at hl 4 rfl) ?_
        obtain ⟨hi5, h⟩ := gi_some h
        refine w_lald C hW (n := 24) (kd_it hv0) (ln_it hv0) hi5 dX5_areWithin_28 ?_
        refine lv_lconst (v := 0) C.1.1 C.1.2.1 dX5_areWithin_29 (by decide) ?_
        refine W.lcmp C.1.1 C.1.2.1 dX5_areWithin_30 ?_
        refine lv_if_lt (tgt := 47) C.1.1 C.1.2.1 dX5_areWithin_31 (by decide) (fun hc6 => ?_) (fun hc6 => ?_)
        · replace h := ite_t hc6 h
          obtain rfl := Option.some.inj h
          exact hx1 () (Option.some.inj h9).symm _ _ _ hW (lv_sub hl [] rfl)
        · replace h := ite_f hc6 h
          refine lv_aload_n C.1.1 C.1.2.1 dX5_areWithin_34 rfl (lv_at hl 0 rfl) ?_
          refine G_X5_15 C hW hv0 dX5_areWithin_35 ?_
          refine lv_iload C.1.1 C.1.2.1 dX5_areWithin_38 (lv_at hl 4 rfl) ?_
          obtain ⟨hi7, h⟩ := gi_some h
          refine w_lald C hW (n := 24) (kd_it hv0) (ln_it hv0) hi7 dX5_areWithin_40 ?_
          refine lv_iload_n C.1.1 C.1.2.1 dX5_areWithin_41 rfl (lv_at hl 3 rfl) ?_
          refine lv_i2l C.1.1 C.1.2.1 dX5_areWithin_42 rfl ?_
          refine W.lcmp C.1.1 C.1.2.1 dX5_areWithin_43 ?_
          refine lv_if_le (tgt := 49) C.1.1 C.1.2.1 dX5_areWithin_44 (by decide) (fun hc8 => ?_) (fun hc8 => ?_)
          · replace h := ite_t hc8 h
            obtain ⟨x9, ex9⟩ : ∃ y : Int32, y = z4 + (1 : Int32) := ⟨_, rfl⟩
            replace h := nm_at ex9 h
            refine lv_iinc (v := x9) (lv' := [(4, .int x9), (0, .ref (g.1 + v0)), (1, .int v1), (2, .int v2), (3, .int v3)]) C.1.1 C.1.2.1 dX5_areWithin_49 hl (k := 4) rfl (by rw [ex9]; rfl) (by decide) rfl (fun ls hl => ?_)
            clear ex9
            refine lv_goto (tgt := 14) C.1.1 C.1.2.1 dX5_areWithin_52 (by decide) ?_
            obtain rfl := Option.some.inj h
            exact ih _ _ h9 _ _ _ hW (lv_sub hl [1, 2, 3, 4, 0] rfl) hx0 hx1
          · replace h := ite_f hc8 h
            obtain rfl := Option.some.inj h
            exact hx1 () (Option.some.inj h9).symm _ _ _ hW (lv_sub hl [] rfl)
def f_X5_areWithin (a0 : Nat) (a1 : Int32) (a2 : Int32) (a3 : Int32) (I : MI) (L : ML) : Option (Int32) :=
  bd1 (f_X5_holds a0 a1 a2 I L) (fun r1 => (if r1 = 0 then some (0 : Int32) else bd1 (lp (fun s => b_X5_areWithin_14 a0 a1 a2 a3 I L s) FU a1) (fun x11 => Sum.elim (fun t13 => some (1 : Int32)) (fun t15 => some (0 : Int32)) x11)))
set_option maxHeartbeats 4000000 in
set_option maxRecDepth 100000 in
theorem c_X5_areWithin (g : Gp) (l : Launch) {a0 : Nat} {a1 : Int32} {a2 : Int32} {a3 : Int32} (ha0 : kd a0 = 5) {I : MI} {L : ML} {r : Int32} (h : f_X5_areWithin a0 a1 a2 a3 I L = some r) : MetI g l yX5_areWithin cX5_areWithin 5 .boolean 1 [.ref (g.1 + a0), .int a1, .int a2, .int a3] I L r I L := by
  unfold f_X5_areWithin at h
  refine w_enter (by decide) (Nat.le_of_ble_eq_true rfl) (own := RX5) rfl ?_
  intro p e s m below meth c args Q hQ C hr hlocks hW ls hl
  have hl : lv_has ls 5 [(0, .ref (g.1 + a0)), (1, .int a1), (2, .int a2), (3, .int a3)] := hl
  refine lv_aload_n C.1.1 C.1.2.1 dX5_areWithin_0 rfl (lv_at hl 0 rfl) ?_
  refine lv_iload_n C.1.1 C.1.2.1 dX5_areWithin_1 rfl (lv_at hl 1 rfl) ?_
  refine lv_iload_n C.1.1 C.1.2.1 dX5_areWithin_2 rfl (lv_at hl 2 rfl) ?_
  obtain ⟨r1, hc2, h⟩ := bd1_some h
  refine w_callVi (k := 2) (As := [.int a1, .int a2]) (rest := []) C hW (c_X5_holds g l ha0 hc2) ha0 rfl (EX_5 ha0) K_X5_22 (by decide +kernel) ⟨by decide, by decide⟩ ⟨Nat.le_refl _, Nat.le_refl _⟩ rfl hl.1 rfl (Nat.le_of_ble_eq_true rfl) dX5_areWithin_3 (fun H locs hW => ?_)
  refine lv_if_ne (tgt := 11) C.1.1 C.1.2.1 dX5_areWithin_6 (by decide) (fun hc3 => ?_) (fun hc3 => ?_)
  · replace h := ite_f hc3 h
    refine lv_iload_n C.1.1 C.1.2.1 dX5_areWithin_11 rfl (lv_at hl 1 rfl) ?_
    refine lv_istore (lv' := [(4, .int a1), (0, .ref (g.1 + a0)), (1, .int a1), (2, .int a2), (3, .int a3)]) C.1.1 C.1.2.1 dX5_areWithin_12 hl (by decide) rfl (fun ls hl => ?_)
    obtain ⟨x11, hq10, h⟩ := bd1_some h
    refine l_X5_areWithin_14 C a0 a1 a2 a3 ha0 I L _ _ _ hq10 _ _ _ hW (lv_sub hl [1, 2, 3, 4, 0] rfl) ?_ ?_
    · intro _ ex12 H locs ls hW hl
      subst ex12
      simp only [Sum.elim_inl, Sum.elim_inr] at h
      refine lv_iconst (v := 1) C.1.1 C.1.2.1 dX5_areWithin_55 (by decide) ?_
      obtain rfl := inj1 h
      subst hQ
      exact w_zret C hW hr hlocks (by decide) dX5_areWithin_56
    · intro _ ex14 H locs ls hW hl
      subst ex14
      simp only [Sum.elim_inl, Sum.elim_inr] at h
      refine lv_iconst (v := 0) C.1.1 C.1.2.1 dX5_areWithin_47 (by decide) ?_
      obtain rfl := inj1 h
      subst hQ
      exact w_zret C hW hr hlocks (by decide) dX5_areWithin_48
  · replace h := ite_t hc3 h
    refine lv_iconst (v := 0) C.1.1 C.1.2.1 dX5_areWithin_9 (by decide) ?_
    obtain rfl := inj1 h
    subst hQ
    exact w_zret C hW hr hlocks (by decide) dX5_areWithin_10
def f_X6_sitDown (a0 : Nat) (a1 : Int32) (I : MI) (L : ML) : Option (MI) :=
  nm (up2 I a0 5 (0 : Int32)) (fun I1 => nm (up2 I1 a0 6 a1) (fun I2 => nm (up2 I2 a0 7 (0 : Int32)) (fun I3 => nm (up2 I3 a0 8 (0 : Int32)) (fun I4 => nm (up2 I4 a0 9 (0 : Int32)) (fun I5 => nm (up2 I5 a0 10 (-4 : Int32)) (fun I6 => some I6))))))
set_option maxHeartbeats 4000000 in
set_option maxRecDepth 100000 in
theorem c_X6_sitDown (g : Gp) (l : Launch) {a0 : Nat} {a1 : Int32} (ha0 : kd a0 = 6) {I : MI} {L : ML} {I' : MI} (h : f_X6_sitDown a0 a1 I L = some I') : MetV g l yX6_sitDown cX6_sitDown 2 0 [.ref (g.1 + a0), .int a1] I L I' L := by
  unfold f_X6_sitDown at h
  refine w_enter (by decide) (Nat.le_of_ble_eq_true rfl) (own := RX6) rfl ?_
  intro p e s m below meth c args Q hQ C hr hlocks hW ls hl
  have hl : lv_has ls 2 [(0, .ref (g.1 + a0)), (1, .int a1)] := hl
  refine lv_aload_n C.1.1 C.1.2.1 dX6_sitDown_0 rfl (lv_at hl 0 rfl) ?_
  refine lv_iconst (v := 0) C.1.1 C.1.2.1 dX6_sitDown_1 (by decide) ?_
  refine P_X6_30 C hW ha0 dX6_sitDown_2 (fun H locs hW => ?_)
  obtain ⟨I1, eI1, h⟩ := nm_some h
  rw [← eI1] at hW
  clear eI1
  refine lv_aload_n C.1.1 C.1.2.1 dX6_sitDown_5 rfl (lv_at hl 0 rfl) ?_
  refine lv_iload_n C.1.1 C.1.2.1 dX6_sitDown_6 rfl (lv_at hl 1 rfl) ?_
  refine P_X6_33 C hW ha0 dX6_sitDown_7 (fun H locs hW => ?_)
  obtain ⟨I2, eI2, h⟩ := nm_some h
  rw [← eI2] at hW
  clear eI2
  refine lv_aload_n C.1.1 C.1.2.1 dX6_sitDown_10 rfl (lv_at hl 0 rfl) ?_
  refine lv_iconst (v := 0) C.1.1 C.1.2.1 dX6_sitDown_11 (by decide) ?_
  refine P_X6_36 C hW ha0 dX6_sitDown_12 (fun H locs hW => ?_)
  obtain ⟨I3, eI3, h⟩ := nm_some h
  rw [← eI3] at hW
  clear eI3
  refine lv_aload_n C.1.1 C.1.2.1 dX6_sitDown_15 rfl (lv_at hl 0 rfl) ?_
  refine lv_iconst (v := 0) C.1.1 C.1.2.1 dX6_sitDown_16 (by decide) ?_
  refine P_X6_39 C hW ha0 dX6_sitDown_17 (fun H locs hW => ?_)
  obtain ⟨I4, eI4, h⟩ := nm_some h
  rw [← eI4] at hW
  clear eI4
  refine lv_aload_n C.1.1 C.1.2.1 dX6_sitDown_20 rfl (lv_at hl 0 rfl) ?_
  refine lv_iconst (v := 0) C.1.1 C.1.2.1 dX6_sitDown_21 (by decide) ?_
  refine P_X6_42 C hW ha0 (by decide) dX6_sitDown_22 (fun H locs hW => ?_)
  obtain ⟨I5, eI5, h⟩ := nm_some h
  rw [← eI5] at hW
  clear eI5
  refine lv_aload_n C.1.1 C.1.2.1 dX6_sitDown_25 rfl (lv_at hl 0 rfl) ?_
  refine lv_bipush (v := -4) C.1.1 C.1.2.1 dX6_sitDown_26 (by decide) ?_
  refine P_X6_9 C hW ha0 dX6_sitDown_28 (fun H locs hW => ?_)
  obtain ⟨I6, eI6, h⟩ := nm_some h
  rw [← eI6] at hW
  clear eI6
  obtain rfl := inj1 h
  subst hQ
  exact w_vret C hW hr hlocks dX6_sitDown_31
def f_X7_put (a1 : Int32) (I : MI) (L : ML) : Option (Int32 × MI) :=
  (if (I 1 1) < (90 : Int32) then gi (I 1 1) 90 (nm (up2 I 2 ((I 1 1).toNatClampNeg) a1) (fun I3 => nm (up2 I3 1 1 ((I3 1 1) + (1 : Int32))) (fun I4 => some (((1 : Int32), I4))))) else some (((0 : Int32), I)))
set_option maxHeartbeats 4000000 in
set_option maxRecDepth 100000 in
theorem c_X7_put (g : Gp) (l : Launch) {a1 : Int32}  {I : MI} {L : ML} {r : Int32} {I' : MI} (h : f_X7_put a1 I L = some (r, I')) : MetI g l yX7_put cX7_put 2 .boolean 0 [.ref (g.1 + 1), .int a1] I L r I' L := by
  unfold f_X7_put at h
  refine w_enter (by decide) (Nat.le_of_ble_eq_true rfl) (own := RX7) rfl ?_
  intro p e s m below meth c args Q hQ C hr hlocks hW ls hl
  have hl : lv_has ls 2 [(0, .ref (g.1 + 1)), (1, .int a1)] := hl
  refine lv_aload_n C.1.1 C.1.2.1 dX7_put_0 rfl (lv_at hl 0 rfl) ?_
  refine G_X7_15 C hW (by decide) dX7_put_1 ?_
  refine lv_bipush (v := 90) C.1.1 C.1.2.1 dX7_put_4 (by decide) ?_
  refine lv_icmp_lt (tgt := 11) C.1.1 C.1.2.1 dX7_put_6 (by decide) (fun hc1 => ?_) (fun hc1 => ?_)
  · replace h := ite_t hc1 h
    refine lv_aload_n C.1.1 C.1.2.1 dX7_put_11 rfl (lv_at hl 0 rfl) ?_
    refine G_X7_9 C hW (by decide) dX7_put_12 ?_
    refine lv_aload_n C.1.1 C.1.2.1 dX7_put_15 rfl (lv_at hl 0 rfl) ?_
    refine G_X7_15 C hW (by decide) dX7_put_16 ?_
    refine lv_iload_n C.1.1 C.1.2.1 dX7_put_19 rfl (lv_at hl 1 rfl) ?_
    obtain ⟨hi2, h⟩ := gi_some h
    refine w_iast C hW (n := 90) (by decide) (by decide) hi2 dX7_put_20 (fun H locs hW => ?_)
    obtain ⟨I3, eI3, h⟩ := nm_some h
    rw [← eI3] at hW
    clear eI3
    refine lv_aload_n C.1.1 C.1.2.1 dX7_put_21 rfl (lv_at hl 0 rfl) ?_
    refine lv_dup C.1.1 C.1.2.1 dX7_put_22 rfl ?_
    refine G_X7_15 C hW (by decide) dX7_put_23 ?_
    refine lv_iconst (v := 1) C.1.1 C.1.2.1 dX7_put_26 (by decide) ?_
    refine lv_iadd C.1.1 C.1.2.1 dX7_put_27 ?_
    refine P_X7_15 C hW (by decide) dX7_put_28 (fun H locs hW => ?_)
    obtain ⟨I4, eI4, h⟩ := nm_some h
    rw [← eI4] at hW
    clear eI4
    refine lv_iconst (v := 1) C.1.1 C.1.2.1 dX7_put_31 (by decide) ?_
    obtain ⟨rfl, rfl⟩ := inj2 h
    subst hQ
    exact w_zret C hW hr hlocks (by decide) dX7_put_32
  · replace h := ite_f hc1 h
    refine lv_iconst (v := 0) C.1.1 C.1.2.1 dX7_put_9 (by decide) ?_
    obtain ⟨rfl, rfl⟩ := inj2 h
    subst hQ
    exact w_zret C hW hr hlocks (by decide) dX7_put_10
def f_X7_here  (I : MI) (L : ML) : Option (Int32) :=
  bd1 ((if (I 1 2) < 0 then some (-1 : Int32) else (if (I 1 1) ≤ (I 1 2) then some (-1 : Int32) else gi (I 1 2) 90 (some (I 2 (I 1 2).toNatClampNeg))))) (fun y1 => some y1)
set_option maxHeartbeats 4000000 in
set_option maxRecDepth 100000 in
theorem c_X7_here (g : Gp) (l : Launch)   {I : MI} {L : ML} {r : Int32} (h : f_X7_here  I L = some r) : MetI g l yX7_here cX7_here 1 .int 0 [.ref (g.1 + 1)] I L r I L := by
  unfold f_X7_here at h
  refine w_enter (by decide) (Nat.le_of_ble_eq_true rfl) (own := RX7) rfl ?_
  intro p e s m below meth c args Q hQ C hr hlocks hW ls hl
  have hl : lv_has ls 1 [(0, .ref (g.1 + 1))] := hl
  refine lv_aload_n C.1.1 C.1.2.1 dX7_here_0 rfl (lv_at hl 0 rfl) ?_
  refine G_X7_19 C hW (by decide) dX7_here_1 ?_
  obtain ⟨y1, hj3, h⟩ := bd1_some h
  have kJ2 : ∀ (H : Heap) (locs : List Loc) (ls : Array Slot), Ws g s I L H locs → lv_has ls 1 [] → W p l e (rmD 0) s m args below meth c H locs 0 0 Q (F0 m 31 ls [.int y1]) := by
    intro H locs ls hW hl
    obtain rfl := inj1 h
    subst hQ
    exact w_iret C hW hr hlocks dX7_here_31
  clear h
  have h := hj3
  clear hj3
  refine lv_if_lt (tgt := 30) C.1.1 C.1.2.1 dX7_here_4 (by decide) (fun hc4 => ?_) (fun hc4 => ?_)
  · replace h := ite_t hc4 h
    refine lv_iconst (v := -1) C.1.1 C.1.2.1 dX7_here_30 (by decide) ?_
    obtain rfl := inj1 h
    exact kJ2 _ _ _ hW (lv_sub hl [] rfl)
  · replace h := ite_f hc4 h
    refine lv_aload_n C.1.1 C.1.2.1 dX7_here_7 rfl (lv_at hl 0 rfl) ?_
    refine G_X7_19 C hW (by decide) dX7_here_8 ?_
    refine lv_aload_n C.1.1 C.1.2.1 dX7_here_11 rfl (lv_at hl 0 rfl) ?_
    refine G_X7_15 C hW (by decide) dX7_here_12 ?_
    refine lv_icmp_ge (tgt := 30) C.1.1 C.1.2.1 dX7_here_15 (by decide) (fun hc5 => ?_) (fun hc5 => ?_)
    · replace h := ite_t hc5 h
      refine lv_iconst (v := -1) C.1.1 C.1.2.1 dX7_here_30 (by decide) ?_
      obtain rfl := inj1 h
      exact kJ2 _ _ _ hW (lv_sub hl [] rfl)
    · replace h := ite_f hc5 h
      refine lv_aload_n C.1.1 C.1.2.1 dX7_here_18 rfl (lv_at hl 0 rfl) ?_
      refine G_X7_9 C hW (by decide) dX7_here_19 ?_
      refine lv_aload_n C.1.1 C.1.2.1 dX7_here_22 rfl (lv_at hl 0 rfl) ?_
      refine G_X7_19 C hW (by decide) dX7_here_23 ?_
      obtain ⟨hi6, h⟩ := gi_some h
      refine w_iald C hW (n := 90) (by decide) (by decide) hi6 dX7_here_26 ?_
      refine lv_goto (tgt := 31) C.1.1 C.1.2.1 dX7_here_27 (by decide) ?_
      obtain rfl := inj1 h
      exact kJ2 _ _ _ hW (lv_sub hl [] rfl)
def f_X7_expect (a1 : Int32) (I : MI) (L : ML) : Option (MI) :=
  (if (I 1 3) = (-1 : Int32) then bd1 (f_X7_here  I L) (fun r2 => bd1 ((if r2 = a1 then nm (up2 I 1 2 ((I 1 2) + (1 : Int32))) (fun I9 => some I9) else nm (up2 I 1 3 (I 1 2)) (fun I8 => some I8))) (fun I4 => some I4)) else some I)
set_option maxHeartbeats 4000000 in
set_option maxRecDepth 100000 in
theorem c_X7_expect (g : Gp) (l : Launch) {a1 : Int32}  {I : MI} {L : ML} {I' : MI} (h : f_X7_expect a1 I L = some I') : MetV g l yX7_expect cX7_expect 2 1 [.ref (g.1 + 1), .int a1] I L I' L := by
  unfold f_X7_expect at h
  refine w_enter (by decide) (Nat.le_of_ble_eq_true rfl) (own := RX7) rfl ?_
  intro p e s m below meth c args Q hQ C hr hlocks hW ls hl
  have hl : lv_has ls 2 [(0, .ref (g.1 + 1)), (1, .int a1)] := hl
  refine lv_aload_n C.1.1 C.1.2.1 dX7_expect_0 rfl (lv_at hl 0 rfl) ?_
  refine G_X7_22 C hW (by decide) dX7_expect_1 ?_
  refine lv_iconst (v := -1) C.1.1 C.1.2.1 dX7_expect_4 (by decide) ?_
  refine lv_icmp_eq (tgt := 9) C.1.1 C.1.2.1 dX7_expect_5 (by decide) (fun hc1 => ?_) (fun hc1 => ?_)
  · replace h := ite_t hc1 h
    refine lv_aload_n C.1.1 C.1.2.1 dX7_expect_9 rfl (lv_at hl 0 rfl) ?_
    obtain ⟨r2, hc3, h⟩ := bd1_some h
    refine w_callVi (k := 0) (As := []) (rest := []) C hW (c_X7_here g l  hc3) (by decide) rfl (EX_7 (by decide)) K_X7_77 (by decide +kernel) ⟨by decide, by decide⟩ ⟨Nat.le_refl _, Nat.le_refl _⟩ rfl hl.1 rfl (Nat.le_of_ble_eq_true rfl) dX7_expect_10 (fun H locs hW => ?_)
    refine lv_iload_n C.1.1 C.1.2.1 dX7_expect_13 rfl (lv_at hl 1 rfl) ?_
    obtain ⟨I4, hj6, h⟩ := bd1_some h
    have kJ5 : ∀ (H : Heap) (locs : List Loc) (ls : Array Slot), Ws g s I4 L H locs → lv_has ls 2 [] → W p l e (rmD 1) s m args below meth c H locs 0 0 Q (F0 m 38 ls []) := by
      intro H locs ls hW hl
      obtain rfl := inj1 h
      subst hQ
      exact w_vret C hW hr hlocks dX7_expect_38
    clear h
    have h := hj6
    clear hj6
    refine lv_icmp_ne (tgt := 30) C.1.1 C.1.2.1 dX7_expect_14 (by decide) (fun hc7 => ?_) (fun hc7 => ?_)
    · replace h := ite_f hc7 h
      refine lv_aload_n C.1.1 C.1.2.1 dX7_expect_30 rfl (lv_at hl 0 rfl) ?_
      refine lv_aload_n C.1.1 C.1.2.1 dX7_expect_31 rfl (lv_at hl 0 rfl) ?_
      refine G_X7_19 C hW (by decide) dX7_expect_32 ?_
      refine P_X7_22 C hW (by decide) dX7_expect_35 (fun H locs hW => ?_)
      obtain ⟨I8, eI8, h⟩ := nm_some h
      rw [← eI8] at hW
      clear eI8
      obtain rfl := inj1 h
      exact kJ5 _ _ _ hW (lv_sub hl [] rfl)
    · replace h := ite_t hc7 h
      refine lv_aload_n C.1.1 C.1.2.1 dX7_expect_17 rfl (lv_at hl 0 rfl) ?_
      refine lv_dup C.1.1 C.1.2.1 dX7_expect_18 rfl ?_
      refine G_X7_19 C hW (by decide) dX7_expect_19 ?_
      refine lv_iconst (v := 1) C.1.1 C.1.2.1 dX7_expect_22 (by decide) ?_
      refine lv_iadd C.1.1 C.1.2.1 dX7_expect_23 ?_
      refine P_X7_19 C hW (by decide) dX7_expect_24 (fun H locs hW => ?_)
      obtain ⟨I9, eI9, h⟩ := nm_some h
      rw [← eI9] at hW
      clear eI9
      refine lv_goto (tgt := 38) C.1.1 C.1.2.1 dX7_expect_27 (by decide) ?_
      obtain rfl := inj1 h
      exact kJ5 _ _ _ hW (lv_sub hl [] rfl)
  · replace h := ite_f hc1 h
    obtain rfl := inj1 h
    subst hQ
    exact w_vret C hW hr hlocks dX7_expect_8
def f_X7_isFigure  (I : MI) (L : ML) : Option (Int32) :=
  bd1 (f_X7_here  I L) (fun r1 => bd1 (f_X10_within r1 (48 : Int32) (57 : Int32)) (fun r3 => gd (r3 = 0 ∨ r3 = 1) (some r3)))
set_option maxHeartbeats 4000000 in
set_option maxRecDepth 100000 in
theorem c_X7_isFigure (g : Gp) (l : Launch)   {I : MI} {L : ML} {r : Int32} (h : f_X7_isFigure  I L = some r) : MetI g l yX7_isFigure cX7_isFigure 1 .boolean 1 [.ref (g.1 + 1)] I L r I L := by
  unfold f_X7_isFigure at h
  refine w_enter (by decide) (Nat.le_of_ble_eq_true rfl) (own := RX7) rfl ?_
  intro p e s m below meth c args Q hQ C hr hlocks hW ls hl
  have hl : lv_has ls 1 [(0, .ref (g.1 + 1))] := hl
  refine lv_aload_n C.1.1 C.1.2.1 dX7_isFigure_0 rfl (lv_at hl 0 rfl) ?_
  obtain ⟨r1, hc2, h⟩ := bd1_some h
  refine w_callVi (k := 0) (As := []) (rest := []) C hW (c_X7_here g l  hc2) (by decide) rfl (EX_7 (by decide)) K_X7_77 (by decide +kernel) ⟨by decide, by decide⟩ ⟨Nat.le_refl _, Nat.le_refl _⟩ rfl hl.1 rfl (Nat.le_of_ble_eq_true rfl) dX7_isFigure_1 (fun H locs hW => ?_)
  refine lv_bipush (v := 48) C.1.1 C.1.2.1 dX7_isFigure_4 (by decide) ?_
  refine lv_bipush (v := 57) C.1.1 C.1.2.1 dX7_isFigure_6 (by decide) ?_
  obtain ⟨r3, hc4, h⟩ := bd1_some h
  refine w_callNi (k := 3) (As := [.int r1, .int (48 : Int32), .int (57 : Int32)]) (rest := []) C hW (c_X10_within g l  hc4 I L) (good_U cd_X10_within) N_X7_80 ns_X10_within ni_X10 (by decide +kernel) ⟨by decide, by decide⟩ ⟨Nat.le_refl _, Nat.le_refl _⟩ rfl hl.1 rfl (Nat.le_of_ble_eq_true rfl) dX7_isFigure_8 (fun H locs hW => ?_)
  obtain ⟨hb5, h⟩ := gd_some h
  obtain rfl := inj1 h
  subst hQ
  exact w_zret C hW hr hlocks hb5 dX7_isFigure_11
def b_X7_readNumber_21 (v1 : Int32) (v2 : Int32) (v3 : Int32) (L : ML) (z4 : Int32) (z5 : Int32) (I : MI) : Option ((Int32 × Int32 × MI) ⊕ ((Int32 × MI))) :=
  (if (2 : Int32) ≤ z5 then some (Sum.inr (z4, I)) else bd1 (f_X7_isFigure  I L) (fun r4 => (if r4 = 0 then some (Sum.inr (z4, I)) else bd1 (f_X7_here  I L) (fun r7 => nm ((((10 : Int32) * z4) + r7) - (48 : Int32)) (fun x9 => nm (up2 I 1 2 ((I 1 2) + (1 : Int32))) (fun I10 => nm (z5 + (1 : Int32)) (fun x11 => some (Sum.inl (x9, x11, I10)))))))))
set_option maxHeartbeats 4000000 in
set_option maxRecDepth 100000 in
theorem l_X7_readNumber_21 {g : Gp} {p : Program} {l : Launch} {e : Env} {s : State} {m : MethodId} {args : Array Value} {below : List Frame} {meth : Method} {c : Code} {Q : State → Prop}  (C : Cx g p s m args c RX7 cX7_readNumber 6) (v1 : Int32) (v2 : Int32) (v3 : Int32)  (L : ML) : ∀ (n : Nat) (z4 : Int32) (z5 : Int32) (I : MI) (y0_4 : Int32) (Iy0 : MI), lp (fun s => b_X7_readNumber_21 v1 v2 v3 L s.1 s.2.1 s.2.2) n (z4, z5, I) = some (y0_4, Iy0) → ∀ (H : Heap) (locs : List Loc) (ls : Array Slot), Ws g s I L H locs → lv_has ls 6 [(0, .ref (g.1 + 1)), (1, .int v1), (2, .int v2), (3, .int v3), (4, .int z4), (5, .int z5)] → (∀ (H : Heap) (locs : List Loc) (ls : Array Slot), Ws g s Iy0 L H locs → lv_has ls 6 [(0, .ref (g.1 + 1)), (1, .int v1), (2, .int v2), (3, .int v3), (4, .int y0_4)] → W p l e (rmD 2) s m args below meth c H locs 0 0 Q (F0 m 65 ls [])) → W p l e (rmD 2) s m args below meth c H locs 0 0 Q (F0 m 21 ls []) := by
  intro n
  induction n with
  | zero => intro z4 z5 I y0_4 Iy0 h; exact lp_zero h
  | succ n ih =>
      intro z4 z5 I y0_4 Iy0 h H locs ls hW hl hx0
      obtain ⟨r9, h, h9⟩ := lp_some h
      have h : b_X7_readNumber_21 v1 v2 v3 L z4 z5 I = some r9 := h
      unfold b_X7_readNumber_21 at h
      refine lv_iload C.1.1 C.1.2.1 dX7_readNumber_21 (lv_at hl 5 rfl) ?_
      refine lv_iconst (v := 2) C.1.1 C.1.2.1 dX7_readNumber_23 (by decide) ?_
      refine lv_icmp_ge (tgt := 65) C.1.1 C.1.2.1 dX7_readNumber_24 (by decide) (fun hc3 => ?_) (fun hc3 => ?_)
      · replace h := ite_t hc3 h
        obtain rfl := Option.some.inj h
        replace h9 := Option.some.inj h9
        obtain ⟨rfl, rfl⟩ := pnj2 h9
        exact hx0 _ _ _ hW (lv_sub hl [0, 1, 2, 3, 4] rfl)
      · replace h := ite_f hc3 h
        refine lv_aload_n C.1.1 C.1.2.1 dX7_readNumber_27 rfl (lv_at hl 0 rfl) ?_
        obtain ⟨r4, hc5, h⟩ := bd1_some h
        refine w_callVi (k := 0) (As := []) (rest := []) C hW (c_X7_isFigure g l  hc5) (by decide) rfl (EX_7 (by decide)) K_X7_88 (by decide +kernel) ⟨by decide, by decide⟩ ⟨Nat.le_refl _, Nat.le_refl _⟩ rfl hl.1 rfl (Nat.le_of_ble_eq_true rfl) dX7_readNumber_28 (fun H locs hW => ?_)
        refine lv_if_eq (tgt := 65) C.1.1 C.1.2.1 dX7_readNumber_31 (by decide) (fun hc6 => ?_) (fun hc6 => ?_)
        · replace h := ite_t hc6 h
          obtain rfl := Option.some.inj h
          replace h9 := Option.some.inj h9
          obtain ⟨rfl, rfl⟩ := pnj2 h9
          exact hx0 _ _ _ hW (lv_sub hl [0, 1, 2, 3, 4] rfl)
        · replace h := ite_f hc6 h
          refine lv_bipush (v := 10) C.1.1 C.1.2.1 dX7_readNumber_34 (by decide) ?_
          refine lv_iload C.1.1 C.1.2.1 dX7_readNumber_36 (lv_at hl 4 rfl) ?_
          refine lv_imul C.1.1 C.1.2.1 dX7_readNumber_38 ?_
          refine lv_aload_n C.1.1 C.1.2.1 dX7_readNumber_39 rfl (lv_at hl 0 rfl) ?_
          obtain ⟨r7, hc8, h⟩ := bd1_some h
          refine w_callVi (k := 0) (As := []) (rest := [.int ((10 : Int32) * z4)]) C hW (c_X7_here g l  hc8) (by decide) rfl (EX_7 (by decide)) K_X7_77 (by decide +kernel) ⟨by decide, by decide⟩ ⟨Nat.le_refl _, Nat.le_refl _⟩ rfl hl.1 rfl (Nat.le_of_ble_eq_true rfl) dX7_readNumber_40 (fun H locs hW => ?_)
          refine lv_iadd C.1.1 C.1.2.1 dX7_readNumber_43 ?_
          refine lv_bipush (v := 48) C.1.1 C.1.2.1 dX7_readNumber_44 (by decide) ?_
          refine lv_isub C.1.1 C.1.2.1 dX7_readNumber_46 ?_
          refine lv_topi (fun x9 ex9 => ?_)
          replace h := nm_at ex9 h
          clear ex9
          refine lv_istore (lv' := [(4, .int x9), (0, .ref (g.1 + 1)), (1, .int v1), (2, .int v2), (3, .int v3), (5, .int z5)]) C.1.1 C.1.2.1 dX7_readNumber_47 hl (by decide) rfl (fun ls hl => ?_)
          refine lv_aload_n C.1.1 C.1.2.1 dX7_readNumber_49 rfl (lv_at hl 1 rfl) ?_
          refine lv_dup C.1.1 C.1.2.1 dX7_readNumber_50 rfl ?_
          refine G_X7_19 C hW (by decide) dX7_readNumber_51 ?_
          refine lv_iconst (v := 1) C.1.1 C.1.2.1 dX7_readNumber_54 (by decide) ?_
          refine lv_iadd C.1.1 C.1.2.1 dX7_readNumber_55 ?_
          refine P_X7_19 C hW (by decide) dX7_readNumber_56 (fun H locs hW => ?_)
          obtain ⟨I10, eI10, h⟩ := nm_some h
          rw [← eI10] at hW
          clear eI10
          obtain ⟨x11, ex11⟩ : ∃ y : Int32, y = z5 + (1 : Int32) := ⟨_, rfl⟩
          replace h := nm_at ex11 h
          refine lv_iinc (v := x11) (lv' := [(5, .int x11), (4, .int x9), (0, .ref (g.1 + 1)), (1, .int v1), (2, .int v2), (3, .int v3)]) C.1.1 C.1.2.1 dX7_readNumber_59 hl (k := 5) rfl (by rw [ex11]; rfl) (by decide) rfl (fun ls hl => ?_)
          clear ex11
          refine lv_goto (tgt := 21) C.1.1 C.1.2.1 dX7_readNumber_62 (by decide) ?_
          obtain rfl := Option.some.inj h
          exact ih _ _ _ _ _ h9 _ _ _ hW (lv_sub hl [2, 3, 4, 5, 1, 0] rfl) hx0
def f_X7_readNumber (a1 : Int32) (a2 : Int32) (I : MI) (L : ML) : Option (Int32 × MI) :=
  (if (I 1 3) = (-1 : Int32) then nm (I 1 2) (fun x2 => bd2 (lp (fun s => b_X7_readNumber_21 a1 a2 x2 L s.1 s.2.1 s.2.2) FU (((0 : Int32), (0 : Int32), I))) (fun y13 I14 => bd1 ((if (I14 1 2) = x2 then nm (up2 I14 1 3 x2) (fun I19 => some I19) else bd1 (f_X7_isFigure  I14 L) (fun r20 => (if r20 = 0 then bd1 (f_X10_within y13 a1 a2) (fun r24 => (if r24 = 0 then nm (up2 I14 1 3 x2) (fun I27 => some I27) else some I14)) else nm (up2 I14 1 3 x2) (fun I23 => some I23))))) (fun I15 => some (y13, I15)))) else some (((0 : Int32), I)))
set_option maxHeartbeats 4000000 in
set_option maxRecDepth 100000 in
theorem c_X7_readNumber (g : Gp) (l : Launch) {a1 : Int32} {a2 : Int32}  {I : MI} {L : ML} {r : Int32} {I' : MI} (h : f_X7_readNumber a1 a2 I L = some (r, I')) : MetI g l yX7_readNumber cX7_readNumber 6 .int 2 [.ref (g.1 + 1), .int a1, .int a2] I L r I' L := by
  unfold f_X7_readNumber at h
  refine w_enter (by decide) (Nat.le_of_ble_eq_true rfl) (own := RX7) rfl ?_
  intro p e s m below meth c args Q hQ C hr hlocks hW ls hl
  have hl : lv_has ls 6 [(0, .ref (g.1 + 1)), (1, .int a1), (2, .int a2)] := hl
  refine lv_aload_n C.1.1 C.1.2.1 dX7_readNumber_0 rfl (lv_at hl 0 rfl) ?_
  refine G_X7_22 C hW (by decide) dX7_readNumber_1 ?_
  refine lv_iconst (v := -1) C.1.1 C.1.2.1 dX7_readNumber_4 (by decide) ?_
  refine lv_icmp_eq (tgt := 10) C.1.1 C.1.2.1 dX7_readNumber_5 (by decide) (fun hc1 => ?_) (fun hc1 => ?_)
  · replace h := ite_t hc1 h
    refine lv_aload_n C.1.1 C.1.2.1 dX7_readNumber_10 rfl (lv_at hl 0 rfl) ?_
    refine G_X7_19 C hW (by decide) dX7_readNumber_11 ?_
    refine lv_topi (fun x2 ex2 => ?_)
    replace h := nm_at ex2 h
    clear ex2
    refine lv_istore_n (lv' := [(3, .int x2), (0, .ref (g.1 + 1)), (1, .int a1), (2, .int a2)]) C.1.1 C.1.2.1 dX7_readNumber_14 rfl hl (by decide) rfl (fun ls hl => ?_)
    refine lv_iconst (v := 0) C.1.1 C.1.2.1 dX7_readNumber_15 (by decide) ?_
    refine lv_istore (lv' := [(4, .int (0 : Int32)), (3, .int x2), (0, .ref (g.1 + 1)), (1, .int a1), (2, .int a2)]) C.1.1 C.1.2.1 dX7_readNumber_16 hl (by decide) rfl (fun ls hl => ?_)
    refine lv_iconst (v := 0) C.1.1 C.1.2.1 dX7_readNumber_18 (by decide) ?_
    refine lv_istore (lv' := [(5, .int (0 : Int32)), (4, .int (0 : Int32)), (3, .int x2), (0, .ref (g.1 + 1)), (1, .int a1), (2, .int a2)]) C.1.1 C.1.2.1 dX7_readNumber_19 hl (by decide) rfl (fun ls hl => ?_)
    obtain ⟨y13, I14, hq12, h⟩ := bd2_some h
    refine l_X7_readNumber_21 C a1 a2 x2  L _ _ _ _ _ _ hq12 _ _ _ hW (lv_sub hl [3, 4, 5, 2, 1, 0] rfl) (fun H locs ls hW hl => ?_)
    refine lv_aload_n C.1.1 C.1.2.1 dX7_readNumber_65 rfl (lv_at hl 0 rfl) ?_
    refine G_X7_19 C hW (by decide) dX7_readNumber_66 ?_
    refine lv_iload_n C.1.1 C.1.2.1 dX7_readNumber_69 rfl (lv_at hl 3 rfl) ?_
    obtain ⟨I15, hj17, h⟩ := bd1_some h
    have kJ16 : ∀ (H : Heap) (locs : List Loc) (ls : Array Slot), Ws g s I15 L H locs → lv_has ls 6 [(4, .int y13)] → W p l e (rmD 2) s m args below meth c H locs 0 0 Q (F0 m 95 ls []) := by
      intro H locs ls hW hl
      refine lv_iload C.1.1 C.1.2.1 dX7_readNumber_95 (lv_at hl 0 rfl) ?_
      obtain ⟨rfl, rfl⟩ := inj2 h
      subst hQ
      exact w_iret C hW hr hlocks dX7_readNumber_97
    clear h
    have h := hj17
    clear hj17
    refine lv_icmp_eq (tgt := 90) C.1.1 C.1.2.1 dX7_readNumber_70 (by decide) (fun hc18 => ?_) (fun hc18 => ?_)
    · replace h := ite_t hc18 h
      refine lv_aload_n C.1.1 C.1.2.1 dX7_readNumber_90 rfl (lv_at hl 0 rfl) ?_
      refine lv_iload_n C.1.1 C.1.2.1 dX7_readNumber_91 rfl (lv_at hl 3 rfl) ?_
      refine P_X7_22 C hW (by decide) dX7_readNumber_92 (fun H locs hW => ?_)
      obtain ⟨I19, eI19, h⟩ := nm_some h
      rw [← eI19] at hW
      clear eI19
      obtain rfl := inj1 h
      exact kJ16 _ _ _ hW (lv_sub hl [4] rfl)
    · replace h := ite_f hc18 h
      refine lv_aload_n C.1.1 C.1.2.1 dX7_readNumber_73 rfl (lv_at hl 0 rfl) ?_
      obtain ⟨r20, hc21, h⟩ := bd1_some h
      refine w_callVi (k := 0) (As := []) (rest := []) C hW (c_X7_isFigure g l  hc21) (by decide) rfl (EX_7 (by decide)) K_X7_88 (by decide +kernel) ⟨by decide, by decide⟩ ⟨Nat.le_refl _, Nat.le_refl _⟩ rfl hl.1 rfl (Nat.le_of_ble_eq_true rfl) dX7_readNumber_74 (fun H locs hW => ?_)
      refine lv_if_ne (tgt := 90) C.1.1 C.1.2.1 dX7_readNumber_77 (by decide) (fun hc22 => ?_) (fun hc22 => ?_)
      · replace h := ite_f hc22 h
        refine lv_aload_n C.1.1 C.1.2.1 dX7_readNumber_90 rfl (lv_at hl 0 rfl) ?_
        refine lv_iload_n C.1.1 C.1.2.1 dX7_readNumber_91 rfl (lv_at hl 3 rfl) ?_
        refine P_X7_22 C hW (by decide) dX7_readNumber_92 (fun H locs hW => ?_)
        obtain ⟨I23, eI23, h⟩ := nm_some h
        rw [← eI23] at hW
        clear eI23
        obtain rfl := inj1 h
        exact kJ16 _ _ _ hW (lv_sub hl [4] rfl)
      · replace h := ite_t hc22 h
        refine lv_iload C.1.1 C.1.2.1 dX7_readNumber_80 (lv_at hl 4 rfl) ?_
        refine lv_iload_n C.1.1 C.1.2.1 dX7_readNumber_82 rfl (lv_at hl 1 rfl) ?_
        refine lv_iload_n C.1.1 C.1.2.1 dX7_readNumber_83 rfl (lv_at hl 2 rfl) ?_
        obtain ⟨r24, hc25, h⟩ := bd1_some h
        refine w_callNi (k := 3) (As := [.int y13, .int a1, .int a2]) (rest := []) C hW (c_X10_within g l  hc25 I14 L) (good_U cd_X10_within) N_X7_80 ns_X10_within ni_X10 (by decide +kernel) ⟨by decide, by decide⟩ ⟨Nat.le_refl _, Nat.le_refl _⟩ rfl hl.1 rfl (Nat.le_of_ble_eq_true rfl) dX7_readNumber_84 (fun H locs hW => ?_)
        refine lv_if_ne (tgt := 95) C.1.1 C.1.2.1 dX7_readNumber_87 (by decide) (fun hc26 => ?_) (fun hc26 => ?_)
        · replace h := ite_f hc26 h
          obtain rfl := inj1 h
          exact kJ16 _ _ _ hW (lv_sub hl [4] rfl)
        · replace h := ite_t hc26 h
          refine lv_aload_n C.1.1 C.1.2.1 dX7_readNumber_90 rfl (lv_at hl 0 rfl) ?_
          refine lv_iload_n C.1.1 C.1.2.1 dX7_readNumber_91 rfl (lv_at hl 3 rfl) ?_
          refine P_X7_22 C hW (by decide) dX7_readNumber_92 (fun H locs hW => ?_)
          obtain ⟨I27, eI27, h⟩ := nm_some h
          rw [← eI27] at hW
          clear eI27
          obtain rfl := inj1 h
          exact kJ16 _ _ _ hW (lv_sub hl [4] rfl)
  · replace h := ite_f hc1 h
    refine lv_iconst (v := 0) C.1.1 C.1.2.1 dX7_readNumber_8 (by decide) ?_
    obtain ⟨rfl, rfl⟩ := inj2 h
    subst hQ
    exact w_iret C hW hr hlocks dX7_readNumber_9
def f_X9_begin (a0 : Nat) (a1 : Int32) (a2 : Int32) (I : MI) (L : ML) : Option (MI) :=
  nm (up2 I a0 1 (0 : Int32)) (fun I1 => nm (up2 I1 a0 2 a1) (fun I2 => nm (up2 I2 a0 3 a2) (fun I3 => nm (up2 I3 a0 4 (0 : Int32)) (fun I4 => nm (up2 I4 a0 5 (0 : Int32)) (fun I5 => some I5)))))
set_option maxHeartbeats 4000000 in
set_option maxRecDepth 100000 in
theorem c_X9_begin (g : Gp) (l : Launch) {a0 : Nat} {a1 : Int32} {a2 : Int32} (ha0 : kd a0 = 9) {I : MI} {L : ML} {I' : MI} (h : f_X9_begin a0 a1 a2 I L = some I') : MetV g l yX9_begin cX9_begin 3 0 [.ref (g.1 + a0), .int a1, .int a2] I L I' L := by
  unfold f_X9_begin at h
  refine w_enter (by decide) (Nat.le_of_ble_eq_true rfl) (own := RX9) rfl ?_
  intro p e s m below meth c args Q hQ C hr hlocks hW ls hl
  have hl : lv_has ls 3 [(0, .ref (g.1 + a0)), (1, .int a1), (2, .int a2)] := hl
  refine lv_aload_n C.1.1 C.1.2.1 dX9_begin_0 rfl (lv_at hl 0 rfl) ?_
  refine lv_iconst (v := 0) C.1.1 C.1.2.1 dX9_begin_1 (by decide) ?_
  refine P_X9_22 C hW ha0 dX9_begin_2 (fun H locs hW => ?_)
  obtain ⟨I1, eI1, h⟩ := nm_some h
  rw [← eI1] at hW
  clear eI1
  refine lv_aload_n C.1.1 C.1.2.1 dX9_begin_5 rfl (lv_at hl 0 rfl) ?_
  refine lv_iload_n C.1.1 C.1.2.1 dX9_begin_6 rfl (lv_at hl 1 rfl) ?_
  refine P_X9_25 C hW ha0 dX9_begin_7 (fun H locs hW => ?_)
  obtain ⟨I2, eI2, h⟩ := nm_some h
  rw [← eI2] at hW
  clear eI2
  refine lv_aload_n C.1.1 C.1.2.1 dX9_begin_10 rfl (lv_at hl 0 rfl) ?_
  refine lv_iload_n C.1.1 C.1.2.1 dX9_begin_11 rfl (lv_at hl 2 rfl) ?_
  refine P_X9_28 C hW ha0 dX9_begin_12 (fun H locs hW => ?_)
  obtain ⟨I3, eI3, h⟩ := nm_some h
  rw [← eI3] at hW
  clear eI3
  refine lv_aload_n C.1.1 C.1.2.1 dX9_begin_15 rfl (lv_at hl 0 rfl) ?_
  refine lv_iconst (v := 0) C.1.1 C.1.2.1 dX9_begin_16 (by decide) ?_
  refine P_X9_31 C hW ha0 dX9_begin_17 (fun H locs hW => ?_)
  obtain ⟨I4, eI4, h⟩ := nm_some h
  rw [← eI4] at hW
  clear eI4
  refine lv_aload_n C.1.1 C.1.2.1 dX9_begin_20 rfl (lv_at hl 0 rfl) ?_
  refine lv_iconst (v := 0) C.1.1 C.1.2.1 dX9_begin_21 (by decide) ?_
  refine P_X9_34 C hW ha0 dX9_begin_22 (fun H locs hW => ?_)
  obtain ⟨I5, eI5, h⟩ := nm_some h
  rw [← eI5] at hW
  clear eI5
  obtain rfl := inj1 h
  subst hQ
  exact w_vret C hW hr hlocks dX9_begin_25
def b_X7_readSort_12  (I : MI) (L : ML) (z1 : Int32) : Option ((Int32) ⊕ ((Unit) ⊕ (Int32))) :=
  (if (5 : Int32) ≤ z1 then some (Sum.inr ((Sum.inl ()))) else bd1 (f_X7_here  I L) (fun r3 => gi z1 5 ((if r3 = (soF z1.toNatClampNeg) then some (Sum.inr (Sum.inr z1)) else nm (z1 + (1 : Int32)) (fun x7 => some (Sum.inl x7))))))
set_option maxHeartbeats 4000000 in
set_option maxRecDepth 100000 in
theorem l_X7_readSort_12 {g : Gp} {p : Program} {l : Launch} {e : Env} {s : State} {m : MethodId} {args : Array Value} {below : List Frame} {meth : Method} {c : Code} {Q : State → Prop}  (C : Cx g p s m args c RX7 cX7_readSort 2)   (I : MI) (L : ML) : ∀ (n : Nat) (z1 : Int32) (x : (Unit) ⊕ (Int32)), lp (fun s => b_X7_readSort_12  I L s) n z1 = some x → ∀ (H : Heap) (locs : List Loc) (ls : Array Slot), Ws g s I L H locs → lv_has ls 2 [(0, .ref (g.1 + 1)), (1, .int z1)] → (∀ (_ : Unit), x = (Sum.inl ()) → ∀ (H : Heap) (locs : List Loc) (ls : Array Slot), Ws g s I L H locs → lv_has ls 2 [(0, .ref (g.1 + 1))] → W p l e (rmD 1) s m args below meth c H locs 0 0 Q (F0 m 52 ls [])) → (∀ (y1_1 : Int32), x = (Sum.inr y1_1) → ∀ (H : Heap) (locs : List Loc) (ls : Array Slot), Ws g s I L H locs → lv_has ls 2 [(0, .ref (g.1 + 1)), (1, .int y1_1)] → W p l e (rmD 1) s m args below meth c H locs 0 0 Q (F0 m 32 ls [])) → W p l e (rmD 1) s m args below meth c H locs 0 0 Q (F0 m 12 ls []) := by
  intro n
  induction n with
  | zero => intro z1 x h; exact lp_zero h
  | succ n ih =>
      intro z1 x h H locs ls hW hl hx0 hx1
      obtain ⟨r9, h, h9⟩ := lp_some h
      have h : b_X7_readSort_12  I L z1 = some r9 := h
      unfold b_X7_readSort_12 at h
      refine lv_iload_n C.1.1 C.1.2.1 dX7_readSort_12 rfl (lv_at hl 1 rfl) ?_
      refine w_gso C hW dX7_readSort_13 ?_
      refine w_solen C hW dX7_readSort_16 ?_
      refine lv_icmp_ge (tgt := 52) C.1.1 C.1.2.1 dX7_readSort_17 (by decide) (fun hc2 => ?_) (fun hc2 => ?_)
      · replace h := ite_t hc2 h
        obtain rfl := Option.some.inj h
        exact hx0 () (Option.some.inj h9).symm _ _ _ hW (lv_sub hl [0] rfl)
      · replace h := ite_f hc2 h
        refine lv_aload_n C.1.1 C.1.2.1 dX7_readSort_20 rfl (lv_at hl 0 rfl) ?_
        obtain ⟨r3, hc4, h⟩ := bd1_some h
        refine w_callVi (k := 0) (As := []) (rest := []) C hW (c_X7_here g l  hc4) (by decide) rfl (EX_7 (by decide)) K_X7_77 (by decide +kernel) ⟨by decide, by decide⟩ ⟨Nat.le_refl _, Nat.le_refl _⟩ rfl hl.1 rfl (Nat.le_of_ble_eq_true rfl) dX7_readSort_21 (fun H locs hW => ?_)
        refine w_gso C hW dX7_readSort_24 ?_
        refine lv_iload_n C.1.1 C.1.2.1 dX7_readSort_27 rfl (lv_at hl 1 rfl) ?_
        obtain ⟨hi5, h⟩ := gi_some h
        refine w_so C hW hi5 dX7_readSort_28 ?_
        refine lv_icmp_ne (tgt := 46) C.1.1 C.1.2.1 dX7_readSort_29 (by decide) (fun hc6 => ?_) (fun hc6 => ?_)
        · replace h := ite_f hc6 h
          obtain ⟨x7, ex7⟩ : ∃ y : Int32, y = z1 + (1 : Int32) := ⟨_, rfl⟩
          replace h := nm_at ex7 h
          refine lv_iinc (v := x7) (lv' := [(1, .int x7), (0, .ref (g.1 + 1))]) C.1.1 C.1.2.1 dX7_readSort_46 hl (k := 1) rfl (by rw [ex7]; rfl) (by decide) rfl (fun ls hl => ?_)
          clear ex7
          refine lv_goto (tgt := 12) C.1.1 C.1.2.1 dX7_readSort_49 (by decide) ?_
          obtain rfl := Option.some.inj h
          exact ih _ _ h9 _ _ _ hW (lv_sub hl [1, 0] rfl) hx0 hx1
        · replace h := ite_t hc6 h
          obtain rfl := Option.some.inj h
          exact hx1 _ (Option.some.inj h9).symm _ _ _ hW (lv_sub hl [0, 1] rfl)
def f_X7_readSort  (I : MI) (L : ML) : Option (Int32 × MI) :=
  (if (I 1 3) = (-1 : Int32) then bd1 (lp (fun s => b_X7_readSort_12  I L s) FU (0 : Int32)) (fun x9 => Sum.elim (fun t12 => nm (up2 I 1 3 (I 1 2)) (fun I11 => some (((0 : Int32), I11)))) (fun t16 => nm (up2 I 1 2 ((I 1 2) + (1 : Int32))) (fun I15 => some ((t16 + (1 : Int32), I15)))) x9) else some (((0 : Int32), I)))
set_option maxHeartbeats 4000000 in
set_option maxRecDepth 100000 in
theorem c_X7_readSort (g : Gp) (l : Launch)   {I : MI} {L : ML} {r : Int32} {I' : MI} (h : f_X7_readSort  I L = some (r, I')) : MetI g l yX7_readSort cX7_readSort 2 .int 1 [.ref (g.1 + 1)] I L r I' L := by
  unfold f_X7_readSort at h
  refine w_enter (by decide) (Nat.le_of_ble_eq_true rfl) (own := RX7) rfl ?_
  intro p e s m below meth c args Q hQ C hr hlocks hW ls hl
  have hl : lv_has ls 2 [(0, .ref (g.1 + 1))] := hl
  refine lv_aload_n C.1.1 C.1.2.1 dX7_readSort_0 rfl (lv_at hl 0 rfl) ?_
  refine G_X7_22 C hW (by decide) dX7_readSort_1 ?_
  refine lv_iconst (v := -1) C.1.1 C.1.2.1 dX7_readSort_4 (by decide) ?_
  refine lv_icmp_eq (tgt := 10) C.1.1 C.1.2.1 dX7_readSort_5 (by decide) (fun hc1 => ?_) (fun hc1 => ?_)
  · replace h := ite_t hc1 h
    refine lv_iconst (v := 0) C.1.1 C.1.2.1 dX7_readSort_10 (by decide) ?_
    refine lv_istore_n (lv' := [(1, .int (0 : Int32)), (0, .ref (g.1 + 1))]) C.1.1 C.1.2.1 dX7_readSort_11 rfl hl (by decide) rfl (fun ls hl => ?_)
    obtain ⟨x9, hq8, h⟩ := bd1_some h
    refine l_X7_readSort_12 C   I L _ _ _ hq8 _ _ _ hW (lv_sub hl [1, 0] rfl) ?_ ?_
    · intro _ ex10 H locs ls hW hl
      subst ex10
      simp only [Sum.elim_inl, Sum.elim_inr] at h
      refine lv_aload_n C.1.1 C.1.2.1 dX7_readSort_52 rfl (lv_at hl 0 rfl) ?_
      refine lv_aload_n C.1.1 C.1.2.1 dX7_readSort_53 rfl (lv_at hl 0 rfl) ?_
      refine G_X7_19 C hW (by decide) dX7_readSort_54 ?_
      refine P_X7_22 C hW (by decide) dX7_readSort_57 (fun H locs hW => ?_)
      obtain ⟨I11, eI11, h⟩ := nm_some h
      rw [← eI11] at hW
      clear eI11
      refine lv_iconst (v := 0) C.1.1 C.1.2.1 dX7_readSort_60 (by decide) ?_
      obtain ⟨rfl, rfl⟩ := inj2 h
      subst hQ
      exact w_iret C hW hr hlocks dX7_readSort_61
    · intro y13 ex14 H locs ls hW hl
      subst ex14
      simp only [Sum.elim_inl, Sum.elim_inr] at h
      refine lv_aload_n C.1.1 C.1.2.1 dX7_readSort_32 rfl (lv_at hl 0 rfl) ?_
      refine lv_dup C.1.1 C.1.2.1 dX7_readSort_33 rfl ?_
      refine G_X7_19 C hW (by decide) dX7_readSort_34 ?_
      refine lv_iconst (v := 1) C.1.1 C.1.2.1 dX7_readSort_37 (by decide) ?_
      refine lv_iadd C.1.1 C.1.2.1 dX7_readSort_38 ?_
      refine P_X7_19 C hW (by decide) dX7_readSort_39 (fun H locs hW => ?_)
      obtain ⟨I15, eI15, h⟩ := nm_some h
      rw [← eI15] at hW
      clear eI15
      refine lv_iload_n C.1.1 C.1.2.1 dX7_readSort_42 rfl (lv_at hl 1 rfl) ?_
      refine lv_iconst (v := 1) C.1.1 C.1.2.1 dX7_readSort_43 (by decide) ?_
      refine lv_iadd C.1.1 C.1.2.1 dX7_readSort_44 ?_
      obtain ⟨rfl, rfl⟩ := inj2 h
      subst hQ
      exact w_iret C hW hr hlocks dX7_readSort_45
  · replace h := ite_f hc1 h
    refine lv_iconst (v := 0) C.1.1 C.1.2.1 dX7_readSort_8 (by decide) ?_
    obtain ⟨rfl, rfl⟩ := inj2 h
    subst hQ
    exact w_iret C hW hr hlocks dX7_readSort_9
def f_X7_readSitter (a1 : Nat) (I : MI) (L : ML) : Option (MI) :=
  bd2 (f_X7_readSort  I L) (fun r1 I2 => bd2 (f_X7_readNumber (10 : Int32) (99 : Int32) I2 L) (fun r4 I5 => bd1 (f_X7_expect (44 : Int32) I5 L) (fun I7 => bd2 (f_X7_readNumber (0 : Int32) (9 : Int32) I7 L) (fun r9 I10 => bd1 (f_X7_expect (44 : Int32) I10 L) (fun I12 => bd2 (f_X7_readNumber (0 : Int32) (9 : Int32) I12 L) (fun r14 I15 => bd1 (f_X7_expect (44 : Int32) I15 L) (fun I17 => bd2 (f_X7_readNumber (0 : Int32) (9 : Int32) I17 L) (fun r19 I20 => bd1 (f_X7_expect (59 : Int32) I20 L) (fun I22 => (if (I22 1 3) = (-1 : Int32) then (if (I22 a1 1) < (6 : Int32) then gi (I22 a1 1) 6 (nm (up2 I22 (a1 + 2 + (I22 a1 1).toNatClampNeg) 0 r1) (fun I27 => nm (up2 I27 (a1 + 2 + (I22 a1 1).toNatClampNeg) 1 r4) (fun I28 => nm (up2 I28 (a1 + 2 + (I22 a1 1).toNatClampNeg) 2 r9) (fun I29 => nm (up2 I29 (a1 + 2 + (I22 a1 1).toNatClampNeg) 3 r14) (fun I30 => nm (up2 I30 (a1 + 2 + (I22 a1 1).toNatClampNeg) 4 r19) (fun I31 => bd1 (f_X6_sitDown (a1 + 2 + (I22 a1 1).toNatClampNeg) (I31 a1 3) I31 L) (fun I32 => nm (up2 I32 a1 1 ((I32 a1 1) + (1 : Int32))) (fun I34 => some I34)))))))) else some I22) else some I22))))))))))
set_option maxHeartbeats 4000000 in
set_option maxRecDepth 100000 in
theorem c_X7_readSitter (g : Gp) (l : Launch) {a1 : Nat} (ha1 : kd a1 = 9) {I : MI} {L : ML} {I' : MI} (h : f_X7_readSitter a1 I L = some I') : MetV g l yX7_readSitter cX7_readSitter 8 3 [.ref (g.1 + 1), .ref (g.1 + a1)] I L I' L := by
  unfold f_X7_readSitter at h
  refine w_enter (by decide) (Nat.le_of_ble_eq_true rfl) (own := RX7) rfl ?_
  intro p e s m below meth c args Q hQ C hr hlocks hW ls hl
  have hl : lv_has ls 8 [(0, .ref (g.1 + 1)), (1, .ref (g.1 + a1))] := hl
  refine lv_aload_n C.1.1 C.1.2.1 dX7_readSitter_0 rfl (lv_at hl 0 rfl) ?_
  obtain ⟨r1, I2, hc3, h⟩ := bd2_some h
  refine w_callVi (k := 0) (As := []) (rest := []) C hW (c_X7_readSort g l  hc3) (by decide) rfl (EX_7 (by decide)) K_X7_43 (by decide +kernel) ⟨by decide, by decide⟩ ⟨Nat.le_refl _, Nat.le_refl _⟩ rfl hl.1 rfl (Nat.le_of_ble_eq_true rfl) dX7_readSitter_1 (fun H locs hW => ?_)
  refine lv_istore_n (lv' := [(2, .int r1), (0, .ref (g.1 + 1)), (1, .ref (g.1 + a1))]) C.1.1 C.1.2.1 dX7_readSitter_4 rfl hl (by decide) rfl (fun ls hl => ?_)
  refine lv_aload_n C.1.1 C.1.2.1 dX7_readSitter_5 rfl (lv_at hl 1 rfl) ?_
  refine lv_bipush (v := 10) C.1.1 C.1.2.1 dX7_readSitter_6 (by decide) ?_
  refine lv_bipush (v := 99) C.1.1 C.1.2.1 dX7_readSitter_8 (by decide) ?_
  obtain ⟨r4, I5, hc6, h⟩ := bd2_some h
  refine w_callVi (k := 2) (As := [.int (10 : Int32), .int (99 : Int32)]) (rest := []) C hW (c_X7_readNumber g l  hc6) (by decide) rfl (EX_7 (by decide)) K_X7_29 (by decide +kernel) ⟨by decide, by decide⟩ ⟨Nat.le_refl _, Nat.le_refl _⟩ rfl hl.1 rfl (Nat.le_of_ble_eq_true rfl) dX7_readSitter_10 (fun H locs hW => ?_)
  refine lv_istore_n (lv' := [(3, .int r4), (2, .int r1), (0, .ref (g.1 + 1)), (1, .ref (g.1 + a1))]) C.1.1 C.1.2.1 dX7_readSitter_13 rfl hl (by decide) rfl (fun ls hl => ?_)
  refine lv_aload_n C.1.1 C.1.2.1 dX7_readSitter_14 rfl (lv_at hl 2 rfl) ?_
  refine lv_bipush (v := 44) C.1.1 C.1.2.1 dX7_readSitter_15 (by decide) ?_
  obtain ⟨I7, hc8, h⟩ := bd1_some h
  refine w_callVv (k := 1) (As := [.int (44 : Int32)]) (rest := []) C hW (c_X7_expect g l  hc8) (by decide) rfl (EX_7 (by decide)) K_X7_25 (by decide +kernel) ⟨by decide, by decide⟩ ⟨Nat.le_refl _, Nat.le_refl _⟩ rfl hl.1 rfl (Nat.le_of_ble_eq_true rfl) dX7_readSitter_17 (fun H locs hW => ?_)
  refine lv_aload_n C.1.1 C.1.2.1 dX7_readSitter_20 rfl (lv_at hl 2 rfl) ?_
  refine lv_iconst (v := 0) C.1.1 C.1.2.1 dX7_readSitter_21 (by decide) ?_
  refine lv_bipush (v := 9) C.1.1 C.1.2.1 dX7_readSitter_22 (by decide) ?_
  obtain ⟨r9, I10, hc11, h⟩ := bd2_some h
  refine w_callVi (k := 2) (As := [.int (0 : Int32), .int (9 : Int32)]) (rest := []) C hW (c_X7_readNumber g l  hc11) (by decide) rfl (EX_7 (by decide)) K_X7_29 (by decide +kernel) ⟨by decide, by decide⟩ ⟨Nat.le_refl _, Nat.le_refl _⟩ rfl hl.1 rfl (Nat.le_of_ble_eq_true rfl) dX7_readSitter_24 (fun H locs hW => ?_)
  refine lv_istore (lv' := [(4, .int r9), (3, .int r4), (2, .int r1), (0, .ref (g.1 + 1)), (1, .ref (g.1 + a1))]) C.1.1 C.1.2.1 dX7_readSitter_27 hl (by decide) rfl (fun ls hl => ?_)
  refine lv_aload_n C.1.1 C.1.2.1 dX7_readSitter_29 rfl (lv_at hl 3 rfl) ?_
  refine lv_bipush (v := 44) C.1.1 C.1.2.1 dX7_readSitter_30 (by decide) ?_
  obtain ⟨I12, hc13, h⟩ := bd1_some h
  refine w_callVv (k := 1) (As := [.int (44 : Int32)]) (rest := []) C hW (c_X7_expect g l  hc13) (by decide) rfl (EX_7 (by decide)) K_X7_25 (by decide +kernel) ⟨by decide, by decide⟩ ⟨Nat.le_refl _, Nat.le_refl _⟩ rfl hl.1 rfl (Nat.le_of_ble_eq_true rfl) dX7_readSitter_32 (fun H locs hW => ?_)
  refine lv_aload_n C.1.1 C.1.2.1 dX7_readSitter_35 rfl (lv_at hl 3 rfl) ?_
  refine lv_iconst (v := 0) C.1.1 C.1.2.1 dX7_readSitter_36 (by decide) ?_
  refine lv_bipush (v := 9) C.1.1 C.1.2.1 dX7_readSitter_37 (by decide) ?_
  obtain ⟨r14, I15, hc16, h⟩ := bd2_some h
  refine w_callVi (k := 2) (As := [.int (0 : Int32), .int (9 : Int32)]) (rest := []) C hW (c_X7_readNumber g l  hc16) (by decide) rfl (EX_7 (by decide)) K_X7_29 (by decide +kernel) ⟨by decide, by decide⟩ ⟨Nat.le_refl _, Nat.le_refl _⟩ rfl hl.1 rfl (Nat.le_of_ble_eq_true rfl) dX7_readSitter_39 (fun H locs hW => ?_)
  refine lv_istore (lv' := [(5, .int r14), (4, .int r9), (3, .int r4), (2, .int r1), (0, .ref (g.1 + 1)), (1, .ref (g.1 + a1))]) C.1.1 C.1.2.1 dX7_readSitter_42 hl (by decide) rfl (fun ls hl => ?_)
  refine lv_aload_n C.1.1 C.1.2.1 dX7_readSitter_44 rfl (lv_at hl 4 rfl) ?_
  refine lv_bipush (v := 44) C.1.1 C.1.2.1 dX7_readSitter_45 (by decide) ?_
  obtain ⟨I17, hc18, h⟩ := bd1_some h
  refine w_callVv (k := 1) (As := [.int (44 : Int32)]) (rest := []) C hW (c_X7_expect g l  hc18) (by decide) rfl (EX_7 (by decide)) K_X7_25 (by decide +kernel) ⟨by decide, by decide⟩ ⟨Nat.le_refl _, Nat.le_refl _⟩ rfl hl.1 rfl (Nat.le_of_ble_eq_true rfl) dX7_readSitter_47 (fun H locs hW => ?_)
  refine lv_aload_n C.1.1 C.1.2.1 dX7_readSitter_50 rfl (lv_at hl 4 rfl) ?_
  refine lv_iconst (v := 0) C.1.1 C.1.2.1 dX7_readSitter_51 (by decide) ?_
  refine lv_bipush (v := 9) C.1.1 C.1.2.1 dX7_readSitter_52 (by decide) ?_
  obtain ⟨r19, I20, hc21, h⟩ := bd2_some h
  refine w_callVi (k := 2) (As := [.int (0 : Int32), .int (9 : Int32)]) (rest := []) C hW (c_X7_readNumber g l  hc21) (by decide) rfl (EX_7 (by decide)) K_X7_29 (by decide +kernel) ⟨by decide, by decide⟩ ⟨Nat.le_refl _, Nat.le_refl _⟩ rfl hl.1 rfl (Nat.le_of_ble_eq_true rfl) dX7_readSitter_54 (fun H locs hW => ?_)
  refine lv_istore (lv' := [(6, .int r19), (5, .int r14), (4, .int r9), (3, .int r4), (2, .int r1), (0, .ref (g.1 + 1)), (1, .ref (g.1 + a1))]) C.1.1 C.1.2.1 dX7_readSitter_57 hl (by decide) rfl (fun ls hl => ?_)
  refine lv_aload_n C.1.1 C.1.2.1 dX7_readSitter_59 rfl (lv_at hl 5 rfl) ?_
  refine lv_bipush (v := 59) C.1.1 C.1.2.1 dX7_readSitter_60 (by decide) ?_
  obtain ⟨I22, hc23, h⟩ := bd1_some h
  refine w_callVv (k := 1) (As := [.int (59 : Int32)]) (rest := []) C hW (c_X7_expect g l  hc23) (by decide) rfl (EX_7 (by decide)) K_X7_25 (by decide +kernel) ⟨by decide, by decide⟩ ⟨Nat.le_refl _, Nat.le_refl _⟩ rfl hl.1 rfl (Nat.le_of_ble_eq_true rfl) dX7_readSitter_62 (fun H locs hW => ?_)
  refine lv_aload_n C.1.1 C.1.2.1 dX7_readSitter_65 rfl (lv_at hl 5 rfl) ?_
  refine G_X7_22 C hW (by decide) dX7_readSitter_66 ?_
  refine lv_iconst (v := -1) C.1.1 C.1.2.1 dX7_readSitter_69 (by decide) ?_
  refine lv_icmp_ne (tgt := 82) C.1.1 C.1.2.1 dX7_readSitter_70 (by decide) (fun hc24 => ?_) (fun hc24 => ?_)
  · replace h := ite_f hc24 h
    obtain rfl := inj1 h
    subst hQ
    exact w_vret C hW hr hlocks dX7_readSitter_82
  · replace h := ite_t hc24 h
    refine lv_aload_n C.1.1 C.1.2.1 dX7_readSitter_73 rfl (lv_at hl 6 rfl) ?_
    refine G_X7_47 C hW ha1 dX7_readSitter_74 ?_
    refine lv_bipush (v := 6) C.1.1 C.1.2.1 dX7_readSitter_77 (by decide) ?_
    refine lv_icmp_lt (tgt := 83) C.1.1 C.1.2.1 dX7_readSitter_79 (by decide) (fun hc25 => ?_) (fun hc25 => ?_)
    · replace h := ite_t hc25 h
      refine lv_aload_n C.1.1 C.1.2.1 dX7_readSitter_83 rfl (lv_at hl 6 rfl) ?_
      refine G_X7_50 C hW ha1 dX7_readSitter_84 ?_
      refine lv_aload_n C.1.1 C.1.2.1 dX7_readSitter_87 rfl (lv_at hl 6 rfl) ?_
      refine G_X7_47 C hW ha1 dX7_readSitter_88 ?_
      obtain ⟨hi26, h⟩ := gi_some h
      refine w_asit C hW (w := a1) ha1 hi26 dX7_readSitter_91 ?_
      refine lv_astore (lv' := [(7, .ref (g.1 + (a1 + 2 + (I22 a1 1).toNatClampNeg))), (6, .int r19), (5, .int r14), (4, .int r9), (3, .int r4), (2, .int r1), (0, .ref (g.1 + 1)), (1, .ref (g.1 + a1))]) C.1.1 C.1.2.1 dX7_readSitter_92 hl (by decide) rfl (fun ls hl => ?_)
      refine lv_aload C.1.1 C.1.2.1 dX7_readSitter_94 (lv_at hl 0 rfl) ?_
      refine lv_iload_n C.1.1 C.1.2.1 dX7_readSitter_96 rfl (lv_at hl 5 rfl) ?_
      refine P_X7_54 C hW (kd_sit ha1 hi26) dX7_readSitter_97 (fun H locs hW => ?_)
      obtain ⟨I27, eI27, h⟩ := nm_some h
      rw [← eI27] at hW
      clear eI27
      refine lv_aload C.1.1 C.1.2.1 dX7_readSitter_100 (lv_at hl 0 rfl) ?_
      refine lv_iload_n C.1.1 C.1.2.1 dX7_readSitter_102 rfl (lv_at hl 4 rfl) ?_
      refine P_X7_59 C hW (kd_sit ha1 hi26) dX7_readSitter_103 (fun H locs hW => ?_)
      obtain ⟨I28, eI28, h⟩ := nm_some h
      rw [← eI28] at hW
      clear eI28
      refine lv_aload C.1.1 C.1.2.1 dX7_readSitter_106 (lv_at hl 0 rfl) ?_
      refine lv_iload C.1.1 C.1.2.1 dX7_readSitter_108 (lv_at hl 3 rfl) ?_
      refine P_X7_62 C hW (kd_sit ha1 hi26) dX7_readSitter_110 (fun H locs hW => ?_)
      obtain ⟨I29, eI29, h⟩ := nm_some h
      rw [← eI29] at hW
      clear eI29
      refine lv_aload C.1.1 C.1.2.1 dX7_readSitter_113 (lv_at hl 0 rfl) ?_
      refine lv_iload C.1.1 C.1.2.1 dX7_readSitter_115 (lv_at hl 2 rfl) ?_
      refine P_X7_65 C hW (kd_sit ha1 hi26) dX7_readSitter_117 (fun H locs hW => ?_)
      obtain ⟨I30, eI30, h⟩ := nm_some h
      rw [← eI30] at hW
      clear eI30
      refine lv_aload C.1.1 C.1.2.1 dX7_readSitter_120 (lv_at hl 0 rfl) ?_
      refine lv_iload C.1.1 C.1.2.1 dX7_readSitter_122 (lv_at hl 1 rfl) ?_
      refine P_X7_68 C hW (kd_sit ha1 hi26) dX7_readSitter_124 (fun H locs hW => ?_)
      obtain ⟨I31, eI31, h⟩ := nm_some h
      rw [← eI31] at hW
      clear eI31
      refine lv_aload C.1.1 C.1.2.1 dX7_readSitter_127 (lv_at hl 0 rfl) ?_
      refine lv_aload_n C.1.1 C.1.2.1 dX7_readSitter_129 rfl (lv_at hl 7 rfl) ?_
      refine G_X7_71 C hW ha1 dX7_readSitter_130 ?_
      obtain ⟨I32, hc33, h⟩ := bd1_some h
      refine w_callVv (k := 1) (As := [.int (I31 a1 3)]) (rest := []) C hW (c_X6_sitDown g l (kd_sit ha1 hi26) hc33) (kd_sit ha1 hi26) rfl (EX_6 (kd_sit ha1 hi26)) K_X7_74 (by decide +kernel) ⟨by decide, by decide⟩ ⟨Nat.le_refl _, Nat.le_refl _⟩ rfl hl.1 rfl (Nat.le_of_ble_eq_true rfl) dX7_readSitter_133 (fun H locs hW => ?_)
      refine lv_aload_n C.1.1 C.1.2.1 dX7_readSitter_136 rfl (lv_at hl 7 rfl) ?_
      refine lv_dup C.1.1 C.1.2.1 dX7_readSitter_137 rfl ?_
      refine G_X7_47 C hW ha1 dX7_readSitter_138 ?_
      refine lv_iconst (v := 1) C.1.1 C.1.2.1 dX7_readSitter_141 (by decide) ?_
      refine lv_iadd C.1.1 C.1.2.1 dX7_readSitter_142 ?_
      refine P_X7_47 C hW ha1 dX7_readSitter_143 (fun H locs hW => ?_)
      obtain ⟨I34, eI34, h⟩ := nm_some h
      rw [← eI34] at hW
      clear eI34
      obtain rfl := inj1 h
      subst hQ
      exact w_vret C hW hr hlocks dX7_readSitter_146
    · replace h := ite_f hc25 h
      obtain rfl := inj1 h
      subst hQ
      exact w_vret C hW hr hlocks dX7_readSitter_82
def b_X7_readInto_58 (v1 : Nat) (L : ML) (z4 : Int32) (I : MI) : Option ((Int32 × MI) ⊕ ((MI))) :=
  (if (6 : Int32) ≤ z4 then some (Sum.inr I) else (if (I 1 1) ≤ (I 1 2) then some (Sum.inr I) else bd1 (f_X7_readSitter v1 I L) (fun I21 => nm (z4 + (1 : Int32)) (fun x23 => some (Sum.inl (x23, I21))))))
set_option maxHeartbeats 4000000 in
set_option maxRecDepth 100000 in
theorem l_X7_readInto_58 {g : Gp} {p : Program} {l : Launch} {e : Env} {s : State} {m : MethodId} {args : Array Value} {below : List Frame} {meth : Method} {c : Code} {Q : State → Prop}  (C : Cx g p s m args c RX7 cX7_readInto 5) (v1 : Nat) (hv1 : kd v1 = 9) (L : ML) : ∀ (n : Nat) (z4 : Int32) (I : MI) (Iy0 : MI), lp (fun s => b_X7_readInto_58 v1 L s.1 s.2) n (z4, I) = some Iy0 → ∀ (H : Heap) (locs : List Loc) (ls : Array Slot), Ws g s I L H locs → lv_has ls 5 [(0, .ref (g.1 + 1)), (1, .ref (g.1 + v1)), (4, .int z4)] → (∀ (H : Heap) (locs : List Loc) (ls : Array Slot), Ws g s Iy0 L H locs → lv_has ls 5 [(0, .ref (g.1 + 1))] → W p l e (rmD 4) s m args below meth c H locs 0 0 Q (F0 m 87 ls [])) → W p l e (rmD 4) s m args below meth c H locs 0 0 Q (F0 m 58 ls []) := by
  intro n
  induction n with
  | zero => intro z4 I Iy0 h; exact lp_zero h
  | succ n ih =>
      intro z4 I Iy0 h H locs ls hW hl hx0
      obtain ⟨r9, h, h9⟩ := lp_some h
      have h : b_X7_readInto_58 v1 L z4 I = some r9 := h
      unfold b_X7_readInto_58 at h
      refine lv_iload C.1.1 C.1.2.1 dX7_readInto_58 (lv_at hl 2 rfl) ?_
      refine lv_bipush (v := 6) C.1.1 C.1.2.1 dX7_readInto_60 (by decide) ?_
      refine lv_icmp_ge (tgt := 87) C.1.1 C.1.2.1 dX7_readInto_62 (by decide) (fun hc19 => ?_) (fun hc19 => ?_)
      · replace h := ite_t hc19 h
        obtain rfl := Option.some.inj h
        replace h9 := Option.some.inj h9
        obtain rfl := pnj1 h9
        exact hx0 _ _ _ hW (lv_sub hl [0] rfl)
      · replace h := ite_f hc19 h
        refine lv_aload_n C.1.1 C.1.2.1 dX7_readInto_65 rfl (lv_at hl 0 rfl) ?_
        refine G_X7_19 C hW (by decide) dX7_readInto_66 ?_
        refine lv_aload_n C.1.1 C.1.2.1 dX7_readInto_69 rfl (lv_at hl 0 rfl) ?_
        refine G_X7_15 C hW (by decide) dX7_readInto_70 ?_
        refine lv_icmp_ge (tgt := 87) C.1.1 C.1.2.1 dX7_readInto_73 (by decide) (fun hc20 => ?_) (fun hc20 => ?_)
        · replace h := ite_t hc20 h
          obtain rfl := Option.some.inj h
          replace h9 := Option.some.inj h9
          obtain rfl := pnj1 h9
          exact hx0 _ _ _ hW (lv_sub hl [0] rfl)
        · replace h := ite_f hc20 h
          refine lv_aload_n C.1.1 C.1.2.1 dX7_readInto_76 rfl (lv_at hl 0 rfl) ?_
          refine lv_aload_n C.1.1 C.1.2.1 dX7_readInto_77 rfl (lv_at hl 1 rfl) ?_
          obtain ⟨I21, hc22, h⟩ := bd1_some h
          refine w_callVv (k := 1) (As := [.ref (g.1 + v1)]) (rest := []) C hW (c_X7_readSitter g l hv1 hc22) (by decide) rfl (EX_7 (by decide)) K_X7_39 (by decide +kernel) ⟨by decide, by decide⟩ ⟨Nat.le_refl _, Nat.le_refl _⟩ rfl hl.1 rfl (Nat.le_of_ble_eq_true rfl) dX7_readInto_78 (fun H locs hW => ?_)
          obtain ⟨x23, ex23⟩ : ∃ y : Int32, y = z4 + (1 : Int32) := ⟨_, rfl⟩
          replace h := nm_at ex23 h
          refine lv_iinc (v := x23) (lv' := [(4, .int x23), (0, .ref (g.1 + 1)), (1, .ref (g.1 + v1))]) C.1.1 C.1.2.1 dX7_readInto_81 hl (k := 2) rfl (by rw [ex23]; rfl) (by decide) rfl (fun ls hl => ?_)
          clear ex23
          refine lv_goto (tgt := 58) C.1.1 C.1.2.1 dX7_readInto_84 (by decide) ?_
          obtain rfl := Option.some.inj h
          exact ih _ _ _ h9 _ _ _ hW (lv_sub hl [1, 2, 0] rfl) hx0
def f_X7_readInto (a1 : Nat) (I : MI) (L : ML) : Option (Int32 × MI) :=
  nm (up2 I 1 2 (0 : Int32)) (fun I1 => nm (up2 I1 1 3 (-1 : Int32)) (fun I2 => bd1 (f_X7_expect (119 : Int32) I2 L) (fun I3 => bd2 (f_X7_readNumber (1 : Int32) (24 : Int32) I3 L) (fun r5 I6 => bd1 (f_X7_expect (44 : Int32) I6 L) (fun I8 => bd2 (f_X7_readNumber (0 : Int32) (9 : Int32) I8 L) (fun r10 I11 => bd1 (f_X7_expect (59 : Int32) I11 L) (fun I13 => bd1 (f_X9_begin a1 r5 r10 I13 L) (fun I15 => bd1 (f_X7_readSitter a1 I15 L) (fun I17 => bd1 (lp (fun s => b_X7_readInto_58 a1 L s.1 s.2) FU (((1 : Int32), I17))) (fun I25 => bd1 ((if (I25 1 3) = (-1 : Int32) then (if (I25 1 1) ≤ (I25 1 2) then some I25 else nm (up2 I25 1 3 (I25 1 2)) (fun I31 => some I31)) else some I25)) (fun I26 => some (I26 1 3, I26))))))))))))
set_option maxHeartbeats 4000000 in
set_option maxRecDepth 100000 in
theorem c_X7_readInto (g : Gp) (l : Launch) {a1 : Nat} (ha1 : kd a1 = 9) {I : MI} {L : ML} {r : Int32} {I' : MI} (h : f_X7_readInto a1 I L = some (r, I')) : MetI g l yX7_readInto cX7_readInto 5 .int 4 [.ref (g.1 + 1), .ref (g.1 + a1)] I L r I' L := by
  unfold f_X7_readInto at h
  refine w_enter (by decide) (Nat.le_of_ble_eq_true rfl) (own := RX7) rfl ?_
  intro p e s m below meth c args Q hQ C hr hlocks hW ls hl
  have hl : lv_has ls 5 [(0, .ref (g.1 + 1)), (1, .ref (g.1 + a1))] := hl
  refine lv_aload_n C.1.1 C.1.2.1 dX7_readInto_0 rfl (lv_at hl 0 rfl) ?_
  refine lv_iconst (v := 0) C.1.1 C.1.2.1 dX7_readInto_1 (by decide) ?_
  refine P_X7_19 C hW (by decide) dX7_readInto_2 (fun H locs hW => ?_)
  obtain ⟨I1, eI1, h⟩ := nm_some h
  rw [← eI1] at hW
  clear eI1
  refine lv_aload_n C.1.1 C.1.2.1 dX7_readInto_5 rfl (lv_at hl 0 rfl) ?_
  refine lv_iconst (v := -1) C.1.1 C.1.2.1 dX7_readInto_6 (by decide) ?_
  refine P_X7_22 C hW (by decide) dX7_readInto_7 (fun H locs hW => ?_)
  obtain ⟨I2, eI2, h⟩ := nm_some h
  rw [← eI2] at hW
  clear eI2
  refine lv_aload_n C.1.1 C.1.2.1 dX7_readInto_10 rfl (lv_at hl 0 rfl) ?_
  refine lv_bipush (v := 119) C.1.1 C.1.2.1 dX7_readInto_11 (by decide) ?_
  obtain ⟨I3, hc4, h⟩ := bd1_some h
  refine w_callVv (k := 1) (As := [.int (119 : Int32)]) (rest := []) C hW (c_X7_expect g l  hc4) (by decide) rfl (EX_7 (by decide)) K_X7_25 (by decide +kernel) ⟨by decide, by decide⟩ ⟨Nat.le_refl _, Nat.le_refl _⟩ rfl hl.1 rfl (Nat.le_of_ble_eq_true rfl) dX7_readInto_13 (fun H locs hW => ?_)
  refine lv_aload_n C.1.1 C.1.2.1 dX7_readInto_16 rfl (lv_at hl 0 rfl) ?_
  refine lv_iconst (v := 1) C.1.1 C.1.2.1 dX7_readInto_17 (by decide) ?_
  refine lv_bipush (v := 24) C.1.1 C.1.2.1 dX7_readInto_18 (by decide) ?_
  obtain ⟨r5, I6, hc7, h⟩ := bd2_some h
  refine w_callVi (k := 2) (As := [.int (1 : Int32), .int (24 : Int32)]) (rest := []) C hW (c_X7_readNumber g l  hc7) (by decide) rfl (EX_7 (by decide)) K_X7_29 (by decide +kernel) ⟨by decide, by decide⟩ ⟨Nat.le_refl _, Nat.le_refl _⟩ rfl hl.1 rfl (Nat.le_of_ble_eq_true rfl) dX7_readInto_20 (fun H locs hW => ?_)
  refine lv_istore_n (lv' := [(2, .int r5), (0, .ref (g.1 + 1)), (1, .ref (g.1 + a1))]) C.1.1 C.1.2.1 dX7_readInto_23 rfl hl (by decide) rfl (fun ls hl => ?_)
  refine lv_aload_n C.1.1 C.1.2.1 dX7_readInto_24 rfl (lv_at hl 1 rfl) ?_
  refine lv_bipush (v := 44) C.1.1 C.1.2.1 dX7_readInto_25 (by decide) ?_
  obtain ⟨I8, hc9, h⟩ := bd1_some h
  refine w_callVv (k := 1) (As := [.int (44 : Int32)]) (rest := []) C hW (c_X7_expect g l  hc9) (by decide) rfl (EX_7 (by decide)) K_X7_25 (by decide +kernel) ⟨by decide, by decide⟩ ⟨Nat.le_refl _, Nat.le_refl _⟩ rfl hl.1 rfl (Nat.le_of_ble_eq_true rfl) dX7_readInto_27 (fun H locs hW => ?_)
  refine lv_aload_n C.1.1 C.1.2.1 dX7_readInto_30 rfl (lv_at hl 1 rfl) ?_
  refine lv_iconst (v := 0) C.1.1 C.1.2.1 dX7_readInto_31 (by decide) ?_
  refine lv_bipush (v := 9) C.1.1 C.1.2.1 dX7_readInto_32 (by decide) ?_
  obtain ⟨r10, I11, hc12, h⟩ := bd2_some h
  refine w_callVi (k := 2) (As := [.int (0 : Int32), .int (9 : Int32)]) (rest := []) C hW (c_X7_readNumber g l  hc12) (by decide) rfl (EX_7 (by decide)) K_X7_29 (by decide +kernel) ⟨by decide, by decide⟩ ⟨Nat.le_refl _, Nat.le_refl _⟩ rfl hl.1 rfl (Nat.le_of_ble_eq_true rfl) dX7_readInto_34 (fun H locs hW => ?_)
  refine lv_istore_n (lv' := [(3, .int r10), (2, .int r5), (0, .ref (g.1 + 1)), (1, .ref (g.1 + a1))]) C.1.1 C.1.2.1 dX7_readInto_37 rfl hl (by decide) rfl (fun ls hl => ?_)
  refine lv_aload_n C.1.1 C.1.2.1 dX7_readInto_38 rfl (lv_at hl 2 rfl) ?_
  refine lv_bipush (v := 59) C.1.1 C.1.2.1 dX7_readInto_39 (by decide) ?_
  obtain ⟨I13, hc14, h⟩ := bd1_some h
  refine w_callVv (k := 1) (As := [.int (59 : Int32)]) (rest := []) C hW (c_X7_expect g l  hc14) (by decide) rfl (EX_7 (by decide)) K_X7_25 (by decide +kernel) ⟨by decide, by decide⟩ ⟨Nat.le_refl _, Nat.le_refl _⟩ rfl hl.1 rfl (Nat.le_of_ble_eq_true rfl) dX7_readInto_41 (fun H locs hW => ?_)
  refine lv_aload_n C.1.1 C.1.2.1 dX7_readInto_44 rfl (lv_at hl 3 rfl) ?_
  refine lv_iload_n C.1.1 C.1.2.1 dX7_readInto_45 rfl (lv_at hl 1 rfl) ?_
  refine lv_iload_n C.1.1 C.1.2.1 dX7_readInto_46 rfl (lv_at hl 0 rfl) ?_
  obtain ⟨I15, hc16, h⟩ := bd1_some h
  refine w_callVv (k := 2) (As := [.int r5, .int r10]) (rest := []) C hW (c_X9_begin g l ha1 hc16) ha1 rfl (EX_9 ha1) K_X7_33 (by decide +kernel) ⟨by decide, by decide⟩ ⟨Nat.le_refl _, Nat.le_refl _⟩ rfl hl.1 rfl (Nat.le_of_ble_eq_true rfl) dX7_readInto_47 (fun H locs hW => ?_)
  refine lv_aload_n C.1.1 C.1.2.1 dX7_readInto_50 rfl (lv_at hl 2 rfl) ?_
  refine lv_aload_n C.1.1 C.1.2.1 dX7_readInto_51 rfl (lv_at hl 3 rfl) ?_
  obtain ⟨I17, hc18, h⟩ := bd1_some h
  refine w_callVv (k := 1) (As := [.ref (g.1 + a1)]) (rest := []) C hW (c_X7_readSitter g l ha1 hc18) (by decide) rfl (EX_7 (by decide)) K_X7_39 (by decide +kernel) ⟨by decide, by decide⟩ ⟨Nat.le_refl _, Nat.le_refl _⟩ rfl hl.1 rfl (Nat.le_of_ble_eq_true rfl) dX7_readInto_52 (fun H locs hW => ?_)
  refine lv_iconst (v := 1) C.1.1 C.1.2.1 dX7_readInto_55 (by decide) ?_
  refine lv_istore (lv' := [(4, .int (1 : Int32)), (3, .int r10), (2, .int r5), (0, .ref (g.1 + 1)), (1, .ref (g.1 + a1))]) C.1.1 C.1.2.1 dX7_readInto_56 hl (by decide) rfl (fun ls hl => ?_)
  obtain ⟨I25, hq24, h⟩ := bd1_some h
  refine l_X7_readInto_58 C a1 ha1 L _ _ _ _ hq24 _ _ _ hW (lv_sub hl [3, 4, 0] rfl) (fun H locs ls hW hl => ?_)
  refine lv_aload_n C.1.1 C.1.2.1 dX7_readInto_87 rfl (lv_at hl 0 rfl) ?_
  refine G_X7_22 C hW (by decide) dX7_readInto_88 ?_
  refine lv_iconst (v := -1) C.1.1 C.1.2.1 dX7_readInto_91 (by decide) ?_
  obtain ⟨I26, hj28, h⟩ := bd1_some h
  have kJ27 : ∀ (H : Heap) (locs : List Loc) (ls : Array Slot), Ws g s I26 L H locs → lv_has ls 5 [(0, .ref (g.1 + 1))] → W p l e (rmD 4) s m args below meth c H locs 0 0 Q (F0 m 114 ls []) := by
    intro H locs ls hW hl
    refine lv_aload_n C.1.1 C.1.2.1 dX7_readInto_114 rfl (lv_at hl 0 rfl) ?_
    refine G_X7_22 C hW (by decide) dX7_readInto_115 ?_
    obtain ⟨rfl, rfl⟩ := inj2 h
    subst hQ
    exact w_iret C hW hr hlocks dX7_readInto_118
  clear h
  have h := hj28
  clear hj28
  refine lv_icmp_ne (tgt := 114) C.1.1 C.1.2.1 dX7_readInto_92 (by decide) (fun hc29 => ?_) (fun hc29 => ?_)
  · replace h := ite_f hc29 h
    obtain rfl := inj1 h
    exact kJ27 _ _ _ hW (lv_sub hl [0] rfl)
  · replace h := ite_t hc29 h
    refine lv_aload_n C.1.1 C.1.2.1 dX7_readInto_95 rfl (lv_at hl 0 rfl) ?_
    refine G_X7_19 C hW (by decide) dX7_readInto_96 ?_
    refine lv_aload_n C.1.1 C.1.2.1 dX7_readInto_99 rfl (lv_at hl 0 rfl) ?_
    refine G_X7_15 C hW (by decide) dX7_readInto_100 ?_
    refine lv_icmp_ge (tgt := 114) C.1.1 C.1.2.1 dX7_readInto_103 (by decide) (fun hc30 => ?_) (fun hc30 => ?_)
    · replace h := ite_t hc30 h
      obtain rfl := inj1 h
      exact kJ27 _ _ _ hW (lv_sub hl [0] rfl)
    · replace h := ite_f hc30 h
      refine lv_aload_n C.1.1 C.1.2.1 dX7_readInto_106 rfl (lv_at hl 0 rfl) ?_
      refine lv_aload_n C.1.1 C.1.2.1 dX7_readInto_107 rfl (lv_at hl 0 rfl) ?_
      refine G_X7_19 C hW (by decide) dX7_readInto_108 ?_
      refine P_X7_22 C hW (by decide) dX7_readInto_111 (fun H locs hW => ?_)
      obtain ⟨I31, eI31, h⟩ := nm_some h
      rw [← eI31] at hW
      clear eI31
      obtain rfl := inj1 h
      exact kJ27 _ _ _ hW (lv_sub hl [0] rfl)
def f_X8_between (a1 : Int32) (a2 : Int32) (I : MI) (L : ML) : Option (Int32) :=
  gi a1 7 (gi a2 7 (gi a1 7 (gi a2 7 (some ((mabs ((I 238 a1.toNatClampNeg) - (I 238 a2.toNatClampNeg))) + (mabs ((I 239 a1.toNatClampNeg) - (I 239 a2.toNatClampNeg))))))))
set_option maxHeartbeats 4000000 in
set_option maxRecDepth 100000 in
theorem c_X8_between (g : Gp) (l : Launch) {a1 : Int32} {a2 : Int32}  {I : MI} {L : ML} {r : Int32} (h : f_X8_between a1 a2 I L = some r) : MetI g l yX8_between cX8_between 3 .int 1 [.ref (g.1 + 237), .int a1, .int a2] I L r I L := by
  unfold f_X8_between at h
  refine w_enter (by decide) (Nat.le_of_ble_eq_true rfl) (own := RX8) rfl ?_
  intro p e s m below meth c args Q hQ C hr hlocks hW ls hl
  have hl : lv_has ls 3 [(0, .ref (g.1 + 237)), (1, .int a1), (2, .int a2)] := hl
  refine lv_aload_n C.1.1 C.1.2.1 dX8_between_0 rfl (lv_at hl 0 rfl) ?_
  refine G_X8_9 C hW (by decide) dX8_between_1 ?_
  refine lv_iload_n C.1.1 C.1.2.1 dX8_between_4 rfl (lv_at hl 1 rfl) ?_
  obtain ⟨hi1, h⟩ := gi_some h
  refine w_iald C hW (n := 7) (by decide) (by decide) hi1 dX8_between_5 ?_
  refine lv_aload_n C.1.1 C.1.2.1 dX8_between_6 rfl (lv_at hl 0 rfl) ?_
  refine G_X8_9 C hW (by decide) dX8_between_7 ?_
  refine lv_iload_n C.1.1 C.1.2.1 dX8_between_10 rfl (lv_at hl 2 rfl) ?_
  obtain ⟨hi2, h⟩ := gi_some h
  refine w_iald C hW (n := 7) (by decide) (by decide) hi2 dX8_between_11 ?_
  refine lv_isub C.1.1 C.1.2.1 dX8_between_12 ?_
  refine M_X8_47 (rest := []) C hl.1 ⟨by decide, Nat.le_of_ble_eq_true rfl⟩ ⟨Nat.le_refl _, Nat.le_refl _⟩ dX8_between_13 ?_
  refine lv_aload_n C.1.1 C.1.2.1 dX8_between_16 rfl (lv_at hl 0 rfl) ?_
  refine G_X8_15 C hW (by decide) dX8_between_17 ?_
  refine lv_iload_n C.1.1 C.1.2.1 dX8_between_20 rfl (lv_at hl 1 rfl) ?_
  obtain ⟨hi3, h⟩ := gi_some h
  refine w_iald C hW (n := 7) (by decide) (by decide) hi3 dX8_between_21 ?_
  refine lv_aload_n C.1.1 C.1.2.1 dX8_between_22 rfl (lv_at hl 0 rfl) ?_
  refine G_X8_15 C hW (by decide) dX8_between_23 ?_
  refine lv_iload_n C.1.1 C.1.2.1 dX8_between_26 rfl (lv_at hl 2 rfl) ?_
  obtain ⟨hi4, h⟩ := gi_some h
  refine w_iald C hW (n := 7) (by decide) (by decide) hi4 dX8_between_27 ?_
  refine lv_isub C.1.1 C.1.2.1 dX8_between_28 ?_
  refine M_X8_47 (rest := [.int (mabs ((I 238 a1.toNatClampNeg) - (I 238 a2.toNatClampNeg)))]) C hl.1 ⟨by decide, Nat.le_of_ble_eq_true rfl⟩ ⟨Nat.le_refl _, Nat.le_refl _⟩ dX8_between_29 ?_
  refine lv_iadd C.1.1 C.1.2.1 dX8_between_32 ?_
  obtain rfl := inj1 h
  subst hQ
  exact w_iret C hW hr hlocks dX8_between_33
def b_X8_wayFrom_24 (F9 : Int32 → Int32 → Int32 → MI → ML → Option (Int32)) (v1 : Int32) (v2 : Int32) (v3 : Int32) (I : MI) (L : ML) (z4 : Int32) (z5 : Int32) : Option ((Int32 × Int32) ⊕ ((Int32))) :=
  (if (I 237 2) ≤ z5 then some (Sum.inr z4) else bd1 ((if ((v2 >>> (z5 &&& (31 : Int32))) &&& (1 : Int32)) = (1 : Int32) then bd1 (f_X8_between v1 z5 I L) (fun r11 => bd1 (F9 z5 (v2 &&& (((1 : Int32) <<< (z5 &&& (31 : Int32))) ^^^ (-1 : Int32))) (v3 + (1 : Int32)) I L) (fun r13 => nm (r11 + r13) (fun x15 => nm (mmin z4 x15) (fun x16 => some x16)))) else some z4)) (fun y6 => nm (z5 + (1 : Int32)) (fun x9 => some (Sum.inl (y6, x9)))))
set_option maxHeartbeats 4000000 in
set_option maxRecDepth 100000 in
theorem l_X8_wayFrom_24 {g : Gp} {p : Program} {l : Launch} {e : Env} {s : State} {m : MethodId} {args : Array Value} {below : List Frame} {meth : Method} {c : Code} {Q : State → Prop} {F9 : Int32 → Int32 → Int32 → MI → ML → Option (Int32)} {n9 : Nat} (IH : ∀ (a2 : Int32) (a3 : Int32) (a4 : Int32), ∀ (I : MI) (L : ML) (r : Int32), F9 a2 a3 a4 I L = some r → MetI g l yX8_wayFrom cX8_wayFrom 7 .int (n9 + 2) [.ref (g.1 + 237), .int a2, .int a3, .int a4] I L r I L) (C : Cx g p s m args c RX8 cX8_wayFrom 7) (v1 : Int32) (v2 : Int32) (v3 : Int32)  (I : MI) (L : ML) : ∀ (n : Nat) (z4 : Int32) (z5 : Int32) (y0_4 : Int32), lp (fun s => b_X8_wayFrom_24 F9 v1 v2 v3 I L s.1 s.2) n (z4, z5) = some y0_4 → ∀ (H : Heap) (locs : List Loc) (ls : Array Slot), Ws g s I L H locs → lv_has ls 7 [(0, .ref (g.1 + 237)), (1, .int v1), (2, .int v2), (3, .int v3), (4, .int z4), (5, .int z5)] → (∀ (H : Heap) (locs : List Loc) (ls : Array Slot), Ws g s I L H locs → lv_has ls 7 [(4, .int y0_4)] → W p l e (rmD (n9 + 1 + 2)) s m args below meth c H locs 0 0 Q (F0 m 85 ls [])) → W p l e (rmD (n9 + 1 + 2)) s m args below meth c H locs 0 0 Q (F0 m 24 ls []) := by
  intro n
  induction n with
  | zero => intro z4 z5 y0_4 h; exact lp_zero h
  | succ n ih =>
      intro z4 z5 y0_4 h H locs ls hW hl hx0
      obtain ⟨r9, h, h9⟩ := lp_some h
      have h : b_X8_wayFrom_24 F9 v1 v2 v3 I L z4 z5 = some r9 := h
      unfold b_X8_wayFrom_24 at h
      refine lv_iload C.1.1 C.1.2.1 dX8_wayFrom_24 (lv_at hl 5 rfl) ?_
      refine lv_aload_n C.1.1 C.1.2.1 dX8_wayFrom_26 rfl (lv_at hl 0 rfl) ?_
      refine G_X8_18 C hW (by decide) dX8_wayFrom_27 ?_
      refine lv_icmp_ge (tgt := 85) C.1.1 C.1.2.1 dX8_wayFrom_30 (by decide) (fun hc5 => ?_) (fun hc5 => ?_)
      · replace h := ite_t hc5 h
        obtain rfl := Option.some.inj h
        replace h9 := Option.some.inj h9
        obtain rfl := pnj1 h9
        exact hx0 _ _ _ hW (lv_sub hl [4] rfl)
      · replace h := ite_f hc5 h
        refine lv_iload_n C.1.1 C.1.2.1 dX8_wayFrom_33 rfl (lv_at hl 2 rfl) ?_
        refine lv_iload C.1.1 C.1.2.1 dX8_wayFrom_34 (lv_at hl 5 rfl) ?_
        refine lv_ishr C.1.1 C.1.2.1 dX8_wayFrom_36 ?_
        refine lv_iconst (v := 1) C.1.1 C.1.2.1 dX8_wayFrom_37 (by decide) ?_
        refine lv_iand C.1.1 C.1.2.1 dX8_wayFrom_38 ?_
        refine lv_iconst (v := 1) C.1.1 C.1.2.1 dX8_wayFrom_39 (by decide) ?_
        obtain ⟨y6, hj8, h⟩ := bd1_some h
        have kJ7 : ∀ (H : Heap) (locs : List Loc) (ls : Array Slot), Ws g s I L H locs → lv_has ls 7 [(0, .ref (g.1 + 237)), (1, .int v1), (2, .int v2), (3, .int v3), (4, .int y6), (5, .int z5)] → W p l e (rmD (n9 + 1 + 2)) s m args below meth c H locs 0 0 Q (F0 m 79 ls []) := by
          intro H locs ls hW hl
          obtain ⟨x9, ex9⟩ : ∃ y : Int32, y = z5 + (1 : Int32) := ⟨_, rfl⟩
          replace h := nm_at ex9 h
          refine lv_iinc (v := x9) (lv' := [(5, .int x9), (0, .ref (g.1 + 237)), (1, .int v1), (2, .int v2), (3, .int v3), (4, .int y6)]) C.1.1 C.1.2.1 dX8_wayFrom_79 hl (k := 5) rfl (by rw [ex9]; rfl) (by decide) rfl (fun ls hl => ?_)
          clear ex9
          refine lv_goto (tgt := 24) C.1.1 C.1.2.1 dX8_wayFrom_82 (by decide) ?_
          obtain rfl := Option.some.inj h
          exact ih _ _ _ h9 _ _ _ hW (lv_sub hl [1, 2, 3, 4, 5, 0] rfl) hx0
        clear h
        have h := hj8
        clear hj8
        refine lv_icmp_ne (tgt := 79) C.1.1 C.1.2.1 dX8_wayFrom_40 (by decide) (fun hc10 => ?_) (fun hc10 => ?_)
        · replace h := ite_f hc10 h
          obtain rfl := inj1 h
          exact kJ7 _ _ _ hW (lv_sub hl [0, 1, 2, 3, 4, 5] rfl)
        · replace h := ite_t hc10 h
          refine lv_aload_n C.1.1 C.1.2.1 dX8_wayFrom_43 rfl (lv_at hl 0 rfl) ?_
          refine lv_iload_n C.1.1 C.1.2.1 dX8_wayFrom_44 rfl (lv_at hl 1 rfl) ?_
          refine lv_iload C.1.1 C.1.2.1 dX8_wayFrom_45 (lv_at hl 5 rfl) ?_
          obtain ⟨r11, hc12, h⟩ := bd1_some h
          refine w_callVi (k := 2) (As := [.int v1, .int z5]) (rest := []) C hW (c_X8_between g l  hc12) (by decide) rfl (EX_8 (by decide)) K_X8_39 (by decide +kernel) ⟨by simp only [rmD]; omega, by simp only [rmD]; omega⟩ ⟨Nat.le_refl _, Nat.le_refl _⟩ rfl hl.1 rfl (Nat.le_of_ble_eq_true rfl) dX8_wayFrom_47 (fun H locs hW => ?_)
          refine lv_aload_n C.1.1 C.1.2.1 dX8_wayFrom_50 rfl (lv_at hl 0 rfl) ?_
          refine lv_iload C.1.1 C.1.2.1 dX8_wayFrom_51 (lv_at hl 5 rfl) ?_
          refine lv_iload_n C.1.1 C.1.2.1 dX8_wayFrom_53 rfl (lv_at hl 2 rfl) ?_
          refine lv_iconst (v := 1) C.1.1 C.1.2.1 dX8_wayFrom_54 (by decide) ?_
          refine lv_iload C.1.1 C.1.2.1 dX8_wayFrom_55 (lv_at hl 5 rfl) ?_
          refine lv_ishl C.1.1 C.1.2.1 dX8_wayFrom_57 ?_
          refine lv_iconst (v := -1) C.1.1 C.1.2.1 dX8_wayFrom_58 (by decide) ?_
          refine lv_ixor C.1.1 C.1.2.1 dX8_wayFrom_59 ?_
          refine lv_iand C.1.1 C.1.2.1 dX8_wayFrom_60 ?_
          refine lv_iload_n C.1.1 C.1.2.1 dX8_wayFrom_61 rfl (lv_at hl 3 rfl) ?_
          refine lv_iconst (v := 1) C.1.1 C.1.2.1 dX8_wayFrom_62 (by decide) ?_
          refine lv_iadd C.1.1 C.1.2.1 dX8_wayFrom_63 ?_
          obtain ⟨r13, hc14, h⟩ := bd1_some h
          refine w_callSi (k := 4) (As := [.ref (g.1 + 237), .int z5, .int (v2 &&& (((1 : Int32) <<< (z5 &&& (31 : Int32))) ^^^ (-1 : Int32))), .int (v3 + (1 : Int32))]) (rest := [.int r11]) C hW (IH _ _ _  _ _ _ hc14) K_X8_43 (by decide +kernel) ⟨by simp only [rmD]; omega, by simp only [rmD]; omega⟩ ⟨Nat.le_refl _, Nat.le_refl _⟩ rfl hl.1 rfl (Nat.le_of_ble_eq_true rfl) dX8_wayFrom_64 (fun H locs hW => ?_)
          refine lv_iadd C.1.1 C.1.2.1 dX8_wayFrom_67 ?_
          refine lv_topi (fun x15 ex15 => ?_)
          replace h := nm_at ex15 h
          clear ex15
          refine lv_istore (lv' := [(6, .int x15), (0, .ref (g.1 + 237)), (1, .int v1), (2, .int v2), (3, .int v3), (4, .int z4), (5, .int z5)]) C.1.1 C.1.2.1 dX8_wayFrom_68 hl (by decide) rfl (fun ls hl => ?_)
          refine lv_iload C.1.1 C.1.2.1 dX8_wayFrom_70 (lv_at hl 5 rfl) ?_
          refine lv_iload C.1.1 C.1.2.1 dX8_wayFrom_72 (lv_at hl 0 rfl) ?_
          refine M_X8_53 (rest := []) C hl.1 ⟨by simp only [rmD]; omega, by simp [rmD, Value.category]; omega⟩ ⟨Nat.le_refl _, Nat.le_refl _⟩ dX8_wayFrom_74 ?_
          refine lv_topi (fun x16 ex16 => ?_)
          replace h := nm_at ex16 h
          clear ex16
          refine lv_istore (lv' := [(4, .int x16), (6, .int x15), (0, .ref (g.1 + 237)), (1, .int v1), (2, .int v2), (3, .int v3), (5, .int z5)]) C.1.1 C.1.2.1 dX8_wayFrom_77 hl (by decide) rfl (fun ls hl => ?_)
          obtain rfl := inj1 h
          exact kJ7 _ _ _ hW (lv_sub hl [2, 3, 4, 5, 0, 6] rfl)
def f_X8_wayFrom : Nat → Int32 → Int32 → Int32 → MI → ML → Option (Int32)
  | 0 => fun _ _ _ _ _ => none
  | n9 + 1 => fun a2 a3 a4 I L => (if a3 = 0 then bd1 (f_X8_between a2 (0 : Int32) I L) (fun r2 => some r2) else (if a4 < (7 : Int32) then bd1 (lp (fun s => b_X8_wayFrom_24 (f_X8_wayFrom n9) a2 a3 a4 I L s.1 s.2) FU (((1000000 : Int32), (1 : Int32)))) (fun y18 => some y18) else bd1 (f_X8_between a2 (0 : Int32) I L) (fun r19 => some r19)))
set_option maxHeartbeats 4000000 in
set_option maxRecDepth 100000 in
theorem cr_X8_wayFrom (g : Gp) (l : Launch) : ∀ (n9 : Nat), ∀ (a2 : Int32) (a3 : Int32) (a4 : Int32), ∀ (I : MI) (L : ML) (r : Int32), f_X8_wayFrom n9 a2 a3 a4 I L = some r → MetI g l yX8_wayFrom cX8_wayFrom 7 .int (n9 + 2) [.ref (g.1 + 237), .int a2, .int a3, .int a4] I L r I L := by
  intro n9
  induction n9 with
  | zero => intro a2 a3 a4 I L r h; cases h
  | succ n9 IH =>
      intro a2 a3 a4 I L r h
      unfold f_X8_wayFrom at h
      refine w_enter (by decide) (Nat.le_of_ble_eq_true rfl) (own := RX8) rfl ?_
      intro p e s m below meth c args Q hQ C hr hlocks hW ls hl
      have hl : lv_has ls 7 [(0, .ref (g.1 + 237)), (1, .int a2), (2, .int a3), (3, .int a4)] := hl
      refine lv_iload_n C.1.1 C.1.2.1 dX8_wayFrom_0 rfl (lv_at hl 2 rfl) ?_
      refine lv_if_eq (tgt := 10) C.1.1 C.1.2.1 dX8_wayFrom_1 (by decide) (fun hc1 => ?_) (fun hc1 => ?_)
      · replace h := ite_t hc1 h
        refine lv_aload_n C.1.1 C.1.2.1 dX8_wayFrom_10 rfl (lv_at hl 0 rfl) ?_
        refine lv_iload_n C.1.1 C.1.2.1 dX8_wayFrom_11 rfl (lv_at hl 1 rfl) ?_
        refine lv_iconst (v := 0) C.1.1 C.1.2.1 dX8_wayFrom_12 (by decide) ?_
        obtain ⟨r2, hc3, h⟩ := bd1_some h
        refine w_callVi (k := 2) (As := [.int a2, .int (0 : Int32)]) (rest := []) C hW (c_X8_between g l  hc3) (by decide) rfl (EX_8 (by decide)) K_X8_39 (by decide +kernel) ⟨by simp only [rmD]; omega, by simp only [rmD]; omega⟩ ⟨Nat.le_refl _, Nat.le_refl _⟩ rfl hl.1 rfl (Nat.le_of_ble_eq_true rfl) dX8_wayFrom_13 (fun H locs hW => ?_)
        obtain rfl := inj1 h
        subst hQ
        exact w_iret C hW hr hlocks dX8_wayFrom_16
      · replace h := ite_f hc1 h
        refine lv_iload_n C.1.1 C.1.2.1 dX8_wayFrom_4 rfl (lv_at hl 3 rfl) ?_
        refine lv_bipush (v := 7) C.1.1 C.1.2.1 dX8_wayFrom_5 (by decide) ?_
        refine lv_icmp_lt (tgt := 17) C.1.1 C.1.2.1 dX8_wayFrom_7 (by decide) (fun hc4 => ?_) (fun hc4 => ?_)
        · replace h := ite_t hc4 h
          refine lv_ldc C.1.1 C.1.2.1 C.1.2.2.2.1 (C.1.2.2.2.2 _ kc_X8_32) dX8_wayFrom_17 ?_
          refine lv_istore (lv' := [(4, .int (1000000 : Int32)), (0, .ref (g.1 + 237)), (1, .int a2), (2, .int a3), (3, .int a4)]) C.1.1 C.1.2.1 dX8_wayFrom_19 hl (by decide) rfl (fun ls hl => ?_)
          refine lv_iconst (v := 1) C.1.1 C.1.2.1 dX8_wayFrom_21 (by decide) ?_
          refine lv_istore (lv' := [(5, .int (1 : Int32)), (4, .int (1000000 : Int32)), (0, .ref (g.1 + 237)), (1, .int a2), (2, .int a3), (3, .int a4)]) C.1.1 C.1.2.1 dX8_wayFrom_22 hl (by decide) rfl (fun ls hl => ?_)
          obtain ⟨y18, hq17, h⟩ := bd1_some h
          refine l_X8_wayFrom_24 IH C a2 a3 a4  I L _ _ _ _ hq17 _ _ _ hW (lv_sub hl [2, 3, 4, 5, 1, 0] rfl) (fun H locs ls hW hl => ?_)
          refine lv_iload C.1.1 C.1.2.1 dX8_wayFrom_85 (lv_at hl 0 rfl) ?_
          obtain rfl := inj1 h
          subst hQ
          exact w_iret C hW hr hlocks dX8_wayFrom_87
        · replace h := ite_f hc4 h
          refine lv_aload_n C.1.1 C.1.2.1 dX8_wayFrom_10 rfl (lv_at hl 0 rfl) ?_
          refine lv_iload_n C.1.1 C.1.2.1 dX8_wayFrom_11 rfl (lv_at hl 1 rfl) ?_
          refine lv_iconst (v := 0) C.1.1 C.1.2.1 dX8_wayFrom_12 (by decide) ?_
          obtain ⟨r19, hc20, h⟩ := bd1_some h
          refine w_callVi (k := 2) (As := [.int a2, .int (0 : Int32)]) (rest := []) C hW (c_X8_between g l  hc20) (by decide) rfl (EX_8 (by decide)) K_X8_39 (by decide +kernel) ⟨by simp only [rmD]; omega, by simp only [rmD]; omega⟩ ⟨Nat.le_refl _, Nat.le_refl _⟩ rfl hl.1 rfl (Nat.le_of_ble_eq_true rfl) dX8_wayFrom_13 (fun H locs hW => ?_)
          obtain rfl := inj1 h
          subst hQ
          exact w_iret C hW hr hlocks dX8_wayFrom_16
theorem c_X8_wayFrom (g : Gp) (l : Launch) (n9 : Nat) {a2 : Int32} {a3 : Int32} {a4 : Int32} {I : MI} {L : ML} {r : Int32} (h : f_X8_wayFrom n9 a2 a3 a4 I L = some r) : MetI g l yX8_wayFrom cX8_wayFrom 7 .int (n9 + 2) [.ref (g.1 + 237), .int a2, .int a3, .int a4] I L r I L := cr_X8_wayFrom g l n9 a2 a3 a4 I L r h
