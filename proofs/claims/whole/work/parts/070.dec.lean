def f_X10_feed (a1 : Int32) (I : MI) (L : ML) : Option (Int32 × MI) :=
  bd1 (f_X10_within a1 (0 : Int32) (255 : Int32)) (fun r1 => (if r1 = 0 then some (((-1 : Int32), I)) else bd2 (f_X7_put a1 I L) (fun r4 I5 => bd1 ((if r4 = 0 then some (-3 : Int32) else some (I5 1 1))) (fun y7 => some (y7, I5)))))
set_option maxHeartbeats 4000000 in
set_option maxRecDepth 100000 in
theorem c_X10_feed (g : Gp) (l : Launch) {a1 : Int32}  {I : MI} {L : ML} {r : Int32} {I' : MI} (h : f_X10_feed a1 I L = some (r, I')) : MetI g l yX10_feed cX10_feed 2 .int 1 [.ref (g.1 + 0), .int a1] I L r I' L := by
  unfold f_X10_feed at h
  refine w_enter (by decide) (Nat.le_of_ble_eq_true rfl) (own := RX10) rfl ?_
  intro p e s m below meth c args Q hQ C hr hlocks hW ls hl
  have hl : lv_has ls 2 [(0, .ref (g.1 + 0)), (1, .int a1)] := hl
  refine lv_iload_n C.1.1 C.1.2.1 dX10_feed_0 rfl (lv_at hl 1 rfl) ?_
  refine lv_iconst (v := 0) C.1.1 C.1.2.1 dX10_feed_1 (by decide) ?_
  refine lv_sipush (v := 255) C.1.1 C.1.2.1 dX10_feed_2 (by decide) ?_
  obtain ⟨r1, hc2, h⟩ := bd1_some h
  refine w_callSi (k := 3) (As := [.int a1, .int (0 : Int32), .int (255 : Int32)]) (rest := []) C hW (c_X10_within g l  hc2 I L) K_X10_79 (by decide +kernel) ⟨by decide, by decide⟩ ⟨Nat.le_refl _, Nat.le_refl _⟩ rfl hl.1 rfl (Nat.le_of_ble_eq_true rfl) dX10_feed_5 (fun H locs hW => ?_)
  refine lv_if_ne (tgt := 13) C.1.1 C.1.2.1 dX10_feed_8 (by decide) (fun hc3 => ?_) (fun hc3 => ?_)
  · replace h := ite_f hc3 h
    refine lv_aload_n C.1.1 C.1.2.1 dX10_feed_13 rfl (lv_at hl 0 rfl) ?_
    refine G_X10_10 C hW (by decide) dX10_feed_14 ?_
    refine lv_iload_n C.1.1 C.1.2.1 dX10_feed_17 rfl (lv_at hl 1 rfl) ?_
    obtain ⟨r4, I5, hc6, h⟩ := bd2_some h
    refine w_callVi (k := 1) (As := [.int a1]) (rest := []) C hW (c_X7_put g l  hc6) (by decide) rfl (EX_7 (by decide)) K_X10_83 (by decide +kernel) ⟨by decide, by decide⟩ ⟨Nat.le_refl _, Nat.le_refl _⟩ rfl hl.1 rfl (Nat.le_of_ble_eq_true rfl) dX10_feed_18 (fun H locs hW => ?_)
    obtain ⟨y7, hj9, h⟩ := bd1_some h
    have kJ8 : ∀ (H : Heap) (locs : List Loc) (ls : Array Slot), Ws g s I5 L H locs → lv_has ls 2 [] → W p l e (rmD 1) s m args below meth c H locs 0 0 Q (F0 m 36 ls [.int y7]) := by
      intro H locs ls hW hl
      obtain ⟨rfl, rfl⟩ := inj2 h
      subst hQ
      exact w_iret C hW hr hlocks dX10_feed_36
    clear h
    have h := hj9
    clear hj9
    refine lv_if_eq (tgt := 34) C.1.1 C.1.2.1 dX10_feed_21 (by decide) (fun hc10 => ?_) (fun hc10 => ?_)
    · replace h := ite_t hc10 h
      refine lv_bipush (v := -3) C.1.1 C.1.2.1 dX10_feed_34 (by decide) ?_
      obtain rfl := inj1 h
      exact kJ8 _ _ _ hW (lv_sub hl [] rfl)
    · replace h := ite_f hc10 h
      refine lv_aload_n C.1.1 C.1.2.1 dX10_feed_24 rfl (lv_at hl 0 rfl) ?_
      refine G_X10_10 C hW (by decide) dX10_feed_25 ?_
      refine G_X10_87 C hW (by decide) dX10_feed_28 ?_
      refine lv_goto (tgt := 36) C.1.1 C.1.2.1 dX10_feed_31 (by decide) ?_
      obtain rfl := inj1 h
      exact kJ8 _ _ _ hW (lv_sub hl [] rfl)
  · replace h := ite_t hc3 h
    refine lv_iconst (v := -1) C.1.1 C.1.2.1 dX10_feed_11 (by decide) ?_
    obtain ⟨rfl, rfl⟩ := inj2 h
    subst hQ
    exact w_iret C hW hr hlocks dX10_feed_12
def f_X10_wall  (I : MI) (L : ML) : Option (Int32 × MI) :=
  bd2 (f_X7_readInto 11 I L) (fun r1 I2 => nm (up2 I2 1 1 (0 : Int32)) (fun I4 => (if r1 = (-1 : Int32) then nm (up2 I4 11 6 (I4 3 6)) (fun I6 => bd1 (f_X9_takeFrom 3 11 I6 L) (fun I7 => bd1 (f_X3_forget  I7 L) (fun I9 => some (I9 3 1, I9)))) else some (((-100 : Int32) - r1, I4)))))
set_option maxHeartbeats 4000000 in
set_option maxRecDepth 100000 in
theorem c_X10_wall (g : Gp) (l : Launch)   {I : MI} {L : ML} {r : Int32} {I' : MI} (h : f_X10_wall  I L = some (r, I')) : MetI g l yX10_wall cX10_wall 2 .int 5 [.ref (g.1 + 0)] I L r I' L := by
  unfold f_X10_wall at h
  refine w_enter (by decide) (Nat.le_of_ble_eq_true rfl) (own := RX10) rfl ?_
  intro p e s m below meth c args Q hQ C hr hlocks hW ls hl
  have hl : lv_has ls 2 [(0, .ref (g.1 + 0))] := hl
  refine lv_aload_n C.1.1 C.1.2.1 dX10_wall_0 rfl (lv_at hl 0 rfl) ?_
  refine G_X10_10 C hW (by decide) dX10_wall_1 ?_
  refine lv_aload_n C.1.1 C.1.2.1 dX10_wall_4 rfl (lv_at hl 0 rfl) ?_
  refine G_X10_23 C hW (by decide) dX10_wall_5 ?_
  obtain ⟨r1, I2, hc3, h⟩ := bd2_some h
  refine w_callVi (k := 1) (As := [.ref (g.1 + 11)]) (rest := []) C hW (c_X7_readInto g l (by decide) hc3) (by decide) rfl (EX_7 (by decide)) K_X10_91 (by decide +kernel) ⟨by decide, by decide⟩ ⟨Nat.le_refl _, Nat.le_refl _⟩ rfl hl.1 rfl (Nat.le_of_ble_eq_true rfl) dX10_wall_8 (fun H locs hW => ?_)
  refine lv_istore_n (lv' := [(1, .int r1), (0, .ref (g.1 + 0))]) C.1.1 C.1.2.1 dX10_wall_11 rfl hl (by decide) rfl (fun ls hl => ?_)
  refine lv_aload_n C.1.1 C.1.2.1 dX10_wall_12 rfl (lv_at hl 1 rfl) ?_
  refine G_X10_10 C hW (by decide) dX10_wall_13 ?_
  refine lv_iconst (v := 0) C.1.1 C.1.2.1 dX10_wall_16 (by decide) ?_
  refine P_X10_87 C hW (by decide) dX10_wall_17 (fun H locs hW => ?_)
  obtain ⟨I4, eI4, h⟩ := nm_some h
  rw [← eI4] at hW
  clear eI4
  refine lv_iload_n C.1.1 C.1.2.1 dX10_wall_20 rfl (lv_at hl 0 rfl) ?_
  refine lv_iconst (v := -1) C.1.1 C.1.2.1 dX10_wall_21 (by decide) ?_
  refine lv_icmp_eq (tgt := 30) C.1.1 C.1.2.1 dX10_wall_22 (by decide) (fun hc5 => ?_) (fun hc5 => ?_)
  · replace h := ite_t hc5 h
    refine lv_aload_n C.1.1 C.1.2.1 dX10_wall_30 rfl (lv_at hl 1 rfl) ?_
    refine G_X10_23 C hW (by decide) dX10_wall_31 ?_
    refine lv_aload_n C.1.1 C.1.2.1 dX10_wall_34 rfl (lv_at hl 1 rfl) ?_
    refine G_X10_19 C hW (by decide) dX10_wall_35 ?_
    refine G_X10_95 C hW (by decide) dX10_wall_38 ?_
    refine P_X10_95 C hW (by decide) dX10_wall_41 (fun H locs hW => ?_)
    obtain ⟨I6, eI6, h⟩ := nm_some h
    rw [← eI6] at hW
    clear eI6
    refine lv_aload_n C.1.1 C.1.2.1 dX10_wall_44 rfl (lv_at hl 1 rfl) ?_
    refine G_X10_19 C hW (by decide) dX10_wall_45 ?_
    refine lv_aload_n C.1.1 C.1.2.1 dX10_wall_48 rfl (lv_at hl 1 rfl) ?_
    refine G_X10_23 C hW (by decide) dX10_wall_49 ?_
    obtain ⟨I7, hc8, h⟩ := bd1_some h
    refine w_callVv (k := 1) (As := [.ref (g.1 + 11)]) (rest := []) C hW (c_X9_takeFrom g l (by decide) (by decide) hc8) (by decide) rfl (EX_9 (by decide)) K_X10_98 (by decide +kernel) ⟨by decide, by decide⟩ ⟨Nat.le_refl _, Nat.le_refl _⟩ rfl hl.1 rfl (Nat.le_of_ble_eq_true rfl) dX10_wall_52 (fun H locs hW => ?_)
    refine lv_aload_n C.1.1 C.1.2.1 dX10_wall_55 rfl (lv_at hl 1 rfl) ?_
    refine G_X10_29 C hW (by decide) dX10_wall_56 ?_
    obtain ⟨I9, hc10, h⟩ := bd1_some h
    refine w_callVv (k := 0) (As := []) (rest := []) C hW (c_X3_forget g l  hc10) (by decide) rfl (EX_3 (by decide)) K_X10_102 (by decide +kernel) ⟨by decide, by decide⟩ ⟨Nat.le_refl _, Nat.le_refl _⟩ rfl hl.1 rfl (Nat.le_of_ble_eq_true rfl) dX10_wall_59 (fun H locs hW => ?_)
    refine lv_aload_n C.1.1 C.1.2.1 dX10_wall_62 rfl (lv_at hl 1 rfl) ?_
    refine G_X10_19 C hW (by decide) dX10_wall_63 ?_
    refine G_X10_105 C hW (by decide) dX10_wall_66 ?_
    obtain ⟨rfl, rfl⟩ := inj2 h
    subst hQ
    exact w_iret C hW hr hlocks dX10_wall_69
  · replace h := ite_f hc5 h
    refine lv_bipush (v := -100) C.1.1 C.1.2.1 dX10_wall_25 (by decide) ?_
    refine lv_iload_n C.1.1 C.1.2.1 dX10_wall_27 rfl (lv_at hl 0 rfl) ?_
    refine lv_isub C.1.1 C.1.2.1 dX10_wall_28 ?_
    obtain ⟨rfl, rfl⟩ := inj2 h
    subst hQ
    exact w_iret C hW hr hlocks dX10_wall_29
def f_X10_sitter (a1 : Int32) (a2 : Int32) (I : MI) (L : ML) : Option (Int32) :=
  bd1 (f_X9_has 3 a1 I L) (fun r1 => (if r1 = 0 then some (-1 : Int32) else gi a1 6 ((if a2 = (0 : Int32) then some (I (3 + 2 + a1.toNatClampNeg) 0) else (if a2 = (1 : Int32) then some (I (3 + 2 + a1.toNatClampNeg) 1) else (if a2 = (2 : Int32) then some (I (3 + 2 + a1.toNatClampNeg) 2) else (if a2 = (3 : Int32) then some (I (3 + 2 + a1.toNatClampNeg) 3) else (if a2 = (4 : Int32) then some (I (3 + 2 + a1.toNatClampNeg) 4) else (if a2 = (5 : Int32) then some (I (3 + 2 + a1.toNatClampNeg) 5) else (if a2 = (6 : Int32) then some (I (3 + 2 + a1.toNatClampNeg) 6) else (if a2 = (7 : Int32) then some (I (3 + 2 + a1.toNatClampNeg) 7) else (if a2 = (8 : Int32) then some (I (3 + 2 + a1.toNatClampNeg) 8) else (if a2 = (9 : Int32) then bd1 ((if (I (3 + 2 + a1.toNatClampNeg) 9) = 0 then some (0 : Int32) else some (1 : Int32))) (fun y15 => some y15) else (if a2 = (10 : Int32) then some (I (3 + 2 + a1.toNatClampNeg) 10) else some (-1 : Int32)))))))))))))))
set_option maxHeartbeats 4000000 in
set_option maxRecDepth 100000 in
theorem c_X10_sitter (g : Gp) (l : Launch) {a1 : Int32} {a2 : Int32}  {I : MI} {L : ML} {r : Int32} (h : f_X10_sitter a1 a2 I L = some r) : MetI g l yX10_sitter cX10_sitter 4 .int 1 [.ref (g.1 + 0), .int a1, .int a2] I L r I L := by
  unfold f_X10_sitter at h
  refine w_enter (by decide) (Nat.le_of_ble_eq_true rfl) (own := RX10) rfl ?_
  intro p e s m below meth c args Q hQ C hr hlocks hW ls hl
  have hl : lv_has ls 4 [(0, .ref (g.1 + 0)), (1, .int a1), (2, .int a2)] := hl
  refine lv_aload_n C.1.1 C.1.2.1 dX10_sitter_0 rfl (lv_at hl 0 rfl) ?_
  refine G_X10_19 C hW (by decide) dX10_sitter_1 ?_
  refine lv_iload_n C.1.1 C.1.2.1 dX10_sitter_4 rfl (lv_at hl 1 rfl) ?_
  obtain ⟨r1, hc2, h⟩ := bd1_some h
  refine w_callVi (k := 1) (As := [.int a1]) (rest := []) C hW (c_X9_has g l (by decide) hc2) (by decide) rfl (EX_9 (by decide)) K_X10_108 (by decide +kernel) ⟨by decide, by decide⟩ ⟨Nat.le_refl _, Nat.le_refl _⟩ rfl hl.1 rfl (Nat.le_of_ble_eq_true rfl) dX10_sitter_5 (fun H locs hW => ?_)
  refine lv_if_ne (tgt := 13) C.1.1 C.1.2.1 dX10_sitter_8 (by decide) (fun hc3 => ?_) (fun hc3 => ?_)
  · replace h := ite_f hc3 h
    refine lv_aload_n C.1.1 C.1.2.1 dX10_sitter_13 rfl (lv_at hl 0 rfl) ?_
    refine G_X10_19 C hW (by decide) dX10_sitter_14 ?_
    refine G_X10_111 C hW (by decide) dX10_sitter_17 ?_
    refine lv_iload_n C.1.1 C.1.2.1 dX10_sitter_20 rfl (lv_at hl 1 rfl) ?_
    obtain ⟨hi4, h⟩ := gi_some h
    refine w_asit C hW (w := 3) (by decide) hi4 dX10_sitter_21 ?_
    refine lv_astore_n (lv' := [(3, .ref (g.1 + (3 + 2 + a1.toNatClampNeg))), (0, .ref (g.1 + 0)), (1, .int a1), (2, .int a2)]) C.1.1 C.1.2.1 dX10_sitter_22 rfl hl (by decide) rfl (fun ls hl => ?_)
    refine lv_iload_n C.1.1 C.1.2.1 dX10_sitter_23 rfl (lv_at hl 3 rfl) ?_
    by_cases hc5 : a2 = (0 : Int32)
    · replace h := ite_t hc5 h
      rw [hc5]
      refine lv_tableIn (tgt := 84) C.1.1 C.1.2.1 dX10_sitter_24 (by decide) (by decide) rfl (by decide) ?_
      refine lv_aload_n C.1.1 C.1.2.1 dX10_sitter_84 rfl (lv_at hl 0 rfl) ?_
      refine G_X10_115 C hW (kd_sit (by decide) hi4) dX10_sitter_85 ?_
      obtain rfl := inj1 h
      subst hQ
      exact w_iret C hW hr hlocks dX10_sitter_88
    · replace h := ite_f hc5 h
      by_cases hc6 : a2 = (1 : Int32)
      · replace h := ite_t hc6 h
        rw [hc6]
        refine lv_tableIn (tgt := 89) C.1.1 C.1.2.1 dX10_sitter_24 (by decide) (by decide) rfl (by decide) ?_
        refine lv_aload_n C.1.1 C.1.2.1 dX10_sitter_89 rfl (lv_at hl 0 rfl) ?_
        refine G_X10_120 C hW (kd_sit (by decide) hi4) dX10_sitter_90 ?_
        obtain rfl := inj1 h
        subst hQ
        exact w_iret C hW hr hlocks dX10_sitter_93
      · replace h := ite_f hc6 h
        by_cases hc7 : a2 = (2 : Int32)
        · replace h := ite_t hc7 h
          rw [hc7]
          refine lv_tableIn (tgt := 94) C.1.1 C.1.2.1 dX10_sitter_24 (by decide) (by decide) rfl (by decide) ?_
          refine lv_aload_n C.1.1 C.1.2.1 dX10_sitter_94 rfl (lv_at hl 0 rfl) ?_
          refine G_X10_123 C hW (kd_sit (by decide) hi4) dX10_sitter_95 ?_
          obtain rfl := inj1 h
          subst hQ
          exact w_iret C hW hr hlocks dX10_sitter_98
        · replace h := ite_f hc7 h
          by_cases hc8 : a2 = (3 : Int32)
          · replace h := ite_t hc8 h
            rw [hc8]
            refine lv_tableIn (tgt := 99) C.1.1 C.1.2.1 dX10_sitter_24 (by decide) (by decide) rfl (by decide) ?_
            refine lv_aload_n C.1.1 C.1.2.1 dX10_sitter_99 rfl (lv_at hl 0 rfl) ?_
            refine G_X10_126 C hW (kd_sit (by decide) hi4) dX10_sitter_100 ?_
            obtain rfl := inj1 h
            subst hQ
            exact w_iret C hW hr hlocks dX10_sitter_103
          · replace h := ite_f hc8 h
            by_cases hc9 : a2 = (4 : Int32)
            · replace h := ite_t hc9 h
              rw [hc9]
              refine lv_tableIn (tgt := 104) C.1.1 C.1.2.1 dX10_sitter_24 (by decide) (by decide) rfl (by decide) ?_
              refine lv_aload_n C.1.1 C.1.2.1 dX10_sitter_104 rfl (lv_at hl 0 rfl) ?_
              refine G_X10_129 C hW (kd_sit (by decide) hi4) dX10_sitter_105 ?_
              obtain rfl := inj1 h
              subst hQ
              exact w_iret C hW hr hlocks dX10_sitter_108
            · replace h := ite_f hc9 h
              by_cases hc10 : a2 = (5 : Int32)
              · replace h := ite_t hc10 h
                rw [hc10]
                refine lv_tableIn (tgt := 109) C.1.1 C.1.2.1 dX10_sitter_24 (by decide) (by decide) rfl (by decide) ?_
                refine lv_aload_n C.1.1 C.1.2.1 dX10_sitter_109 rfl (lv_at hl 0 rfl) ?_
                refine G_X10_132 C hW (kd_sit (by decide) hi4) dX10_sitter_110 ?_
                obtain rfl := inj1 h
                subst hQ
                exact w_iret C hW hr hlocks dX10_sitter_113
              · replace h := ite_f hc10 h
                by_cases hc11 : a2 = (6 : Int32)
                · replace h := ite_t hc11 h
                  rw [hc11]
                  refine lv_tableIn (tgt := 114) C.1.1 C.1.2.1 dX10_sitter_24 (by decide) (by decide) rfl (by decide) ?_
                  refine lv_aload_n C.1.1 C.1.2.1 dX10_sitter_114 rfl (lv_at hl 0 rfl) ?_
                  refine G_X10_135 C hW (kd_sit (by decide) hi4) dX10_sitter_115 ?_
                  obtain rfl := inj1 h
                  subst hQ
                  exact w_iret C hW hr hlocks dX10_sitter_118
                · replace h := ite_f hc11 h
                  by_cases hc12 : a2 = (7 : Int32)
                  · replace h := ite_t hc12 h
                    rw [hc12]
                    refine lv_tableIn (tgt := 119) C.1.1 C.1.2.1 dX10_sitter_24 (by decide) (by decide) rfl (by decide) ?_
                    refine lv_aload_n C.1.1 C.1.2.1 dX10_sitter_119 rfl (lv_at hl 0 rfl) ?_
                    refine G_X10_138 C hW (kd_sit (by decide) hi4) dX10_sitter_120 ?_
                    obtain rfl := inj1 h
                    subst hQ
                    exact w_iret C hW hr hlocks dX10_sitter_123
                  · replace h := ite_f hc12 h
                    by_cases hc13 : a2 = (8 : Int32)
                    · replace h := ite_t hc13 h
                      rw [hc13]
                      refine lv_tableIn (tgt := 124) C.1.1 C.1.2.1 dX10_sitter_24 (by decide) (by decide) rfl (by decide) ?_
                      refine lv_aload_n C.1.1 C.1.2.1 dX10_sitter_124 rfl (lv_at hl 0 rfl) ?_
                      refine G_X10_141 C hW (kd_sit (by decide) hi4) dX10_sitter_125 ?_
                      obtain rfl := inj1 h
                      subst hQ
                      exact w_iret C hW hr hlocks dX10_sitter_128
                    · replace h := ite_f hc13 h
                      by_cases hc14 : a2 = (9 : Int32)
                      · replace h := ite_t hc14 h
                        rw [hc14]
                        refine lv_tableIn (tgt := 129) C.1.1 C.1.2.1 dX10_sitter_24 (by decide) (by decide) rfl (by decide) ?_
                        refine lv_aload_n C.1.1 C.1.2.1 dX10_sitter_129 rfl (lv_at hl 0 rfl) ?_
                        refine G_X10_144 C hW (kd_sit (by decide) hi4) dX10_sitter_130 ?_
                        obtain ⟨y15, hj17, h⟩ := bd1_some h
                        have kJ16 : ∀ (H : Heap) (locs : List Loc) (ls : Array Slot), Ws g s I L H locs → lv_has ls 4 [] → W p l e (rmD 1) s m args below meth c H locs 0 0 Q (F0 m 141 ls [.int y15]) := by
                          intro H locs ls hW hl
                          obtain rfl := inj1 h
                          subst hQ
                          exact w_iret C hW hr hlocks dX10_sitter_141
                        clear h
                        have h := hj17
                        clear hj17
                        refine lv_if_eq (tgt := 140) C.1.1 C.1.2.1 dX10_sitter_133 (by decide) (fun hc18 => ?_) (fun hc18 => ?_)
                        · replace h := ite_t hc18 h
                          refine lv_iconst (v := 0) C.1.1 C.1.2.1 dX10_sitter_140 (by decide) ?_
                          obtain rfl := inj1 h
                          exact kJ16 _ _ _ hW (lv_sub hl [] rfl)
                        · replace h := ite_f hc18 h
                          refine lv_iconst (v := 1) C.1.1 C.1.2.1 dX10_sitter_136 (by decide) ?_
                          refine lv_goto (tgt := 141) C.1.1 C.1.2.1 dX10_sitter_137 (by decide) ?_
                          obtain rfl := inj1 h
                          exact kJ16 _ _ _ hW (lv_sub hl [] rfl)
                      · replace h := ite_f hc14 h
                        by_cases hc19 : a2 = (10 : Int32)
                        · replace h := ite_t hc19 h
                          rw [hc19]
                          refine lv_tableIn (tgt := 142) C.1.1 C.1.2.1 dX10_sitter_24 (by decide) (by decide) rfl (by decide) ?_
                          refine lv_aload_n C.1.1 C.1.2.1 dX10_sitter_142 rfl (lv_at hl 0 rfl) ?_
                          refine G_X10_148 C hW (kd_sit (by decide) hi4) dX10_sitter_143 ?_
                          obtain rfl := inj1 h
                          subst hQ
                          exact w_iret C hW hr hlocks dX10_sitter_146
                        · replace h := ite_f hc19 h
                          refine lv_tableOut (tgt := 147) C.1.1 C.1.2.1 dX10_sitter_24 (by
                            have := lv_neT (a := 0) hc5 (by decide)
                            have := lv_neT (a := 1) hc6 (by decide)
                            have := lv_neT (a := 2) hc7 (by decide)
                            have := lv_neT (a := 3) hc8 (by decide)
                            have := lv_neT (a := 4) hc9 (by decide)
                            have := lv_neT (a := 5) hc10 (by decide)
                            have := lv_neT (a := 6) hc11 (by decide)
                            have := lv_neT (a := 7) hc12 (by decide)
                            have := lv_neT (a := 8) hc13 (by decide)
                            have := lv_neT (a := 9) hc14 (by decide)
                            have := lv_neT (a := 10) hc19 (by decide)
                            omega) (by decide) ?_
                          refine lv_iconst (v := -1) C.1.1 C.1.2.1 dX10_sitter_147 (by decide) ?_
                          obtain rfl := inj1 h
                          subst hQ
                          exact w_iret C hW hr hlocks dX10_sitter_148
  · replace h := ite_t hc3 h
    refine lv_iconst (v := -1) C.1.1 C.1.2.1 dX10_sitter_11 (by decide) ?_
    obtain rfl := inj1 h
    subst hQ
    exact w_iret C hW hr hlocks dX10_sitter_12
def f_X10_growth (a1 : Int32) (a2 : Int32) (I : MI) (L : ML) : Option (Int32) :=
  bd1 (f_X9_has 3 a1 I L) (fun r1 => (if r1 = 0 then some (-1 : Int32) else bd1 (f_X10_within a2 (0 : Int32) (2 : Int32)) (fun r4 => (if r4 = 0 then some (-1 : Int32) else gi a1 6 (bd1 (f_X9_isNight 3 I L) (fun r8 => bd1 (f_X6_grows (3 + 2 + a1.toNatClampNeg) a2 r8 I L) (fun r10 => some r10)))))))
set_option maxHeartbeats 4000000 in
set_option maxRecDepth 100000 in
theorem c_X10_growth (g : Gp) (l : Launch) {a1 : Int32} {a2 : Int32}  {I : MI} {L : ML} {r : Int32} (h : f_X10_growth a1 a2 I L = some r) : MetI g l yX10_growth cX10_growth 3 .int 2 [.ref (g.1 + 0), .int a1, .int a2] I L r I L := by
  unfold f_X10_growth at h
  refine w_enter (by decide) (Nat.le_of_ble_eq_true rfl) (own := RX10) rfl ?_
  intro p e s m below meth c args Q hQ C hr hlocks hW ls hl
  have hl : lv_has ls 3 [(0, .ref (g.1 + 0)), (1, .int a1), (2, .int a2)] := hl
  refine lv_aload_n C.1.1 C.1.2.1 dX10_growth_0 rfl (lv_at hl 0 rfl) ?_
  refine G_X10_19 C hW (by decide) dX10_growth_1 ?_
  refine lv_iload_n C.1.1 C.1.2.1 dX10_growth_4 rfl (lv_at hl 1 rfl) ?_
  obtain ⟨r1, hc2, h⟩ := bd1_some h
  refine w_callVi (k := 1) (As := [.int a1]) (rest := []) C hW (c_X9_has g l (by decide) hc2) (by decide) rfl (EX_9 (by decide)) K_X10_108 (by decide +kernel) ⟨by decide, by decide⟩ ⟨Nat.le_refl _, Nat.le_refl _⟩ rfl hl.1 rfl (Nat.le_of_ble_eq_true rfl) dX10_growth_5 (fun H locs hW => ?_)
  refine lv_if_eq (tgt := 20) C.1.1 C.1.2.1 dX10_growth_8 (by decide) (fun hc3 => ?_) (fun hc3 => ?_)
  · replace h := ite_t hc3 h
    refine lv_iconst (v := -1) C.1.1 C.1.2.1 dX10_growth_20 (by decide) ?_
    obtain rfl := inj1 h
    subst hQ
    exact w_iret C hW hr hlocks dX10_growth_21
  · replace h := ite_f hc3 h
    refine lv_iload_n C.1.1 C.1.2.1 dX10_growth_11 rfl (lv_at hl 2 rfl) ?_
    refine lv_iconst (v := 0) C.1.1 C.1.2.1 dX10_growth_12 (by decide) ?_
    refine lv_iconst (v := 2) C.1.1 C.1.2.1 dX10_growth_13 (by decide) ?_
    obtain ⟨r4, hc5, h⟩ := bd1_some h
    refine w_callSi (k := 3) (As := [.int a2, .int (0 : Int32), .int (2 : Int32)]) (rest := []) C hW (c_X10_within g l  hc5 I L) K_X10_79 (by decide +kernel) ⟨by decide, by decide⟩ ⟨Nat.le_refl _, Nat.le_refl _⟩ rfl hl.1 rfl (Nat.le_of_ble_eq_true rfl) dX10_growth_14 (fun H locs hW => ?_)
    refine lv_if_ne (tgt := 22) C.1.1 C.1.2.1 dX10_growth_17 (by decide) (fun hc6 => ?_) (fun hc6 => ?_)
    · replace h := ite_f hc6 h
      refine lv_aload_n C.1.1 C.1.2.1 dX10_growth_22 rfl (lv_at hl 0 rfl) ?_
      refine G_X10_19 C hW (by decide) dX10_growth_23 ?_
      refine G_X10_111 C hW (by decide) dX10_growth_26 ?_
      refine lv_iload_n C.1.1 C.1.2.1 dX10_growth_29 rfl (lv_at hl 1 rfl) ?_
      obtain ⟨hi7, h⟩ := gi_some h
      refine w_asit C hW (w := 3) (by decide) hi7 dX10_growth_30 ?_
      refine lv_iload_n C.1.1 C.1.2.1 dX10_growth_31 rfl (lv_at hl 2 rfl) ?_
      refine lv_aload_n C.1.1 C.1.2.1 dX10_growth_32 rfl (lv_at hl 0 rfl) ?_
      refine G_X10_19 C hW (by decide) dX10_growth_33 ?_
      obtain ⟨r8, hc9, h⟩ := bd1_some h
      refine w_callVi (k := 0) (As := []) (rest := [.int a2, .ref (g.1 + (3 + 2 + a1.toNatClampNeg))]) C hW (c_X9_isNight g l (by decide) hc9) (by decide) rfl (EX_9 (by decide)) K_X10_151 (by decide +kernel) ⟨by decide, by decide⟩ ⟨Nat.le_refl _, Nat.le_refl _⟩ rfl hl.1 rfl (Nat.le_of_ble_eq_true rfl) dX10_growth_36 (fun H locs hW => ?_)
      obtain ⟨r10, hc11, h⟩ := bd1_some h
      refine w_callVi (k := 2) (As := [.int a2, .int r8]) (rest := []) C hW (c_X6_grows g l (kd_sit (by decide) hi7) hc11) (kd_sit (by decide) hi7) rfl (EX_6 (kd_sit (by decide) hi7)) K_X10_155 (by decide +kernel) ⟨by decide, by decide⟩ ⟨Nat.le_refl _, Nat.le_refl _⟩ rfl hl.1 rfl (Nat.le_of_ble_eq_true rfl) dX10_growth_39 (fun H locs hW => ?_)
      obtain rfl := inj1 h
      subst hQ
      exact w_iret C hW hr hlocks dX10_growth_42
    · replace h := ite_t hc6 h
      refine lv_iconst (v := -1) C.1.1 C.1.2.1 dX10_growth_20 (by decide) ?_
      obtain rfl := inj1 h
      subst hQ
      exact w_iret C hW hr hlocks dX10_growth_21
def b_X10_isUnder_4 (v1 : Int32) (I : MI) (L : ML) (z2 : Int32) (z3 : Int32) : Option ((Int32 × Int32) ⊕ ((Unit) ⊕ (Unit))) :=
  (if (6 : Int32) ≤ z3 then some (Sum.inr ((Sum.inl ()))) else bd1 (f_X10_within z2 (0 : Int32) (5 : Int32)) (fun r2 => (if r2 = 0 then some (Sum.inr ((Sum.inl ()))) else (if z2 = v1 then some (Sum.inr ((Sum.inr ()))) else gi z2 6 (nm (koF z2.toNatClampNeg) (fun x7 => nm (z3 + (1 : Int32)) (fun x8 => some (Sum.inl (x7, x8)))))))))
set_option maxHeartbeats 4000000 in
set_option maxRecDepth 100000 in
theorem l_X10_isUnder_4 {g : Gp} {p : Program} {l : Launch} {e : Env} {s : State} {m : MethodId} {args : Array Value} {below : List Frame} {meth : Method} {c : Code} {Q : State → Prop}  (C : Cx g p s m args c RX10 cX10_isUnder 4) (v1 : Int32)  (I : MI) (L : ML) : ∀ (n : Nat) (z2 : Int32) (z3 : Int32) (x : (Unit) ⊕ (Unit)), lp (fun s => b_X10_isUnder_4 v1 I L s.1 s.2) n (z2, z3) = some x → ∀ (H : Heap) (locs : List Loc) (ls : Array Slot), Ws g s I L H locs → lv_has ls 4 [(1, .int v1), (2, .int z2), (3, .int z3)] → (∀ (_ : Unit), x = (Sum.inl ()) → ∀ (H : Heap) (locs : List Loc) (ls : Array Slot), Ws g s I L H locs → lv_has ls 4 [] → W p l e (rmD 1) s m args below meth c H locs 0 0 Q (F0 m 38 ls [])) → (∀ (_ : Unit), x = (Sum.inr ()) → ∀ (H : Heap) (locs : List Loc) (ls : Array Slot), Ws g s I L H locs → lv_has ls 4 [] → W p l e (rmD 1) s m args below meth c H locs 0 0 Q (F0 m 24 ls [])) → W p l e (rmD 1) s m args below meth c H locs 0 0 Q (F0 m 4 ls []) := by
  intro n
  induction n with
  | zero => intro z2 z3 x h; exact lp_zero h
  | succ n ih =>
      intro z2 z3 x h H locs ls hW hl hx0 hx1
      obtain ⟨r9, h, h9⟩ := lp_some h
      have h : b_X10_isUnder_4 v1 I L z2 z3 = some r9 := h
      unfold b_X10_isUnder_4 at h
      refine lv_iload_n C.1.1 C.1.2.1 dX10_isUnder_4 rfl (lv_at hl 2 rfl) ?_
      refine lv_bipush (v := 6) C.1.1 C.1.2.1 dX10_isUnder_5 (by decide) ?_
      refine lv_icmp_ge (tgt := 38) C.1.1 C.1.2.1 dX10_isUnder_7 (by decide) (fun hc1 => ?_) (fun hc1 => ?_)
      · replace h := ite_t hc1 h
        obtain rfl := Option.some.inj h
        exact hx0 () (Option.some.inj h9).symm _ _ _ hW (lv_sub hl [] rfl)
      · replace h := ite_f hc1 h
        refine lv_iload_n C.1.1 C.1.2.1 dX10_isUnder_10 rfl (lv_at hl 1 rfl) ?_
        refine lv_iconst (v := 0) C.1.1 C.1.2.1 dX10_isUnder_11 (by decide) ?_
        refine lv_iconst (v := 5) C.1.1 C.1.2.1 dX10_isUnder_12 (by decide) ?_
        obtain ⟨r2, hc3, h⟩ := bd1_some h
        refine w_callSi (k := 3) (As := [.int z2, .int (0 : Int32), .int (5 : Int32)]) (rest := []) C hW (c_X10_within g l  hc3 I L) K_X10_79 (by decide +kernel) ⟨by decide, by decide⟩ ⟨Nat.le_refl _, Nat.le_refl _⟩ rfl hl.1 rfl (Nat.le_of_ble_eq_true rfl) dX10_isUnder_13 (fun H locs hW => ?_)
        refine lv_if_eq (tgt := 38) C.1.1 C.1.2.1 dX10_isUnder_16 (by decide) (fun hc4 => ?_) (fun hc4 => ?_)
        · replace h := ite_t hc4 h
          obtain rfl := Option.some.inj h
          exact hx0 () (Option.some.inj h9).symm _ _ _ hW (lv_sub hl [] rfl)
        · replace h := ite_f hc4 h
          refine lv_iload_n C.1.1 C.1.2.1 dX10_isUnder_19 rfl (lv_at hl 1 rfl) ?_
          refine lv_iload_n C.1.1 C.1.2.1 dX10_isUnder_20 rfl (lv_at hl 0 rfl) ?_
          refine lv_icmp_ne (tgt := 26) C.1.1 C.1.2.1 dX10_isUnder_21 (by decide) (fun hc5 => ?_) (fun hc5 => ?_)
          · replace h := ite_f hc5 h
            refine G_X10_353 C hW dX10_isUnder_26 ?_
            refine lv_iload_n C.1.1 C.1.2.1 dX10_isUnder_29 rfl (lv_at hl 1 rfl) ?_
            obtain ⟨hi6, h⟩ := gi_some h
            refine w_ko C hW hi6 dX10_isUnder_30 ?_
            refine lv_topi (fun x7 ex7 => ?_)
            replace h := nm_at ex7 h
            clear ex7
            refine lv_istore_n (lv' := [(2, .int x7), (1, .int v1), (3, .int z3)]) C.1.1 C.1.2.1 dX10_isUnder_31 rfl hl (by decide) rfl (fun ls hl => ?_)
            obtain ⟨x8, ex8⟩ : ∃ y : Int32, y = z3 + (1 : Int32) := ⟨_, rfl⟩
            replace h := nm_at ex8 h
            refine lv_iinc (v := x8) (lv' := [(3, .int x8), (2, .int x7), (1, .int v1)]) C.1.1 C.1.2.1 dX10_isUnder_32 hl (k := 2) rfl (by rw [ex8]; rfl) (by decide) rfl (fun ls hl => ?_)
            clear ex8
            refine lv_goto (tgt := 4) C.1.1 C.1.2.1 dX10_isUnder_35 (by decide) ?_
            obtain rfl := Option.some.inj h
            exact ih _ _ _ h9 _ _ _ hW (lv_sub hl [2, 1, 0] rfl) hx0 hx1
          · replace h := ite_t hc5 h
            obtain rfl := Option.some.inj h
            exact hx1 () (Option.some.inj h9).symm _ _ _ hW (lv_sub hl [] rfl)
def f_X10_isUnder (a1 : Int32) (a2 : Int32) (I : MI) (L : ML) : Option (Int32) :=
  bd1 (lp (fun s => b_X10_isUnder_4 a2 I L s.1 s.2) FU ((a1, (0 : Int32)))) (fun x10 => Sum.elim (fun t12 => some (0 : Int32)) (fun t14 => some (1 : Int32)) x10)
set_option maxHeartbeats 4000000 in
set_option maxRecDepth 100000 in
theorem c_X10_isUnder (g : Gp) (l : Launch) {a1 : Int32} {a2 : Int32}  {I : MI} {L : ML} {r : Int32} (h : f_X10_isUnder a1 a2 I L = some r) : MetI g l yX10_isUnder cX10_isUnder 4 .boolean 1 [.int a1, .int a2] I L r I L := by
  unfold f_X10_isUnder at h
  refine w_enter (by decide) (Nat.le_of_ble_eq_true rfl) (own := RX10) rfl ?_
  intro p e s m below meth c args Q hQ C hr hlocks hW ls hl
  have hl : lv_has ls 4 [(0, .int a1), (1, .int a2)] := hl
  refine lv_iload_n C.1.1 C.1.2.1 dX10_isUnder_0 rfl (lv_at hl 0 rfl) ?_
  refine lv_istore_n (lv' := [(2, .int a1), (0, .int a1), (1, .int a2)]) C.1.1 C.1.2.1 dX10_isUnder_1 rfl hl (by decide) rfl (fun ls hl => ?_)
  refine lv_iconst (v := 0) C.1.1 C.1.2.1 dX10_isUnder_2 (by decide) ?_
  refine lv_istore_n (lv' := [(3, .int (0 : Int32)), (2, .int a1), (0, .int a1), (1, .int a2)]) C.1.1 C.1.2.1 dX10_isUnder_3 rfl hl (by decide) rfl (fun ls hl => ?_)
  obtain ⟨x10, hq9, h⟩ := bd1_some h
  refine l_X10_isUnder_4 C a2  I L _ _ _ _ hq9 _ _ _ hW (lv_sub hl [3, 1, 0] rfl) ?_ ?_
  · intro _ ex11 H locs ls hW hl
    subst ex11
    simp only [Sum.elim_inl, Sum.elim_inr] at h
    refine lv_iconst (v := 0) C.1.1 C.1.2.1 dX10_isUnder_38 (by decide) ?_
    obtain rfl := inj1 h
    subst hQ
    exact w_zret C hW hr hlocks (by decide) dX10_isUnder_39
  · intro _ ex13 H locs ls hW hl
    subst ex13
    simp only [Sum.elim_inl, Sum.elim_inr] at h
    refine lv_iconst (v := 1) C.1.1 C.1.2.1 dX10_isUnder_24 (by decide) ?_
    obtain rfl := inj1 h
    subst hQ
    exact w_zret C hW hr hlocks (by decide) dX10_isUnder_25
def f_X10_as (a1 : Int32) (a2 : Int32) (I : MI) (L : ML) : Option (Int32) :=
  bd1 (f_X9_has 3 a1 I L) (fun r1 => (if r1 = 0 then some (-1 : Int32) else bd1 (f_X10_within a2 (0 : Int32) (5 : Int32)) (fun r4 => (if r4 = 0 then some (-1 : Int32) else gi a1 6 (bd1 (f_X10_isUnder (I (3 + 2 + a1.toNatClampNeg) 0) a2 I L) (fun r8 => bd1 ((if r8 = 0 then some (-12 : Int32) else some a1)) (fun y10 => some y10)))))))
set_option maxHeartbeats 4000000 in
set_option maxRecDepth 100000 in
theorem c_X10_as (g : Gp) (l : Launch) {a1 : Int32} {a2 : Int32}  {I : MI} {L : ML} {r : Int32} (h : f_X10_as a1 a2 I L = some r) : MetI g l yX10_as cX10_as 3 .int 2 [.ref (g.1 + 0), .int a1, .int a2] I L r I L := by
  unfold f_X10_as at h
  refine w_enter (by decide) (Nat.le_of_ble_eq_true rfl) (own := RX10) rfl ?_
  intro p e s m below meth c args Q hQ C hr hlocks hW ls hl
  have hl : lv_has ls 3 [(0, .ref (g.1 + 0)), (1, .int a1), (2, .int a2)] := hl
  refine lv_aload_n C.1.1 C.1.2.1 dX10_as_0 rfl (lv_at hl 0 rfl) ?_
  refine G_X10_19 C hW (by decide) dX10_as_1 ?_
  refine lv_iload_n C.1.1 C.1.2.1 dX10_as_4 rfl (lv_at hl 1 rfl) ?_
  obtain ⟨r1, hc2, h⟩ := bd1_some h
  refine w_callVi (k := 1) (As := [.int a1]) (rest := []) C hW (c_X9_has g l (by decide) hc2) (by decide) rfl (EX_9 (by decide)) K_X10_108 (by decide +kernel) ⟨by decide, by decide⟩ ⟨Nat.le_refl _, Nat.le_refl _⟩ rfl hl.1 rfl (Nat.le_of_ble_eq_true rfl) dX10_as_5 (fun H locs hW => ?_)
  refine lv_if_eq (tgt := 20) C.1.1 C.1.2.1 dX10_as_8 (by decide) (fun hc3 => ?_) (fun hc3 => ?_)
  · replace h := ite_t hc3 h
    refine lv_iconst (v := -1) C.1.1 C.1.2.1 dX10_as_20 (by decide) ?_
    obtain rfl := inj1 h
    subst hQ
    exact w_iret C hW hr hlocks dX10_as_21
  · replace h := ite_f hc3 h
    refine lv_iload_n C.1.1 C.1.2.1 dX10_as_11 rfl (lv_at hl 2 rfl) ?_
    refine lv_iconst (v := 0) C.1.1 C.1.2.1 dX10_as_12 (by decide) ?_
    refine lv_iconst (v := 5) C.1.1 C.1.2.1 dX10_as_13 (by decide) ?_
    obtain ⟨r4, hc5, h⟩ := bd1_some h
    refine w_callSi (k := 3) (As := [.int a2, .int (0 : Int32), .int (5 : Int32)]) (rest := []) C hW (c_X10_within g l  hc5 I L) K_X10_79 (by decide +kernel) ⟨by decide, by decide⟩ ⟨Nat.le_refl _, Nat.le_refl _⟩ rfl hl.1 rfl (Nat.le_of_ble_eq_true rfl) dX10_as_14 (fun H locs hW => ?_)
    refine lv_if_ne (tgt := 22) C.1.1 C.1.2.1 dX10_as_17 (by decide) (fun hc6 => ?_) (fun hc6 => ?_)
    · replace h := ite_f hc6 h
      refine lv_aload_n C.1.1 C.1.2.1 dX10_as_22 rfl (lv_at hl 0 rfl) ?_
      refine G_X10_19 C hW (by decide) dX10_as_23 ?_
      refine G_X10_111 C hW (by decide) dX10_as_26 ?_
      refine lv_iload_n C.1.1 C.1.2.1 dX10_as_29 rfl (lv_at hl 1 rfl) ?_
      obtain ⟨hi7, h⟩ := gi_some h
      refine w_asit C hW (w := 3) (by decide) hi7 dX10_as_30 ?_
      refine G_X10_115 C hW (kd_sit (by decide) hi7) dX10_as_31 ?_
      refine lv_iload_n C.1.1 C.1.2.1 dX10_as_34 rfl (lv_at hl 2 rfl) ?_
      obtain ⟨r8, hc9, h⟩ := bd1_some h
      refine w_callSi (k := 2) (As := [.int (I (3 + 2 + a1.toNatClampNeg) 0), .int a2]) (rest := []) C hW (c_X10_isUnder g l  hc9) K_X10_159 (by decide +kernel) ⟨by decide, by decide⟩ ⟨Nat.le_refl _, Nat.le_refl _⟩ rfl hl.1 rfl (Nat.le_of_ble_eq_true rfl) dX10_as_35 (fun H locs hW => ?_)
      obtain ⟨y10, hj12, h⟩ := bd1_some h
      have kJ11 : ∀ (H : Heap) (locs : List Loc) (ls : Array Slot), Ws g s I L H locs → lv_has ls 3 [] → W p l e (rmD 2) s m args below meth c H locs 0 0 Q (F0 m 47 ls [.int y10]) := by
        intro H locs ls hW hl
        obtain rfl := inj1 h
        subst hQ
        exact w_iret C hW hr hlocks dX10_as_47
      clear h
      have h := hj12
      clear hj12
      refine lv_if_eq (tgt := 45) C.1.1 C.1.2.1 dX10_as_38 (by decide) (fun hc13 => ?_) (fun hc13 => ?_)
      · replace h := ite_t hc13 h
        refine lv_bipush (v := -12) C.1.1 C.1.2.1 dX10_as_45 (by decide) ?_
        obtain rfl := inj1 h
        exact kJ11 _ _ _ hW (lv_sub hl [] rfl)
      · replace h := ite_f hc13 h
        refine lv_iload_n C.1.1 C.1.2.1 dX10_as_41 rfl (lv_at hl 1 rfl) ?_
        refine lv_goto (tgt := 47) C.1.1 C.1.2.1 dX10_as_42 (by decide) ?_
        obtain rfl := inj1 h
        exact kJ11 _ _ _ hW (lv_sub hl [] rfl)
    · replace h := ite_t hc6 h
      refine lv_iconst (v := -1) C.1.1 C.1.2.1 dX10_as_20 (by decide) ?_
      obtain rfl := inj1 h
      subst hQ
      exact w_iret C hW hr hlocks dX10_as_21
def b_X10_hours_45 (v1 : Int32) (L : ML) (z2 : Int32) (I : MI) : Option ((Int32 × MI) ⊕ ((MI))) :=
  (if v1 ≤ z2 then some (Sum.inr I) else bd1 (f_X3_keep 3 I L) (fun I9 => bd1 (f_X9_passHour 3 I9 L) (fun I11 => nm (z2 + (1 : Int32)) (fun x13 => some (Sum.inl (x13, I11))))))
set_option maxHeartbeats 4000000 in
set_option maxRecDepth 100000 in
theorem l_X10_hours_45 {g : Gp} {p : Program} {l : Launch} {e : Env} {s : State} {m : MethodId} {args : Array Value} {below : List Frame} {meth : Method} {c : Code} {Q : State → Prop}  (C : Cx g p s m args c RX10 cX10_hours 3) (v1 : Int32)  (L : ML) : ∀ (n : Nat) (z2 : Int32) (I : MI) (Iy0 : MI), lp (fun s => b_X10_hours_45 v1 L s.1 s.2) n (z2, I) = some Iy0 → ∀ (H : Heap) (locs : List Loc) (ls : Array Slot), Ws g s I L H locs → lv_has ls 3 [(0, .ref (g.1 + 0)), (1, .int v1), (2, .int z2)] → (∀ (H : Heap) (locs : List Loc) (ls : Array Slot), Ws g s Iy0 L H locs → lv_has ls 3 [(0, .ref (g.1 + 0))] → W p l e (rmD 4) s m args below meth c H locs 0 0 Q (F0 m 74 ls [])) → W p l e (rmD 4) s m args below meth c H locs 0 0 Q (F0 m 45 ls []) := by
  intro n
  induction n with
  | zero => intro z2 I Iy0 h; exact lp_zero h
  | succ n ih =>
      intro z2 I Iy0 h H locs ls hW hl hx0
      obtain ⟨r9, h, h9⟩ := lp_some h
      have h : b_X10_hours_45 v1 L z2 I = some r9 := h
      unfold b_X10_hours_45 at h
      refine lv_iload_n C.1.1 C.1.2.1 dX10_hours_45 rfl (lv_at hl 2 rfl) ?_
      refine lv_iload_n C.1.1 C.1.2.1 dX10_hours_46 rfl (lv_at hl 1 rfl) ?_
      refine lv_icmp_ge (tgt := 74) C.1.1 C.1.2.1 dX10_hours_47 (by decide) (fun hc8 => ?_) (fun hc8 => ?_)
      · replace h := ite_t hc8 h
        obtain rfl := Option.some.inj h
        replace h9 := Option.some.inj h9
        obtain rfl := pnj1 h9
        exact hx0 _ _ _ hW (lv_sub hl [0] rfl)
      · replace h := ite_f hc8 h
        refine lv_aload_n C.1.1 C.1.2.1 dX10_hours_50 rfl (lv_at hl 0 rfl) ?_
        refine G_X10_29 C hW (by decide) dX10_hours_51 ?_
        refine lv_aload_n C.1.1 C.1.2.1 dX10_hours_54 rfl (lv_at hl 0 rfl) ?_
        refine G_X10_19 C hW (by decide) dX10_hours_55 ?_
        obtain ⟨I9, hc10, h⟩ := bd1_some h
        refine w_callVv (k := 1) (As := [.ref (g.1 + 3)]) (rest := []) C hW (c_X3_keep g l (by decide) hc10) (by decide) rfl (EX_3 (by decide)) K_X10_169 (by decide +kernel) ⟨by decide, by decide⟩ ⟨Nat.le_refl _, Nat.le_refl _⟩ rfl hl.1 rfl (Nat.le_of_ble_eq_true rfl) dX10_hours_58 (fun H locs hW => ?_)
        refine lv_aload_n C.1.1 C.1.2.1 dX10_hours_61 rfl (lv_at hl 0 rfl) ?_
        refine G_X10_19 C hW (by decide) dX10_hours_62 ?_
        obtain ⟨I11, hc12, h⟩ := bd1_some h
        refine w_callVv (k := 0) (As := []) (rest := []) C hW (c_X9_passHour g l (by decide) hc12) (by decide) rfl (EX_9 (by decide)) K_X10_172 (by decide +kernel) ⟨by decide, by decide⟩ ⟨Nat.le_refl _, Nat.le_refl _⟩ rfl hl.1 rfl (Nat.le_of_ble_eq_true rfl) dX10_hours_65 (fun H locs hW => ?_)
        obtain ⟨x13, ex13⟩ : ∃ y : Int32, y = z2 + (1 : Int32) := ⟨_, rfl⟩
        replace h := nm_at ex13 h
        refine lv_iinc (v := x13) (lv' := [(2, .int x13), (0, .ref (g.1 + 0)), (1, .int v1)]) C.1.1 C.1.2.1 dX10_hours_68 hl (k := 2) rfl (by rw [ex13]; rfl) (by decide) rfl (fun ls hl => ?_)
        clear ex13
        refine lv_goto (tgt := 45) C.1.1 C.1.2.1 dX10_hours_71 (by decide) ?_
        obtain rfl := Option.some.inj h
        exact ih _ _ _ h9 _ _ _ hW (lv_sub hl [1, 2, 0] rfl) hx0
def f_X10_hours (a1 : Int32) (I : MI) (L : ML) : Option (Int32 × MI) :=
  bd1 (f_X10_within a1 (1 : Int32) (24 : Int32)) (fun r1 => (if r1 = 0 then some (((-1 : Int32), I)) else bd1 (f_X9_stands 3 I L) (fun r4 => (if r4 = 0 then some (((-2 : Int32), I)) else (if ((I 3 4) + a1) ≤ (9999 : Int32) then bd1 (lp (fun s => b_X10_hours_45 a1 L s.1 s.2) FU (((0 : Int32), I))) (fun I15 => bd1 (f_X9_sitting 3 I15 L) (fun r16 => some (r16, I15))) else some (((-3 : Int32), I)))))))
set_option maxHeartbeats 4000000 in
set_option maxRecDepth 100000 in
theorem c_X10_hours (g : Gp) (l : Launch) {a1 : Int32}  {I : MI} {L : ML} {r : Int32} {I' : MI} (h : f_X10_hours a1 I L = some (r, I')) : MetI g l yX10_hours cX10_hours 3 .int 4 [.ref (g.1 + 0), .int a1] I L r I' L := by
  unfold f_X10_hours at h
  refine w_enter (by decide) (Nat.le_of_ble_eq_true rfl) (own := RX10) rfl ?_
  intro p e s m below meth c args Q hQ C hr hlocks hW ls hl
  have hl : lv_has ls 3 [(0, .ref (g.1 + 0)), (1, .int a1)] := hl
  refine lv_iload_n C.1.1 C.1.2.1 dX10_hours_0 rfl (lv_at hl 1 rfl) ?_
  refine lv_iconst (v := 1) C.1.1 C.1.2.1 dX10_hours_1 (by decide) ?_
  refine lv_bipush (v := 24) C.1.1 C.1.2.1 dX10_hours_2 (by decide) ?_
  obtain ⟨r1, hc2, h⟩ := bd1_some h
  refine w_callSi (k := 3) (As := [.int a1, .int (1 : Int32), .int (24 : Int32)]) (rest := []) C hW (c_X10_within g l  hc2 I L) K_X10_79 (by decide +kernel) ⟨by decide, by decide⟩ ⟨Nat.le_refl _, Nat.le_refl _⟩ rfl hl.1 rfl (Nat.le_of_ble_eq_true rfl) dX10_hours_4 (fun H locs hW => ?_)
  refine lv_if_ne (tgt := 12) C.1.1 C.1.2.1 dX10_hours_7 (by decide) (fun hc3 => ?_) (fun hc3 => ?_)
  · replace h := ite_f hc3 h
    refine lv_aload_n C.1.1 C.1.2.1 dX10_hours_12 rfl (lv_at hl 0 rfl) ?_
    refine G_X10_19 C hW (by decide) dX10_hours_13 ?_
    obtain ⟨r4, hc5, h⟩ := bd1_some h
    refine w_callVi (k := 0) (As := []) (rest := []) C hW (c_X9_stands g l (by decide) hc5) (by decide) rfl (EX_9 (by decide)) K_X10_163 (by decide +kernel) ⟨by decide, by decide⟩ ⟨Nat.le_refl _, Nat.le_refl _⟩ rfl hl.1 rfl (Nat.le_of_ble_eq_true rfl) dX10_hours_16 (fun H locs hW => ?_)
    refine lv_if_ne (tgt := 25) C.1.1 C.1.2.1 dX10_hours_19 (by decide) (fun hc6 => ?_) (fun hc6 => ?_)
    · replace h := ite_f hc6 h
      refine lv_aload_n C.1.1 C.1.2.1 dX10_hours_25 rfl (lv_at hl 0 rfl) ?_
      refine G_X10_19 C hW (by decide) dX10_hours_26 ?_
      refine G_X10_166 C hW (by decide) dX10_hours_29 ?_
      refine lv_iload_n C.1.1 C.1.2.1 dX10_hours_32 rfl (lv_at hl 1 rfl) ?_
      refine lv_iadd C.1.1 C.1.2.1 dX10_hours_33 ?_
      refine lv_sipush (v := 9999) C.1.1 C.1.2.1 dX10_hours_34 (by decide) ?_
      refine lv_icmp_le (tgt := 43) C.1.1 C.1.2.1 dX10_hours_37 (by decide) (fun hc7 => ?_) (fun hc7 => ?_)
      · replace h := ite_t hc7 h
        refine lv_iconst (v := 0) C.1.1 C.1.2.1 dX10_hours_43 (by decide) ?_
        refine lv_istore_n (lv' := [(2, .int (0 : Int32)), (0, .ref (g.1 + 0)), (1, .int a1)]) C.1.1 C.1.2.1 dX10_hours_44 rfl hl (by decide) rfl (fun ls hl => ?_)
        obtain ⟨I15, hq14, h⟩ := bd1_some h
        refine l_X10_hours_45 C a1  L _ _ _ _ hq14 _ _ _ hW (lv_sub hl [1, 2, 0] rfl) (fun H locs ls hW hl => ?_)
        refine lv_aload_n C.1.1 C.1.2.1 dX10_hours_74 rfl (lv_at hl 0 rfl) ?_
        refine G_X10_19 C hW (by decide) dX10_hours_75 ?_
        obtain ⟨r16, hc17, h⟩ := bd1_some h
        refine w_callVi (k := 0) (As := []) (rest := []) C hW (c_X9_sitting g l (by decide) hc17) (by decide) rfl (EX_9 (by decide)) K_X10_175 (by decide +kernel) ⟨by decide, by decide⟩ ⟨Nat.le_refl _, Nat.le_refl _⟩ rfl hl.1 rfl (Nat.le_of_ble_eq_true rfl) dX10_hours_78 (fun H locs hW => ?_)
        obtain ⟨rfl, rfl⟩ := inj2 h
        subst hQ
        exact w_iret C hW hr hlocks dX10_hours_81
      · replace h := ite_f hc7 h
        refine lv_bipush (v := -3) C.1.1 C.1.2.1 dX10_hours_40 (by decide) ?_
        obtain ⟨rfl, rfl⟩ := inj2 h
        subst hQ
        exact w_iret C hW hr hlocks dX10_hours_42
    · replace h := ite_t hc6 h
      refine lv_bipush (v := -2) C.1.1 C.1.2.1 dX10_hours_22 (by decide) ?_
      obtain ⟨rfl, rfl⟩ := inj2 h
      subst hQ
      exact w_iret C hW hr hlocks dX10_hours_24
  · replace h := ite_t hc3 h
    refine lv_iconst (v := -1) C.1.1 C.1.2.1 dX10_hours_10 (by decide) ?_
    obtain ⟨rfl, rfl⟩ := inj2 h
    subst hQ
    exact w_iret C hW hr hlocks dX10_hours_11
def f_X10_crust (a1 : Int32) (I : MI) (L : ML) : Option (Int32 × MI) :=
  bd1 (f_X9_has 3 a1 I L) (fun r1 => (if r1 = 0 then some (((-1 : Int32), I)) else gi a1 6 (bd1 (f_X6_canEat (3 + 2 + a1.toNatClampNeg) I L) (fun r5 => (if r5 = 0 then some (((-2 : Int32), I)) else bd1 (f_X3_keep 3 I L) (fun I8 => bd1 (f_X6_eatCrust (3 + 2 + a1.toNatClampNeg) I8 L) (fun I10 => some ((I10 (3 + 2 + a1.toNatClampNeg) 5, I10)))))))))
set_option maxHeartbeats 4000000 in
set_option maxRecDepth 100000 in
theorem c_X10_crust (g : Gp) (l : Launch) {a1 : Int32}  {I : MI} {L : ML} {r : Int32} {I' : MI} (h : f_X10_crust a1 I L = some (r, I')) : MetI g l yX10_crust cX10_crust 3 .int 3 [.ref (g.1 + 0), .int a1] I L r I' L := by
  unfold f_X10_crust at h
  refine w_enter (by decide) (Nat.le_of_ble_eq_true rfl) (own := RX10) rfl ?_
  intro p e s m below meth c args Q hQ C hr hlocks hW ls hl
  have hl : lv_has ls 3 [(0, .ref (g.1 + 0)), (1, .int a1)] := hl
  refine lv_aload_n C.1.1 C.1.2.1 dX10_crust_0 rfl (lv_at hl 0 rfl) ?_
  refine G_X10_19 C hW (by decide) dX10_crust_1 ?_
  refine lv_iload_n C.1.1 C.1.2.1 dX10_crust_4 rfl (lv_at hl 1 rfl) ?_
  obtain ⟨r1, hc2, h⟩ := bd1_some h
  refine w_callVi (k := 1) (As := [.int a1]) (rest := []) C hW (c_X9_has g l (by decide) hc2) (by decide) rfl (EX_9 (by decide)) K_X10_108 (by decide +kernel) ⟨by decide, by decide⟩ ⟨Nat.le_refl _, Nat.le_refl _⟩ rfl hl.1 rfl (Nat.le_of_ble_eq_true rfl) dX10_crust_5 (fun H locs hW => ?_)
  refine lv_if_ne (tgt := 13) C.1.1 C.1.2.1 dX10_crust_8 (by decide) (fun hc3 => ?_) (fun hc3 => ?_)
  · replace h := ite_f hc3 h
    refine lv_aload_n C.1.1 C.1.2.1 dX10_crust_13 rfl (lv_at hl 0 rfl) ?_
    refine G_X10_19 C hW (by decide) dX10_crust_14 ?_
    refine G_X10_111 C hW (by decide) dX10_crust_17 ?_
    refine lv_iload_n C.1.1 C.1.2.1 dX10_crust_20 rfl (lv_at hl 1 rfl) ?_
    obtain ⟨hi4, h⟩ := gi_some h
    refine w_asit C hW (w := 3) (by decide) hi4 dX10_crust_21 ?_
    refine lv_astore_n (lv' := [(2, .ref (g.1 + (3 + 2 + a1.toNatClampNeg))), (0, .ref (g.1 + 0)), (1, .int a1)]) C.1.1 C.1.2.1 dX10_crust_22 rfl hl (by decide) rfl (fun ls hl => ?_)
    refine lv_aload_n C.1.1 C.1.2.1 dX10_crust_23 rfl (lv_at hl 0 rfl) ?_
    obtain ⟨r5, hc6, h⟩ := bd1_some h
    refine w_callVi (k := 0) (As := []) (rest := []) C hW (c_X6_canEat g l (kd_sit (by decide) hi4) hc6) (kd_sit (by decide) hi4) rfl (EX_6 (kd_sit (by decide) hi4)) K_X10_179 (by decide +kernel) ⟨by decide, by decide⟩ ⟨Nat.le_refl _, Nat.le_refl _⟩ rfl hl.1 rfl (Nat.le_of_ble_eq_true rfl) dX10_crust_24 (fun H locs hW => ?_)
    refine lv_if_ne (tgt := 33) C.1.1 C.1.2.1 dX10_crust_27 (by decide) (fun hc7 => ?_) (fun hc7 => ?_)
    · replace h := ite_f hc7 h
      refine lv_aload_n C.1.1 C.1.2.1 dX10_crust_33 rfl (lv_at hl 1 rfl) ?_
      refine G_X10_29 C hW (by decide) dX10_crust_34 ?_
      refine lv_aload_n C.1.1 C.1.2.1 dX10_crust_37 rfl (lv_at hl 1 rfl) ?_
      refine G_X10_19 C hW (by decide) dX10_crust_38 ?_
      obtain ⟨I8, hc9, h⟩ := bd1_some h
      refine w_callVv (k := 1) (As := [.ref (g.1 + 3)]) (rest := []) C hW (c_X3_keep g l (by decide) hc9) (by decide) rfl (EX_3 (by decide)) K_X10_169 (by decide +kernel) ⟨by decide, by decide⟩ ⟨Nat.le_refl _, Nat.le_refl _⟩ rfl hl.1 rfl (Nat.le_of_ble_eq_true rfl) dX10_crust_41 (fun H locs hW => ?_)
      refine lv_aload_n C.1.1 C.1.2.1 dX10_crust_44 rfl (lv_at hl 0 rfl) ?_
      obtain ⟨I10, hc11, h⟩ := bd1_some h
      refine w_callVv (k := 0) (As := []) (rest := []) C hW (c_X6_eatCrust g l (kd_sit (by decide) hi4) hc11) (kd_sit (by decide) hi4) rfl (EX_6 (kd_sit (by decide) hi4)) K_X10_182 (by decide +kernel) ⟨by decide, by decide⟩ ⟨Nat.le_refl _, Nat.le_refl _⟩ rfl hl.1 rfl (Nat.le_of_ble_eq_true rfl) dX10_crust_45 (fun H locs hW => ?_)
      refine lv_aload_n C.1.1 C.1.2.1 dX10_crust_48 rfl (lv_at hl 0 rfl) ?_
      refine G_X10_132 C hW (kd_sit (by decide) hi4) dX10_crust_49 ?_
      obtain ⟨rfl, rfl⟩ := inj2 h
      subst hQ
      exact w_iret C hW hr hlocks dX10_crust_52
    · replace h := ite_t hc7 h
      refine lv_bipush (v := -2) C.1.1 C.1.2.1 dX10_crust_30 (by decide) ?_
      obtain ⟨rfl, rfl⟩ := inj2 h
      subst hQ
      exact w_iret C hW hr hlocks dX10_crust_32
  · replace h := ite_t hc3 h
    refine lv_iconst (v := -1) C.1.1 C.1.2.1 dX10_crust_11 (by decide) ?_
    obtain ⟨rfl, rfl⟩ := inj2 h
    subst hQ
    exact w_iret C hW hr hlocks dX10_crust_12
def f_X10_news (a1 : Int32) (a2 : Int32) (I : MI) (L : ML) : Option (Int32 × MI) :=
  bd1 (f_X9_has 3 a1 I L) (fun r1 => (if r1 = 0 then some (((-1 : Int32), I)) else bd1 (f_X10_within a2 (0 : Int32) (2 : Int32)) (fun r4 => (if r4 = 0 then some (((-1 : Int32), I)) else gi a1 6 (bd1 (f_X6_sits (3 + 2 + a1.toNatClampNeg) I L) (fun r8 => (if r8 = 0 then some (((-2 : Int32), I)) else bd1 (f_X3_keep 3 I L) (fun I11 => nm (I11 (3 + 2 + a1.toNatClampNeg) 7) (fun x13 => nm (up2 I11 (3 + 2 + a1.toNatClampNeg) 7 a2) (fun I14 => some (x13, I14)))))))))))
set_option maxHeartbeats 4000000 in
set_option maxRecDepth 100000 in
theorem c_X10_news (g : Gp) (l : Launch) {a1 : Int32} {a2 : Int32}  {I : MI} {L : ML} {r : Int32} {I' : MI} (h : f_X10_news a1 a2 I L = some (r, I')) : MetI g l yX10_news cX10_news 5 .int 3 [.ref (g.1 + 0), .int a1, .int a2] I L r I' L := by
  unfold f_X10_news at h
  refine w_enter (by decide) (Nat.le_of_ble_eq_true rfl) (own := RX10) rfl ?_
  intro p e s m below meth c args Q hQ C hr hlocks hW ls hl
  have hl : lv_has ls 5 [(0, .ref (g.1 + 0)), (1, .int a1), (2, .int a2)] := hl
  refine lv_aload_n C.1.1 C.1.2.1 dX10_news_0 rfl (lv_at hl 0 rfl) ?_
  refine G_X10_19 C hW (by decide) dX10_news_1 ?_
  refine lv_iload_n C.1.1 C.1.2.1 dX10_news_4 rfl (lv_at hl 1 rfl) ?_
  obtain ⟨r1, hc2, h⟩ := bd1_some h
  refine w_callVi (k := 1) (As := [.int a1]) (rest := []) C hW (c_X9_has g l (by decide) hc2) (by decide) rfl (EX_9 (by decide)) K_X10_108 (by decide +kernel) ⟨by decide, by decide⟩ ⟨Nat.le_refl _, Nat.le_refl _⟩ rfl hl.1 rfl (Nat.le_of_ble_eq_true rfl) dX10_news_5 (fun H locs hW => ?_)
  refine lv_if_eq (tgt := 20) C.1.1 C.1.2.1 dX10_news_8 (by decide) (fun hc3 => ?_) (fun hc3 => ?_)
  · replace h := ite_t hc3 h
    refine lv_iconst (v := -1) C.1.1 C.1.2.1 dX10_news_20 (by decide) ?_
    obtain ⟨rfl, rfl⟩ := inj2 h
    subst hQ
    exact w_iret C hW hr hlocks dX10_news_21
  · replace h := ite_f hc3 h
    refine lv_iload_n C.1.1 C.1.2.1 dX10_news_11 rfl (lv_at hl 2 rfl) ?_
    refine lv_iconst (v := 0) C.1.1 C.1.2.1 dX10_news_12 (by decide) ?_
    refine lv_iconst (v := 2) C.1.1 C.1.2.1 dX10_news_13 (by decide) ?_
    obtain ⟨r4, hc5, h⟩ := bd1_some h
    refine w_callSi (k := 3) (As := [.int a2, .int (0 : Int32), .int (2 : Int32)]) (rest := []) C hW (c_X10_within g l  hc5 I L) K_X10_79 (by decide +kernel) ⟨by decide, by decide⟩ ⟨Nat.le_refl _, Nat.le_refl _⟩ rfl hl.1 rfl (Nat.le_of_ble_eq_true rfl) dX10_news_14 (fun H locs hW => ?_)
    refine lv_if_ne (tgt := 22) C.1.1 C.1.2.1 dX10_news_17 (by decide) (fun hc6 => ?_) (fun hc6 => ?_)
    · replace h := ite_f hc6 h
      refine lv_aload_n C.1.1 C.1.2.1 dX10_news_22 rfl (lv_at hl 0 rfl) ?_
      refine G_X10_19 C hW (by decide) dX10_news_23 ?_
      refine G_X10_111 C hW (by decide) dX10_news_26 ?_
      refine lv_iload_n C.1.1 C.1.2.1 dX10_news_29 rfl (lv_at hl 1 rfl) ?_
      obtain ⟨hi7, h⟩ := gi_some h
      refine w_asit C hW (w := 3) (by decide) hi7 dX10_news_30 ?_
      refine lv_astore_n (lv' := [(3, .ref (g.1 + (3 + 2 + a1.toNatClampNeg))), (0, .ref (g.1 + 0)), (1, .int a1), (2, .int a2)]) C.1.1 C.1.2.1 dX10_news_31 rfl hl (by decide) rfl (fun ls hl => ?_)
      refine lv_aload_n C.1.1 C.1.2.1 dX10_news_32 rfl (lv_at hl 0 rfl) ?_
      obtain ⟨r8, hc9, h⟩ := bd1_some h
      refine w_callVi (k := 0) (As := []) (rest := []) C hW (c_X6_sits g l (kd_sit (by decide) hi7) hc9) (kd_sit (by decide) hi7) rfl (EX_6 (kd_sit (by decide) hi7)) K_X10_185 (by decide +kernel) ⟨by decide, by decide⟩ ⟨Nat.le_refl _, Nat.le_refl _⟩ rfl hl.1 rfl (Nat.le_of_ble_eq_true rfl) dX10_news_33 (fun H locs hW => ?_)
      refine lv_if_ne (tgt := 42) C.1.1 C.1.2.1 dX10_news_36 (by decide) (fun hc10 => ?_) (fun hc10 => ?_)
      · replace h := ite_f hc10 h
        refine lv_aload_n C.1.1 C.1.2.1 dX10_news_42 rfl (lv_at hl 1 rfl) ?_
        refine G_X10_29 C hW (by decide) dX10_news_43 ?_
        refine lv_aload_n C.1.1 C.1.2.1 dX10_news_46 rfl (lv_at hl 1 rfl) ?_
        refine G_X10_19 C hW (by decide) dX10_news_47 ?_
        obtain ⟨I11, hc12, h⟩ := bd1_some h
        refine w_callVv (k := 1) (As := [.ref (g.1 + 3)]) (rest := []) C hW (c_X3_keep g l (by decide) hc12) (by decide) rfl (EX_3 (by decide)) K_X10_169 (by decide +kernel) ⟨by decide, by decide⟩ ⟨Nat.le_refl _, Nat.le_refl _⟩ rfl hl.1 rfl (Nat.le_of_ble_eq_true rfl) dX10_news_50 (fun H locs hW => ?_)
        refine lv_aload_n C.1.1 C.1.2.1 dX10_news_53 rfl (lv_at hl 0 rfl) ?_
        refine G_X10_138 C hW (kd_sit (by decide) hi7) dX10_news_54 ?_
        refine lv_topi (fun x13 ex13 => ?_)
        replace h := nm_at ex13 h
        clear ex13
        refine lv_istore (lv' := [(4, .int x13), (3, .ref (g.1 + (3 + 2 + a1.toNatClampNeg))), (0, .ref (g.1 + 0)), (1, .int a1), (2, .int a2)]) C.1.1 C.1.2.1 dX10_news_57 hl (by decide) rfl (fun ls hl => ?_)
        refine lv_aload_n C.1.1 C.1.2.1 dX10_news_59 rfl (lv_at hl 1 rfl) ?_
        refine lv_iload_n C.1.1 C.1.2.1 dX10_news_60 rfl (lv_at hl 4 rfl) ?_
        refine P_X10_138 C hW (kd_sit (by decide) hi7) dX10_news_61 (fun H locs hW => ?_)
        obtain ⟨I14, eI14, h⟩ := nm_some h
        rw [← eI14] at hW
        clear eI14
        refine lv_iload C.1.1 C.1.2.1 dX10_news_64 (lv_at hl 0 rfl) ?_
        obtain ⟨rfl, rfl⟩ := inj2 h
        subst hQ
        exact w_iret C hW hr hlocks dX10_news_66
      · replace h := ite_t hc10 h
        refine lv_bipush (v := -2) C.1.1 C.1.2.1 dX10_news_39 (by decide) ?_
        obtain ⟨rfl, rfl⟩ := inj2 h
        subst hQ
        exact w_iret C hW hr hlocks dX10_news_41
    · replace h := ite_t hc6 h
      refine lv_iconst (v := -1) C.1.1 C.1.2.1 dX10_news_20 (by decide) ?_
      obtain ⟨rfl, rfl⟩ := inj2 h
      subst hQ
      exact w_iret C hW hr hlocks dX10_news_21
def f_X10_praise (a1 : Int32) (I : MI) (L : ML) : Option (Int32 × MI) :=
  bd1 (f_X9_has 3 a1 I L) (fun r1 => (if r1 = 0 then some (((-1 : Int32), I)) else gi a1 6 (bd1 (f_X6_sits (3 + 2 + a1.toNatClampNeg) I L) (fun r5 => (if r5 = 0 then some (((-2 : Int32), I)) else (if (I (3 + 2 + a1.toNatClampNeg) 8) < (9 : Int32) then bd1 (f_X3_keep 3 I L) (fun I9 => nm (up2 I9 (3 + 2 + a1.toNatClampNeg) 8 ((I9 (3 + 2 + a1.toNatClampNeg) 8) + (1 : Int32))) (fun I11 => some ((I11 (3 + 2 + a1.toNatClampNeg) 8, I11)))) else some (((-2 : Int32), I))))))))
set_option maxHeartbeats 4000000 in
set_option maxRecDepth 100000 in
theorem c_X10_praise (g : Gp) (l : Launch) {a1 : Int32}  {I : MI} {L : ML} {r : Int32} {I' : MI} (h : f_X10_praise a1 I L = some (r, I')) : MetI g l yX10_praise cX10_praise 3 .int 3 [.ref (g.1 + 0), .int a1] I L r I' L := by
  unfold f_X10_praise at h
  refine w_enter (by decide) (Nat.le_of_ble_eq_true rfl) (own := RX10) rfl ?_
  intro p e s m below meth c args Q hQ C hr hlocks hW ls hl
  have hl : lv_has ls 3 [(0, .ref (g.1 + 0)), (1, .int a1)] := hl
  refine lv_aload_n C.1.1 C.1.2.1 dX10_praise_0 rfl (lv_at hl 0 rfl) ?_
  refine G_X10_19 C hW (by decide) dX10_praise_1 ?_
  refine lv_iload_n C.1.1 C.1.2.1 dX10_praise_4 rfl (lv_at hl 1 rfl) ?_
  obtain ⟨r1, hc2, h⟩ := bd1_some h
  refine w_callVi (k := 1) (As := [.int a1]) (rest := []) C hW (c_X9_has g l (by decide) hc2) (by decide) rfl (EX_9 (by decide)) K_X10_108 (by decide +kernel) ⟨by decide, by decide⟩ ⟨Nat.le_refl _, Nat.le_refl _⟩ rfl hl.1 rfl (Nat.le_of_ble_eq_true rfl) dX10_praise_5 (fun H locs hW => ?_)
  refine lv_if_ne (tgt := 13) C.1.1 C.1.2.1 dX10_praise_8 (by decide) (fun hc3 => ?_) (fun hc3 => ?_)
  · replace h := ite_f hc3 h
    refine lv_aload_n C.1.1 C.1.2.1 dX10_praise_13 rfl (lv_at hl 0 rfl) ?_
    refine G_X10_19 C hW (by decide) dX10_praise_14 ?_
    refine G_X10_111 C hW (by decide) dX10_praise_17 ?_
    refine lv_iload_n C.1.1 C.1.2.1 dX10_praise_20 rfl (lv_at hl 1 rfl) ?_
    obtain ⟨hi4, h⟩ := gi_some h
    refine w_asit C hW (w := 3) (by decide) hi4 dX10_praise_21 ?_
    refine lv_astore_n (lv' := [(2, .ref (g.1 + (3 + 2 + a1.toNatClampNeg))), (0, .ref (g.1 + 0)), (1, .int a1)]) C.1.1 C.1.2.1 dX10_praise_22 rfl hl (by decide) rfl (fun ls hl => ?_)
    refine lv_aload_n C.1.1 C.1.2.1 dX10_praise_23 rfl (lv_at hl 0 rfl) ?_
    obtain ⟨r5, hc6, h⟩ := bd1_some h
    refine w_callVi (k := 0) (As := []) (rest := []) C hW (c_X6_sits g l (kd_sit (by decide) hi4) hc6) (kd_sit (by decide) hi4) rfl (EX_6 (kd_sit (by decide) hi4)) K_X10_185 (by decide +kernel) ⟨by decide, by decide⟩ ⟨Nat.le_refl _, Nat.le_refl _⟩ rfl hl.1 rfl (Nat.le_of_ble_eq_true rfl) dX10_praise_24 (fun H locs hW => ?_)
    refine lv_if_eq (tgt := 39) C.1.1 C.1.2.1 dX10_praise_27 (by decide) (fun hc7 => ?_) (fun hc7 => ?_)
    · replace h := ite_t hc7 h
      refine lv_bipush (v := -2) C.1.1 C.1.2.1 dX10_praise_39 (by decide) ?_
      obtain ⟨rfl, rfl⟩ := inj2 h
      subst hQ
      exact w_iret C hW hr hlocks dX10_praise_41
    · replace h := ite_f hc7 h
      refine lv_aload_n C.1.1 C.1.2.1 dX10_praise_30 rfl (lv_at hl 0 rfl) ?_
      refine G_X10_141 C hW (kd_sit (by decide) hi4) dX10_praise_31 ?_
      refine lv_bipush (v := 9) C.1.1 C.1.2.1 dX10_praise_34 (by decide) ?_
      refine lv_icmp_lt (tgt := 42) C.1.1 C.1.2.1 dX10_praise_36 (by decide) (fun hc8 => ?_) (fun hc8 => ?_)
      · replace h := ite_t hc8 h
        refine lv_aload_n C.1.1 C.1.2.1 dX10_praise_42 rfl (lv_at hl 1 rfl) ?_
        refine G_X10_29 C hW (by decide) dX10_praise_43 ?_
        refine lv_aload_n C.1.1 C.1.2.1 dX10_praise_46 rfl (lv_at hl 1 rfl) ?_
        refine G_X10_19 C hW (by decide) dX10_praise_47 ?_
        obtain ⟨I9, hc10, h⟩ := bd1_some h
        refine w_callVv (k := 1) (As := [.ref (g.1 + 3)]) (rest := []) C hW (c_X3_keep g l (by decide) hc10) (by decide) rfl (EX_3 (by decide)) K_X10_169 (by decide +kernel) ⟨by decide, by decide⟩ ⟨Nat.le_refl _, Nat.le_refl _⟩ rfl hl.1 rfl (Nat.le_of_ble_eq_true rfl) dX10_praise_50 (fun H locs hW => ?_)
        refine lv_aload_n C.1.1 C.1.2.1 dX10_praise_53 rfl (lv_at hl 0 rfl) ?_
        refine lv_dup C.1.1 C.1.2.1 dX10_praise_54 rfl ?_
        refine G_X10_141 C hW (kd_sit (by decide) hi4) dX10_praise_55 ?_
        refine lv_iconst (v := 1) C.1.1 C.1.2.1 dX10_praise_58 (by decide) ?_
        refine lv_iadd C.1.1 C.1.2.1 dX10_praise_59 ?_
        refine P_X10_141 C hW (kd_sit (by decide) hi4) dX10_praise_60 (fun H locs hW => ?_)
        obtain ⟨I11, eI11, h⟩ := nm_some h
        rw [← eI11] at hW
        clear eI11
        refine lv_aload_n C.1.1 C.1.2.1 dX10_praise_63 rfl (lv_at hl 0 rfl) ?_
        refine G_X10_141 C hW (kd_sit (by decide) hi4) dX10_praise_64 ?_
        obtain ⟨rfl, rfl⟩ := inj2 h
        subst hQ
        exact w_iret C hW hr hlocks dX10_praise_67
      · replace h := ite_f hc8 h
        refine lv_bipush (v := -2) C.1.1 C.1.2.1 dX10_praise_39 (by decide) ?_
        obtain ⟨rfl, rfl⟩ := inj2 h
        subst hQ
        exact w_iret C hW hr hlocks dX10_praise_41
  · replace h := ite_t hc3 h
    refine lv_iconst (v := -1) C.1.1 C.1.2.1 dX10_praise_11 (by decide) ?_
    obtain ⟨rfl, rfl⟩ := inj2 h
    subst hQ
    exact w_iret C hW hr hlocks dX10_praise_12
def f_X10_cloak (a1 : Int32) (a2 : Int32) (I : MI) (L : ML) : Option (Int32 × MI) :=
  bd1 (f_X9_has 3 a1 I L) (fun r1 => (if r1 = 0 then some (((-1 : Int32), I)) else bd1 (f_X10_within a2 (0 : Int32) (1 : Int32)) (fun r4 => (if r4 = 0 then some (((-1 : Int32), I)) else gi a1 6 (bd1 ((if a2 = (1 : Int32) then some (1 : Int32) else some (0 : Int32))) (fun y8 => bd1 (f_X6_sits (3 + 2 + a1.toNatClampNeg) I L) (fun r11 => (if r11 = 0 then some (((-2 : Int32), I)) else (if (I (3 + 2 + a1.toNatClampNeg) 9) = y8 then some (((-2 : Int32), I)) else bd1 (f_X3_keep 3 I L) (fun I15 => gd (y8 = 0 ∨ y8 = 1) (nm (up2 I15 (3 + 2 + a1.toNatClampNeg) 9 y8) (fun I18 => bd1 (f_X9_cloaks 3 I18 L) (fun r19 => some (r19, I18))))))))))))))
set_option maxHeartbeats 4000000 in
set_option maxRecDepth 100000 in
theorem c_X10_cloak (g : Gp) (l : Launch) {a1 : Int32} {a2 : Int32}  {I : MI} {L : ML} {r : Int32} {I' : MI} (h : f_X10_cloak a1 a2 I L = some (r, I')) : MetI g l yX10_cloak cX10_cloak 5 .int 3 [.ref (g.1 + 0), .int a1, .int a2] I L r I' L := by
  unfold f_X10_cloak at h
  refine w_enter (by decide) (Nat.le_of_ble_eq_true rfl) (own := RX10) rfl ?_
  intro p e s m below meth c args Q hQ C hr hlocks hW ls hl
  have hl : lv_has ls 5 [(0, .ref (g.1 + 0)), (1, .int a1), (2, .int a2)] := hl
  refine lv_aload_n C.1.1 C.1.2.1 dX10_cloak_0 rfl (lv_at hl 0 rfl) ?_
  refine G_X10_19 C hW (by decide) dX10_cloak_1 ?_
  refine lv_iload_n C.1.1 C.1.2.1 dX10_cloak_4 rfl (lv_at hl 1 rfl) ?_
  obtain ⟨r1, hc2, h⟩ := bd1_some h
  refine w_callVi (k := 1) (As := [.int a1]) (rest := []) C hW (c_X9_has g l (by decide) hc2) (by decide) rfl (EX_9 (by decide)) K_X10_108 (by decide +kernel) ⟨by decide, by decide⟩ ⟨Nat.le_refl _, Nat.le_refl _⟩ rfl hl.1 rfl (Nat.le_of_ble_eq_true rfl) dX10_cloak_5 (fun H locs hW => ?_)
  refine lv_if_eq (tgt := 20) C.1.1 C.1.2.1 dX10_cloak_8 (by decide) (fun hc3 => ?_) (fun hc3 => ?_)
  · replace h := ite_t hc3 h
    refine lv_iconst (v := -1) C.1.1 C.1.2.1 dX10_cloak_20 (by decide) ?_
    obtain ⟨rfl, rfl⟩ := inj2 h
    subst hQ
    exact w_iret C hW hr hlocks dX10_cloak_21
  · replace h := ite_f hc3 h
    refine lv_iload_n C.1.1 C.1.2.1 dX10_cloak_11 rfl (lv_at hl 2 rfl) ?_
    refine lv_iconst (v := 0) C.1.1 C.1.2.1 dX10_cloak_12 (by decide) ?_
    refine lv_iconst (v := 1) C.1.1 C.1.2.1 dX10_cloak_13 (by decide) ?_
    obtain ⟨r4, hc5, h⟩ := bd1_some h
    refine w_callSi (k := 3) (As := [.int a2, .int (0 : Int32), .int (1 : Int32)]) (rest := []) C hW (c_X10_within g l  hc5 I L) K_X10_79 (by decide +kernel) ⟨by decide, by decide⟩ ⟨Nat.le_refl _, Nat.le_refl _⟩ rfl hl.1 rfl (Nat.le_of_ble_eq_true rfl) dX10_cloak_14 (fun H locs hW => ?_)
    refine lv_if_ne (tgt := 22) C.1.1 C.1.2.1 dX10_cloak_17 (by decide) (fun hc6 => ?_) (fun hc6 => ?_)
    · replace h := ite_f hc6 h
      refine lv_aload_n C.1.1 C.1.2.1 dX10_cloak_22 rfl (lv_at hl 0 rfl) ?_
      refine G_X10_19 C hW (by decide) dX10_cloak_23 ?_
      refine G_X10_111 C hW (by decide) dX10_cloak_26 ?_
      refine lv_iload_n C.1.1 C.1.2.1 dX10_cloak_29 rfl (lv_at hl 1 rfl) ?_
      obtain ⟨hi7, h⟩ := gi_some h
      refine w_asit C hW (w := 3) (by decide) hi7 dX10_cloak_30 ?_
      refine lv_astore_n (lv' := [(3, .ref (g.1 + (3 + 2 + a1.toNatClampNeg))), (0, .ref (g.1 + 0)), (1, .int a1), (2, .int a2)]) C.1.1 C.1.2.1 dX10_cloak_31 rfl hl (by decide) rfl (fun ls hl => ?_)
      refine lv_iload_n C.1.1 C.1.2.1 dX10_cloak_32 rfl (lv_at hl 3 rfl) ?_
      refine lv_iconst (v := 1) C.1.1 C.1.2.1 dX10_cloak_33 (by decide) ?_
      obtain ⟨y8, hj10, h⟩ := bd1_some h
      have kJ9 : ∀ (H : Heap) (locs : List Loc) (ls : Array Slot), Ws g s I L H locs → lv_has ls 5 [(0, .ref (g.1 + 0)), (3, .ref (g.1 + (3 + 2 + a1.toNatClampNeg)))] → W p l e (rmD 3) s m args below meth c H locs 0 0 Q (F0 m 42 ls [.int y8]) := by
        intro H locs ls hW hl
        refine lv_istore (lv' := [(4, .int y8), (0, .ref (g.1 + 0)), (3, .ref (g.1 + (3 + 2 + a1.toNatClampNeg)))]) C.1.1 C.1.2.1 dX10_cloak_42 hl (by decide) rfl (fun ls hl => ?_)
        refine lv_aload_n C.1.1 C.1.2.1 dX10_cloak_44 rfl (lv_at hl 2 rfl) ?_
        obtain ⟨r11, hc12, h⟩ := bd1_some h
        refine w_callVi (k := 0) (As := []) (rest := []) C hW (c_X6_sits g l (kd_sit (by decide) hi7) hc12) (kd_sit (by decide) hi7) rfl (EX_6 (kd_sit (by decide) hi7)) K_X10_185 (by decide +kernel) ⟨by decide, by decide⟩ ⟨Nat.le_refl _, Nat.le_refl _⟩ rfl hl.1 rfl (Nat.le_of_ble_eq_true rfl) dX10_cloak_45 (fun H locs hW => ?_)
        refine lv_if_eq (tgt := 60) C.1.1 C.1.2.1 dX10_cloak_48 (by decide) (fun hc13 => ?_) (fun hc13 => ?_)
        · replace h := ite_t hc13 h
          refine lv_bipush (v := -2) C.1.1 C.1.2.1 dX10_cloak_60 (by decide) ?_
          obtain ⟨rfl, rfl⟩ := inj2 h
          subst hQ
          exact w_iret C hW hr hlocks dX10_cloak_62
        · replace h := ite_f hc13 h
          refine lv_aload_n C.1.1 C.1.2.1 dX10_cloak_51 rfl (lv_at hl 2 rfl) ?_
          refine G_X10_144 C hW (kd_sit (by decide) hi7) dX10_cloak_52 ?_
          refine lv_iload C.1.1 C.1.2.1 dX10_cloak_55 (lv_at hl 0 rfl) ?_
          refine lv_icmp_ne (tgt := 63) C.1.1 C.1.2.1 dX10_cloak_57 (by decide) (fun hc14 => ?_) (fun hc14 => ?_)
          · replace h := ite_f hc14 h
            refine lv_aload_n C.1.1 C.1.2.1 dX10_cloak_63 rfl (lv_at hl 1 rfl) ?_
            refine G_X10_29 C hW (by decide) dX10_cloak_64 ?_
            refine lv_aload_n C.1.1 C.1.2.1 dX10_cloak_67 rfl (lv_at hl 1 rfl) ?_
            refine G_X10_19 C hW (by decide) dX10_cloak_68 ?_
            obtain ⟨I15, hc16, h⟩ := bd1_some h
            refine w_callVv (k := 1) (As := [.ref (g.1 + 3)]) (rest := []) C hW (c_X3_keep g l (by decide) hc16) (by decide) rfl (EX_3 (by decide)) K_X10_169 (by decide +kernel) ⟨by decide, by decide⟩ ⟨Nat.le_refl _, Nat.le_refl _⟩ rfl hl.1 rfl (Nat.le_of_ble_eq_true rfl) dX10_cloak_71 (fun H locs hW => ?_)
            refine lv_aload_n C.1.1 C.1.2.1 dX10_cloak_74 rfl (lv_at hl 2 rfl) ?_
            refine lv_iload C.1.1 C.1.2.1 dX10_cloak_75 (lv_at hl 0 rfl) ?_
            obtain ⟨hb17, h⟩ := gd_some h
            refine P_X10_144 C hW (kd_sit (by decide) hi7) hb17 dX10_cloak_77 (fun H locs hW => ?_)
            obtain ⟨I18, eI18, h⟩ := nm_some h
            rw [← eI18] at hW
            clear eI18
            refine lv_aload_n C.1.1 C.1.2.1 dX10_cloak_80 rfl (lv_at hl 1 rfl) ?_
            refine G_X10_19 C hW (by decide) dX10_cloak_81 ?_
            obtain ⟨r19, hc20, h⟩ := bd1_some h
            refine w_callVi (k := 0) (As := []) (rest := []) C hW (c_X9_cloaks g l (by decide) hc20) (by decide) rfl (EX_9 (by decide)) K_X10_188 (by decide +kernel) ⟨by decide, by decide⟩ ⟨Nat.le_refl _, Nat.le_refl _⟩ rfl hl.1 rfl (Nat.le_of_ble_eq_true rfl) dX10_cloak_84 (fun H locs hW => ?_)
            obtain ⟨rfl, rfl⟩ := inj2 h
            subst hQ
            exact w_iret C hW hr hlocks dX10_cloak_87
          · replace h := ite_t hc14 h
            refine lv_bipush (v := -2) C.1.1 C.1.2.1 dX10_cloak_60 (by decide) ?_
            obtain ⟨rfl, rfl⟩ := inj2 h
            subst hQ
            exact w_iret C hW hr hlocks dX10_cloak_62
      clear h
      have h := hj10
      clear hj10
      refine lv_icmp_ne (tgt := 41) C.1.1 C.1.2.1 dX10_cloak_34 (by decide) (fun hc21 => ?_) (fun hc21 => ?_)
      · replace h := ite_f hc21 h
        refine lv_iconst (v := 0) C.1.1 C.1.2.1 dX10_cloak_41 (by decide) ?_
        obtain rfl := inj1 h
        exact kJ9 _ _ _ hW (lv_sub hl [1, 0] rfl)
      · replace h := ite_t hc21 h
        refine lv_iconst (v := 1) C.1.1 C.1.2.1 dX10_cloak_37 (by decide) ?_
        refine lv_goto (tgt := 42) C.1.1 C.1.2.1 dX10_cloak_38 (by decide) ?_
        obtain rfl := inj1 h
        exact kJ9 _ _ _ hW (lv_sub hl [1, 0] rfl)
    · replace h := ite_t hc6 h
      refine lv_iconst (v := -1) C.1.1 C.1.2.1 dX10_cloak_20 (by decide) ?_
      obtain ⟨rfl, rfl⟩ := inj2 h
      subst hQ
      exact w_iret C hW hr hlocks dX10_cloak_21
def f_X10_heir (a1 : Int32) (I : MI) (L : ML) : Option (Int32 × MI) :=
  bd1 (f_X9_has 3 a1 I L) (fun r1 => (if r1 = 0 then some (((-1 : Int32), I)) else gi a1 6 (bd1 (f_X6_sits (3 + 2 + a1.toNatClampNeg) I L) (fun r5 => (if r5 = 0 then bd1 (f_X3_keep 3 I L) (fun I8 => nm (up2 I8 (3 + 2 + a1.toNatClampNeg) 1 (mmax (10 : Int32) ((I8 (3 + 2 + a1.toNatClampNeg) 1) - (2 : Int32)))) (fun I10 => bd1 (f_X6_sitDown (3 + 2 + a1.toNatClampNeg) (I10 3 3) I10 L) (fun I11 => some ((I11 (3 + 2 + a1.toNatClampNeg) 1, I11))))) else some (((-2 : Int32), I)))))))
set_option maxHeartbeats 4000000 in
set_option maxRecDepth 100000 in
theorem c_X10_heir (g : Gp) (l : Launch) {a1 : Int32}  {I : MI} {L : ML} {r : Int32} {I' : MI} (h : f_X10_heir a1 I L = some (r, I')) : MetI g l yX10_heir cX10_heir 3 .int 3 [.ref (g.1 + 0), .int a1] I L r I' L := by
  unfold f_X10_heir at h
  refine w_enter (by decide) (Nat.le_of_ble_eq_true rfl) (own := RX10) rfl ?_
  intro p e s m below meth c args Q hQ C hr hlocks hW ls hl
  have hl : lv_has ls 3 [(0, .ref (g.1 + 0)), (1, .int a1)] := hl
  refine lv_aload_n C.1.1 C.1.2.1 dX10_heir_0 rfl (lv_at hl 0 rfl) ?_
  refine G_X10_19 C hW (by decide) dX10_heir_1 ?_
  refine lv_iload_n C.1.1 C.1.2.1 dX10_heir_4 rfl (lv_at hl 1 rfl) ?_
  obtain ⟨r1, hc2, h⟩ := bd1_some h
  refine w_callVi (k := 1) (As := [.int a1]) (rest := []) C hW (c_X9_has g l (by decide) hc2) (by decide) rfl (EX_9 (by decide)) K_X10_108 (by decide +kernel) ⟨by decide, by decide⟩ ⟨Nat.le_refl _, Nat.le_refl _⟩ rfl hl.1 rfl (Nat.le_of_ble_eq_true rfl) dX10_heir_5 (fun H locs hW => ?_)
  refine lv_if_ne (tgt := 13) C.1.1 C.1.2.1 dX10_heir_8 (by decide) (fun hc3 => ?_) (fun hc3 => ?_)
  · replace h := ite_f hc3 h
    refine lv_aload_n C.1.1 C.1.2.1 dX10_heir_13 rfl (lv_at hl 0 rfl) ?_
    refine G_X10_19 C hW (by decide) dX10_heir_14 ?_
    refine G_X10_111 C hW (by decide) dX10_heir_17 ?_
    refine lv_iload_n C.1.1 C.1.2.1 dX10_heir_20 rfl (lv_at hl 1 rfl) ?_
    obtain ⟨hi4, h⟩ := gi_some h
    refine w_asit C hW (w := 3) (by decide) hi4 dX10_heir_21 ?_
    refine lv_astore_n (lv' := [(2, .ref (g.1 + (3 + 2 + a1.toNatClampNeg))), (0, .ref (g.1 + 0)), (1, .int a1)]) C.1.1 C.1.2.1 dX10_heir_22 rfl hl (by decide) rfl (fun ls hl => ?_)
    refine lv_aload_n C.1.1 C.1.2.1 dX10_heir_23 rfl (lv_at hl 0 rfl) ?_
    obtain ⟨r5, hc6, h⟩ := bd1_some h
    refine w_callVi (k := 0) (As := []) (rest := []) C hW (c_X6_sits g l (kd_sit (by decide) hi4) hc6) (kd_sit (by decide) hi4) rfl (EX_6 (kd_sit (by decide) hi4)) K_X10_185 (by decide +kernel) ⟨by decide, by decide⟩ ⟨Nat.le_refl _, Nat.le_refl _⟩ rfl hl.1 rfl (Nat.le_of_ble_eq_true rfl) dX10_heir_24 (fun H locs hW => ?_)
    refine lv_if_eq (tgt := 33) C.1.1 C.1.2.1 dX10_heir_27 (by decide) (fun hc7 => ?_) (fun hc7 => ?_)
    · replace h := ite_t hc7 h
      refine lv_aload_n C.1.1 C.1.2.1 dX10_heir_33 rfl (lv_at hl 1 rfl) ?_
      refine G_X10_29 C hW (by decide) dX10_heir_34 ?_
      refine lv_aload_n C.1.1 C.1.2.1 dX10_heir_37 rfl (lv_at hl 1 rfl) ?_
      refine G_X10_19 C hW (by decide) dX10_heir_38 ?_
      obtain ⟨I8, hc9, h⟩ := bd1_some h
      refine w_callVv (k := 1) (As := [.ref (g.1 + 3)]) (rest := []) C hW (c_X3_keep g l (by decide) hc9) (by decide) rfl (EX_3 (by decide)) K_X10_169 (by decide +kernel) ⟨by decide, by decide⟩ ⟨Nat.le_refl _, Nat.le_refl _⟩ rfl hl.1 rfl (Nat.le_of_ble_eq_true rfl) dX10_heir_41 (fun H locs hW => ?_)
      refine lv_aload_n C.1.1 C.1.2.1 dX10_heir_44 rfl (lv_at hl 0 rfl) ?_
      refine lv_bipush (v := 10) C.1.1 C.1.2.1 dX10_heir_45 (by decide) ?_
      refine lv_aload_n C.1.1 C.1.2.1 dX10_heir_47 rfl (lv_at hl 0 rfl) ?_
      refine G_X10_120 C hW (kd_sit (by decide) hi4) dX10_heir_48 ?_
      refine lv_iconst (v := 2) C.1.1 C.1.2.1 dX10_heir_51 (by decide) ?_
      refine lv_isub C.1.1 C.1.2.1 dX10_heir_52 ?_
      refine M_X10_191 (rest := [.ref (g.1 + (3 + 2 + a1.toNatClampNeg))]) C hl.1 ⟨by decide, Nat.le_of_ble_eq_true rfl⟩ ⟨Nat.le_refl _, Nat.le_refl _⟩ dX10_heir_53 ?_
      refine P_X10_120 C hW (kd_sit (by decide) hi4) dX10_heir_56 (fun H locs hW => ?_)
      obtain ⟨I10, eI10, h⟩ := nm_some h
      rw [← eI10] at hW
      clear eI10
      refine lv_aload_n C.1.1 C.1.2.1 dX10_heir_59 rfl (lv_at hl 0 rfl) ?_
      refine lv_aload_n C.1.1 C.1.2.1 dX10_heir_60 rfl (lv_at hl 1 rfl) ?_
      refine G_X10_19 C hW (by decide) dX10_heir_61 ?_
      refine G_X10_197 C hW (by decide) dX10_heir_64 ?_
      obtain ⟨I11, hc12, h⟩ := bd1_some h
      refine w_callVv (k := 1) (As := [.int (I10 3 3)]) (rest := []) C hW (c_X6_sitDown g l (kd_sit (by decide) hi4) hc12) (kd_sit (by decide) hi4) rfl (EX_6 (kd_sit (by decide) hi4)) K_X10_200 (by decide +kernel) ⟨by decide, by decide⟩ ⟨Nat.le_refl _, Nat.le_refl _⟩ rfl hl.1 rfl (Nat.le_of_ble_eq_true rfl) dX10_heir_67 (fun H locs hW => ?_)
      refine lv_aload_n C.1.1 C.1.2.1 dX10_heir_70 rfl (lv_at hl 0 rfl) ?_
      refine G_X10_120 C hW (kd_sit (by decide) hi4) dX10_heir_71 ?_
      obtain ⟨rfl, rfl⟩ := inj2 h
      subst hQ
      exact w_iret C hW hr hlocks dX10_heir_74
    · replace h := ite_f hc7 h
      refine lv_bipush (v := -2) C.1.1 C.1.2.1 dX10_heir_30 (by decide) ?_
      obtain ⟨rfl, rfl⟩ := inj2 h
      subst hQ
      exact w_iret C hW hr hlocks dX10_heir_32
  · replace h := ite_t hc3 h
    refine lv_iconst (v := -1) C.1.1 C.1.2.1 dX10_heir_11 (by decide) ?_
    obtain ⟨rfl, rfl⟩ := inj2 h
    subst hQ
    exact w_iret C hW hr hlocks dX10_heir_12
def f_X10_undo  (I : MI) (L : ML) : Option (Int32 × MI) :=
  bd2 (f_X3_giveBack 3 I L) (fun r1 I2 => bd1 ((if r1 = 0 then some (-4 : Int32) else some (I2 19 2))) (fun y4 => some (y4, I2)))
set_option maxHeartbeats 4000000 in
set_option maxRecDepth 100000 in
theorem c_X10_undo (g : Gp) (l : Launch)   {I : MI} {L : ML} {r : Int32} {I' : MI} (h : f_X10_undo  I L = some (r, I')) : MetI g l yX10_undo cX10_undo 1 .int 3 [.ref (g.1 + 0)] I L r I' L := by
  unfold f_X10_undo at h
  refine w_enter (by decide) (Nat.le_of_ble_eq_true rfl) (own := RX10) rfl ?_
  intro p e s m below meth c args Q hQ C hr hlocks hW ls hl
  have hl : lv_has ls 1 [(0, .ref (g.1 + 0))] := hl
  refine lv_aload_n C.1.1 C.1.2.1 dX10_undo_0 rfl (lv_at hl 0 rfl) ?_
  refine G_X10_29 C hW (by decide) dX10_undo_1 ?_
  refine lv_aload_n C.1.1 C.1.2.1 dX10_undo_4 rfl (lv_at hl 0 rfl) ?_
  refine G_X10_19 C hW (by decide) dX10_undo_5 ?_
  obtain ⟨r1, I2, hc3, h⟩ := bd2_some h
  refine w_callVi (k := 1) (As := [.ref (g.1 + 3)]) (rest := []) C hW (c_X3_giveBack g l (by decide) hc3) (by decide) rfl (EX_3 (by decide)) K_X10_204 (by decide +kernel) ⟨by decide, by decide⟩ ⟨Nat.le_refl _, Nat.le_refl _⟩ rfl hl.1 rfl (Nat.le_of_ble_eq_true rfl) dX10_undo_8 (fun H locs hW => ?_)
  obtain ⟨y4, hj6, h⟩ := bd1_some h
  have kJ5 : ∀ (H : Heap) (locs : List Loc) (ls : Array Slot), Ws g s I2 L H locs → lv_has ls 1 [] → W p l e (rmD 3) s m args below meth c H locs 0 0 Q (F0 m 26 ls [.int y4]) := by
    intro H locs ls hW hl
    obtain ⟨rfl, rfl⟩ := inj2 h
    subst hQ
    exact w_iret C hW hr hlocks dX10_undo_26
  clear h
  have h := hj6
  clear hj6
  refine lv_if_eq (tgt := 24) C.1.1 C.1.2.1 dX10_undo_11 (by decide) (fun hc7 => ?_) (fun hc7 => ?_)
  · replace h := ite_t hc7 h
    refine lv_bipush (v := -4) C.1.1 C.1.2.1 dX10_undo_24 (by decide) ?_
    obtain rfl := inj1 h
    exact kJ5 _ _ _ hW (lv_sub hl [] rfl)
  · replace h := ite_f hc7 h
    refine lv_aload_n C.1.1 C.1.2.1 dX10_undo_14 rfl (lv_at hl 0 rfl) ?_
    refine G_X10_29 C hW (by decide) dX10_undo_15 ?_
    refine G_X10_208 C hW (by decide) dX10_undo_18 ?_
    refine lv_goto (tgt := 26) C.1.1 C.1.2.1 dX10_undo_21 (by decide) ?_
    obtain rfl := inj1 h
    exact kJ5 _ _ _ hW (lv_sub hl [] rfl)
def f_X10_seed (a1 : Int32) (I : MI) (L : ML) : Option (Int32 × MI) :=
  bd1 (f_X10_within a1 (1 : Int32) (2147483646 : Int32)) (fun r1 => (if r1 = 0 then some (((-1 : Int32), I)) else nm (I 3 6) (fun x4 => nm (up2 I 3 6 a1) (fun I5 => some (x4, I5)))))
set_option maxHeartbeats 4000000 in
set_option maxRecDepth 100000 in
theorem c_X10_seed (g : Gp) (l : Launch) {a1 : Int32}  {I : MI} {L : ML} {r : Int32} {I' : MI} (h : f_X10_seed a1 I L = some (r, I')) : MetI g l yX10_seed cX10_seed 3 .int 1 [.ref (g.1 + 0), .int a1] I L r I' L := by
  unfold f_X10_seed at h
  refine w_enter (by decide) (Nat.le_of_ble_eq_true rfl) (own := RX10) rfl ?_
  intro p e s m below meth c args Q hQ C hr hlocks hW ls hl
  have hl : lv_has ls 3 [(0, .ref (g.1 + 0)), (1, .int a1)] := hl
  refine lv_iload_n C.1.1 C.1.2.1 dX10_seed_0 rfl (lv_at hl 1 rfl) ?_
  refine lv_iconst (v := 1) C.1.1 C.1.2.1 dX10_seed_1 (by decide) ?_
  refine lv_ldc C.1.1 C.1.2.1 C.1.2.2.2.1 (C.1.2.2.2.2 _ kc_X10_209) dX10_seed_2 ?_
  obtain ⟨r1, hc2, h⟩ := bd1_some h
  refine w_callSi (k := 3) (As := [.int a1, .int (1 : Int32), .int (2147483646 : Int32)]) (rest := []) C hW (c_X10_within g l  hc2 I L) K_X10_79 (by decide +kernel) ⟨by decide, by decide⟩ ⟨Nat.le_refl _, Nat.le_refl _⟩ rfl hl.1 rfl (Nat.le_of_ble_eq_true rfl) dX10_seed_4 (fun H locs hW => ?_)
  refine lv_if_ne (tgt := 12) C.1.1 C.1.2.1 dX10_seed_7 (by decide) (fun hc3 => ?_) (fun hc3 => ?_)
  · replace h := ite_f hc3 h
    refine lv_aload_n C.1.1 C.1.2.1 dX10_seed_12 rfl (lv_at hl 0 rfl) ?_
    refine G_X10_19 C hW (by decide) dX10_seed_13 ?_
    refine G_X10_95 C hW (by decide) dX10_seed_16 ?_
    refine lv_topi (fun x4 ex4 => ?_)
    replace h := nm_at ex4 h
    clear ex4
    refine lv_istore_n (lv' := [(2, .int x4), (0, .ref (g.1 + 0)), (1, .int a1)]) C.1.1 C.1.2.1 dX10_seed_19 rfl hl (by decide) rfl (fun ls hl => ?_)
    refine lv_aload_n C.1.1 C.1.2.1 dX10_seed_20 rfl (lv_at hl 1 rfl) ?_
    refine G_X10_19 C hW (by decide) dX10_seed_21 ?_
    refine lv_iload_n C.1.1 C.1.2.1 dX10_seed_24 rfl (lv_at hl 2 rfl) ?_
    refine P_X10_95 C hW (by decide) dX10_seed_25 (fun H locs hW => ?_)
    obtain ⟨I5, eI5, h⟩ := nm_some h
    rw [← eI5] at hW
    clear eI5
    refine lv_iload_n C.1.1 C.1.2.1 dX10_seed_28 rfl (lv_at hl 0 rfl) ?_
    obtain ⟨rfl, rfl⟩ := inj2 h
    subst hQ
    exact w_iret C hW hr hlocks dX10_seed_29
  · replace h := ite_t hc3 h
    refine lv_iconst (v := -1) C.1.1 C.1.2.1 dX10_seed_10 (by decide) ?_
    obtain ⟨rfl, rfl⟩ := inj2 h
    subst hQ
    exact w_iret C hW hr hlocks dX10_seed_11
def f_X10_image (a1 : Int32) (I : MI) (L : ML) : Option (Int32 × MI) :=
  bd1 (f_X10_within a1 (0 : Int32) (1 : Int32)) (fun r1 => (if r1 = 0 then some (((-1 : Int32), I)) else bd1 (f_X9_stands 3 I L) (fun r4 => (if r4 = 0 then some (((-2 : Int32), I)) else gi a1 2 (bd1 (f_X9_takeFrom (182 + 8 * a1.toNatClampNeg) 3 I L) (fun I8 => bd1 (f_X9_sitting 3 I8 L) (fun r10 => some (r10, I8))))))))
set_option maxHeartbeats 4000000 in
set_option maxRecDepth 100000 in
theorem c_X10_image (g : Gp) (l : Launch) {a1 : Int32}  {I : MI} {L : ML} {r : Int32} {I' : MI} (h : f_X10_image a1 I L = some (r, I')) : MetI g l yX10_image cX10_image 2 .int 2 [.ref (g.1 + 0), .int a1] I L r I' L := by
  unfold f_X10_image at h
  refine w_enter (by decide) (Nat.le_of_ble_eq_true rfl) (own := RX10) rfl ?_
  intro p e s m below meth c args Q hQ C hr hlocks hW ls hl
  have hl : lv_has ls 2 [(0, .ref (g.1 + 0)), (1, .int a1)] := hl
  refine lv_iload_n C.1.1 C.1.2.1 dX10_image_0 rfl (lv_at hl 1 rfl) ?_
  refine lv_iconst (v := 0) C.1.1 C.1.2.1 dX10_image_1 (by decide) ?_
  refine lv_iconst (v := 1) C.1.1 C.1.2.1 dX10_image_2 (by decide) ?_
  obtain ⟨r1, hc2, h⟩ := bd1_some h
  refine w_callSi (k := 3) (As := [.int a1, .int (0 : Int32), .int (1 : Int32)]) (rest := []) C hW (c_X10_within g l  hc2 I L) K_X10_79 (by decide +kernel) ⟨by decide, by decide⟩ ⟨Nat.le_refl _, Nat.le_refl _⟩ rfl hl.1 rfl (Nat.le_of_ble_eq_true rfl) dX10_image_3 (fun H locs hW => ?_)
  refine lv_if_ne (tgt := 11) C.1.1 C.1.2.1 dX10_image_6 (by decide) (fun hc3 => ?_) (fun hc3 => ?_)
  · replace h := ite_f hc3 h
    refine lv_aload_n C.1.1 C.1.2.1 dX10_image_11 rfl (lv_at hl 0 rfl) ?_
    refine G_X10_19 C hW (by decide) dX10_image_12 ?_
    obtain ⟨r4, hc5, h⟩ := bd1_some h
    refine w_callVi (k := 0) (As := []) (rest := []) C hW (c_X9_stands g l (by decide) hc5) (by decide) rfl (EX_9 (by decide)) K_X10_163 (by decide +kernel) ⟨by decide, by decide⟩ ⟨Nat.le_refl _, Nat.le_refl _⟩ rfl hl.1 rfl (Nat.le_of_ble_eq_true rfl) dX10_image_15 (fun H locs hW => ?_)
    refine lv_if_ne (tgt := 24) C.1.1 C.1.2.1 dX10_image_18 (by decide) (fun hc6 => ?_) (fun hc6 => ?_)
    · replace h := ite_f hc6 h
      refine lv_aload_n C.1.1 C.1.2.1 dX10_image_24 rfl (lv_at hl 0 rfl) ?_
      refine G_X10_33 C hW (by decide) dX10_image_25 ?_
      refine lv_iload_n C.1.1 C.1.2.1 dX10_image_28 rfl (lv_at hl 1 rfl) ?_
      obtain ⟨hi7, h⟩ := gi_some h
      refine w_aimg C hW hi7 dX10_image_29 ?_
      refine lv_aload_n C.1.1 C.1.2.1 dX10_image_30 rfl (lv_at hl 0 rfl) ?_
      refine G_X10_19 C hW (by decide) dX10_image_31 ?_
      obtain ⟨I8, hc9, h⟩ := bd1_some h
      refine w_callVv (k := 1) (As := [.ref (g.1 + 3)]) (rest := []) C hW (c_X9_takeFrom g l (kd_img hi7) (by decide) hc9) (kd_img hi7) rfl (EX_9 (kd_img hi7)) K_X10_98 (by decide +kernel) ⟨by decide, by decide⟩ ⟨Nat.le_refl _, Nat.le_refl _⟩ rfl hl.1 rfl (Nat.le_of_ble_eq_true rfl) dX10_image_34 (fun H locs hW => ?_)
      refine lv_aload_n C.1.1 C.1.2.1 dX10_image_37 rfl (lv_at hl 0 rfl) ?_
      refine G_X10_19 C hW (by decide) dX10_image_38 ?_
      obtain ⟨r10, hc11, h⟩ := bd1_some h
      refine w_callVi (k := 0) (As := []) (rest := []) C hW (c_X9_sitting g l (by decide) hc11) (by decide) rfl (EX_9 (by decide)) K_X10_175 (by decide +kernel) ⟨by decide, by decide⟩ ⟨Nat.le_refl _, Nat.le_refl _⟩ rfl hl.1 rfl (Nat.le_of_ble_eq_true rfl) dX10_image_41 (fun H locs hW => ?_)
      obtain ⟨rfl, rfl⟩ := inj2 h
      subst hQ
      exact w_iret C hW hr hlocks dX10_image_44
    · replace h := ite_t hc6 h
      refine lv_bipush (v := -2) C.1.1 C.1.2.1 dX10_image_21 (by decide) ?_
      obtain ⟨rfl, rfl⟩ := inj2 h
      subst hQ
      exact w_iret C hW hr hlocks dX10_image_23
  · replace h := ite_t hc3 h
    refine lv_iconst (v := -1) C.1.1 C.1.2.1 dX10_image_9 (by decide) ?_
    obtain ⟨rfl, rfl⟩ := inj2 h
    subst hQ
    exact w_iret C hW hr hlocks dX10_image_10
def f_X10_restore (a1 : Int32) (I : MI) (L : ML) : Option (Int32 × MI) :=
  bd1 (f_X10_within a1 (0 : Int32) (1 : Int32)) (fun r1 => (if r1 = 0 then some (((-1 : Int32), I)) else gi a1 2 (bd1 (f_X9_stands (182 + 8 * a1.toNatClampNeg) I L) (fun r5 => (if r5 = 0 then some (((-2 : Int32), I)) else gi a1 2 (bd1 (f_X9_takeFrom 3 (182 + 8 * a1.toNatClampNeg) I L) (fun I9 => bd1 (f_X3_forget  I9 L) (fun I11 => bd1 (f_X9_sitting 3 I11 L) (fun r13 => some (r13, I11))))))))))
set_option maxHeartbeats 4000000 in
set_option maxRecDepth 100000 in
theorem c_X10_restore (g : Gp) (l : Launch) {a1 : Int32}  {I : MI} {L : ML} {r : Int32} {I' : MI} (h : f_X10_restore a1 I L = some (r, I')) : MetI g l yX10_restore cX10_restore 2 .int 2 [.ref (g.1 + 0), .int a1] I L r I' L := by
  unfold f_X10_restore at h
  refine w_enter (by decide) (Nat.le_of_ble_eq_true rfl) (own := RX10) rfl ?_
  intro p e s m below meth c args Q hQ C hr hlocks hW ls hl
  have hl : lv_has ls 2 [(0, .ref (g.1 + 0)), (1, .int a1)] := hl
  refine lv_iload_n C.1.1 C.1.2.1 dX10_restore_0 rfl (lv_at hl 1 rfl) ?_
  refine lv_iconst (v := 0) C.1.1 C.1.2.1 dX10_restore_1 (by decide) ?_
  refine lv_iconst (v := 1) C.1.1 C.1.2.1 dX10_restore_2 (by decide) ?_
  obtain ⟨r1, hc2, h⟩ := bd1_some h
  refine w_callSi (k := 3) (As := [.int a1, .int (0 : Int32), .int (1 : Int32)]) (rest := []) C hW (c_X10_within g l  hc2 I L) K_X10_79 (by decide +kernel) ⟨by decide, by decide⟩ ⟨Nat.le_refl _, Nat.le_refl _⟩ rfl hl.1 rfl (Nat.le_of_ble_eq_true rfl) dX10_restore_3 (fun H locs hW => ?_)
  refine lv_if_ne (tgt := 11) C.1.1 C.1.2.1 dX10_restore_6 (by decide) (fun hc3 => ?_) (fun hc3 => ?_)
  · replace h := ite_f hc3 h
    refine lv_aload_n C.1.1 C.1.2.1 dX10_restore_11 rfl (lv_at hl 0 rfl) ?_
    refine G_X10_33 C hW (by decide) dX10_restore_12 ?_
    refine lv_iload_n C.1.1 C.1.2.1 dX10_restore_15 rfl (lv_at hl 1 rfl) ?_
    obtain ⟨hi4, h⟩ := gi_some h
    refine w_aimg C hW hi4 dX10_restore_16 ?_
    obtain ⟨r5, hc6, h⟩ := bd1_some h
    refine w_callVi (k := 0) (As := []) (rest := []) C hW (c_X9_stands g l (kd_img hi4) hc6) (kd_img hi4) rfl (EX_9 (kd_img hi4)) K_X10_163 (by decide +kernel) ⟨by decide, by decide⟩ ⟨Nat.le_refl _, Nat.le_refl _⟩ rfl hl.1 rfl (Nat.le_of_ble_eq_true rfl) dX10_restore_17 (fun H locs hW => ?_)
    refine lv_if_ne (tgt := 26) C.1.1 C.1.2.1 dX10_restore_20 (by decide) (fun hc7 => ?_) (fun hc7 => ?_)
    · replace h := ite_f hc7 h
      refine lv_aload_n C.1.1 C.1.2.1 dX10_restore_26 rfl (lv_at hl 0 rfl) ?_
      refine G_X10_19 C hW (by decide) dX10_restore_27 ?_
      refine lv_aload_n C.1.1 C.1.2.1 dX10_restore_30 rfl (lv_at hl 0 rfl) ?_
      refine G_X10_33 C hW (by decide) dX10_restore_31 ?_
      refine lv_iload_n C.1.1 C.1.2.1 dX10_restore_34 rfl (lv_at hl 1 rfl) ?_
      obtain ⟨hi8, h⟩ := gi_some h
      refine w_aimg C hW hi8 dX10_restore_35 ?_
      obtain ⟨I9, hc10, h⟩ := bd1_some h
      refine w_callVv (k := 1) (As := [.ref (g.1 + (182 + 8 * a1.toNatClampNeg))]) (rest := []) C hW (c_X9_takeFrom g l (by decide) (kd_img hi8) hc10) (by decide) rfl (EX_9 (by decide)) K_X10_98 (by decide +kernel) ⟨by decide, by decide⟩ ⟨Nat.le_refl _, Nat.le_refl _⟩ rfl hl.1 rfl (Nat.le_of_ble_eq_true rfl) dX10_restore_36 (fun H locs hW => ?_)
      refine lv_aload_n C.1.1 C.1.2.1 dX10_restore_39 rfl (lv_at hl 0 rfl) ?_
      refine G_X10_29 C hW (by decide) dX10_restore_40 ?_
      obtain ⟨I11, hc12, h⟩ := bd1_some h
      refine w_callVv (k := 0) (As := []) (rest := []) C hW (c_X3_forget g l  hc12) (by decide) rfl (EX_3 (by decide)) K_X10_102 (by decide +kernel) ⟨by decide, by decide⟩ ⟨Nat.le_refl _, Nat.le_refl _⟩ rfl hl.1 rfl (Nat.le_of_ble_eq_true rfl) dX10_restore_43 (fun H locs hW => ?_)
      refine lv_aload_n C.1.1 C.1.2.1 dX10_restore_46 rfl (lv_at hl 0 rfl) ?_
      refine G_X10_19 C hW (by decide) dX10_restore_47 ?_
      obtain ⟨r13, hc14, h⟩ := bd1_some h
      refine w_callVi (k := 0) (As := []) (rest := []) C hW (c_X9_sitting g l (by decide) hc14) (by decide) rfl (EX_9 (by decide)) K_X10_175 (by decide +kernel) ⟨by decide, by decide⟩ ⟨Nat.le_refl _, Nat.le_refl _⟩ rfl hl.1 rfl (Nat.le_of_ble_eq_true rfl) dX10_restore_50 (fun H locs hW => ?_)
      obtain ⟨rfl, rfl⟩ := inj2 h
      subst hQ
      exact w_iret C hW hr hlocks dX10_restore_53
    · replace h := ite_t hc7 h
      refine lv_bipush (v := -2) C.1.1 C.1.2.1 dX10_restore_23 (by decide) ?_
      obtain ⟨rfl, rfl⟩ := inj2 h
      subst hQ
      exact w_iret C hW hr hlocks dX10_restore_25
  · replace h := ite_t hc3 h
    refine lv_iconst (v := -1) C.1.1 C.1.2.1 dX10_restore_9 (by decide) ?_
    obtain ⟨rfl, rfl⟩ := inj2 h
    subst hQ
    exact w_iret C hW hr hlocks dX10_restore_10
def f_X10_strain (a1 : Int32) (a2 : Int32) (I : MI) (L : ML) : Option (Int32 × MI) :=
  bd1 (f_X9_has 3 a1 I L) (fun r1 => (if r1 = 0 then some (((-1 : Int32), I)) else bd1 (f_X10_within a2 (0 : Int32) (60 : Int32)) (fun r4 => (if r4 = 0 then some (((-1 : Int32), I)) else bd1 (f_X1_look 3 I L) (fun I7 => gi a1 6 (bd2 (f_X1_strainBehind (3 + 2 + a1.toNatClampNeg) a2 I7 L) (fun r10 I11 => some (r10, I11))))))))
set_option maxHeartbeats 4000000 in
set_option maxRecDepth 100000 in
theorem c_X10_strain (g : Gp) (l : Launch) {a1 : Int32} {a2 : Int32}  {I : MI} {L : ML} {r : Int32} {I' : MI} (h : f_X10_strain a1 a2 I L = some (r, I')) : MetI g l yX10_strain cX10_strain 3 .int 5 [.ref (g.1 + 0), .int a1, .int a2] I L r I' L := by
  unfold f_X10_strain at h
  refine w_enter (by decide) (Nat.le_of_ble_eq_true rfl) (own := RX10) rfl ?_
  intro p e s m below meth c args Q hQ C hr hlocks hW ls hl
  have hl : lv_has ls 3 [(0, .ref (g.1 + 0)), (1, .int a1), (2, .int a2)] := hl
  refine lv_aload_n C.1.1 C.1.2.1 dX10_strain_0 rfl (lv_at hl 0 rfl) ?_
  refine G_X10_19 C hW (by decide) dX10_strain_1 ?_
  refine lv_iload_n C.1.1 C.1.2.1 dX10_strain_4 rfl (lv_at hl 1 rfl) ?_
  obtain ⟨r1, hc2, h⟩ := bd1_some h
  refine w_callVi (k := 1) (As := [.int a1]) (rest := []) C hW (c_X9_has g l (by decide) hc2) (by decide) rfl (EX_9 (by decide)) K_X10_108 (by decide +kernel) ⟨by decide, by decide⟩ ⟨Nat.le_refl _, Nat.le_refl _⟩ rfl hl.1 rfl (Nat.le_of_ble_eq_true rfl) dX10_strain_5 (fun H locs hW => ?_)
  refine lv_if_eq (tgt := 21) C.1.1 C.1.2.1 dX10_strain_8 (by decide) (fun hc3 => ?_) (fun hc3 => ?_)
  · replace h := ite_t hc3 h
    refine lv_iconst (v := -1) C.1.1 C.1.2.1 dX10_strain_21 (by decide) ?_
    obtain ⟨rfl, rfl⟩ := inj2 h
    subst hQ
    exact w_iret C hW hr hlocks dX10_strain_22
  · replace h := ite_f hc3 h
    refine lv_iload_n C.1.1 C.1.2.1 dX10_strain_11 rfl (lv_at hl 2 rfl) ?_
    refine lv_iconst (v := 0) C.1.1 C.1.2.1 dX10_strain_12 (by decide) ?_
    refine lv_bipush (v := 60) C.1.1 C.1.2.1 dX10_strain_13 (by decide) ?_
    obtain ⟨r4, hc5, h⟩ := bd1_some h
    refine w_callSi (k := 3) (As := [.int a2, .int (0 : Int32), .int (60 : Int32)]) (rest := []) C hW (c_X10_within g l  hc5 I L) K_X10_79 (by decide +kernel) ⟨by decide, by decide⟩ ⟨Nat.le_refl _, Nat.le_refl _⟩ rfl hl.1 rfl (Nat.le_of_ble_eq_true rfl) dX10_strain_15 (fun H locs hW => ?_)
    refine lv_if_ne (tgt := 23) C.1.1 C.1.2.1 dX10_strain_18 (by decide) (fun hc6 => ?_) (fun hc6 => ?_)
    · replace h := ite_f hc6 h
      refine lv_aload_n C.1.1 C.1.2.1 dX10_strain_23 rfl (lv_at hl 0 rfl) ?_
      refine G_X10_47 C hW (by decide) dX10_strain_24 ?_
      refine lv_aload_n C.1.1 C.1.2.1 dX10_strain_27 rfl (lv_at hl 0 rfl) ?_
      refine G_X10_19 C hW (by decide) dX10_strain_28 ?_
      obtain ⟨I7, hc8, h⟩ := bd1_some h
      refine w_callVv (k := 1) (As := [.ref (g.1 + 3)]) (rest := []) C hW (c_X1_look g l (by decide) hc8) (by decide) rfl (EX_1 (by decide)) K_X10_210 (by decide +kernel) ⟨by decide, by decide⟩ ⟨Nat.le_refl _, Nat.le_refl _⟩ rfl hl.1 rfl (Nat.le_of_ble_eq_true rfl) dX10_strain_31 (fun H locs hW => ?_)
      refine lv_aload_n C.1.1 C.1.2.1 dX10_strain_34 rfl (lv_at hl 0 rfl) ?_
      refine G_X10_47 C hW (by decide) dX10_strain_35 ?_
      refine lv_aload_n C.1.1 C.1.2.1 dX10_strain_38 rfl (lv_at hl 0 rfl) ?_
      refine G_X10_19 C hW (by decide) dX10_strain_39 ?_
      refine G_X10_111 C hW (by decide) dX10_strain_42 ?_
      refine lv_iload_n C.1.1 C.1.2.1 dX10_strain_45 rfl (lv_at hl 1 rfl) ?_
      obtain ⟨hi9, h⟩ := gi_some h
      refine w_asit C hW (w := 3) (by decide) hi9 dX10_strain_46 ?_
      refine lv_iload_n C.1.1 C.1.2.1 dX10_strain_47 rfl (lv_at hl 2 rfl) ?_
      obtain ⟨r10, I11, hc12, h⟩ := bd2_some h
      refine w_callVi (k := 2) (As := [.ref (g.1 + (3 + 2 + a1.toNatClampNeg)), .int a2]) (rest := []) C hW (c_X1_strainBehind g l (kd_sit (by decide) hi9) hc12) (by decide) rfl (EX_1 (by decide)) K_X10_213 (by decide +kernel) ⟨by decide, by decide⟩ ⟨Nat.le_refl _, Nat.le_refl _⟩ rfl hl.1 rfl (Nat.le_of_ble_eq_true rfl) dX10_strain_48 (fun H locs hW => ?_)
      obtain ⟨rfl, rfl⟩ := inj2 h
      subst hQ
      exact w_iret C hW hr hlocks dX10_strain_51
    · replace h := ite_t hc6 h
      refine lv_iconst (v := -1) C.1.1 C.1.2.1 dX10_strain_21 (by decide) ?_
      obtain ⟨rfl, rfl⟩ := inj2 h
      subst hQ
      exact w_iret C hW hr hlocks dX10_strain_22
def f_X10_down (a1 : Int32) (I : MI) (L : ML) : Option (Int32 × MI) :=
  bd1 (f_X9_has 3 a1 I L) (fun r1 => (if r1 = 0 then some (((-1 : Int32), I)) else gi a1 6 (bd1 (f_X6_sits (3 + 2 + a1.toNatClampNeg) I L) (fun r5 => (if r5 = 0 then some (((0 : Int32), I)) else bd1 (f_X1_look 3 I L) (fun I8 => bd2 (f_X1_hoursSat (3 + 2 + a1.toNatClampNeg) (60 : Int32) (0 : Int32) I8 L) (fun r10 I11 => bd1 ((if (60 : Int32) ≤ r10 then some (-4 : Int32) else some (r10 + (1 : Int32)))) (fun y13 => some (y13, I11)))))))))
set_option maxHeartbeats 4000000 in
set_option maxRecDepth 100000 in
theorem c_X10_down (g : Gp) (l : Launch) {a1 : Int32}  {I : MI} {L : ML} {r : Int32} {I' : MI} (h : f_X10_down a1 I L = some (r, I')) : MetI g l yX10_down cX10_down 4 .int 5 [.ref (g.1 + 0), .int a1] I L r I' L := by
  unfold f_X10_down at h
  refine w_enter (by decide) (Nat.le_of_ble_eq_true rfl) (own := RX10) rfl ?_
  intro p e s m below meth c args Q hQ C hr hlocks hW ls hl
  have hl : lv_has ls 4 [(0, .ref (g.1 + 0)), (1, .int a1)] := hl
  refine lv_aload_n C.1.1 C.1.2.1 dX10_down_0 rfl (lv_at hl 0 rfl) ?_
  refine G_X10_19 C hW (by decide) dX10_down_1 ?_
  refine lv_iload_n C.1.1 C.1.2.1 dX10_down_4 rfl (lv_at hl 1 rfl) ?_
  obtain ⟨r1, hc2, h⟩ := bd1_some h
  refine w_callVi (k := 1) (As := [.int a1]) (rest := []) C hW (c_X9_has g l (by decide) hc2) (by decide) rfl (EX_9 (by decide)) K_X10_108 (by decide +kernel) ⟨by decide, by decide⟩ ⟨Nat.le_refl _, Nat.le_refl _⟩ rfl hl.1 rfl (Nat.le_of_ble_eq_true rfl) dX10_down_5 (fun H locs hW => ?_)
  refine lv_if_ne (tgt := 13) C.1.1 C.1.2.1 dX10_down_8 (by decide) (fun hc3 => ?_) (fun hc3 => ?_)
  · replace h := ite_f hc3 h
    refine lv_aload_n C.1.1 C.1.2.1 dX10_down_13 rfl (lv_at hl 0 rfl) ?_
    refine G_X10_19 C hW (by decide) dX10_down_14 ?_
    refine G_X10_111 C hW (by decide) dX10_down_17 ?_
    refine lv_iload_n C.1.1 C.1.2.1 dX10_down_20 rfl (lv_at hl 1 rfl) ?_
    obtain ⟨hi4, h⟩ := gi_some h
    refine w_asit C hW (w := 3) (by decide) hi4 dX10_down_21 ?_
    refine lv_astore_n (lv' := [(2, .ref (g.1 + (3 + 2 + a1.toNatClampNeg))), (0, .ref (g.1 + 0)), (1, .int a1)]) C.1.1 C.1.2.1 dX10_down_22 rfl hl (by decide) rfl (fun ls hl => ?_)
    refine lv_aload_n C.1.1 C.1.2.1 dX10_down_23 rfl (lv_at hl 0 rfl) ?_
    obtain ⟨r5, hc6, h⟩ := bd1_some h
    refine w_callVi (k := 0) (As := []) (rest := []) C hW (c_X6_sits g l (kd_sit (by decide) hi4) hc6) (kd_sit (by decide) hi4) rfl (EX_6 (kd_sit (by decide) hi4)) K_X10_185 (by decide +kernel) ⟨by decide, by decide⟩ ⟨Nat.le_refl _, Nat.le_refl _⟩ rfl hl.1 rfl (Nat.le_of_ble_eq_true rfl) dX10_down_24 (fun H locs hW => ?_)
    refine lv_if_ne (tgt := 32) C.1.1 C.1.2.1 dX10_down_27 (by decide) (fun hc7 => ?_) (fun hc7 => ?_)
    · replace h := ite_f hc7 h
      refine lv_aload_n C.1.1 C.1.2.1 dX10_down_32 rfl (lv_at hl 1 rfl) ?_
      refine G_X10_47 C hW (by decide) dX10_down_33 ?_
      refine lv_aload_n C.1.1 C.1.2.1 dX10_down_36 rfl (lv_at hl 1 rfl) ?_
      refine G_X10_19 C hW (by decide) dX10_down_37 ?_
      obtain ⟨I8, hc9, h⟩ := bd1_some h
      refine w_callVv (k := 1) (As := [.ref (g.1 + 3)]) (rest := []) C hW (c_X1_look g l (by decide) hc9) (by decide) rfl (EX_1 (by decide)) K_X10_210 (by decide +kernel) ⟨by decide, by decide⟩ ⟨Nat.le_refl _, Nat.le_refl _⟩ rfl hl.1 rfl (Nat.le_of_ble_eq_true rfl) dX10_down_40 (fun H locs hW => ?_)
      refine lv_aload_n C.1.1 C.1.2.1 dX10_down_43 rfl (lv_at hl 1 rfl) ?_
      refine G_X10_47 C hW (by decide) dX10_down_44 ?_
      refine lv_aload_n C.1.1 C.1.2.1 dX10_down_47 rfl (lv_at hl 0 rfl) ?_
      refine lv_bipush (v := 60) C.1.1 C.1.2.1 dX10_down_48 (by decide) ?_
      refine lv_iconst (v := 0) C.1.1 C.1.2.1 dX10_down_50 (by decide) ?_
      obtain ⟨r10, I11, hc12, h⟩ := bd2_some h
      refine w_callVi (k := 3) (As := [.ref (g.1 + (3 + 2 + a1.toNatClampNeg)), .int (60 : Int32), .int (0 : Int32)]) (rest := []) C hW (c_X1_hoursSat g l (kd_sit (by decide) hi4) hc12) (by decide) rfl (EX_1 (by decide)) K_X10_217 (by decide +kernel) ⟨by decide, by decide⟩ ⟨Nat.le_refl _, Nat.le_refl _⟩ rfl hl.1 rfl (Nat.le_of_ble_eq_true rfl) dX10_down_51 (fun H locs hW => ?_)
      refine lv_istore_n (lv' := [(3, .int r10), (2, .ref (g.1 + (3 + 2 + a1.toNatClampNeg))), (0, .ref (g.1 + 0)), (1, .int a1)]) C.1.1 C.1.2.1 dX10_down_54 rfl hl (by decide) rfl (fun ls hl => ?_)
      refine lv_iload_n C.1.1 C.1.2.1 dX10_down_55 rfl (lv_at hl 0 rfl) ?_
      refine lv_bipush (v := 60) C.1.1 C.1.2.1 dX10_down_56 (by decide) ?_
      obtain ⟨y13, hj15, h⟩ := bd1_some h
      have kJ14 : ∀ (H : Heap) (locs : List Loc) (ls : Array Slot), Ws g s I11 L H locs → lv_has ls 4 [] → W p l e (rmD 5) s m args below meth c H locs 0 0 Q (F0 m 69 ls [.int y13]) := by
        intro H locs ls hW hl
        obtain ⟨rfl, rfl⟩ := inj2 h
        subst hQ
        exact w_iret C hW hr hlocks dX10_down_69
      clear h
      have h := hj15
      clear hj15
      refine lv_icmp_ge (tgt := 67) C.1.1 C.1.2.1 dX10_down_58 (by decide) (fun hc16 => ?_) (fun hc16 => ?_)
      · replace h := ite_t hc16 h
        refine lv_bipush (v := -4) C.1.1 C.1.2.1 dX10_down_67 (by decide) ?_
        obtain rfl := inj1 h
        exact kJ14 _ _ _ hW (lv_sub hl [] rfl)
      · replace h := ite_f hc16 h
        refine lv_iload_n C.1.1 C.1.2.1 dX10_down_61 rfl (lv_at hl 0 rfl) ?_
        refine lv_iconst (v := 1) C.1.1 C.1.2.1 dX10_down_62 (by decide) ?_
        refine lv_iadd C.1.1 C.1.2.1 dX10_down_63 ?_
        refine lv_goto (tgt := 69) C.1.1 C.1.2.1 dX10_down_64 (by decide) ?_
        obtain rfl := inj1 h
        exact kJ14 _ _ _ hW (lv_sub hl [] rfl)
    · replace h := ite_t hc7 h
      refine lv_iconst (v := 0) C.1.1 C.1.2.1 dX10_down_30 (by decide) ?_
      obtain ⟨rfl, rfl⟩ := inj2 h
      subst hQ
      exact w_iret C hW hr hlocks dX10_down_31
  · replace h := ite_t hc3 h
    refine lv_iconst (v := -1) C.1.1 C.1.2.1 dX10_down_11 (by decide) ?_
    obtain ⟨rfl, rfl⟩ := inj2 h
    subst hQ
    exact w_iret C hW hr hlocks dX10_down_12
def f_X10_refusesTwo (a1 : Int32) (a2 : Int32) (I : MI) (L : ML) : Option (Int32) :=
  bd1 (f_X9_has 3 a1 I L) (fun r1 => (if r1 = 0 then some (-1 : Int32) else bd1 (f_X9_has 3 a2 I L) (fun r4 => (if r4 = 0 then some (-1 : Int32) else (if a1 = a2 then some (-1 : Int32) else gi a1 6 (bd1 (f_X6_sits (3 + 2 + a1.toNatClampNeg) I L) (fun r9 => bd1 ((if r9 = 0 then some (-2 : Int32) else gi a2 6 (bd1 (f_X6_sits (3 + 2 + a2.toNatClampNeg) I L) (fun r16 => (if r16 = 0 then some (-2 : Int32) else some (0 : Int32)))))) (fun y11 => some y11))))))))
set_option maxHeartbeats 4000000 in
set_option maxRecDepth 100000 in
theorem c_X10_refusesTwo (g : Gp) (l : Launch) {a1 : Int32} {a2 : Int32}  {I : MI} {L : ML} {r : Int32} (h : f_X10_refusesTwo a1 a2 I L = some r) : MetI g l yX10_refusesTwo cX10_refusesTwo 3 .int 1 [.ref (g.1 + 0), .int a1, .int a2] I L r I L := by
  unfold f_X10_refusesTwo at h
  refine w_enter (by decide) (Nat.le_of_ble_eq_true rfl) (own := RX10) rfl ?_
  intro p e s m below meth c args Q hQ C hr hlocks hW ls hl
  have hl : lv_has ls 3 [(0, .ref (g.1 + 0)), (1, .int a1), (2, .int a2)] := hl
  refine lv_aload_n C.1.1 C.1.2.1 dX10_refusesTwo_0 rfl (lv_at hl 0 rfl) ?_
  refine G_X10_19 C hW (by decide) dX10_refusesTwo_1 ?_
  refine lv_iload_n C.1.1 C.1.2.1 dX10_refusesTwo_4 rfl (lv_at hl 1 rfl) ?_
  obtain ⟨r1, hc2, h⟩ := bd1_some h
  refine w_callVi (k := 1) (As := [.int a1]) (rest := []) C hW (c_X9_has g l (by decide) hc2) (by decide) rfl (EX_9 (by decide)) K_X10_108 (by decide +kernel) ⟨by decide, by decide⟩ ⟨Nat.le_refl _, Nat.le_refl _⟩ rfl hl.1 rfl (Nat.le_of_ble_eq_true rfl) dX10_refusesTwo_5 (fun H locs hW => ?_)
  refine lv_if_eq (tgt := 27) C.1.1 C.1.2.1 dX10_refusesTwo_8 (by decide) (fun hc3 => ?_) (fun hc3 => ?_)
  · replace h := ite_t hc3 h
    refine lv_iconst (v := -1) C.1.1 C.1.2.1 dX10_refusesTwo_27 (by decide) ?_
    obtain rfl := inj1 h
    subst hQ
    exact w_iret C hW hr hlocks dX10_refusesTwo_28
  · replace h := ite_f hc3 h
    refine lv_aload_n C.1.1 C.1.2.1 dX10_refusesTwo_11 rfl (lv_at hl 0 rfl) ?_
    refine G_X10_19 C hW (by decide) dX10_refusesTwo_12 ?_
    refine lv_iload_n C.1.1 C.1.2.1 dX10_refusesTwo_15 rfl (lv_at hl 2 rfl) ?_
    obtain ⟨r4, hc5, h⟩ := bd1_some h
    refine w_callVi (k := 1) (As := [.int a2]) (rest := []) C hW (c_X9_has g l (by decide) hc5) (by decide) rfl (EX_9 (by decide)) K_X10_108 (by decide +kernel) ⟨by decide, by decide⟩ ⟨Nat.le_refl _, Nat.le_refl _⟩ rfl hl.1 rfl (Nat.le_of_ble_eq_true rfl) dX10_refusesTwo_16 (fun H locs hW => ?_)
    refine lv_if_eq (tgt := 27) C.1.1 C.1.2.1 dX10_refusesTwo_19 (by decide) (fun hc6 => ?_) (fun hc6 => ?_)
    · replace h := ite_t hc6 h
      refine lv_iconst (v := -1) C.1.1 C.1.2.1 dX10_refusesTwo_27 (by decide) ?_
      obtain rfl := inj1 h
      subst hQ
      exact w_iret C hW hr hlocks dX10_refusesTwo_28
    · replace h := ite_f hc6 h
      refine lv_iload_n C.1.1 C.1.2.1 dX10_refusesTwo_22 rfl (lv_at hl 1 rfl) ?_
      refine lv_iload_n C.1.1 C.1.2.1 dX10_refusesTwo_23 rfl (lv_at hl 2 rfl) ?_
      refine lv_icmp_ne (tgt := 29) C.1.1 C.1.2.1 dX10_refusesTwo_24 (by decide) (fun hc7 => ?_) (fun hc7 => ?_)
      · replace h := ite_f hc7 h
        refine lv_aload_n C.1.1 C.1.2.1 dX10_refusesTwo_29 rfl (lv_at hl 0 rfl) ?_
        refine G_X10_19 C hW (by decide) dX10_refusesTwo_30 ?_
        refine G_X10_111 C hW (by decide) dX10_refusesTwo_33 ?_
        refine lv_iload_n C.1.1 C.1.2.1 dX10_refusesTwo_36 rfl (lv_at hl 1 rfl) ?_
        obtain ⟨hi8, h⟩ := gi_some h
        refine w_asit C hW (w := 3) (by decide) hi8 dX10_refusesTwo_37 ?_
        obtain ⟨r9, hc10, h⟩ := bd1_some h
        refine w_callVi (k := 0) (As := []) (rest := []) C hW (c_X6_sits g l (kd_sit (by decide) hi8) hc10) (kd_sit (by decide) hi8) rfl (EX_6 (kd_sit (by decide) hi8)) K_X10_185 (by decide +kernel) ⟨by decide, by decide⟩ ⟨Nat.le_refl _, Nat.le_refl _⟩ rfl hl.1 rfl (Nat.le_of_ble_eq_true rfl) dX10_refusesTwo_38 (fun H locs hW => ?_)
        obtain ⟨y11, hj13, h⟩ := bd1_some h
        have kJ12 : ∀ (H : Heap) (locs : List Loc) (ls : Array Slot), Ws g s I L H locs → lv_has ls 3 [] → W p l e (rmD 1) s m args below meth c H locs 0 0 Q (F0 m 65 ls [.int y11]) := by
          intro H locs ls hW hl
          obtain rfl := inj1 h
          subst hQ
          exact w_iret C hW hr hlocks dX10_refusesTwo_65
        clear h
        have h := hj13
        clear hj13
        refine lv_if_eq (tgt := 63) C.1.1 C.1.2.1 dX10_refusesTwo_41 (by decide) (fun hc14 => ?_) (fun hc14 => ?_)
        · replace h := ite_t hc14 h
          refine lv_bipush (v := -2) C.1.1 C.1.2.1 dX10_refusesTwo_63 (by decide) ?_
          obtain rfl := inj1 h
          exact kJ12 _ _ _ hW (lv_sub hl [] rfl)
        · replace h := ite_f hc14 h
          refine lv_aload_n C.1.1 C.1.2.1 dX10_refusesTwo_44 rfl (lv_at hl 0 rfl) ?_
          refine G_X10_19 C hW (by decide) dX10_refusesTwo_45 ?_
          refine G_X10_111 C hW (by decide) dX10_refusesTwo_48 ?_
          refine lv_iload_n C.1.1 C.1.2.1 dX10_refusesTwo_51 rfl (lv_at hl 2 rfl) ?_
          obtain ⟨hi15, h⟩ := gi_some h
          refine w_asit C hW (w := 3) (by decide) hi15 dX10_refusesTwo_52 ?_
          obtain ⟨r16, hc17, h⟩ := bd1_some h
          refine w_callVi (k := 0) (As := []) (rest := []) C hW (c_X6_sits g l (kd_sit (by decide) hi15) hc17) (kd_sit (by decide) hi15) rfl (EX_6 (kd_sit (by decide) hi15)) K_X10_185 (by decide +kernel) ⟨by decide, by decide⟩ ⟨Nat.le_refl _, Nat.le_refl _⟩ rfl hl.1 rfl (Nat.le_of_ble_eq_true rfl) dX10_refusesTwo_53 (fun H locs hW => ?_)
          refine lv_if_eq (tgt := 63) C.1.1 C.1.2.1 dX10_refusesTwo_56 (by decide) (fun hc18 => ?_) (fun hc18 => ?_)
          · replace h := ite_t hc18 h
            refine lv_bipush (v := -2) C.1.1 C.1.2.1 dX10_refusesTwo_63 (by decide) ?_
            obtain rfl := inj1 h
            exact kJ12 _ _ _ hW (lv_sub hl [] rfl)
          · replace h := ite_f hc18 h
            refine lv_iconst (v := 0) C.1.1 C.1.2.1 dX10_refusesTwo_59 (by decide) ?_
            refine lv_goto (tgt := 65) C.1.1 C.1.2.1 dX10_refusesTwo_60 (by decide) ?_
            obtain rfl := inj1 h
            exact kJ12 _ _ _ hW (lv_sub hl [] rfl)
      · replace h := ite_t hc7 h
        refine lv_iconst (v := -1) C.1.1 C.1.2.1 dX10_refusesTwo_27 (by decide) ?_
        obtain rfl := inj1 h
        subst hQ
        exact w_iret C hW hr hlocks dX10_refusesTwo_28
def f_X10_duel (a1 : Int32) (a2 : Int32) (I : MI) (L : ML) : Option (Int32 × MI) :=
  bd1 (f_X10_refusesTwo a1 a2 I L) (fun r1 => (if r1 = 0 then bd1 (f_X1_look 3 I L) (fun I4 => gi a1 6 (gi a2 6 (bd2 (f_X1_outlasts (3 + 2 + a1.toNatClampNeg) (3 + 2 + a2.toNatClampNeg) I4 L) (fun r8 I9 => (if r8 = 0 then some (((-4 : Int32), I9)) else bd1 (if r8 ≤ 0 then some a2 else some a1) (fun y12 => some (y12, I9))))))) else some (r1, I)))
set_option maxHeartbeats 4000000 in
set_option maxRecDepth 100000 in
theorem c_X10_duel (g : Gp) (l : Launch) {a1 : Int32} {a2 : Int32}  {I : MI} {L : ML} {r : Int32} {I' : MI} (h : f_X10_duel a1 a2 I L = some (r, I')) : MetI g l yX10_duel cX10_duel 5 .int 6 [.ref (g.1 + 0), .int a1, .int a2] I L r I' L := by
  unfold f_X10_duel at h
  refine w_enter (by decide) (Nat.le_of_ble_eq_true rfl) (own := RX10) rfl ?_
  intro p e s m below meth c args Q hQ C hr hlocks hW ls hl
  have hl : lv_has ls 5 [(0, .ref (g.1 + 0)), (1, .int a1), (2, .int a2)] := hl
  refine lv_aload_n C.1.1 C.1.2.1 dX10_duel_0 rfl (lv_at hl 0 rfl) ?_
  refine lv_iload_n C.1.1 C.1.2.1 dX10_duel_1 rfl (lv_at hl 1 rfl) ?_
  refine lv_iload_n C.1.1 C.1.2.1 dX10_duel_2 rfl (lv_at hl 2 rfl) ?_
  obtain ⟨r1, hc2, h⟩ := bd1_some h
  refine w_callVi (k := 2) (As := [.int a1, .int a2]) (rest := []) C hW (c_X10_refusesTwo g l  hc2) (by decide) rfl (EX_10 (by decide)) K_X10_221 (by decide +kernel) ⟨by decide, by decide⟩ ⟨Nat.le_refl _, Nat.le_refl _⟩ rfl hl.1 rfl (Nat.le_of_ble_eq_true rfl) dX10_duel_3 (fun H locs hW => ?_)
  refine lv_istore_n (lv' := [(3, .int r1), (0, .ref (g.1 + 0)), (1, .int a1), (2, .int a2)]) C.1.1 C.1.2.1 dX10_duel_6 rfl hl (by decide) rfl (fun ls hl => ?_)
  refine lv_iload_n C.1.1 C.1.2.1 dX10_duel_7 rfl (lv_at hl 0 rfl) ?_
  refine lv_if_eq (tgt := 13) C.1.1 C.1.2.1 dX10_duel_8 (by decide) (fun hc3 => ?_) (fun hc3 => ?_)
  · replace h := ite_t hc3 h
    refine lv_aload_n C.1.1 C.1.2.1 dX10_duel_13 rfl (lv_at hl 1 rfl) ?_
    refine G_X10_47 C hW (by decide) dX10_duel_14 ?_
    refine lv_aload_n C.1.1 C.1.2.1 dX10_duel_17 rfl (lv_at hl 1 rfl) ?_
    refine G_X10_19 C hW (by decide) dX10_duel_18 ?_
    obtain ⟨I4, hc5, h⟩ := bd1_some h
    refine w_callVv (k := 1) (As := [.ref (g.1 + 3)]) (rest := []) C hW (c_X1_look g l (by decide) hc5) (by decide) rfl (EX_1 (by decide)) K_X10_210 (by decide +kernel) ⟨by decide, by decide⟩ ⟨Nat.le_refl _, Nat.le_refl _⟩ rfl hl.1 rfl (Nat.le_of_ble_eq_true rfl) dX10_duel_21 (fun H locs hW => ?_)
    refine lv_aload_n C.1.1 C.1.2.1 dX10_duel_24 rfl (lv_at hl 1 rfl) ?_
    refine G_X10_47 C hW (by decide) dX10_duel_25 ?_
    refine lv_aload_n C.1.1 C.1.2.1 dX10_duel_28 rfl (lv_at hl 1 rfl) ?_
    refine G_X10_19 C hW (by decide) dX10_duel_29 ?_
    refine G_X10_111 C hW (by decide) dX10_duel_32 ?_
    refine lv_iload_n C.1.1 C.1.2.1 dX10_duel_35 rfl (lv_at hl 2 rfl) ?_
    obtain ⟨hi6, h⟩ := gi_some h
    refine w_asit C hW (w := 3) (by decide) hi6 dX10_duel_36 ?_
    refine lv_aload_n C.1.1 C.1.2.1 dX10_duel_37 rfl (lv_at hl 1 rfl) ?_
    refine G_X10_19 C hW (by decide) dX10_duel_38 ?_
    refine G_X10_111 C hW (by decide) dX10_duel_41 ?_
    refine lv_iload_n C.1.1 C.1.2.1 dX10_duel_44 rfl (lv_at hl 3 rfl) ?_
    obtain ⟨hi7, h⟩ := gi_some h
    refine w_asit C hW (w := 3) (by decide) hi7 dX10_duel_45 ?_
    obtain ⟨r8, I9, hc10, h⟩ := bd2_some h
    refine w_callVi (k := 2) (As := [.ref (g.1 + (3 + 2 + a1.toNatClampNeg)), .ref (g.1 + (3 + 2 + a2.toNatClampNeg))]) (rest := []) C hW (c_X1_outlasts g l (kd_sit (by decide) hi6) (kd_sit (by decide) hi7) hc10) (by decide) rfl (EX_1 (by decide)) K_X10_224 (by decide +kernel) ⟨by decide, by decide⟩ ⟨Nat.le_refl _, Nat.le_refl _⟩ rfl hl.1 rfl (Nat.le_of_ble_eq_true rfl) dX10_duel_46 (fun H locs hW => ?_)
    refine lv_istore (lv' := [(4, .int r8), (3, .int r1), (0, .ref (g.1 + 0)), (1, .int a1), (2, .int a2)]) C.1.1 C.1.2.1 dX10_duel_49 hl (by decide) rfl (fun ls hl => ?_)
    refine lv_iload C.1.1 C.1.2.1 dX10_duel_51 (lv_at hl 0 rfl) ?_
    refine lv_if_ne (tgt := 59) C.1.1 C.1.2.1 dX10_duel_53 (by decide) (fun hc11 => ?_) (fun hc11 => ?_)
    · replace h := ite_f hc11 h
      refine lv_iload C.1.1 C.1.2.1 dX10_duel_59 (lv_at hl 0 rfl) ?_
      obtain ⟨y12, hj14, h⟩ := bd1_some h
      have kJ13 : ∀ (H : Heap) (locs : List Loc) (ls : Array Slot), Ws g s I9 L H locs → lv_has ls 5 [] → W p l e (rmD 6) s m args below meth c H locs 0 0 Q (F0 m 69 ls [.int y12]) := by
        intro H locs ls hW hl
        obtain ⟨rfl, rfl⟩ := inj2 h
        subst hQ
        exact w_iret C hW hr hlocks dX10_duel_69
      clear h
      have h := hj14
      clear hj14
      refine lv_if_le (tgt := 68) C.1.1 C.1.2.1 dX10_duel_61 (by decide) (fun hc15 => ?_) (fun hc15 => ?_)
      · replace h := ite_t hc15 h
        refine lv_iload_n C.1.1 C.1.2.1 dX10_duel_68 rfl (lv_at hl 4 rfl) ?_
        obtain rfl := inj1 h
        exact kJ13 _ _ _ hW (lv_sub hl [] rfl)
      · replace h := ite_f hc15 h
        refine lv_iload_n C.1.1 C.1.2.1 dX10_duel_64 rfl (lv_at hl 3 rfl) ?_
        refine lv_goto (tgt := 69) C.1.1 C.1.2.1 dX10_duel_65 (by decide) ?_
        obtain rfl := inj1 h
        exact kJ13 _ _ _ hW (lv_sub hl [] rfl)
    · replace h := ite_t hc11 h
      refine lv_bipush (v := -4) C.1.1 C.1.2.1 dX10_duel_56 (by decide) ?_
      obtain ⟨rfl, rfl⟩ := inj2 h
      subst hQ
      exact w_iret C hW hr hlocks dX10_duel_58
  · replace h := ite_f hc3 h
    refine lv_iload_n C.1.1 C.1.2.1 dX10_duel_11 rfl (lv_at hl 0 rfl) ?_
    obtain ⟨rfl, rfl⟩ := inj2 h
    subst hQ
    exact w_iret C hW hr hlocks dX10_duel_12
def f_X10_refusesOne (a1 : Int32) (I : MI) (L : ML) : Option (Int32) :=
  bd1 (f_X9_has 3 a1 I L) (fun r1 => (if r1 = 0 then some (-1 : Int32) else gi a1 6 (bd1 (f_X6_sits (3 + 2 + a1.toNatClampNeg) I L) (fun r5 => bd1 ((if r5 = 0 then some (-2 : Int32) else some (0 : Int32))) (fun y7 => some y7)))))
set_option maxHeartbeats 4000000 in
set_option maxRecDepth 100000 in
theorem c_X10_refusesOne (g : Gp) (l : Launch) {a1 : Int32}  {I : MI} {L : ML} {r : Int32} (h : f_X10_refusesOne a1 I L = some r) : MetI g l yX10_refusesOne cX10_refusesOne 2 .int 1 [.ref (g.1 + 0), .int a1] I L r I L := by
  unfold f_X10_refusesOne at h
  refine w_enter (by decide) (Nat.le_of_ble_eq_true rfl) (own := RX10) rfl ?_
  intro p e s m below meth c args Q hQ C hr hlocks hW ls hl
  have hl : lv_has ls 2 [(0, .ref (g.1 + 0)), (1, .int a1)] := hl
  refine lv_aload_n C.1.1 C.1.2.1 dX10_refusesOne_0 rfl (lv_at hl 0 rfl) ?_
  refine G_X10_19 C hW (by decide) dX10_refusesOne_1 ?_
  refine lv_iload_n C.1.1 C.1.2.1 dX10_refusesOne_4 rfl (lv_at hl 1 rfl) ?_
  obtain ⟨r1, hc2, h⟩ := bd1_some h
  refine w_callVi (k := 1) (As := [.int a1]) (rest := []) C hW (c_X9_has g l (by decide) hc2) (by decide) rfl (EX_9 (by decide)) K_X10_108 (by decide +kernel) ⟨by decide, by decide⟩ ⟨Nat.le_refl _, Nat.le_refl _⟩ rfl hl.1 rfl (Nat.le_of_ble_eq_true rfl) dX10_refusesOne_5 (fun H locs hW => ?_)
  refine lv_if_ne (tgt := 13) C.1.1 C.1.2.1 dX10_refusesOne_8 (by decide) (fun hc3 => ?_) (fun hc3 => ?_)
  · replace h := ite_f hc3 h
    refine lv_aload_n C.1.1 C.1.2.1 dX10_refusesOne_13 rfl (lv_at hl 0 rfl) ?_
    refine G_X10_19 C hW (by decide) dX10_refusesOne_14 ?_
    refine G_X10_111 C hW (by decide) dX10_refusesOne_17 ?_
    refine lv_iload_n C.1.1 C.1.2.1 dX10_refusesOne_20 rfl (lv_at hl 1 rfl) ?_
    obtain ⟨hi4, h⟩ := gi_some h
    refine w_asit C hW (w := 3) (by decide) hi4 dX10_refusesOne_21 ?_
    obtain ⟨r5, hc6, h⟩ := bd1_some h
    refine w_callVi (k := 0) (As := []) (rest := []) C hW (c_X6_sits g l (kd_sit (by decide) hi4) hc6) (kd_sit (by decide) hi4) rfl (EX_6 (kd_sit (by decide) hi4)) K_X10_185 (by decide +kernel) ⟨by decide, by decide⟩ ⟨Nat.le_refl _, Nat.le_refl _⟩ rfl hl.1 rfl (Nat.le_of_ble_eq_true rfl) dX10_refusesOne_22 (fun H locs hW => ?_)
    obtain ⟨y7, hj9, h⟩ := bd1_some h
    have kJ8 : ∀ (H : Heap) (locs : List Loc) (ls : Array Slot), Ws g s I L H locs → lv_has ls 2 [] → W p l e (rmD 1) s m args below meth c H locs 0 0 Q (F0 m 34 ls [.int y7]) := by
      intro H locs ls hW hl
      obtain rfl := inj1 h
      subst hQ
      exact w_iret C hW hr hlocks dX10_refusesOne_34
    clear h
    have h := hj9
    clear hj9
    refine lv_if_eq (tgt := 32) C.1.1 C.1.2.1 dX10_refusesOne_25 (by decide) (fun hc10 => ?_) (fun hc10 => ?_)
    · replace h := ite_t hc10 h
      refine lv_bipush (v := -2) C.1.1 C.1.2.1 dX10_refusesOne_32 (by decide) ?_
      obtain rfl := inj1 h
      exact kJ8 _ _ _ hW (lv_sub hl [] rfl)
    · replace h := ite_f hc10 h
      refine lv_iconst (v := 0) C.1.1 C.1.2.1 dX10_refusesOne_28 (by decide) ?_
      refine lv_goto (tgt := 34) C.1.1 C.1.2.1 dX10_refusesOne_29 (by decide) ?_
      obtain rfl := inj1 h
      exact kJ8 _ _ _ hW (lv_sub hl [] rfl)
  · replace h := ite_t hc3 h
    refine lv_iconst (v := -1) C.1.1 C.1.2.1 dX10_refusesOne_11 (by decide) ?_
    obtain rfl := inj1 h
    subst hQ
    exact w_iret C hW hr hlocks dX10_refusesOne_12
def b_X10_honour_28 (v1 : Int32) (L : ML) (z3 : Int32) (z4 : Int32) (I : MI) : Option ((Int32 × Int32 × MI) ⊕ ((Int32 × MI))) :=
  (if (I 3 1) ≤ z4 then some (Sum.inr (z3, I)) else bd2 ((if z4 = v1 then some (z3, I) else gi z4 6 (bd1 (f_X6_sits (3 + 2 + z4.toNatClampNeg) I L) (fun r14 => (if r14 = 0 then some (z3, I) else gi v1 6 (gi z4 6 (bd2 (f_X1_outlasts (3 + 2 + v1.toNatClampNeg) (3 + 2 + z4.toNatClampNeg) I L) (fun r19 I20 => nm (z3 + r19) (fun x22 => some (x22, I20)))))))))) (fun y7 I8 => nm (z4 + (1 : Int32)) (fun x11 => some (Sum.inl (y7, x11, I8)))))
set_option maxHeartbeats 4000000 in
set_option maxRecDepth 100000 in
theorem l_X10_honour_28 {g : Gp} {p : Program} {l : Launch} {e : Env} {s : State} {m : MethodId} {args : Array Value} {below : List Frame} {meth : Method} {c : Code} {Q : State → Prop}  (C : Cx g p s m args c RX10 cX10_honour 5) (v1 : Int32)  (L : ML) : ∀ (n : Nat) (z3 : Int32) (z4 : Int32) (I : MI) (y0_3 : Int32) (Iy0 : MI), lp (fun s => b_X10_honour_28 v1 L s.1 s.2.1 s.2.2) n (z3, z4, I) = some (y0_3, Iy0) → ∀ (H : Heap) (locs : List Loc) (ls : Array Slot), Ws g s I L H locs → lv_has ls 5 [(0, .ref (g.1 + 0)), (1, .int v1), (3, .int z3), (4, .int z4)] → (∀ (H : Heap) (locs : List Loc) (ls : Array Slot), Ws g s Iy0 L H locs → lv_has ls 5 [(3, .int y0_3)] → W p l e (rmD 6) s m args below meth c H locs 0 0 Q (F0 m 97 ls [])) → W p l e (rmD 6) s m args below meth c H locs 0 0 Q (F0 m 28 ls []) := by
  intro n
  induction n with
  | zero => intro z3 z4 I y0_3 Iy0 h; exact lp_zero h
  | succ n ih =>
      intro z3 z4 I y0_3 Iy0 h H locs ls hW hl hx0
      obtain ⟨r9, h, h9⟩ := lp_some h
      have h : b_X10_honour_28 v1 L z3 z4 I = some r9 := h
      unfold b_X10_honour_28 at h
      refine lv_iload C.1.1 C.1.2.1 dX10_honour_28 (lv_at hl 3 rfl) ?_
      refine lv_aload_n C.1.1 C.1.2.1 dX10_honour_30 rfl (lv_at hl 0 rfl) ?_
      refine G_X10_19 C hW (by decide) dX10_honour_31 ?_
      refine G_X10_105 C hW (by decide) dX10_honour_34 ?_
      refine lv_icmp_ge (tgt := 97) C.1.1 C.1.2.1 dX10_honour_37 (by decide) (fun hc6 => ?_) (fun hc6 => ?_)
      · replace h := ite_t hc6 h
        obtain rfl := Option.some.inj h
        replace h9 := Option.some.inj h9
        obtain ⟨rfl, rfl⟩ := pnj2 h9
        exact hx0 _ _ _ hW (lv_sub hl [2] rfl)
      · replace h := ite_f hc6 h
        refine lv_iload C.1.1 C.1.2.1 dX10_honour_40 (lv_at hl 3 rfl) ?_
        refine lv_iload_n C.1.1 C.1.2.1 dX10_honour_42 rfl (lv_at hl 1 rfl) ?_
        obtain ⟨y7, I8, hj10, h⟩ := bd2_some h
        have kJ9 : ∀ (H : Heap) (locs : List Loc) (ls : Array Slot), Ws g s I8 L H locs → lv_has ls 5 [(0, .ref (g.1 + 0)), (1, .int v1), (3, .int y7), (4, .int z4)] → W p l e (rmD 6) s m args below meth c H locs 0 0 Q (F0 m 91 ls []) := by
          intro H locs ls hW hl
          obtain ⟨x11, ex11⟩ : ∃ y : Int32, y = z4 + (1 : Int32) := ⟨_, rfl⟩
          replace h := nm_at ex11 h
          refine lv_iinc (v := x11) (lv' := [(4, .int x11), (0, .ref (g.1 + 0)), (1, .int v1), (3, .int y7)]) C.1.1 C.1.2.1 dX10_honour_91 hl (k := 3) rfl (by rw [ex11]; rfl) (by decide) rfl (fun ls hl => ?_)
          clear ex11
          refine lv_goto (tgt := 28) C.1.1 C.1.2.1 dX10_honour_94 (by decide) ?_
          obtain rfl := Option.some.inj h
          exact ih _ _ _ _ _ h9 _ _ _ hW (lv_sub hl [1, 2, 3, 0] rfl) hx0
        clear h
        have h := hj10
        clear hj10
        refine lv_icmp_eq (tgt := 91) C.1.1 C.1.2.1 dX10_honour_43 (by decide) (fun hc12 => ?_) (fun hc12 => ?_)
        · replace h := ite_t hc12 h
          obtain ⟨rfl, rfl⟩ := inj2 h
          exact kJ9 _ _ _ hW (lv_sub hl [0, 1, 2, 3] rfl)
        · replace h := ite_f hc12 h
          refine lv_aload_n C.1.1 C.1.2.1 dX10_honour_46 rfl (lv_at hl 0 rfl) ?_
          refine G_X10_19 C hW (by decide) dX10_honour_47 ?_
          refine G_X10_111 C hW (by decide) dX10_honour_50 ?_
          refine lv_iload C.1.1 C.1.2.1 dX10_honour_53 (lv_at hl 3 rfl) ?_
          obtain ⟨hi13, h⟩ := gi_some h
          refine w_asit C hW (w := 3) (by decide) hi13 dX10_honour_55 ?_
          obtain ⟨r14, hc15, h⟩ := bd1_some h
          refine w_callVi (k := 0) (As := []) (rest := []) C hW (c_X6_sits g l (kd_sit (by decide) hi13) hc15) (kd_sit (by decide) hi13) rfl (EX_6 (kd_sit (by decide) hi13)) K_X10_185 (by decide +kernel) ⟨by decide, by decide⟩ ⟨Nat.le_refl _, Nat.le_refl _⟩ rfl hl.1 rfl (Nat.le_of_ble_eq_true rfl) dX10_honour_56 (fun H locs hW => ?_)
          refine lv_if_eq (tgt := 91) C.1.1 C.1.2.1 dX10_honour_59 (by decide) (fun hc16 => ?_) (fun hc16 => ?_)
          · replace h := ite_t hc16 h
            obtain ⟨rfl, rfl⟩ := inj2 h
            exact kJ9 _ _ _ hW (lv_sub hl [0, 1, 2, 3] rfl)
          · replace h := ite_f hc16 h
            refine lv_iload_n C.1.1 C.1.2.1 dX10_honour_62 rfl (lv_at hl 2 rfl) ?_
            refine lv_aload_n C.1.1 C.1.2.1 dX10_honour_63 rfl (lv_at hl 0 rfl) ?_
            refine G_X10_47 C hW (by decide) dX10_honour_64 ?_
            refine lv_aload_n C.1.1 C.1.2.1 dX10_honour_67 rfl (lv_at hl 0 rfl) ?_
            refine G_X10_19 C hW (by decide) dX10_honour_68 ?_
            refine G_X10_111 C hW (by decide) dX10_honour_71 ?_
            refine lv_iload_n C.1.1 C.1.2.1 dX10_honour_74 rfl (lv_at hl 1 rfl) ?_
            obtain ⟨hi17, h⟩ := gi_some h
            refine w_asit C hW (w := 3) (by decide) hi17 dX10_honour_75 ?_
            refine lv_aload_n C.1.1 C.1.2.1 dX10_honour_76 rfl (lv_at hl 0 rfl) ?_
            refine G_X10_19 C hW (by decide) dX10_honour_77 ?_
            refine G_X10_111 C hW (by decide) dX10_honour_80 ?_
            refine lv_iload C.1.1 C.1.2.1 dX10_honour_83 (lv_at hl 3 rfl) ?_
            obtain ⟨hi18, h⟩ := gi_some h
            refine w_asit C hW (w := 3) (by decide) hi18 dX10_honour_85 ?_
            obtain ⟨r19, I20, hc21, h⟩ := bd2_some h
            refine w_callVi (k := 2) (As := [.ref (g.1 + (3 + 2 + v1.toNatClampNeg)), .ref (g.1 + (3 + 2 + z4.toNatClampNeg))]) (rest := [.int z3]) C hW (c_X1_outlasts g l (kd_sit (by decide) hi17) (kd_sit (by decide) hi18) hc21) (by decide) rfl (EX_1 (by decide)) K_X10_224 (by decide +kernel) ⟨by decide, by decide⟩ ⟨Nat.le_refl _, Nat.le_refl _⟩ rfl hl.1 rfl (Nat.le_of_ble_eq_true rfl) dX10_honour_86 (fun H locs hW => ?_)
            refine lv_iadd C.1.1 C.1.2.1 dX10_honour_89 ?_
            refine lv_topi (fun x22 ex22 => ?_)
            replace h := nm_at ex22 h
            clear ex22
            refine lv_istore_n (lv' := [(3, .int x22), (0, .ref (g.1 + 0)), (1, .int v1), (4, .int z4)]) C.1.1 C.1.2.1 dX10_honour_90 rfl hl (by decide) rfl (fun ls hl => ?_)
            obtain ⟨rfl, rfl⟩ := inj2 h
            exact kJ9 _ _ _ hW (lv_sub hl [1, 2, 0, 3] rfl)
def f_X10_honour (a1 : Int32) (I : MI) (L : ML) : Option (Int32 × MI) :=
  bd1 (f_X10_refusesOne a1 I L) (fun r1 => (if r1 = 0 then bd1 (f_X1_look 3 I L) (fun I4 => bd2 (lp (fun s => b_X10_honour_28 a1 L s.1 s.2.1 s.2.2) FU (((0 : Int32), (0 : Int32), I4))) (fun y24 I25 => some ((y24 + (10 : Int32), I25)))) else some (r1, I)))
set_option maxHeartbeats 4000000 in
set_option maxRecDepth 100000 in
theorem c_X10_honour (g : Gp) (l : Launch) {a1 : Int32}  {I : MI} {L : ML} {r : Int32} {I' : MI} (h : f_X10_honour a1 I L = some (r, I')) : MetI g l yX10_honour cX10_honour 5 .int 6 [.ref (g.1 + 0), .int a1] I L r I' L := by
  unfold f_X10_honour at h
  refine w_enter (by decide) (Nat.le_of_ble_eq_true rfl) (own := RX10) rfl ?_
  intro p e s m below meth c args Q hQ C hr hlocks hW ls hl
  have hl : lv_has ls 5 [(0, .ref (g.1 + 0)), (1, .int a1)] := hl
  refine lv_aload_n C.1.1 C.1.2.1 dX10_honour_0 rfl (lv_at hl 0 rfl) ?_
  refine lv_iload_n C.1.1 C.1.2.1 dX10_honour_1 rfl (lv_at hl 1 rfl) ?_
  obtain ⟨r1, hc2, h⟩ := bd1_some h
  refine w_callVi (k := 1) (As := [.int a1]) (rest := []) C hW (c_X10_refusesOne g l  hc2) (by decide) rfl (EX_10 (by decide)) K_X10_228 (by decide +kernel) ⟨by decide, by decide⟩ ⟨Nat.le_refl _, Nat.le_refl _⟩ rfl hl.1 rfl (Nat.le_of_ble_eq_true rfl) dX10_honour_2 (fun H locs hW => ?_)
  refine lv_istore_n (lv' := [(2, .int r1), (0, .ref (g.1 + 0)), (1, .int a1)]) C.1.1 C.1.2.1 dX10_honour_5 rfl hl (by decide) rfl (fun ls hl => ?_)
  refine lv_iload_n C.1.1 C.1.2.1 dX10_honour_6 rfl (lv_at hl 0 rfl) ?_
  refine lv_if_eq (tgt := 12) C.1.1 C.1.2.1 dX10_honour_7 (by decide) (fun hc3 => ?_) (fun hc3 => ?_)
  · replace h := ite_t hc3 h
    refine lv_aload_n C.1.1 C.1.2.1 dX10_honour_12 rfl (lv_at hl 1 rfl) ?_
    refine G_X10_47 C hW (by decide) dX10_honour_13 ?_
    refine lv_aload_n C.1.1 C.1.2.1 dX10_honour_16 rfl (lv_at hl 1 rfl) ?_
    refine G_X10_19 C hW (by decide) dX10_honour_17 ?_
    obtain ⟨I4, hc5, h⟩ := bd1_some h
    refine w_callVv (k := 1) (As := [.ref (g.1 + 3)]) (rest := []) C hW (c_X1_look g l (by decide) hc5) (by decide) rfl (EX_1 (by decide)) K_X10_210 (by decide +kernel) ⟨by decide, by decide⟩ ⟨Nat.le_refl _, Nat.le_refl _⟩ rfl hl.1 rfl (Nat.le_of_ble_eq_true rfl) dX10_honour_20 (fun H locs hW => ?_)
    refine lv_iconst (v := 0) C.1.1 C.1.2.1 dX10_honour_23 (by decide) ?_
    refine lv_istore_n (lv' := [(3, .int (0 : Int32)), (2, .int r1), (0, .ref (g.1 + 0)), (1, .int a1)]) C.1.1 C.1.2.1 dX10_honour_24 rfl hl (by decide) rfl (fun ls hl => ?_)
    refine lv_iconst (v := 0) C.1.1 C.1.2.1 dX10_honour_25 (by decide) ?_
    refine lv_istore (lv' := [(4, .int (0 : Int32)), (3, .int (0 : Int32)), (2, .int r1), (0, .ref (g.1 + 0)), (1, .int a1)]) C.1.1 C.1.2.1 dX10_honour_26 hl (by decide) rfl (fun ls hl => ?_)
    obtain ⟨y24, I25, hq23, h⟩ := bd2_some h
    refine l_X10_honour_28 C a1  L _ _ _ _ _ _ hq23 _ _ _ hW (lv_sub hl [3, 4, 1, 0] rfl) (fun H locs ls hW hl => ?_)
    refine lv_iload_n C.1.1 C.1.2.1 dX10_honour_97 rfl (lv_at hl 0 rfl) ?_
    refine lv_bipush (v := 10) C.1.1 C.1.2.1 dX10_honour_98 (by decide) ?_
    refine lv_iadd C.1.1 C.1.2.1 dX10_honour_100 ?_
    obtain ⟨rfl, rfl⟩ := inj2 h
    subst hQ
    exact w_iret C hW hr hlocks dX10_honour_101
  · replace h := ite_f hc3 h
    refine lv_iload_n C.1.1 C.1.2.1 dX10_honour_10 rfl (lv_at hl 0 rfl) ?_
    obtain ⟨rfl, rfl⟩ := inj2 h
    subst hQ
    exact w_iret C hW hr hlocks dX10_honour_11
def f_X10_eat (a1 : Int32) (a2 : Int32) (a3 : Int32) (I : MI) (L : ML) : Option (Int32 × MI) :=
  bd1 (f_X10_within a2 (1 : Int32) (8 : Int32)) (fun r1 => (if r1 = 0 then some (((-1 : Int32), I)) else bd1 (f_X10_within a3 (0 : Int32) (1 : Int32)) (fun r4 => (if r4 = 0 then some (((-1 : Int32), I)) else bd1 (f_X10_refusesOne a1 I L) (fun r7 => (if r7 = 0 then bd1 (f_X1_look 3 I L) (fun I10 => gi a1 6 (bd2 (f_X1_bestMeals (3 + 2 + a1.toNatClampNeg) a2 I10 L) (fun r13 I14 => bd2 ((if a3 = 0 then bd2 (f_X1_hoursSat (3 + 2 + a1.toNatClampNeg) a2 r13 I14 L) (fun r21 I22 => some (r21, I22)) else some (r13, I14))) (fun y16 I17 => some (y16, I17))))) else some (r7, I)))))))
set_option maxHeartbeats 4000000 in
set_option maxRecDepth 100000 in
theorem c_X10_eat (g : Gp) (l : Launch) {a1 : Int32} {a2 : Int32} {a3 : Int32}  {I : MI} {L : ML} {r : Int32} {I' : MI} (h : f_X10_eat a1 a2 a3 I L = some (r, I')) : MetI g l yX10_eat cX10_eat 7 .int 6 [.ref (g.1 + 0), .int a1, .int a2, .int a3] I L r I' L := by
  unfold f_X10_eat at h
  refine w_enter (by decide) (Nat.le_of_ble_eq_true rfl) (own := RX10) rfl ?_
  intro p e s m below meth c args Q hQ C hr hlocks hW ls hl
  have hl : lv_has ls 7 [(0, .ref (g.1 + 0)), (1, .int a1), (2, .int a2), (3, .int a3)] := hl
  refine lv_iload_n C.1.1 C.1.2.1 dX10_eat_0 rfl (lv_at hl 2 rfl) ?_
  refine lv_iconst (v := 1) C.1.1 C.1.2.1 dX10_eat_1 (by decide) ?_
  refine lv_bipush (v := 8) C.1.1 C.1.2.1 dX10_eat_2 (by decide) ?_
  obtain ⟨r1, hc2, h⟩ := bd1_some h
  refine w_callSi (k := 3) (As := [.int a2, .int (1 : Int32), .int (8 : Int32)]) (rest := []) C hW (c_X10_within g l  hc2 I L) K_X10_79 (by decide +kernel) ⟨by decide, by decide⟩ ⟨Nat.le_refl _, Nat.le_refl _⟩ rfl hl.1 rfl (Nat.le_of_ble_eq_true rfl) dX10_eat_4 (fun H locs hW => ?_)
  refine lv_if_eq (tgt := 19) C.1.1 C.1.2.1 dX10_eat_7 (by decide) (fun hc3 => ?_) (fun hc3 => ?_)
  · replace h := ite_t hc3 h
    refine lv_iconst (v := -1) C.1.1 C.1.2.1 dX10_eat_19 (by decide) ?_
    obtain ⟨rfl, rfl⟩ := inj2 h
    subst hQ
    exact w_iret C hW hr hlocks dX10_eat_20
  · replace h := ite_f hc3 h
    refine lv_iload_n C.1.1 C.1.2.1 dX10_eat_10 rfl (lv_at hl 3 rfl) ?_
    refine lv_iconst (v := 0) C.1.1 C.1.2.1 dX10_eat_11 (by decide) ?_
    refine lv_iconst (v := 1) C.1.1 C.1.2.1 dX10_eat_12 (by decide) ?_
    obtain ⟨r4, hc5, h⟩ := bd1_some h
    refine w_callSi (k := 3) (As := [.int a3, .int (0 : Int32), .int (1 : Int32)]) (rest := []) C hW (c_X10_within g l  hc5 I L) K_X10_79 (by decide +kernel) ⟨by decide, by decide⟩ ⟨Nat.le_refl _, Nat.le_refl _⟩ rfl hl.1 rfl (Nat.le_of_ble_eq_true rfl) dX10_eat_13 (fun H locs hW => ?_)
    refine lv_if_ne (tgt := 21) C.1.1 C.1.2.1 dX10_eat_16 (by decide) (fun hc6 => ?_) (fun hc6 => ?_)
    · replace h := ite_f hc6 h
      refine lv_aload_n C.1.1 C.1.2.1 dX10_eat_21 rfl (lv_at hl 0 rfl) ?_
      refine lv_iload_n C.1.1 C.1.2.1 dX10_eat_22 rfl (lv_at hl 1 rfl) ?_
      obtain ⟨r7, hc8, h⟩ := bd1_some h
      refine w_callVi (k := 1) (As := [.int a1]) (rest := []) C hW (c_X10_refusesOne g l  hc8) (by decide) rfl (EX_10 (by decide)) K_X10_228 (by decide +kernel) ⟨by decide, by decide⟩ ⟨Nat.le_refl _, Nat.le_refl _⟩ rfl hl.1 rfl (Nat.le_of_ble_eq_true rfl) dX10_eat_23 (fun H locs hW => ?_)
      refine lv_istore (lv' := [(4, .int r7), (0, .ref (g.1 + 0)), (1, .int a1), (2, .int a2), (3, .int a3)]) C.1.1 C.1.2.1 dX10_eat_26 hl (by decide) rfl (fun ls hl => ?_)
      refine lv_iload C.1.1 C.1.2.1 dX10_eat_28 (lv_at hl 0 rfl) ?_
      refine lv_if_eq (tgt := 36) C.1.1 C.1.2.1 dX10_eat_30 (by decide) (fun hc9 => ?_) (fun hc9 => ?_)
      · replace h := ite_t hc9 h
        refine lv_aload_n C.1.1 C.1.2.1 dX10_eat_36 rfl (lv_at hl 1 rfl) ?_
        refine G_X10_47 C hW (by decide) dX10_eat_37 ?_
        refine lv_aload_n C.1.1 C.1.2.1 dX10_eat_40 rfl (lv_at hl 1 rfl) ?_
        refine G_X10_19 C hW (by decide) dX10_eat_41 ?_
        obtain ⟨I10, hc11, h⟩ := bd1_some h
        refine w_callVv (k := 1) (As := [.ref (g.1 + 3)]) (rest := []) C hW (c_X1_look g l (by decide) hc11) (by decide) rfl (EX_1 (by decide)) K_X10_210 (by decide +kernel) ⟨by decide, by decide⟩ ⟨Nat.le_refl _, Nat.le_refl _⟩ rfl hl.1 rfl (Nat.le_of_ble_eq_true rfl) dX10_eat_44 (fun H locs hW => ?_)
        refine lv_aload_n C.1.1 C.1.2.1 dX10_eat_47 rfl (lv_at hl 1 rfl) ?_
        refine G_X10_19 C hW (by decide) dX10_eat_48 ?_
        refine G_X10_111 C hW (by decide) dX10_eat_51 ?_
        refine lv_iload_n C.1.1 C.1.2.1 dX10_eat_54 rfl (lv_at hl 2 rfl) ?_
        obtain ⟨hi12, h⟩ := gi_some h
        refine w_asit C hW (w := 3) (by decide) hi12 dX10_eat_55 ?_
        refine lv_astore (lv' := [(5, .ref (g.1 + (3 + 2 + a1.toNatClampNeg))), (4, .int r7), (0, .ref (g.1 + 0)), (1, .int a1), (2, .int a2), (3, .int a3)]) C.1.1 C.1.2.1 dX10_eat_56 hl (by decide) rfl (fun ls hl => ?_)
        refine lv_aload_n C.1.1 C.1.2.1 dX10_eat_58 rfl (lv_at hl 2 rfl) ?_
        refine G_X10_47 C hW (by decide) dX10_eat_59 ?_
        refine lv_aload C.1.1 C.1.2.1 dX10_eat_62 (lv_at hl 0 rfl) ?_
        refine lv_iload_n C.1.1 C.1.2.1 dX10_eat_64 rfl (lv_at hl 4 rfl) ?_
        obtain ⟨r13, I14, hc15, h⟩ := bd2_some h
        refine w_callVi (k := 2) (As := [.ref (g.1 + (3 + 2 + a1.toNatClampNeg)), .int a2]) (rest := []) C hW (c_X1_bestMeals g l (kd_sit (by decide) hi12) hc15) (by decide) rfl (EX_1 (by decide)) K_X10_232 (by decide +kernel) ⟨by decide, by decide⟩ ⟨Nat.le_refl _, Nat.le_refl _⟩ rfl hl.1 rfl (Nat.le_of_ble_eq_true rfl) dX10_eat_65 (fun H locs hW => ?_)
        refine lv_istore (lv' := [(6, .int r13), (5, .ref (g.1 + (3 + 2 + a1.toNatClampNeg))), (4, .int r7), (0, .ref (g.1 + 0)), (1, .int a1), (2, .int a2), (3, .int a3)]) C.1.1 C.1.2.1 dX10_eat_68 hl (by decide) rfl (fun ls hl => ?_)
        refine lv_iload_n C.1.1 C.1.2.1 dX10_eat_70 rfl (lv_at hl 6 rfl) ?_
        obtain ⟨y16, I17, hj19, h⟩ := bd2_some h
        have kJ18 : ∀ (H : Heap) (locs : List Loc) (ls : Array Slot), Ws g s I17 L H locs → lv_has ls 7 [] → W p l e (rmD 6) s m args below meth c H locs 0 0 Q (F0 m 91 ls [.int y16]) := by
          intro H locs ls hW hl
          obtain ⟨rfl, rfl⟩ := inj2 h
          subst hQ
          exact w_iret C hW hr hlocks dX10_eat_91
        clear h
        have h := hj19
        clear hj19
        refine lv_if_ne (tgt := 89) C.1.1 C.1.2.1 dX10_eat_71 (by decide) (fun hc20 => ?_) (fun hc20 => ?_)
        · replace h := ite_f hc20 h
          refine lv_iload C.1.1 C.1.2.1 dX10_eat_89 (lv_at hl 0 rfl) ?_
          obtain ⟨rfl, rfl⟩ := inj2 h
          exact kJ18 _ _ _ hW (lv_sub hl [] rfl)
        · replace h := ite_t hc20 h
          refine lv_aload_n C.1.1 C.1.2.1 dX10_eat_74 rfl (lv_at hl 3 rfl) ?_
          refine G_X10_47 C hW (by decide) dX10_eat_75 ?_
          refine lv_aload C.1.1 C.1.2.1 dX10_eat_78 (lv_at hl 1 rfl) ?_
          refine lv_iload_n C.1.1 C.1.2.1 dX10_eat_80 rfl (lv_at hl 5 rfl) ?_
          refine lv_iload C.1.1 C.1.2.1 dX10_eat_81 (lv_at hl 0 rfl) ?_
          obtain ⟨r21, I22, hc23, h⟩ := bd2_some h
          refine w_callVi (k := 3) (As := [.ref (g.1 + (3 + 2 + a1.toNatClampNeg)), .int a2, .int r13]) (rest := []) C hW (c_X1_hoursSat g l (kd_sit (by decide) hi12) hc23) (by decide) rfl (EX_1 (by decide)) K_X10_217 (by decide +kernel) ⟨by decide, by decide⟩ ⟨Nat.le_refl _, Nat.le_refl _⟩ rfl hl.1 rfl (Nat.le_of_ble_eq_true rfl) dX10_eat_83 (fun H locs hW => ?_)
          refine lv_goto (tgt := 91) C.1.1 C.1.2.1 dX10_eat_86 (by decide) ?_
          obtain ⟨rfl, rfl⟩ := inj2 h
          exact kJ18 _ _ _ hW (lv_sub hl [] rfl)
      · replace h := ite_f hc9 h
        refine lv_iload C.1.1 C.1.2.1 dX10_eat_33 (lv_at hl 0 rfl) ?_
        obtain ⟨rfl, rfl⟩ := inj2 h
        subst hQ
        exact w_iret C hW hr hlocks dX10_eat_35
    · replace h := ite_t hc6 h
      refine lv_iconst (v := -1) C.1.1 C.1.2.1 dX10_eat_19 (by decide) ?_
      obtain ⟨rfl, rfl⟩ := inj2 h
      subst hQ
      exact w_iret C hW hr hlocks dX10_eat_20
def f_X10_train (a1 : Int32) (a2 : Int32) (a3 : Int32) (I : MI) (L : ML) : Option (Int32 × MI) :=
  bd1 (f_X10_within a2 (1 : Int32) (40 : Int32)) (fun r1 => (if r1 = 0 then some (((-1 : Int32), I)) else bd1 (f_X10_within a3 (0 : Int32) (3 : Int32)) (fun r4 => (if r4 = 0 then some (((-1 : Int32), I)) else bd1 (f_X10_refusesOne a1 I L) (fun r7 => (if r7 = 0 then bd1 (f_X1_look 3 I L) (fun I10 => gi a1 6 (bd2 (f_X1_findTraining (3 + 2 + a1.toNatClampNeg) a2 I10 L) (fun r13 I14 => bd1 ((if r13 = 0 then some (-4 : Int32) else gi a3 4 (some (I14 210 a3.toNatClampNeg)))) (fun y16 => some (y16, I14))))) else some (r7, I)))))))
set_option maxHeartbeats 4000000 in
set_option maxRecDepth 100000 in
theorem c_X10_train (g : Gp) (l : Launch) {a1 : Int32} {a2 : Int32} {a3 : Int32}  {I : MI} {L : ML} {r : Int32} {I' : MI} (h : f_X10_train a1 a2 a3 I L = some (r, I')) : MetI g l yX10_train cX10_train 5 .int 6 [.ref (g.1 + 0), .int a1, .int a2, .int a3] I L r I' L := by
  unfold f_X10_train at h
  refine w_enter (by decide) (Nat.le_of_ble_eq_true rfl) (own := RX10) rfl ?_
  intro p e s m below meth c args Q hQ C hr hlocks hW ls hl
  have hl : lv_has ls 5 [(0, .ref (g.1 + 0)), (1, .int a1), (2, .int a2), (3, .int a3)] := hl
  refine lv_iload_n C.1.1 C.1.2.1 dX10_train_0 rfl (lv_at hl 2 rfl) ?_
  refine lv_iconst (v := 1) C.1.1 C.1.2.1 dX10_train_1 (by decide) ?_
  refine lv_bipush (v := 40) C.1.1 C.1.2.1 dX10_train_2 (by decide) ?_
  obtain ⟨r1, hc2, h⟩ := bd1_some h
  refine w_callSi (k := 3) (As := [.int a2, .int (1 : Int32), .int (40 : Int32)]) (rest := []) C hW (c_X10_within g l  hc2 I L) K_X10_79 (by decide +kernel) ⟨by decide, by decide⟩ ⟨Nat.le_refl _, Nat.le_refl _⟩ rfl hl.1 rfl (Nat.le_of_ble_eq_true rfl) dX10_train_4 (fun H locs hW => ?_)
  refine lv_if_eq (tgt := 19) C.1.1 C.1.2.1 dX10_train_7 (by decide) (fun hc3 => ?_) (fun hc3 => ?_)
  · replace h := ite_t hc3 h
    refine lv_iconst (v := -1) C.1.1 C.1.2.1 dX10_train_19 (by decide) ?_
    obtain ⟨rfl, rfl⟩ := inj2 h
    subst hQ
    exact w_iret C hW hr hlocks dX10_train_20
  · replace h := ite_f hc3 h
    refine lv_iload_n C.1.1 C.1.2.1 dX10_train_10 rfl (lv_at hl 3 rfl) ?_
    refine lv_iconst (v := 0) C.1.1 C.1.2.1 dX10_train_11 (by decide) ?_
    refine lv_iconst (v := 3) C.1.1 C.1.2.1 dX10_train_12 (by decide) ?_
    obtain ⟨r4, hc5, h⟩ := bd1_some h
    refine w_callSi (k := 3) (As := [.int a3, .int (0 : Int32), .int (3 : Int32)]) (rest := []) C hW (c_X10_within g l  hc5 I L) K_X10_79 (by decide +kernel) ⟨by decide, by decide⟩ ⟨Nat.le_refl _, Nat.le_refl _⟩ rfl hl.1 rfl (Nat.le_of_ble_eq_true rfl) dX10_train_13 (fun H locs hW => ?_)
    refine lv_if_ne (tgt := 21) C.1.1 C.1.2.1 dX10_train_16 (by decide) (fun hc6 => ?_) (fun hc6 => ?_)
    · replace h := ite_f hc6 h
      refine lv_aload_n C.1.1 C.1.2.1 dX10_train_21 rfl (lv_at hl 0 rfl) ?_
      refine lv_iload_n C.1.1 C.1.2.1 dX10_train_22 rfl (lv_at hl 1 rfl) ?_
      obtain ⟨r7, hc8, h⟩ := bd1_some h
      refine w_callVi (k := 1) (As := [.int a1]) (rest := []) C hW (c_X10_refusesOne g l  hc8) (by decide) rfl (EX_10 (by decide)) K_X10_228 (by decide +kernel) ⟨by decide, by decide⟩ ⟨Nat.le_refl _, Nat.le_refl _⟩ rfl hl.1 rfl (Nat.le_of_ble_eq_true rfl) dX10_train_23 (fun H locs hW => ?_)
      refine lv_istore (lv' := [(4, .int r7), (0, .ref (g.1 + 0)), (1, .int a1), (2, .int a2), (3, .int a3)]) C.1.1 C.1.2.1 dX10_train_26 hl (by decide) rfl (fun ls hl => ?_)
      refine lv_iload C.1.1 C.1.2.1 dX10_train_28 (lv_at hl 0 rfl) ?_
      refine lv_if_eq (tgt := 36) C.1.1 C.1.2.1 dX10_train_30 (by decide) (fun hc9 => ?_) (fun hc9 => ?_)
      · replace h := ite_t hc9 h
        refine lv_aload_n C.1.1 C.1.2.1 dX10_train_36 rfl (lv_at hl 1 rfl) ?_
        refine G_X10_47 C hW (by decide) dX10_train_37 ?_
        refine lv_aload_n C.1.1 C.1.2.1 dX10_train_40 rfl (lv_at hl 1 rfl) ?_
        refine G_X10_19 C hW (by decide) dX10_train_41 ?_
        obtain ⟨I10, hc11, h⟩ := bd1_some h
        refine w_callVv (k := 1) (As := [.ref (g.1 + 3)]) (rest := []) C hW (c_X1_look g l (by decide) hc11) (by decide) rfl (EX_1 (by decide)) K_X10_210 (by decide +kernel) ⟨by decide, by decide⟩ ⟨Nat.le_refl _, Nat.le_refl _⟩ rfl hl.1 rfl (Nat.le_of_ble_eq_true rfl) dX10_train_44 (fun H locs hW => ?_)
        refine lv_aload_n C.1.1 C.1.2.1 dX10_train_47 rfl (lv_at hl 1 rfl) ?_
        refine G_X10_47 C hW (by decide) dX10_train_48 ?_
        refine lv_aload_n C.1.1 C.1.2.1 dX10_train_51 rfl (lv_at hl 1 rfl) ?_
        refine G_X10_19 C hW (by decide) dX10_train_52 ?_
        refine G_X10_111 C hW (by decide) dX10_train_55 ?_
        refine lv_iload_n C.1.1 C.1.2.1 dX10_train_58 rfl (lv_at hl 2 rfl) ?_
        obtain ⟨hi12, h⟩ := gi_some h
        refine w_asit C hW (w := 3) (by decide) hi12 dX10_train_59 ?_
        refine lv_iload_n C.1.1 C.1.2.1 dX10_train_60 rfl (lv_at hl 3 rfl) ?_
        obtain ⟨r13, I14, hc15, h⟩ := bd2_some h
        refine w_callVi (k := 2) (As := [.ref (g.1 + (3 + 2 + a1.toNatClampNeg)), .int a2]) (rest := []) C hW (c_X1_findTraining g l (kd_sit (by decide) hi12) hc15) (by decide) rfl (EX_1 (by decide)) K_X10_235 (by decide +kernel) ⟨by decide, by decide⟩ ⟨Nat.le_refl _, Nat.le_refl _⟩ rfl hl.1 rfl (Nat.le_of_ble_eq_true rfl) dX10_train_61 (fun H locs hW => ?_)
        obtain ⟨y16, hj18, h⟩ := bd1_some h
        have kJ17 : ∀ (H : Heap) (locs : List Loc) (ls : Array Slot), Ws g s I14 L H locs → lv_has ls 5 [] → W p l e (rmD 6) s m args below meth c H locs 0 0 Q (F0 m 81 ls [.int y16]) := by
          intro H locs ls hW hl
          obtain ⟨rfl, rfl⟩ := inj2 h
          subst hQ
          exact w_iret C hW hr hlocks dX10_train_81
        clear h
        have h := hj18
        clear hj18
        refine lv_if_eq (tgt := 79) C.1.1 C.1.2.1 dX10_train_64 (by decide) (fun hc19 => ?_) (fun hc19 => ?_)
        · replace h := ite_t hc19 h
          refine lv_bipush (v := -4) C.1.1 C.1.2.1 dX10_train_79 (by decide) ?_
          obtain rfl := inj1 h
          exact kJ17 _ _ _ hW (lv_sub hl [] rfl)
        · replace h := ite_f hc19 h
          refine lv_aload_n C.1.1 C.1.2.1 dX10_train_67 rfl (lv_at hl 1 rfl) ?_
          refine G_X10_47 C hW (by decide) dX10_train_68 ?_
          refine G_X10_239 C hW (by decide) dX10_train_71 ?_
          refine lv_iload_n C.1.1 C.1.2.1 dX10_train_74 rfl (lv_at hl 4 rfl) ?_
          obtain ⟨hi20, h⟩ := gi_some h
          refine w_iald C hW (n := 4) (by decide) (by decide) hi20 dX10_train_75 ?_
          refine lv_goto (tgt := 81) C.1.1 C.1.2.1 dX10_train_76 (by decide) ?_
          obtain rfl := inj1 h
          exact kJ17 _ _ _ hW (lv_sub hl [] rfl)
      · replace h := ite_f hc9 h
        refine lv_iload C.1.1 C.1.2.1 dX10_train_33 (lv_at hl 0 rfl) ?_
        obtain ⟨rfl, rfl⟩ := inj2 h
        subst hQ
        exact w_iret C hW hr hlocks dX10_train_35
    · replace h := ite_t hc6 h
      refine lv_iconst (v := -1) C.1.1 C.1.2.1 dX10_train_19 (by decide) ?_
      obtain ⟨rfl, rfl⟩ := inj2 h
      subst hQ
      exact w_iret C hW hr hlocks dX10_train_20
