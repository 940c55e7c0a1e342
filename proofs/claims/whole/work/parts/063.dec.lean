def b_X8_plan_8 (v1 : Nat) (v2 : Int32) (v3 : Int32) (L : ML) (z4 : Int32) (I : MI) : Option ((Int32 × MI) ⊕ ((MI))) :=
  (if v3 ≤ z4 then some (Sum.inr I) else (if (7 : Int32) ≤ z4 then some (Sum.inr I) else bd1 (f_X5_holds v1 v2 (((2 : Int32) * z4) + (2 : Int32)) I L) (fun r4 => (if r4 = 0 then some (Sum.inr I) else gi (v2 + ((2 : Int32) * z4)) 24 (gi z4 7 (nm (up2 I 238 z4.toNatClampNeg ((L (v1 + 1) (v2 + ((2 : Int32) * z4)).toNatClampNeg).toInt32)) (fun I9 => gi ((v2 + ((2 : Int32) * z4)) + (1 : Int32)) 24 (gi z4 7 (nm (up2 I9 239 z4.toNatClampNeg ((L (v1 + 1) ((v2 + ((2 : Int32) * z4)) + (1 : Int32)).toNatClampNeg).toInt32)) (fun I12 => nm (up2 I12 237 2 ((I12 237 2) + (1 : Int32))) (fun I13 => nm (z4 + (1 : Int32)) (fun x14 => some (Sum.inl (x14, I13))))))))))))))
set_option maxHeartbeats 4000000 in
set_option maxRecDepth 100000 in
theorem l_X8_plan_8 {g : Gp} {p : Program} {l : Launch} {e : Env} {s : State} {m : MethodId} {args : Array Value} {below : List Frame} {meth : Method} {c : Code} {Q : State → Prop}  (C : Cx g p s m args c RX8 cX8_plan 7) (v1 : Nat) (v2 : Int32) (v3 : Int32) (hv1 : kd v1 = 5) (L : ML) : ∀ (n : Nat) (z4 : Int32) (I : MI) (Iy0 : MI), lp (fun s => b_X8_plan_8 v1 v2 v3 L s.1 s.2) n (z4, I) = some Iy0 → ∀ (H : Heap) (locs : List Loc) (ls : Array Slot), Ws g s I L H locs → lv_has ls 7 [(0, .ref (g.1 + 237)), (1, .ref (g.1 + v1)), (2, .int v2), (3, .int v3), (4, .int z4)] → (∀ (H : Heap) (locs : List Loc) (ls : Array Slot), Ws g s Iy0 L H locs → lv_has ls 7 [(0, .ref (g.1 + 237))] → W p l e (rmD 12) s m args below meth c H locs 0 0 Q (F0 m 91 ls [])) → W p l e (rmD 12) s m args below meth c H locs 0 0 Q (F0 m 8 ls []) := by
  intro n
  induction n with
  | zero => intro z4 I Iy0 h; exact lp_zero h
  | succ n ih =>
      intro z4 I Iy0 h H locs ls hW hl hx0
      obtain ⟨r9, h, h9⟩ := lp_some h
      have h : b_X8_plan_8 v1 v2 v3 L z4 I = some r9 := h
      unfold b_X8_plan_8 at h
      refine lv_iload C.1.1 C.1.2.1 dX8_plan_8 (lv_at hl 4 rfl) ?_
      refine lv_iload_n C.1.1 C.1.2.1 dX8_plan_10 rfl (lv_at hl 3 rfl) ?_
      refine lv_icmp_ge (tgt := 91) C.1.1 C.1.2.1 dX8_plan_11 (by decide) (fun hc2 => ?_) (fun hc2 => ?_)
      · replace h := ite_t hc2 h
        obtain rfl := Option.some.inj h
        replace h9 := Option.some.inj h9
        obtain rfl := pnj1 h9
        exact hx0 _ _ _ hW (lv_sub hl [0] rfl)
      · replace h := ite_f hc2 h
        refine lv_iload C.1.1 C.1.2.1 dX8_plan_14 (lv_at hl 4 rfl) ?_
        refine lv_bipush (v := 7) C.1.1 C.1.2.1 dX8_plan_16 (by decide) ?_
        refine lv_icmp_ge (tgt := 91) C.1.1 C.1.2.1 dX8_plan_18 (by decide) (fun hc3 => ?_) (fun hc3 => ?_)
        · replace h := ite_t hc3 h
          obtain rfl := Option.some.inj h
          replace h9 := Option.some.inj h9
          obtain rfl := pnj1 h9
          exact hx0 _ _ _ hW (lv_sub hl [0] rfl)
        · replace h := ite_f hc3 h
          refine lv_aload_n C.1.1 C.1.2.1 dX8_plan_21 rfl (lv_at hl 1 rfl) ?_
          refine lv_iload_n C.1.1 C.1.2.1 dX8_plan_22 rfl (lv_at hl 2 rfl) ?_
          refine lv_iconst (v := 2) C.1.1 C.1.2.1 dX8_plan_23 (by decide) ?_
          refine lv_iload C.1.1 C.1.2.1 dX8_plan_24 (lv_at hl 4 rfl) ?_
          refine lv_imul C.1.1 C.1.2.1 dX8_plan_26 ?_
          refine lv_iconst (v := 2) C.1.1 C.1.2.1 dX8_plan_27 (by decide) ?_
          refine lv_iadd C.1.1 C.1.2.1 dX8_plan_28 ?_
          obtain ⟨r4, hc5, h⟩ := bd1_some h
          refine w_callVi (k := 2) (As := [.int v2, .int (((2 : Int32) * z4) + (2 : Int32))]) (rest := []) C hW (c_X5_holds g l hv1 hc5) hv1 rfl (EX_5 hv1) K_X8_22 (by decide +kernel) ⟨by decide, by decide⟩ ⟨Nat.le_refl _, Nat.le_refl _⟩ rfl hl.1 rfl (Nat.le_of_ble_eq_true rfl) dX8_plan_29 (fun H locs hW => ?_)
          refine lv_if_eq (tgt := 91) C.1.1 C.1.2.1 dX8_plan_32 (by decide) (fun hc6 => ?_) (fun hc6 => ?_)
          · replace h := ite_t hc6 h
            obtain rfl := Option.some.inj h
            replace h9 := Option.some.inj h9
            obtain rfl := pnj1 h9
            exact hx0 _ _ _ hW (lv_sub hl [0] rfl)
          · replace h := ite_f hc6 h
            refine lv_aload_n C.1.1 C.1.2.1 dX8_plan_35 rfl (lv_at hl 0 rfl) ?_
            refine G_X8_9 C hW (by decide) dX8_plan_36 ?_
            refine lv_iload C.1.1 C.1.2.1 dX8_plan_39 (lv_at hl 4 rfl) ?_
            refine lv_aload_n C.1.1 C.1.2.1 dX8_plan_41 rfl (lv_at hl 1 rfl) ?_
            refine G_X8_28 C hW hv1 dX8_plan_42 ?_
            refine lv_iload_n C.1.1 C.1.2.1 dX8_plan_45 rfl (lv_at hl 2 rfl) ?_
            refine lv_iconst (v := 2) C.1.1 C.1.2.1 dX8_plan_46 (by decide) ?_
            refine lv_iload C.1.1 C.1.2.1 dX8_plan_47 (lv_at hl 4 rfl) ?_
            refine lv_imul C.1.1 C.1.2.1 dX8_plan_49 ?_
            refine lv_iadd C.1.1 C.1.2.1 dX8_plan_50 ?_
            obtain ⟨hi7, h⟩ := gi_some h
            refine w_lald C hW (n := 24) (kd_it hv1) (ln_it hv1) hi7 dX8_plan_51 ?_
            refine lv_l2i C.1.1 C.1.2.1 dX8_plan_52 rfl ?_
            obtain ⟨hi8, h⟩ := gi_some h
            refine w_iast C hW (n := 7) (by decide) (by decide) hi8 dX8_plan_53 (fun H locs hW => ?_)
            obtain ⟨I9, eI9, h⟩ := nm_some h
            rw [← eI9] at hW
            clear eI9
            refine lv_aload_n C.1.1 C.1.2.1 dX8_plan_54 rfl (lv_at hl 0 rfl) ?_
            refine G_X8_15 C hW (by decide) dX8_plan_55 ?_
            refine lv_iload C.1.1 C.1.2.1 dX8_plan_58 (lv_at hl 4 rfl) ?_
            refine lv_aload_n C.1.1 C.1.2.1 dX8_plan_60 rfl (lv_at hl 1 rfl) ?_
            refine G_X8_28 C hW hv1 dX8_plan_61 ?_
            refine lv_iload_n C.1.1 C.1.2.1 dX8_plan_64 rfl (lv_at hl 2 rfl) ?_
            refine lv_iconst (v := 2) C.1.1 C.1.2.1 dX8_plan_65 (by decide) ?_
            refine lv_iload C.1.1 C.1.2.1 dX8_plan_66 (lv_at hl 4 rfl) ?_
            refine lv_imul C.1.1 C.1.2.1 dX8_plan_68 ?_
            refine lv_iadd C.1.1 C.1.2.1 dX8_plan_69 ?_
            refine lv_iconst (v := 1) C.1.1 C.1.2.1 dX8_plan_70 (by decide) ?_
            refine lv_iadd C.1.1 C.1.2.1 dX8_plan_71 ?_
            obtain ⟨hi10, h⟩ := gi_some h
            refine w_lald C hW (n := 24) (kd_it hv1) (ln_it hv1) hi10 dX8_plan_72 ?_
            refine lv_l2i C.1.1 C.1.2.1 dX8_plan_73 rfl ?_
            obtain ⟨hi11, h⟩ := gi_some h
            refine w_iast C hW (n := 7) (by decide) (by decide) hi11 dX8_plan_74 (fun H locs hW => ?_)
            obtain ⟨I12, eI12, h⟩ := nm_some h
            rw [← eI12] at hW
            clear eI12
            refine lv_aload_n C.1.1 C.1.2.1 dX8_plan_75 rfl (lv_at hl 0 rfl) ?_
            refine lv_dup C.1.1 C.1.2.1 dX8_plan_76 rfl ?_
            refine G_X8_18 C hW (by decide) dX8_plan_77 ?_
            refine lv_iconst (v := 1) C.1.1 C.1.2.1 dX8_plan_80 (by decide) ?_
            refine lv_iadd C.1.1 C.1.2.1 dX8_plan_81 ?_
            refine P_X8_18 C hW (by decide) dX8_plan_82 (fun H locs hW => ?_)
            obtain ⟨I13, eI13, h⟩ := nm_some h
            rw [← eI13] at hW
            clear eI13
            obtain ⟨x14, ex14⟩ : ∃ y : Int32, y = z4 + (1 : Int32) := ⟨_, rfl⟩
            replace h := nm_at ex14 h
            refine lv_iinc (v := x14) (lv' := [(4, .int x14), (0, .ref (g.1 + 237)), (1, .ref (g.1 + v1)), (2, .int v2), (3, .int v3)]) C.1.1 C.1.2.1 dX8_plan_85 hl (k := 4) rfl (by rw [ex14]; rfl) (by decide) rfl (fun ls hl => ?_)
            clear ex14
            refine lv_goto (tgt := 8) C.1.1 C.1.2.1 dX8_plan_88 (by decide) ?_
            obtain rfl := Option.some.inj h
            exact ih _ _ _ h9 _ _ _ hW (lv_sub hl [1, 2, 3, 4, 0] rfl) hx0
def b_X8_plan_115 (v4 : Int32) (L : ML) (z5 : Int32) (I : MI) : Option ((Int32 × MI) ⊕ ((MI))) :=
  (if (I 237 2) ≤ z5 then some (Sum.inr I) else bd1 (f_X8_between (0 : Int32) z5 I L) (fun r21 => bd1 (f_X8_wayFrom 9 z5 (v4 &&& (((1 : Int32) <<< (z5 &&& (31 : Int32))) ^^^ (-1 : Int32))) (1 : Int32) I L) (fun r23 => nm (r21 + r23) (fun x25 => bd1 ((if (I 237 3) ≤ x25 then some I else nm (up2 I 237 3 x25) (fun I31 => nm (up2 I31 237 4 z5) (fun I32 => some I32)))) (fun I26 => nm (z5 + (1 : Int32)) (fun x29 => some (Sum.inl (x29, I26))))))))
set_option maxHeartbeats 4000000 in
set_option maxRecDepth 100000 in
theorem l_X8_plan_115 {g : Gp} {p : Program} {l : Launch} {e : Env} {s : State} {m : MethodId} {args : Array Value} {below : List Frame} {meth : Method} {c : Code} {Q : State → Prop}  (C : Cx g p s m args c RX8 cX8_plan 7) (v4 : Int32)  (L : ML) : ∀ (n : Nat) (z5 : Int32) (I : MI) (Iy0 : MI), lp (fun s => b_X8_plan_115 v4 L s.1 s.2) n (z5, I) = some Iy0 → ∀ (H : Heap) (locs : List Loc) (ls : Array Slot), Ws g s I L H locs → lv_has ls 7 [(0, .ref (g.1 + 237)), (4, .int v4), (5, .int z5)] → (∀ (H : Heap) (locs : List Loc) (ls : Array Slot), Ws g s Iy0 L H locs → lv_has ls 7 [] → W p l e (rmD 12) s m args below meth c H locs 0 0 Q (F0 m 177 ls [])) → W p l e (rmD 12) s m args below meth c H locs 0 0 Q (F0 m 115 ls []) := by
  intro n
  induction n with
  | zero => intro z5 I Iy0 h; exact lp_zero h
  | succ n ih =>
      intro z5 I Iy0 h H locs ls hW hl hx0
      obtain ⟨r9, h, h9⟩ := lp_some h
      have h : b_X8_plan_115 v4 L z5 I = some r9 := h
      unfold b_X8_plan_115 at h
      refine lv_iload C.1.1 C.1.2.1 dX8_plan_115 (lv_at hl 2 rfl) ?_
      refine lv_aload_n C.1.1 C.1.2.1 dX8_plan_117 rfl (lv_at hl 0 rfl) ?_
      refine G_X8_18 C hW (by decide) dX8_plan_118 ?_
      refine lv_icmp_ge (tgt := 177) C.1.1 C.1.2.1 dX8_plan_121 (by decide) (fun hc20 => ?_) (fun hc20 => ?_)
      · replace h := ite_t hc20 h
        obtain rfl := Option.some.inj h
        replace h9 := Option.some.inj h9
        obtain rfl := pnj1 h9
        exact hx0 _ _ _ hW (lv_sub hl [] rfl)
      · replace h := ite_f hc20 h
        refine lv_aload_n C.1.1 C.1.2.1 dX8_plan_124 rfl (lv_at hl 0 rfl) ?_
        refine lv_iconst (v := 0) C.1.1 C.1.2.1 dX8_plan_125 (by decide) ?_
        refine lv_iload C.1.1 C.1.2.1 dX8_plan_126 (lv_at hl 2 rfl) ?_
        obtain ⟨r21, hc22, h⟩ := bd1_some h
        refine w_callVi (k := 2) (As := [.int (0 : Int32), .int z5]) (rest := []) C hW (c_X8_between g l  hc22) (by decide) rfl (EX_8 (by decide)) K_X8_39 (by decide +kernel) ⟨by decide, by decide⟩ ⟨Nat.le_refl _, Nat.le_refl _⟩ rfl hl.1 rfl (Nat.le_of_ble_eq_true rfl) dX8_plan_128 (fun H locs hW => ?_)
        refine lv_aload_n C.1.1 C.1.2.1 dX8_plan_131 rfl (lv_at hl 0 rfl) ?_
        refine lv_iload C.1.1 C.1.2.1 dX8_plan_132 (lv_at hl 2 rfl) ?_
        refine lv_iload C.1.1 C.1.2.1 dX8_plan_134 (lv_at hl 1 rfl) ?_
        refine lv_iconst (v := 1) C.1.1 C.1.2.1 dX8_plan_136 (by decide) ?_
        refine lv_iload C.1.1 C.1.2.1 dX8_plan_137 (lv_at hl 2 rfl) ?_
        refine lv_ishl C.1.1 C.1.2.1 dX8_plan_139 ?_
        refine lv_iconst (v := -1) C.1.1 C.1.2.1 dX8_plan_140 (by decide) ?_
        refine lv_ixor C.1.1 C.1.2.1 dX8_plan_141 ?_
        refine lv_iand C.1.1 C.1.2.1 dX8_plan_142 ?_
        refine lv_iconst (v := 1) C.1.1 C.1.2.1 dX8_plan_143 (by decide) ?_
        obtain ⟨r23, hc24, h⟩ := bd1_some h
        refine w_callSi (k := 4) (As := [.ref (g.1 + 237), .int z5, .int (v4 &&& (((1 : Int32) <<< (z5 &&& (31 : Int32))) ^^^ (-1 : Int32))), .int (1 : Int32)]) (rest := [.int r21]) C hW (c_X8_wayFrom g l 9  hc24) K_X8_43 (by decide +kernel) ⟨by decide, by decide⟩ ⟨Nat.le_refl _, Nat.le_refl _⟩ rfl hl.1 rfl (Nat.le_of_ble_eq_true rfl) dX8_plan_144 (fun H locs hW => ?_)
        refine lv_iadd C.1.1 C.1.2.1 dX8_plan_147 ?_
        refine lv_topi (fun x25 ex25 => ?_)
        replace h := nm_at ex25 h
        clear ex25
        refine lv_istore (lv' := [(6, .int x25), (0, .ref (g.1 + 237)), (4, .int v4), (5, .int z5)]) C.1.1 C.1.2.1 dX8_plan_148 hl (by decide) rfl (fun ls hl => ?_)
        refine lv_iload C.1.1 C.1.2.1 dX8_plan_150 (lv_at hl 0 rfl) ?_
        refine lv_aload_n C.1.1 C.1.2.1 dX8_plan_152 rfl (lv_at hl 1 rfl) ?_
        refine G_X8_33 C hW (by decide) dX8_plan_153 ?_
        obtain ⟨I26, hj28, h⟩ := bd1_some h
        have kJ27 : ∀ (H : Heap) (locs : List Loc) (ls : Array Slot), Ws g s I26 L H locs → lv_has ls 7 [(0, .ref (g.1 + 237)), (4, .int v4), (5, .int z5)] → W p l e (rmD 12) s m args below meth c H locs 0 0 Q (F0 m 171 ls []) := by
          intro H locs ls hW hl
          obtain ⟨x29, ex29⟩ : ∃ y : Int32, y = z5 + (1 : Int32) := ⟨_, rfl⟩
          replace h := nm_at ex29 h
          refine lv_iinc (v := x29) (lv' := [(5, .int x29), (0, .ref (g.1 + 237)), (4, .int v4)]) C.1.1 C.1.2.1 dX8_plan_171 hl (k := 2) rfl (by rw [ex29]; rfl) (by decide) rfl (fun ls hl => ?_)
          clear ex29
          refine lv_goto (tgt := 115) C.1.1 C.1.2.1 dX8_plan_174 (by decide) ?_
          obtain rfl := Option.some.inj h
          exact ih _ _ _ h9 _ _ _ hW (lv_sub hl [1, 2, 0] rfl) hx0
        clear h
        have h := hj28
        clear hj28
        refine lv_icmp_ge (tgt := 171) C.1.1 C.1.2.1 dX8_plan_156 (by decide) (fun hc30 => ?_) (fun hc30 => ?_)
        · replace h := ite_t hc30 h
          obtain rfl := inj1 h
          exact kJ27 _ _ _ hW (lv_sub hl [1, 2, 3] rfl)
        · replace h := ite_f hc30 h
          refine lv_aload_n C.1.1 C.1.2.1 dX8_plan_159 rfl (lv_at hl 1 rfl) ?_
          refine lv_iload C.1.1 C.1.2.1 dX8_plan_160 (lv_at hl 0 rfl) ?_
          refine P_X8_33 C hW (by decide) dX8_plan_162 (fun H locs hW => ?_)
          obtain ⟨I31, eI31, h⟩ := nm_some h
          rw [← eI31] at hW
          clear eI31
          refine lv_aload_n C.1.1 C.1.2.1 dX8_plan_165 rfl (lv_at hl 1 rfl) ?_
          refine lv_iload C.1.1 C.1.2.1 dX8_plan_166 (lv_at hl 3 rfl) ?_
          refine P_X8_36 C hW (by decide) dX8_plan_168 (fun H locs hW => ?_)
          obtain ⟨I32, eI32, h⟩ := nm_some h
          rw [← eI32] at hW
          clear eI32
          obtain rfl := inj1 h
          exact kJ27 _ _ _ hW (lv_sub hl [1, 2, 3] rfl)
def f_X8_plan (a1 : Nat) (a2 : Int32) (a3 : Int32) (I : MI) (L : ML) : Option (MI) :=
  nm (up2 I 237 2 (0 : Int32)) (fun I1 => bd1 (lp (fun s => b_X8_plan_8 a1 a2 a3 L s.1 s.2) FU (((0 : Int32), I1))) (fun I16 => nm (up2 I16 237 3 (1000000 : Int32)) (fun I17 => nm (up2 I17 237 4 (0 : Int32)) (fun I18 => nm (((1 : Int32) <<< ((I18 237 2) &&& (31 : Int32))) - (2 : Int32)) (fun x19 => bd1 (lp (fun s => b_X8_plan_115 x19 L s.1 s.2) FU (((1 : Int32), I18))) (fun I34 => some I34))))))
set_option maxHeartbeats 4000000 in
set_option maxRecDepth 100000 in
theorem c_X8_plan (g : Gp) (l : Launch) {a1 : Nat} {a2 : Int32} {a3 : Int32} (ha1 : kd a1 = 5) {I : MI} {L : ML} {I' : MI} (h : f_X8_plan a1 a2 a3 I L = some I') : MetV g l yX8_plan cX8_plan 7 12 [.ref (g.1 + 237), .ref (g.1 + a1), .int a2, .int a3] I L I' L := by
  unfold f_X8_plan at h
  refine w_enter (by decide) (Nat.le_of_ble_eq_true rfl) (own := RX8) rfl ?_
  intro p e s m below meth c args Q hQ C hr hlocks hW ls hl
  have hl : lv_has ls 7 [(0, .ref (g.1 + 237)), (1, .ref (g.1 + a1)), (2, .int a2), (3, .int a3)] := hl
  refine lv_aload_n C.1.1 C.1.2.1 dX8_plan_0 rfl (lv_at hl 0 rfl) ?_
  refine lv_iconst (v := 0) C.1.1 C.1.2.1 dX8_plan_1 (by decide) ?_
  refine P_X8_18 C hW (by decide) dX8_plan_2 (fun H locs hW => ?_)
  obtain ⟨I1, eI1, h⟩ := nm_some h
  rw [← eI1] at hW
  clear eI1
  refine lv_iconst (v := 0) C.1.1 C.1.2.1 dX8_plan_5 (by decide) ?_
  refine lv_istore (lv' := [(4, .int (0 : Int32)), (0, .ref (g.1 + 237)), (1, .ref (g.1 + a1)), (2, .int a2), (3, .int a3)]) C.1.1 C.1.2.1 dX8_plan_6 hl (by decide) rfl (fun ls hl => ?_)
  obtain ⟨I16, hq15, h⟩ := bd1_some h
  refine l_X8_plan_8 C a1 a2 a3 ha1 L _ _ _ _ hq15 _ _ _ hW (lv_sub hl [1, 2, 3, 4, 0] rfl) (fun H locs ls hW hl => ?_)
  refine lv_aload_n C.1.1 C.1.2.1 dX8_plan_91 rfl (lv_at hl 0 rfl) ?_
  refine lv_ldc C.1.1 C.1.2.1 C.1.2.2.2.1 (C.1.2.2.2.2 _ kc_X8_32) dX8_plan_92 ?_
  refine P_X8_33 C hW (by decide) dX8_plan_94 (fun H locs hW => ?_)
  obtain ⟨I17, eI17, h⟩ := nm_some h
  rw [← eI17] at hW
  clear eI17
  refine lv_aload_n C.1.1 C.1.2.1 dX8_plan_97 rfl (lv_at hl 0 rfl) ?_
  refine lv_iconst (v := 0) C.1.1 C.1.2.1 dX8_plan_98 (by decide) ?_
  refine P_X8_36 C hW (by decide) dX8_plan_99 (fun H locs hW => ?_)
  obtain ⟨I18, eI18, h⟩ := nm_some h
  rw [← eI18] at hW
  clear eI18
  refine lv_iconst (v := 1) C.1.1 C.1.2.1 dX8_plan_102 (by decide) ?_
  refine lv_aload_n C.1.1 C.1.2.1 dX8_plan_103 rfl (lv_at hl 0 rfl) ?_
  refine G_X8_18 C hW (by decide) dX8_plan_104 ?_
  refine lv_ishl C.1.1 C.1.2.1 dX8_plan_107 ?_
  refine lv_iconst (v := 2) C.1.1 C.1.2.1 dX8_plan_108 (by decide) ?_
  refine lv_isub C.1.1 C.1.2.1 dX8_plan_109 ?_
  refine lv_topi (fun x19 ex19 => ?_)
  replace h := nm_at ex19 h
  clear ex19
  refine lv_istore (lv' := [(4, .int x19), (0, .ref (g.1 + 237))]) C.1.1 C.1.2.1 dX8_plan_110 hl (by decide) rfl (fun ls hl => ?_)
  refine lv_iconst (v := 1) C.1.1 C.1.2.1 dX8_plan_112 (by decide) ?_
  refine lv_istore (lv' := [(5, .int (1 : Int32)), (4, .int x19), (0, .ref (g.1 + 237))]) C.1.1 C.1.2.1 dX8_plan_113 hl (by decide) rfl (fun ls hl => ?_)
  obtain ⟨I34, hq33, h⟩ := bd1_some h
  refine l_X8_plan_115 C x19  L _ _ _ _ hq33 _ _ _ hW (lv_sub hl [2, 1, 0] rfl) (fun H locs ls hW hl => ?_)
  obtain rfl := inj1 h
  subst hQ
  exact w_vret C hW hr hlocks dX8_plan_177
def f_X9_stands (a0 : Nat) (I : MI) (L : ML) : Option (Int32) :=
  bd1 ((if (I a0 1) ≤ 0 then some (0 : Int32) else some (1 : Int32))) (fun y1 => gd (y1 = 0 ∨ y1 = 1) (some y1))
set_option maxHeartbeats 4000000 in
set_option maxRecDepth 100000 in
theorem c_X9_stands (g : Gp) (l : Launch) {a0 : Nat} (ha0 : kd a0 = 9) {I : MI} {L : ML} {r : Int32} (h : f_X9_stands a0 I L = some r) : MetI g l yX9_stands cX9_stands 1 .boolean 0 [.ref (g.1 + a0)] I L r I L := by
  unfold f_X9_stands at h
  refine w_enter (by decide) (Nat.le_of_ble_eq_true rfl) (own := RX9) rfl ?_
  intro p e s m below meth c args Q hQ C hr hlocks hW ls hl
  have hl : lv_has ls 1 [(0, .ref (g.1 + a0))] := hl
  refine lv_aload_n C.1.1 C.1.2.1 dX9_stands_0 rfl (lv_at hl 0 rfl) ?_
  refine G_X9_22 C hW ha0 dX9_stands_1 ?_
  obtain ⟨y1, hj3, h⟩ := bd1_some h
  have kJ2 : ∀ (H : Heap) (locs : List Loc) (ls : Array Slot), Ws g s I L H locs → lv_has ls 1 [] → W p l e (rmD 0) s m args below meth c H locs 0 0 Q (F0 m 12 ls [.int y1]) := by
    intro H locs ls hW hl
    obtain ⟨hb4, h⟩ := gd_some h
    obtain rfl := inj1 h
    subst hQ
    exact w_zret C hW hr hlocks hb4 dX9_stands_12
  clear h
  have h := hj3
  clear hj3
  refine lv_if_le (tgt := 11) C.1.1 C.1.2.1 dX9_stands_4 (by decide) (fun hc5 => ?_) (fun hc5 => ?_)
  · replace h := ite_t hc5 h
    refine lv_iconst (v := 0) C.1.1 C.1.2.1 dX9_stands_11 (by decide) ?_
    obtain rfl := inj1 h
    exact kJ2 _ _ _ hW (lv_sub hl [] rfl)
  · replace h := ite_f hc5 h
    refine lv_iconst (v := 1) C.1.1 C.1.2.1 dX9_stands_7 (by decide) ?_
    refine lv_goto (tgt := 12) C.1.1 C.1.2.1 dX9_stands_8 (by decide) ?_
    obtain rfl := inj1 h
    exact kJ2 _ _ _ hW (lv_sub hl [] rfl)
def f_X9_has (a0 : Nat) (a1 : Int32) (I : MI) (L : ML) : Option (Int32) :=
  bd1 ((if a1 < 0 then some (0 : Int32) else (if (I a0 1) ≤ a1 then some (0 : Int32) else (if (6 : Int32) ≤ a1 then some (0 : Int32) else some (1 : Int32))))) (fun y1 => gd (y1 = 0 ∨ y1 = 1) (some y1))
set_option maxHeartbeats 4000000 in
set_option maxRecDepth 100000 in
theorem c_X9_has (g : Gp) (l : Launch) {a0 : Nat} {a1 : Int32} (ha0 : kd a0 = 9) {I : MI} {L : ML} {r : Int32} (h : f_X9_has a0 a1 I L = some r) : MetI g l yX9_has cX9_has 2 .boolean 0 [.ref (g.1 + a0), .int a1] I L r I L := by
  unfold f_X9_has at h
  refine w_enter (by decide) (Nat.le_of_ble_eq_true rfl) (own := RX9) rfl ?_
  intro p e s m below meth c args Q hQ C hr hlocks hW ls hl
  have hl : lv_has ls 2 [(0, .ref (g.1 + a0)), (1, .int a1)] := hl
  refine lv_iload_n C.1.1 C.1.2.1 dX9_has_0 rfl (lv_at hl 1 rfl) ?_
  obtain ⟨y1, hj3, h⟩ := bd1_some h
  have kJ2 : ∀ (H : Heap) (locs : List Loc) (ls : Array Slot), Ws g s I L H locs → lv_has ls 2 [] → W p l e (rmD 0) s m args below meth c H locs 0 0 Q (F0 m 23 ls [.int y1]) := by
    intro H locs ls hW hl
    obtain ⟨hb4, h⟩ := gd_some h
    obtain rfl := inj1 h
    subst hQ
    exact w_zret C hW hr hlocks hb4 dX9_has_23
  clear h
  have h := hj3
  clear hj3
  refine lv_if_lt (tgt := 22) C.1.1 C.1.2.1 dX9_has_1 (by decide) (fun hc5 => ?_) (fun hc5 => ?_)
  · replace h := ite_t hc5 h
    refine lv_iconst (v := 0) C.1.1 C.1.2.1 dX9_has_22 (by decide) ?_
    obtain rfl := inj1 h
    exact kJ2 _ _ _ hW (lv_sub hl [] rfl)
  · replace h := ite_f hc5 h
    refine lv_iload_n C.1.1 C.1.2.1 dX9_has_4 rfl (lv_at hl 1 rfl) ?_
    refine lv_aload_n C.1.1 C.1.2.1 dX9_has_5 rfl (lv_at hl 0 rfl) ?_
    refine G_X9_22 C hW ha0 dX9_has_6 ?_
    refine lv_icmp_ge (tgt := 22) C.1.1 C.1.2.1 dX9_has_9 (by decide) (fun hc6 => ?_) (fun hc6 => ?_)
    · replace h := ite_t hc6 h
      refine lv_iconst (v := 0) C.1.1 C.1.2.1 dX9_has_22 (by decide) ?_
      obtain rfl := inj1 h
      exact kJ2 _ _ _ hW (lv_sub hl [] rfl)
    · replace h := ite_f hc6 h
      refine lv_iload_n C.1.1 C.1.2.1 dX9_has_12 rfl (lv_at hl 1 rfl) ?_
      refine lv_bipush (v := 6) C.1.1 C.1.2.1 dX9_has_13 (by decide) ?_
      refine lv_icmp_ge (tgt := 22) C.1.1 C.1.2.1 dX9_has_15 (by decide) (fun hc7 => ?_) (fun hc7 => ?_)
      · replace h := ite_t hc7 h
        refine lv_iconst (v := 0) C.1.1 C.1.2.1 dX9_has_22 (by decide) ?_
        obtain rfl := inj1 h
        exact kJ2 _ _ _ hW (lv_sub hl [] rfl)
      · replace h := ite_f hc7 h
        refine lv_iconst (v := 1) C.1.1 C.1.2.1 dX9_has_18 (by decide) ?_
        refine lv_goto (tgt := 23) C.1.1 C.1.2.1 dX9_has_19 (by decide) ?_
        obtain rfl := inj1 h
        exact kJ2 _ _ _ hW (lv_sub hl [] rfl)
def f_X9_isNight (a0 : Nat) (I : MI) (L : ML) : Option (Int32) :=
  bd1 (f_X10_isDark (I a0 4) (I a0 2)) (fun r1 => gd (r1 = 0 ∨ r1 = 1) (some r1))
set_option maxHeartbeats 4000000 in
set_option maxRecDepth 100000 in
theorem c_X9_isNight (g : Gp) (l : Launch) {a0 : Nat} (ha0 : kd a0 = 9) {I : MI} {L : ML} {r : Int32} (h : f_X9_isNight a0 I L = some r) : MetI g l yX9_isNight cX9_isNight 1 .boolean 1 [.ref (g.1 + a0)] I L r I L := by
  unfold f_X9_isNight at h
  refine w_enter (by decide) (Nat.le_of_ble_eq_true rfl) (own := RX9) rfl ?_
  intro p e s m below meth c args Q hQ C hr hlocks hW ls hl
  have hl : lv_has ls 1 [(0, .ref (g.1 + a0))] := hl
  refine lv_aload_n C.1.1 C.1.2.1 dX9_isNight_0 rfl (lv_at hl 0 rfl) ?_
  refine G_X9_31 C hW ha0 dX9_isNight_1 ?_
  refine lv_aload_n C.1.1 C.1.2.1 dX9_isNight_4 rfl (lv_at hl 0 rfl) ?_
  refine G_X9_25 C hW ha0 dX9_isNight_5 ?_
  obtain ⟨r1, hc2, h⟩ := bd1_some h
  refine w_callNi (k := 2) (As := [.int (I a0 4), .int (I a0 2)]) (rest := []) C hW (c_X10_isDark g l  hc2 I L) (good_U cd_X10_isDark) N_X9_41 ns_X10_isDark ni_X10 (by decide +kernel) ⟨by decide, by decide⟩ ⟨Nat.le_refl _, Nat.le_refl _⟩ rfl hl.1 rfl (Nat.le_of_ble_eq_true rfl) dX9_isNight_8 (fun H locs hW => ?_)
  obtain ⟨hb3, h⟩ := gd_some h
  obtain rfl := inj1 h
  subst hQ
  exact w_zret C hW hr hlocks hb3 dX9_isNight_11
def b_X9_sitting_4 (v0 : Nat) (I : MI) (L : ML) (z1 : Int32) (z2 : Int32) : Option ((Int32 × Int32) ⊕ ((Int32))) :=
  (if (I v0 1) ≤ z2 then some (Sum.inr z1) else gi z2 6 (bd1 (f_X6_sits (v0 + 2 + z2.toNatClampNeg) I L) (fun r3 => bd1 ((if r3 = 0 then some z1 else nm (z1 + (1 : Int32)) (fun x10 => some x10))) (fun y5 => nm (z2 + (1 : Int32)) (fun x8 => some (Sum.inl (y5, x8)))))))
set_option maxHeartbeats 4000000 in
set_option maxRecDepth 100000 in
theorem l_X9_sitting_4 {g : Gp} {p : Program} {l : Launch} {e : Env} {s : State} {m : MethodId} {args : Array Value} {below : List Frame} {meth : Method} {c : Code} {Q : State → Prop}  (C : Cx g p s m args c RX9 cX9_sitting 3) (v0 : Nat) (hv0 : kd v0 = 9) (I : MI) (L : ML) : ∀ (n : Nat) (z1 : Int32) (z2 : Int32) (y0_1 : Int32), lp (fun s => b_X9_sitting_4 v0 I L s.1 s.2) n (z1, z2) = some y0_1 → ∀ (H : Heap) (locs : List Loc) (ls : Array Slot), Ws g s I L H locs → lv_has ls 3 [(0, .ref (g.1 + v0)), (1, .int z1), (2, .int z2)] → (∀ (H : Heap) (locs : List Loc) (ls : Array Slot), Ws g s I L H locs → lv_has ls 3 [(1, .int y0_1)] → W p l e (rmD 1) s m args below meth c H locs 0 0 Q (F0 m 33 ls [])) → W p l e (rmD 1) s m args below meth c H locs 0 0 Q (F0 m 4 ls []) := by
  intro n
  induction n with
  | zero => intro z1 z2 y0_1 h; exact lp_zero h
  | succ n ih =>
      intro z1 z2 y0_1 h H locs ls hW hl hx0
      obtain ⟨r9, h, h9⟩ := lp_some h
      have h : b_X9_sitting_4 v0 I L z1 z2 = some r9 := h
      unfold b_X9_sitting_4 at h
      refine lv_iload_n C.1.1 C.1.2.1 dX9_sitting_4 rfl (lv_at hl 2 rfl) ?_
      refine lv_aload_n C.1.1 C.1.2.1 dX9_sitting_5 rfl (lv_at hl 0 rfl) ?_
      refine G_X9_22 C hW hv0 dX9_sitting_6 ?_
      refine lv_icmp_ge (tgt := 33) C.1.1 C.1.2.1 dX9_sitting_9 (by decide) (fun hc1 => ?_) (fun hc1 => ?_)
      · replace h := ite_t hc1 h
        obtain rfl := Option.some.inj h
        replace h9 := Option.some.inj h9
        obtain rfl := pnj1 h9
        exact hx0 _ _ _ hW (lv_sub hl [1] rfl)
      · replace h := ite_f hc1 h
        refine lv_aload_n C.1.1 C.1.2.1 dX9_sitting_12 rfl (lv_at hl 0 rfl) ?_
        refine G_X9_11 C hW hv0 dX9_sitting_13 ?_
        refine lv_iload_n C.1.1 C.1.2.1 dX9_sitting_16 rfl (lv_at hl 2 rfl) ?_
        obtain ⟨hi2, h⟩ := gi_some h
        refine w_asit C hW (w := v0) hv0 hi2 dX9_sitting_17 ?_
        obtain ⟨r3, hc4, h⟩ := bd1_some h
        refine w_callVi (k := 0) (As := []) (rest := []) C hW (c_X6_sits g l (kd_sit hv0 hi2) hc4) (kd_sit hv0 hi2) rfl (EX_6 (kd_sit hv0 hi2)) K_X9_45 (by decide +kernel) ⟨by decide, by decide⟩ ⟨Nat.le_refl _, Nat.le_refl _⟩ rfl hl.1 rfl (Nat.le_of_ble_eq_true rfl) dX9_sitting_18 (fun H locs hW => ?_)
        obtain ⟨y5, hj7, h⟩ := bd1_some h
        have kJ6 : ∀ (H : Heap) (locs : List Loc) (ls : Array Slot), Ws g s I L H locs → lv_has ls 3 [(0, .ref (g.1 + v0)), (1, .int y5), (2, .int z2)] → W p l e (rmD 1) s m args below meth c H locs 0 0 Q (F0 m 27 ls []) := by
          intro H locs ls hW hl
          obtain ⟨x8, ex8⟩ : ∃ y : Int32, y = z2 + (1 : Int32) := ⟨_, rfl⟩
          replace h := nm_at ex8 h
          refine lv_iinc (v := x8) (lv' := [(2, .int x8), (0, .ref (g.1 + v0)), (1, .int y5)]) C.1.1 C.1.2.1 dX9_sitting_27 hl (k := 2) rfl (by rw [ex8]; rfl) (by decide) rfl (fun ls hl => ?_)
          clear ex8
          refine lv_goto (tgt := 4) C.1.1 C.1.2.1 dX9_sitting_30 (by decide) ?_
          obtain rfl := Option.some.inj h
          exact ih _ _ _ h9 _ _ _ hW (lv_sub hl [1, 2, 0] rfl) hx0
        clear h
        have h := hj7
        clear hj7
        refine lv_if_eq (tgt := 27) C.1.1 C.1.2.1 dX9_sitting_21 (by decide) (fun hc9 => ?_) (fun hc9 => ?_)
        · replace h := ite_t hc9 h
          obtain rfl := inj1 h
          exact kJ6 _ _ _ hW (lv_sub hl [0, 1, 2] rfl)
        · replace h := ite_f hc9 h
          obtain ⟨x10, ex10⟩ : ∃ y : Int32, y = z1 + (1 : Int32) := ⟨_, rfl⟩
          replace h := nm_at ex10 h
          refine lv_iinc (v := x10) (lv' := [(1, .int x10), (0, .ref (g.1 + v0)), (2, .int z2)]) C.1.1 C.1.2.1 dX9_sitting_24 hl (k := 1) rfl (by rw [ex10]; rfl) (by decide) rfl (fun ls hl => ?_)
          clear ex10
          obtain rfl := inj1 h
          exact kJ6 _ _ _ hW (lv_sub hl [1, 0, 2] rfl)
def f_X9_sitting (a0 : Nat) (I : MI) (L : ML) : Option (Int32) :=
  bd1 (lp (fun s => b_X9_sitting_4 a0 I L s.1 s.2) FU (((0 : Int32), (0 : Int32)))) (fun y12 => some y12)
set_option maxHeartbeats 4000000 in
set_option maxRecDepth 100000 in
theorem c_X9_sitting (g : Gp) (l : Launch) {a0 : Nat} (ha0 : kd a0 = 9) {I : MI} {L : ML} {r : Int32} (h : f_X9_sitting a0 I L = some r) : MetI g l yX9_sitting cX9_sitting 3 .int 1 [.ref (g.1 + a0)] I L r I L := by
  unfold f_X9_sitting at h
  refine w_enter (by decide) (Nat.le_of_ble_eq_true rfl) (own := RX9) rfl ?_
  intro p e s m below meth c args Q hQ C hr hlocks hW ls hl
  have hl : lv_has ls 3 [(0, .ref (g.1 + a0))] := hl
  refine lv_iconst (v := 0) C.1.1 C.1.2.1 dX9_sitting_0 (by decide) ?_
  refine lv_istore_n (lv' := [(1, .int (0 : Int32)), (0, .ref (g.1 + a0))]) C.1.1 C.1.2.1 dX9_sitting_1 rfl hl (by decide) rfl (fun ls hl => ?_)
  refine lv_iconst (v := 0) C.1.1 C.1.2.1 dX9_sitting_2 (by decide) ?_
  refine lv_istore_n (lv' := [(2, .int (0 : Int32)), (1, .int (0 : Int32)), (0, .ref (g.1 + a0))]) C.1.1 C.1.2.1 dX9_sitting_3 rfl hl (by decide) rfl (fun ls hl => ?_)
  obtain ⟨y12, hq11, h⟩ := bd1_some h
  refine l_X9_sitting_4 C a0 ha0 I L _ _ _ _ hq11 _ _ _ hW (lv_sub hl [2, 1, 0] rfl) (fun H locs ls hW hl => ?_)
  refine lv_iload_n C.1.1 C.1.2.1 dX9_sitting_33 rfl (lv_at hl 0 rfl) ?_
  obtain rfl := inj1 h
  subst hQ
  exact w_iret C hW hr hlocks dX9_sitting_34
def b_X9_cloaks_4 (v0 : Nat) (I : MI) (L : ML) (z1 : Int32) (z2 : Int32) : Option ((Int32 × Int32) ⊕ ((Int32))) :=
  (if (I v0 1) ≤ z2 then some (Sum.inr z1) else gi z2 6 (bd1 ((if (I (v0 + 2 + z2.toNatClampNeg) 9) = 0 then some z1 else nm (z1 + (1 : Int32)) (fun x8 => some x8))) (fun y3 => nm (z2 + (1 : Int32)) (fun x6 => some (Sum.inl (y3, x6))))))
set_option maxHeartbeats 4000000 in
set_option maxRecDepth 100000 in
theorem l_X9_cloaks_4 {g : Gp} {p : Program} {l : Launch} {e : Env} {s : State} {m : MethodId} {args : Array Value} {below : List Frame} {meth : Method} {c : Code} {Q : State → Prop}  (C : Cx g p s m args c RX9 cX9_cloaks 3) (v0 : Nat) (hv0 : kd v0 = 9) (I : MI) (L : ML) : ∀ (n : Nat) (z1 : Int32) (z2 : Int32) (y0_1 : Int32), lp (fun s => b_X9_cloaks_4 v0 I L s.1 s.2) n (z1, z2) = some y0_1 → ∀ (H : Heap) (locs : List Loc) (ls : Array Slot), Ws g s I L H locs → lv_has ls 3 [(0, .ref (g.1 + v0)), (1, .int z1), (2, .int z2)] → (∀ (H : Heap) (locs : List Loc) (ls : Array Slot), Ws g s I L H locs → lv_has ls 3 [(1, .int y0_1)] → W p l e (rmD 0) s m args below meth c H locs 0 0 Q (F0 m 33 ls [])) → W p l e (rmD 0) s m args below meth c H locs 0 0 Q (F0 m 4 ls []) := by
  intro n
  induction n with
  | zero => intro z1 z2 y0_1 h; exact lp_zero h
  | succ n ih =>
      intro z1 z2 y0_1 h H locs ls hW hl hx0
      obtain ⟨r9, h, h9⟩ := lp_some h
      have h : b_X9_cloaks_4 v0 I L z1 z2 = some r9 := h
      unfold b_X9_cloaks_4 at h
      refine lv_iload_n C.1.1 C.1.2.1 dX9_cloaks_4 rfl (lv_at hl 2 rfl) ?_
      refine lv_aload_n C.1.1 C.1.2.1 dX9_cloaks_5 rfl (lv_at hl 0 rfl) ?_
      refine G_X9_22 C hW hv0 dX9_cloaks_6 ?_
      refine lv_icmp_ge (tgt := 33) C.1.1 C.1.2.1 dX9_cloaks_9 (by decide) (fun hc1 => ?_) (fun hc1 => ?_)
      · replace h := ite_t hc1 h
        obtain rfl := Option.some.inj h
        replace h9 := Option.some.inj h9
        obtain rfl := pnj1 h9
        exact hx0 _ _ _ hW (lv_sub hl [1] rfl)
      · replace h := ite_f hc1 h
        refine lv_aload_n C.1.1 C.1.2.1 dX9_cloaks_12 rfl (lv_at hl 0 rfl) ?_
        refine G_X9_11 C hW hv0 dX9_cloaks_13 ?_
        refine lv_iload_n C.1.1 C.1.2.1 dX9_cloaks_16 rfl (lv_at hl 2 rfl) ?_
        obtain ⟨hi2, h⟩ := gi_some h
        refine w_asit C hW (w := v0) hv0 hi2 dX9_cloaks_17 ?_
        refine G_X9_49 C hW (kd_sit hv0 hi2) dX9_cloaks_18 ?_
        obtain ⟨y3, hj5, h⟩ := bd1_some h
        have kJ4 : ∀ (H : Heap) (locs : List Loc) (ls : Array Slot), Ws g s I L H locs → lv_has ls 3 [(0, .ref (g.1 + v0)), (1, .int y3), (2, .int z2)] → W p l e (rmD 0) s m args below meth c H locs 0 0 Q (F0 m 27 ls []) := by
          intro H locs ls hW hl
          obtain ⟨x6, ex6⟩ : ∃ y : Int32, y = z2 + (1 : Int32) := ⟨_, rfl⟩
          replace h := nm_at ex6 h
          refine lv_iinc (v := x6) (lv' := [(2, .int x6), (0, .ref (g.1 + v0)), (1, .int y3)]) C.1.1 C.1.2.1 dX9_cloaks_27 hl (k := 2) rfl (by rw [ex6]; rfl) (by decide) rfl (fun ls hl => ?_)
          clear ex6
          refine lv_goto (tgt := 4) C.1.1 C.1.2.1 dX9_cloaks_30 (by decide) ?_
          obtain rfl := Option.some.inj h
          exact ih _ _ _ h9 _ _ _ hW (lv_sub hl [1, 2, 0] rfl) hx0
        clear h
        have h := hj5
        clear hj5
        refine lv_if_eq (tgt := 27) C.1.1 C.1.2.1 dX9_cloaks_21 (by decide) (fun hc7 => ?_) (fun hc7 => ?_)
        · replace h := ite_t hc7 h
          obtain rfl := inj1 h
          exact kJ4 _ _ _ hW (lv_sub hl [0, 1, 2] rfl)
        · replace h := ite_f hc7 h
          obtain ⟨x8, ex8⟩ : ∃ y : Int32, y = z1 + (1 : Int32) := ⟨_, rfl⟩
          replace h := nm_at ex8 h
          refine lv_iinc (v := x8) (lv' := [(1, .int x8), (0, .ref (g.1 + v0)), (2, .int z2)]) C.1.1 C.1.2.1 dX9_cloaks_24 hl (k := 1) rfl (by rw [ex8]; rfl) (by decide) rfl (fun ls hl => ?_)
          clear ex8
          obtain rfl := inj1 h
          exact kJ4 _ _ _ hW (lv_sub hl [1, 0, 2] rfl)
def f_X9_cloaks (a0 : Nat) (I : MI) (L : ML) : Option (Int32) :=
  bd1 (lp (fun s => b_X9_cloaks_4 a0 I L s.1 s.2) FU (((0 : Int32), (0 : Int32)))) (fun y10 => some y10)
set_option maxHeartbeats 4000000 in
set_option maxRecDepth 100000 in
theorem c_X9_cloaks (g : Gp) (l : Launch) {a0 : Nat} (ha0 : kd a0 = 9) {I : MI} {L : ML} {r : Int32} (h : f_X9_cloaks a0 I L = some r) : MetI g l yX9_cloaks cX9_cloaks 3 .int 0 [.ref (g.1 + a0)] I L r I L := by
  unfold f_X9_cloaks at h
  refine w_enter (by decide) (Nat.le_of_ble_eq_true rfl) (own := RX9) rfl ?_
  intro p e s m below meth c args Q hQ C hr hlocks hW ls hl
  have hl : lv_has ls 3 [(0, .ref (g.1 + a0))] := hl
  refine lv_iconst (v := 0) C.1.1 C.1.2.1 dX9_cloaks_0 (by decide) ?_
  refine lv_istore_n (lv' := [(1, .int (0 : Int32)), (0, .ref (g.1 + a0))]) C.1.1 C.1.2.1 dX9_cloaks_1 rfl hl (by decide) rfl (fun ls hl => ?_)
  refine lv_iconst (v := 0) C.1.1 C.1.2.1 dX9_cloaks_2 (by decide) ?_
  refine lv_istore_n (lv' := [(2, .int (0 : Int32)), (1, .int (0 : Int32)), (0, .ref (g.1 + a0))]) C.1.1 C.1.2.1 dX9_cloaks_3 rfl hl (by decide) rfl (fun ls hl => ?_)
  obtain ⟨y10, hq9, h⟩ := bd1_some h
  refine l_X9_cloaks_4 C a0 ha0 I L _ _ _ _ hq9 _ _ _ hW (lv_sub hl [2, 1, 0] rfl) (fun H locs ls hW hl => ?_)
  refine lv_iload_n C.1.1 C.1.2.1 dX9_cloaks_33 rfl (lv_at hl 0 rfl) ?_
  obtain rfl := inj1 h
  subst hQ
  exact w_iret C hW hr hlocks dX9_cloaks_34
def b_X9_allCrusts_4 (v0 : Nat) (I : MI) (L : ML) (z1 : Int32) (z2 : Int32) : Option ((Int32 × Int32) ⊕ ((Int32))) :=
  (if (I v0 1) ≤ z2 then some (Sum.inr z1) else gi z2 6 (nm (z1 + (I (v0 + 2 + z2.toNatClampNeg) 6)) (fun x3 => nm (z2 + (1 : Int32)) (fun x4 => some (Sum.inl (x3, x4))))))
set_option maxHeartbeats 4000000 in
set_option maxRecDepth 100000 in
theorem l_X9_allCrusts_4 {g : Gp} {p : Program} {l : Launch} {e : Env} {s : State} {m : MethodId} {args : Array Value} {below : List Frame} {meth : Method} {c : Code} {Q : State → Prop}  (C : Cx g p s m args c RX9 cX9_allCrusts 3) (v0 : Nat) (hv0 : kd v0 = 9) (I : MI) (L : ML) : ∀ (n : Nat) (z1 : Int32) (z2 : Int32) (y0_1 : Int32), lp (fun s => b_X9_allCrusts_4 v0 I L s.1 s.2) n (z1, z2) = some y0_1 → ∀ (H : Heap) (locs : List Loc) (ls : Array Slot), Ws g s I L H locs → lv_has ls 3 [(0, .ref (g.1 + v0)), (1, .int z1), (2, .int z2)] → (∀ (H : Heap) (locs : List Loc) (ls : Array Slot), Ws g s I L H locs → lv_has ls 3 [(1, .int y0_1)] → W p l e (rmD 0) s m args below meth c H locs 0 0 Q (F0 m 30 ls [])) → W p l e (rmD 0) s m args below meth c H locs 0 0 Q (F0 m 4 ls []) := by
  intro n
  induction n with
  | zero => intro z1 z2 y0_1 h; exact lp_zero h
  | succ n ih =>
      intro z1 z2 y0_1 h H locs ls hW hl hx0
      obtain ⟨r9, h, h9⟩ := lp_some h
      have h : b_X9_allCrusts_4 v0 I L z1 z2 = some r9 := h
      unfold b_X9_allCrusts_4 at h
      refine lv_iload_n C.1.1 C.1.2.1 dX9_allCrusts_4 rfl (lv_at hl 2 rfl) ?_
      refine lv_aload_n C.1.1 C.1.2.1 dX9_allCrusts_5 rfl (lv_at hl 0 rfl) ?_
      refine G_X9_22 C hW hv0 dX9_allCrusts_6 ?_
      refine lv_icmp_ge (tgt := 30) C.1.1 C.1.2.1 dX9_allCrusts_9 (by decide) (fun hc1 => ?_) (fun hc1 => ?_)
      · replace h := ite_t hc1 h
        obtain rfl := Option.some.inj h
        replace h9 := Option.some.inj h9
        obtain rfl := pnj1 h9
        exact hx0 _ _ _ hW (lv_sub hl [1] rfl)
      · replace h := ite_f hc1 h
        refine lv_iload_n C.1.1 C.1.2.1 dX9_allCrusts_12 rfl (lv_at hl 1 rfl) ?_
        refine lv_aload_n C.1.1 C.1.2.1 dX9_allCrusts_13 rfl (lv_at hl 0 rfl) ?_
        refine G_X9_11 C hW hv0 dX9_allCrusts_14 ?_
        refine lv_iload_n C.1.1 C.1.2.1 dX9_allCrusts_17 rfl (lv_at hl 2 rfl) ?_
        obtain ⟨hi2, h⟩ := gi_some h
        refine w_asit C hW (w := v0) hv0 hi2 dX9_allCrusts_18 ?_
        refine G_X9_53 C hW (kd_sit hv0 hi2) dX9_allCrusts_19 ?_
        refine lv_iadd C.1.1 C.1.2.1 dX9_allCrusts_22 ?_
        refine lv_topi (fun x3 ex3 => ?_)
        replace h := nm_at ex3 h
        clear ex3
        refine lv_istore_n (lv' := [(1, .int x3), (0, .ref (g.1 + v0)), (2, .int z2)]) C.1.1 C.1.2.1 dX9_allCrusts_23 rfl hl (by decide) rfl (fun ls hl => ?_)
        obtain ⟨x4, ex4⟩ : ∃ y : Int32, y = z2 + (1 : Int32) := ⟨_, rfl⟩
        replace h := nm_at ex4 h
        refine lv_iinc (v := x4) (lv' := [(2, .int x4), (1, .int x3), (0, .ref (g.1 + v0))]) C.1.1 C.1.2.1 dX9_allCrusts_24 hl (k := 2) rfl (by rw [ex4]; rfl) (by decide) rfl (fun ls hl => ?_)
        clear ex4
        refine lv_goto (tgt := 4) C.1.1 C.1.2.1 dX9_allCrusts_27 (by decide) ?_
        obtain rfl := Option.some.inj h
        exact ih _ _ _ h9 _ _ _ hW (lv_sub hl [2, 1, 0] rfl) hx0
def f_X9_allCrusts (a0 : Nat) (I : MI) (L : ML) : Option (Int32) :=
  bd1 (lp (fun s => b_X9_allCrusts_4 a0 I L s.1 s.2) FU (((0 : Int32), (0 : Int32)))) (fun y6 => some y6)
set_option maxHeartbeats 4000000 in
set_option maxRecDepth 100000 in
theorem c_X9_allCrusts (g : Gp) (l : Launch) {a0 : Nat} (ha0 : kd a0 = 9) {I : MI} {L : ML} {r : Int32} (h : f_X9_allCrusts a0 I L = some r) : MetI g l yX9_allCrusts cX9_allCrusts 3 .int 0 [.ref (g.1 + a0)] I L r I L := by
  unfold f_X9_allCrusts at h
  refine w_enter (by decide) (Nat.le_of_ble_eq_true rfl) (own := RX9) rfl ?_
  intro p e s m below meth c args Q hQ C hr hlocks hW ls hl
  have hl : lv_has ls 3 [(0, .ref (g.1 + a0))] := hl
  refine lv_iconst (v := 0) C.1.1 C.1.2.1 dX9_allCrusts_0 (by decide) ?_
  refine lv_istore_n (lv' := [(1, .int (0 : Int32)), (0, .ref (g.1 + a0))]) C.1.1 C.1.2.1 dX9_allCrusts_1 rfl hl (by decide) rfl (fun ls hl => ?_)
  refine lv_iconst (v := 0) C.1.1 C.1.2.1 dX9_allCrusts_2 (by decide) ?_
  refine lv_istore_n (lv' := [(2, .int (0 : Int32)), (1, .int (0 : Int32)), (0, .ref (g.1 + a0))]) C.1.1 C.1.2.1 dX9_allCrusts_3 rfl hl (by decide) rfl (fun ls hl => ?_)
  obtain ⟨y6, hq5, h⟩ := bd1_some h
  refine l_X9_allCrusts_4 C a0 ha0 I L _ _ _ _ hq5 _ _ _ hW (lv_sub hl [2, 1, 0] rfl) (fun H locs ls hW hl => ?_)
  refine lv_iload_n C.1.1 C.1.2.1 dX9_allCrusts_30 rfl (lv_at hl 0 rfl) ?_
  obtain rfl := inj1 h
  subst hQ
  exact w_iret C hW hr hlocks dX9_allCrusts_31
def b_X9_passHour_28 (v0 : Nat) (v1 : Int32) (L : ML) (z2 : Int32) (I : MI) : Option ((Int32 × MI) ⊕ ((MI))) :=
  (if (I v0 1) ≤ z2 then some (Sum.inr I) else gi z2 6 (bd1 (f_X6_passHour (v0 + 2 + z2.toNatClampNeg) (I v0 5) v1 (I v0 4) I L) (fun I10 => nm (z2 + (1 : Int32)) (fun x12 => some (Sum.inl (x12, I10))))))
set_option maxHeartbeats 4000000 in
set_option maxRecDepth 100000 in
theorem l_X9_passHour_28 {g : Gp} {p : Program} {l : Launch} {e : Env} {s : State} {m : MethodId} {args : Array Value} {below : List Frame} {meth : Method} {c : Code} {Q : State → Prop}  (C : Cx g p s m args c RX9 cX9_passHour 3) (v0 : Nat) (v1 : Int32) (hv0 : kd v0 = 9) (L : ML) : ∀ (n : Nat) (z2 : Int32) (I : MI) (Iy0 : MI), lp (fun s => b_X9_passHour_28 v0 v1 L s.1 s.2) n (z2, I) = some Iy0 → ∀ (H : Heap) (locs : List Loc) (ls : Array Slot), Ws g s I L H locs → lv_has ls 3 [(0, .ref (g.1 + v0)), (1, .int v1), (2, .int z2)] → (∀ (H : Heap) (locs : List Loc) (ls : Array Slot), Ws g s Iy0 L H locs → lv_has ls 3 [(0, .ref (g.1 + v0))] → W p l e (rmD 3) s m args below meth c H locs 0 0 Q (F0 m 60 ls [])) → W p l e (rmD 3) s m args below meth c H locs 0 0 Q (F0 m 28 ls []) := by
  intro n
  induction n with
  | zero => intro z2 I Iy0 h; exact lp_zero h
  | succ n ih =>
      intro z2 I Iy0 h H locs ls hW hl hx0
      obtain ⟨r9, h, h9⟩ := lp_some h
      have h : b_X9_passHour_28 v0 v1 L z2 I = some r9 := h
      unfold b_X9_passHour_28 at h
      refine lv_iload_n C.1.1 C.1.2.1 dX9_passHour_28 rfl (lv_at hl 2 rfl) ?_
      refine lv_aload_n C.1.1 C.1.2.1 dX9_passHour_29 rfl (lv_at hl 0 rfl) ?_
      refine G_X9_22 C hW hv0 dX9_passHour_30 ?_
      refine lv_icmp_ge (tgt := 60) C.1.1 C.1.2.1 dX9_passHour_33 (by decide) (fun hc8 => ?_) (fun hc8 => ?_)
      · replace h := ite_t hc8 h
        obtain rfl := Option.some.inj h
        replace h9 := Option.some.inj h9
        obtain rfl := pnj1 h9
        exact hx0 _ _ _ hW (lv_sub hl [0] rfl)
      · replace h := ite_f hc8 h
        refine lv_aload_n C.1.1 C.1.2.1 dX9_passHour_36 rfl (lv_at hl 0 rfl) ?_
        refine G_X9_11 C hW hv0 dX9_passHour_37 ?_
        refine lv_iload_n C.1.1 C.1.2.1 dX9_passHour_40 rfl (lv_at hl 2 rfl) ?_
        obtain ⟨hi9, h⟩ := gi_some h
        refine w_asit C hW (w := v0) hv0 hi9 dX9_passHour_41 ?_
        refine lv_aload_n C.1.1 C.1.2.1 dX9_passHour_42 rfl (lv_at hl 0 rfl) ?_
        refine G_X9_34 C hW hv0 dX9_passHour_43 ?_
        refine lv_iload_n C.1.1 C.1.2.1 dX9_passHour_46 rfl (lv_at hl 1 rfl) ?_
        refine lv_aload_n C.1.1 C.1.2.1 dX9_passHour_47 rfl (lv_at hl 0 rfl) ?_
        refine G_X9_31 C hW hv0 dX9_passHour_48 ?_
        obtain ⟨I10, hc11, h⟩ := bd1_some h
        refine w_callVv (k := 3) (As := [.int (I v0 5), .int v1, .int (I v0 4)]) (rest := []) C hW (c_X6_passHour g l (kd_sit hv0 hi9) hc11) (kd_sit hv0 hi9) rfl (EX_6 (kd_sit hv0 hi9)) K_X9_63 (by decide +kernel) ⟨by decide, by decide⟩ ⟨Nat.le_refl _, Nat.le_refl _⟩ rfl hl.1 rfl (Nat.le_of_ble_eq_true rfl) dX9_passHour_51 (fun H locs hW => ?_)
        obtain ⟨x12, ex12⟩ : ∃ y : Int32, y = z2 + (1 : Int32) := ⟨_, rfl⟩
        replace h := nm_at ex12 h
        refine lv_iinc (v := x12) (lv' := [(2, .int x12), (0, .ref (g.1 + v0)), (1, .int v1)]) C.1.1 C.1.2.1 dX9_passHour_54 hl (k := 2) rfl (by rw [ex12]; rfl) (by decide) rfl (fun ls hl => ?_)
        clear ex12
        refine lv_goto (tgt := 28) C.1.1 C.1.2.1 dX9_passHour_57 (by decide) ?_
        obtain rfl := Option.some.inj h
        exact ih _ _ _ h9 _ _ _ hW (lv_sub hl [1, 2, 0] rfl) hx0
def f_X9_passHour (a0 : Nat) (I : MI) (L : ML) : Option (MI) :=
  bd1 (f_X10_drawAfter (I a0 6)) (fun r1 => nm (up2 I a0 6 r1) (fun I3 => nm (I3 a0 6) (fun x4 => nm (up2 I3 a0 5 (x4 - x4 / (3 : Int32) * (3 : Int32))) (fun I5 => bd1 (f_X9_isNight a0 I5 L) (fun r6 => bd1 (lp (fun s => b_X9_passHour_28 a0 r6 L s.1 s.2) FU (((0 : Int32), I5))) (fun I14 => nm (up2 I14 a0 4 ((I14 a0 4) + (1 : Int32))) (fun I15 => some I15)))))))
set_option maxHeartbeats 4000000 in
set_option maxRecDepth 100000 in
theorem c_X9_passHour (g : Gp) (l : Launch) {a0 : Nat} (ha0 : kd a0 = 9) {I : MI} {L : ML} {I' : MI} (h : f_X9_passHour a0 I L = some I') : MetV g l yX9_passHour cX9_passHour 3 3 [.ref (g.1 + a0)] I L I' L := by
  unfold f_X9_passHour at h
  refine w_enter (by decide) (Nat.le_of_ble_eq_true rfl) (own := RX9) rfl ?_
  intro p e s m below meth c args Q hQ C hr hlocks hW ls hl
  have hl : lv_has ls 3 [(0, .ref (g.1 + a0))] := hl
  refine lv_aload_n C.1.1 C.1.2.1 dX9_passHour_0 rfl (lv_at hl 0 rfl) ?_
  refine lv_aload_n C.1.1 C.1.2.1 dX9_passHour_1 rfl (lv_at hl 0 rfl) ?_
  refine G_X9_17 C hW ha0 dX9_passHour_2 ?_
  obtain ⟨r1, hc2, h⟩ := bd1_some h
  refine w_callNi (k := 1) (As := [.int (I a0 6)]) (rest := [.ref (g.1 + a0)]) C hW (c_X10_drawAfter g l  hc2 I L) (good_U cd_X10_drawAfter) N_X9_56 ns_X10_drawAfter ni_X10 (by decide +kernel) ⟨by decide, by decide⟩ ⟨Nat.le_refl _, Nat.le_refl _⟩ rfl hl.1 rfl (Nat.le_of_ble_eq_true rfl) dX9_passHour_5 (fun H locs hW => ?_)
  refine P_X9_17 C hW ha0 dX9_passHour_8 (fun H locs hW => ?_)
  obtain ⟨I3, eI3, h⟩ := nm_some h
  rw [← eI3] at hW
  clear eI3
  refine lv_aload_n C.1.1 C.1.2.1 dX9_passHour_11 rfl (lv_at hl 0 rfl) ?_
  refine lv_aload_n C.1.1 C.1.2.1 dX9_passHour_12 rfl (lv_at hl 0 rfl) ?_
  refine G_X9_17 C hW ha0 dX9_passHour_13 ?_
  refine lv_iconst (v := 3) C.1.1 C.1.2.1 dX9_passHour_16 (by decide) ?_
  obtain ⟨x4, ex4⟩ : ∃ y, y = I3 a0 6 := ⟨_, rfl⟩
  rw [← ex4]
  replace h := nm_at ex4 h
  clear ex4
  refine lv_irem C.1.1 C.1.2.1 dX9_passHour_17 (by decide) ?_
  refine P_X9_34 C hW ha0 dX9_passHour_18 (fun H locs hW => ?_)
  obtain ⟨I5, eI5, h⟩ := nm_some h
  rw [← eI5] at hW
  clear eI5
  refine lv_aload_n C.1.1 C.1.2.1 dX9_passHour_21 rfl (lv_at hl 0 rfl) ?_
  obtain ⟨r6, hc7, h⟩ := bd1_some h
  refine w_callVi (k := 0) (As := []) (rest := []) C hW (c_X9_isNight g l ha0 hc7) ha0 rfl (EX_9 ha0) K_X9_60 (by decide +kernel) ⟨by decide, by decide⟩ ⟨Nat.le_refl _, Nat.le_refl _⟩ rfl hl.1 rfl (Nat.le_of_ble_eq_true rfl) dX9_passHour_22 (fun H locs hW => ?_)
  refine lv_istore_n (lv' := [(1, .int r6), (0, .ref (g.1 + a0))]) C.1.1 C.1.2.1 dX9_passHour_25 rfl hl (by decide) rfl (fun ls hl => ?_)
  refine lv_iconst (v := 0) C.1.1 C.1.2.1 dX9_passHour_26 (by decide) ?_
  refine lv_istore_n (lv' := [(2, .int (0 : Int32)), (1, .int r6), (0, .ref (g.1 + a0))]) C.1.1 C.1.2.1 dX9_passHour_27 rfl hl (by decide) rfl (fun ls hl => ?_)
  obtain ⟨I14, hq13, h⟩ := bd1_some h
  refine l_X9_passHour_28 C a0 r6 ha0 L _ _ _ _ hq13 _ _ _ hW (lv_sub hl [2, 1, 0] rfl) (fun H locs ls hW hl => ?_)
  refine lv_aload_n C.1.1 C.1.2.1 dX9_passHour_60 rfl (lv_at hl 0 rfl) ?_
  refine lv_dup C.1.1 C.1.2.1 dX9_passHour_61 rfl ?_
  refine G_X9_31 C hW ha0 dX9_passHour_62 ?_
  refine lv_iconst (v := 1) C.1.1 C.1.2.1 dX9_passHour_65 (by decide) ?_
  refine lv_iadd C.1.1 C.1.2.1 dX9_passHour_66 ?_
  refine P_X9_31 C hW ha0 dX9_passHour_67 (fun H locs hW => ?_)
  obtain ⟨I15, eI15, h⟩ := nm_some h
  rw [← eI15] at hW
  clear eI15
  obtain rfl := inj1 h
  subst hQ
  exact w_vret C hW hr hlocks dX9_passHour_70
