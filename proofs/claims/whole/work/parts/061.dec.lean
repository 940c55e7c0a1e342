def b_X1_hoursSat_11 (v2 : Int32) (v3 : Int32) (L : ML) (z4 : Int32) (I : MI) : Option ((Int32 × MI) ⊕ ((MI))) :=
  (if v2 ≤ z4 then some (Sum.inr I) else bd1 (f_X6_sits 211 I L) (fun r4 => (if r4 = 0 then some (Sum.inr I) else bd1 (f_X1_isMeal z4 v3) (fun r7 => bd1 (f_X1_pass z4 r7 I L) (fun I9 => nm (z4 + (1 : Int32)) (fun x11 => some (Sum.inl (x11, I9))))))))
set_option maxHeartbeats 4000000 in
set_option maxRecDepth 100000 in
theorem l_X1_hoursSat_11 {g : Gp} {p : Program} {l : Launch} {e : Env} {s : State} {m : MethodId} {args : Array Value} {below : List Frame} {meth : Method} {c : Code} {Q : State → Prop}  (C : Cx g p s m args c RX1 cX1_hoursSat 5) (v2 : Int32) (v3 : Int32)  (L : ML) : ∀ (n : Nat) (z4 : Int32) (I : MI) (Iy0 : MI), lp (fun s => b_X1_hoursSat_11 v2 v3 L s.1 s.2) n (z4, I) = some Iy0 → ∀ (H : Heap) (locs : List Loc) (ls : Array Slot), Ws g s I L H locs → lv_has ls 5 [(0, .ref (g.1 + 207)), (2, .int v2), (3, .int v3), (4, .int z4)] → (∀ (H : Heap) (locs : List Loc) (ls : Array Slot), Ws g s Iy0 L H locs → lv_has ls 5 [(0, .ref (g.1 + 207)), (2, .int v2)] → W p l e (rmD 4) s m args below meth c H locs 0 0 Q (F0 m 45 ls [])) → W p l e (rmD 4) s m args below meth c H locs 0 0 Q (F0 m 11 ls []) := by
  intro n
  induction n with
  | zero => intro z4 I Iy0 h; exact lp_zero h
  | succ n ih =>
      intro z4 I Iy0 h H locs ls hW hl hx0
      obtain ⟨r9, h, h9⟩ := lp_some h
      have h : b_X1_hoursSat_11 v2 v3 L z4 I = some r9 := h
      unfold b_X1_hoursSat_11 at h
      refine lv_iload C.1.1 C.1.2.1 dX1_hoursSat_11 (lv_at hl 3 rfl) ?_
      refine lv_iload_n C.1.1 C.1.2.1 dX1_hoursSat_13 rfl (lv_at hl 1 rfl) ?_
      refine lv_icmp_ge (tgt := 45) C.1.1 C.1.2.1 dX1_hoursSat_14 (by decide) (fun hc3 => ?_) (fun hc3 => ?_)
      · replace h := ite_t hc3 h
        obtain rfl := Option.some.inj h
        replace h9 := Option.some.inj h9
        obtain rfl := pnj1 h9
        exact hx0 _ _ _ hW (lv_sub hl [0, 1] rfl)
      · replace h := ite_f hc3 h
        refine lv_aload_n C.1.1 C.1.2.1 dX1_hoursSat_17 rfl (lv_at hl 0 rfl) ?_
        refine G_X1_25 C hW (by decide) dX1_hoursSat_18 ?_
        obtain ⟨r4, hc5, h⟩ := bd1_some h
        refine w_callVi (k := 0) (As := []) (rest := []) C hW (c_X6_sits g l (by decide) hc5) (by decide) rfl (EX_6 (by decide)) K_X1_92 (by decide +kernel) ⟨by decide, by decide⟩ ⟨Nat.le_refl _, Nat.le_refl _⟩ rfl hl.1 rfl (Nat.le_of_ble_eq_true rfl) dX1_hoursSat_21 (fun H locs hW => ?_)
        refine lv_if_eq (tgt := 45) C.1.1 C.1.2.1 dX1_hoursSat_24 (by decide) (fun hc6 => ?_) (fun hc6 => ?_)
        · replace h := ite_t hc6 h
          obtain rfl := Option.some.inj h
          replace h9 := Option.some.inj h9
          obtain rfl := pnj1 h9
          exact hx0 _ _ _ hW (lv_sub hl [0, 1] rfl)
        · replace h := ite_f hc6 h
          refine lv_aload_n C.1.1 C.1.2.1 dX1_hoursSat_27 rfl (lv_at hl 0 rfl) ?_
          refine lv_iload C.1.1 C.1.2.1 dX1_hoursSat_28 (lv_at hl 3 rfl) ?_
          refine lv_iload C.1.1 C.1.2.1 dX1_hoursSat_30 (lv_at hl 3 rfl) ?_
          refine lv_iload_n C.1.1 C.1.2.1 dX1_hoursSat_32 rfl (lv_at hl 2 rfl) ?_
          obtain ⟨r7, hc8, h⟩ := bd1_some h
          refine w_callSi (k := 2) (As := [.int z4, .int v3]) (rest := [.int z4, .ref (g.1 + 207)]) C hW (c_X1_isMeal g l  hc8 I L) K_X1_96 (by decide +kernel) ⟨by decide, by decide⟩ ⟨Nat.le_refl _, Nat.le_refl _⟩ rfl hl.1 rfl (Nat.le_of_ble_eq_true rfl) dX1_hoursSat_33 (fun H locs hW => ?_)
          obtain ⟨I9, hc10, h⟩ := bd1_some h
          refine w_callVv (k := 2) (As := [.int z4, .int r7]) (rest := []) C hW (c_X1_pass g l  hc10) (by decide) rfl (EX_1 (by decide)) K_X1_68 (by decide +kernel) ⟨by decide, by decide⟩ ⟨Nat.le_refl _, Nat.le_refl _⟩ rfl hl.1 rfl (Nat.le_of_ble_eq_true rfl) dX1_hoursSat_36 (fun H locs hW => ?_)
          obtain ⟨x11, ex11⟩ : ∃ y : Int32, y = z4 + (1 : Int32) := ⟨_, rfl⟩
          replace h := nm_at ex11 h
          refine lv_iinc (v := x11) (lv' := [(4, .int x11), (0, .ref (g.1 + 207)), (2, .int v2), (3, .int v3)]) C.1.1 C.1.2.1 dX1_hoursSat_39 hl (k := 3) rfl (by rw [ex11]; rfl) (by decide) rfl (fun ls hl => ?_)
          clear ex11
          refine lv_goto (tgt := 11) C.1.1 C.1.2.1 dX1_hoursSat_42 (by decide) ?_
          obtain rfl := Option.some.inj h
          exact ih _ _ _ h9 _ _ _ hW (lv_sub hl [1, 2, 3, 0] rfl) hx0
def f_X1_hoursSat (a1 : Nat) (a2 : Int32) (a3 : Int32) (I : MI) (L : ML) : Option (Int32 × MI) :=
  bd1 (f_X6_takeFrom 211 a1 I L) (fun I1 => bd1 (lp (fun s => b_X1_hoursSat_11 a2 a3 L s.1 s.2) FU (((0 : Int32), I1))) (fun I13 => bd1 (f_X6_sits 211 I13 L) (fun r14 => bd1 ((if r14 = 0 then some (I13 211 10) else some a2)) (fun y16 => some (y16, I13)))))
set_option maxHeartbeats 4000000 in
set_option maxRecDepth 100000 in
theorem c_X1_hoursSat (g : Gp) (l : Launch) {a1 : Nat} {a2 : Int32} {a3 : Int32} (ha1 : kd a1 = 6) {I : MI} {L : ML} {r : Int32} {I' : MI} (h : f_X1_hoursSat a1 a2 a3 I L = some (r, I')) : MetI g l yX1_hoursSat cX1_hoursSat 5 .int 4 [.ref (g.1 + 207), .ref (g.1 + a1), .int a2, .int a3] I L r I' L := by
  unfold f_X1_hoursSat at h
  refine w_enter (by decide) (Nat.le_of_ble_eq_true rfl) (own := RX1) rfl ?_
  intro p e s m below meth c args Q hQ C hr hlocks hW ls hl
  have hl : lv_has ls 5 [(0, .ref (g.1 + 207)), (1, .ref (g.1 + a1)), (2, .int a2), (3, .int a3)] := hl
  refine lv_aload_n C.1.1 C.1.2.1 dX1_hoursSat_0 rfl (lv_at hl 0 rfl) ?_
  refine G_X1_25 C hW (by decide) dX1_hoursSat_1 ?_
  refine lv_aload_n C.1.1 C.1.2.1 dX1_hoursSat_4 rfl (lv_at hl 1 rfl) ?_
  obtain ⟨I1, hc2, h⟩ := bd1_some h
  refine w_callVv (k := 1) (As := [.ref (g.1 + a1)]) (rest := []) C hW (c_X6_takeFrom g l (by decide) ha1 hc2) (by decide) rfl (EX_6 (by decide)) K_X1_64 (by decide +kernel) ⟨by decide, by decide⟩ ⟨Nat.le_refl _, Nat.le_refl _⟩ rfl hl.1 rfl (Nat.le_of_ble_eq_true rfl) dX1_hoursSat_5 (fun H locs hW => ?_)
  refine lv_iconst (v := 0) C.1.1 C.1.2.1 dX1_hoursSat_8 (by decide) ?_
  refine lv_istore (lv' := [(4, .int (0 : Int32)), (0, .ref (g.1 + 207)), (1, .ref (g.1 + a1)), (2, .int a2), (3, .int a3)]) C.1.1 C.1.2.1 dX1_hoursSat_9 hl (by decide) rfl (fun ls hl => ?_)
  obtain ⟨I13, hq12, h⟩ := bd1_some h
  refine l_X1_hoursSat_11 C a2 a3  L _ _ _ _ hq12 _ _ _ hW (lv_sub hl [1, 3, 4, 0] rfl) (fun H locs ls hW hl => ?_)
  refine lv_aload_n C.1.1 C.1.2.1 dX1_hoursSat_45 rfl (lv_at hl 0 rfl) ?_
  refine G_X1_25 C hW (by decide) dX1_hoursSat_46 ?_
  obtain ⟨r14, hc15, h⟩ := bd1_some h
  refine w_callVi (k := 0) (As := []) (rest := []) C hW (c_X6_sits g l (by decide) hc15) (by decide) rfl (EX_6 (by decide)) K_X1_92 (by decide +kernel) ⟨by decide, by decide⟩ ⟨Nat.le_refl _, Nat.le_refl _⟩ rfl hl.1 rfl (Nat.le_of_ble_eq_true rfl) dX1_hoursSat_49 (fun H locs hW => ?_)
  obtain ⟨y16, hj18, h⟩ := bd1_some h
  have kJ17 : ∀ (H : Heap) (locs : List Loc) (ls : Array Slot), Ws g s I13 L H locs → lv_has ls 5 [] → W p l e (rmD 4) s m args below meth c H locs 0 0 Q (F0 m 66 ls [.int y16]) := by
    intro H locs ls hW hl
    obtain ⟨rfl, rfl⟩ := inj2 h
    subst hQ
    exact w_iret C hW hr hlocks dX1_hoursSat_66
  clear h
  have h := hj18
  clear hj18
  refine lv_if_eq (tgt := 59) C.1.1 C.1.2.1 dX1_hoursSat_52 (by decide) (fun hc19 => ?_) (fun hc19 => ?_)
  · replace h := ite_t hc19 h
    refine lv_aload_n C.1.1 C.1.2.1 dX1_hoursSat_59 rfl (lv_at hl 0 rfl) ?_
    refine G_X1_25 C hW (by decide) dX1_hoursSat_60 ?_
    refine G_X1_99 C hW (by decide) dX1_hoursSat_63 ?_
    obtain rfl := inj1 h
    exact kJ17 _ _ _ hW (lv_sub hl [] rfl)
  · replace h := ite_f hc19 h
    refine lv_iload_n C.1.1 C.1.2.1 dX1_hoursSat_55 rfl (lv_at hl 1 rfl) ?_
    refine lv_goto (tgt := 66) C.1.1 C.1.2.1 dX1_hoursSat_56 (by decide) ?_
    obtain rfl := inj1 h
    exact kJ17 _ _ _ hW (lv_sub hl [] rfl)
def f_J6_compare_7cf53 (a1 : Int32) (a2 : Int32) : Option (Int32) :=
  bd1 ((if a2 ≤ a1 then (if a1 = a2 then some (0 : Int32) else some (1 : Int32)) else some (-1 : Int32))) (fun y1 => some y1)
set_option maxHeartbeats 4000000 in
set_option maxRecDepth 100000 in
theorem c_J6_compare_7cf53 (g : Gp) (l : Launch) {a1 : Int32} {a2 : Int32}  {r : Int32} (h : f_J6_compare_7cf53 a1 a2 = some r) (I : MI) (L : ML) : MetI g l yJ6_compare_7cf53 cJ6_compare_7cf53 2 .int 0 [.int a1, .int a2] I L r I L := by
  unfold f_J6_compare_7cf53 at h
  refine w_enter (by decide) (Nat.le_of_ble_eq_true rfl) (own := RJ6) rfl ?_
  intro p e s m below meth c args Q hQ C hr hlocks hW ls hl
  have hl : lv_has ls 2 [(0, .int a1), (1, .int a2)] := hl
  refine lv_iload_n C.1.1 C.1.2.1 dJ6_compare_7cf53_0 rfl (lv_at hl 0 rfl) ?_
  refine lv_iload_n C.1.1 C.1.2.1 dJ6_compare_7cf53_1 rfl (lv_at hl 1 rfl) ?_
  obtain ⟨y1, hj3, h⟩ := bd1_some h
  have kJ2 : ∀ (H : Heap) (locs : List Loc) (ls : Array Slot), Ws g s I L H locs → lv_has ls 2 [] → W p l e (rmD 0) s m args below meth c H locs 0 0 Q (F0 m 19 ls [.int y1]) := by
    intro H locs ls hW hl
    obtain rfl := inj1 h
    subst hQ
    exact w_iret C hW hr hlocks dJ6_compare_7cf53_19
  clear h
  have h := hj3
  clear hj3
  refine lv_icmp_ge (tgt := 9) C.1.1 C.1.2.1 dJ6_compare_7cf53_2 (by decide) (fun hc4 => ?_) (fun hc4 => ?_)
  · replace h := ite_t hc4 h
    refine lv_iload_n C.1.1 C.1.2.1 dJ6_compare_7cf53_9 rfl (lv_at hl 0 rfl) ?_
    refine lv_iload_n C.1.1 C.1.2.1 dJ6_compare_7cf53_10 rfl (lv_at hl 1 rfl) ?_
    refine lv_icmp_ne (tgt := 18) C.1.1 C.1.2.1 dJ6_compare_7cf53_11 (by decide) (fun hc5 => ?_) (fun hc5 => ?_)
    · replace h := ite_f hc5 h
      refine lv_iconst (v := 1) C.1.1 C.1.2.1 dJ6_compare_7cf53_18 (by decide) ?_
      obtain rfl := inj1 h
      exact kJ2 _ _ _ hW (lv_sub hl [] rfl)
    · replace h := ite_t hc5 h
      refine lv_iconst (v := 0) C.1.1 C.1.2.1 dJ6_compare_7cf53_14 (by decide) ?_
      refine lv_goto (tgt := 19) C.1.1 C.1.2.1 dJ6_compare_7cf53_15 (by decide) ?_
      obtain rfl := inj1 h
      exact kJ2 _ _ _ hW (lv_sub hl [] rfl)
  · replace h := ite_f hc4 h
    refine lv_iconst (v := -1) C.1.1 C.1.2.1 dJ6_compare_7cf53_5 (by decide) ?_
    refine lv_goto (tgt := 19) C.1.1 C.1.2.1 dJ6_compare_7cf53_6 (by decide) ?_
    obtain rfl := inj1 h
    exact kJ2 _ _ _ hW (lv_sub hl [] rfl)
def f_X1_outlasts (a1 : Nat) (a2 : Nat) (I : MI) (L : ML) : Option (Int32 × MI) :=
  bd2 (f_X1_hoursSat a1 (60 : Int32) (0 : Int32) I L) (fun r1 I2 => bd2 (f_X1_hoursSat a2 (60 : Int32) (0 : Int32) I2 L) (fun r4 I5 => bd1 (f_J6_compare_7cf53 r1 r4) (fun r7 => some (r7, I5))))
set_option maxHeartbeats 4000000 in
set_option maxRecDepth 100000 in
theorem c_X1_outlasts (g : Gp) (l : Launch) {a1 : Nat} {a2 : Nat} (ha1 : kd a1 = 6) (ha2 : kd a2 = 6) {I : MI} {L : ML} {r : Int32} {I' : MI} (h : f_X1_outlasts a1 a2 I L = some (r, I')) : MetI g l yX1_outlasts cX1_outlasts 3 .int 5 [.ref (g.1 + 207), .ref (g.1 + a1), .ref (g.1 + a2)] I L r I' L := by
  unfold f_X1_outlasts at h
  refine w_enter (by decide) (Nat.le_of_ble_eq_true rfl) (own := RX1) rfl ?_
  intro p e s m below meth c args Q hQ C hr hlocks hW ls hl
  have hl : lv_has ls 3 [(0, .ref (g.1 + 207)), (1, .ref (g.1 + a1)), (2, .ref (g.1 + a2))] := hl
  refine lv_aload_n C.1.1 C.1.2.1 dX1_outlasts_0 rfl (lv_at hl 0 rfl) ?_
  refine lv_aload_n C.1.1 C.1.2.1 dX1_outlasts_1 rfl (lv_at hl 1 rfl) ?_
  refine lv_bipush (v := 60) C.1.1 C.1.2.1 dX1_outlasts_2 (by decide) ?_
  refine lv_iconst (v := 0) C.1.1 C.1.2.1 dX1_outlasts_4 (by decide) ?_
  obtain ⟨r1, I2, hc3, h⟩ := bd2_some h
  refine w_callVi (k := 3) (As := [.ref (g.1 + a1), .int (60 : Int32), .int (0 : Int32)]) (rest := []) C hW (c_X1_hoursSat g l ha1 hc3) (by decide) rfl (EX_1 (by decide)) K_X1_102 (by decide +kernel) ⟨by decide, by decide⟩ ⟨Nat.le_refl _, Nat.le_refl _⟩ rfl hl.1 rfl (Nat.le_of_ble_eq_true rfl) dX1_outlasts_5 (fun H locs hW => ?_)
  refine lv_aload_n C.1.1 C.1.2.1 dX1_outlasts_8 rfl (lv_at hl 0 rfl) ?_
  refine lv_aload_n C.1.1 C.1.2.1 dX1_outlasts_9 rfl (lv_at hl 2 rfl) ?_
  refine lv_bipush (v := 60) C.1.1 C.1.2.1 dX1_outlasts_10 (by decide) ?_
  refine lv_iconst (v := 0) C.1.1 C.1.2.1 dX1_outlasts_12 (by decide) ?_
  obtain ⟨r4, I5, hc6, h⟩ := bd2_some h
  refine w_callVi (k := 3) (As := [.ref (g.1 + a2), .int (60 : Int32), .int (0 : Int32)]) (rest := [.int r1]) C hW (c_X1_hoursSat g l ha2 hc6) (by decide) rfl (EX_1 (by decide)) K_X1_102 (by decide +kernel) ⟨by decide, by decide⟩ ⟨Nat.le_refl _, Nat.le_refl _⟩ rfl hl.1 rfl (Nat.le_of_ble_eq_true rfl) dX1_outlasts_13 (fun H locs hW => ?_)
  obtain ⟨r7, hc8, h⟩ := bd1_some h
  refine w_callSi (k := 2) (As := [.int r1, .int r4]) (rest := []) C hW (c_J6_compare_7cf53 g l  hc8 I5 L) K_X1_106 (by decide +kernel) ⟨by decide, by decide⟩ ⟨Nat.le_refl _, Nat.le_refl _⟩ rfl hl.1 rfl (Nat.le_of_ble_eq_true rfl) dX1_outlasts_16 (fun H locs hW => ?_)
  obtain ⟨rfl, rfl⟩ := inj2 h
  subst hQ
  exact w_iret C hW hr hlocks dX1_outlasts_19
def f_J6_bitCount_0f7a4 (a1 : Int32) : Option (Int32) :=
  nm (a1 - (((a1.toUInt32 >>> ((1 : Int32).toUInt32 &&& Int32.toUInt32 31)).toInt32) &&& (1431655765 : Int32))) (fun x1 => nm ((x1 &&& (858993459 : Int32)) + (((x1.toUInt32 >>> ((2 : Int32).toUInt32 &&& Int32.toUInt32 31)).toInt32) &&& (858993459 : Int32))) (fun x2 => nm ((x2 + ((x2.toUInt32 >>> ((4 : Int32).toUInt32 &&& Int32.toUInt32 31)).toInt32)) &&& (252645135 : Int32)) (fun x3 => nm (x3 + ((x3.toUInt32 >>> ((8 : Int32).toUInt32 &&& Int32.toUInt32 31)).toInt32)) (fun x4 => nm (x4 + ((x4.toUInt32 >>> ((16 : Int32).toUInt32 &&& Int32.toUInt32 31)).toInt32)) (fun x5 => some (x5 &&& (63 : Int32)))))))
set_option maxHeartbeats 4000000 in
set_option maxRecDepth 100000 in
theorem c_J6_bitCount_0f7a4 (g : Gp) (l : Launch) {a1 : Int32}  {r : Int32} (h : f_J6_bitCount_0f7a4 a1 = some r) (I : MI) (L : ML) : MetI g l yJ6_bitCount_0f7a4 cJ6_bitCount_0f7a4 1 .int 0 [.int a1] I L r I L := by
  unfold f_J6_bitCount_0f7a4 at h
  refine w_enter (by decide) (Nat.le_of_ble_eq_true rfl) (own := RJ6) rfl ?_
  intro p e s m below meth c args Q hQ C hr hlocks hW ls hl
  have hl : lv_has ls 1 [(0, .int a1)] := hl
  refine lv_iload_n C.1.1 C.1.2.1 dJ6_bitCount_0f7a4_0 rfl (lv_at hl 0 rfl) ?_
  refine lv_iload_n C.1.1 C.1.2.1 dJ6_bitCount_0f7a4_1 rfl (lv_at hl 0 rfl) ?_
  refine lv_iconst (v := 1) C.1.1 C.1.2.1 dJ6_bitCount_0f7a4_2 (by decide) ?_
  refine lv_iushr C.1.1 C.1.2.1 dJ6_bitCount_0f7a4_3 rfl ?_
  refine lv_ldcw C.1.1 C.1.2.1 C.1.2.2.2.1 (C.1.2.2.2.2 _ kc_J6_265) dJ6_bitCount_0f7a4_4 ?_
  refine lv_iand C.1.1 C.1.2.1 dJ6_bitCount_0f7a4_7 ?_
  refine lv_isub C.1.1 C.1.2.1 dJ6_bitCount_0f7a4_8 ?_
  refine lv_topi (fun x1 ex1 => ?_)
  replace h := nm_at ex1 h
  clear ex1
  refine lv_istore_n (lv' := [(0, .int x1)]) C.1.1 C.1.2.1 dJ6_bitCount_0f7a4_9 rfl hl (by decide) rfl (fun ls hl => ?_)
  refine lv_iload_n C.1.1 C.1.2.1 dJ6_bitCount_0f7a4_10 rfl (lv_at hl 0 rfl) ?_
  refine lv_ldcw C.1.1 C.1.2.1 C.1.2.2.2.1 (C.1.2.2.2.2 _ kc_J6_266) dJ6_bitCount_0f7a4_11 ?_
  refine lv_iand C.1.1 C.1.2.1 dJ6_bitCount_0f7a4_14 ?_
  refine lv_iload_n C.1.1 C.1.2.1 dJ6_bitCount_0f7a4_15 rfl (lv_at hl 0 rfl) ?_
  refine lv_iconst (v := 2) C.1.1 C.1.2.1 dJ6_bitCount_0f7a4_16 (by decide) ?_
  refine lv_iushr C.1.1 C.1.2.1 dJ6_bitCount_0f7a4_17 rfl ?_
  refine lv_ldcw C.1.1 C.1.2.1 C.1.2.2.2.1 (C.1.2.2.2.2 _ kc_J6_266) dJ6_bitCount_0f7a4_18 ?_
  refine lv_iand C.1.1 C.1.2.1 dJ6_bitCount_0f7a4_21 ?_
  refine lv_iadd C.1.1 C.1.2.1 dJ6_bitCount_0f7a4_22 ?_
  refine lv_topi (fun x2 ex2 => ?_)
  replace h := nm_at ex2 h
  clear ex2
  refine lv_istore_n (lv' := [(0, .int x2)]) C.1.1 C.1.2.1 dJ6_bitCount_0f7a4_23 rfl hl (by decide) rfl (fun ls hl => ?_)
  refine lv_iload_n C.1.1 C.1.2.1 dJ6_bitCount_0f7a4_24 rfl (lv_at hl 0 rfl) ?_
  refine lv_iload_n C.1.1 C.1.2.1 dJ6_bitCount_0f7a4_25 rfl (lv_at hl 0 rfl) ?_
  refine lv_iconst (v := 4) C.1.1 C.1.2.1 dJ6_bitCount_0f7a4_26 (by decide) ?_
  refine lv_iushr C.1.1 C.1.2.1 dJ6_bitCount_0f7a4_27 rfl ?_
  refine lv_iadd C.1.1 C.1.2.1 dJ6_bitCount_0f7a4_28 ?_
  refine lv_ldcw C.1.1 C.1.2.1 C.1.2.2.2.1 (C.1.2.2.2.2 _ kc_J6_267) dJ6_bitCount_0f7a4_29 ?_
  refine lv_iand C.1.1 C.1.2.1 dJ6_bitCount_0f7a4_32 ?_
  refine lv_topi (fun x3 ex3 => ?_)
  replace h := nm_at ex3 h
  clear ex3
  refine lv_istore_n (lv' := [(0, .int x3)]) C.1.1 C.1.2.1 dJ6_bitCount_0f7a4_33 rfl hl (by decide) rfl (fun ls hl => ?_)
  refine lv_iload_n C.1.1 C.1.2.1 dJ6_bitCount_0f7a4_34 rfl (lv_at hl 0 rfl) ?_
  refine lv_iload_n C.1.1 C.1.2.1 dJ6_bitCount_0f7a4_35 rfl (lv_at hl 0 rfl) ?_
  refine lv_bipush (v := 8) C.1.1 C.1.2.1 dJ6_bitCount_0f7a4_36 (by decide) ?_
  refine lv_iushr C.1.1 C.1.2.1 dJ6_bitCount_0f7a4_38 rfl ?_
  refine lv_iadd C.1.1 C.1.2.1 dJ6_bitCount_0f7a4_39 ?_
  refine lv_topi (fun x4 ex4 => ?_)
  replace h := nm_at ex4 h
  clear ex4
  refine lv_istore_n (lv' := [(0, .int x4)]) C.1.1 C.1.2.1 dJ6_bitCount_0f7a4_40 rfl hl (by decide) rfl (fun ls hl => ?_)
  refine lv_iload_n C.1.1 C.1.2.1 dJ6_bitCount_0f7a4_41 rfl (lv_at hl 0 rfl) ?_
  refine lv_iload_n C.1.1 C.1.2.1 dJ6_bitCount_0f7a4_42 rfl (lv_at hl 0 rfl) ?_
  refine lv_bipush (v := 16) C.1.1 C.1.2.1 dJ6_bitCount_0f7a4_43 (by decide) ?_
  refine lv_iushr C.1.1 C.1.2.1 dJ6_bitCount_0f7a4_45 rfl ?_
  refine lv_iadd C.1.1 C.1.2.1 dJ6_bitCount_0f7a4_46 ?_
  refine lv_topi (fun x5 ex5 => ?_)
  replace h := nm_at ex5 h
  clear ex5
  refine lv_istore_n (lv' := [(0, .int x5)]) C.1.1 C.1.2.1 dJ6_bitCount_0f7a4_47 rfl hl (by decide) rfl (fun ls hl => ?_)
  refine lv_iload_n C.1.1 C.1.2.1 dJ6_bitCount_0f7a4_48 rfl (lv_at hl 0 rfl) ?_
  refine lv_bipush (v := 63) C.1.1 C.1.2.1 dJ6_bitCount_0f7a4_49 (by decide) ?_
  refine lv_iand C.1.1 C.1.2.1 dJ6_bitCount_0f7a4_51 ?_
  obtain rfl := inj1 h
  subst hQ
  exact w_iret C hW hr hlocks dJ6_bitCount_0f7a4_52
def b_X1_bestMeals_14 (v1 : Nat) (v2 : Int32) (L : ML) (z3 : Int32) (z4 : Int32) (z5 : Int32) (I : MI) : Option ((Int32 × Int32 × Int32 × MI) ⊕ ((Int32 × MI))) :=
  (if ((1 : Int32) <<< (v2 &&& (31 : Int32))) ≤ z5 then some (Sum.inr (z3, I)) else bd1 (f_J6_bitCount_0f7a4 z5) (fun r5 => bd3 ((if r5 ≤ (I v1 6) then bd2 (f_X1_hoursSat v1 v2 z5 I L) (fun r14 I15 => bd1 (f_J6_bitCount_0f7a4 z5) (fun r17 => bd1 (f_J6_bitCount_0f7a4 z3) (fun r19 => bd1 ((if r19 ≤ r17 then some (0 : Int32) else some (1 : Int32))) (fun y21 => (if z4 < r14 then some (z5, r14, I15) else (if r14 = z4 then (if y21 = 0 then some (z3, z4, I15) else some (z5, r14, I15)) else some (z3, z4, I15))))))) else some (z3, z4, I))) (fun y7 y8 I9 => nm (z5 + (1 : Int32)) (fun x12 => some (Sum.inl (y7, y8, x12, I9))))))
set_option maxHeartbeats 4000000 in
set_option maxRecDepth 100000 in
theorem l_X1_bestMeals_14 {g : Gp} {p : Program} {l : Launch} {e : Env} {s : State} {m : MethodId} {args : Array Value} {below : List Frame} {meth : Method} {c : Code} {Q : State → Prop}  (C : Cx g p s m args c RX1 cX1_bestMeals 8) (v1 : Nat) (v2 : Int32) (hv1 : kd v1 = 6) (L : ML) : ∀ (n : Nat) (z3 : Int32) (z4 : Int32) (z5 : Int32) (I : MI) (y0_3 : Int32) (Iy0 : MI), lp (fun s => b_X1_bestMeals_14 v1 v2 L s.1 s.2.1 s.2.2.1 s.2.2.2) n (z3, z4, z5, I) = some (y0_3, Iy0) → ∀ (H : Heap) (locs : List Loc) (ls : Array Slot), Ws g s I L H locs → lv_has ls 8 [(0, .ref (g.1 + 207)), (1, .ref (g.1 + v1)), (2, .int v2), (3, .int z3), (4, .int z4), (5, .int z5)] → (∀ (H : Heap) (locs : List Loc) (ls : Array Slot), Ws g s Iy0 L H locs → lv_has ls 8 [(3, .int y0_3)] → W p l e (rmD 5) s m args below meth c H locs 0 0 Q (F0 m 98 ls [])) → W p l e (rmD 5) s m args below meth c H locs 0 0 Q (F0 m 14 ls []) := by
  intro n
  induction n with
  | zero => intro z3 z4 z5 I y0_3 Iy0 h; exact lp_zero h
  | succ n ih =>
      intro z3 z4 z5 I y0_3 Iy0 h H locs ls hW hl hx0
      obtain ⟨r9, h, h9⟩ := lp_some h
      have h : b_X1_bestMeals_14 v1 v2 L z3 z4 z5 I = some r9 := h
      unfold b_X1_bestMeals_14 at h
      refine lv_iload C.1.1 C.1.2.1 dX1_bestMeals_14 (lv_at hl 5 rfl) ?_
      refine lv_iconst (v := 1) C.1.1 C.1.2.1 dX1_bestMeals_16 (by decide) ?_
      refine lv_iload_n C.1.1 C.1.2.1 dX1_bestMeals_17 rfl (lv_at hl 2 rfl) ?_
      refine lv_ishl C.1.1 C.1.2.1 dX1_bestMeals_18 ?_
      refine lv_icmp_ge (tgt := 98) C.1.1 C.1.2.1 dX1_bestMeals_19 (by decide) (fun hc4 => ?_) (fun hc4 => ?_)
      · replace h := ite_t hc4 h
        obtain rfl := Option.some.inj h
        replace h9 := Option.some.inj h9
        obtain ⟨rfl, rfl⟩ := pnj2 h9
        exact hx0 _ _ _ hW (lv_sub hl [3] rfl)
      · replace h := ite_f hc4 h
        refine lv_iload C.1.1 C.1.2.1 dX1_bestMeals_22 (lv_at hl 5 rfl) ?_
        obtain ⟨r5, hc6, h⟩ := bd1_some h
        refine w_callSi (k := 1) (As := [.int z5]) (rest := []) C hW (c_J6_bitCount_0f7a4 g l  hc6 I L) K_X1_112 (by decide +kernel) ⟨by decide, by decide⟩ ⟨Nat.le_refl _, Nat.le_refl _⟩ rfl hl.1 rfl (Nat.le_of_ble_eq_true rfl) dX1_bestMeals_24 (fun H locs hW => ?_)
        refine lv_aload_n C.1.1 C.1.2.1 dX1_bestMeals_27 rfl (lv_at hl 1 rfl) ?_
        refine G_X1_115 C hW hv1 dX1_bestMeals_28 ?_
        obtain ⟨y7, y8, I9, hj11, h⟩ := bd3_some h
        have kJ10 : ∀ (H : Heap) (locs : List Loc) (ls : Array Slot), Ws g s I9 L H locs → lv_has ls 8 [(0, .ref (g.1 + 207)), (1, .ref (g.1 + v1)), (2, .int v2), (3, .int y7), (4, .int y8), (5, .int z5)] → W p l e (rmD 5) s m args below meth c H locs 0 0 Q (F0 m 92 ls []) := by
          intro H locs ls hW hl
          obtain ⟨x12, ex12⟩ : ∃ y : Int32, y = z5 + (1 : Int32) := ⟨_, rfl⟩
          replace h := nm_at ex12 h
          refine lv_iinc (v := x12) (lv' := [(5, .int x12), (0, .ref (g.1 + 207)), (1, .ref (g.1 + v1)), (2, .int v2), (3, .int y7), (4, .int y8)]) C.1.1 C.1.2.1 dX1_bestMeals_92 hl (k := 5) rfl (by rw [ex12]; rfl) (by decide) rfl (fun ls hl => ?_)
          clear ex12
          refine lv_goto (tgt := 14) C.1.1 C.1.2.1 dX1_bestMeals_95 (by decide) ?_
          obtain rfl := Option.some.inj h
          exact ih _ _ _ _ _ _ h9 _ _ _ hW (lv_sub hl [1, 2, 3, 4, 5, 0] rfl) hx0
        clear h
        have h := hj11
        clear hj11
        refine lv_icmp_le (tgt := 37) C.1.1 C.1.2.1 dX1_bestMeals_31 (by decide) (fun hc13 => ?_) (fun hc13 => ?_)
        · replace h := ite_t hc13 h
          refine lv_aload_n C.1.1 C.1.2.1 dX1_bestMeals_37 rfl (lv_at hl 0 rfl) ?_
          refine lv_aload_n C.1.1 C.1.2.1 dX1_bestMeals_38 rfl (lv_at hl 1 rfl) ?_
          refine lv_iload_n C.1.1 C.1.2.1 dX1_bestMeals_39 rfl (lv_at hl 2 rfl) ?_
          refine lv_iload C.1.1 C.1.2.1 dX1_bestMeals_40 (lv_at hl 5 rfl) ?_
          obtain ⟨r14, I15, hc16, h⟩ := bd2_some h
          refine w_callVi (k := 3) (As := [.ref (g.1 + v1), .int v2, .int z5]) (rest := []) C hW (c_X1_hoursSat g l hv1 hc16) (by decide) rfl (EX_1 (by decide)) K_X1_102 (by decide +kernel) ⟨by decide, by decide⟩ ⟨Nat.le_refl _, Nat.le_refl _⟩ rfl hl.1 rfl (Nat.le_of_ble_eq_true rfl) dX1_bestMeals_42 (fun H locs hW => ?_)
          refine lv_istore (lv' := [(6, .int r14), (0, .ref (g.1 + 207)), (1, .ref (g.1 + v1)), (2, .int v2), (3, .int z3), (4, .int z4), (5, .int z5)]) C.1.1 C.1.2.1 dX1_bestMeals_45 hl (by decide) rfl (fun ls hl => ?_)
          refine lv_iload C.1.1 C.1.2.1 dX1_bestMeals_47 (lv_at hl 6 rfl) ?_
          obtain ⟨r17, hc18, h⟩ := bd1_some h
          refine w_callSi (k := 1) (As := [.int z5]) (rest := []) C hW (c_J6_bitCount_0f7a4 g l  hc18 I15 L) K_X1_112 (by decide +kernel) ⟨by decide, by decide⟩ ⟨Nat.le_refl _, Nat.le_refl _⟩ rfl hl.1 rfl (Nat.le_of_ble_eq_true rfl) dX1_bestMeals_49 (fun H locs hW => ?_)
          refine lv_iload_n C.1.1 C.1.2.1 dX1_bestMeals_52 rfl (lv_at hl 4 rfl) ?_
          obtain ⟨r19, hc20, h⟩ := bd1_some h
          refine w_callSi (k := 1) (As := [.int z3]) (rest := [.int r17]) C hW (c_J6_bitCount_0f7a4 g l  hc20 I15 L) K_X1_112 (by decide +kernel) ⟨by decide, by decide⟩ ⟨Nat.le_refl _, Nat.le_refl _⟩ rfl hl.1 rfl (Nat.le_of_ble_eq_true rfl) dX1_bestMeals_53 (fun H locs hW => ?_)
          obtain ⟨y21, hj23, h⟩ := bd1_some h
          have kJ22 : ∀ (H : Heap) (locs : List Loc) (ls : Array Slot), Ws g s I15 L H locs → lv_has ls 8 [(0, .ref (g.1 + 207)), (1, .ref (g.1 + v1)), (2, .int v2), (3, .int z3), (4, .int z4), (5, .int z5), (6, .int r14)] → W p l e (rmD 5) s m args below meth c H locs 0 0 Q (F0 m 64 ls [.int y21]) := by
            intro H locs ls hW hl
            refine lv_istore (lv' := [(7, .int y21), (0, .ref (g.1 + 207)), (1, .ref (g.1 + v1)), (2, .int v2), (3, .int z3), (4, .int z4), (5, .int z5), (6, .int r14)]) C.1.1 C.1.2.1 dX1_bestMeals_64 hl (by decide) rfl (fun ls hl => ?_)
            refine lv_iload C.1.1 C.1.2.1 dX1_bestMeals_66 (lv_at hl 7 rfl) ?_
            refine lv_iload C.1.1 C.1.2.1 dX1_bestMeals_68 (lv_at hl 5 rfl) ?_
            refine lv_icmp_gt (tgt := 85) C.1.1 C.1.2.1 dX1_bestMeals_70 (by decide) (fun hc24 => ?_) (fun hc24 => ?_)
            · replace h := ite_t hc24 h
              refine lv_iload C.1.1 C.1.2.1 dX1_bestMeals_85 (lv_at hl 7 rfl) ?_
              refine lv_istore (lv' := [(4, .int r14), (7, .int y21), (0, .ref (g.1 + 207)), (1, .ref (g.1 + v1)), (2, .int v2), (3, .int z3), (5, .int z5), (6, .int r14)]) C.1.1 C.1.2.1 dX1_bestMeals_87 hl (by decide) rfl (fun ls hl => ?_)
              refine lv_iload C.1.1 C.1.2.1 dX1_bestMeals_89 (lv_at hl 6 rfl) ?_
              refine lv_istore_n (lv' := [(3, .int z5), (4, .int r14), (7, .int y21), (0, .ref (g.1 + 207)), (1, .ref (g.1 + v1)), (2, .int v2), (5, .int z5), (6, .int r14)]) C.1.1 C.1.2.1 dX1_bestMeals_91 rfl hl (by decide) rfl (fun ls hl => ?_)
              obtain ⟨rfl, rfl, rfl⟩ := inj3 h
              exact kJ10 _ _ _ hW (lv_sub hl [3, 4, 5, 0, 1, 6] rfl)
            · replace h := ite_f hc24 h
              refine lv_iload C.1.1 C.1.2.1 dX1_bestMeals_73 (lv_at hl 7 rfl) ?_
              refine lv_iload C.1.1 C.1.2.1 dX1_bestMeals_75 (lv_at hl 5 rfl) ?_
              refine lv_icmp_ne (tgt := 92) C.1.1 C.1.2.1 dX1_bestMeals_77 (by decide) (fun hc25 => ?_) (fun hc25 => ?_)
              · replace h := ite_f hc25 h
                obtain ⟨rfl, rfl, rfl⟩ := inj3 h
                exact kJ10 _ _ _ hW (lv_sub hl [1, 2, 3, 4, 5, 6] rfl)
              · replace h := ite_t hc25 h
                refine lv_iload C.1.1 C.1.2.1 dX1_bestMeals_80 (lv_at hl 0 rfl) ?_
                refine lv_if_eq (tgt := 92) C.1.1 C.1.2.1 dX1_bestMeals_82 (by decide) (fun hc26 => ?_) (fun hc26 => ?_)
                · replace h := ite_t hc26 h
                  obtain ⟨rfl, rfl, rfl⟩ := inj3 h
                  exact kJ10 _ _ _ hW (lv_sub hl [1, 2, 3, 4, 5, 6] rfl)
                · replace h := ite_f hc26 h
                  refine lv_iload C.1.1 C.1.2.1 dX1_bestMeals_85 (lv_at hl 7 rfl) ?_
                  refine lv_istore (lv' := [(4, .int r14), (7, .int y21), (0, .ref (g.1 + 207)), (1, .ref (g.1 + v1)), (2, .int v2), (3, .int z3), (5, .int z5), (6, .int r14)]) C.1.1 C.1.2.1 dX1_bestMeals_87 hl (by decide) rfl (fun ls hl => ?_)
                  refine lv_iload C.1.1 C.1.2.1 dX1_bestMeals_89 (lv_at hl 6 rfl) ?_
                  refine lv_istore_n (lv' := [(3, .int z5), (4, .int r14), (7, .int y21), (0, .ref (g.1 + 207)), (1, .ref (g.1 + v1)), (2, .int v2), (5, .int z5), (6, .int r14)]) C.1.1 C.1.2.1 dX1_bestMeals_91 rfl hl (by decide) rfl (fun ls hl => ?_)
                  obtain ⟨rfl, rfl, rfl⟩ := inj3 h
                  exact kJ10 _ _ _ hW (lv_sub hl [3, 4, 5, 0, 1, 6] rfl)
          clear h
          have h := hj23
          clear hj23
          refine lv_icmp_ge (tgt := 63) C.1.1 C.1.2.1 dX1_bestMeals_56 (by decide) (fun hc27 => ?_) (fun hc27 => ?_)
          · replace h := ite_t hc27 h
            refine lv_iconst (v := 0) C.1.1 C.1.2.1 dX1_bestMeals_63 (by decide) ?_
            obtain rfl := inj1 h
            exact kJ22 _ _ _ hW (lv_sub hl [1, 2, 3, 4, 5, 6, 0] rfl)
          · replace h := ite_f hc27 h
            refine lv_iconst (v := 1) C.1.1 C.1.2.1 dX1_bestMeals_59 (by decide) ?_
            refine lv_goto (tgt := 64) C.1.1 C.1.2.1 dX1_bestMeals_60 (by decide) ?_
            obtain rfl := inj1 h
            exact kJ22 _ _ _ hW (lv_sub hl [1, 2, 3, 4, 5, 6, 0] rfl)
        · replace h := ite_f hc13 h
          refine lv_goto (tgt := 92) C.1.1 C.1.2.1 dX1_bestMeals_34 (by decide) ?_
          obtain ⟨rfl, rfl, rfl⟩ := inj3 h
          exact kJ10 _ _ _ hW (lv_sub hl [0, 1, 2, 3, 4, 5] rfl)
def f_X1_bestMeals (a1 : Nat) (a2 : Int32) (I : MI) (L : ML) : Option (Int32 × MI) :=
  bd2 (f_X1_hoursSat a1 a2 (0 : Int32) I L) (fun r1 I2 => bd2 (lp (fun s => b_X1_bestMeals_14 a1 a2 L s.1 s.2.1 s.2.2.1 s.2.2.2) FU (((0 : Int32), r1, (1 : Int32), I2))) (fun y29 I30 => some (y29, I30)))
set_option maxHeartbeats 4000000 in
set_option maxRecDepth 100000 in
theorem c_X1_bestMeals (g : Gp) (l : Launch) {a1 : Nat} {a2 : Int32} (ha1 : kd a1 = 6) {I : MI} {L : ML} {r : Int32} {I' : MI} (h : f_X1_bestMeals a1 a2 I L = some (r, I')) : MetI g l yX1_bestMeals cX1_bestMeals 8 .int 5 [.ref (g.1 + 207), .ref (g.1 + a1), .int a2] I L r I' L := by
  unfold f_X1_bestMeals at h
  refine w_enter (by decide) (Nat.le_of_ble_eq_true rfl) (own := RX1) rfl ?_
  intro p e s m below meth c args Q hQ C hr hlocks hW ls hl
  have hl : lv_has ls 8 [(0, .ref (g.1 + 207)), (1, .ref (g.1 + a1)), (2, .int a2)] := hl
  refine lv_iconst (v := 0) C.1.1 C.1.2.1 dX1_bestMeals_0 (by decide) ?_
  refine lv_istore_n (lv' := [(3, .int (0 : Int32)), (0, .ref (g.1 + 207)), (1, .ref (g.1 + a1)), (2, .int a2)]) C.1.1 C.1.2.1 dX1_bestMeals_1 rfl hl (by decide) rfl (fun ls hl => ?_)
  refine lv_aload_n C.1.1 C.1.2.1 dX1_bestMeals_2 rfl (lv_at hl 1 rfl) ?_
  refine lv_aload_n C.1.1 C.1.2.1 dX1_bestMeals_3 rfl (lv_at hl 2 rfl) ?_
  refine lv_iload_n C.1.1 C.1.2.1 dX1_bestMeals_4 rfl (lv_at hl 3 rfl) ?_
  refine lv_iconst (v := 0) C.1.1 C.1.2.1 dX1_bestMeals_5 (by decide) ?_
  obtain ⟨r1, I2, hc3, h⟩ := bd2_some h
  refine w_callVi (k := 3) (As := [.ref (g.1 + a1), .int a2, .int (0 : Int32)]) (rest := []) C hW (c_X1_hoursSat g l ha1 hc3) (by decide) rfl (EX_1 (by decide)) K_X1_102 (by decide +kernel) ⟨by decide, by decide⟩ ⟨Nat.le_refl _, Nat.le_refl _⟩ rfl hl.1 rfl (Nat.le_of_ble_eq_true rfl) dX1_bestMeals_6 (fun H locs hW => ?_)
  refine lv_istore (lv' := [(4, .int r1), (3, .int (0 : Int32)), (0, .ref (g.1 + 207)), (1, .ref (g.1 + a1)), (2, .int a2)]) C.1.1 C.1.2.1 dX1_bestMeals_9 hl (by decide) rfl (fun ls hl => ?_)
  refine lv_iconst (v := 1) C.1.1 C.1.2.1 dX1_bestMeals_11 (by decide) ?_
  refine lv_istore (lv' := [(5, .int (1 : Int32)), (4, .int r1), (3, .int (0 : Int32)), (0, .ref (g.1 + 207)), (1, .ref (g.1 + a1)), (2, .int a2)]) C.1.1 C.1.2.1 dX1_bestMeals_12 hl (by decide) rfl (fun ls hl => ?_)
  obtain ⟨y29, I30, hq28, h⟩ := bd2_some h
  refine l_X1_bestMeals_14 C a1 a2 ha1 L _ _ _ _ _ _ _ hq28 _ _ _ hW (lv_sub hl [3, 4, 5, 2, 1, 0] rfl) (fun H locs ls hW hl => ?_)
  refine lv_iload_n C.1.1 C.1.2.1 dX1_bestMeals_98 rfl (lv_at hl 0 rfl) ?_
  obtain ⟨rfl, rfl⟩ := inj2 h
  subst hQ
  exact w_iret C hW hr hlocks dX1_bestMeals_99
def b_X1_wouldShow_24 (v2 : Int32) (v3 : Nat) (v4 : Int32) (v5 : Int32) (L : ML) (z6 : Int32) (I : MI) : Option ((Int32 × MI) ⊕ ((MI) ⊕ (MI))) :=
  (if v5 ≤ z6 then some (Sum.inr (Sum.inl I)) else bd1 (f_X1_isMeal z6 v2) (fun r7 => bd1 (f_X1_pass z6 r7 I L) (fun I9 => gi (v4 + z6) 24 ((if (lg_cmp (L (v3 + 1) (v4 + z6).toNatClampNeg) ((I9 211 5).toInt64)) = 0 then nm (z6 + (1 : Int32)) (fun x13 => some (Sum.inl (x13, I9))) else some (Sum.inr (Sum.inr I9)))))))
set_option maxHeartbeats 4000000 in
set_option maxRecDepth 100000 in
theorem l_X1_wouldShow_24 {g : Gp} {p : Program} {l : Launch} {e : Env} {s : State} {m : MethodId} {args : Array Value} {below : List Frame} {meth : Method} {c : Code} {Q : State → Prop}  (C : Cx g p s m args c RX1 cX1_wouldShow 7) (v2 : Int32) (v3 : Nat) (v4 : Int32) (v5 : Int32) (hv3 : kd v3 = 5) (L : ML) : ∀ (n : Nat) (z6 : Int32) (I : MI) (x : (MI) ⊕ (MI)), lp (fun s => b_X1_wouldShow_24 v2 v3 v4 v5 L s.1 s.2) n (z6, I) = some x → ∀ (H : Heap) (locs : List Loc) (ls : Array Slot), Ws g s I L H locs → lv_has ls 7 [(0, .ref (g.1 + 207)), (2, .int v2), (3, .ref (g.1 + v3)), (4, .int v4), (5, .int v5), (6, .int z6)] → (∀ (Iy0 : MI), x = (Sum.inl Iy0) → ∀ (H : Heap) (locs : List Loc) (ls : Array Slot), Ws g s Iy0 L H locs → lv_has ls 7 [] → W p l e (rmD 4) s m args below meth c H locs 0 0 Q (F0 m 73 ls [])) → (∀ (Iy1 : MI), x = (Sum.inr Iy1) → ∀ (H : Heap) (locs : List Loc) (ls : Array Slot), Ws g s Iy1 L H locs → lv_has ls 7 [] → W p l e (rmD 4) s m args below meth c H locs 0 0 Q (F0 m 65 ls [])) → W p l e (rmD 4) s m args below meth c H locs 0 0 Q (F0 m 24 ls []) := by
  intro n
  induction n with
  | zero => intro z6 I x h; exact lp_zero h
  | succ n ih =>
      intro z6 I x h H locs ls hW hl hx0 hx1
      obtain ⟨r9, h, h9⟩ := lp_some h
      have h : b_X1_wouldShow_24 v2 v3 v4 v5 L z6 I = some r9 := h
      unfold b_X1_wouldShow_24 at h
      refine lv_iload C.1.1 C.1.2.1 dX1_wouldShow_24 (lv_at hl 5 rfl) ?_
      refine lv_iload C.1.1 C.1.2.1 dX1_wouldShow_26 (lv_at hl 4 rfl) ?_
      refine lv_icmp_ge (tgt := 73) C.1.1 C.1.2.1 dX1_wouldShow_28 (by decide) (fun hc6 => ?_) (fun hc6 => ?_)
      · replace h := ite_t hc6 h
        obtain rfl := Option.some.inj h
        exact hx0 _ (Option.some.inj h9).symm _ _ _ hW (lv_sub hl [] rfl)
      · replace h := ite_f hc6 h
        refine lv_aload_n C.1.1 C.1.2.1 dX1_wouldShow_31 rfl (lv_at hl 0 rfl) ?_
        refine lv_iload C.1.1 C.1.2.1 dX1_wouldShow_32 (lv_at hl 5 rfl) ?_
        refine lv_iload C.1.1 C.1.2.1 dX1_wouldShow_34 (lv_at hl 5 rfl) ?_
        refine lv_iload_n C.1.1 C.1.2.1 dX1_wouldShow_36 rfl (lv_at hl 1 rfl) ?_
        obtain ⟨r7, hc8, h⟩ := bd1_some h
        refine w_callSi (k := 2) (As := [.int z6, .int v2]) (rest := [.int z6, .ref (g.1 + 207)]) C hW (c_X1_isMeal g l  hc8 I L) K_X1_96 (by decide +kernel) ⟨by decide, by decide⟩ ⟨Nat.le_refl _, Nat.le_refl _⟩ rfl hl.1 rfl (Nat.le_of_ble_eq_true rfl) dX1_wouldShow_37 (fun H locs hW => ?_)
        obtain ⟨I9, hc10, h⟩ := bd1_some h
        refine w_callVv (k := 2) (As := [.int z6, .int r7]) (rest := []) C hW (c_X1_pass g l  hc10) (by decide) rfl (EX_1 (by decide)) K_X1_68 (by decide +kernel) ⟨by decide, by decide⟩ ⟨Nat.le_refl _, Nat.le_refl _⟩ rfl hl.1 rfl (Nat.le_of_ble_eq_true rfl) dX1_wouldShow_40 (fun H locs hW => ?_)
        refine lv_aload_n C.1.1 C.1.2.1 dX1_wouldShow_43 rfl (lv_at hl 2 rfl) ?_
        refine G_X1_131 C hW hv3 dX1_wouldShow_44 ?_
        refine lv_iload C.1.1 C.1.2.1 dX1_wouldShow_47 (lv_at hl 3 rfl) ?_
        refine lv_iload C.1.1 C.1.2.1 dX1_wouldShow_49 (lv_at hl 5 rfl) ?_
        refine lv_iadd C.1.1 C.1.2.1 dX1_wouldShow_51 ?_
        obtain ⟨hi11, h⟩ := gi_some h
        refine w_lald C hW (n := 24) (kd_it hv3) (ln_it hv3) hi11 dX1_wouldShow_52 ?_
        refine lv_aload_n C.1.1 C.1.2.1 dX1_wouldShow_53 rfl (lv_at hl 0 rfl) ?_
        refine G_X1_25 C hW (by decide) dX1_wouldShow_54 ?_
        refine G_X1_72 C hW (by decide) dX1_wouldShow_57 ?_
        refine lv_i2l C.1.1 C.1.2.1 dX1_wouldShow_60 rfl ?_
        refine W.lcmp C.1.1 C.1.2.1 dX1_wouldShow_61 ?_
        refine lv_if_eq (tgt := 67) C.1.1 C.1.2.1 dX1_wouldShow_62 (by decide) (fun hc12 => ?_) (fun hc12 => ?_)
        · replace h := ite_t hc12 h
          obtain ⟨x13, ex13⟩ : ∃ y : Int32, y = z6 + (1 : Int32) := ⟨_, rfl⟩
          replace h := nm_at ex13 h
          refine lv_iinc (v := x13) (lv' := [(6, .int x13), (0, .ref (g.1 + 207)), (2, .int v2), (3, .ref (g.1 + v3)), (4, .int v4), (5, .int v5)]) C.1.1 C.1.2.1 dX1_wouldShow_67 hl (k := 5) rfl (by rw [ex13]; rfl) (by decide) rfl (fun ls hl => ?_)
          clear ex13
          refine lv_goto (tgt := 24) C.1.1 C.1.2.1 dX1_wouldShow_70 (by decide) ?_
          obtain rfl := Option.some.inj h
          exact ih _ _ _ h9 _ _ _ hW (lv_sub hl [1, 2, 3, 4, 5, 0] rfl) hx0 hx1
        · replace h := ite_f hc12 h
          obtain rfl := Option.some.inj h
          exact hx1 _ (Option.some.inj h9).symm _ _ _ hW (lv_sub hl [] rfl)
def f_X1_wouldShow (a1 : Nat) (a2 : Int32) (a3 : Nat) (a4 : Int32) (a5 : Int32) (I : MI) (L : ML) : Option (Int32 × MI) :=
  bd1 (f_X5_holds a3 a4 a5 I L) (fun r1 => (if r1 = 0 then some (((0 : Int32), I)) else bd1 (f_X6_takeFrom 211 a1 I L) (fun I4 => bd1 (lp (fun s => b_X1_wouldShow_24 a2 a3 a4 a5 L s.1 s.2) FU (((0 : Int32), I4))) (fun x15 => Sum.elim (fun t18 => some (((1 : Int32), t18))) (fun t21 => some (((0 : Int32), t21))) x15))))
set_option maxHeartbeats 4000000 in
set_option maxRecDepth 100000 in
theorem c_X1_wouldShow (g : Gp) (l : Launch) {a1 : Nat} {a2 : Int32} {a3 : Nat} {a4 : Int32} {a5 : Int32} (ha1 : kd a1 = 6) (ha3 : kd a3 = 5) {I : MI} {L : ML} {r : Int32} {I' : MI} (h : f_X1_wouldShow a1 a2 a3 a4 a5 I L = some (r, I')) : MetI g l yX1_wouldShow cX1_wouldShow 7 .boolean 4 [.ref (g.1 + 207), .ref (g.1 + a1), .int a2, .ref (g.1 + a3), .int a4, .int a5] I L r I' L := by
  unfold f_X1_wouldShow at h
  refine w_enter (by decide) (Nat.le_of_ble_eq_true rfl) (own := RX1) rfl ?_
  intro p e s m below meth c args Q hQ C hr hlocks hW ls hl
  have hl : lv_has ls 7 [(0, .ref (g.1 + 207)), (1, .ref (g.1 + a1)), (2, .int a2), (3, .ref (g.1 + a3)), (4, .int a4), (5, .int a5)] := hl
  refine lv_aload_n C.1.1 C.1.2.1 dX1_wouldShow_0 rfl (lv_at hl 3 rfl) ?_
  refine lv_iload C.1.1 C.1.2.1 dX1_wouldShow_1 (lv_at hl 4 rfl) ?_
  refine lv_iload C.1.1 C.1.2.1 dX1_wouldShow_3 (lv_at hl 5 rfl) ?_
  obtain ⟨r1, hc2, h⟩ := bd1_some h
  refine w_callVi (k := 2) (As := [.int a4, .int a5]) (rest := []) C hW (c_X5_holds g l ha3 hc2) ha3 rfl (EX_5 ha3) K_X1_128 (by decide +kernel) ⟨by decide, by decide⟩ ⟨Nat.le_refl _, Nat.le_refl _⟩ rfl hl.1 rfl (Nat.le_of_ble_eq_true rfl) dX1_wouldShow_5 (fun H locs hW => ?_)
  refine lv_if_ne (tgt := 13) C.1.1 C.1.2.1 dX1_wouldShow_8 (by decide) (fun hc3 => ?_) (fun hc3 => ?_)
  · replace h := ite_f hc3 h
    refine lv_aload_n C.1.1 C.1.2.1 dX1_wouldShow_13 rfl (lv_at hl 0 rfl) ?_
    refine G_X1_25 C hW (by decide) dX1_wouldShow_14 ?_
    refine lv_aload_n C.1.1 C.1.2.1 dX1_wouldShow_17 rfl (lv_at hl 1 rfl) ?_
    obtain ⟨I4, hc5, h⟩ := bd1_some h
    refine w_callVv (k := 1) (As := [.ref (g.1 + a1)]) (rest := []) C hW (c_X6_takeFrom g l (by decide) ha1 hc5) (by decide) rfl (EX_6 (by decide)) K_X1_64 (by decide +kernel) ⟨by decide, by decide⟩ ⟨Nat.le_refl _, Nat.le_refl _⟩ rfl hl.1 rfl (Nat.le_of_ble_eq_true rfl) dX1_wouldShow_18 (fun H locs hW => ?_)
    refine lv_iconst (v := 0) C.1.1 C.1.2.1 dX1_wouldShow_21 (by decide) ?_
    refine lv_istore (lv' := [(6, .int (0 : Int32)), (0, .ref (g.1 + 207)), (1, .ref (g.1 + a1)), (2, .int a2), (3, .ref (g.1 + a3)), (4, .int a4), (5, .int a5)]) C.1.1 C.1.2.1 dX1_wouldShow_22 hl (by decide) rfl (fun ls hl => ?_)
    obtain ⟨x15, hq14, h⟩ := bd1_some h
    refine l_X1_wouldShow_24 C a2 a3 a4 a5 ha3 L _ _ _ _ hq14 _ _ _ hW (lv_sub hl [1, 3, 4, 5, 6, 0] rfl) ?_ ?_
    · intro I16 ex17 H locs ls hW hl
      subst ex17
      simp only [Sum.elim_inl, Sum.elim_inr] at h
      refine lv_iconst (v := 1) C.1.1 C.1.2.1 dX1_wouldShow_73 (by decide) ?_
      obtain ⟨rfl, rfl⟩ := inj2 h
      subst hQ
      exact w_zret C hW hr hlocks (by decide) dX1_wouldShow_74
    · intro I19 ex20 H locs ls hW hl
      subst ex20
      simp only [Sum.elim_inl, Sum.elim_inr] at h
      refine lv_iconst (v := 0) C.1.1 C.1.2.1 dX1_wouldShow_65 (by decide) ?_
      obtain ⟨rfl, rfl⟩ := inj2 h
      subst hQ
      exact w_zret C hW hr hlocks (by decide) dX1_wouldShow_66
  · replace h := ite_t hc3 h
    refine lv_iconst (v := 0) C.1.1 C.1.2.1 dX1_wouldShow_11 (by decide) ?_
    obtain ⟨rfl, rfl⟩ := inj2 h
    subst hQ
    exact w_zret C hW hr hlocks (by decide) dX1_wouldShow_12
def b_X1_findMeals_14 (v1 : Nat) (v2 : Nat) (v3 : Int32) (v4 : Int32) (L : ML) (z5 : Int32) (I : MI) : Option ((Int32 × MI) ⊕ ((MI))) :=
  (if ((1 : Int32) <<< (v4 &&& (31 : Int32))) ≤ z5 then some (Sum.inr I) else bd1 (f_J6_bitCount_0f7a4 z5) (fun r4 => bd1 ((if (I v1 6) < r4 then some I else bd2 (f_X1_wouldShow v1 z5 v2 v3 v4 I L) (fun r11 I12 => (if r11 = 0 then some I12 else bd1 ((if (I12 207 3) = 0 then nm (up2 I12 207 4 z5) (fun I20 => some I20) else some I12)) (fun I15 => nm (up2 I15 207 3 ((I15 207 3) + (1 : Int32))) (fun I18 => some I18)))))) (fun I6 => nm (z5 + (1 : Int32)) (fun x9 => some (Sum.inl (x9, I6))))))
set_option maxHeartbeats 4000000 in
set_option maxRecDepth 100000 in
theorem l_X1_findMeals_14 {g : Gp} {p : Program} {l : Launch} {e : Env} {s : State} {m : MethodId} {args : Array Value} {below : List Frame} {meth : Method} {c : Code} {Q : State → Prop}  (C : Cx g p s m args c RX1 cX1_findMeals 6) (v1 : Nat) (v2 : Nat) (v3 : Int32) (v4 : Int32) (hv1 : kd v1 = 6) (hv2 : kd v2 = 5) (L : ML) : ∀ (n : Nat) (z5 : Int32) (I : MI) (Iy0 : MI), lp (fun s => b_X1_findMeals_14 v1 v2 v3 v4 L s.1 s.2) n (z5, I) = some Iy0 → ∀ (H : Heap) (locs : List Loc) (ls : Array Slot), Ws g s I L H locs → lv_has ls 6 [(0, .ref (g.1 + 207)), (1, .ref (g.1 + v1)), (2, .ref (g.1 + v2)), (3, .int v3), (4, .int v4), (5, .int z5)] → (∀ (H : Heap) (locs : List Loc) (ls : Array Slot), Ws g s Iy0 L H locs → lv_has ls 6 [] → W p l e (rmD 5) s m args below meth c H locs 0 0 Q (F0 m 81 ls [])) → W p l e (rmD 5) s m args below meth c H locs 0 0 Q (F0 m 14 ls []) := by
  intro n
  induction n with
  | zero => intro z5 I Iy0 h; exact lp_zero h
  | succ n ih =>
      intro z5 I Iy0 h H locs ls hW hl hx0
      obtain ⟨r9, h, h9⟩ := lp_some h
      have h : b_X1_findMeals_14 v1 v2 v3 v4 L z5 I = some r9 := h
      unfold b_X1_findMeals_14 at h
      refine lv_iload C.1.1 C.1.2.1 dX1_findMeals_14 (lv_at hl 5 rfl) ?_
      refine lv_iconst (v := 1) C.1.1 C.1.2.1 dX1_findMeals_16 (by decide) ?_
      refine lv_iload C.1.1 C.1.2.1 dX1_findMeals_17 (lv_at hl 4 rfl) ?_
      refine lv_ishl C.1.1 C.1.2.1 dX1_findMeals_19 ?_
      refine lv_icmp_ge (tgt := 81) C.1.1 C.1.2.1 dX1_findMeals_20 (by decide) (fun hc3 => ?_) (fun hc3 => ?_)
      · replace h := ite_t hc3 h
        obtain rfl := Option.some.inj h
        replace h9 := Option.some.inj h9
        obtain rfl := pnj1 h9
        exact hx0 _ _ _ hW (lv_sub hl [] rfl)
      · replace h := ite_f hc3 h
        refine lv_iload C.1.1 C.1.2.1 dX1_findMeals_23 (lv_at hl 5 rfl) ?_
        obtain ⟨r4, hc5, h⟩ := bd1_some h
        refine w_callSi (k := 1) (As := [.int z5]) (rest := []) C hW (c_J6_bitCount_0f7a4 g l  hc5 I L) K_X1_112 (by decide +kernel) ⟨by decide, by decide⟩ ⟨Nat.le_refl _, Nat.le_refl _⟩ rfl hl.1 rfl (Nat.le_of_ble_eq_true rfl) dX1_findMeals_25 (fun H locs hW => ?_)
        refine lv_aload_n C.1.1 C.1.2.1 dX1_findMeals_28 rfl (lv_at hl 1 rfl) ?_
        refine G_X1_115 C hW hv1 dX1_findMeals_29 ?_
        obtain ⟨I6, hj8, h⟩ := bd1_some h
        have kJ7 : ∀ (H : Heap) (locs : List Loc) (ls : Array Slot), Ws g s I6 L H locs → lv_has ls 6 [(0, .ref (g.1 + 207)), (1, .ref (g.1 + v1)), (2, .ref (g.1 + v2)), (3, .int v3), (4, .int v4), (5, .int z5)] → W p l e (rmD 5) s m args below meth c H locs 0 0 Q (F0 m 75 ls []) := by
          intro H locs ls hW hl
          obtain ⟨x9, ex9⟩ : ∃ y : Int32, y = z5 + (1 : Int32) := ⟨_, rfl⟩
          replace h := nm_at ex9 h
          refine lv_iinc (v := x9) (lv' := [(5, .int x9), (0, .ref (g.1 + 207)), (1, .ref (g.1 + v1)), (2, .ref (g.1 + v2)), (3, .int v3), (4, .int v4)]) C.1.1 C.1.2.1 dX1_findMeals_75 hl (k := 5) rfl (by rw [ex9]; rfl) (by decide) rfl (fun ls hl => ?_)
          clear ex9
          refine lv_goto (tgt := 14) C.1.1 C.1.2.1 dX1_findMeals_78 (by decide) ?_
          obtain rfl := Option.some.inj h
          exact ih _ _ _ h9 _ _ _ hW (lv_sub hl [1, 2, 3, 4, 5, 0] rfl) hx0
        clear h
        have h := hj8
        clear hj8
        refine lv_icmp_gt (tgt := 75) C.1.1 C.1.2.1 dX1_findMeals_32 (by decide) (fun hc10 => ?_) (fun hc10 => ?_)
        · replace h := ite_t hc10 h
          obtain rfl := inj1 h
          exact kJ7 _ _ _ hW (lv_sub hl [0, 1, 2, 3, 4, 5] rfl)
        · replace h := ite_f hc10 h
          refine lv_aload_n C.1.1 C.1.2.1 dX1_findMeals_35 rfl (lv_at hl 0 rfl) ?_
          refine lv_aload_n C.1.1 C.1.2.1 dX1_findMeals_36 rfl (lv_at hl 1 rfl) ?_
          refine lv_iload C.1.1 C.1.2.1 dX1_findMeals_37 (lv_at hl 5 rfl) ?_
          refine lv_aload_n C.1.1 C.1.2.1 dX1_findMeals_39 rfl (lv_at hl 2 rfl) ?_
          refine lv_iload_n C.1.1 C.1.2.1 dX1_findMeals_40 rfl (lv_at hl 3 rfl) ?_
          refine lv_iload C.1.1 C.1.2.1 dX1_findMeals_41 (lv_at hl 4 rfl) ?_
          obtain ⟨r11, I12, hc13, h⟩ := bd2_some h
          refine w_callVi (k := 5) (As := [.ref (g.1 + v1), .int z5, .ref (g.1 + v2), .int v3, .int v4]) (rest := []) C hW (c_X1_wouldShow g l hv1 hv2 hc13) (by decide) rfl (EX_1 (by decide)) K_X1_124 (by decide +kernel) ⟨by decide, by decide⟩ ⟨Nat.le_refl _, Nat.le_refl _⟩ rfl hl.1 rfl (Nat.le_of_ble_eq_true rfl) dX1_findMeals_43 (fun H locs hW => ?_)
          refine lv_if_ne (tgt := 52) C.1.1 C.1.2.1 dX1_findMeals_46 (by decide) (fun hc14 => ?_) (fun hc14 => ?_)
          · replace h := ite_f hc14 h
            refine lv_aload_n C.1.1 C.1.2.1 dX1_findMeals_52 rfl (lv_at hl 0 rfl) ?_
            refine G_X1_118 C hW (by decide) dX1_findMeals_53 ?_
            obtain ⟨I15, hj17, h⟩ := bd1_some h
            have kJ16 : ∀ (H : Heap) (locs : List Loc) (ls : Array Slot), Ws g s I15 L H locs → lv_has ls 6 [(0, .ref (g.1 + 207)), (1, .ref (g.1 + v1)), (2, .ref (g.1 + v2)), (3, .int v3), (4, .int v4), (5, .int z5)] → W p l e (rmD 5) s m args below meth c H locs 0 0 Q (F0 m 65 ls []) := by
              intro H locs ls hW hl
              refine lv_aload_n C.1.1 C.1.2.1 dX1_findMeals_65 rfl (lv_at hl 0 rfl) ?_
              refine lv_dup C.1.1 C.1.2.1 dX1_findMeals_66 rfl ?_
              refine G_X1_118 C hW (by decide) dX1_findMeals_67 ?_
              refine lv_iconst (v := 1) C.1.1 C.1.2.1 dX1_findMeals_70 (by decide) ?_
              refine lv_iadd C.1.1 C.1.2.1 dX1_findMeals_71 ?_
              refine P_X1_118 C hW (by decide) dX1_findMeals_72 (fun H locs hW => ?_)
              obtain ⟨I18, eI18, h⟩ := nm_some h
              rw [← eI18] at hW
              clear eI18
              obtain rfl := inj1 h
              exact kJ7 _ _ _ hW (lv_sub hl [0, 1, 2, 3, 4, 5] rfl)
            clear h
            have h := hj17
            clear hj17
            refine lv_if_ne (tgt := 65) C.1.1 C.1.2.1 dX1_findMeals_56 (by decide) (fun hc19 => ?_) (fun hc19 => ?_)
            · replace h := ite_f hc19 h
              obtain rfl := inj1 h
              exact kJ16 _ _ _ hW (lv_sub hl [0, 1, 2, 3, 4, 5] rfl)
            · replace h := ite_t hc19 h
              refine lv_aload_n C.1.1 C.1.2.1 dX1_findMeals_59 rfl (lv_at hl 0 rfl) ?_
              refine lv_iload C.1.1 C.1.2.1 dX1_findMeals_60 (lv_at hl 5 rfl) ?_
              refine P_X1_121 C hW (by decide) dX1_findMeals_62 (fun H locs hW => ?_)
              obtain ⟨I20, eI20, h⟩ := nm_some h
              rw [← eI20] at hW
              clear eI20
              obtain rfl := inj1 h
              exact kJ16 _ _ _ hW (lv_sub hl [0, 1, 2, 3, 4, 5] rfl)
          · replace h := ite_t hc14 h
            refine lv_goto (tgt := 75) C.1.1 C.1.2.1 dX1_findMeals_49 (by decide) ?_
            obtain rfl := inj1 h
            exact kJ7 _ _ _ hW (lv_sub hl [0, 1, 2, 3, 4, 5] rfl)
def f_X1_findMeals (a1 : Nat) (a2 : Nat) (a3 : Int32) (a4 : Int32) (I : MI) (L : ML) : Option (MI) :=
  nm (up2 I 207 3 (0 : Int32)) (fun I1 => nm (up2 I1 207 4 (-4 : Int32)) (fun I2 => bd1 (lp (fun s => b_X1_findMeals_14 a1 a2 a3 a4 L s.1 s.2) FU (((0 : Int32), I2))) (fun I22 => some I22)))
set_option maxHeartbeats 4000000 in
set_option maxRecDepth 100000 in
theorem c_X1_findMeals (g : Gp) (l : Launch) {a1 : Nat} {a2 : Nat} {a3 : Int32} {a4 : Int32} (ha1 : kd a1 = 6) (ha2 : kd a2 = 5) {I : MI} {L : ML} {I' : MI} (h : f_X1_findMeals a1 a2 a3 a4 I L = some I') : MetV g l yX1_findMeals cX1_findMeals 6 5 [.ref (g.1 + 207), .ref (g.1 + a1), .ref (g.1 + a2), .int a3, .int a4] I L I' L := by
  unfold f_X1_findMeals at h
  refine w_enter (by decide) (Nat.le_of_ble_eq_true rfl) (own := RX1) rfl ?_
  intro p e s m below meth c args Q hQ C hr hlocks hW ls hl
  have hl : lv_has ls 6 [(0, .ref (g.1 + 207)), (1, .ref (g.1 + a1)), (2, .ref (g.1 + a2)), (3, .int a3), (4, .int a4)] := hl
  refine lv_aload_n C.1.1 C.1.2.1 dX1_findMeals_0 rfl (lv_at hl 0 rfl) ?_
  refine lv_iconst (v := 0) C.1.1 C.1.2.1 dX1_findMeals_1 (by decide) ?_
  refine P_X1_118 C hW (by decide) dX1_findMeals_2 (fun H locs hW => ?_)
  obtain ⟨I1, eI1, h⟩ := nm_some h
  rw [← eI1] at hW
  clear eI1
  refine lv_aload_n C.1.1 C.1.2.1 dX1_findMeals_5 rfl (lv_at hl 0 rfl) ?_
  refine lv_bipush (v := -4) C.1.1 C.1.2.1 dX1_findMeals_6 (by decide) ?_
  refine P_X1_121 C hW (by decide) dX1_findMeals_8 (fun H locs hW => ?_)
  obtain ⟨I2, eI2, h⟩ := nm_some h
  rw [← eI2] at hW
  clear eI2
  refine lv_iconst (v := 0) C.1.1 C.1.2.1 dX1_findMeals_11 (by decide) ?_
  refine lv_istore (lv' := [(5, .int (0 : Int32)), (0, .ref (g.1 + 207)), (1, .ref (g.1 + a1)), (2, .ref (g.1 + a2)), (3, .int a3), (4, .int a4)]) C.1.1 C.1.2.1 dX1_findMeals_12 hl (by decide) rfl (fun ls hl => ?_)
  obtain ⟨I22, hq21, h⟩ := bd1_some h
  refine l_X1_findMeals_14 C a1 a2 a3 a4 ha1 ha2 L _ _ _ _ hq21 _ _ _ hW (lv_sub hl [1, 2, 3, 4, 5, 0] rfl) (fun H locs ls hW hl => ?_)
  obtain rfl := inj1 h
  subst hQ
  exact w_vret C hW hr hlocks dX1_findMeals_81
def b_X1_lineToAdd_48 (v1 : Nat) (v2 : Int32) (L : ML) (z5 : Int32) (I : MI) : Option ((Int32 × MI) ⊕ ((MI))) :=
  (if v2 ≤ z5 then some (Sum.inr I) else bd1 (f_X1_pass z5 (0 : Int32) I L) (fun I7 => nm (z5 + (1 : Int32)) (fun x9 => some (Sum.inl (x9, I7)))))
set_option maxHeartbeats 4000000 in
set_option maxRecDepth 100000 in
theorem l_X1_lineToAdd_48 {g : Gp} {p : Program} {l : Launch} {e : Env} {s : State} {m : MethodId} {args : Array Value} {below : List Frame} {meth : Method} {c : Code} {Q : State → Prop}  (C : Cx g p s m args c RX1 cX1_lineToAdd 6) (v1 : Nat) (v2 : Int32) (hv1 : kd v1 = 6) (L : ML) : ∀ (n : Nat) (z5 : Int32) (I : MI) (Iy0 : MI), lp (fun s => b_X1_lineToAdd_48 v1 v2 L s.1 s.2) n (z5, I) = some Iy0 → ∀ (H : Heap) (locs : List Loc) (ls : Array Slot), Ws g s I L H locs → lv_has ls 6 [(0, .ref (g.1 + 207)), (1, .ref (g.1 + v1)), (2, .int v2), (5, .int z5)] → (∀ (H : Heap) (locs : List Loc) (ls : Array Slot), Ws g s Iy0 L H locs → lv_has ls 6 [(0, .ref (g.1 + 207)), (1, .ref (g.1 + v1))] → W p l e (rmD 4) s m args below meth c H locs 0 0 Q (F0 m 67 ls [])) → W p l e (rmD 4) s m args below meth c H locs 0 0 Q (F0 m 48 ls []) := by
  intro n
  induction n with
  | zero => intro z5 I Iy0 h; exact lp_zero h
  | succ n ih =>
      intro z5 I Iy0 h H locs ls hW hl hx0
      obtain ⟨r9, h, h9⟩ := lp_some h
      have h : b_X1_lineToAdd_48 v1 v2 L z5 I = some r9 := h
      unfold b_X1_lineToAdd_48 at h
      refine lv_iload C.1.1 C.1.2.1 dX1_lineToAdd_48 (lv_at hl 3 rfl) ?_
      refine lv_iload_n C.1.1 C.1.2.1 dX1_lineToAdd_50 rfl (lv_at hl 2 rfl) ?_
      refine lv_icmp_ge (tgt := 67) C.1.1 C.1.2.1 dX1_lineToAdd_51 (by decide) (fun hc6 => ?_) (fun hc6 => ?_)
      · replace h := ite_t hc6 h
        obtain rfl := Option.some.inj h
        replace h9 := Option.some.inj h9
        obtain rfl := pnj1 h9
        exact hx0 _ _ _ hW (lv_sub hl [0, 1] rfl)
      · replace h := ite_f hc6 h
        refine lv_aload_n C.1.1 C.1.2.1 dX1_lineToAdd_54 rfl (lv_at hl 0 rfl) ?_
        refine lv_iload C.1.1 C.1.2.1 dX1_lineToAdd_55 (lv_at hl 3 rfl) ?_
        refine lv_iconst (v := 0) C.1.1 C.1.2.1 dX1_lineToAdd_57 (by decide) ?_
        obtain ⟨I7, hc8, h⟩ := bd1_some h
        refine w_callVv (k := 2) (As := [.int z5, .int (0 : Int32)]) (rest := []) C hW (c_X1_pass g l  hc8) (by decide) rfl (EX_1 (by decide)) K_X1_68 (by decide +kernel) ⟨by decide, by decide⟩ ⟨Nat.le_refl _, Nat.le_refl _⟩ rfl hl.1 rfl (Nat.le_of_ble_eq_true rfl) dX1_lineToAdd_58 (fun H locs hW => ?_)
        obtain ⟨x9, ex9⟩ : ∃ y : Int32, y = z5 + (1 : Int32) := ⟨_, rfl⟩
        replace h := nm_at ex9 h
        refine lv_iinc (v := x9) (lv' := [(5, .int x9), (0, .ref (g.1 + 207)), (1, .ref (g.1 + v1)), (2, .int v2)]) C.1.1 C.1.2.1 dX1_lineToAdd_61 hl (k := 3) rfl (by rw [ex9]; rfl) (by decide) rfl (fun ls hl => ?_)
        clear ex9
        refine lv_goto (tgt := 48) C.1.1 C.1.2.1 dX1_lineToAdd_64 (by decide) ?_
        obtain rfl := Option.some.inj h
        exact ih _ _ _ h9 _ _ _ hW (lv_sub hl [1, 2, 3, 0] rfl) hx0
def f_X1_lineToAdd (a1 : Nat) (a2 : Int32) (a3 : Int32) (a4 : Int32) (I : MI) (L : ML) : Option (Int32 × MI) :=
  bd1 (f_X6_takeFrom 211 a1 I L) (fun I1 => nm (up2 I1 211 1 (1000 : Int32)) (fun I3 => nm (up2 I3 211 2 ((I3 211 2) - a3)) (fun I4 => nm (up2 I4 211 3 ((I4 211 3) - a4)) (fun I5 => bd1 (lp (fun s => b_X1_lineToAdd_48 a1 a2 L s.1 s.2) FU (((0 : Int32), I5))) (fun I11 => some ((mmax (0 : Int32) (((I11 211 5) + (1 : Int32)) - (I11 a1 1)), I11)))))))
set_option maxHeartbeats 4000000 in
set_option maxRecDepth 100000 in
theorem c_X1_lineToAdd (g : Gp) (l : Launch) {a1 : Nat} {a2 : Int32} {a3 : Int32} {a4 : Int32} (ha1 : kd a1 = 6) {I : MI} {L : ML} {r : Int32} {I' : MI} (h : f_X1_lineToAdd a1 a2 a3 a4 I L = some (r, I')) : MetI g l yX1_lineToAdd cX1_lineToAdd 6 .int 4 [.ref (g.1 + 207), .ref (g.1 + a1), .int a2, .int a3, .int a4] I L r I' L := by
  unfold f_X1_lineToAdd at h
  refine w_enter (by decide) (Nat.le_of_ble_eq_true rfl) (own := RX1) rfl ?_
  intro p e s m below meth c args Q hQ C hr hlocks hW ls hl
  have hl : lv_has ls 6 [(0, .ref (g.1 + 207)), (1, .ref (g.1 + a1)), (2, .int a2), (3, .int a3), (4, .int a4)] := hl
  refine lv_aload_n C.1.1 C.1.2.1 dX1_lineToAdd_0 rfl (lv_at hl 0 rfl) ?_
  refine G_X1_25 C hW (by decide) dX1_lineToAdd_1 ?_
  refine lv_aload_n C.1.1 C.1.2.1 dX1_lineToAdd_4 rfl (lv_at hl 1 rfl) ?_
  obtain ⟨I1, hc2, h⟩ := bd1_some h
  refine w_callVv (k := 1) (As := [.ref (g.1 + a1)]) (rest := []) C hW (c_X6_takeFrom g l (by decide) ha1 hc2) (by decide) rfl (EX_6 (by decide)) K_X1_64 (by decide +kernel) ⟨by decide, by decide⟩ ⟨Nat.le_refl _, Nat.le_refl _⟩ rfl hl.1 rfl (Nat.le_of_ble_eq_true rfl) dX1_lineToAdd_5 (fun H locs hW => ?_)
  refine lv_aload_n C.1.1 C.1.2.1 dX1_lineToAdd_8 rfl (lv_at hl 0 rfl) ?_
  refine G_X1_25 C hW (by decide) dX1_lineToAdd_9 ?_
  refine lv_sipush (v := 1000) C.1.1 C.1.2.1 dX1_lineToAdd_12 (by decide) ?_
  refine P_X1_135 C hW (by decide) dX1_lineToAdd_15 (fun H locs hW => ?_)
  obtain ⟨I3, eI3, h⟩ := nm_some h
  rw [← eI3] at hW
  clear eI3
  refine lv_aload_n C.1.1 C.1.2.1 dX1_lineToAdd_18 rfl (lv_at hl 0 rfl) ?_
  refine G_X1_25 C hW (by decide) dX1_lineToAdd_19 ?_
  refine lv_dup C.1.1 C.1.2.1 dX1_lineToAdd_22 rfl ?_
  refine G_X1_143 C hW (by decide) dX1_lineToAdd_23 ?_
  refine lv_iload_n C.1.1 C.1.2.1 dX1_lineToAdd_26 rfl (lv_at hl 3 rfl) ?_
  refine lv_isub C.1.1 C.1.2.1 dX1_lineToAdd_27 ?_
  refine P_X1_143 C hW (by decide) dX1_lineToAdd_28 (fun H locs hW => ?_)
  obtain ⟨I4, eI4, h⟩ := nm_some h
  rw [← eI4] at hW
  clear eI4
  refine lv_aload_n C.1.1 C.1.2.1 dX1_lineToAdd_31 rfl (lv_at hl 0 rfl) ?_
  refine G_X1_25 C hW (by decide) dX1_lineToAdd_32 ?_
  refine lv_dup C.1.1 C.1.2.1 dX1_lineToAdd_35 rfl ?_
  refine G_X1_146 C hW (by decide) dX1_lineToAdd_36 ?_
  refine lv_iload C.1.1 C.1.2.1 dX1_lineToAdd_39 (lv_at hl 4 rfl) ?_
  refine lv_isub C.1.1 C.1.2.1 dX1_lineToAdd_41 ?_
  refine P_X1_146 C hW (by decide) dX1_lineToAdd_42 (fun H locs hW => ?_)
  obtain ⟨I5, eI5, h⟩ := nm_some h
  rw [← eI5] at hW
  clear eI5
  refine lv_iconst (v := 0) C.1.1 C.1.2.1 dX1_lineToAdd_45 (by decide) ?_
  refine lv_istore (lv' := [(5, .int (0 : Int32)), (0, .ref (g.1 + 207)), (1, .ref (g.1 + a1)), (2, .int a2), (3, .int a3), (4, .int a4)]) C.1.1 C.1.2.1 dX1_lineToAdd_46 hl (by decide) rfl (fun ls hl => ?_)
  obtain ⟨I11, hq10, h⟩ := bd1_some h
  refine l_X1_lineToAdd_48 C a1 a2 ha1 L _ _ _ _ hq10 _ _ _ hW (lv_sub hl [1, 2, 3, 0] rfl) (fun H locs ls hW hl => ?_)
  refine lv_iconst (v := 0) C.1.1 C.1.2.1 dX1_lineToAdd_67 (by decide) ?_
  refine lv_aload_n C.1.1 C.1.2.1 dX1_lineToAdd_68 rfl (lv_at hl 0 rfl) ?_
  refine G_X1_25 C hW (by decide) dX1_lineToAdd_69 ?_
  refine G_X1_72 C hW (by decide) dX1_lineToAdd_72 ?_
  refine lv_iconst (v := 1) C.1.1 C.1.2.1 dX1_lineToAdd_75 (by decide) ?_
  refine lv_iadd C.1.1 C.1.2.1 dX1_lineToAdd_76 ?_
  refine lv_aload_n C.1.1 C.1.2.1 dX1_lineToAdd_77 rfl (lv_at hl 1 rfl) ?_
  refine G_X1_135 C hW ha1 dX1_lineToAdd_78 ?_
  refine lv_isub C.1.1 C.1.2.1 dX1_lineToAdd_81 ?_
  refine M_X1_156 (rest := []) C hl.1 ⟨by decide, Nat.le_of_ble_eq_true rfl⟩ ⟨Nat.le_refl _, Nat.le_refl _⟩ dX1_lineToAdd_82 ?_
  obtain ⟨rfl, rfl⟩ := inj2 h
  subst hQ
  exact w_iret C hW hr hlocks dX1_lineToAdd_85
def f_X1_isBetter (a1 : Int32) (a2 : Int32) (a3 : Int32) (I : MI) (L : ML) : Option (Int32) :=
  gi (0 : Int32) 4 ((if a1 = (I 210 (0 : Int32).toNatClampNeg) then gi (1 : Int32) 4 (bd1 ((if a2 = (I 210 (1 : Int32).toNatClampNeg) then gi (2 : Int32) 4 ((if (I 210 (2 : Int32).toNatClampNeg) ≤ a3 then some (0 : Int32) else some (1 : Int32))) else gi (1 : Int32) 4 ((if (I 210 (1 : Int32).toNatClampNeg) ≤ a2 then some (0 : Int32) else some (1 : Int32))))) (fun y4 => gd (y4 = 0 ∨ y4 = 1) (some y4))) else gi (0 : Int32) 4 (bd1 ((if (I 210 (0 : Int32).toNatClampNeg) ≤ a1 then some (0 : Int32) else some (1 : Int32))) (fun y14 => gd (y14 = 0 ∨ y14 = 1) (some y14)))))
set_option maxHeartbeats 4000000 in
set_option maxRecDepth 100000 in
theorem c_X1_isBetter (g : Gp) (l : Launch) {a1 : Int32} {a2 : Int32} {a3 : Int32}  {I : MI} {L : ML} {r : Int32} (h : f_X1_isBetter a1 a2 a3 I L = some r) : MetI g l yX1_isBetter cX1_isBetter 4 .boolean 0 [.ref (g.1 + 207), .int a1, .int a2, .int a3] I L r I L := by
  unfold f_X1_isBetter at h
  refine w_enter (by decide) (Nat.le_of_ble_eq_true rfl) (own := RX1) rfl ?_
  intro p e s m below meth c args Q hQ C hr hlocks hW ls hl
  have hl : lv_has ls 4 [(0, .ref (g.1 + 207)), (1, .int a1), (2, .int a2), (3, .int a3)] := hl
  refine lv_iload_n C.1.1 C.1.2.1 dX1_isBetter_0 rfl (lv_at hl 1 rfl) ?_
  refine lv_aload_n C.1.1 C.1.2.1 dX1_isBetter_1 rfl (lv_at hl 0 rfl) ?_
  refine G_X1_19 C hW (by decide) dX1_isBetter_2 ?_
  refine lv_iconst (v := 0) C.1.1 C.1.2.1 dX1_isBetter_5 (by decide) ?_
  obtain ⟨hi1, h⟩ := gi_some h
  refine w_iald C hW (n := 4) (by decide) (by decide) hi1 dX1_isBetter_6 ?_
  refine lv_icmp_eq (tgt := 26) C.1.1 C.1.2.1 dX1_isBetter_7 (by decide) (fun hc2 => ?_) (fun hc2 => ?_)
  · replace h := ite_t hc2 h
    refine lv_iload_n C.1.1 C.1.2.1 dX1_isBetter_26 rfl (lv_at hl 2 rfl) ?_
    refine lv_aload_n C.1.1 C.1.2.1 dX1_isBetter_27 rfl (lv_at hl 0 rfl) ?_
    refine G_X1_19 C hW (by decide) dX1_isBetter_28 ?_
    refine lv_iconst (v := 1) C.1.1 C.1.2.1 dX1_isBetter_31 (by decide) ?_
    obtain ⟨hi3, h⟩ := gi_some h
    refine w_iald C hW (n := 4) (by decide) (by decide) hi3 dX1_isBetter_32 ?_
    obtain ⟨y4, hj6, h⟩ := bd1_some h
    have kJ5 : ∀ (H : Heap) (locs : List Loc) (ls : Array Slot), Ws g s I L H locs → lv_has ls 4 [] → W p l e (rmD 0) s m args below meth c H locs 0 0 Q (F0 m 69 ls [.int y4]) := by
      intro H locs ls hW hl
      obtain ⟨hb7, h⟩ := gd_some h
      obtain rfl := inj1 h
      subst hQ
      exact w_zret C hW hr hlocks hb7 dX1_isBetter_69
    clear h
    have h := hj6
    clear hj6
    refine lv_icmp_eq (tgt := 54) C.1.1 C.1.2.1 dX1_isBetter_33 (by decide) (fun hc8 => ?_) (fun hc8 => ?_)
    · replace h := ite_t hc8 h
      refine lv_iload_n C.1.1 C.1.2.1 dX1_isBetter_54 rfl (lv_at hl 3 rfl) ?_
      refine lv_aload_n C.1.1 C.1.2.1 dX1_isBetter_55 rfl (lv_at hl 0 rfl) ?_
      refine G_X1_19 C hW (by decide) dX1_isBetter_56 ?_
      refine lv_iconst (v := 2) C.1.1 C.1.2.1 dX1_isBetter_59 (by decide) ?_
      obtain ⟨hi9, h⟩ := gi_some h
      refine w_iald C hW (n := 4) (by decide) (by decide) hi9 dX1_isBetter_60 ?_
      refine lv_icmp_ge (tgt := 68) C.1.1 C.1.2.1 dX1_isBetter_61 (by decide) (fun hc10 => ?_) (fun hc10 => ?_)
      · replace h := ite_t hc10 h
        refine lv_iconst (v := 0) C.1.1 C.1.2.1 dX1_isBetter_68 (by decide) ?_
        obtain rfl := inj1 h
        exact kJ5 _ _ _ hW (lv_sub hl [] rfl)
      · replace h := ite_f hc10 h
        refine lv_iconst (v := 1) C.1.1 C.1.2.1 dX1_isBetter_64 (by decide) ?_
        refine lv_goto (tgt := 69) C.1.1 C.1.2.1 dX1_isBetter_65 (by decide) ?_
        obtain rfl := inj1 h
        exact kJ5 _ _ _ hW (lv_sub hl [] rfl)
    · replace h := ite_f hc8 h
      refine lv_iload_n C.1.1 C.1.2.1 dX1_isBetter_36 rfl (lv_at hl 2 rfl) ?_
      refine lv_aload_n C.1.1 C.1.2.1 dX1_isBetter_37 rfl (lv_at hl 0 rfl) ?_
      refine G_X1_19 C hW (by decide) dX1_isBetter_38 ?_
      refine lv_iconst (v := 1) C.1.1 C.1.2.1 dX1_isBetter_41 (by decide) ?_
      obtain ⟨hi11, h⟩ := gi_some h
      refine w_iald C hW (n := 4) (by decide) (by decide) hi11 dX1_isBetter_42 ?_
      refine lv_icmp_ge (tgt := 50) C.1.1 C.1.2.1 dX1_isBetter_43 (by decide) (fun hc12 => ?_) (fun hc12 => ?_)
      · replace h := ite_t hc12 h
        refine lv_iconst (v := 0) C.1.1 C.1.2.1 dX1_isBetter_50 (by decide) ?_
        refine lv_goto (tgt := 69) C.1.1 C.1.2.1 dX1_isBetter_51 (by decide) ?_
        obtain rfl := inj1 h
        exact kJ5 _ _ _ hW (lv_sub hl [] rfl)
      · replace h := ite_f hc12 h
        refine lv_iconst (v := 1) C.1.1 C.1.2.1 dX1_isBetter_46 (by decide) ?_
        refine lv_goto (tgt := 69) C.1.1 C.1.2.1 dX1_isBetter_47 (by decide) ?_
        obtain rfl := inj1 h
        exact kJ5 _ _ _ hW (lv_sub hl [] rfl)
  · replace h := ite_f hc2 h
    refine lv_iload_n C.1.1 C.1.2.1 dX1_isBetter_10 rfl (lv_at hl 1 rfl) ?_
    refine lv_aload_n C.1.1 C.1.2.1 dX1_isBetter_11 rfl (lv_at hl 0 rfl) ?_
    refine G_X1_19 C hW (by decide) dX1_isBetter_12 ?_
    refine lv_iconst (v := 0) C.1.1 C.1.2.1 dX1_isBetter_15 (by decide) ?_
    obtain ⟨hi13, h⟩ := gi_some h
    refine w_iald C hW (n := 4) (by decide) (by decide) hi13 dX1_isBetter_16 ?_
    obtain ⟨y14, hj16, h⟩ := bd1_some h
    have kJ15 : ∀ (H : Heap) (locs : List Loc) (ls : Array Slot), Ws g s I L H locs → lv_has ls 4 [] → W p l e (rmD 0) s m args below meth c H locs 0 0 Q (F0 m 25 ls [.int y14]) := by
      intro H locs ls hW hl
      obtain ⟨hb17, h⟩ := gd_some h
      obtain rfl := inj1 h
      subst hQ
      exact w_zret C hW hr hlocks hb17 dX1_isBetter_25
    clear h
    have h := hj16
    clear hj16
    refine lv_icmp_ge (tgt := 24) C.1.1 C.1.2.1 dX1_isBetter_17 (by decide) (fun hc18 => ?_) (fun hc18 => ?_)
    · replace h := ite_t hc18 h
      refine lv_iconst (v := 0) C.1.1 C.1.2.1 dX1_isBetter_24 (by decide) ?_
      obtain rfl := inj1 h
      exact kJ15 _ _ _ hW (lv_sub hl [] rfl)
    · replace h := ite_f hc18 h
      refine lv_iconst (v := 1) C.1.1 C.1.2.1 dX1_isBetter_20 (by decide) ?_
      refine lv_goto (tgt := 25) C.1.1 C.1.2.1 dX1_isBetter_21 (by decide) ?_
      obtain rfl := inj1 h
      exact kJ15 _ _ _ hW (lv_sub hl [] rfl)
def b_X1_findTraining_31 (v1 : Nat) (v2 : Int32) (v4 : Int32) (v5 : Int32) (L : ML) (z3 : Int32) (z6 : Int32) (I : MI) : Option ((Int32 × Int32 × MI) ⊕ ((Int32 × MI))) :=
  (if (I v1 3) < z6 then some (Sum.inr (z3, I)) else bd2 (f_X1_lineToAdd v1 v2 v5 z6 I L) (fun r4 I5 => nm ((((2 : Int32) * r4) + ((5 : Int32) * v5)) + ((3 : Int32) * z6)) (fun x7 => bd2 ((if v4 < r4 then some (z3, I5) else (if z3 = 0 then gi (0 : Int32) 4 (nm (up2 I5 210 ((0 : Int32).toNatClampNeg) x7) (fun I16 => gi (1 : Int32) 4 (nm (up2 I16 210 ((1 : Int32).toNatClampNeg) r4) (fun I18 => gi (2 : Int32) 4 (nm (up2 I18 210 ((2 : Int32).toNatClampNeg) v5) (fun I20 => gi (3 : Int32) 4 (nm (up2 I20 210 ((3 : Int32).toNatClampNeg) z6) (fun I22 => some (((1 : Int32), I22)))))))))) else bd1 (f_X1_isBetter x7 r4 v5 I5 L) (fun r23 => (if r23 = 0 then some (z3, I5) else gi (0 : Int32) 4 (nm (up2 I5 210 ((0 : Int32).toNatClampNeg) x7) (fun I27 => gi (1 : Int32) 4 (nm (up2 I27 210 ((1 : Int32).toNatClampNeg) r4) (fun I29 => gi (2 : Int32) 4 (nm (up2 I29 210 ((2 : Int32).toNatClampNeg) v5) (fun I31 => gi (3 : Int32) 4 (nm (up2 I31 210 ((3 : Int32).toNatClampNeg) z6) (fun I33 => some (((1 : Int32), I33))))))))))))))) (fun y8 I9 => nm (z6 + (1 : Int32)) (fun x12 => some (Sum.inl (y8, x12, I9)))))))
set_option maxHeartbeats 4000000 in
set_option maxRecDepth 100000 in
theorem l_X1_findTraining_31 {g : Gp} {p : Program} {l : Launch} {e : Env} {s : State} {m : MethodId} {args : Array Value} {below : List Frame} {meth : Method} {c : Code} {Q : State → Prop}  (C : Cx g p s m args c RX1 cX1_findTraining 9) (v1 : Nat) (v2 : Int32) (v4 : Int32) (v5 : Int32) (hv1 : kd v1 = 6) (L : ML) : ∀ (n : Nat) (z3 : Int32) (z6 : Int32) (I : MI) (y0_3 : Int32) (Iy0 : MI), lp (fun s => b_X1_findTraining_31 v1 v2 v4 v5 L s.1 s.2.1 s.2.2) n (z3, z6, I) = some (y0_3, Iy0) → ∀ (H : Heap) (locs : List Loc) (ls : Array Slot), Ws g s I L H locs → lv_has ls 9 [(0, .ref (g.1 + 207)), (1, .ref (g.1 + v1)), (2, .int v2), (3, .int z3), (4, .int v4), (5, .int v5), (6, .int z6)] → (∀ (H : Heap) (locs : List Loc) (ls : Array Slot), Ws g s Iy0 L H locs → lv_has ls 9 [(0, .ref (g.1 + 207)), (1, .ref (g.1 + v1)), (2, .int v2), (3, .int y0_3), (4, .int v4), (5, .int v5)] → W p l e (rmD 5) s m args below meth c H locs 0 0 Q (F0 m 132 ls [])) → W p l e (rmD 5) s m args below meth c H locs 0 0 Q (F0 m 31 ls []) := by
  intro n
  induction n with
  | zero => intro z3 z6 I y0_3 Iy0 h; exact lp_zero h
  | succ n ih =>
      intro z3 z6 I y0_3 Iy0 h H locs ls hW hl hx0
      obtain ⟨r9, h, h9⟩ := lp_some h
      have h : b_X1_findTraining_31 v1 v2 v4 v5 L z3 z6 I = some r9 := h
      unfold b_X1_findTraining_31 at h
      refine lv_iload C.1.1 C.1.2.1 dX1_findTraining_31 (lv_at hl 6 rfl) ?_
      refine lv_aload_n C.1.1 C.1.2.1 dX1_findTraining_33 rfl (lv_at hl 1 rfl) ?_
      refine G_X1_146 C hW hv1 dX1_findTraining_34 ?_
      refine lv_icmp_gt (tgt := 132) C.1.1 C.1.2.1 dX1_findTraining_37 (by decide) (fun hc3 => ?_) (fun hc3 => ?_)
      · replace h := ite_t hc3 h
        obtain rfl := Option.some.inj h
        replace h9 := Option.some.inj h9
        obtain ⟨rfl, rfl⟩ := pnj2 h9
        exact hx0 _ _ _ hW (lv_sub hl [0, 1, 2, 3, 4, 5] rfl)
      · replace h := ite_f hc3 h
        refine lv_aload_n C.1.1 C.1.2.1 dX1_findTraining_40 rfl (lv_at hl 0 rfl) ?_
        refine lv_aload_n C.1.1 C.1.2.1 dX1_findTraining_41 rfl (lv_at hl 1 rfl) ?_
        refine lv_iload_n C.1.1 C.1.2.1 dX1_findTraining_42 rfl (lv_at hl 2 rfl) ?_
        refine lv_iload C.1.1 C.1.2.1 dX1_findTraining_43 (lv_at hl 5 rfl) ?_
        refine lv_iload C.1.1 C.1.2.1 dX1_findTraining_45 (lv_at hl 6 rfl) ?_
        obtain ⟨r4, I5, hc6, h⟩ := bd2_some h
        refine w_callVi (k := 4) (As := [.ref (g.1 + v1), .int v2, .int v5, .int z6]) (rest := []) C hW (c_X1_lineToAdd g l hv1 hc6) (by decide) rfl (EX_1 (by decide)) K_X1_149 (by decide +kernel) ⟨by decide, by decide⟩ ⟨Nat.le_refl _, Nat.le_refl _⟩ rfl hl.1 rfl (Nat.le_of_ble_eq_true rfl) dX1_findTraining_47 (fun H locs hW => ?_)
        refine lv_istore (lv' := [(7, .int r4), (0, .ref (g.1 + 207)), (1, .ref (g.1 + v1)), (2, .int v2), (3, .int z3), (4, .int v4), (5, .int v5), (6, .int z6)]) C.1.1 C.1.2.1 dX1_findTraining_50 hl (by decide) rfl (fun ls hl => ?_)
        refine lv_iconst (v := 2) C.1.1 C.1.2.1 dX1_findTraining_52 (by decide) ?_
        refine lv_iload C.1.1 C.1.2.1 dX1_findTraining_53 (lv_at hl 0 rfl) ?_
        refine lv_imul C.1.1 C.1.2.1 dX1_findTraining_55 ?_
        refine lv_iconst (v := 5) C.1.1 C.1.2.1 dX1_findTraining_56 (by decide) ?_
        refine lv_iload C.1.1 C.1.2.1 dX1_findTraining_57 (lv_at hl 6 rfl) ?_
        refine lv_imul C.1.1 C.1.2.1 dX1_findTraining_59 ?_
        refine lv_iadd C.1.1 C.1.2.1 dX1_findTraining_60 ?_
        refine lv_iconst (v := 3) C.1.1 C.1.2.1 dX1_findTraining_61 (by decide) ?_
        refine lv_iload C.1.1 C.1.2.1 dX1_findTraining_62 (lv_at hl 7 rfl) ?_
        refine lv_imul C.1.1 C.1.2.1 dX1_findTraining_64 ?_
        refine lv_iadd C.1.1 C.1.2.1 dX1_findTraining_65 ?_
        refine lv_topi (fun x7 ex7 => ?_)
        replace h := nm_at ex7 h
        clear ex7
        refine lv_istore (lv' := [(8, .int x7), (7, .int r4), (0, .ref (g.1 + 207)), (1, .ref (g.1 + v1)), (2, .int v2), (3, .int z3), (4, .int v4), (5, .int v5), (6, .int z6)]) C.1.1 C.1.2.1 dX1_findTraining_66 hl (by decide) rfl (fun ls hl => ?_)
        refine lv_iload C.1.1 C.1.2.1 dX1_findTraining_68 (lv_at hl 1 rfl) ?_
        refine lv_iload C.1.1 C.1.2.1 dX1_findTraining_70 (lv_at hl 6 rfl) ?_
        obtain ⟨y8, I9, hj11, h⟩ := bd2_some h
        have kJ10 : ∀ (H : Heap) (locs : List Loc) (ls : Array Slot), Ws g s I9 L H locs → lv_has ls 9 [(0, .ref (g.1 + 207)), (1, .ref (g.1 + v1)), (2, .int v2), (3, .int y8), (4, .int v4), (5, .int v5), (6, .int z6)] → W p l e (rmD 5) s m args below meth c H locs 0 0 Q (F0 m 126 ls []) := by
          intro H locs ls hW hl
          obtain ⟨x12, ex12⟩ : ∃ y : Int32, y = z6 + (1 : Int32) := ⟨_, rfl⟩
          replace h := nm_at ex12 h
          refine lv_iinc (v := x12) (lv' := [(6, .int x12), (0, .ref (g.1 + 207)), (1, .ref (g.1 + v1)), (2, .int v2), (3, .int y8), (4, .int v4), (5, .int v5)]) C.1.1 C.1.2.1 dX1_findTraining_126 hl (k := 6) rfl (by rw [ex12]; rfl) (by decide) rfl (fun ls hl => ?_)
          clear ex12
          refine lv_goto (tgt := 31) C.1.1 C.1.2.1 dX1_findTraining_129 (by decide) ?_
          obtain rfl := Option.some.inj h
          exact ih _ _ _ _ _ h9 _ _ _ hW (lv_sub hl [1, 2, 3, 4, 5, 6, 0] rfl) hx0
        clear h
        have h := hj11
        clear hj11
        refine lv_icmp_gt (tgt := 126) C.1.1 C.1.2.1 dX1_findTraining_72 (by decide) (fun hc13 => ?_) (fun hc13 => ?_)
        · replace h := ite_t hc13 h
          obtain ⟨rfl, rfl⟩ := inj2 h
          exact kJ10 _ _ _ hW (lv_sub hl [2, 3, 4, 5, 6, 7, 8] rfl)
        · replace h := ite_f hc13 h
          refine lv_iload_n C.1.1 C.1.2.1 dX1_findTraining_75 rfl (lv_at hl 5 rfl) ?_
          refine lv_if_eq (tgt := 92) C.1.1 C.1.2.1 dX1_findTraining_76 (by decide) (fun hc14 => ?_) (fun hc14 => ?_)
          · replace h := ite_t hc14 h
            refine lv_iconst (v := 1) C.1.1 C.1.2.1 dX1_findTraining_92 (by decide) ?_
            refine lv_istore_n (lv' := [(3, .int (1 : Int32)), (8, .int x7), (7, .int r4), (0, .ref (g.1 + 207)), (1, .ref (g.1 + v1)), (2, .int v2), (4, .int v4), (5, .int v5), (6, .int z6)]) C.1.1 C.1.2.1 dX1_findTraining_93 rfl hl (by decide) rfl (fun ls hl => ?_)
            refine lv_aload_n C.1.1 C.1.2.1 dX1_findTraining_94 rfl (lv_at hl 3 rfl) ?_
            refine G_X1_19 C hW (by decide) dX1_findTraining_95 ?_
            refine lv_iconst (v := 0) C.1.1 C.1.2.1 dX1_findTraining_98 (by decide) ?_
            refine lv_iload C.1.1 C.1.2.1 dX1_findTraining_99 (lv_at hl 1 rfl) ?_
            obtain ⟨hi15, h⟩ := gi_some h
            refine w_iast C hW (n := 4) (by decide) (by decide) hi15 dX1_findTraining_101 (fun H locs hW => ?_)
            obtain ⟨I16, eI16, h⟩ := nm_some h
            rw [← eI16] at hW
            clear eI16
            refine lv_aload_n C.1.1 C.1.2.1 dX1_findTraining_102 rfl (lv_at hl 3 rfl) ?_
            refine G_X1_19 C hW (by decide) dX1_findTraining_103 ?_
            refine lv_iconst (v := 1) C.1.1 C.1.2.1 dX1_findTraining_106 (by decide) ?_
            refine lv_iload C.1.1 C.1.2.1 dX1_findTraining_107 (lv_at hl 2 rfl) ?_
            obtain ⟨hi17, h⟩ := gi_some h
            refine w_iast C hW (n := 4) (by decide) (by decide) hi17 dX1_findTraining_109 (fun H locs hW => ?_)
            obtain ⟨I18, eI18, h⟩ := nm_some h
            rw [← eI18] at hW
            clear eI18
            refine lv_aload_n C.1.1 C.1.2.1 dX1_findTraining_110 rfl (lv_at hl 3 rfl) ?_
            refine G_X1_19 C hW (by decide) dX1_findTraining_111 ?_
            refine lv_iconst (v := 2) C.1.1 C.1.2.1 dX1_findTraining_114 (by decide) ?_
            refine lv_iload C.1.1 C.1.2.1 dX1_findTraining_115 (lv_at hl 7 rfl) ?_
            obtain ⟨hi19, h⟩ := gi_some h
            refine w_iast C hW (n := 4) (by decide) (by decide) hi19 dX1_findTraining_117 (fun H locs hW => ?_)
            obtain ⟨I20, eI20, h⟩ := nm_some h
            rw [← eI20] at hW
            clear eI20
            refine lv_aload_n C.1.1 C.1.2.1 dX1_findTraining_118 rfl (lv_at hl 3 rfl) ?_
            refine G_X1_19 C hW (by decide) dX1_findTraining_119 ?_
            refine lv_iconst (v := 3) C.1.1 C.1.2.1 dX1_findTraining_122 (by decide) ?_
            refine lv_iload C.1.1 C.1.2.1 dX1_findTraining_123 (lv_at hl 8 rfl) ?_
            obtain ⟨hi21, h⟩ := gi_some h
            refine w_iast C hW (n := 4) (by decide) (by decide) hi21 dX1_findTraining_125 (fun H locs hW => ?_)
            obtain ⟨I22, eI22, h⟩ := nm_some h
            rw [← eI22] at hW
            clear eI22
            obtain ⟨rfl, rfl⟩ := inj2 h
            exact kJ10 _ _ _ hW (lv_sub hl [3, 4, 5, 0, 6, 7, 8] rfl)
          · replace h := ite_f hc14 h
            refine lv_aload_n C.1.1 C.1.2.1 dX1_findTraining_79 rfl (lv_at hl 2 rfl) ?_
            refine lv_iload C.1.1 C.1.2.1 dX1_findTraining_80 (lv_at hl 0 rfl) ?_
            refine lv_iload C.1.1 C.1.2.1 dX1_findTraining_82 (lv_at hl 1 rfl) ?_
            refine lv_iload C.1.1 C.1.2.1 dX1_findTraining_84 (lv_at hl 7 rfl) ?_
            obtain ⟨r23, hc24, h⟩ := bd1_some h
            refine w_callVi (k := 3) (As := [.int x7, .int r4, .int v5]) (rest := []) C hW (c_X1_isBetter g l  hc24) (by decide) rfl (EX_1 (by decide)) K_X1_153 (by decide +kernel) ⟨by decide, by decide⟩ ⟨Nat.le_refl _, Nat.le_refl _⟩ rfl hl.1 rfl (Nat.le_of_ble_eq_true rfl) dX1_findTraining_86 (fun H locs hW => ?_)
            refine lv_if_eq (tgt := 126) C.1.1 C.1.2.1 dX1_findTraining_89 (by decide) (fun hc25 => ?_) (fun hc25 => ?_)
            · replace h := ite_t hc25 h
              obtain ⟨rfl, rfl⟩ := inj2 h
              exact kJ10 _ _ _ hW (lv_sub hl [2, 3, 4, 5, 6, 7, 8] rfl)
            · replace h := ite_f hc25 h
              refine lv_iconst (v := 1) C.1.1 C.1.2.1 dX1_findTraining_92 (by decide) ?_
              refine lv_istore_n (lv' := [(3, .int (1 : Int32)), (8, .int x7), (7, .int r4), (0, .ref (g.1 + 207)), (1, .ref (g.1 + v1)), (2, .int v2), (4, .int v4), (5, .int v5), (6, .int z6)]) C.1.1 C.1.2.1 dX1_findTraining_93 rfl hl (by decide) rfl (fun ls hl => ?_)
              refine lv_aload_n C.1.1 C.1.2.1 dX1_findTraining_94 rfl (lv_at hl 3 rfl) ?_
              refine G_X1_19 C hW (by decide) dX1_findTraining_95 ?_
              refine lv_iconst (v := 0) C.1.1 C.1.2.1 dX1_findTraining_98 (by decide) ?_
              refine lv_iload C.1.1 C.1.2.1 dX1_findTraining_99 (lv_at hl 1 rfl) ?_
              obtain ⟨hi26, h⟩ := gi_some h
              refine w_iast C hW (n := 4) (by decide) (by decide) hi26 dX1_findTraining_101 (fun H locs hW => ?_)
              obtain ⟨I27, eI27, h⟩ := nm_some h
              rw [← eI27] at hW
              clear eI27
              refine lv_aload_n C.1.1 C.1.2.1 dX1_findTraining_102 rfl (lv_at hl 3 rfl) ?_
              refine G_X1_19 C hW (by decide) dX1_findTraining_103 ?_
              refine lv_iconst (v := 1) C.1.1 C.1.2.1 dX1_findTraining_106 (by decide) ?_
              refine lv_iload C.1.1 C.1.2.1 dX1_findTraining_107 (lv_at hl 2 rfl) ?_
              obtain ⟨hi28, h⟩ := gi_some h
              refine w_iast C hW (n := 4) (by decide) (by decide) hi28 dX1_findTraining_109 (fun H locs hW => ?_)
              obtain ⟨I29, eI29, h⟩ := nm_some h
              rw [← eI29] at hW
              clear eI29
              refine lv_aload_n C.1.1 C.1.2.1 dX1_findTraining_110 rfl (lv_at hl 3 rfl) ?_
              refine G_X1_19 C hW (by decide) dX1_findTraining_111 ?_
              refine lv_iconst (v := 2) C.1.1 C.1.2.1 dX1_findTraining_114 (by decide) ?_
              refine lv_iload C.1.1 C.1.2.1 dX1_findTraining_115 (lv_at hl 7 rfl) ?_
              obtain ⟨hi30, h⟩ := gi_some h
              refine w_iast C hW (n := 4) (by decide) (by decide) hi30 dX1_findTraining_117 (fun H locs hW => ?_)
              obtain ⟨I31, eI31, h⟩ := nm_some h
              rw [← eI31] at hW
              clear eI31
              refine lv_aload_n C.1.1 C.1.2.1 dX1_findTraining_118 rfl (lv_at hl 3 rfl) ?_
              refine G_X1_19 C hW (by decide) dX1_findTraining_119 ?_
              refine lv_iconst (v := 3) C.1.1 C.1.2.1 dX1_findTraining_122 (by decide) ?_
              refine lv_iload C.1.1 C.1.2.1 dX1_findTraining_123 (lv_at hl 8 rfl) ?_
              obtain ⟨hi32, h⟩ := gi_some h
              refine w_iast C hW (n := 4) (by decide) (by decide) hi32 dX1_findTraining_125 (fun H locs hW => ?_)
              obtain ⟨I33, eI33, h⟩ := nm_some h
              rw [← eI33] at hW
              clear eI33
              obtain ⟨rfl, rfl⟩ := inj2 h
              exact kJ10 _ _ _ hW (lv_sub hl [3, 4, 5, 0, 6, 7, 8] rfl)
def b_X1_findTraining_19 (v1 : Nat) (v2 : Int32) (v4 : Int32) (L : ML) (z3 : Int32) (z5 : Int32) (I : MI) : Option ((Int32 × Int32 × MI) ⊕ ((Int32 × MI))) :=
  (if (I v1 2) < z5 then some (Sum.inr (z3, I)) else bd2 (lp (fun s => b_X1_findTraining_31 v1 v2 v4 z5 L s.1 s.2.1 s.2.2) FU ((z3, (0 : Int32), I))) (fun y35 I36 => nm (z5 + (1 : Int32)) (fun x37 => some (Sum.inl (y35, x37, I36)))))
set_option maxHeartbeats 4000000 in
set_option maxRecDepth 100000 in
theorem l_X1_findTraining_19 {g : Gp} {p : Program} {l : Launch} {e : Env} {s : State} {m : MethodId} {args : Array Value} {below : List Frame} {meth : Method} {c : Code} {Q : State → Prop}  (C : Cx g p s m args c RX1 cX1_findTraining 9) (v1 : Nat) (v2 : Int32) (v4 : Int32) (hv1 : kd v1 = 6) (L : ML) : ∀ (n : Nat) (z3 : Int32) (z5 : Int32) (I : MI) (y0_3 : Int32) (Iy0 : MI), lp (fun s => b_X1_findTraining_19 v1 v2 v4 L s.1 s.2.1 s.2.2) n (z3, z5, I) = some (y0_3, Iy0) → ∀ (H : Heap) (locs : List Loc) (ls : Array Slot), Ws g s I L H locs → lv_has ls 9 [(0, .ref (g.1 + 207)), (1, .ref (g.1 + v1)), (2, .int v2), (3, .int z3), (4, .int v4), (5, .int z5)] → (∀ (H : Heap) (locs : List Loc) (ls : Array Slot), Ws g s Iy0 L H locs → lv_has ls 9 [(3, .int y0_3)] → W p l e (rmD 5) s m args below meth c H locs 0 0 Q (F0 m 138 ls [])) → W p l e (rmD 5) s m args below meth c H locs 0 0 Q (F0 m 19 ls []) := by
  intro n
  induction n with
  | zero => intro z3 z5 I y0_3 Iy0 h; exact lp_zero h
  | succ n ih =>
      intro z3 z5 I y0_3 Iy0 h H locs ls hW hl hx0
      obtain ⟨r9, h, h9⟩ := lp_some h
      have h : b_X1_findTraining_19 v1 v2 v4 L z3 z5 I = some r9 := h
      unfold b_X1_findTraining_19 at h
      refine lv_iload C.1.1 C.1.2.1 dX1_findTraining_19 (lv_at hl 5 rfl) ?_
      refine lv_aload_n C.1.1 C.1.2.1 dX1_findTraining_21 rfl (lv_at hl 1 rfl) ?_
      refine G_X1_143 C hW hv1 dX1_findTraining_22 ?_
      refine lv_icmp_gt (tgt := 138) C.1.1 C.1.2.1 dX1_findTraining_25 (by decide) (fun hc2 => ?_) (fun hc2 => ?_)
      · replace h := ite_t hc2 h
        obtain rfl := Option.some.inj h
        replace h9 := Option.some.inj h9
        obtain ⟨rfl, rfl⟩ := pnj2 h9
        exact hx0 _ _ _ hW (lv_sub hl [3] rfl)
      · replace h := ite_f hc2 h
        refine lv_iconst (v := 0) C.1.1 C.1.2.1 dX1_findTraining_28 (by decide) ?_
        refine lv_istore (lv' := [(6, .int (0 : Int32)), (0, .ref (g.1 + 207)), (1, .ref (g.1 + v1)), (2, .int v2), (3, .int z3), (4, .int v4), (5, .int z5)]) C.1.1 C.1.2.1 dX1_findTraining_29 hl (by decide) rfl (fun ls hl => ?_)
        obtain ⟨y35, I36, hq34, h⟩ := bd2_some h
        refine l_X1_findTraining_31 C v1 v2 v4 z5 hv1 L _ _ _ _ _ _ hq34 _ _ _ hW (lv_sub hl [1, 2, 3, 4, 5, 6, 0] rfl) (fun H locs ls hW hl => ?_)
        obtain ⟨x37, ex37⟩ : ∃ y : Int32, y = z5 + (1 : Int32) := ⟨_, rfl⟩
        replace h := nm_at ex37 h
        refine lv_iinc (v := x37) (lv' := [(5, .int x37), (0, .ref (g.1 + 207)), (1, .ref (g.1 + v1)), (2, .int v2), (3, .int y35), (4, .int v4)]) C.1.1 C.1.2.1 dX1_findTraining_132 hl (k := 5) rfl (by rw [ex37]; rfl) (by decide) rfl (fun ls hl => ?_)
        clear ex37
        refine lv_goto (tgt := 19) C.1.1 C.1.2.1 dX1_findTraining_135 (by decide) ?_
        obtain rfl := Option.some.inj h
        exact ih _ _ _ _ _ h9 _ _ _ hW (lv_sub hl [1, 2, 3, 4, 5, 0] rfl) hx0
def f_X1_findTraining (a1 : Nat) (a2 : Int32) (I : MI) (L : ML) : Option (Int32 × MI) :=
  nm (mmin (20 : Int32) ((99 : Int32) - (I a1 1))) (fun x1 => bd2 (lp (fun s => b_X1_findTraining_19 a1 a2 x1 L s.1 s.2.1 s.2.2) FU (((0 : Int32), (0 : Int32), I))) (fun y39 I40 => gd (y39 = 0 ∨ y39 = 1) (some (y39, I40))))
set_option maxHeartbeats 4000000 in
set_option maxRecDepth 100000 in
theorem c_X1_findTraining (g : Gp) (l : Launch) {a1 : Nat} {a2 : Int32} (ha1 : kd a1 = 6) {I : MI} {L : ML} {r : Int32} {I' : MI} (h : f_X1_findTraining a1 a2 I L = some (r, I')) : MetI g l yX1_findTraining cX1_findTraining 9 .boolean 5 [.ref (g.1 + 207), .ref (g.1 + a1), .int a2] I L r I' L := by
  unfold f_X1_findTraining at h
  refine w_enter (by decide) (Nat.le_of_ble_eq_true rfl) (own := RX1) rfl ?_
  intro p e s m below meth c args Q hQ C hr hlocks hW ls hl
  have hl : lv_has ls 9 [(0, .ref (g.1 + 207)), (1, .ref (g.1 + a1)), (2, .int a2)] := hl
  refine lv_iconst (v := 0) C.1.1 C.1.2.1 dX1_findTraining_0 (by decide) ?_
  refine lv_istore_n (lv' := [(3, .int (0 : Int32)), (0, .ref (g.1 + 207)), (1, .ref (g.1 + a1)), (2, .int a2)]) C.1.1 C.1.2.1 dX1_findTraining_1 rfl hl (by decide) rfl (fun ls hl => ?_)
  refine lv_bipush (v := 20) C.1.1 C.1.2.1 dX1_findTraining_2 (by decide) ?_
  refine lv_bipush (v := 99) C.1.1 C.1.2.1 dX1_findTraining_4 (by decide) ?_
  refine lv_aload_n C.1.1 C.1.2.1 dX1_findTraining_6 rfl (lv_at hl 2 rfl) ?_
  refine G_X1_135 C hW ha1 dX1_findTraining_7 ?_
  refine lv_isub C.1.1 C.1.2.1 dX1_findTraining_10 ?_
  refine M_X1_138 (rest := []) C hl.1 ⟨by decide, Nat.le_of_ble_eq_true rfl⟩ ⟨Nat.le_refl _, Nat.le_refl _⟩ dX1_findTraining_11 ?_
  refine lv_topi (fun x1 ex1 => ?_)
  replace h := nm_at ex1 h
  clear ex1
  refine lv_istore (lv' := [(4, .int x1), (3, .int (0 : Int32)), (0, .ref (g.1 + 207)), (1, .ref (g.1 + a1)), (2, .int a2)]) C.1.1 C.1.2.1 dX1_findTraining_14 hl (by decide) rfl (fun ls hl => ?_)
  refine lv_iconst (v := 0) C.1.1 C.1.2.1 dX1_findTraining_16 (by decide) ?_
  refine lv_istore (lv' := [(5, .int (0 : Int32)), (4, .int x1), (3, .int (0 : Int32)), (0, .ref (g.1 + 207)), (1, .ref (g.1 + a1)), (2, .int a2)]) C.1.1 C.1.2.1 dX1_findTraining_17 hl (by decide) rfl (fun ls hl => ?_)
  obtain ⟨y39, I40, hq38, h⟩ := bd2_some h
  refine l_X1_findTraining_19 C a1 a2 x1 ha1 L _ _ _ _ _ _ hq38 _ _ _ hW (lv_sub hl [3, 4, 5, 2, 1, 0] rfl) (fun H locs ls hW hl => ?_)
  refine lv_iload_n C.1.1 C.1.2.1 dX1_findTraining_138 rfl (lv_at hl 0 rfl) ?_
  obtain ⟨hb41, h⟩ := gd_some h
  obtain ⟨rfl, rfl⟩ := inj2 h
  subst hQ
  exact w_zret C hW hr hlocks hb41 dX1_findTraining_139
def b_X2_hear_8 (v1 : Nat) (v2 : Int32) (v3 : Int32) (L : ML) (z4 : Int32) (I : MI) : Option ((Int32 × MI) ⊕ ((MI))) :=
  (if v3 ≤ z4 then some (Sum.inr I) else (if (12 : Int32) ≤ z4 then some (Sum.inr I) else bd1 (f_X5_holds v1 v2 (((2 : Int32) * z4) + (2 : Int32)) I L) (fun r4 => (if r4 = 0 then some (Sum.inr I) else gi (v2 + ((2 : Int32) * z4)) 24 (gi z4 12 (nm (up2 I 241 z4.toNatClampNeg ((L (v1 + 1) (v2 + ((2 : Int32) * z4)).toNatClampNeg).toInt32)) (fun I9 => gi ((v2 + ((2 : Int32) * z4)) + (1 : Int32)) 24 (gi z4 12 (nm (up2 I9 242 z4.toNatClampNeg ((L (v1 + 1) ((v2 + ((2 : Int32) * z4)) + (1 : Int32)).toNatClampNeg).toInt32)) (fun I12 => nm (up2 I12 240 3 ((I12 240 3) + (1 : Int32))) (fun I13 => nm (z4 + (1 : Int32)) (fun x14 => some (Sum.inl (x14, I13))))))))))))))
set_option maxHeartbeats 4000000 in
set_option maxRecDepth 100000 in
theorem l_X2_hear_8 {g : Gp} {p : Program} {l : Launch} {e : Env} {s : State} {m : MethodId} {args : Array Value} {below : List Frame} {meth : Method} {c : Code} {Q : State → Prop}  (C : Cx g p s m args c RX2 cX2_hear 5) (v1 : Nat) (v2 : Int32) (v3 : Int32) (hv1 : kd v1 = 5) (L : ML) : ∀ (n : Nat) (z4 : Int32) (I : MI) (Iy0 : MI), lp (fun s => b_X2_hear_8 v1 v2 v3 L s.1 s.2) n (z4, I) = some Iy0 → ∀ (H : Heap) (locs : List Loc) (ls : Array Slot), Ws g s I L H locs → lv_has ls 5 [(0, .ref (g.1 + 240)), (1, .ref (g.1 + v1)), (2, .int v2), (3, .int v3), (4, .int z4)] → (∀ (H : Heap) (locs : List Loc) (ls : Array Slot), Ws g s Iy0 L H locs → lv_has ls 5 [] → W p l e (rmD 1) s m args below meth c H locs 0 0 Q (F0 m 91 ls [])) → W p l e (rmD 1) s m args below meth c H locs 0 0 Q (F0 m 8 ls []) := by
  intro n
  induction n with
  | zero => intro z4 I Iy0 h; exact lp_zero h
  | succ n ih =>
      intro z4 I Iy0 h H locs ls hW hl hx0
      obtain ⟨r9, h, h9⟩ := lp_some h
      have h : b_X2_hear_8 v1 v2 v3 L z4 I = some r9 := h
      unfold b_X2_hear_8 at h
      refine lv_iload C.1.1 C.1.2.1 dX2_hear_8 (lv_at hl 4 rfl) ?_
      refine lv_iload_n C.1.1 C.1.2.1 dX2_hear_10 rfl (lv_at hl 3 rfl) ?_
      refine lv_icmp_ge (tgt := 91) C.1.1 C.1.2.1 dX2_hear_11 (by decide) (fun hc2 => ?_) (fun hc2 => ?_)
      · replace h := ite_t hc2 h
        obtain rfl := Option.some.inj h
        replace h9 := Option.some.inj h9
        obtain rfl := pnj1 h9
        exact hx0 _ _ _ hW (lv_sub hl [] rfl)
      · replace h := ite_f hc2 h
        refine lv_iload C.1.1 C.1.2.1 dX2_hear_14 (lv_at hl 4 rfl) ?_
        refine lv_bipush (v := 12) C.1.1 C.1.2.1 dX2_hear_16 (by decide) ?_
        refine lv_icmp_ge (tgt := 91) C.1.1 C.1.2.1 dX2_hear_18 (by decide) (fun hc3 => ?_) (fun hc3 => ?_)
        · replace h := ite_t hc3 h
          obtain rfl := Option.some.inj h
          replace h9 := Option.some.inj h9
          obtain rfl := pnj1 h9
          exact hx0 _ _ _ hW (lv_sub hl [] rfl)
        · replace h := ite_f hc3 h
          refine lv_aload_n C.1.1 C.1.2.1 dX2_hear_21 rfl (lv_at hl 1 rfl) ?_
          refine lv_iload_n C.1.1 C.1.2.1 dX2_hear_22 rfl (lv_at hl 2 rfl) ?_
          refine lv_iconst (v := 2) C.1.1 C.1.2.1 dX2_hear_23 (by decide) ?_
          refine lv_iload C.1.1 C.1.2.1 dX2_hear_24 (lv_at hl 4 rfl) ?_
          refine lv_imul C.1.1 C.1.2.1 dX2_hear_26 ?_
          refine lv_iconst (v := 2) C.1.1 C.1.2.1 dX2_hear_27 (by decide) ?_
          refine lv_iadd C.1.1 C.1.2.1 dX2_hear_28 ?_
          obtain ⟨r4, hc5, h⟩ := bd1_some h
          refine w_callVi (k := 2) (As := [.int v2, .int (((2 : Int32) * z4) + (2 : Int32))]) (rest := []) C hW (c_X5_holds g l hv1 hc5) hv1 rfl (EX_5 hv1) K_X2_25 (by decide +kernel) ⟨by decide, by decide⟩ ⟨Nat.le_refl _, Nat.le_refl _⟩ rfl hl.1 rfl (Nat.le_of_ble_eq_true rfl) dX2_hear_29 (fun H locs hW => ?_)
          refine lv_if_eq (tgt := 91) C.1.1 C.1.2.1 dX2_hear_32 (by decide) (fun hc6 => ?_) (fun hc6 => ?_)
          · replace h := ite_t hc6 h
            obtain rfl := Option.some.inj h
            replace h9 := Option.some.inj h9
            obtain rfl := pnj1 h9
            exact hx0 _ _ _ hW (lv_sub hl [] rfl)
          · replace h := ite_f hc6 h
            refine lv_aload_n C.1.1 C.1.2.1 dX2_hear_35 rfl (lv_at hl 0 rfl) ?_
            refine G_X2_9 C hW (by decide) dX2_hear_36 ?_
            refine lv_iload C.1.1 C.1.2.1 dX2_hear_39 (lv_at hl 4 rfl) ?_
            refine lv_aload_n C.1.1 C.1.2.1 dX2_hear_41 rfl (lv_at hl 1 rfl) ?_
            refine G_X2_31 C hW hv1 dX2_hear_42 ?_
            refine lv_iload_n C.1.1 C.1.2.1 dX2_hear_45 rfl (lv_at hl 2 rfl) ?_
            refine lv_iconst (v := 2) C.1.1 C.1.2.1 dX2_hear_46 (by decide) ?_
            refine lv_iload C.1.1 C.1.2.1 dX2_hear_47 (lv_at hl 4 rfl) ?_
            refine lv_imul C.1.1 C.1.2.1 dX2_hear_49 ?_
            refine lv_iadd C.1.1 C.1.2.1 dX2_hear_50 ?_
            obtain ⟨hi7, h⟩ := gi_some h
            refine w_lald C hW (n := 24) (kd_it hv1) (ln_it hv1) hi7 dX2_hear_51 ?_
            refine lv_l2i C.1.1 C.1.2.1 dX2_hear_52 rfl ?_
            obtain ⟨hi8, h⟩ := gi_some h
            refine w_iast C hW (n := 12) (by decide) (by decide) hi8 dX2_hear_53 (fun H locs hW => ?_)
            obtain ⟨I9, eI9, h⟩ := nm_some h
            rw [← eI9] at hW
            clear eI9
            refine lv_aload_n C.1.1 C.1.2.1 dX2_hear_54 rfl (lv_at hl 0 rfl) ?_
            refine G_X2_15 C hW (by decide) dX2_hear_55 ?_
            refine lv_iload C.1.1 C.1.2.1 dX2_hear_58 (lv_at hl 4 rfl) ?_
            refine lv_aload_n C.1.1 C.1.2.1 dX2_hear_60 rfl (lv_at hl 1 rfl) ?_
            refine G_X2_31 C hW hv1 dX2_hear_61 ?_
            refine lv_iload_n C.1.1 C.1.2.1 dX2_hear_64 rfl (lv_at hl 2 rfl) ?_
            refine lv_iconst (v := 2) C.1.1 C.1.2.1 dX2_hear_65 (by decide) ?_
            refine lv_iload C.1.1 C.1.2.1 dX2_hear_66 (lv_at hl 4 rfl) ?_
            refine lv_imul C.1.1 C.1.2.1 dX2_hear_68 ?_
            refine lv_iadd C.1.1 C.1.2.1 dX2_hear_69 ?_
            refine lv_iconst (v := 1) C.1.1 C.1.2.1 dX2_hear_70 (by decide) ?_
            refine lv_iadd C.1.1 C.1.2.1 dX2_hear_71 ?_
            obtain ⟨hi10, h⟩ := gi_some h
            refine w_lald C hW (n := 24) (kd_it hv1) (ln_it hv1) hi10 dX2_hear_72 ?_
            refine lv_l2i C.1.1 C.1.2.1 dX2_hear_73 rfl ?_
            obtain ⟨hi11, h⟩ := gi_some h
            refine w_iast C hW (n := 12) (by decide) (by decide) hi11 dX2_hear_74 (fun H locs hW => ?_)
            obtain ⟨I12, eI12, h⟩ := nm_some h
            rw [← eI12] at hW
            clear eI12
            refine lv_aload_n C.1.1 C.1.2.1 dX2_hear_75 rfl (lv_at hl 0 rfl) ?_
            refine lv_dup C.1.1 C.1.2.1 dX2_hear_76 rfl ?_
            refine G_X2_21 C hW (by decide) dX2_hear_77 ?_
            refine lv_iconst (v := 1) C.1.1 C.1.2.1 dX2_hear_80 (by decide) ?_
            refine lv_iadd C.1.1 C.1.2.1 dX2_hear_81 ?_
            refine P_X2_21 C hW (by decide) dX2_hear_82 (fun H locs hW => ?_)
            obtain ⟨I13, eI13, h⟩ := nm_some h
            rw [← eI13] at hW
            clear eI13
            obtain ⟨x14, ex14⟩ : ∃ y : Int32, y = z4 + (1 : Int32) := ⟨_, rfl⟩
            replace h := nm_at ex14 h
            refine lv_iinc (v := x14) (lv' := [(4, .int x14), (0, .ref (g.1 + 240)), (1, .ref (g.1 + v1)), (2, .int v2), (3, .int v3)]) C.1.1 C.1.2.1 dX2_hear_85 hl (k := 4) rfl (by rw [ex14]; rfl) (by decide) rfl (fun ls hl => ?_)
            clear ex14
            refine lv_goto (tgt := 8) C.1.1 C.1.2.1 dX2_hear_88 (by decide) ?_
            obtain rfl := Option.some.inj h
            exact ih _ _ _ h9 _ _ _ hW (lv_sub hl [1, 2, 3, 4, 0] rfl) hx0
def f_X2_hear (a1 : Nat) (a2 : Int32) (a3 : Int32) (I : MI) (L : ML) : Option (MI) :=
  nm (up2 I 240 3 (0 : Int32)) (fun I1 => bd1 (lp (fun s => b_X2_hear_8 a1 a2 a3 L s.1 s.2) FU (((0 : Int32), I1))) (fun I16 => some I16))
set_option maxHeartbeats 4000000 in
set_option maxRecDepth 100000 in
theorem c_X2_hear (g : Gp) (l : Launch) {a1 : Nat} {a2 : Int32} {a3 : Int32} (ha1 : kd a1 = 5) {I : MI} {L : ML} {I' : MI} (h : f_X2_hear a1 a2 a3 I L = some I') : MetV g l yX2_hear cX2_hear 5 1 [.ref (g.1 + 240), .ref (g.1 + a1), .int a2, .int a3] I L I' L := by
  unfold f_X2_hear at h
  refine w_enter (by decide) (Nat.le_of_ble_eq_true rfl) (own := RX2) rfl ?_
  intro p e s m below meth c args Q hQ C hr hlocks hW ls hl
  have hl : lv_has ls 5 [(0, .ref (g.1 + 240)), (1, .ref (g.1 + a1)), (2, .int a2), (3, .int a3)] := hl
  refine lv_aload_n C.1.1 C.1.2.1 dX2_hear_0 rfl (lv_at hl 0 rfl) ?_
  refine lv_iconst (v := 0) C.1.1 C.1.2.1 dX2_hear_1 (by decide) ?_
  refine P_X2_21 C hW (by decide) dX2_hear_2 (fun H locs hW => ?_)
  obtain ⟨I1, eI1, h⟩ := nm_some h
  rw [← eI1] at hW
  clear eI1
  refine lv_iconst (v := 0) C.1.1 C.1.2.1 dX2_hear_5 (by decide) ?_
  refine lv_istore (lv' := [(4, .int (0 : Int32)), (0, .ref (g.1 + 240)), (1, .ref (g.1 + a1)), (2, .int a2), (3, .int a3)]) C.1.1 C.1.2.1 dX2_hear_6 hl (by decide) rfl (fun ls hl => ?_)
  obtain ⟨I16, hq15, h⟩ := bd1_some h
  refine l_X2_hear_8 C a1 a2 a3 ha1 L _ _ _ _ hq15 _ _ _ hW (lv_sub hl [1, 2, 3, 4, 0] rfl) (fun H locs ls hW hl => ?_)
  obtain rfl := inj1 h
  subst hQ
  exact w_vret C hW hr hlocks dX2_hear_91
def b_X2_knowAtLast_13 (v3 : Int32) (I : MI) (L : ML) (z2 : Int32) (z4 : Int32) : Option ((Int32 × Int32) ⊕ ((Int32))) :=
  (if (I 240 3) ≤ z4 then some (Sum.inr z2) else gi z4 12 (bd1 ((if ((z2 >>> ((I 241 z4.toNatClampNeg) &&& (31 : Int32))) &&& (1 : Int32)) = (1 : Int32) then gi z4 12 (nm (z2 ||| ((1 : Int32) <<< ((I 242 z4.toNatClampNeg) &&& (31 : Int32)))) (fun x10 => some x10)) else some z2)) (fun y4 => nm (z4 + (1 : Int32)) (fun x7 => some (Sum.inl (y4, x7))))))
set_option maxHeartbeats 4000000 in
set_option maxRecDepth 100000 in
theorem l_X2_knowAtLast_13 {g : Gp} {p : Program} {l : Launch} {e : Env} {s : State} {m : MethodId} {args : Array Value} {below : List Frame} {meth : Method} {c : Code} {Q : State → Prop}  (C : Cx g p s m args c RX2 cX2_knowAtLast 5) (v3 : Int32)  (I : MI) (L : ML) : ∀ (n : Nat) (z2 : Int32) (z4 : Int32) (y0_2 : Int32), lp (fun s => b_X2_knowAtLast_13 v3 I L s.1 s.2) n (z2, z4) = some y0_2 → ∀ (H : Heap) (locs : List Loc) (ls : Array Slot), Ws g s I L H locs → lv_has ls 5 [(0, .ref (g.1 + 240)), (2, .int z2), (3, .int v3), (4, .int z4)] → (∀ (H : Heap) (locs : List Loc) (ls : Array Slot), Ws g s I L H locs → lv_has ls 5 [(0, .ref (g.1 + 240)), (2, .int y0_2), (3, .int v3)] → W p l e (rmD 0) s m args below meth c H locs 0 0 Q (F0 m 55 ls [])) → W p l e (rmD 0) s m args below meth c H locs 0 0 Q (F0 m 13 ls []) := by
  intro n
  induction n with
  | zero => intro z2 z4 y0_2 h; exact lp_zero h
  | succ n ih =>
      intro z2 z4 y0_2 h H locs ls hW hl hx0
      obtain ⟨r9, h, h9⟩ := lp_some h
      have h : b_X2_knowAtLast_13 v3 I L z2 z4 = some r9 := h
      unfold b_X2_knowAtLast_13 at h
      refine lv_iload C.1.1 C.1.2.1 dX2_knowAtLast_13 (lv_at hl 3 rfl) ?_
      refine lv_aload_n C.1.1 C.1.2.1 dX2_knowAtLast_15 rfl (lv_at hl 0 rfl) ?_
      refine G_X2_21 C hW (by decide) dX2_knowAtLast_16 ?_
      refine lv_icmp_ge (tgt := 55) C.1.1 C.1.2.1 dX2_knowAtLast_19 (by decide) (fun hc2 => ?_) (fun hc2 => ?_)
      · replace h := ite_t hc2 h
        obtain rfl := Option.some.inj h
        replace h9 := Option.some.inj h9
        obtain rfl := pnj1 h9
        exact hx0 _ _ _ hW (lv_sub hl [0, 1, 2] rfl)
      · replace h := ite_f hc2 h
        refine lv_iload_n C.1.1 C.1.2.1 dX2_knowAtLast_22 rfl (lv_at hl 1 rfl) ?_
        refine lv_aload_n C.1.1 C.1.2.1 dX2_knowAtLast_23 rfl (lv_at hl 0 rfl) ?_
        refine G_X2_9 C hW (by decide) dX2_knowAtLast_24 ?_
        refine lv_iload C.1.1 C.1.2.1 dX2_knowAtLast_27 (lv_at hl 3 rfl) ?_
        obtain ⟨hi3, h⟩ := gi_some h
        refine w_iald C hW (n := 12) (by decide) (by decide) hi3 dX2_knowAtLast_29 ?_
        refine lv_ishr C.1.1 C.1.2.1 dX2_knowAtLast_30 ?_
        refine lv_iconst (v := 1) C.1.1 C.1.2.1 dX2_knowAtLast_31 (by decide) ?_
        refine lv_iand C.1.1 C.1.2.1 dX2_knowAtLast_32 ?_
        refine lv_iconst (v := 1) C.1.1 C.1.2.1 dX2_knowAtLast_33 (by decide) ?_
        obtain ⟨y4, hj6, h⟩ := bd1_some h
        have kJ5 : ∀ (H : Heap) (locs : List Loc) (ls : Array Slot), Ws g s I L H locs → lv_has ls 5 [(0, .ref (g.1 + 240)), (2, .int y4), (3, .int v3), (4, .int z4)] → W p l e (rmD 0) s m args below meth c H locs 0 0 Q (F0 m 49 ls []) := by
          intro H locs ls hW hl
          obtain ⟨x7, ex7⟩ : ∃ y : Int32, y = z4 + (1 : Int32) := ⟨_, rfl⟩
          replace h := nm_at ex7 h
          refine lv_iinc (v := x7) (lv' := [(4, .int x7), (0, .ref (g.1 + 240)), (2, .int y4), (3, .int v3)]) C.1.1 C.1.2.1 dX2_knowAtLast_49 hl (k := 3) rfl (by rw [ex7]; rfl) (by decide) rfl (fun ls hl => ?_)
          clear ex7
          refine lv_goto (tgt := 13) C.1.1 C.1.2.1 dX2_knowAtLast_52 (by decide) ?_
          obtain rfl := Option.some.inj h
          exact ih _ _ _ h9 _ _ _ hW (lv_sub hl [1, 2, 3, 0] rfl) hx0
        clear h
        have h := hj6
        clear hj6
        refine lv_icmp_ne (tgt := 49) C.1.1 C.1.2.1 dX2_knowAtLast_34 (by decide) (fun hc8 => ?_) (fun hc8 => ?_)
        · replace h := ite_f hc8 h
          obtain rfl := inj1 h
          exact kJ5 _ _ _ hW (lv_sub hl [0, 1, 2, 3] rfl)
        · replace h := ite_t hc8 h
          refine lv_iload_n C.1.1 C.1.2.1 dX2_knowAtLast_37 rfl (lv_at hl 1 rfl) ?_
          refine lv_iconst (v := 1) C.1.1 C.1.2.1 dX2_knowAtLast_38 (by decide) ?_
          refine lv_aload_n C.1.1 C.1.2.1 dX2_knowAtLast_39 rfl (lv_at hl 0 rfl) ?_
          refine G_X2_15 C hW (by decide) dX2_knowAtLast_40 ?_
          refine lv_iload C.1.1 C.1.2.1 dX2_knowAtLast_43 (lv_at hl 3 rfl) ?_
          obtain ⟨hi9, h⟩ := gi_some h
          refine w_iald C hW (n := 12) (by decide) (by decide) hi9 dX2_knowAtLast_45 ?_
          refine lv_ishl C.1.1 C.1.2.1 dX2_knowAtLast_46 ?_
          refine lv_ior C.1.1 C.1.2.1 dX2_knowAtLast_47 ?_
          refine lv_topi (fun x10 ex10 => ?_)
          replace h := nm_at ex10 h
          clear ex10
          refine lv_istore_n (lv' := [(2, .int x10), (0, .ref (g.1 + 240)), (3, .int v3), (4, .int z4)]) C.1.1 C.1.2.1 dX2_knowAtLast_48 rfl hl (by decide) rfl (fun ls hl => ?_)
          obtain rfl := inj1 h
          exact kJ5 _ _ _ hW (lv_sub hl [1, 0, 2, 3] rfl)
def b_X2_knowAtLast_4  (I : MI) (L : ML) (z2 : Int32) (z3 : Int32) : Option ((Int32 × Int32) ⊕ ((Int32))) :=
  (if (8 : Int32) ≤ z3 then some (Sum.inr z2) else bd1 (lp (fun s => b_X2_knowAtLast_13 z3 I L s.1 s.2) FU ((z2, (0 : Int32)))) (fun y12 => nm (z3 + (1 : Int32)) (fun x13 => some (Sum.inl (y12, x13)))))
set_option maxHeartbeats 4000000 in
set_option maxRecDepth 100000 in
theorem l_X2_knowAtLast_4 {g : Gp} {p : Program} {l : Launch} {e : Env} {s : State} {m : MethodId} {args : Array Value} {below : List Frame} {meth : Method} {c : Code} {Q : State → Prop}  (C : Cx g p s m args c RX2 cX2_knowAtLast 5)   (I : MI) (L : ML) : ∀ (n : Nat) (z2 : Int32) (z3 : Int32) (y0_2 : Int32), lp (fun s => b_X2_knowAtLast_4  I L s.1 s.2) n (z2, z3) = some y0_2 → ∀ (H : Heap) (locs : List Loc) (ls : Array Slot), Ws g s I L H locs → lv_has ls 5 [(0, .ref (g.1 + 240)), (2, .int z2), (3, .int z3)] → (∀ (H : Heap) (locs : List Loc) (ls : Array Slot), Ws g s I L H locs → lv_has ls 5 [(2, .int y0_2)] → W p l e (rmD 0) s m args below meth c H locs 0 0 Q (F0 m 61 ls [])) → W p l e (rmD 0) s m args below meth c H locs 0 0 Q (F0 m 4 ls []) := by
  intro n
  induction n with
  | zero => intro z2 z3 y0_2 h; exact lp_zero h
  | succ n ih =>
      intro z2 z3 y0_2 h H locs ls hW hl hx0
      obtain ⟨r9, h, h9⟩ := lp_some h
      have h : b_X2_knowAtLast_4  I L z2 z3 = some r9 := h
      unfold b_X2_knowAtLast_4 at h
      refine lv_iload_n C.1.1 C.1.2.1 dX2_knowAtLast_4 rfl (lv_at hl 2 rfl) ?_
      refine lv_bipush (v := 8) C.1.1 C.1.2.1 dX2_knowAtLast_5 (by decide) ?_
      refine lv_icmp_ge (tgt := 61) C.1.1 C.1.2.1 dX2_knowAtLast_7 (by decide) (fun hc1 => ?_) (fun hc1 => ?_)
      · replace h := ite_t hc1 h
        obtain rfl := Option.some.inj h
        replace h9 := Option.some.inj h9
        obtain rfl := pnj1 h9
        exact hx0 _ _ _ hW (lv_sub hl [1] rfl)
      · replace h := ite_f hc1 h
        refine lv_iconst (v := 0) C.1.1 C.1.2.1 dX2_knowAtLast_10 (by decide) ?_
        refine lv_istore (lv' := [(4, .int (0 : Int32)), (0, .ref (g.1 + 240)), (2, .int z2), (3, .int z3)]) C.1.1 C.1.2.1 dX2_knowAtLast_11 hl (by decide) rfl (fun ls hl => ?_)
        obtain ⟨y12, hq11, h⟩ := bd1_some h
        refine l_X2_knowAtLast_13 C z3  I L _ _ _ _ hq11 _ _ _ hW (lv_sub hl [1, 2, 3, 0] rfl) (fun H locs ls hW hl => ?_)
        obtain ⟨x13, ex13⟩ : ∃ y : Int32, y = z3 + (1 : Int32) := ⟨_, rfl⟩
        replace h := nm_at ex13 h
        refine lv_iinc (v := x13) (lv' := [(3, .int x13), (0, .ref (g.1 + 240)), (2, .int y12)]) C.1.1 C.1.2.1 dX2_knowAtLast_55 hl (k := 2) rfl (by rw [ex13]; rfl) (by decide) rfl (fun ls hl => ?_)
        clear ex13
        refine lv_goto (tgt := 4) C.1.1 C.1.2.1 dX2_knowAtLast_58 (by decide) ?_
        obtain rfl := Option.some.inj h
        exact ih _ _ _ h9 _ _ _ hW (lv_sub hl [1, 2, 0] rfl) hx0
def f_X2_knowAtLast (a1 : Int32) (I : MI) (L : ML) : Option (Int32) :=
  bd1 (lp (fun s => b_X2_knowAtLast_4  I L s.1 s.2) FU ((a1, (0 : Int32)))) (fun y15 => some y15)
set_option maxHeartbeats 4000000 in
set_option maxRecDepth 100000 in
theorem c_X2_knowAtLast (g : Gp) (l : Launch) {a1 : Int32}  {I : MI} {L : ML} {r : Int32} (h : f_X2_knowAtLast a1 I L = some r) : MetI g l yX2_knowAtLast cX2_knowAtLast 5 .int 0 [.ref (g.1 + 240), .int a1] I L r I L := by
  unfold f_X2_knowAtLast at h
  refine w_enter (by decide) (Nat.le_of_ble_eq_true rfl) (own := RX2) rfl ?_
  intro p e s m below meth c args Q hQ C hr hlocks hW ls hl
  have hl : lv_has ls 5 [(0, .ref (g.1 + 240)), (1, .int a1)] := hl
  refine lv_iload_n C.1.1 C.1.2.1 dX2_knowAtLast_0 rfl (lv_at hl 1 rfl) ?_
  refine lv_istore_n (lv' := [(2, .int a1), (0, .ref (g.1 + 240)), (1, .int a1)]) C.1.1 C.1.2.1 dX2_knowAtLast_1 rfl hl (by decide) rfl (fun ls hl => ?_)
  refine lv_iconst (v := 0) C.1.1 C.1.2.1 dX2_knowAtLast_2 (by decide) ?_
  refine lv_istore_n (lv' := [(3, .int (0 : Int32)), (2, .int a1), (0, .ref (g.1 + 240)), (1, .int a1)]) C.1.1 C.1.2.1 dX2_knowAtLast_3 rfl hl (by decide) rfl (fun ls hl => ?_)
  obtain ⟨y15, hq14, h⟩ := bd1_some h
  refine l_X2_knowAtLast_4 C   I L _ _ _ _ hq14 _ _ _ hW (lv_sub hl [2, 1, 0] rfl) (fun H locs ls hW hl => ?_)
  refine lv_iload_n C.1.1 C.1.2.1 dX2_knowAtLast_61 rfl (lv_at hl 0 rfl) ?_
  obtain rfl := inj1 h
  subst hQ
  exact w_iret C hW hr hlocks dX2_knowAtLast_62
def b_X2_knownFrom_4 (v1 : Int32) (I : MI) (L : ML) (z2 : Int32) (z3 : Int32) : Option ((Int32 × Int32) ⊕ ((Int32))) :=
  (if (8 : Int32) ≤ z3 then some (Sum.inr z2) else bd1 ((if ((v1 >>> (z3 &&& (31 : Int32))) &&& (1 : Int32)) = (1 : Int32) then gi z3 8 (nm (z2 ||| (I 243 z3.toNatClampNeg)) (fun x8 => some x8)) else some z2)) (fun y2 => nm (z3 + (1 : Int32)) (fun x5 => some (Sum.inl (y2, x5)))))
set_option maxHeartbeats 4000000 in
set_option maxRecDepth 100000 in
theorem l_X2_knownFrom_4 {g : Gp} {p : Program} {l : Launch} {e : Env} {s : State} {m : MethodId} {args : Array Value} {below : List Frame} {meth : Method} {c : Code} {Q : State → Prop}  (C : Cx g p s m args c RX2 cX2_knownFrom 4) (v1 : Int32)  (I : MI) (L : ML) : ∀ (n : Nat) (z2 : Int32) (z3 : Int32) (y0_2 : Int32), lp (fun s => b_X2_knownFrom_4 v1 I L s.1 s.2) n (z2, z3) = some y0_2 → ∀ (H : Heap) (locs : List Loc) (ls : Array Slot), Ws g s I L H locs → lv_has ls 4 [(0, .ref (g.1 + 240)), (1, .int v1), (2, .int z2), (3, .int z3)] → (∀ (H : Heap) (locs : List Loc) (ls : Array Slot), Ws g s I L H locs → lv_has ls 4 [(2, .int y0_2)] → W p l e (rmD 0) s m args below meth c H locs 0 0 Q (F0 m 34 ls [])) → W p l e (rmD 0) s m args below meth c H locs 0 0 Q (F0 m 4 ls []) := by
  intro n
  induction n with
  | zero => intro z2 z3 y0_2 h; exact lp_zero h
  | succ n ih =>
      intro z2 z3 y0_2 h H locs ls hW hl hx0
      obtain ⟨r9, h, h9⟩ := lp_some h
      have h : b_X2_knownFrom_4 v1 I L z2 z3 = some r9 := h
      unfold b_X2_knownFrom_4 at h
      refine lv_iload_n C.1.1 C.1.2.1 dX2_knownFrom_4 rfl (lv_at hl 3 rfl) ?_
      refine lv_bipush (v := 8) C.1.1 C.1.2.1 dX2_knownFrom_5 (by decide) ?_
      refine lv_icmp_ge (tgt := 34) C.1.1 C.1.2.1 dX2_knownFrom_7 (by decide) (fun hc1 => ?_) (fun hc1 => ?_)
      · replace h := ite_t hc1 h
        obtain rfl := Option.some.inj h
        replace h9 := Option.some.inj h9
        obtain rfl := pnj1 h9
        exact hx0 _ _ _ hW (lv_sub hl [2] rfl)
      · replace h := ite_f hc1 h
        refine lv_iload_n C.1.1 C.1.2.1 dX2_knownFrom_10 rfl (lv_at hl 1 rfl) ?_
        refine lv_iload_n C.1.1 C.1.2.1 dX2_knownFrom_11 rfl (lv_at hl 3 rfl) ?_
        refine lv_ishr C.1.1 C.1.2.1 dX2_knownFrom_12 ?_
        refine lv_iconst (v := 1) C.1.1 C.1.2.1 dX2_knownFrom_13 (by decide) ?_
        refine lv_iand C.1.1 C.1.2.1 dX2_knownFrom_14 ?_
        refine lv_iconst (v := 1) C.1.1 C.1.2.1 dX2_knownFrom_15 (by decide) ?_
        obtain ⟨y2, hj4, h⟩ := bd1_some h
        have kJ3 : ∀ (H : Heap) (locs : List Loc) (ls : Array Slot), Ws g s I L H locs → lv_has ls 4 [(0, .ref (g.1 + 240)), (1, .int v1), (2, .int y2), (3, .int z3)] → W p l e (rmD 0) s m args below meth c H locs 0 0 Q (F0 m 28 ls []) := by
          intro H locs ls hW hl
          obtain ⟨x5, ex5⟩ : ∃ y : Int32, y = z3 + (1 : Int32) := ⟨_, rfl⟩
          replace h := nm_at ex5 h
          refine lv_iinc (v := x5) (lv' := [(3, .int x5), (0, .ref (g.1 + 240)), (1, .int v1), (2, .int y2)]) C.1.1 C.1.2.1 dX2_knownFrom_28 hl (k := 3) rfl (by rw [ex5]; rfl) (by decide) rfl (fun ls hl => ?_)
          clear ex5
          refine lv_goto (tgt := 4) C.1.1 C.1.2.1 dX2_knownFrom_31 (by decide) ?_
          obtain rfl := Option.some.inj h
          exact ih _ _ _ h9 _ _ _ hW (lv_sub hl [1, 2, 3, 0] rfl) hx0
        clear h
        have h := hj4
        clear hj4
        refine lv_icmp_ne (tgt := 28) C.1.1 C.1.2.1 dX2_knownFrom_16 (by decide) (fun hc6 => ?_) (fun hc6 => ?_)
        · replace h := ite_f hc6 h
          obtain rfl := inj1 h
          exact kJ3 _ _ _ hW (lv_sub hl [0, 1, 2, 3] rfl)
        · replace h := ite_t hc6 h
          refine lv_iload_n C.1.1 C.1.2.1 dX2_knownFrom_19 rfl (lv_at hl 2 rfl) ?_
          refine lv_aload_n C.1.1 C.1.2.1 dX2_knownFrom_20 rfl (lv_at hl 0 rfl) ?_
          refine G_X2_18 C hW (by decide) dX2_knownFrom_21 ?_
          refine lv_iload_n C.1.1 C.1.2.1 dX2_knownFrom_24 rfl (lv_at hl 3 rfl) ?_
          obtain ⟨hi7, h⟩ := gi_some h
          refine w_iald C hW (n := 8) (by decide) (by decide) hi7 dX2_knownFrom_25 ?_
          refine lv_ior C.1.1 C.1.2.1 dX2_knownFrom_26 ?_
          refine lv_topi (fun x8 ex8 => ?_)
          replace h := nm_at ex8 h
          clear ex8
          refine lv_istore_n (lv' := [(2, .int x8), (0, .ref (g.1 + 240)), (1, .int v1), (3, .int z3)]) C.1.1 C.1.2.1 dX2_knownFrom_27 rfl hl (by decide) rfl (fun ls hl => ?_)
          obtain rfl := inj1 h
          exact kJ3 _ _ _ hW (lv_sub hl [1, 2, 0, 3] rfl)
def f_X2_knownFrom (a1 : Int32) (I : MI) (L : ML) : Option (Int32) :=
  bd1 (lp (fun s => b_X2_knownFrom_4 a1 I L s.1 s.2) FU (((0 : Int32), (0 : Int32)))) (fun y10 => some y10)
set_option maxHeartbeats 4000000 in
set_option maxRecDepth 100000 in
theorem c_X2_knownFrom (g : Gp) (l : Launch) {a1 : Int32}  {I : MI} {L : ML} {r : Int32} (h : f_X2_knownFrom a1 I L = some r) : MetI g l yX2_knownFrom cX2_knownFrom 4 .int 0 [.ref (g.1 + 240), .int a1] I L r I L := by
  unfold f_X2_knownFrom at h
  refine w_enter (by decide) (Nat.le_of_ble_eq_true rfl) (own := RX2) rfl ?_
  intro p e s m below meth c args Q hQ C hr hlocks hW ls hl
  have hl : lv_has ls 4 [(0, .ref (g.1 + 240)), (1, .int a1)] := hl
  refine lv_iconst (v := 0) C.1.1 C.1.2.1 dX2_knownFrom_0 (by decide) ?_
  refine lv_istore_n (lv' := [(2, .int (0 : Int32)), (0, .ref (g.1 + 240)), (1, .int a1)]) C.1.1 C.1.2.1 dX2_knownFrom_1 rfl hl (by decide) rfl (fun ls hl => ?_)
  refine lv_iconst (v := 0) C.1.1 C.1.2.1 dX2_knownFrom_2 (by decide) ?_
  refine lv_istore_n (lv' := [(3, .int (0 : Int32)), (2, .int (0 : Int32)), (0, .ref (g.1 + 240)), (1, .int a1)]) C.1.1 C.1.2.1 dX2_knownFrom_3 rfl hl (by decide) rfl (fun ls hl => ?_)
  obtain ⟨y10, hq9, h⟩ := bd1_some h
  refine l_X2_knownFrom_4 C a1  I L _ _ _ _ hq9 _ _ _ hW (lv_sub hl [2, 3, 1, 0] rfl) (fun H locs ls hW hl => ?_)
  refine lv_iload_n C.1.1 C.1.2.1 dX2_knownFrom_34 rfl (lv_at hl 0 rfl) ?_
  obtain rfl := inj1 h
  subst hQ
  exact w_iret C hW hr hlocks dX2_knownFrom_35
def b_X2_fewestToTell_2  (L : ML) (z1 : Int32) (I : MI) : Option ((Int32 × MI) ⊕ ((MI))) :=
  (if (8 : Int32) ≤ z1 then some (Sum.inr I) else bd1 (f_X2_knowAtLast ((1 : Int32) <<< (z1 &&& (31 : Int32))) I L) (fun r2 => gi z1 8 (nm (up2 I 243 z1.toNatClampNeg r2) (fun I5 => nm (z1 + (1 : Int32)) (fun x6 => some (Sum.inl (x6, I5)))))))
set_option maxHeartbeats 4000000 in
set_option maxRecDepth 100000 in
theorem l_X2_fewestToTell_2 {g : Gp} {p : Program} {l : Launch} {e : Env} {s : State} {m : MethodId} {args : Array Value} {below : List Frame} {meth : Method} {c : Code} {Q : State → Prop}  (C : Cx g p s m args c RX2 cX2_fewestToTell 4)   (L : ML) : ∀ (n : Nat) (z1 : Int32) (I : MI) (Iy0 : MI), lp (fun s => b_X2_fewestToTell_2  L s.1 s.2) n (z1, I) = some Iy0 → ∀ (H : Heap) (locs : List Loc) (ls : Array Slot), Ws g s I L H locs → lv_has ls 4 [(0, .ref (g.1 + 240)), (1, .int z1)] → (∀ (H : Heap) (locs : List Loc) (ls : Array Slot), Ws g s Iy0 L H locs → lv_has ls 4 [(0, .ref (g.1 + 240))] → W p l e (rmD 1) s m args below meth c H locs 0 0 Q (F0 m 27 ls [])) → W p l e (rmD 1) s m args below meth c H locs 0 0 Q (F0 m 2 ls []) := by
  intro n
  induction n with
  | zero => intro z1 I Iy0 h; exact lp_zero h
  | succ n ih =>
      intro z1 I Iy0 h H locs ls hW hl hx0
      obtain ⟨r9, h, h9⟩ := lp_some h
      have h : b_X2_fewestToTell_2  L z1 I = some r9 := h
      unfold b_X2_fewestToTell_2 at h
      refine lv_iload_n C.1.1 C.1.2.1 dX2_fewestToTell_2 rfl (lv_at hl 1 rfl) ?_
      refine lv_bipush (v := 8) C.1.1 C.1.2.1 dX2_fewestToTell_3 (by decide) ?_
      refine lv_icmp_ge (tgt := 27) C.1.1 C.1.2.1 dX2_fewestToTell_5 (by decide) (fun hc1 => ?_) (fun hc1 => ?_)
      · replace h := ite_t hc1 h
        obtain rfl := Option.some.inj h
        replace h9 := Option.some.inj h9
        obtain rfl := pnj1 h9
        exact hx0 _ _ _ hW (lv_sub hl [0] rfl)
      · replace h := ite_f hc1 h
        refine lv_aload_n C.1.1 C.1.2.1 dX2_fewestToTell_8 rfl (lv_at hl 0 rfl) ?_
        refine G_X2_18 C hW (by decide) dX2_fewestToTell_9 ?_
        refine lv_iload_n C.1.1 C.1.2.1 dX2_fewestToTell_12 rfl (lv_at hl 1 rfl) ?_
        refine lv_aload_n C.1.1 C.1.2.1 dX2_fewestToTell_13 rfl (lv_at hl 0 rfl) ?_
        refine lv_iconst (v := 1) C.1.1 C.1.2.1 dX2_fewestToTell_14 (by decide) ?_
        refine lv_iload_n C.1.1 C.1.2.1 dX2_fewestToTell_15 rfl (lv_at hl 1 rfl) ?_
        refine lv_ishl C.1.1 C.1.2.1 dX2_fewestToTell_16 ?_
        obtain ⟨r2, hc3, h⟩ := bd1_some h
        refine w_callVi (k := 1) (As := [.int ((1 : Int32) <<< (z1 &&& (31 : Int32)))]) (rest := [.int z1, .ref (g.1 + 243)]) C hW (c_X2_knowAtLast g l  hc3) (by decide) rfl (EX_2 (by decide)) K_X2_35 (by decide +kernel) ⟨by decide, by decide⟩ ⟨Nat.le_refl _, Nat.le_refl _⟩ rfl hl.1 rfl (Nat.le_of_ble_eq_true rfl) dX2_fewestToTell_17 (fun H locs hW => ?_)
        obtain ⟨hi4, h⟩ := gi_some h
        refine w_iast C hW (n := 8) (by decide) (by decide) hi4 dX2_fewestToTell_20 (fun H locs hW => ?_)
        obtain ⟨I5, eI5, h⟩ := nm_some h
        rw [← eI5] at hW
        clear eI5
        obtain ⟨x6, ex6⟩ : ∃ y : Int32, y = z1 + (1 : Int32) := ⟨_, rfl⟩
        replace h := nm_at ex6 h
        refine lv_iinc (v := x6) (lv' := [(1, .int x6), (0, .ref (g.1 + 240))]) C.1.1 C.1.2.1 dX2_fewestToTell_21 hl (k := 1) rfl (by rw [ex6]; rfl) (by decide) rfl (fun ls hl => ?_)
        clear ex6
        refine lv_goto (tgt := 2) C.1.1 C.1.2.1 dX2_fewestToTell_24 (by decide) ?_
        obtain rfl := Option.some.inj h
        exact ih _ _ _ h9 _ _ _ hW (lv_sub hl [1, 0] rfl) hx0
def b_X2_fewestToTell_33  (I : MI) (L : ML) (z1 : Int32) (z2 : Int32) : Option ((Int32 × Int32) ⊕ ((Int32))) :=
  (if (255 : Int32) ≤ z2 then some (Sum.inr z1) else bd1 (f_J6_bitCount_0f7a4 z2) (fun r10 => bd1 (f_J6_bitCount_0f7a4 z1) (fun r12 => bd1 ((if r12 ≤ r10 then some (0 : Int32) else some (1 : Int32))) (fun y14 => bd1 ((if y14 = 0 then some z1 else bd1 (f_X2_knownFrom z2 I L) (fun r22 => (if r22 = (255 : Int32) then some z2 else some z1)))) (fun y17 => nm (z2 + (1 : Int32)) (fun x20 => some (Sum.inl (y17, x20))))))))
set_option maxHeartbeats 4000000 in
set_option maxRecDepth 100000 in
theorem l_X2_fewestToTell_33 {g : Gp} {p : Program} {l : Launch} {e : Env} {s : State} {m : MethodId} {args : Array Value} {below : List Frame} {meth : Method} {c : Code} {Q : State → Prop}  (C : Cx g p s m args c RX2 cX2_fewestToTell 4)   (I : MI) (L : ML) : ∀ (n : Nat) (z1 : Int32) (z2 : Int32) (y0_1 : Int32), lp (fun s => b_X2_fewestToTell_33  I L s.1 s.2) n (z1, z2) = some y0_1 → ∀ (H : Heap) (locs : List Loc) (ls : Array Slot), Ws g s I L H locs → lv_has ls 4 [(0, .ref (g.1 + 240)), (1, .int z1), (2, .int z2)] → (∀ (H : Heap) (locs : List Loc) (ls : Array Slot), Ws g s I L H locs → lv_has ls 4 [(1, .int y0_1)] → W p l e (rmD 1) s m args below meth c H locs 0 0 Q (F0 m 80 ls [])) → W p l e (rmD 1) s m args below meth c H locs 0 0 Q (F0 m 33 ls []) := by
  intro n
  induction n with
  | zero => intro z1 z2 y0_1 h; exact lp_zero h
  | succ n ih =>
      intro z1 z2 y0_1 h H locs ls hW hl hx0
      obtain ⟨r9, h, h9⟩ := lp_some h
      have h : b_X2_fewestToTell_33  I L z1 z2 = some r9 := h
      unfold b_X2_fewestToTell_33 at h
      refine lv_iload_n C.1.1 C.1.2.1 dX2_fewestToTell_33 rfl (lv_at hl 2 rfl) ?_
      refine lv_sipush (v := 255) C.1.1 C.1.2.1 dX2_fewestToTell_34 (by decide) ?_
      refine lv_icmp_ge (tgt := 80) C.1.1 C.1.2.1 dX2_fewestToTell_37 (by decide) (fun hc9 => ?_) (fun hc9 => ?_)
      · replace h := ite_t hc9 h
        obtain rfl := Option.some.inj h
        replace h9 := Option.some.inj h9
        obtain rfl := pnj1 h9
        exact hx0 _ _ _ hW (lv_sub hl [1] rfl)
      · replace h := ite_f hc9 h
        refine lv_iload_n C.1.1 C.1.2.1 dX2_fewestToTell_40 rfl (lv_at hl 2 rfl) ?_
        obtain ⟨r10, hc11, h⟩ := bd1_some h
        refine w_callSi (k := 1) (As := [.int z2]) (rest := []) C hW (c_J6_bitCount_0f7a4 g l  hc11 I L) K_X2_39 (by decide +kernel) ⟨by decide, by decide⟩ ⟨Nat.le_refl _, Nat.le_refl _⟩ rfl hl.1 rfl (Nat.le_of_ble_eq_true rfl) dX2_fewestToTell_41 (fun H locs hW => ?_)
        refine lv_iload_n C.1.1 C.1.2.1 dX2_fewestToTell_44 rfl (lv_at hl 1 rfl) ?_
        obtain ⟨r12, hc13, h⟩ := bd1_some h
        refine w_callSi (k := 1) (As := [.int z1]) (rest := [.int r10]) C hW (c_J6_bitCount_0f7a4 g l  hc13 I L) K_X2_39 (by decide +kernel) ⟨by decide, by decide⟩ ⟨Nat.le_refl _, Nat.le_refl _⟩ rfl hl.1 rfl (Nat.le_of_ble_eq_true rfl) dX2_fewestToTell_45 (fun H locs hW => ?_)
        obtain ⟨y14, hj16, h⟩ := bd1_some h
        have kJ15 : ∀ (H : Heap) (locs : List Loc) (ls : Array Slot), Ws g s I L H locs → lv_has ls 4 [(0, .ref (g.1 + 240)), (1, .int z1), (2, .int z2)] → W p l e (rmD 1) s m args below meth c H locs 0 0 Q (F0 m 56 ls [.int y14]) := by
          intro H locs ls hW hl
          refine lv_istore_n (lv' := [(3, .int y14), (0, .ref (g.1 + 240)), (1, .int z1), (2, .int z2)]) C.1.1 C.1.2.1 dX2_fewestToTell_56 rfl hl (by decide) rfl (fun ls hl => ?_)
          refine lv_iload_n C.1.1 C.1.2.1 dX2_fewestToTell_57 rfl (lv_at hl 0 rfl) ?_
          obtain ⟨y17, hj19, h⟩ := bd1_some h
          have kJ18 : ∀ (H : Heap) (locs : List Loc) (ls : Array Slot), Ws g s I L H locs → lv_has ls 4 [(0, .ref (g.1 + 240)), (1, .int y17), (2, .int z2)] → W p l e (rmD 1) s m args below meth c H locs 0 0 Q (F0 m 74 ls []) := by
            intro H locs ls hW hl
            obtain ⟨x20, ex20⟩ : ∃ y : Int32, y = z2 + (1 : Int32) := ⟨_, rfl⟩
            replace h := nm_at ex20 h
            refine lv_iinc (v := x20) (lv' := [(2, .int x20), (0, .ref (g.1 + 240)), (1, .int y17)]) C.1.1 C.1.2.1 dX2_fewestToTell_74 hl (k := 2) rfl (by rw [ex20]; rfl) (by decide) rfl (fun ls hl => ?_)
            clear ex20
            refine lv_goto (tgt := 33) C.1.1 C.1.2.1 dX2_fewestToTell_77 (by decide) ?_
            obtain rfl := Option.some.inj h
            exact ih _ _ _ h9 _ _ _ hW (lv_sub hl [1, 2, 0] rfl) hx0
          clear h
          have h := hj19
          clear hj19
          refine lv_if_eq (tgt := 74) C.1.1 C.1.2.1 dX2_fewestToTell_58 (by decide) (fun hc21 => ?_) (fun hc21 => ?_)
          · replace h := ite_t hc21 h
            obtain rfl := inj1 h
            exact kJ18 _ _ _ hW (lv_sub hl [1, 2, 3] rfl)
          · replace h := ite_f hc21 h
            refine lv_aload_n C.1.1 C.1.2.1 dX2_fewestToTell_61 rfl (lv_at hl 1 rfl) ?_
            refine lv_iload_n C.1.1 C.1.2.1 dX2_fewestToTell_62 rfl (lv_at hl 3 rfl) ?_
            obtain ⟨r22, hc23, h⟩ := bd1_some h
            refine w_callVi (k := 1) (As := [.int z2]) (rest := []) C hW (c_X2_knownFrom g l  hc23) (by decide) rfl (EX_2 (by decide)) K_X2_44 (by decide +kernel) ⟨by decide, by decide⟩ ⟨Nat.le_refl _, Nat.le_refl _⟩ rfl hl.1 rfl (Nat.le_of_ble_eq_true rfl) dX2_fewestToTell_63 (fun H locs hW => ?_)
            refine lv_sipush (v := 255) C.1.1 C.1.2.1 dX2_fewestToTell_66 (by decide) ?_
            refine lv_icmp_ne (tgt := 74) C.1.1 C.1.2.1 dX2_fewestToTell_69 (by decide) (fun hc24 => ?_) (fun hc24 => ?_)
            · replace h := ite_f hc24 h
              obtain rfl := inj1 h
              exact kJ18 _ _ _ hW (lv_sub hl [1, 2, 3] rfl)
            · replace h := ite_t hc24 h
              refine lv_iload_n C.1.1 C.1.2.1 dX2_fewestToTell_72 rfl (lv_at hl 3 rfl) ?_
              refine lv_istore_n (lv' := [(1, .int z2), (3, .int y14), (0, .ref (g.1 + 240)), (2, .int z2)]) C.1.1 C.1.2.1 dX2_fewestToTell_73 rfl hl (by decide) rfl (fun ls hl => ?_)
              obtain rfl := inj1 h
              exact kJ18 _ _ _ hW (lv_sub hl [2, 0, 3] rfl)
        clear h
        have h := hj16
        clear hj16
        refine lv_icmp_ge (tgt := 55) C.1.1 C.1.2.1 dX2_fewestToTell_48 (by decide) (fun hc25 => ?_) (fun hc25 => ?_)
        · replace h := ite_t hc25 h
          refine lv_iconst (v := 0) C.1.1 C.1.2.1 dX2_fewestToTell_55 (by decide) ?_
          obtain rfl := inj1 h
          exact kJ15 _ _ _ hW (lv_sub hl [0, 1, 2] rfl)
        · replace h := ite_f hc25 h
          refine lv_iconst (v := 1) C.1.1 C.1.2.1 dX2_fewestToTell_51 (by decide) ?_
          refine lv_goto (tgt := 56) C.1.1 C.1.2.1 dX2_fewestToTell_52 (by decide) ?_
          obtain rfl := inj1 h
          exact kJ15 _ _ _ hW (lv_sub hl [0, 1, 2] rfl)
def f_X2_fewestToTell  (I : MI) (L : ML) : Option (Int32 × MI) :=
  bd1 (lp (fun s => b_X2_fewestToTell_2  L s.1 s.2) FU (((0 : Int32), I))) (fun I8 => bd1 (lp (fun s => b_X2_fewestToTell_33  I8 L s.1 s.2) FU (((255 : Int32), (0 : Int32)))) (fun y27 => some (y27, I8)))
set_option maxHeartbeats 4000000 in
set_option maxRecDepth 100000 in
theorem c_X2_fewestToTell (g : Gp) (l : Launch)   {I : MI} {L : ML} {r : Int32} {I' : MI} (h : f_X2_fewestToTell  I L = some (r, I')) : MetI g l yX2_fewestToTell cX2_fewestToTell 4 .int 1 [.ref (g.1 + 240)] I L r I' L := by
  unfold f_X2_fewestToTell at h
  refine w_enter (by decide) (Nat.le_of_ble_eq_true rfl) (own := RX2) rfl ?_
  intro p e s m below meth c args Q hQ C hr hlocks hW ls hl
  have hl : lv_has ls 4 [(0, .ref (g.1 + 240))] := hl
  refine lv_iconst (v := 0) C.1.1 C.1.2.1 dX2_fewestToTell_0 (by decide) ?_
  refine lv_istore_n (lv' := [(1, .int (0 : Int32)), (0, .ref (g.1 + 240))]) C.1.1 C.1.2.1 dX2_fewestToTell_1 rfl hl (by decide) rfl (fun ls hl => ?_)
  obtain ⟨I8, hq7, h⟩ := bd1_some h
  refine l_X2_fewestToTell_2 C   L _ _ _ _ hq7 _ _ _ hW (lv_sub hl [1, 0] rfl) (fun H locs ls hW hl => ?_)
  refine lv_sipush (v := 255) C.1.1 C.1.2.1 dX2_fewestToTell_27 (by decide) ?_
  refine lv_istore_n (lv' := [(1, .int (255 : Int32)), (0, .ref (g.1 + 240))]) C.1.1 C.1.2.1 dX2_fewestToTell_30 rfl hl (by decide) rfl (fun ls hl => ?_)
  refine lv_iconst (v := 0) C.1.1 C.1.2.1 dX2_fewestToTell_31 (by decide) ?_
  refine lv_istore_n (lv' := [(2, .int (0 : Int32)), (1, .int (255 : Int32)), (0, .ref (g.1 + 240))]) C.1.1 C.1.2.1 dX2_fewestToTell_32 rfl hl (by decide) rfl (fun ls hl => ?_)
  obtain ⟨y27, hq26, h⟩ := bd1_some h
  refine l_X2_fewestToTell_33 C   I8 L _ _ _ _ hq26 _ _ _ hW (lv_sub hl [2, 1, 0] rfl) (fun H locs ls hW hl => ?_)
  refine lv_iload_n C.1.1 C.1.2.1 dX2_fewestToTell_80 rfl (lv_at hl 0 rfl) ?_
  obtain ⟨rfl, rfl⟩ := inj2 h
  subst hQ
  exact w_iret C hW hr hlocks dX2_fewestToTell_81
def b_X9_takeFrom_50 (v0 : Nat) (v1 : Nat) (L : ML) (z2 : Int32) (I : MI) : Option ((Int32 × MI) ⊕ ((MI))) :=
  (if (6 : Int32) ≤ z2 then some (Sum.inr I) else gi z2 6 (gi z2 6 (bd1 (f_X6_takeFrom (v0 + 2 + z2.toNatClampNeg) (v1 + 2 + z2.toNatClampNeg) I L) (fun I10 => nm (z2 + (1 : Int32)) (fun x12 => some (Sum.inl (x12, I10)))))))
set_option maxHeartbeats 4000000 in
set_option maxRecDepth 100000 in
theorem l_X9_takeFrom_50 {g : Gp} {p : Program} {l : Launch} {e : Env} {s : State} {m : MethodId} {args : Array Value} {below : List Frame} {meth : Method} {c : Code} {Q : State → Prop}  (C : Cx g p s m args c RX9 cX9_takeFrom 3) (v0 : Nat) (v1 : Nat) (hv0 : kd v0 = 9) (hv1 : kd v1 = 9) (L : ML) : ∀ (n : Nat) (z2 : Int32) (I : MI) (Iy0 : MI), lp (fun s => b_X9_takeFrom_50 v0 v1 L s.1 s.2) n (z2, I) = some Iy0 → ∀ (H : Heap) (locs : List Loc) (ls : Array Slot), Ws g s I L H locs → lv_has ls 3 [(0, .ref (g.1 + v0)), (1, .ref (g.1 + v1)), (2, .int z2)] → (∀ (H : Heap) (locs : List Loc) (ls : Array Slot), Ws g s Iy0 L H locs → lv_has ls 3 [] → W p l e (rmD 1) s m args below meth c H locs 0 0 Q (F0 m 77 ls [])) → W p l e (rmD 1) s m args below meth c H locs 0 0 Q (F0 m 50 ls []) := by
  intro n
  induction n with
  | zero => intro z2 I Iy0 h; exact lp_zero h
  | succ n ih =>
      intro z2 I Iy0 h H locs ls hW hl hx0
      obtain ⟨r9, h, h9⟩ := lp_some h
      have h : b_X9_takeFrom_50 v0 v1 L z2 I = some r9 := h
      unfold b_X9_takeFrom_50 at h
      refine lv_iload_n C.1.1 C.1.2.1 dX9_takeFrom_50 rfl (lv_at hl 2 rfl) ?_
      refine lv_bipush (v := 6) C.1.1 C.1.2.1 dX9_takeFrom_51 (by decide) ?_
      refine lv_icmp_ge (tgt := 77) C.1.1 C.1.2.1 dX9_takeFrom_53 (by decide) (fun hc7 => ?_) (fun hc7 => ?_)
      · replace h := ite_t hc7 h
        obtain rfl := Option.some.inj h
        replace h9 := Option.some.inj h9
        obtain rfl := pnj1 h9
        exact hx0 _ _ _ hW (lv_sub hl [] rfl)
      · replace h := ite_f hc7 h
        refine lv_aload_n C.1.1 C.1.2.1 dX9_takeFrom_56 rfl (lv_at hl 0 rfl) ?_
        refine G_X9_11 C hW hv0 dX9_takeFrom_57 ?_
        refine lv_iload_n C.1.1 C.1.2.1 dX9_takeFrom_60 rfl (lv_at hl 2 rfl) ?_
        obtain ⟨hi8, h⟩ := gi_some h
        refine w_asit C hW (w := v0) hv0 hi8 dX9_takeFrom_61 ?_
        refine lv_aload_n C.1.1 C.1.2.1 dX9_takeFrom_62 rfl (lv_at hl 1 rfl) ?_
        refine G_X9_11 C hW hv1 dX9_takeFrom_63 ?_
        refine lv_iload_n C.1.1 C.1.2.1 dX9_takeFrom_66 rfl (lv_at hl 2 rfl) ?_
        obtain ⟨hi9, h⟩ := gi_some h
        refine w_asit C hW (w := v1) hv1 hi9 dX9_takeFrom_67 ?_
        obtain ⟨I10, hc11, h⟩ := bd1_some h
        refine w_callVv (k := 1) (As := [.ref (g.1 + (v1 + 2 + z2.toNatClampNeg))]) (rest := []) C hW (c_X6_takeFrom g l (kd_sit hv0 hi8) (kd_sit hv1 hi9) hc11) (kd_sit hv0 hi8) rfl (EX_6 (kd_sit hv0 hi8)) K_X9_37 (by decide +kernel) ⟨by decide, by decide⟩ ⟨Nat.le_refl _, Nat.le_refl _⟩ rfl hl.1 rfl (Nat.le_of_ble_eq_true rfl) dX9_takeFrom_68 (fun H locs hW => ?_)
        obtain ⟨x12, ex12⟩ : ∃ y : Int32, y = z2 + (1 : Int32) := ⟨_, rfl⟩
        replace h := nm_at ex12 h
        refine lv_iinc (v := x12) (lv' := [(2, .int x12), (0, .ref (g.1 + v0)), (1, .ref (g.1 + v1))]) C.1.1 C.1.2.1 dX9_takeFrom_71 hl (k := 2) rfl (by rw [ex12]; rfl) (by decide) rfl (fun ls hl => ?_)
        clear ex12
        refine lv_goto (tgt := 50) C.1.1 C.1.2.1 dX9_takeFrom_74 (by decide) ?_
        obtain rfl := Option.some.inj h
        exact ih _ _ _ h9 _ _ _ hW (lv_sub hl [1, 2, 0] rfl) hx0
def f_X9_takeFrom (a0 : Nat) (a1 : Nat) (I : MI) (L : ML) : Option (MI) :=
  nm (up2 I a0 1 (I a1 1)) (fun I1 => nm (up2 I1 a0 2 (I1 a1 2)) (fun I2 => nm (up2 I2 a0 3 (I2 a1 3)) (fun I3 => nm (up2 I3 a0 4 (I3 a1 4)) (fun I4 => nm (up2 I4 a0 5 (I4 a1 5)) (fun I5 => nm (up2 I5 a0 6 (I5 a1 6)) (fun I6 => bd1 (lp (fun s => b_X9_takeFrom_50 a0 a1 L s.1 s.2) FU (((0 : Int32), I6))) (fun I14 => some I14)))))))
set_option maxHeartbeats 4000000 in
set_option maxRecDepth 100000 in
theorem c_X9_takeFrom (g : Gp) (l : Launch) {a0 : Nat} {a1 : Nat} (ha0 : kd a0 = 9) (ha1 : kd a1 = 9) {I : MI} {L : ML} {I' : MI} (h : f_X9_takeFrom a0 a1 I L = some I') : MetV g l yX9_takeFrom cX9_takeFrom 3 1 [.ref (g.1 + a0), .ref (g.1 + a1)] I L I' L := by
  unfold f_X9_takeFrom at h
  refine w_enter (by decide) (Nat.le_of_ble_eq_true rfl) (own := RX9) rfl ?_
  intro p e s m below meth c args Q hQ C hr hlocks hW ls hl
  have hl : lv_has ls 3 [(0, .ref (g.1 + a0)), (1, .ref (g.1 + a1))] := hl
  refine lv_aload_n C.1.1 C.1.2.1 dX9_takeFrom_0 rfl (lv_at hl 0 rfl) ?_
  refine lv_aload_n C.1.1 C.1.2.1 dX9_takeFrom_1 rfl (lv_at hl 1 rfl) ?_
  refine G_X9_22 C hW ha1 dX9_takeFrom_2 ?_
  refine P_X9_22 C hW ha0 dX9_takeFrom_5 (fun H locs hW => ?_)
  obtain ⟨I1, eI1, h⟩ := nm_some h
  rw [← eI1] at hW
  clear eI1
  refine lv_aload_n C.1.1 C.1.2.1 dX9_takeFrom_8 rfl (lv_at hl 0 rfl) ?_
  refine lv_aload_n C.1.1 C.1.2.1 dX9_takeFrom_9 rfl (lv_at hl 1 rfl) ?_
  refine G_X9_25 C hW ha1 dX9_takeFrom_10 ?_
  refine P_X9_25 C hW ha0 dX9_takeFrom_13 (fun H locs hW => ?_)
  obtain ⟨I2, eI2, h⟩ := nm_some h
  rw [← eI2] at hW
  clear eI2
  refine lv_aload_n C.1.1 C.1.2.1 dX9_takeFrom_16 rfl (lv_at hl 0 rfl) ?_
  refine lv_aload_n C.1.1 C.1.2.1 dX9_takeFrom_17 rfl (lv_at hl 1 rfl) ?_
  refine G_X9_28 C hW ha1 dX9_takeFrom_18 ?_
  refine P_X9_28 C hW ha0 dX9_takeFrom_21 (fun H locs hW => ?_)
  obtain ⟨I3, eI3, h⟩ := nm_some h
  rw [← eI3] at hW
  clear eI3
  refine lv_aload_n C.1.1 C.1.2.1 dX9_takeFrom_24 rfl (lv_at hl 0 rfl) ?_
  refine lv_aload_n C.1.1 C.1.2.1 dX9_takeFrom_25 rfl (lv_at hl 1 rfl) ?_
  refine G_X9_31 C hW ha1 dX9_takeFrom_26 ?_
  refine P_X9_31 C hW ha0 dX9_takeFrom_29 (fun H locs hW => ?_)
  obtain ⟨I4, eI4, h⟩ := nm_some h
  rw [← eI4] at hW
  clear eI4
  refine lv_aload_n C.1.1 C.1.2.1 dX9_takeFrom_32 rfl (lv_at hl 0 rfl) ?_
  refine lv_aload_n C.1.1 C.1.2.1 dX9_takeFrom_33 rfl (lv_at hl 1 rfl) ?_
  refine G_X9_34 C hW ha1 dX9_takeFrom_34 ?_
  refine P_X9_34 C hW ha0 dX9_takeFrom_37 (fun H locs hW => ?_)
  obtain ⟨I5, eI5, h⟩ := nm_some h
  rw [← eI5] at hW
  clear eI5
  refine lv_aload_n C.1.1 C.1.2.1 dX9_takeFrom_40 rfl (lv_at hl 0 rfl) ?_
  refine lv_aload_n C.1.1 C.1.2.1 dX9_takeFrom_41 rfl (lv_at hl 1 rfl) ?_
  refine G_X9_17 C hW ha1 dX9_takeFrom_42 ?_
  refine P_X9_17 C hW ha0 dX9_takeFrom_45 (fun H locs hW => ?_)
  obtain ⟨I6, eI6, h⟩ := nm_some h
  rw [← eI6] at hW
  clear eI6
  refine lv_iconst (v := 0) C.1.1 C.1.2.1 dX9_takeFrom_48 (by decide) ?_
  refine lv_istore_n (lv' := [(2, .int (0 : Int32)), (0, .ref (g.1 + a0)), (1, .ref (g.1 + a1))]) C.1.1 C.1.2.1 dX9_takeFrom_49 rfl hl (by decide) rfl (fun ls hl => ?_)
  obtain ⟨I14, hq13, h⟩ := bd1_some h
  refine l_X9_takeFrom_50 C a0 a1 ha0 ha1 L _ _ _ _ hq13 _ _ _ hW (lv_sub hl [1, 2, 0] rfl) (fun H locs ls hW hl => ?_)
  obtain rfl := inj1 h
  subst hQ
  exact w_vret C hW hr hlocks dX9_takeFrom_77
def f_X3_keep (a1 : Nat) (I : MI) (L : ML) : Option (MI) :=
  gi (I 19 1) 20 (bd1 (f_X9_takeFrom (21 + 8 * (I 19 1).toNatClampNeg) a1 I L) (fun I2 => nm ((I2 19 1) + (1 : Int32)) (fun x4 => nm (up2 I2 19 1 (x4 - x4 / (20 : Int32) * (20 : Int32))) (fun I5 => nm (up2 I5 19 2 (mmin (20 : Int32) ((I5 19 2) + (1 : Int32)))) (fun I6 => some I6)))))
set_option maxHeartbeats 4000000 in
set_option maxRecDepth 100000 in
theorem c_X3_keep (g : Gp) (l : Launch) {a1 : Nat} (ha1 : kd a1 = 9) {I : MI} {L : ML} {I' : MI} (h : f_X3_keep a1 I L = some I') : MetV g l yX3_keep cX3_keep 2 2 [.ref (g.1 + 19), .ref (g.1 + a1)] I L I' L := by
  unfold f_X3_keep at h
  refine w_enter (by decide) (Nat.le_of_ble_eq_true rfl) (own := RX3) rfl ?_
  intro p e s m below meth c args Q hQ C hr hlocks hW ls hl
  have hl : lv_has ls 2 [(0, .ref (g.1 + 19)), (1, .ref (g.1 + a1))] := hl
  refine lv_aload_n C.1.1 C.1.2.1 dX3_keep_0 rfl (lv_at hl 0 rfl) ?_
  refine G_X3_11 C hW (by decide) dX3_keep_1 ?_
  refine lv_aload_n C.1.1 C.1.2.1 dX3_keep_4 rfl (lv_at hl 0 rfl) ?_
  refine G_X3_18 C hW (by decide) dX3_keep_5 ?_
  obtain ⟨hi1, h⟩ := gi_some h
  refine w_akept C hW hi1 dX3_keep_8 ?_
  refine lv_aload_n C.1.1 C.1.2.1 dX3_keep_9 rfl (lv_at hl 1 rfl) ?_
  obtain ⟨I2, hc3, h⟩ := bd1_some h
  refine w_callVv (k := 1) (As := [.ref (g.1 + a1)]) (rest := []) C hW (c_X9_takeFrom g l (kd_kept hi1) ha1 hc3) (kd_kept hi1) rfl (EX_9 (kd_kept hi1)) K_X3_22 (by decide +kernel) ⟨by decide, by decide⟩ ⟨Nat.le_refl _, Nat.le_refl _⟩ rfl hl.1 rfl (Nat.le_of_ble_eq_true rfl) dX3_keep_10 (fun H locs hW => ?_)
  refine lv_aload_n C.1.1 C.1.2.1 dX3_keep_13 rfl (lv_at hl 0 rfl) ?_
  refine lv_aload_n C.1.1 C.1.2.1 dX3_keep_14 rfl (lv_at hl 0 rfl) ?_
  refine G_X3_18 C hW (by decide) dX3_keep_15 ?_
  refine lv_iconst (v := 1) C.1.1 C.1.2.1 dX3_keep_18 (by decide) ?_
  refine lv_iadd C.1.1 C.1.2.1 dX3_keep_19 ?_
  refine lv_bipush (v := 20) C.1.1 C.1.2.1 dX3_keep_20 (by decide) ?_
  obtain ⟨x4, ex4⟩ : ∃ y, y = (I2 19 1) + (1 : Int32) := ⟨_, rfl⟩
  rw [← ex4]
  replace h := nm_at ex4 h
  clear ex4
  refine lv_irem C.1.1 C.1.2.1 dX3_keep_22 (by decide) ?_
  refine P_X3_18 C hW (by decide) dX3_keep_23 (fun H locs hW => ?_)
  obtain ⟨I5, eI5, h⟩ := nm_some h
  rw [← eI5] at hW
  clear eI5
  refine lv_aload_n C.1.1 C.1.2.1 dX3_keep_26 rfl (lv_at hl 0 rfl) ?_
  refine lv_bipush (v := 20) C.1.1 C.1.2.1 dX3_keep_27 (by decide) ?_
  refine lv_aload_n C.1.1 C.1.2.1 dX3_keep_29 rfl (lv_at hl 0 rfl) ?_
  refine G_X3_26 C hW (by decide) dX3_keep_30 ?_
  refine lv_iconst (v := 1) C.1.1 C.1.2.1 dX3_keep_33 (by decide) ?_
  refine lv_iadd C.1.1 C.1.2.1 dX3_keep_34 ?_
  refine M_X3_29 (rest := [.ref (g.1 + 19)]) C hl.1 ⟨by decide, Nat.le_of_ble_eq_true rfl⟩ ⟨Nat.le_refl _, Nat.le_refl _⟩ dX3_keep_35 ?_
  refine P_X3_26 C hW (by decide) dX3_keep_38 (fun H locs hW => ?_)
  obtain ⟨I6, eI6, h⟩ := nm_some h
  rw [← eI6] at hW
  clear eI6
  obtain rfl := inj1 h
  subst hQ
  exact w_vret C hW hr hlocks dX3_keep_41
def f_X3_giveBack (a1 : Nat) (I : MI) (L : ML) : Option (Int32 × MI) :=
  (if (I 19 2) = 0 then some (((0 : Int32), I)) else nm (((I 19 1) + (20 : Int32)) - (1 : Int32)) (fun x2 => nm (up2 I 19 1 (x2 - x2 / (20 : Int32) * (20 : Int32))) (fun I3 => nm (up2 I3 19 2 ((I3 19 2) - (1 : Int32))) (fun I4 => gi (I4 19 1) 20 (bd1 (f_X9_takeFrom a1 (21 + 8 * (I4 19 1).toNatClampNeg) I4 L) (fun I6 => some (((1 : Int32), I6))))))))
set_option maxHeartbeats 4000000 in
set_option maxRecDepth 100000 in
theorem c_X3_giveBack (g : Gp) (l : Launch) {a1 : Nat} (ha1 : kd a1 = 9) {I : MI} {L : ML} {r : Int32} {I' : MI} (h : f_X3_giveBack a1 I L = some (r, I')) : MetI g l yX3_giveBack cX3_giveBack 2 .boolean 2 [.ref (g.1 + 19), .ref (g.1 + a1)] I L r I' L := by
  unfold f_X3_giveBack at h
  refine w_enter (by decide) (Nat.le_of_ble_eq_true rfl) (own := RX3) rfl ?_
  intro p e s m below meth c args Q hQ C hr hlocks hW ls hl
  have hl : lv_has ls 2 [(0, .ref (g.1 + 19)), (1, .ref (g.1 + a1))] := hl
  refine lv_aload_n C.1.1 C.1.2.1 dX3_giveBack_0 rfl (lv_at hl 0 rfl) ?_
  refine G_X3_26 C hW (by decide) dX3_giveBack_1 ?_
  refine lv_if_ne (tgt := 9) C.1.1 C.1.2.1 dX3_giveBack_4 (by decide) (fun hc1 => ?_) (fun hc1 => ?_)
  · replace h := ite_f hc1 h
    refine lv_aload_n C.1.1 C.1.2.1 dX3_giveBack_9 rfl (lv_at hl 0 rfl) ?_
    refine lv_aload_n C.1.1 C.1.2.1 dX3_giveBack_10 rfl (lv_at hl 0 rfl) ?_
    refine G_X3_18 C hW (by decide) dX3_giveBack_11 ?_
    refine lv_bipush (v := 20) C.1.1 C.1.2.1 dX3_giveBack_14 (by decide) ?_
    refine lv_iadd C.1.1 C.1.2.1 dX3_giveBack_16 ?_
    refine lv_iconst (v := 1) C.1.1 C.1.2.1 dX3_giveBack_17 (by decide) ?_
    refine lv_isub C.1.1 C.1.2.1 dX3_giveBack_18 ?_
    refine lv_bipush (v := 20) C.1.1 C.1.2.1 dX3_giveBack_19 (by decide) ?_
    obtain ⟨x2, ex2⟩ : ∃ y, y = ((I 19 1) + (20 : Int32)) - (1 : Int32) := ⟨_, rfl⟩
    rw [← ex2]
    replace h := nm_at ex2 h
    clear ex2
    refine lv_irem C.1.1 C.1.2.1 dX3_giveBack_21 (by decide) ?_
    refine P_X3_18 C hW (by decide) dX3_giveBack_22 (fun H locs hW => ?_)
    obtain ⟨I3, eI3, h⟩ := nm_some h
    rw [← eI3] at hW
    clear eI3
    refine lv_aload_n C.1.1 C.1.2.1 dX3_giveBack_25 rfl (lv_at hl 0 rfl) ?_
    refine lv_dup C.1.1 C.1.2.1 dX3_giveBack_26 rfl ?_
    refine G_X3_26 C hW (by decide) dX3_giveBack_27 ?_
    refine lv_iconst (v := 1) C.1.1 C.1.2.1 dX3_giveBack_30 (by decide) ?_
    refine lv_isub C.1.1 C.1.2.1 dX3_giveBack_31 ?_
    refine P_X3_26 C hW (by decide) dX3_giveBack_32 (fun H locs hW => ?_)
    obtain ⟨I4, eI4, h⟩ := nm_some h
    rw [← eI4] at hW
    clear eI4
    refine lv_aload_n C.1.1 C.1.2.1 dX3_giveBack_35 rfl (lv_at hl 1 rfl) ?_
    refine lv_aload_n C.1.1 C.1.2.1 dX3_giveBack_36 rfl (lv_at hl 0 rfl) ?_
    refine G_X3_11 C hW (by decide) dX3_giveBack_37 ?_
    refine lv_aload_n C.1.1 C.1.2.1 dX3_giveBack_40 rfl (lv_at hl 0 rfl) ?_
    refine G_X3_18 C hW (by decide) dX3_giveBack_41 ?_
    obtain ⟨hi5, h⟩ := gi_some h
    refine w_akept C hW hi5 dX3_giveBack_44 ?_
    obtain ⟨I6, hc7, h⟩ := bd1_some h
    refine w_callVv (k := 1) (As := [.ref (g.1 + (21 + 8 * (I4 19 1).toNatClampNeg))]) (rest := []) C hW (c_X9_takeFrom g l ha1 (kd_kept hi5) hc7) ha1 rfl (EX_9 ha1) K_X3_22 (by decide +kernel) ⟨by decide, by decide⟩ ⟨Nat.le_refl _, Nat.le_refl _⟩ rfl hl.1 rfl (Nat.le_of_ble_eq_true rfl) dX3_giveBack_45 (fun H locs hW => ?_)
    refine lv_iconst (v := 1) C.1.1 C.1.2.1 dX3_giveBack_48 (by decide) ?_
    obtain ⟨rfl, rfl⟩ := inj2 h
    subst hQ
    exact w_zret C hW hr hlocks (by decide) dX3_giveBack_49
  · replace h := ite_t hc1 h
    refine lv_iconst (v := 0) C.1.1 C.1.2.1 dX3_giveBack_7 (by decide) ?_
    obtain ⟨rfl, rfl⟩ := inj2 h
    subst hQ
    exact w_zret C hW hr hlocks (by decide) dX3_giveBack_8
