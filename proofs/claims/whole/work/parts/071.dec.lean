def b_X10_dusk_39 (v1 : Int32) (L : ML) (z2 : Int32) (I : MI) : Option ((Int32 × MI) ⊕ ((MI) ⊕ (Int32 × MI))) :=
  (if z2 < (1 : Int32) then some (Sum.inr (Sum.inl I)) else bd1 (f_X1_setNights (I 3 4) z2 I L) (fun I10 => bd2 (f_X1_sittingBehind 3 v1 I10 L) (fun r12 I13 => (if (1 : Int32) < r12 then nm (z2 + (-1 : Int32)) (fun x16 => some (Sum.inl (x16, I13))) else some (Sum.inr ((Sum.inr (z2, I13))))))))
set_option maxHeartbeats 4000000 in
set_option maxRecDepth 100000 in
theorem l_X10_dusk_39 {g : Gp} {p : Program} {l : Launch} {e : Env} {s : State} {m : MethodId} {args : Array Value} {below : List Frame} {meth : Method} {c : Code} {Q : State → Prop}  (C : Cx g p s m args c RX10 cX10_dusk 3) (v1 : Int32)  (L : ML) : ∀ (n : Nat) (z2 : Int32) (I : MI) (x : (MI) ⊕ (Int32 × MI)), lp (fun s => b_X10_dusk_39 v1 L s.1 s.2) n (z2, I) = some x → ∀ (H : Heap) (locs : List Loc) (ls : Array Slot), Ws g s I L H locs → lv_has ls 3 [(0, .ref (g.1 + 0)), (1, .int v1), (2, .int z2)] → (∀ (Iy0 : MI), x = (Sum.inl Iy0) → ∀ (H : Heap) (locs : List Loc) (ls : Array Slot), Ws g s Iy0 L H locs → lv_has ls 3 [] → W p l e (rmD 6) s m args below meth c H locs 0 0 Q (F0 m 83 ls [])) → (∀ (y1_2 : Int32) (Iy1 : MI), x = (Sum.inr (y1_2, Iy1)) → ∀ (H : Heap) (locs : List Loc) (ls : Array Slot), Ws g s Iy1 L H locs → lv_has ls 3 [(2, .int y1_2)] → W p l e (rmD 6) s m args below meth c H locs 0 0 Q (F0 m 75 ls [])) → W p l e (rmD 6) s m args below meth c H locs 0 0 Q (F0 m 39 ls []) := by
  intro n
  induction n with
  | zero => intro z2 I x h; exact lp_zero h
  | succ n ih =>
      intro z2 I x h H locs ls hW hl hx0 hx1
      obtain ⟨r9, h, h9⟩ := lp_some h
      have h : b_X10_dusk_39 v1 L z2 I = some r9 := h
      unfold b_X10_dusk_39 at h
      refine lv_iload_n C.1.1 C.1.2.1 dX10_dusk_39 rfl (lv_at hl 2 rfl) ?_
      refine lv_iconst (v := 1) C.1.1 C.1.2.1 dX10_dusk_40 (by decide) ?_
      refine lv_icmp_lt (tgt := 83) C.1.1 C.1.2.1 dX10_dusk_41 (by decide) (fun hc9 => ?_) (fun hc9 => ?_)
      · replace h := ite_t hc9 h
        obtain rfl := Option.some.inj h
        exact hx0 _ (Option.some.inj h9).symm _ _ _ hW (lv_sub hl [] rfl)
      · replace h := ite_f hc9 h
        refine lv_aload_n C.1.1 C.1.2.1 dX10_dusk_44 rfl (lv_at hl 0 rfl) ?_
        refine G_X10_47 C hW (by decide) dX10_dusk_45 ?_
        refine lv_aload_n C.1.1 C.1.2.1 dX10_dusk_48 rfl (lv_at hl 0 rfl) ?_
        refine G_X10_19 C hW (by decide) dX10_dusk_49 ?_
        refine G_X10_166 C hW (by decide) dX10_dusk_52 ?_
        refine lv_iload_n C.1.1 C.1.2.1 dX10_dusk_55 rfl (lv_at hl 2 rfl) ?_
        obtain ⟨I10, hc11, h⟩ := bd1_some h
        refine w_callVv (k := 2) (As := [.int (I 3 4), .int z2]) (rest := []) C hW (c_X1_setNights g l  hc11) (by decide) rfl (EX_1 (by decide)) K_X10_243 (by decide +kernel) ⟨by decide, by decide⟩ ⟨Nat.le_refl _, Nat.le_refl _⟩ rfl hl.1 rfl (Nat.le_of_ble_eq_true rfl) dX10_dusk_56 (fun H locs hW => ?_)
        refine lv_aload_n C.1.1 C.1.2.1 dX10_dusk_59 rfl (lv_at hl 0 rfl) ?_
        refine G_X10_47 C hW (by decide) dX10_dusk_60 ?_
        refine lv_aload_n C.1.1 C.1.2.1 dX10_dusk_63 rfl (lv_at hl 0 rfl) ?_
        refine G_X10_19 C hW (by decide) dX10_dusk_64 ?_
        refine lv_iload_n C.1.1 C.1.2.1 dX10_dusk_67 rfl (lv_at hl 1 rfl) ?_
        obtain ⟨r12, I13, hc14, h⟩ := bd2_some h
        refine w_callVi (k := 2) (As := [.ref (g.1 + 3), .int v1]) (rest := []) C hW (c_X1_sittingBehind g l (by decide) hc14) (by decide) rfl (EX_1 (by decide)) K_X10_247 (by decide +kernel) ⟨by decide, by decide⟩ ⟨Nat.le_refl _, Nat.le_refl _⟩ rfl hl.1 rfl (Nat.le_of_ble_eq_true rfl) dX10_dusk_68 (fun H locs hW => ?_)
        refine lv_iconst (v := 1) C.1.1 C.1.2.1 dX10_dusk_71 (by decide) ?_
        refine lv_icmp_gt (tgt := 77) C.1.1 C.1.2.1 dX10_dusk_72 (by decide) (fun hc15 => ?_) (fun hc15 => ?_)
        · replace h := ite_t hc15 h
          obtain ⟨x16, ex16⟩ : ∃ y : Int32, y = z2 + (-1 : Int32) := ⟨_, rfl⟩
          replace h := nm_at ex16 h
          refine lv_iinc (v := x16) (lv' := [(2, .int x16), (0, .ref (g.1 + 0)), (1, .int v1)]) C.1.1 C.1.2.1 dX10_dusk_77 hl (k := 2) rfl (by rw [ex16]; rfl) (by decide) rfl (fun ls hl => ?_)
          clear ex16
          refine lv_goto (tgt := 39) C.1.1 C.1.2.1 dX10_dusk_80 (by decide) ?_
          obtain rfl := Option.some.inj h
          exact ih _ _ _ h9 _ _ _ hW (lv_sub hl [1, 2, 0] rfl) hx0 hx1
        · replace h := ite_f hc15 h
          obtain rfl := Option.some.inj h
          exact hx1 _ _ (Option.some.inj h9).symm _ _ _ hW (lv_sub hl [2] rfl)
def f_X10_dusk (a1 : Int32) (I : MI) (L : ML) : Option (Int32 × MI) :=
  bd1 (f_X10_within a1 (1 : Int32) (40 : Int32)) (fun r1 => (if r1 = 0 then some (((-1 : Int32), I)) else bd1 (f_X9_stands 3 I L) (fun r4 => (if r4 = 0 then some (((-2 : Int32), I)) else bd1 (f_X1_look 3 I L) (fun I7 => bd1 (lp (fun s => b_X10_dusk_39 a1 L s.1 s.2) FU (((24 : Int32), I7))) (fun x18 => Sum.elim (fun t21 => some (((-4 : Int32), t21))) (fun t25 => some (t25.1, t25.2)) x18))))))
set_option maxHeartbeats 4000000 in
set_option maxRecDepth 100000 in
theorem c_X10_dusk (g : Gp) (l : Launch) {a1 : Int32}  {I : MI} {L : ML} {r : Int32} {I' : MI} (h : f_X10_dusk a1 I L = some (r, I')) : MetI g l yX10_dusk cX10_dusk 3 .int 6 [.ref (g.1 + 0), .int a1] I L r I' L := by
  unfold f_X10_dusk at h
  refine w_enter (by decide) (Nat.le_of_ble_eq_true rfl) (own := RX10) rfl ?_
  intro p e s m below meth c args Q hQ C hr hlocks hW ls hl
  have hl : lv_has ls 3 [(0, .ref (g.1 + 0)), (1, .int a1)] := hl
  refine lv_iload_n C.1.1 C.1.2.1 dX10_dusk_0 rfl (lv_at hl 1 rfl) ?_
  refine lv_iconst (v := 1) C.1.1 C.1.2.1 dX10_dusk_1 (by decide) ?_
  refine lv_bipush (v := 40) C.1.1 C.1.2.1 dX10_dusk_2 (by decide) ?_
  obtain ⟨r1, hc2, h⟩ := bd1_some h
  refine w_callSi (k := 3) (As := [.int a1, .int (1 : Int32), .int (40 : Int32)]) (rest := []) C hW (c_X10_within g l  hc2 I L) K_X10_79 (by decide +kernel) ⟨by decide, by decide⟩ ⟨Nat.le_refl _, Nat.le_refl _⟩ rfl hl.1 rfl (Nat.le_of_ble_eq_true rfl) dX10_dusk_4 (fun H locs hW => ?_)
  refine lv_if_ne (tgt := 12) C.1.1 C.1.2.1 dX10_dusk_7 (by decide) (fun hc3 => ?_) (fun hc3 => ?_)
  · replace h := ite_f hc3 h
    refine lv_aload_n C.1.1 C.1.2.1 dX10_dusk_12 rfl (lv_at hl 0 rfl) ?_
    refine G_X10_19 C hW (by decide) dX10_dusk_13 ?_
    obtain ⟨r4, hc5, h⟩ := bd1_some h
    refine w_callVi (k := 0) (As := []) (rest := []) C hW (c_X9_stands g l (by decide) hc5) (by decide) rfl (EX_9 (by decide)) K_X10_163 (by decide +kernel) ⟨by decide, by decide⟩ ⟨Nat.le_refl _, Nat.le_refl _⟩ rfl hl.1 rfl (Nat.le_of_ble_eq_true rfl) dX10_dusk_16 (fun H locs hW => ?_)
    refine lv_if_ne (tgt := 25) C.1.1 C.1.2.1 dX10_dusk_19 (by decide) (fun hc6 => ?_) (fun hc6 => ?_)
    · replace h := ite_f hc6 h
      refine lv_aload_n C.1.1 C.1.2.1 dX10_dusk_25 rfl (lv_at hl 0 rfl) ?_
      refine G_X10_47 C hW (by decide) dX10_dusk_26 ?_
      refine lv_aload_n C.1.1 C.1.2.1 dX10_dusk_29 rfl (lv_at hl 0 rfl) ?_
      refine G_X10_19 C hW (by decide) dX10_dusk_30 ?_
      obtain ⟨I7, hc8, h⟩ := bd1_some h
      refine w_callVv (k := 1) (As := [.ref (g.1 + 3)]) (rest := []) C hW (c_X1_look g l (by decide) hc8) (by decide) rfl (EX_1 (by decide)) K_X10_210 (by decide +kernel) ⟨by decide, by decide⟩ ⟨Nat.le_refl _, Nat.le_refl _⟩ rfl hl.1 rfl (Nat.le_of_ble_eq_true rfl) dX10_dusk_33 (fun H locs hW => ?_)
      refine lv_bipush (v := 24) C.1.1 C.1.2.1 dX10_dusk_36 (by decide) ?_
      refine lv_istore_n (lv' := [(2, .int (24 : Int32)), (0, .ref (g.1 + 0)), (1, .int a1)]) C.1.1 C.1.2.1 dX10_dusk_38 rfl hl (by decide) rfl (fun ls hl => ?_)
      obtain ⟨x18, hq17, h⟩ := bd1_some h
      refine l_X10_dusk_39 C a1  L _ _ _ _ hq17 _ _ _ hW (lv_sub hl [1, 2, 0] rfl) ?_ ?_
      · intro I19 ex20 H locs ls hW hl
        subst ex20
        simp only [Sum.elim_inl, Sum.elim_inr] at h
        refine lv_bipush (v := -4) C.1.1 C.1.2.1 dX10_dusk_83 (by decide) ?_
        obtain ⟨rfl, rfl⟩ := inj2 h
        subst hQ
        exact w_iret C hW hr hlocks dX10_dusk_85
      · intro y22 I23 ex24 H locs ls hW hl
        subst ex24
        simp only [Sum.elim_inl, Sum.elim_inr] at h
        refine lv_iload_n C.1.1 C.1.2.1 dX10_dusk_75 rfl (lv_at hl 0 rfl) ?_
        obtain ⟨rfl, rfl⟩ := inj2 h
        subst hQ
        exact w_iret C hW hr hlocks dX10_dusk_76
    · replace h := ite_t hc6 h
      refine lv_bipush (v := -2) C.1.1 C.1.2.1 dX10_dusk_22 (by decide) ?_
      obtain ⟨rfl, rfl⟩ := inj2 h
      subst hQ
      exact w_iret C hW hr hlocks dX10_dusk_24
  · replace h := ite_t hc3 h
    refine lv_iconst (v := -1) C.1.1 C.1.2.1 dX10_dusk_10 (by decide) ?_
    obtain ⟨rfl, rfl⟩ := inj2 h
    subst hQ
    exact w_iret C hW hr hlocks dX10_dusk_11
def f_X10_odds (a1 : Int32) (a2 : Int32) (a3 : Int32) (a4 : Int32) (a5 : Int32) (I : MI) (L : ML) : Option (Int64 × MI) :=
  bd1 (f_X10_within a3 (0 : Int32) (10 : Int32)) (fun r1 => (if r1 = 0 then some (((-1 : Int64), I)) else bd1 (f_X10_within a4 (0 : Int32) (10 : Int32)) (fun r4 => (if r4 = 0 then some (((-1 : Int64), I)) else bd1 (f_X10_within a5 (0 : Int32) (1 : Int32)) (fun r7 => (if r7 = 0 then some (((-1 : Int64), I)) else bd1 (f_X10_refusesTwo a1 a2 I L) (fun r10 => (if r10 = 0 then bd1 (f_X0_weigh 3 a3 a4 I L) (fun I13 => gi a1 6 (gi a2 6 (bd2 (f_X0_waysToOutlast (3 + 2 + a1.toNatClampNeg) (3 + 2 + a2.toNatClampNeg) I13 L) (fun r17 I18 => bd1 (f_X0_lowest r17 a5 I18 L) (fun r20 => some (r20, I18)))))) else some (r10.toInt64, I)))))))))
set_option maxHeartbeats 4000000 in
set_option maxRecDepth 100000 in
theorem c_X10_odds (g : Gp) (l : Launch) {a1 : Int32} {a2 : Int32} {a3 : Int32} {a4 : Int32} {a5 : Int32}  {I : MI} {L : ML} {r : Int64} {I' : MI} (h : f_X10_odds a1 a2 a3 a4 a5 I L = some (r, I')) : MetL g l yX10_odds cX10_odds 7 15 [.ref (g.1 + 0), .int a1, .int a2, .int a3, .int a4, .int a5] I L r I' L := by
  unfold f_X10_odds at h
  refine w_enter (by decide) (Nat.le_of_ble_eq_true rfl) (own := RX10) rfl ?_
  intro p e s m below meth c args Q hQ C hr hlocks hW ls hl
  have hl : lv_has ls 7 [(0, .ref (g.1 + 0)), (1, .int a1), (2, .int a2), (3, .int a3), (4, .int a4), (5, .int a5)] := hl
  refine lv_iload_n C.1.1 C.1.2.1 dX10_odds_0 rfl (lv_at hl 3 rfl) ?_
  refine lv_iconst (v := 0) C.1.1 C.1.2.1 dX10_odds_1 (by decide) ?_
  refine lv_bipush (v := 10) C.1.1 C.1.2.1 dX10_odds_2 (by decide) ?_
  obtain ⟨r1, hc2, h⟩ := bd1_some h
  refine w_callSi (k := 3) (As := [.int a3, .int (0 : Int32), .int (10 : Int32)]) (rest := []) C hW (c_X10_within g l  hc2 I L) K_X10_79 (by decide +kernel) ⟨by decide, by decide⟩ ⟨Nat.le_refl _, Nat.le_refl _⟩ rfl hl.1 rfl (Nat.le_of_ble_eq_true rfl) dX10_odds_4 (fun H locs hW => ?_)
  refine lv_if_eq (tgt := 31) C.1.1 C.1.2.1 dX10_odds_7 (by decide) (fun hc3 => ?_) (fun hc3 => ?_)
  · replace h := ite_t hc3 h
    refine lv_ldc2 C.1.1 C.1.2.1 C.1.2.2.2.1 (C.1.2.2.2.2 _ kl_X10_251) dX10_odds_31 ?_
    obtain ⟨rfl, rfl⟩ := inj2 h
    subst hQ
    exact w_lret C hW hr hlocks dX10_odds_34
  · replace h := ite_f hc3 h
    refine lv_iload C.1.1 C.1.2.1 dX10_odds_10 (lv_at hl 4 rfl) ?_
    refine lv_iconst (v := 0) C.1.1 C.1.2.1 dX10_odds_12 (by decide) ?_
    refine lv_bipush (v := 10) C.1.1 C.1.2.1 dX10_odds_13 (by decide) ?_
    obtain ⟨r4, hc5, h⟩ := bd1_some h
    refine w_callSi (k := 3) (As := [.int a4, .int (0 : Int32), .int (10 : Int32)]) (rest := []) C hW (c_X10_within g l  hc5 I L) K_X10_79 (by decide +kernel) ⟨by decide, by decide⟩ ⟨Nat.le_refl _, Nat.le_refl _⟩ rfl hl.1 rfl (Nat.le_of_ble_eq_true rfl) dX10_odds_15 (fun H locs hW => ?_)
    refine lv_if_eq (tgt := 31) C.1.1 C.1.2.1 dX10_odds_18 (by decide) (fun hc6 => ?_) (fun hc6 => ?_)
    · replace h := ite_t hc6 h
      refine lv_ldc2 C.1.1 C.1.2.1 C.1.2.2.2.1 (C.1.2.2.2.2 _ kl_X10_251) dX10_odds_31 ?_
      obtain ⟨rfl, rfl⟩ := inj2 h
      subst hQ
      exact w_lret C hW hr hlocks dX10_odds_34
    · replace h := ite_f hc6 h
      refine lv_iload C.1.1 C.1.2.1 dX10_odds_21 (lv_at hl 5 rfl) ?_
      refine lv_iconst (v := 0) C.1.1 C.1.2.1 dX10_odds_23 (by decide) ?_
      refine lv_iconst (v := 1) C.1.1 C.1.2.1 dX10_odds_24 (by decide) ?_
      obtain ⟨r7, hc8, h⟩ := bd1_some h
      refine w_callSi (k := 3) (As := [.int a5, .int (0 : Int32), .int (1 : Int32)]) (rest := []) C hW (c_X10_within g l  hc8 I L) K_X10_79 (by decide +kernel) ⟨by decide, by decide⟩ ⟨Nat.le_refl _, Nat.le_refl _⟩ rfl hl.1 rfl (Nat.le_of_ble_eq_true rfl) dX10_odds_25 (fun H locs hW => ?_)
      refine lv_if_ne (tgt := 35) C.1.1 C.1.2.1 dX10_odds_28 (by decide) (fun hc9 => ?_) (fun hc9 => ?_)
      · replace h := ite_f hc9 h
        refine lv_aload_n C.1.1 C.1.2.1 dX10_odds_35 rfl (lv_at hl 0 rfl) ?_
        refine lv_iload_n C.1.1 C.1.2.1 dX10_odds_36 rfl (lv_at hl 1 rfl) ?_
        refine lv_iload_n C.1.1 C.1.2.1 dX10_odds_37 rfl (lv_at hl 2 rfl) ?_
        obtain ⟨r10, hc11, h⟩ := bd1_some h
        refine w_callVi (k := 2) (As := [.int a1, .int a2]) (rest := []) C hW (c_X10_refusesTwo g l  hc11) (by decide) rfl (EX_10 (by decide)) K_X10_221 (by decide +kernel) ⟨by decide, by decide⟩ ⟨Nat.le_refl _, Nat.le_refl _⟩ rfl hl.1 rfl (Nat.le_of_ble_eq_true rfl) dX10_odds_38 (fun H locs hW => ?_)
        refine lv_istore (lv' := [(6, .int r10), (0, .ref (g.1 + 0)), (1, .int a1), (2, .int a2), (3, .int a3), (4, .int a4), (5, .int a5)]) C.1.1 C.1.2.1 dX10_odds_41 hl (by decide) rfl (fun ls hl => ?_)
        refine lv_iload C.1.1 C.1.2.1 dX10_odds_43 (lv_at hl 0 rfl) ?_
        refine lv_if_eq (tgt := 52) C.1.1 C.1.2.1 dX10_odds_45 (by decide) (fun hc12 => ?_) (fun hc12 => ?_)
        · replace h := ite_t hc12 h
          refine lv_aload_n C.1.1 C.1.2.1 dX10_odds_52 rfl (lv_at hl 1 rfl) ?_
          refine G_X10_54 C hW (by decide) dX10_odds_53 ?_
          refine lv_aload_n C.1.1 C.1.2.1 dX10_odds_56 rfl (lv_at hl 1 rfl) ?_
          refine G_X10_19 C hW (by decide) dX10_odds_57 ?_
          refine lv_iload_n C.1.1 C.1.2.1 dX10_odds_60 rfl (lv_at hl 4 rfl) ?_
          refine lv_iload C.1.1 C.1.2.1 dX10_odds_61 (lv_at hl 5 rfl) ?_
          obtain ⟨I13, hc14, h⟩ := bd1_some h
          refine w_callVv (k := 3) (As := [.ref (g.1 + 3), .int a3, .int a4]) (rest := []) C hW (c_X0_weigh g l (by decide) hc14) (by decide) rfl (EX_0 (by decide)) K_X10_253 (by decide +kernel) ⟨by decide, by decide⟩ ⟨Nat.le_refl _, Nat.le_refl _⟩ rfl hl.1 rfl (Nat.le_of_ble_eq_true rfl) dX10_odds_63 (fun H locs hW => ?_)
          refine lv_aload_n C.1.1 C.1.2.1 dX10_odds_66 rfl (lv_at hl 1 rfl) ?_
          refine G_X10_54 C hW (by decide) dX10_odds_67 ?_
          refine lv_aload_n C.1.1 C.1.2.1 dX10_odds_70 rfl (lv_at hl 1 rfl) ?_
          refine G_X10_54 C hW (by decide) dX10_odds_71 ?_
          refine lv_aload_n C.1.1 C.1.2.1 dX10_odds_74 rfl (lv_at hl 1 rfl) ?_
          refine G_X10_19 C hW (by decide) dX10_odds_75 ?_
          refine G_X10_111 C hW (by decide) dX10_odds_78 ?_
          refine lv_iload_n C.1.1 C.1.2.1 dX10_odds_81 rfl (lv_at hl 2 rfl) ?_
          obtain ⟨hi15, h⟩ := gi_some h
          refine w_asit C hW (w := 3) (by decide) hi15 dX10_odds_82 ?_
          refine lv_aload_n C.1.1 C.1.2.1 dX10_odds_83 rfl (lv_at hl 1 rfl) ?_
          refine G_X10_19 C hW (by decide) dX10_odds_84 ?_
          refine G_X10_111 C hW (by decide) dX10_odds_87 ?_
          refine lv_iload_n C.1.1 C.1.2.1 dX10_odds_90 rfl (lv_at hl 3 rfl) ?_
          obtain ⟨hi16, h⟩ := gi_some h
          refine w_asit C hW (w := 3) (by decide) hi16 dX10_odds_91 ?_
          obtain ⟨r17, I18, hc19, h⟩ := bd2_some h
          refine w_callVl (k := 2) (As := [.ref (g.1 + (3 + 2 + a1.toNatClampNeg)), .ref (g.1 + (3 + 2 + a2.toNatClampNeg))]) (rest := [.ref (g.1 + 212)]) C hW (c_X0_waysToOutlast g l (kd_sit (by decide) hi15) (kd_sit (by decide) hi16) hc19) (by decide) rfl (EX_0 (by decide)) K_X10_257 (by decide +kernel) ⟨by decide, by decide⟩ ⟨Nat.le_refl _, Nat.le_refl _⟩ rfl hl.1 rfl (Nat.le_of_ble_eq_true rfl) dX10_odds_92 (fun H locs hW => ?_)
          refine lv_iload C.1.1 C.1.2.1 dX10_odds_95 (lv_at hl 6 rfl) ?_
          obtain ⟨r20, hc21, h⟩ := bd1_some h
          refine w_callVl (k := 2) (As := [.long r17, .int a5]) (rest := []) C hW (c_X0_lowest g l  hc21) (by decide) rfl (EX_0 (by decide)) K_X10_261 (by decide +kernel) ⟨by decide, by decide⟩ ⟨Nat.le_refl _, Nat.le_refl _⟩ rfl hl.1 rfl (Nat.le_of_ble_eq_true rfl) dX10_odds_97 (fun H locs hW => ?_)
          obtain ⟨rfl, rfl⟩ := inj2 h
          subst hQ
          exact w_lret C hW hr hlocks dX10_odds_100
        · replace h := ite_f hc12 h
          refine lv_iload C.1.1 C.1.2.1 dX10_odds_48 (lv_at hl 0 rfl) ?_
          refine lv_i2l C.1.1 C.1.2.1 dX10_odds_50 rfl ?_
          obtain ⟨rfl, rfl⟩ := inj2 h
          subst hQ
          exact w_lret C hW hr hlocks dX10_odds_51
      · replace h := ite_t hc9 h
        refine lv_ldc2 C.1.1 C.1.2.1 C.1.2.2.2.1 (C.1.2.2.2.2 _ kl_X10_251) dX10_odds_31 ?_
        obtain ⟨rfl, rfl⟩ := inj2 h
        subst hQ
        exact w_lret C hW hr hlocks dX10_odds_34
def b_X10_challenge_62 (v1 : Int32) (L : ML) (z5 : Int32) (z6 : Int64) (z8 : Int32) (I : MI) : Option ((Int32 × Int64 × Int32 × MI) ⊕ ((Int32 × MI))) :=
  (if (I 3 1) ≤ z8 then some (Sum.inr (z5, I)) else bd3 ((if z8 = v1 then some (z5, z6, I) else gi z8 6 (bd1 (f_X6_sits (3 + 2 + z8.toNatClampNeg) I L) (fun r21 => (if r21 = 0 then some (z5, z6, I) else gi v1 6 (gi z8 6 (bd2 (f_X0_waysToOutlast (3 + 2 + v1.toNatClampNeg) (3 + 2 + z8.toNatClampNeg) I L) (fun r26 I27 => (if (lg_cmp r26 z6) ≤ 0 then some (z5, z6, I27) else some (z8, r26, I27)))))))))) (fun y13 y14 I15 => nm (z8 + (1 : Int32)) (fun x18 => some (Sum.inl (y13, y14, x18, I15)))))
set_option maxHeartbeats 4000000 in
set_option maxRecDepth 100000 in
theorem l_X10_challenge_62 {g : Gp} {p : Program} {l : Launch} {e : Env} {s : State} {m : MethodId} {args : Array Value} {below : List Frame} {meth : Method} {c : Code} {Q : State → Prop}  (C : Cx g p s m args c RX10 cX10_challenge 11) (v1 : Int32)  (L : ML) : ∀ (n : Nat) (z5 : Int32) (z6 : Int64) (z8 : Int32) (I : MI) (y0_5 : Int32) (Iy0 : MI), lp (fun s => b_X10_challenge_62 v1 L s.1 s.2.1 s.2.2.1 s.2.2.2) n (z5, z6, z8, I) = some (y0_5, Iy0) → ∀ (H : Heap) (locs : List Loc) (ls : Array Slot), Ws g s I L H locs → lv_has ls 11 [(0, .ref (g.1 + 0)), (1, .int v1), (5, .int z5), (6, .long z6), (8, .int z8)] → (∀ (H : Heap) (locs : List Loc) (ls : Array Slot), Ws g s Iy0 L H locs → lv_has ls 11 [(5, .int y0_5)] → W p l e (rmD 15) s m args below meth c H locs 0 0 Q (F0 m 149 ls [])) → W p l e (rmD 15) s m args below meth c H locs 0 0 Q (F0 m 62 ls []) := by
  intro n
  induction n with
  | zero => intro z5 z6 z8 I y0_5 Iy0 h; exact lp_zero h
  | succ n ih =>
      intro z5 z6 z8 I y0_5 Iy0 h H locs ls hW hl hx0
      obtain ⟨r9, h, h9⟩ := lp_some h
      have h : b_X10_challenge_62 v1 L z5 z6 z8 I = some r9 := h
      unfold b_X10_challenge_62 at h
      refine lv_iload C.1.1 C.1.2.1 dX10_challenge_62 (lv_at hl 4 rfl) ?_
      refine lv_aload_n C.1.1 C.1.2.1 dX10_challenge_64 rfl (lv_at hl 0 rfl) ?_
      refine G_X10_19 C hW (by decide) dX10_challenge_65 ?_
      refine G_X10_105 C hW (by decide) dX10_challenge_68 ?_
      refine lv_icmp_ge (tgt := 149) C.1.1 C.1.2.1 dX10_challenge_71 (by decide) (fun hc12 => ?_) (fun hc12 => ?_)
      · replace h := ite_t hc12 h
        obtain rfl := Option.some.inj h
        replace h9 := Option.some.inj h9
        obtain ⟨rfl, rfl⟩ := pnj2 h9
        exact hx0 _ _ _ hW (lv_sub hl [2] rfl)
      · replace h := ite_f hc12 h
        refine lv_iload C.1.1 C.1.2.1 dX10_challenge_74 (lv_at hl 4 rfl) ?_
        refine lv_iload_n C.1.1 C.1.2.1 dX10_challenge_76 rfl (lv_at hl 1 rfl) ?_
        obtain ⟨y13, y14, I15, hj17, h⟩ := bd3_some h
        have kJ16 : ∀ (H : Heap) (locs : List Loc) (ls : Array Slot), Ws g s I15 L H locs → lv_has ls 11 [(0, .ref (g.1 + 0)), (1, .int v1), (5, .int y13), (6, .long y14), (8, .int z8)] → W p l e (rmD 15) s m args below meth c H locs 0 0 Q (F0 m 143 ls []) := by
          intro H locs ls hW hl
          obtain ⟨x18, ex18⟩ : ∃ y : Int32, y = z8 + (1 : Int32) := ⟨_, rfl⟩
          replace h := nm_at ex18 h
          refine lv_iinc (v := x18) (lv' := [(8, .int x18), (0, .ref (g.1 + 0)), (1, .int v1), (5, .int y13), (6, .long y14)]) C.1.1 C.1.2.1 dX10_challenge_143 hl (k := 4) rfl (by rw [ex18]; rfl) (by decide) rfl (fun ls hl => ?_)
          clear ex18
          refine lv_goto (tgt := 62) C.1.1 C.1.2.1 dX10_challenge_146 (by decide) ?_
          obtain rfl := Option.some.inj h
          exact ih _ _ _ _ _ _ h9 _ _ _ hW (lv_sub hl [1, 2, 3, 4, 0] rfl) hx0
        clear h
        have h := hj17
        clear hj17
        refine lv_icmp_eq (tgt := 143) C.1.1 C.1.2.1 dX10_challenge_77 (by decide) (fun hc19 => ?_) (fun hc19 => ?_)
        · replace h := ite_t hc19 h
          obtain ⟨rfl, rfl, rfl⟩ := inj3 h
          exact kJ16 _ _ _ hW (lv_sub hl [0, 1, 2, 3, 4] rfl)
        · replace h := ite_f hc19 h
          refine lv_aload_n C.1.1 C.1.2.1 dX10_challenge_80 rfl (lv_at hl 0 rfl) ?_
          refine G_X10_19 C hW (by decide) dX10_challenge_81 ?_
          refine G_X10_111 C hW (by decide) dX10_challenge_84 ?_
          refine lv_iload C.1.1 C.1.2.1 dX10_challenge_87 (lv_at hl 4 rfl) ?_
          obtain ⟨hi20, h⟩ := gi_some h
          refine w_asit C hW (w := 3) (by decide) hi20 dX10_challenge_89 ?_
          obtain ⟨r21, hc22, h⟩ := bd1_some h
          refine w_callVi (k := 0) (As := []) (rest := []) C hW (c_X6_sits g l (kd_sit (by decide) hi20) hc22) (kd_sit (by decide) hi20) rfl (EX_6 (kd_sit (by decide) hi20)) K_X10_185 (by decide +kernel) ⟨by decide, by decide⟩ ⟨Nat.le_refl _, Nat.le_refl _⟩ rfl hl.1 rfl (Nat.le_of_ble_eq_true rfl) dX10_challenge_90 (fun H locs hW => ?_)
          refine lv_if_ne (tgt := 99) C.1.1 C.1.2.1 dX10_challenge_93 (by decide) (fun hc23 => ?_) (fun hc23 => ?_)
          · replace h := ite_f hc23 h
            refine lv_aload_n C.1.1 C.1.2.1 dX10_challenge_99 rfl (lv_at hl 0 rfl) ?_
            refine G_X10_54 C hW (by decide) dX10_challenge_100 ?_
            refine lv_aload_n C.1.1 C.1.2.1 dX10_challenge_103 rfl (lv_at hl 0 rfl) ?_
            refine G_X10_19 C hW (by decide) dX10_challenge_104 ?_
            refine G_X10_111 C hW (by decide) dX10_challenge_107 ?_
            refine lv_iload_n C.1.1 C.1.2.1 dX10_challenge_110 rfl (lv_at hl 1 rfl) ?_
            obtain ⟨hi24, h⟩ := gi_some h
            refine w_asit C hW (w := 3) (by decide) hi24 dX10_challenge_111 ?_
            refine lv_aload_n C.1.1 C.1.2.1 dX10_challenge_112 rfl (lv_at hl 0 rfl) ?_
            refine G_X10_19 C hW (by decide) dX10_challenge_113 ?_
            refine G_X10_111 C hW (by decide) dX10_challenge_116 ?_
            refine lv_iload C.1.1 C.1.2.1 dX10_challenge_119 (lv_at hl 4 rfl) ?_
            obtain ⟨hi25, h⟩ := gi_some h
            refine w_asit C hW (w := 3) (by decide) hi25 dX10_challenge_121 ?_
            obtain ⟨r26, I27, hc28, h⟩ := bd2_some h
            refine w_callVl (k := 2) (As := [.ref (g.1 + (3 + 2 + v1.toNatClampNeg)), .ref (g.1 + (3 + 2 + z8.toNatClampNeg))]) (rest := []) C hW (c_X0_waysToOutlast g l (kd_sit (by decide) hi24) (kd_sit (by decide) hi25) hc28) (by decide) rfl (EX_0 (by decide)) K_X10_257 (by decide +kernel) ⟨by decide, by decide⟩ ⟨Nat.le_refl _, Nat.le_refl _⟩ rfl hl.1 rfl (Nat.le_of_ble_eq_true rfl) dX10_challenge_122 (fun H locs hW => ?_)
            refine lv_lstore (lv' := [(9, .long r26), (0, .ref (g.1 + 0)), (1, .int v1), (5, .int z5), (6, .long z6), (8, .int z8)]) C.1.1 C.1.2.1 dX10_challenge_125 hl (by decide) rfl (fun ls hl => ?_)
            refine lv_lload C.1.1 C.1.2.1 dX10_challenge_127 (lv_at hl 0 rfl) ?_
            refine lv_lload C.1.1 C.1.2.1 dX10_challenge_129 (lv_at hl 4 rfl) ?_
            refine W.lcmp C.1.1 C.1.2.1 dX10_challenge_131 ?_
            refine lv_if_le (tgt := 143) C.1.1 C.1.2.1 dX10_challenge_132 (by decide) (fun hc29 => ?_) (fun hc29 => ?_)
            · replace h := ite_t hc29 h
              obtain ⟨rfl, rfl, rfl⟩ := inj3 h
              exact kJ16 _ _ _ hW (lv_sub hl [1, 2, 3, 4, 5] rfl)
            · replace h := ite_f hc29 h
              refine lv_lload C.1.1 C.1.2.1 dX10_challenge_135 (lv_at hl 0 rfl) ?_
              refine lv_lstore (lv' := [(6, .long r26), (9, .long r26), (0, .ref (g.1 + 0)), (1, .int v1), (5, .int z5), (8, .int z8)]) C.1.1 C.1.2.1 dX10_challenge_137 hl (by decide) rfl (fun ls hl => ?_)
              refine lv_iload C.1.1 C.1.2.1 dX10_challenge_139 (lv_at hl 5 rfl) ?_
              refine lv_istore (lv' := [(5, .int z8), (6, .long r26), (9, .long r26), (0, .ref (g.1 + 0)), (1, .int v1), (8, .int z8)]) C.1.1 C.1.2.1 dX10_challenge_141 hl (by decide) rfl (fun ls hl => ?_)
              obtain ⟨rfl, rfl, rfl⟩ := inj3 h
              exact kJ16 _ _ _ hW (lv_sub hl [3, 4, 0, 1, 5] rfl)
          · replace h := ite_t hc23 h
            refine lv_goto (tgt := 143) C.1.1 C.1.2.1 dX10_challenge_96 (by decide) ?_
            obtain ⟨rfl, rfl, rfl⟩ := inj3 h
            exact kJ16 _ _ _ hW (lv_sub hl [0, 1, 2, 3, 4] rfl)
def f_X10_challenge (a1 : Int32) (a2 : Int32) (a3 : Int32) (I : MI) (L : ML) : Option (Int32 × MI) :=
  bd1 (f_X10_within a2 (0 : Int32) (10 : Int32)) (fun r1 => (if r1 = 0 then some (((-1 : Int32), I)) else bd1 (f_X10_within a3 (0 : Int32) (10 : Int32)) (fun r4 => (if r4 = 0 then some (((-1 : Int32), I)) else bd1 (f_X10_refusesOne a1 I L) (fun r7 => (if r7 = 0 then bd1 (f_X0_weigh 3 a2 a3 I L) (fun I10 => bd2 (lp (fun s => b_X10_challenge_62 a1 L s.1 s.2.1 s.2.2.1 s.2.2.2) FU (((-4 : Int32), (-1 : Int64), (0 : Int32), I10))) (fun y31 I32 => some (y31, I32))) else some (r7, I)))))))
set_option maxHeartbeats 4000000 in
set_option maxRecDepth 100000 in
theorem c_X10_challenge (g : Gp) (l : Launch) {a1 : Int32} {a2 : Int32} {a3 : Int32}  {I : MI} {L : ML} {r : Int32} {I' : MI} (h : f_X10_challenge a1 a2 a3 I L = some (r, I')) : MetI g l yX10_challenge cX10_challenge 11 .int 15 [.ref (g.1 + 0), .int a1, .int a2, .int a3] I L r I' L := by
  unfold f_X10_challenge at h
  refine w_enter (by decide) (Nat.le_of_ble_eq_true rfl) (own := RX10) rfl ?_
  intro p e s m below meth c args Q hQ C hr hlocks hW ls hl
  have hl : lv_has ls 11 [(0, .ref (g.1 + 0)), (1, .int a1), (2, .int a2), (3, .int a3)] := hl
  refine lv_iload_n C.1.1 C.1.2.1 dX10_challenge_0 rfl (lv_at hl 2 rfl) ?_
  refine lv_iconst (v := 0) C.1.1 C.1.2.1 dX10_challenge_1 (by decide) ?_
  refine lv_bipush (v := 10) C.1.1 C.1.2.1 dX10_challenge_2 (by decide) ?_
  obtain ⟨r1, hc2, h⟩ := bd1_some h
  refine w_callSi (k := 3) (As := [.int a2, .int (0 : Int32), .int (10 : Int32)]) (rest := []) C hW (c_X10_within g l  hc2 I L) K_X10_79 (by decide +kernel) ⟨by decide, by decide⟩ ⟨Nat.le_refl _, Nat.le_refl _⟩ rfl hl.1 rfl (Nat.le_of_ble_eq_true rfl) dX10_challenge_4 (fun H locs hW => ?_)
  refine lv_if_eq (tgt := 20) C.1.1 C.1.2.1 dX10_challenge_7 (by decide) (fun hc3 => ?_) (fun hc3 => ?_)
  · replace h := ite_t hc3 h
    refine lv_iconst (v := -1) C.1.1 C.1.2.1 dX10_challenge_20 (by decide) ?_
    obtain ⟨rfl, rfl⟩ := inj2 h
    subst hQ
    exact w_iret C hW hr hlocks dX10_challenge_21
  · replace h := ite_f hc3 h
    refine lv_iload_n C.1.1 C.1.2.1 dX10_challenge_10 rfl (lv_at hl 3 rfl) ?_
    refine lv_iconst (v := 0) C.1.1 C.1.2.1 dX10_challenge_11 (by decide) ?_
    refine lv_bipush (v := 10) C.1.1 C.1.2.1 dX10_challenge_12 (by decide) ?_
    obtain ⟨r4, hc5, h⟩ := bd1_some h
    refine w_callSi (k := 3) (As := [.int a3, .int (0 : Int32), .int (10 : Int32)]) (rest := []) C hW (c_X10_within g l  hc5 I L) K_X10_79 (by decide +kernel) ⟨by decide, by decide⟩ ⟨Nat.le_refl _, Nat.le_refl _⟩ rfl hl.1 rfl (Nat.le_of_ble_eq_true rfl) dX10_challenge_14 (fun H locs hW => ?_)
    refine lv_if_ne (tgt := 22) C.1.1 C.1.2.1 dX10_challenge_17 (by decide) (fun hc6 => ?_) (fun hc6 => ?_)
    · replace h := ite_f hc6 h
      refine lv_aload_n C.1.1 C.1.2.1 dX10_challenge_22 rfl (lv_at hl 0 rfl) ?_
      refine lv_iload_n C.1.1 C.1.2.1 dX10_challenge_23 rfl (lv_at hl 1 rfl) ?_
      obtain ⟨r7, hc8, h⟩ := bd1_some h
      refine w_callVi (k := 1) (As := [.int a1]) (rest := []) C hW (c_X10_refusesOne g l  hc8) (by decide) rfl (EX_10 (by decide)) K_X10_228 (by decide +kernel) ⟨by decide, by decide⟩ ⟨Nat.le_refl _, Nat.le_refl _⟩ rfl hl.1 rfl (Nat.le_of_ble_eq_true rfl) dX10_challenge_24 (fun H locs hW => ?_)
      refine lv_istore (lv' := [(4, .int r7), (0, .ref (g.1 + 0)), (1, .int a1), (2, .int a2), (3, .int a3)]) C.1.1 C.1.2.1 dX10_challenge_27 hl (by decide) rfl (fun ls hl => ?_)
      refine lv_iload C.1.1 C.1.2.1 dX10_challenge_29 (lv_at hl 0 rfl) ?_
      refine lv_if_eq (tgt := 37) C.1.1 C.1.2.1 dX10_challenge_31 (by decide) (fun hc9 => ?_) (fun hc9 => ?_)
      · replace h := ite_t hc9 h
        refine lv_aload_n C.1.1 C.1.2.1 dX10_challenge_37 rfl (lv_at hl 1 rfl) ?_
        refine G_X10_54 C hW (by decide) dX10_challenge_38 ?_
        refine lv_aload_n C.1.1 C.1.2.1 dX10_challenge_41 rfl (lv_at hl 1 rfl) ?_
        refine G_X10_19 C hW (by decide) dX10_challenge_42 ?_
        refine lv_iload_n C.1.1 C.1.2.1 dX10_challenge_45 rfl (lv_at hl 3 rfl) ?_
        refine lv_iload_n C.1.1 C.1.2.1 dX10_challenge_46 rfl (lv_at hl 4 rfl) ?_
        obtain ⟨I10, hc11, h⟩ := bd1_some h
        refine w_callVv (k := 3) (As := [.ref (g.1 + 3), .int a2, .int a3]) (rest := []) C hW (c_X0_weigh g l (by decide) hc11) (by decide) rfl (EX_0 (by decide)) K_X10_253 (by decide +kernel) ⟨by decide, by decide⟩ ⟨Nat.le_refl _, Nat.le_refl _⟩ rfl hl.1 rfl (Nat.le_of_ble_eq_true rfl) dX10_challenge_47 (fun H locs hW => ?_)
        refine lv_bipush (v := -4) C.1.1 C.1.2.1 dX10_challenge_50 (by decide) ?_
        refine lv_istore (lv' := [(5, .int (-4 : Int32)), (4, .int r7), (0, .ref (g.1 + 0)), (1, .int a1), (2, .int a2), (3, .int a3)]) C.1.1 C.1.2.1 dX10_challenge_52 hl (by decide) rfl (fun ls hl => ?_)
        refine lv_ldc2 C.1.1 C.1.2.1 C.1.2.2.2.1 (C.1.2.2.2.2 _ kl_X10_251) dX10_challenge_54 ?_
        refine lv_lstore (lv' := [(6, .long (-1 : Int64)), (5, .int (-4 : Int32)), (4, .int r7), (0, .ref (g.1 + 0)), (1, .int a1), (2, .int a2), (3, .int a3)]) C.1.1 C.1.2.1 dX10_challenge_57 hl (by decide) rfl (fun ls hl => ?_)
        refine lv_iconst (v := 0) C.1.1 C.1.2.1 dX10_challenge_59 (by decide) ?_
        refine lv_istore (lv' := [(8, .int (0 : Int32)), (6, .long (-1 : Int64)), (5, .int (-4 : Int32)), (4, .int r7), (0, .ref (g.1 + 0)), (1, .int a1), (2, .int a2), (3, .int a3)]) C.1.1 C.1.2.1 dX10_challenge_60 hl (by decide) rfl (fun ls hl => ?_)
        obtain ⟨y31, I32, hq30, h⟩ := bd2_some h
        refine l_X10_challenge_62 C a1  L _ _ _ _ _ _ _ hq30 _ _ _ hW (lv_sub hl [4, 5, 2, 1, 0] rfl) (fun H locs ls hW hl => ?_)
        refine lv_iload C.1.1 C.1.2.1 dX10_challenge_149 (lv_at hl 0 rfl) ?_
        obtain ⟨rfl, rfl⟩ := inj2 h
        subst hQ
        exact w_iret C hW hr hlocks dX10_challenge_151
      · replace h := ite_f hc9 h
        refine lv_iload C.1.1 C.1.2.1 dX10_challenge_34 (lv_at hl 0 rfl) ?_
        obtain ⟨rfl, rfl⟩ := inj2 h
        subst hQ
        exact w_iret C hW hr hlocks dX10_challenge_36
    · replace h := ite_t hc6 h
      refine lv_iconst (v := -1) C.1.1 C.1.2.1 dX10_challenge_20 (by decide) ?_
      obtain ⟨rfl, rfl⟩ := inj2 h
      subst hQ
      exact w_iret C hW hr hlocks dX10_challenge_21
def f_X10_game (a1 : Int32) (a2 : Int32) (a3 : Int32) (I : MI) (L : ML) : Option (Int32 × MI) :=
  bd1 (f_X10_within a3 (0 : Int32) (3 : Int32)) (fun r1 => (if r1 = 0 then some (((-1 : Int32), I)) else bd1 (f_X10_refusesTwo a1 a2 I L) (fun r4 => (if r4 = 0 then bd1 (f_X1_look 3 I L) (fun I7 => gi a1 6 (gi a2 6 (bd2 (f_X4_play (3 + 2 + a1.toNatClampNeg) (3 + 2 + a2.toNatClampNeg) a3 I7 L) (fun r11 I12 => some ((r11 + (2000 : Int32), I12)))))) else some (r4, I)))))
set_option maxHeartbeats 4000000 in
set_option maxRecDepth 100000 in
theorem c_X10_game (g : Gp) (l : Launch) {a1 : Int32} {a2 : Int32} {a3 : Int32}  {I : MI} {L : ML} {r : Int32} {I' : MI} (h : f_X10_game a1 a2 a3 I L = some (r, I')) : MetI g l yX10_game cX10_game 5 .int 14 [.ref (g.1 + 0), .int a1, .int a2, .int a3] I L r I' L := by
  unfold f_X10_game at h
  refine w_enter (by decide) (Nat.le_of_ble_eq_true rfl) (own := RX10) rfl ?_
  intro p e s m below meth c args Q hQ C hr hlocks hW ls hl
  have hl : lv_has ls 5 [(0, .ref (g.1 + 0)), (1, .int a1), (2, .int a2), (3, .int a3)] := hl
  refine lv_iload_n C.1.1 C.1.2.1 dX10_game_0 rfl (lv_at hl 3 rfl) ?_
  refine lv_iconst (v := 0) C.1.1 C.1.2.1 dX10_game_1 (by decide) ?_
  refine lv_iconst (v := 3) C.1.1 C.1.2.1 dX10_game_2 (by decide) ?_
  obtain ⟨r1, hc2, h⟩ := bd1_some h
  refine w_callSi (k := 3) (As := [.int a3, .int (0 : Int32), .int (3 : Int32)]) (rest := []) C hW (c_X10_within g l  hc2 I L) K_X10_79 (by decide +kernel) ⟨by decide, by decide⟩ ⟨Nat.le_refl _, Nat.le_refl _⟩ rfl hl.1 rfl (Nat.le_of_ble_eq_true rfl) dX10_game_3 (fun H locs hW => ?_)
  refine lv_if_ne (tgt := 11) C.1.1 C.1.2.1 dX10_game_6 (by decide) (fun hc3 => ?_) (fun hc3 => ?_)
  · replace h := ite_f hc3 h
    refine lv_aload_n C.1.1 C.1.2.1 dX10_game_11 rfl (lv_at hl 0 rfl) ?_
    refine lv_iload_n C.1.1 C.1.2.1 dX10_game_12 rfl (lv_at hl 1 rfl) ?_
    refine lv_iload_n C.1.1 C.1.2.1 dX10_game_13 rfl (lv_at hl 2 rfl) ?_
    obtain ⟨r4, hc5, h⟩ := bd1_some h
    refine w_callVi (k := 2) (As := [.int a1, .int a2]) (rest := []) C hW (c_X10_refusesTwo g l  hc5) (by decide) rfl (EX_10 (by decide)) K_X10_221 (by decide +kernel) ⟨by decide, by decide⟩ ⟨Nat.le_refl _, Nat.le_refl _⟩ rfl hl.1 rfl (Nat.le_of_ble_eq_true rfl) dX10_game_14 (fun H locs hW => ?_)
    refine lv_istore (lv' := [(4, .int r4), (0, .ref (g.1 + 0)), (1, .int a1), (2, .int a2), (3, .int a3)]) C.1.1 C.1.2.1 dX10_game_17 hl (by decide) rfl (fun ls hl => ?_)
    refine lv_iload C.1.1 C.1.2.1 dX10_game_19 (lv_at hl 0 rfl) ?_
    refine lv_if_eq (tgt := 27) C.1.1 C.1.2.1 dX10_game_21 (by decide) (fun hc6 => ?_) (fun hc6 => ?_)
    · replace h := ite_t hc6 h
      refine lv_aload_n C.1.1 C.1.2.1 dX10_game_27 rfl (lv_at hl 1 rfl) ?_
      refine G_X10_47 C hW (by decide) dX10_game_28 ?_
      refine lv_aload_n C.1.1 C.1.2.1 dX10_game_31 rfl (lv_at hl 1 rfl) ?_
      refine G_X10_19 C hW (by decide) dX10_game_32 ?_
      obtain ⟨I7, hc8, h⟩ := bd1_some h
      refine w_callVv (k := 1) (As := [.ref (g.1 + 3)]) (rest := []) C hW (c_X1_look g l (by decide) hc8) (by decide) rfl (EX_1 (by decide)) K_X10_210 (by decide +kernel) ⟨by decide, by decide⟩ ⟨Nat.le_refl _, Nat.le_refl _⟩ rfl hl.1 rfl (Nat.le_of_ble_eq_true rfl) dX10_game_35 (fun H locs hW => ?_)
      refine lv_aload_n C.1.1 C.1.2.1 dX10_game_38 rfl (lv_at hl 1 rfl) ?_
      refine G_X10_61 C hW (by decide) dX10_game_39 ?_
      refine lv_aload_n C.1.1 C.1.2.1 dX10_game_42 rfl (lv_at hl 1 rfl) ?_
      refine G_X10_19 C hW (by decide) dX10_game_43 ?_
      refine G_X10_111 C hW (by decide) dX10_game_46 ?_
      refine lv_iload_n C.1.1 C.1.2.1 dX10_game_49 rfl (lv_at hl 2 rfl) ?_
      obtain ⟨hi9, h⟩ := gi_some h
      refine w_asit C hW (w := 3) (by decide) hi9 dX10_game_50 ?_
      refine lv_aload_n C.1.1 C.1.2.1 dX10_game_51 rfl (lv_at hl 1 rfl) ?_
      refine G_X10_19 C hW (by decide) dX10_game_52 ?_
      refine G_X10_111 C hW (by decide) dX10_game_55 ?_
      refine lv_iload_n C.1.1 C.1.2.1 dX10_game_58 rfl (lv_at hl 3 rfl) ?_
      obtain ⟨hi10, h⟩ := gi_some h
      refine w_asit C hW (w := 3) (by decide) hi10 dX10_game_59 ?_
      refine lv_aload_n C.1.1 C.1.2.1 dX10_game_60 rfl (lv_at hl 1 rfl) ?_
      refine G_X10_47 C hW (by decide) dX10_game_61 ?_
      refine lv_iload_n C.1.1 C.1.2.1 dX10_game_64 rfl (lv_at hl 4 rfl) ?_
      obtain ⟨r11, I12, hc13, h⟩ := bd2_some h
      refine w_callVi (k := 4) (As := [.ref (g.1 + (3 + 2 + a1.toNatClampNeg)), .ref (g.1 + (3 + 2 + a2.toNatClampNeg)), .ref (g.1 + 207), .int a3]) (rest := []) C hW (c_X4_play g l (kd_sit (by decide) hi9) (kd_sit (by decide) hi10) hc13) (by decide) rfl (EX_4 (by decide)) K_X10_265 (by decide +kernel) ⟨by decide, by decide⟩ ⟨Nat.le_refl _, Nat.le_refl _⟩ rfl hl.1 rfl (Nat.le_of_ble_eq_true rfl) dX10_game_65 (fun H locs hW => ?_)
      refine lv_sipush (v := 2000) C.1.1 C.1.2.1 dX10_game_68 (by decide) ?_
      refine lv_iadd C.1.1 C.1.2.1 dX10_game_71 ?_
      obtain ⟨rfl, rfl⟩ := inj2 h
      subst hQ
      exact w_iret C hW hr hlocks dX10_game_72
    · replace h := ite_f hc6 h
      refine lv_iload C.1.1 C.1.2.1 dX10_game_24 (lv_at hl 0 rfl) ?_
      obtain ⟨rfl, rfl⟩ := inj2 h
      subst hQ
      exact w_iret C hW hr hlocks dX10_game_26
  · replace h := ite_t hc3 h
    refine lv_iconst (v := -1) C.1.1 C.1.2.1 dX10_game_9 (by decide) ?_
    obtain ⟨rfl, rfl⟩ := inj2 h
    subst hQ
    exact w_iret C hW hr hlocks dX10_game_10
def f_X10_sheet (a1 : Int32) (a2 : Int32) (a3 : Int32) (I : MI) (L : ML) : Option (Int32 × MI × ML) :=
  bd1 (f_X10_within a1 (0 : Int32) (3 : Int32)) (fun r1 => (if r1 = 0 then some (((-1 : Int32), I, L)) else bd1 (f_X10_within a2 (0 : Int32) (3 : Int32)) (fun r4 => (if r4 = 0 then some (((-1 : Int32), I, L)) else (if a3 ≤ (24 : Int32) then (if 0 ≤ a3 then gi a1 4 (bd2 (f_X5_begin (199 + 2 * a1.toNatClampNeg) a2 a3 I L) (fun I10 L11 => some (a3, I10, L11))) else some (((-14 : Int32), I, L))) else some (((-1 : Int32), I, L)))))))
set_option maxHeartbeats 4000000 in
set_option maxRecDepth 100000 in
theorem c_X10_sheet (g : Gp) (l : Launch) {a1 : Int32} {a2 : Int32} {a3 : Int32}  {I : MI} {L : ML} {r : Int32} {I' : MI} {L' : ML} (h : f_X10_sheet a1 a2 a3 I L = some (r, I', L')) : MetI g l yX10_sheet cX10_sheet 4 .int 1 [.ref (g.1 + 0), .int a1, .int a2, .int a3] I L r I' L' := by
  unfold f_X10_sheet at h
  refine w_enter (by decide) (Nat.le_of_ble_eq_true rfl) (own := RX10) rfl ?_
  intro p e s m below meth c args Q hQ C hr hlocks hW ls hl
  have hl : lv_has ls 4 [(0, .ref (g.1 + 0)), (1, .int a1), (2, .int a2), (3, .int a3)] := hl
  refine lv_iload_n C.1.1 C.1.2.1 dX10_sheet_0 rfl (lv_at hl 1 rfl) ?_
  refine lv_iconst (v := 0) C.1.1 C.1.2.1 dX10_sheet_1 (by decide) ?_
  refine lv_iconst (v := 3) C.1.1 C.1.2.1 dX10_sheet_2 (by decide) ?_
  obtain ⟨r1, hc2, h⟩ := bd1_some h
  refine w_callSi (k := 3) (As := [.int a1, .int (0 : Int32), .int (3 : Int32)]) (rest := []) C hW (c_X10_within g l  hc2 I L) K_X10_79 (by decide +kernel) ⟨by decide, by decide⟩ ⟨Nat.le_refl _, Nat.le_refl _⟩ rfl hl.1 rfl (Nat.le_of_ble_eq_true rfl) dX10_sheet_3 (fun H locs hW => ?_)
  refine lv_if_eq (tgt := 24) C.1.1 C.1.2.1 dX10_sheet_6 (by decide) (fun hc3 => ?_) (fun hc3 => ?_)
  · replace h := ite_t hc3 h
    refine lv_iconst (v := -1) C.1.1 C.1.2.1 dX10_sheet_24 (by decide) ?_
    obtain ⟨rfl, rfl, rfl⟩ := inj3 h
    subst hQ
    exact w_iret C hW hr hlocks dX10_sheet_25
  · replace h := ite_f hc3 h
    refine lv_iload_n C.1.1 C.1.2.1 dX10_sheet_9 rfl (lv_at hl 2 rfl) ?_
    refine lv_iconst (v := 0) C.1.1 C.1.2.1 dX10_sheet_10 (by decide) ?_
    refine lv_iconst (v := 3) C.1.1 C.1.2.1 dX10_sheet_11 (by decide) ?_
    obtain ⟨r4, hc5, h⟩ := bd1_some h
    refine w_callSi (k := 3) (As := [.int a2, .int (0 : Int32), .int (3 : Int32)]) (rest := []) C hW (c_X10_within g l  hc5 I L) K_X10_79 (by decide +kernel) ⟨by decide, by decide⟩ ⟨Nat.le_refl _, Nat.le_refl _⟩ rfl hl.1 rfl (Nat.le_of_ble_eq_true rfl) dX10_sheet_12 (fun H locs hW => ?_)
    refine lv_if_eq (tgt := 24) C.1.1 C.1.2.1 dX10_sheet_15 (by decide) (fun hc6 => ?_) (fun hc6 => ?_)
    · replace h := ite_t hc6 h
      refine lv_iconst (v := -1) C.1.1 C.1.2.1 dX10_sheet_24 (by decide) ?_
      obtain ⟨rfl, rfl, rfl⟩ := inj3 h
      subst hQ
      exact w_iret C hW hr hlocks dX10_sheet_25
    · replace h := ite_f hc6 h
      refine lv_iload_n C.1.1 C.1.2.1 dX10_sheet_18 rfl (lv_at hl 3 rfl) ?_
      refine lv_bipush (v := 24) C.1.1 C.1.2.1 dX10_sheet_19 (by decide) ?_
      refine lv_icmp_le (tgt := 26) C.1.1 C.1.2.1 dX10_sheet_21 (by decide) (fun hc7 => ?_) (fun hc7 => ?_)
      · replace h := ite_t hc7 h
        refine lv_iload_n C.1.1 C.1.2.1 dX10_sheet_26 rfl (lv_at hl 3 rfl) ?_
        refine lv_if_ge (tgt := 33) C.1.1 C.1.2.1 dX10_sheet_27 (by decide) (fun hc8 => ?_) (fun hc8 => ?_)
        · replace h := ite_t hc8 h
          refine lv_aload_n C.1.1 C.1.2.1 dX10_sheet_33 rfl (lv_at hl 0 rfl) ?_
          refine G_X10_39 C hW (by decide) dX10_sheet_34 ?_
          refine lv_iload_n C.1.1 C.1.2.1 dX10_sheet_37 rfl (lv_at hl 1 rfl) ?_
          obtain ⟨hi9, h⟩ := gi_some h
          refine w_ash C hW hi9 dX10_sheet_38 ?_
          refine lv_iload_n C.1.1 C.1.2.1 dX10_sheet_39 rfl (lv_at hl 2 rfl) ?_
          refine lv_iload_n C.1.1 C.1.2.1 dX10_sheet_40 rfl (lv_at hl 3 rfl) ?_
          obtain ⟨I10, L11, hc12, h⟩ := bd2_some h
          refine w_callVv (k := 2) (As := [.int a2, .int a3]) (rest := []) C hW (c_X5_begin g l (kd_sh hi9) hc12) (kd_sh hi9) rfl (EX_5 (kd_sh hi9)) K_X10_269 (by decide +kernel) ⟨by decide, by decide⟩ ⟨Nat.le_refl _, Nat.le_refl _⟩ rfl hl.1 rfl (Nat.le_of_ble_eq_true rfl) dX10_sheet_41 (fun H locs hW => ?_)
          refine lv_iload_n C.1.1 C.1.2.1 dX10_sheet_44 rfl (lv_at hl 3 rfl) ?_
          obtain ⟨rfl, rfl, rfl⟩ := inj3 h
          subst hQ
          exact w_iret C hW hr hlocks dX10_sheet_45
        · replace h := ite_f hc8 h
          refine lv_bipush (v := -14) C.1.1 C.1.2.1 dX10_sheet_30 (by decide) ?_
          obtain ⟨rfl, rfl, rfl⟩ := inj3 h
          subst hQ
          exact w_iret C hW hr hlocks dX10_sheet_32
      · replace h := ite_f hc7 h
        refine lv_iconst (v := -1) C.1.1 C.1.2.1 dX10_sheet_24 (by decide) ?_
        obtain ⟨rfl, rfl, rfl⟩ := inj3 h
        subst hQ
        exact w_iret C hW hr hlocks dX10_sheet_25
def f_X10_drop (a1 : Int32) (I : MI) (L : ML) : Option (Int32 × MI) :=
  bd1 (f_X10_within a1 (0 : Int32) (3 : Int32)) (fun r1 => (if r1 = 0 then some (((-1 : Int32), I)) else gi a1 4 (bd1 (f_X5_isNothing (199 + 2 * a1.toNatClampNeg) I L) (fun r5 => (if r5 = 0 then nm (I (199 + 2 * a1.toNatClampNeg) 1) (fun x8 => bd1 (f_X5_becomeNothing (199 + 2 * a1.toNatClampNeg) I L) (fun I9 => some (x8, I9))) else some (((-11 : Int32), I)))))))
set_option maxHeartbeats 4000000 in
set_option maxRecDepth 100000 in
theorem c_X10_drop (g : Gp) (l : Launch) {a1 : Int32}  {I : MI} {L : ML} {r : Int32} {I' : MI} (h : f_X10_drop a1 I L = some (r, I')) : MetI g l yX10_drop cX10_drop 4 .int 1 [.ref (g.1 + 0), .int a1] I L r I' L := by
  unfold f_X10_drop at h
  refine w_enter (by decide) (Nat.le_of_ble_eq_true rfl) (own := RX10) rfl ?_
  intro p e s m below meth c args Q hQ C hr hlocks hW ls hl
  have hl : lv_has ls 4 [(0, .ref (g.1 + 0)), (1, .int a1)] := hl
  refine lv_iload_n C.1.1 C.1.2.1 dX10_drop_0 rfl (lv_at hl 1 rfl) ?_
  refine lv_iconst (v := 0) C.1.1 C.1.2.1 dX10_drop_1 (by decide) ?_
  refine lv_iconst (v := 3) C.1.1 C.1.2.1 dX10_drop_2 (by decide) ?_
  obtain ⟨r1, hc2, h⟩ := bd1_some h
  refine w_callSi (k := 3) (As := [.int a1, .int (0 : Int32), .int (3 : Int32)]) (rest := []) C hW (c_X10_within g l  hc2 I L) K_X10_79 (by decide +kernel) ⟨by decide, by decide⟩ ⟨Nat.le_refl _, Nat.le_refl _⟩ rfl hl.1 rfl (Nat.le_of_ble_eq_true rfl) dX10_drop_3 (fun H locs hW => ?_)
  refine lv_if_ne (tgt := 11) C.1.1 C.1.2.1 dX10_drop_6 (by decide) (fun hc3 => ?_) (fun hc3 => ?_)
  · replace h := ite_f hc3 h
    refine lv_aload_n C.1.1 C.1.2.1 dX10_drop_11 rfl (lv_at hl 0 rfl) ?_
    refine G_X10_39 C hW (by decide) dX10_drop_12 ?_
    refine lv_iload_n C.1.1 C.1.2.1 dX10_drop_15 rfl (lv_at hl 1 rfl) ?_
    obtain ⟨hi4, h⟩ := gi_some h
    refine w_ash C hW hi4 dX10_drop_16 ?_
    refine lv_astore_n (lv' := [(2, .ref (g.1 + (199 + 2 * a1.toNatClampNeg))), (0, .ref (g.1 + 0)), (1, .int a1)]) C.1.1 C.1.2.1 dX10_drop_17 rfl hl (by decide) rfl (fun ls hl => ?_)
    refine lv_aload_n C.1.1 C.1.2.1 dX10_drop_18 rfl (lv_at hl 0 rfl) ?_
    obtain ⟨r5, hc6, h⟩ := bd1_some h
    refine w_callVi (k := 0) (As := []) (rest := []) C hW (c_X5_isNothing g l (kd_sh hi4) hc6) (kd_sh hi4) rfl (EX_5 (kd_sh hi4)) K_X10_272 (by decide +kernel) ⟨by decide, by decide⟩ ⟨Nat.le_refl _, Nat.le_refl _⟩ rfl hl.1 rfl (Nat.le_of_ble_eq_true rfl) dX10_drop_19 (fun H locs hW => ?_)
    refine lv_if_eq (tgt := 28) C.1.1 C.1.2.1 dX10_drop_22 (by decide) (fun hc7 => ?_) (fun hc7 => ?_)
    · replace h := ite_t hc7 h
      refine lv_aload_n C.1.1 C.1.2.1 dX10_drop_28 rfl (lv_at hl 0 rfl) ?_
      refine G_X10_275 C hW (kd_sh hi4) dX10_drop_29 ?_
      refine lv_topi (fun x8 ex8 => ?_)
      replace h := nm_at ex8 h
      clear ex8
      refine lv_istore_n (lv' := [(3, .int x8), (2, .ref (g.1 + (199 + 2 * a1.toNatClampNeg))), (0, .ref (g.1 + 0)), (1, .int a1)]) C.1.1 C.1.2.1 dX10_drop_32 rfl hl (by decide) rfl (fun ls hl => ?_)
      refine lv_aload_n C.1.1 C.1.2.1 dX10_drop_33 rfl (lv_at hl 1 rfl) ?_
      obtain ⟨I9, hc10, h⟩ := bd1_some h
      refine w_callVv (k := 0) (As := []) (rest := []) C hW (c_X5_becomeNothing g l (kd_sh hi4) hc10) (kd_sh hi4) rfl (EX_5 (kd_sh hi4)) K_X10_276 (by decide +kernel) ⟨by decide, by decide⟩ ⟨Nat.le_refl _, Nat.le_refl _⟩ rfl hl.1 rfl (Nat.le_of_ble_eq_true rfl) dX10_drop_34 (fun H locs hW => ?_)
      refine lv_iload_n C.1.1 C.1.2.1 dX10_drop_37 rfl (lv_at hl 0 rfl) ?_
      obtain ⟨rfl, rfl⟩ := inj2 h
      subst hQ
      exact w_iret C hW hr hlocks dX10_drop_38
    · replace h := ite_f hc7 h
      refine lv_bipush (v := -11) C.1.1 C.1.2.1 dX10_drop_25 (by decide) ?_
      obtain ⟨rfl, rfl⟩ := inj2 h
      subst hQ
      exact w_iret C hW hr hlocks dX10_drop_27
  · replace h := ite_t hc3 h
    refine lv_iconst (v := -1) C.1.1 C.1.2.1 dX10_drop_9 (by decide) ?_
    obtain ⟨rfl, rfl⟩ := inj2 h
    subst hQ
    exact w_iret C hW hr hlocks dX10_drop_10
def f_X10_refusesRow (a1 : Int32) (a2 : Int32) (a3 : Int32) (a4 : Int32) (I : MI) (L : ML) : Option (Int32) :=
  bd1 (f_X10_within a1 (0 : Int32) (3 : Int32)) (fun r1 => (if r1 = 0 then some (-1 : Int32) else bd1 (f_X10_within a2 (0 : Int32) (3 : Int32)) (fun r4 => (if r4 = 0 then some (-1 : Int32) else gi a1 4 (bd1 (f_X5_isNothing (199 + 2 * a1.toNatClampNeg) I L) (fun r8 => (if r8 = 0 then (if (I (199 + 2 * a1.toNatClampNeg) 0) = a2 then bd1 (f_X5_holds (199 + 2 * a1.toNatClampNeg) a3 a4 I L) (fun r12 => bd1 ((if r12 = 0 then some (-13 : Int32) else some (0 : Int32))) (fun y14 => some y14)) else some (-12 : Int32)) else some (-11 : Int32))))))))
set_option maxHeartbeats 4000000 in
set_option maxRecDepth 100000 in
theorem c_X10_refusesRow (g : Gp) (l : Launch) {a1 : Int32} {a2 : Int32} {a3 : Int32} {a4 : Int32}  {I : MI} {L : ML} {r : Int32} (h : f_X10_refusesRow a1 a2 a3 a4 I L = some r) : MetI g l yX10_refusesRow cX10_refusesRow 6 .int 1 [.ref (g.1 + 0), .int a1, .int a2, .int a3, .int a4] I L r I L := by
  unfold f_X10_refusesRow at h
  refine w_enter (by decide) (Nat.le_of_ble_eq_true rfl) (own := RX10) rfl ?_
  intro p e s m below meth c args Q hQ C hr hlocks hW ls hl
  have hl : lv_has ls 6 [(0, .ref (g.1 + 0)), (1, .int a1), (2, .int a2), (3, .int a3), (4, .int a4)] := hl
  refine lv_iload_n C.1.1 C.1.2.1 dX10_refusesRow_0 rfl (lv_at hl 1 rfl) ?_
  refine lv_iconst (v := 0) C.1.1 C.1.2.1 dX10_refusesRow_1 (by decide) ?_
  refine lv_iconst (v := 3) C.1.1 C.1.2.1 dX10_refusesRow_2 (by decide) ?_
  obtain ⟨r1, hc2, h⟩ := bd1_some h
  refine w_callSi (k := 3) (As := [.int a1, .int (0 : Int32), .int (3 : Int32)]) (rest := []) C hW (c_X10_within g l  hc2 I L) K_X10_79 (by decide +kernel) ⟨by decide, by decide⟩ ⟨Nat.le_refl _, Nat.le_refl _⟩ rfl hl.1 rfl (Nat.le_of_ble_eq_true rfl) dX10_refusesRow_3 (fun H locs hW => ?_)
  refine lv_if_eq (tgt := 18) C.1.1 C.1.2.1 dX10_refusesRow_6 (by decide) (fun hc3 => ?_) (fun hc3 => ?_)
  · replace h := ite_t hc3 h
    refine lv_iconst (v := -1) C.1.1 C.1.2.1 dX10_refusesRow_18 (by decide) ?_
    obtain rfl := inj1 h
    subst hQ
    exact w_iret C hW hr hlocks dX10_refusesRow_19
  · replace h := ite_f hc3 h
    refine lv_iload_n C.1.1 C.1.2.1 dX10_refusesRow_9 rfl (lv_at hl 2 rfl) ?_
    refine lv_iconst (v := 0) C.1.1 C.1.2.1 dX10_refusesRow_10 (by decide) ?_
    refine lv_iconst (v := 3) C.1.1 C.1.2.1 dX10_refusesRow_11 (by decide) ?_
    obtain ⟨r4, hc5, h⟩ := bd1_some h
    refine w_callSi (k := 3) (As := [.int a2, .int (0 : Int32), .int (3 : Int32)]) (rest := []) C hW (c_X10_within g l  hc5 I L) K_X10_79 (by decide +kernel) ⟨by decide, by decide⟩ ⟨Nat.le_refl _, Nat.le_refl _⟩ rfl hl.1 rfl (Nat.le_of_ble_eq_true rfl) dX10_refusesRow_12 (fun H locs hW => ?_)
    refine lv_if_ne (tgt := 20) C.1.1 C.1.2.1 dX10_refusesRow_15 (by decide) (fun hc6 => ?_) (fun hc6 => ?_)
    · replace h := ite_f hc6 h
      refine lv_aload_n C.1.1 C.1.2.1 dX10_refusesRow_20 rfl (lv_at hl 0 rfl) ?_
      refine G_X10_39 C hW (by decide) dX10_refusesRow_21 ?_
      refine lv_iload_n C.1.1 C.1.2.1 dX10_refusesRow_24 rfl (lv_at hl 1 rfl) ?_
      obtain ⟨hi7, h⟩ := gi_some h
      refine w_ash C hW hi7 dX10_refusesRow_25 ?_
      refine lv_astore (lv' := [(5, .ref (g.1 + (199 + 2 * a1.toNatClampNeg))), (0, .ref (g.1 + 0)), (1, .int a1), (2, .int a2), (3, .int a3), (4, .int a4)]) C.1.1 C.1.2.1 dX10_refusesRow_26 hl (by decide) rfl (fun ls hl => ?_)
      refine lv_aload C.1.1 C.1.2.1 dX10_refusesRow_28 (lv_at hl 0 rfl) ?_
      obtain ⟨r8, hc9, h⟩ := bd1_some h
      refine w_callVi (k := 0) (As := []) (rest := []) C hW (c_X5_isNothing g l (kd_sh hi7) hc9) (kd_sh hi7) rfl (EX_5 (kd_sh hi7)) K_X10_272 (by decide +kernel) ⟨by decide, by decide⟩ ⟨Nat.le_refl _, Nat.le_refl _⟩ rfl hl.1 rfl (Nat.le_of_ble_eq_true rfl) dX10_refusesRow_30 (fun H locs hW => ?_)
      refine lv_if_eq (tgt := 39) C.1.1 C.1.2.1 dX10_refusesRow_33 (by decide) (fun hc10 => ?_) (fun hc10 => ?_)
      · replace h := ite_t hc10 h
        refine lv_aload C.1.1 C.1.2.1 dX10_refusesRow_39 (lv_at hl 0 rfl) ?_
        refine G_X10_290 C hW (kd_sh hi7) dX10_refusesRow_41 ?_
        refine lv_iload_n C.1.1 C.1.2.1 dX10_refusesRow_44 rfl (lv_at hl 3 rfl) ?_
        refine lv_icmp_eq (tgt := 51) C.1.1 C.1.2.1 dX10_refusesRow_45 (by decide) (fun hc11 => ?_) (fun hc11 => ?_)
        · replace h := ite_t hc11 h
          refine lv_aload C.1.1 C.1.2.1 dX10_refusesRow_51 (lv_at hl 0 rfl) ?_
          refine lv_iload_n C.1.1 C.1.2.1 dX10_refusesRow_53 rfl (lv_at hl 4 rfl) ?_
          refine lv_iload C.1.1 C.1.2.1 dX10_refusesRow_54 (lv_at hl 5 rfl) ?_
          obtain ⟨r12, hc13, h⟩ := bd1_some h
          refine w_callVi (k := 2) (As := [.int a3, .int a4]) (rest := []) C hW (c_X5_holds g l (kd_sh hi7) hc13) (kd_sh hi7) rfl (EX_5 (kd_sh hi7)) K_X10_293 (by decide +kernel) ⟨by decide, by decide⟩ ⟨Nat.le_refl _, Nat.le_refl _⟩ rfl hl.1 rfl (Nat.le_of_ble_eq_true rfl) dX10_refusesRow_56 (fun H locs hW => ?_)
          obtain ⟨y14, hj16, h⟩ := bd1_some h
          have kJ15 : ∀ (H : Heap) (locs : List Loc) (ls : Array Slot), Ws g s I L H locs → lv_has ls 6 [] → W p l e (rmD 1) s m args below meth c H locs 0 0 Q (F0 m 68 ls [.int y14]) := by
            intro H locs ls hW hl
            obtain rfl := inj1 h
            subst hQ
            exact w_iret C hW hr hlocks dX10_refusesRow_68
          clear h
          have h := hj16
          clear hj16
          refine lv_if_eq (tgt := 66) C.1.1 C.1.2.1 dX10_refusesRow_59 (by decide) (fun hc17 => ?_) (fun hc17 => ?_)
          · replace h := ite_t hc17 h
            refine lv_bipush (v := -13) C.1.1 C.1.2.1 dX10_refusesRow_66 (by decide) ?_
            obtain rfl := inj1 h
            exact kJ15 _ _ _ hW (lv_sub hl [] rfl)
          · replace h := ite_f hc17 h
            refine lv_iconst (v := 0) C.1.1 C.1.2.1 dX10_refusesRow_62 (by decide) ?_
            refine lv_goto (tgt := 68) C.1.1 C.1.2.1 dX10_refusesRow_63 (by decide) ?_
            obtain rfl := inj1 h
            exact kJ15 _ _ _ hW (lv_sub hl [] rfl)
        · replace h := ite_f hc11 h
          refine lv_bipush (v := -12) C.1.1 C.1.2.1 dX10_refusesRow_48 (by decide) ?_
          obtain rfl := inj1 h
          subst hQ
          exact w_iret C hW hr hlocks dX10_refusesRow_50
      · replace h := ite_f hc10 h
        refine lv_bipush (v := -11) C.1.1 C.1.2.1 dX10_refusesRow_36 (by decide) ?_
        obtain rfl := inj1 h
        subst hQ
        exact w_iret C hW hr hlocks dX10_refusesRow_38
    · replace h := ite_t hc6 h
      refine lv_iconst (v := -1) C.1.1 C.1.2.1 dX10_refusesRow_18 (by decide) ?_
      obtain rfl := inj1 h
      subst hQ
      exact w_iret C hW hr hlocks dX10_refusesRow_19
def f_X10_item (a1 : Int32) (a2 : Int32) (a3 : Int32) (a4 : Int64) (I : MI) (L : ML) : Option (Int64 × ML) :=
  bd1 (f_X10_refusesRow a1 a2 a3 (1 : Int32) I L) (fun r1 => (if r1 = 0 then gi a1 4 (bd1 (f_X5_put (199 + 2 * a1.toNatClampNeg) a3 a4 I L) (fun L5 => gi a3 24 (some ((L5 ((199 + 2 * a1.toNatClampNeg) + 1) a3.toNatClampNeg, L5))))) else some (r1.toInt64, L)))
set_option maxHeartbeats 4000000 in
set_option maxRecDepth 100000 in
theorem c_X10_item (g : Gp) (l : Launch) {a1 : Int32} {a2 : Int32} {a3 : Int32} {a4 : Int64}  {I : MI} {L : ML} {r : Int64} {L' : ML} (h : f_X10_item a1 a2 a3 a4 I L = some (r, L')) : MetL g l yX10_item cX10_item 8 2 [.ref (g.1 + 0), .int a1, .int a2, .int a3, .long a4] I L r I L' := by
  unfold f_X10_item at h
  refine w_enter (by decide) (Nat.le_of_ble_eq_true rfl) (own := RX10) rfl ?_
  intro p e s m below meth c args Q hQ C hr hlocks hW ls hl
  have hl : lv_has ls 8 [(0, .ref (g.1 + 0)), (1, .int a1), (2, .int a2), (3, .int a3), (4, .long a4)] := hl
  refine lv_aload_n C.1.1 C.1.2.1 dX10_item_0 rfl (lv_at hl 0 rfl) ?_
  refine lv_iload_n C.1.1 C.1.2.1 dX10_item_1 rfl (lv_at hl 1 rfl) ?_
  refine lv_iload_n C.1.1 C.1.2.1 dX10_item_2 rfl (lv_at hl 2 rfl) ?_
  refine lv_iload_n C.1.1 C.1.2.1 dX10_item_3 rfl (lv_at hl 3 rfl) ?_
  refine lv_iconst (v := 1) C.1.1 C.1.2.1 dX10_item_4 (by decide) ?_
  obtain ⟨r1, hc2, h⟩ := bd1_some h
  refine w_callVi (k := 4) (As := [.int a1, .int a2, .int a3, .int (1 : Int32)]) (rest := []) C hW (c_X10_refusesRow g l  hc2) (by decide) rfl (EX_10 (by decide)) K_X10_279 (by decide +kernel) ⟨by decide, by decide⟩ ⟨Nat.le_refl _, Nat.le_refl _⟩ rfl hl.1 rfl (Nat.le_of_ble_eq_true rfl) dX10_item_5 (fun H locs hW => ?_)
  refine lv_istore (lv' := [(6, .int r1), (0, .ref (g.1 + 0)), (1, .int a1), (2, .int a2), (3, .int a3), (4, .long a4)]) C.1.1 C.1.2.1 dX10_item_8 hl (by decide) rfl (fun ls hl => ?_)
  refine lv_iload C.1.1 C.1.2.1 dX10_item_10 (lv_at hl 0 rfl) ?_
  refine lv_if_eq (tgt := 19) C.1.1 C.1.2.1 dX10_item_12 (by decide) (fun hc3 => ?_) (fun hc3 => ?_)
  · replace h := ite_t hc3 h
    refine lv_aload_n C.1.1 C.1.2.1 dX10_item_19 rfl (lv_at hl 1 rfl) ?_
    refine G_X10_39 C hW (by decide) dX10_item_20 ?_
    refine lv_iload_n C.1.1 C.1.2.1 dX10_item_23 rfl (lv_at hl 2 rfl) ?_
    obtain ⟨hi4, h⟩ := gi_some h
    refine w_ash C hW hi4 dX10_item_24 ?_
    refine lv_astore (lv' := [(7, .ref (g.1 + (199 + 2 * a1.toNatClampNeg))), (6, .int r1), (0, .ref (g.1 + 0)), (1, .int a1), (2, .int a2), (3, .int a3), (4, .long a4)]) C.1.1 C.1.2.1 dX10_item_25 hl (by decide) rfl (fun ls hl => ?_)
    refine lv_aload C.1.1 C.1.2.1 dX10_item_27 (lv_at hl 0 rfl) ?_
    refine lv_iload_n C.1.1 C.1.2.1 dX10_item_29 rfl (lv_at hl 5 rfl) ?_
    refine lv_lload C.1.1 C.1.2.1 dX10_item_30 (lv_at hl 6 rfl) ?_
    obtain ⟨L5, hc6, h⟩ := bd1_some h
    refine w_callVv (k := 2) (As := [.int a3, .long a4]) (rest := []) C hW (c_X5_put g l (kd_sh hi4) hc6) (kd_sh hi4) rfl (EX_5 (kd_sh hi4)) K_X10_283 (by decide +kernel) ⟨by decide, by decide⟩ ⟨Nat.le_refl _, Nat.le_refl _⟩ rfl hl.1 rfl (Nat.le_of_ble_eq_true rfl) dX10_item_32 (fun H locs hW => ?_)
    refine lv_aload C.1.1 C.1.2.1 dX10_item_35 (lv_at hl 0 rfl) ?_
    refine G_X10_286 C hW (kd_sh hi4) dX10_item_37 ?_
    refine lv_iload_n C.1.1 C.1.2.1 dX10_item_40 rfl (lv_at hl 5 rfl) ?_
    obtain ⟨hi7, h⟩ := gi_some h
    refine w_lald C hW (n := 24) (kd_it (kd_sh hi4)) (ln_it (kd_sh hi4)) hi7 dX10_item_41 ?_
    obtain ⟨rfl, rfl⟩ := inj2 h
    subst hQ
    exact w_lret C hW hr hlocks dX10_item_42
  · replace h := ite_f hc3 h
    refine lv_iload C.1.1 C.1.2.1 dX10_item_15 (lv_at hl 0 rfl) ?_
    refine lv_i2l C.1.1 C.1.2.1 dX10_item_17 rfl ?_
    obtain ⟨rfl, rfl⟩ := inj2 h
    subst hQ
    exact w_lret C hW hr hlocks dX10_item_18
def f_X10_copy (a1 : Int32) (a2 : Int32) (a3 : Int32) (a4 : Int32) (a5 : Int32) (I : MI) (L : ML) : Option (Int32 × ML) :=
  bd1 (f_X10_within a1 (0 : Int32) (3 : Int32)) (fun r1 => (if r1 = 0 then some (((-1 : Int32), L)) else bd1 (f_X10_within a3 (0 : Int32) (3 : Int32)) (fun r4 => (if r4 = 0 then some (((-1 : Int32), L)) else gi a1 4 (gi a3 4 (bd1 (f_X5_isNothing (199 + 2 * a1.toNatClampNeg) I L) (fun r9 => (if r9 = 0 then bd1 (f_X5_isNothing (199 + 2 * a3.toNatClampNeg) I L) (fun r12 => (if r12 = 0 then (if (I (199 + 2 * a1.toNatClampNeg) 0) = (I (199 + 2 * a3.toNatClampNeg) 0) then bd1 (f_X5_holds (199 + 2 * a1.toNatClampNeg) a2 a5 I L) (fun r16 => (if r16 = 0 then some (((-13 : Int32), L)) else bd1 (f_X5_holds (199 + 2 * a3.toNatClampNeg) a4 a5 I L) (fun r19 => (if r19 = 0 then some (((-13 : Int32), L)) else gd (¬ a2 < 0 ∧ ¬ a4 < 0 ∧ ¬ a5 < 0 ∧ a2.toNatClampNeg + a5.toNatClampNeg ≤ 24 ∧ a4.toNatClampNeg + a5.toNatClampNeg ≤ 24) (nm (va_up L ((199 + 2 * a3.toNatClampNeg) + 1) (va_cpy (L ((199 + 2 * a1.toNatClampNeg) + 1)) (L ((199 + 2 * a3.toNatClampNeg) + 1)) a2.toNatClampNeg a4.toNatClampNeg a5.toNatClampNeg)) (fun L23 => some (a5, L23))))))) else some (((-12 : Int32), L))) else some (((-11 : Int32), L)))) else some (((-11 : Int32), L))))))))))
set_option maxHeartbeats 4000000 in
set_option maxRecDepth 100000 in
theorem c_X10_copy (g : Gp) (l : Launch) {a1 : Int32} {a2 : Int32} {a3 : Int32} {a4 : Int32} {a5 : Int32}  {I : MI} {L : ML} {r : Int32} {L' : ML} (h : f_X10_copy a1 a2 a3 a4 a5 I L = some (r, L')) : MetI g l yX10_copy cX10_copy 8 .int 1 [.ref (g.1 + 0), .int a1, .int a2, .int a3, .int a4, .int a5] I L r I L' := by
  unfold f_X10_copy at h
  refine w_enter (by decide) (Nat.le_of_ble_eq_true rfl) (own := RX10) rfl ?_
  intro p e s m below meth c args Q hQ C hr hlocks hW ls hl
  have hl : lv_has ls 8 [(0, .ref (g.1 + 0)), (1, .int a1), (2, .int a2), (3, .int a3), (4, .int a4), (5, .int a5)] := hl
  refine lv_iload_n C.1.1 C.1.2.1 dX10_copy_0 rfl (lv_at hl 1 rfl) ?_
  refine lv_iconst (v := 0) C.1.1 C.1.2.1 dX10_copy_1 (by decide) ?_
  refine lv_iconst (v := 3) C.1.1 C.1.2.1 dX10_copy_2 (by decide) ?_
  obtain ⟨r1, hc2, h⟩ := bd1_some h
  refine w_callSi (k := 3) (As := [.int a1, .int (0 : Int32), .int (3 : Int32)]) (rest := []) C hW (c_X10_within g l  hc2 I L) K_X10_79 (by decide +kernel) ⟨by decide, by decide⟩ ⟨Nat.le_refl _, Nat.le_refl _⟩ rfl hl.1 rfl (Nat.le_of_ble_eq_true rfl) dX10_copy_3 (fun H locs hW => ?_)
  refine lv_if_eq (tgt := 18) C.1.1 C.1.2.1 dX10_copy_6 (by decide) (fun hc3 => ?_) (fun hc3 => ?_)
  · replace h := ite_t hc3 h
    refine lv_iconst (v := -1) C.1.1 C.1.2.1 dX10_copy_18 (by decide) ?_
    obtain ⟨rfl, rfl⟩ := inj2 h
    subst hQ
    exact w_iret C hW hr hlocks dX10_copy_19
  · replace h := ite_f hc3 h
    refine lv_iload_n C.1.1 C.1.2.1 dX10_copy_9 rfl (lv_at hl 3 rfl) ?_
    refine lv_iconst (v := 0) C.1.1 C.1.2.1 dX10_copy_10 (by decide) ?_
    refine lv_iconst (v := 3) C.1.1 C.1.2.1 dX10_copy_11 (by decide) ?_
    obtain ⟨r4, hc5, h⟩ := bd1_some h
    refine w_callSi (k := 3) (As := [.int a3, .int (0 : Int32), .int (3 : Int32)]) (rest := []) C hW (c_X10_within g l  hc5 I L) K_X10_79 (by decide +kernel) ⟨by decide, by decide⟩ ⟨Nat.le_refl _, Nat.le_refl _⟩ rfl hl.1 rfl (Nat.le_of_ble_eq_true rfl) dX10_copy_12 (fun H locs hW => ?_)
    refine lv_if_ne (tgt := 20) C.1.1 C.1.2.1 dX10_copy_15 (by decide) (fun hc6 => ?_) (fun hc6 => ?_)
    · replace h := ite_f hc6 h
      refine lv_aload_n C.1.1 C.1.2.1 dX10_copy_20 rfl (lv_at hl 0 rfl) ?_
      refine G_X10_39 C hW (by decide) dX10_copy_21 ?_
      refine lv_iload_n C.1.1 C.1.2.1 dX10_copy_24 rfl (lv_at hl 1 rfl) ?_
      obtain ⟨hi7, h⟩ := gi_some h
      refine w_ash C hW hi7 dX10_copy_25 ?_
      refine lv_astore (lv' := [(6, .ref (g.1 + (199 + 2 * a1.toNatClampNeg))), (0, .ref (g.1 + 0)), (1, .int a1), (2, .int a2), (3, .int a3), (4, .int a4), (5, .int a5)]) C.1.1 C.1.2.1 dX10_copy_26 hl (by decide) rfl (fun ls hl => ?_)
      refine lv_aload_n C.1.1 C.1.2.1 dX10_copy_28 rfl (lv_at hl 1 rfl) ?_
      refine G_X10_39 C hW (by decide) dX10_copy_29 ?_
      refine lv_iload_n C.1.1 C.1.2.1 dX10_copy_32 rfl (lv_at hl 4 rfl) ?_
      obtain ⟨hi8, h⟩ := gi_some h
      refine w_ash C hW hi8 dX10_copy_33 ?_
      refine lv_astore (lv' := [(7, .ref (g.1 + (199 + 2 * a3.toNatClampNeg))), (6, .ref (g.1 + (199 + 2 * a1.toNatClampNeg))), (0, .ref (g.1 + 0)), (1, .int a1), (2, .int a2), (3, .int a3), (4, .int a4), (5, .int a5)]) C.1.1 C.1.2.1 dX10_copy_34 hl (by decide) rfl (fun ls hl => ?_)
      refine lv_aload C.1.1 C.1.2.1 dX10_copy_36 (lv_at hl 1 rfl) ?_
      obtain ⟨r9, hc10, h⟩ := bd1_some h
      refine w_callVi (k := 0) (As := []) (rest := []) C hW (c_X5_isNothing g l (kd_sh hi7) hc10) (kd_sh hi7) rfl (EX_5 (kd_sh hi7)) K_X10_272 (by decide +kernel) ⟨by decide, by decide⟩ ⟨Nat.le_refl _, Nat.le_refl _⟩ rfl hl.1 rfl (Nat.le_of_ble_eq_true rfl) dX10_copy_38 (fun H locs hW => ?_)
      refine lv_if_ne (tgt := 52) C.1.1 C.1.2.1 dX10_copy_41 (by decide) (fun hc11 => ?_) (fun hc11 => ?_)
      · replace h := ite_f hc11 h
        refine lv_bipush (v := -11) C.1.1 C.1.2.1 dX10_copy_52 (by decide) ?_
        obtain ⟨rfl, rfl⟩ := inj2 h
        subst hQ
        exact w_iret C hW hr hlocks dX10_copy_54
      · replace h := ite_t hc11 h
        refine lv_aload C.1.1 C.1.2.1 dX10_copy_44 (lv_at hl 0 rfl) ?_
        obtain ⟨r12, hc13, h⟩ := bd1_some h
        refine w_callVi (k := 0) (As := []) (rest := []) C hW (c_X5_isNothing g l (kd_sh hi8) hc13) (kd_sh hi8) rfl (EX_5 (kd_sh hi8)) K_X10_272 (by decide +kernel) ⟨by decide, by decide⟩ ⟨Nat.le_refl _, Nat.le_refl _⟩ rfl hl.1 rfl (Nat.le_of_ble_eq_true rfl) dX10_copy_46 (fun H locs hW => ?_)
        refine lv_if_eq (tgt := 55) C.1.1 C.1.2.1 dX10_copy_49 (by decide) (fun hc14 => ?_) (fun hc14 => ?_)
        · replace h := ite_t hc14 h
          refine lv_aload C.1.1 C.1.2.1 dX10_copy_55 (lv_at hl 1 rfl) ?_
          refine G_X10_290 C hW (kd_sh hi7) dX10_copy_57 ?_
          refine lv_aload C.1.1 C.1.2.1 dX10_copy_60 (lv_at hl 0 rfl) ?_
          refine G_X10_290 C hW (kd_sh hi8) dX10_copy_62 ?_
          refine lv_icmp_eq (tgt := 71) C.1.1 C.1.2.1 dX10_copy_65 (by decide) (fun hc15 => ?_) (fun hc15 => ?_)
          · replace h := ite_t hc15 h
            refine lv_aload C.1.1 C.1.2.1 dX10_copy_71 (lv_at hl 1 rfl) ?_
            refine lv_iload_n C.1.1 C.1.2.1 dX10_copy_73 rfl (lv_at hl 4 rfl) ?_
            refine lv_iload C.1.1 C.1.2.1 dX10_copy_74 (lv_at hl 7 rfl) ?_
            obtain ⟨r16, hc17, h⟩ := bd1_some h
            refine w_callVi (k := 2) (As := [.int a2, .int a5]) (rest := []) C hW (c_X5_holds g l (kd_sh hi7) hc17) (kd_sh hi7) rfl (EX_5 (kd_sh hi7)) K_X10_293 (by decide +kernel) ⟨by decide, by decide⟩ ⟨Nat.le_refl _, Nat.le_refl _⟩ rfl hl.1 rfl (Nat.le_of_ble_eq_true rfl) dX10_copy_76 (fun H locs hW => ?_)
            refine lv_if_eq (tgt := 94) C.1.1 C.1.2.1 dX10_copy_79 (by decide) (fun hc18 => ?_) (fun hc18 => ?_)
            · replace h := ite_t hc18 h
              refine lv_bipush (v := -13) C.1.1 C.1.2.1 dX10_copy_94 (by decide) ?_
              obtain ⟨rfl, rfl⟩ := inj2 h
              subst hQ
              exact w_iret C hW hr hlocks dX10_copy_96
            · replace h := ite_f hc18 h
              refine lv_aload C.1.1 C.1.2.1 dX10_copy_82 (lv_at hl 0 rfl) ?_
              refine lv_iload C.1.1 C.1.2.1 dX10_copy_84 (lv_at hl 6 rfl) ?_
              refine lv_iload C.1.1 C.1.2.1 dX10_copy_86 (lv_at hl 7 rfl) ?_
              obtain ⟨r19, hc20, h⟩ := bd1_some h
              refine w_callVi (k := 2) (As := [.int a4, .int a5]) (rest := []) C hW (c_X5_holds g l (kd_sh hi8) hc20) (kd_sh hi8) rfl (EX_5 (kd_sh hi8)) K_X10_293 (by decide +kernel) ⟨by decide, by decide⟩ ⟨Nat.le_refl _, Nat.le_refl _⟩ rfl hl.1 rfl (Nat.le_of_ble_eq_true rfl) dX10_copy_88 (fun H locs hW => ?_)
              refine lv_if_ne (tgt := 97) C.1.1 C.1.2.1 dX10_copy_91 (by decide) (fun hc21 => ?_) (fun hc21 => ?_)
              · replace h := ite_f hc21 h
                refine lv_aload C.1.1 C.1.2.1 dX10_copy_97 (lv_at hl 1 rfl) ?_
                refine G_X10_286 C hW (kd_sh hi7) dX10_copy_99 ?_
                refine lv_iload_n C.1.1 C.1.2.1 dX10_copy_102 rfl (lv_at hl 4 rfl) ?_
                refine lv_aload C.1.1 C.1.2.1 dX10_copy_103 (lv_at hl 0 rfl) ?_
                refine G_X10_286 C hW (kd_sh hi8) dX10_copy_105 ?_
                refine lv_iload C.1.1 C.1.2.1 dX10_copy_108 (lv_at hl 6 rfl) ?_
                refine lv_iload C.1.1 C.1.2.1 dX10_copy_110 (lv_at hl 7 rfl) ?_
                obtain ⟨hz22, h⟩ := gd_some h
                refine w_copyl C hW hl.1 (kd_sh hi7) (kd_sh hi8) hz22.1 hz22.2.1 hz22.2.2.1 hz22.2.2.2.1 hz22.2.2.2.2 (by decide) rfl dX10_copy_112 (fun H locs hW => ?_)
                obtain ⟨L23, eL23, h⟩ := nm_some h
                rw [← eL23] at hW
                clear eL23
                refine lv_iload C.1.1 C.1.2.1 dX10_copy_115 (lv_at hl 7 rfl) ?_
                obtain ⟨rfl, rfl⟩ := inj2 h
                subst hQ
                exact w_iret C hW hr hlocks dX10_copy_117
              · replace h := ite_t hc21 h
                refine lv_bipush (v := -13) C.1.1 C.1.2.1 dX10_copy_94 (by decide) ?_
                obtain ⟨rfl, rfl⟩ := inj2 h
                subst hQ
                exact w_iret C hW hr hlocks dX10_copy_96
          · replace h := ite_f hc15 h
            refine lv_bipush (v := -12) C.1.1 C.1.2.1 dX10_copy_68 (by decide) ?_
            obtain ⟨rfl, rfl⟩ := inj2 h
            subst hQ
            exact w_iret C hW hr hlocks dX10_copy_70
        · replace h := ite_f hc14 h
          refine lv_bipush (v := -11) C.1.1 C.1.2.1 dX10_copy_52 (by decide) ?_
          obtain ⟨rfl, rfl⟩ := inj2 h
          subst hQ
          exact w_iret C hW hr hlocks dX10_copy_54
    · replace h := ite_t hc6 h
      refine lv_iconst (v := -1) C.1.1 C.1.2.1 dX10_copy_18 (by decide) ?_
      obtain ⟨rfl, rfl⟩ := inj2 h
      subst hQ
      exact w_iret C hW hr hlocks dX10_copy_19
def f_X10_film (a1 : Int32) (a2 : Int32) (a3 : Int32) (a4 : Int32) (a5 : Int32) (I : MI) (L : ML) : Option (Int32 × MI × ML) :=
  bd1 (f_X9_has 3 a1 I L) (fun r1 => (if r1 = 0 then some (((-1 : Int32), I, L)) else bd1 (f_X10_within a2 (1 : Int32) (24 : Int32)) (fun r4 => (if r4 = 0 then some (((-1 : Int32), I, L)) else bd1 (f_X10_refusesRow a3 a4 a5 a2 I L) (fun r7 => (if r7 = 0 then bd1 (f_X1_look 3 I L) (fun I10 => gi a3 4 (gi a1 6 (bd2 (f_X1_filmOnto (199 + 2 * a3.toNatClampNeg) a5 (3 + 2 + a1.toNatClampNeg) a2 I10 L) (fun I14 L15 => some (a2, I14, L15))))) else some (r7, I, L)))))))
set_option maxHeartbeats 4000000 in
set_option maxRecDepth 100000 in
theorem c_X10_film (g : Gp) (l : Launch) {a1 : Int32} {a2 : Int32} {a3 : Int32} {a4 : Int32} {a5 : Int32}  {I : MI} {L : ML} {r : Int32} {I' : MI} {L' : ML} (h : f_X10_film a1 a2 a3 a4 a5 I L = some (r, I', L')) : MetI g l yX10_film cX10_film 7 .int 5 [.ref (g.1 + 0), .int a1, .int a2, .int a3, .int a4, .int a5] I L r I' L' := by
  unfold f_X10_film at h
  refine w_enter (by decide) (Nat.le_of_ble_eq_true rfl) (own := RX10) rfl ?_
  intro p e s m below meth c args Q hQ C hr hlocks hW ls hl
  have hl : lv_has ls 7 [(0, .ref (g.1 + 0)), (1, .int a1), (2, .int a2), (3, .int a3), (4, .int a4), (5, .int a5)] := hl
  refine lv_aload_n C.1.1 C.1.2.1 dX10_film_0 rfl (lv_at hl 0 rfl) ?_
  refine G_X10_19 C hW (by decide) dX10_film_1 ?_
  refine lv_iload_n C.1.1 C.1.2.1 dX10_film_4 rfl (lv_at hl 1 rfl) ?_
  obtain ⟨r1, hc2, h⟩ := bd1_some h
  refine w_callVi (k := 1) (As := [.int a1]) (rest := []) C hW (c_X9_has g l (by decide) hc2) (by decide) rfl (EX_9 (by decide)) K_X10_108 (by decide +kernel) ⟨by decide, by decide⟩ ⟨Nat.le_refl _, Nat.le_refl _⟩ rfl hl.1 rfl (Nat.le_of_ble_eq_true rfl) dX10_film_5 (fun H locs hW => ?_)
  refine lv_if_eq (tgt := 21) C.1.1 C.1.2.1 dX10_film_8 (by decide) (fun hc3 => ?_) (fun hc3 => ?_)
  · replace h := ite_t hc3 h
    refine lv_iconst (v := -1) C.1.1 C.1.2.1 dX10_film_21 (by decide) ?_
    obtain ⟨rfl, rfl, rfl⟩ := inj3 h
    subst hQ
    exact w_iret C hW hr hlocks dX10_film_22
  · replace h := ite_f hc3 h
    refine lv_iload_n C.1.1 C.1.2.1 dX10_film_11 rfl (lv_at hl 2 rfl) ?_
    refine lv_iconst (v := 1) C.1.1 C.1.2.1 dX10_film_12 (by decide) ?_
    refine lv_bipush (v := 24) C.1.1 C.1.2.1 dX10_film_13 (by decide) ?_
    obtain ⟨r4, hc5, h⟩ := bd1_some h
    refine w_callSi (k := 3) (As := [.int a2, .int (1 : Int32), .int (24 : Int32)]) (rest := []) C hW (c_X10_within g l  hc5 I L) K_X10_79 (by decide +kernel) ⟨by decide, by decide⟩ ⟨Nat.le_refl _, Nat.le_refl _⟩ rfl hl.1 rfl (Nat.le_of_ble_eq_true rfl) dX10_film_15 (fun H locs hW => ?_)
    refine lv_if_ne (tgt := 23) C.1.1 C.1.2.1 dX10_film_18 (by decide) (fun hc6 => ?_) (fun hc6 => ?_)
    · replace h := ite_f hc6 h
      refine lv_aload_n C.1.1 C.1.2.1 dX10_film_23 rfl (lv_at hl 0 rfl) ?_
      refine lv_iload_n C.1.1 C.1.2.1 dX10_film_24 rfl (lv_at hl 3 rfl) ?_
      refine lv_iload C.1.1 C.1.2.1 dX10_film_25 (lv_at hl 4 rfl) ?_
      refine lv_iload C.1.1 C.1.2.1 dX10_film_27 (lv_at hl 5 rfl) ?_
      refine lv_iload_n C.1.1 C.1.2.1 dX10_film_29 rfl (lv_at hl 2 rfl) ?_
      obtain ⟨r7, hc8, h⟩ := bd1_some h
      refine w_callVi (k := 4) (As := [.int a3, .int a4, .int a5, .int a2]) (rest := []) C hW (c_X10_refusesRow g l  hc8) (by decide) rfl (EX_10 (by decide)) K_X10_279 (by decide +kernel) ⟨by decide, by decide⟩ ⟨Nat.le_refl _, Nat.le_refl _⟩ rfl hl.1 rfl (Nat.le_of_ble_eq_true rfl) dX10_film_30 (fun H locs hW => ?_)
      refine lv_istore (lv' := [(6, .int r7), (0, .ref (g.1 + 0)), (1, .int a1), (2, .int a2), (3, .int a3), (4, .int a4), (5, .int a5)]) C.1.1 C.1.2.1 dX10_film_33 hl (by decide) rfl (fun ls hl => ?_)
      refine lv_iload C.1.1 C.1.2.1 dX10_film_35 (lv_at hl 0 rfl) ?_
      refine lv_if_eq (tgt := 43) C.1.1 C.1.2.1 dX10_film_37 (by decide) (fun hc9 => ?_) (fun hc9 => ?_)
      · replace h := ite_t hc9 h
        refine lv_aload_n C.1.1 C.1.2.1 dX10_film_43 rfl (lv_at hl 1 rfl) ?_
        refine G_X10_47 C hW (by decide) dX10_film_44 ?_
        refine lv_aload_n C.1.1 C.1.2.1 dX10_film_47 rfl (lv_at hl 1 rfl) ?_
        refine G_X10_19 C hW (by decide) dX10_film_48 ?_
        obtain ⟨I10, hc11, h⟩ := bd1_some h
        refine w_callVv (k := 1) (As := [.ref (g.1 + 3)]) (rest := []) C hW (c_X1_look g l (by decide) hc11) (by decide) rfl (EX_1 (by decide)) K_X10_210 (by decide +kernel) ⟨by decide, by decide⟩ ⟨Nat.le_refl _, Nat.le_refl _⟩ rfl hl.1 rfl (Nat.le_of_ble_eq_true rfl) dX10_film_51 (fun H locs hW => ?_)
        refine lv_aload_n C.1.1 C.1.2.1 dX10_film_54 rfl (lv_at hl 1 rfl) ?_
        refine G_X10_47 C hW (by decide) dX10_film_55 ?_
        refine lv_aload_n C.1.1 C.1.2.1 dX10_film_58 rfl (lv_at hl 1 rfl) ?_
        refine G_X10_39 C hW (by decide) dX10_film_59 ?_
        refine lv_iload_n C.1.1 C.1.2.1 dX10_film_62 rfl (lv_at hl 4 rfl) ?_
        obtain ⟨hi12, h⟩ := gi_some h
        refine w_ash C hW hi12 dX10_film_63 ?_
        refine lv_iload C.1.1 C.1.2.1 dX10_film_64 (lv_at hl 6 rfl) ?_
        refine lv_aload_n C.1.1 C.1.2.1 dX10_film_66 rfl (lv_at hl 1 rfl) ?_
        refine G_X10_19 C hW (by decide) dX10_film_67 ?_
        refine G_X10_111 C hW (by decide) dX10_film_70 ?_
        refine lv_iload_n C.1.1 C.1.2.1 dX10_film_73 rfl (lv_at hl 2 rfl) ?_
        obtain ⟨hi13, h⟩ := gi_some h
        refine w_asit C hW (w := 3) (by decide) hi13 dX10_film_74 ?_
        refine lv_iload_n C.1.1 C.1.2.1 dX10_film_75 rfl (lv_at hl 3 rfl) ?_
        obtain ⟨I14, L15, hc16, h⟩ := bd2_some h
        refine w_callVv (k := 4) (As := [.ref (g.1 + (199 + 2 * a3.toNatClampNeg)), .int a5, .ref (g.1 + (3 + 2 + a1.toNatClampNeg)), .int a2]) (rest := []) C hW (c_X1_filmOnto g l (kd_sh hi12) (kd_sit (by decide) hi13) hc16) (by decide) rfl (EX_1 (by decide)) K_X10_302 (by decide +kernel) ⟨by decide, by decide⟩ ⟨Nat.le_refl _, Nat.le_refl _⟩ rfl hl.1 rfl (Nat.le_of_ble_eq_true rfl) dX10_film_76 (fun H locs hW => ?_)
        refine lv_iload_n C.1.1 C.1.2.1 dX10_film_79 rfl (lv_at hl 3 rfl) ?_
        obtain ⟨rfl, rfl, rfl⟩ := inj3 h
        subst hQ
        exact w_iret C hW hr hlocks dX10_film_80
      · replace h := ite_f hc9 h
        refine lv_iload C.1.1 C.1.2.1 dX10_film_40 (lv_at hl 0 rfl) ?_
        obtain ⟨rfl, rfl, rfl⟩ := inj3 h
        subst hQ
        exact w_iret C hW hr hlocks dX10_film_42
    · replace h := ite_t hc6 h
      refine lv_iconst (v := -1) C.1.1 C.1.2.1 dX10_film_21 (by decide) ?_
      obtain ⟨rfl, rfl, rfl⟩ := inj3 h
      subst hQ
      exact w_iret C hW hr hlocks dX10_film_22
def f_X10_refusesPairs (a1 : Int32) (a2 : Int32) (a3 : Int32) (a4 : Int32) (a5 : Int32) (I : MI) (L : ML) : Option (Int32) :=
  bd1 (f_X10_refusesRow a1 a2 a3 ((2 : Int32) * a4) I L) (fun r1 => (if r1 = 0 then gi a1 4 (bd1 (f_X5_areWithin (199 + 2 * a1.toNatClampNeg) a3 ((2 : Int32) * a4) a5 I L) (fun r5 => bd1 ((if r5 = 0 then some (-2 : Int32) else some (0 : Int32))) (fun y7 => some y7))) else some r1))
set_option maxHeartbeats 4000000 in
set_option maxRecDepth 100000 in
theorem c_X10_refusesPairs (g : Gp) (l : Launch) {a1 : Int32} {a2 : Int32} {a3 : Int32} {a4 : Int32} {a5 : Int32}  {I : MI} {L : ML} {r : Int32} (h : f_X10_refusesPairs a1 a2 a3 a4 a5 I L = some r) : MetI g l yX10_refusesPairs cX10_refusesPairs 7 .int 2 [.ref (g.1 + 0), .int a1, .int a2, .int a3, .int a4, .int a5] I L r I L := by
  unfold f_X10_refusesPairs at h
  refine w_enter (by decide) (Nat.le_of_ble_eq_true rfl) (own := RX10) rfl ?_
  intro p e s m below meth c args Q hQ C hr hlocks hW ls hl
  have hl : lv_has ls 7 [(0, .ref (g.1 + 0)), (1, .int a1), (2, .int a2), (3, .int a3), (4, .int a4), (5, .int a5)] := hl
  refine lv_aload_n C.1.1 C.1.2.1 dX10_refusesPairs_0 rfl (lv_at hl 0 rfl) ?_
  refine lv_iload_n C.1.1 C.1.2.1 dX10_refusesPairs_1 rfl (lv_at hl 1 rfl) ?_
  refine lv_iload_n C.1.1 C.1.2.1 dX10_refusesPairs_2 rfl (lv_at hl 2 rfl) ?_
  refine lv_iload_n C.1.1 C.1.2.1 dX10_refusesPairs_3 rfl (lv_at hl 3 rfl) ?_
  refine lv_iconst (v := 2) C.1.1 C.1.2.1 dX10_refusesPairs_4 (by decide) ?_
  refine lv_iload C.1.1 C.1.2.1 dX10_refusesPairs_5 (lv_at hl 4 rfl) ?_
  refine lv_imul C.1.1 C.1.2.1 dX10_refusesPairs_7 ?_
  obtain ⟨r1, hc2, h⟩ := bd1_some h
  refine w_callVi (k := 4) (As := [.int a1, .int a2, .int a3, .int ((2 : Int32) * a4)]) (rest := []) C hW (c_X10_refusesRow g l  hc2) (by decide) rfl (EX_10 (by decide)) K_X10_279 (by decide +kernel) ⟨by decide, by decide⟩ ⟨Nat.le_refl _, Nat.le_refl _⟩ rfl hl.1 rfl (Nat.le_of_ble_eq_true rfl) dX10_refusesPairs_8 (fun H locs hW => ?_)
  refine lv_istore (lv' := [(6, .int r1), (0, .ref (g.1 + 0)), (1, .int a1), (2, .int a2), (3, .int a3), (4, .int a4), (5, .int a5)]) C.1.1 C.1.2.1 dX10_refusesPairs_11 hl (by decide) rfl (fun ls hl => ?_)
  refine lv_iload C.1.1 C.1.2.1 dX10_refusesPairs_13 (lv_at hl 0 rfl) ?_
  refine lv_if_eq (tgt := 21) C.1.1 C.1.2.1 dX10_refusesPairs_15 (by decide) (fun hc3 => ?_) (fun hc3 => ?_)
  · replace h := ite_t hc3 h
    refine lv_aload_n C.1.1 C.1.2.1 dX10_refusesPairs_21 rfl (lv_at hl 1 rfl) ?_
    refine G_X10_39 C hW (by decide) dX10_refusesPairs_22 ?_
    refine lv_iload_n C.1.1 C.1.2.1 dX10_refusesPairs_25 rfl (lv_at hl 2 rfl) ?_
    obtain ⟨hi4, h⟩ := gi_some h
    refine w_ash C hW hi4 dX10_refusesPairs_26 ?_
    refine lv_iload_n C.1.1 C.1.2.1 dX10_refusesPairs_27 rfl (lv_at hl 4 rfl) ?_
    refine lv_iconst (v := 2) C.1.1 C.1.2.1 dX10_refusesPairs_28 (by decide) ?_
    refine lv_iload C.1.1 C.1.2.1 dX10_refusesPairs_29 (lv_at hl 5 rfl) ?_
    refine lv_imul C.1.1 C.1.2.1 dX10_refusesPairs_31 ?_
    refine lv_iload C.1.1 C.1.2.1 dX10_refusesPairs_32 (lv_at hl 6 rfl) ?_
    obtain ⟨r5, hc6, h⟩ := bd1_some h
    refine w_callVi (k := 3) (As := [.int a3, .int ((2 : Int32) * a4), .int a5]) (rest := []) C hW (c_X5_areWithin g l (kd_sh hi4) hc6) (kd_sh hi4) rfl (EX_5 (kd_sh hi4)) K_X10_360 (by decide +kernel) ⟨by decide, by decide⟩ ⟨Nat.le_refl _, Nat.le_refl _⟩ rfl hl.1 rfl (Nat.le_of_ble_eq_true rfl) dX10_refusesPairs_34 (fun H locs hW => ?_)
    obtain ⟨y7, hj9, h⟩ := bd1_some h
    have kJ8 : ∀ (H : Heap) (locs : List Loc) (ls : Array Slot), Ws g s I L H locs → lv_has ls 7 [] → W p l e (rmD 2) s m args below meth c H locs 0 0 Q (F0 m 46 ls [.int y7]) := by
      intro H locs ls hW hl
      obtain rfl := inj1 h
      subst hQ
      exact w_iret C hW hr hlocks dX10_refusesPairs_46
    clear h
    have h := hj9
    clear hj9
    refine lv_if_eq (tgt := 44) C.1.1 C.1.2.1 dX10_refusesPairs_37 (by decide) (fun hc10 => ?_) (fun hc10 => ?_)
    · replace h := ite_t hc10 h
      refine lv_bipush (v := -2) C.1.1 C.1.2.1 dX10_refusesPairs_44 (by decide) ?_
      obtain rfl := inj1 h
      exact kJ8 _ _ _ hW (lv_sub hl [] rfl)
    · replace h := ite_f hc10 h
      refine lv_iconst (v := 0) C.1.1 C.1.2.1 dX10_refusesPairs_40 (by decide) ?_
      refine lv_goto (tgt := 46) C.1.1 C.1.2.1 dX10_refusesPairs_41 (by decide) ?_
      obtain rfl := inj1 h
      exact kJ8 _ _ _ hW (lv_sub hl [] rfl)
  · replace h := ite_f hc3 h
    refine lv_iload C.1.1 C.1.2.1 dX10_refusesPairs_18 (lv_at hl 0 rfl) ?_
    obtain rfl := inj1 h
    subst hQ
    exact w_iret C hW hr hlocks dX10_refusesPairs_20
def f_X10_round (a1 : Int32) (a2 : Int32) (a3 : Int32) (a4 : Int32) (a5 : Int32) (I : MI) (L : ML) : Option (Int32 × MI) :=
  bd1 (f_X10_within a4 (2 : Int32) (7 : Int32)) (fun r1 => (if r1 = 0 then some (((-1 : Int32), I)) else bd1 (f_X10_within a5 (0 : Int32) (1 : Int32)) (fun r4 => (if r4 = 0 then some (((-1 : Int32), I)) else bd1 (f_X10_refusesPairs a1 a2 a3 a4 (99 : Int32) I L) (fun r7 => (if r7 = 0 then gi a1 4 (bd1 (f_X8_plan (199 + 2 * a1.toNatClampNeg) a3 a4 I L) (fun I11 => bd1 ((if a5 = 0 then some (I11 237 3) else some (I11 237 4))) (fun y13 => some (y13, I11)))) else some (r7, I)))))))
set_option maxHeartbeats 4000000 in
set_option maxRecDepth 100000 in
theorem c_X10_round (g : Gp) (l : Launch) {a1 : Int32} {a2 : Int32} {a3 : Int32} {a4 : Int32} {a5 : Int32}  {I : MI} {L : ML} {r : Int32} {I' : MI} (h : f_X10_round a1 a2 a3 a4 a5 I L = some (r, I')) : MetI g l yX10_round cX10_round 7 .int 13 [.ref (g.1 + 0), .int a1, .int a2, .int a3, .int a4, .int a5] I L r I' L := by
  unfold f_X10_round at h
  refine w_enter (by decide) (Nat.le_of_ble_eq_true rfl) (own := RX10) rfl ?_
  intro p e s m below meth c args Q hQ C hr hlocks hW ls hl
  have hl : lv_has ls 7 [(0, .ref (g.1 + 0)), (1, .int a1), (2, .int a2), (3, .int a3), (4, .int a4), (5, .int a5)] := hl
  refine lv_iload C.1.1 C.1.2.1 dX10_round_0 (lv_at hl 4 rfl) ?_
  refine lv_iconst (v := 2) C.1.1 C.1.2.1 dX10_round_2 (by decide) ?_
  refine lv_bipush (v := 7) C.1.1 C.1.2.1 dX10_round_3 (by decide) ?_
  obtain ⟨r1, hc2, h⟩ := bd1_some h
  refine w_callSi (k := 3) (As := [.int a4, .int (2 : Int32), .int (7 : Int32)]) (rest := []) C hW (c_X10_within g l  hc2 I L) K_X10_79 (by decide +kernel) ⟨by decide, by decide⟩ ⟨Nat.le_refl _, Nat.le_refl _⟩ rfl hl.1 rfl (Nat.le_of_ble_eq_true rfl) dX10_round_5 (fun H locs hW => ?_)
  refine lv_if_eq (tgt := 21) C.1.1 C.1.2.1 dX10_round_8 (by decide) (fun hc3 => ?_) (fun hc3 => ?_)
  · replace h := ite_t hc3 h
    refine lv_iconst (v := -1) C.1.1 C.1.2.1 dX10_round_21 (by decide) ?_
    obtain ⟨rfl, rfl⟩ := inj2 h
    subst hQ
    exact w_iret C hW hr hlocks dX10_round_22
  · replace h := ite_f hc3 h
    refine lv_iload C.1.1 C.1.2.1 dX10_round_11 (lv_at hl 5 rfl) ?_
    refine lv_iconst (v := 0) C.1.1 C.1.2.1 dX10_round_13 (by decide) ?_
    refine lv_iconst (v := 1) C.1.1 C.1.2.1 dX10_round_14 (by decide) ?_
    obtain ⟨r4, hc5, h⟩ := bd1_some h
    refine w_callSi (k := 3) (As := [.int a5, .int (0 : Int32), .int (1 : Int32)]) (rest := []) C hW (c_X10_within g l  hc5 I L) K_X10_79 (by decide +kernel) ⟨by decide, by decide⟩ ⟨Nat.le_refl _, Nat.le_refl _⟩ rfl hl.1 rfl (Nat.le_of_ble_eq_true rfl) dX10_round_15 (fun H locs hW => ?_)
    refine lv_if_ne (tgt := 23) C.1.1 C.1.2.1 dX10_round_18 (by decide) (fun hc6 => ?_) (fun hc6 => ?_)
    · replace h := ite_f hc6 h
      refine lv_aload_n C.1.1 C.1.2.1 dX10_round_23 rfl (lv_at hl 0 rfl) ?_
      refine lv_iload_n C.1.1 C.1.2.1 dX10_round_24 rfl (lv_at hl 1 rfl) ?_
      refine lv_iload_n C.1.1 C.1.2.1 dX10_round_25 rfl (lv_at hl 2 rfl) ?_
      refine lv_iload_n C.1.1 C.1.2.1 dX10_round_26 rfl (lv_at hl 3 rfl) ?_
      refine lv_iload C.1.1 C.1.2.1 dX10_round_27 (lv_at hl 4 rfl) ?_
      refine lv_bipush (v := 99) C.1.1 C.1.2.1 dX10_round_29 (by decide) ?_
      obtain ⟨r7, hc8, h⟩ := bd1_some h
      refine w_callVi (k := 5) (As := [.int a1, .int a2, .int a3, .int a4, .int (99 : Int32)]) (rest := []) C hW (c_X10_refusesPairs g l  hc8) (by decide) rfl (EX_10 (by decide)) K_X10_306 (by decide +kernel) ⟨by decide, by decide⟩ ⟨Nat.le_refl _, Nat.le_refl _⟩ rfl hl.1 rfl (Nat.le_of_ble_eq_true rfl) dX10_round_31 (fun H locs hW => ?_)
      refine lv_istore (lv' := [(6, .int r7), (0, .ref (g.1 + 0)), (1, .int a1), (2, .int a2), (3, .int a3), (4, .int a4), (5, .int a5)]) C.1.1 C.1.2.1 dX10_round_34 hl (by decide) rfl (fun ls hl => ?_)
      refine lv_iload C.1.1 C.1.2.1 dX10_round_36 (lv_at hl 0 rfl) ?_
      refine lv_if_eq (tgt := 44) C.1.1 C.1.2.1 dX10_round_38 (by decide) (fun hc9 => ?_) (fun hc9 => ?_)
      · replace h := ite_t hc9 h
        refine lv_aload_n C.1.1 C.1.2.1 dX10_round_44 rfl (lv_at hl 1 rfl) ?_
        refine G_X10_68 C hW (by decide) dX10_round_45 ?_
        refine lv_aload_n C.1.1 C.1.2.1 dX10_round_48 rfl (lv_at hl 1 rfl) ?_
        refine G_X10_39 C hW (by decide) dX10_round_49 ?_
        refine lv_iload_n C.1.1 C.1.2.1 dX10_round_52 rfl (lv_at hl 2 rfl) ?_
        obtain ⟨hi10, h⟩ := gi_some h
        refine w_ash C hW hi10 dX10_round_53 ?_
        refine lv_iload_n C.1.1 C.1.2.1 dX10_round_54 rfl (lv_at hl 4 rfl) ?_
        refine lv_iload C.1.1 C.1.2.1 dX10_round_55 (lv_at hl 5 rfl) ?_
        obtain ⟨I11, hc12, h⟩ := bd1_some h
        refine w_callVv (k := 3) (As := [.ref (g.1 + (199 + 2 * a1.toNatClampNeg)), .int a3, .int a4]) (rest := []) C hW (c_X8_plan g l (kd_sh hi10) hc12) (by decide) rfl (EX_8 (by decide)) K_X10_310 (by decide +kernel) ⟨by decide, by decide⟩ ⟨Nat.le_refl _, Nat.le_refl _⟩ rfl hl.1 rfl (Nat.le_of_ble_eq_true rfl) dX10_round_57 (fun H locs hW => ?_)
        refine lv_iload C.1.1 C.1.2.1 dX10_round_60 (lv_at hl 6 rfl) ?_
        obtain ⟨y13, hj15, h⟩ := bd1_some h
        have kJ14 : ∀ (H : Heap) (locs : List Loc) (ls : Array Slot), Ws g s I11 L H locs → lv_has ls 7 [] → W p l e (rmD 13) s m args below meth c H locs 0 0 Q (F0 m 82 ls [.int y13]) := by
          intro H locs ls hW hl
          obtain ⟨rfl, rfl⟩ := inj2 h
          subst hQ
          exact w_iret C hW hr hlocks dX10_round_82
        clear h
        have h := hj15
        clear hj15
        refine lv_if_ne (tgt := 75) C.1.1 C.1.2.1 dX10_round_62 (by decide) (fun hc16 => ?_) (fun hc16 => ?_)
        · replace h := ite_f hc16 h
          refine lv_aload_n C.1.1 C.1.2.1 dX10_round_75 rfl (lv_at hl 1 rfl) ?_
          refine G_X10_68 C hW (by decide) dX10_round_76 ?_
          refine G_X10_317 C hW (by decide) dX10_round_79 ?_
          obtain rfl := inj1 h
          exact kJ14 _ _ _ hW (lv_sub hl [] rfl)
        · replace h := ite_t hc16 h
          refine lv_aload_n C.1.1 C.1.2.1 dX10_round_65 rfl (lv_at hl 1 rfl) ?_
          refine G_X10_68 C hW (by decide) dX10_round_66 ?_
          refine G_X10_314 C hW (by decide) dX10_round_69 ?_
          refine lv_goto (tgt := 82) C.1.1 C.1.2.1 dX10_round_72 (by decide) ?_
          obtain rfl := inj1 h
          exact kJ14 _ _ _ hW (lv_sub hl [] rfl)
      · replace h := ite_f hc9 h
        refine lv_iload C.1.1 C.1.2.1 dX10_round_41 (lv_at hl 0 rfl) ?_
        obtain ⟨rfl, rfl⟩ := inj2 h
        subst hQ
        exact w_iret C hW hr hlocks dX10_round_43
    · replace h := ite_t hc6 h
      refine lv_iconst (v := -1) C.1.1 C.1.2.1 dX10_round_21 (by decide) ?_
      obtain ⟨rfl, rfl⟩ := inj2 h
      subst hQ
      exact w_iret C hW hr hlocks dX10_round_22
def f_X10_goesOn (a1 : Int32) (a2 : Int32) (a3 : Int32) (a4 : Int32) (a5 : Int32) (I : MI) (L : ML) : Option (Int32 × MI) :=
  bd1 (f_X10_within a4 (0 : Int32) (12 : Int32)) (fun r1 => (if r1 = 0 then some (((-1 : Int32), I)) else bd1 (f_X10_within a5 (0 : Int32) (255 : Int32)) (fun r4 => (if r4 = 0 then some (((-1 : Int32), I)) else bd1 (f_X10_refusesPairs a1 a2 a3 a4 (7 : Int32) I L) (fun r7 => (if r7 = 0 then gi a1 4 (bd1 (f_X2_hear (199 + 2 * a1.toNatClampNeg) a3 a4 I L) (fun I11 => bd1 (f_X2_knowAtLast a5 I11 L) (fun r13 => some (r13, I11)))) else some (r7, I)))))))
set_option maxHeartbeats 4000000 in
set_option maxRecDepth 100000 in
theorem c_X10_goesOn (g : Gp) (l : Launch) {a1 : Int32} {a2 : Int32} {a3 : Int32} {a4 : Int32} {a5 : Int32}  {I : MI} {L : ML} {r : Int32} {I' : MI} (h : f_X10_goesOn a1 a2 a3 a4 a5 I L = some (r, I')) : MetI g l yX10_goesOn cX10_goesOn 7 .int 3 [.ref (g.1 + 0), .int a1, .int a2, .int a3, .int a4, .int a5] I L r I' L := by
  unfold f_X10_goesOn at h
  refine w_enter (by decide) (Nat.le_of_ble_eq_true rfl) (own := RX10) rfl ?_
  intro p e s m below meth c args Q hQ C hr hlocks hW ls hl
  have hl : lv_has ls 7 [(0, .ref (g.1 + 0)), (1, .int a1), (2, .int a2), (3, .int a3), (4, .int a4), (5, .int a5)] := hl
  refine lv_iload C.1.1 C.1.2.1 dX10_goesOn_0 (lv_at hl 4 rfl) ?_
  refine lv_iconst (v := 0) C.1.1 C.1.2.1 dX10_goesOn_2 (by decide) ?_
  refine lv_bipush (v := 12) C.1.1 C.1.2.1 dX10_goesOn_3 (by decide) ?_
  obtain ⟨r1, hc2, h⟩ := bd1_some h
  refine w_callSi (k := 3) (As := [.int a4, .int (0 : Int32), .int (12 : Int32)]) (rest := []) C hW (c_X10_within g l  hc2 I L) K_X10_79 (by decide +kernel) ⟨by decide, by decide⟩ ⟨Nat.le_refl _, Nat.le_refl _⟩ rfl hl.1 rfl (Nat.le_of_ble_eq_true rfl) dX10_goesOn_5 (fun H locs hW => ?_)
  refine lv_if_eq (tgt := 23) C.1.1 C.1.2.1 dX10_goesOn_8 (by decide) (fun hc3 => ?_) (fun hc3 => ?_)
  · replace h := ite_t hc3 h
    refine lv_iconst (v := -1) C.1.1 C.1.2.1 dX10_goesOn_23 (by decide) ?_
    obtain ⟨rfl, rfl⟩ := inj2 h
    subst hQ
    exact w_iret C hW hr hlocks dX10_goesOn_24
  · replace h := ite_f hc3 h
    refine lv_iload C.1.1 C.1.2.1 dX10_goesOn_11 (lv_at hl 5 rfl) ?_
    refine lv_iconst (v := 0) C.1.1 C.1.2.1 dX10_goesOn_13 (by decide) ?_
    refine lv_sipush (v := 255) C.1.1 C.1.2.1 dX10_goesOn_14 (by decide) ?_
    obtain ⟨r4, hc5, h⟩ := bd1_some h
    refine w_callSi (k := 3) (As := [.int a5, .int (0 : Int32), .int (255 : Int32)]) (rest := []) C hW (c_X10_within g l  hc5 I L) K_X10_79 (by decide +kernel) ⟨by decide, by decide⟩ ⟨Nat.le_refl _, Nat.le_refl _⟩ rfl hl.1 rfl (Nat.le_of_ble_eq_true rfl) dX10_goesOn_17 (fun H locs hW => ?_)
    refine lv_if_ne (tgt := 25) C.1.1 C.1.2.1 dX10_goesOn_20 (by decide) (fun hc6 => ?_) (fun hc6 => ?_)
    · replace h := ite_f hc6 h
      refine lv_aload_n C.1.1 C.1.2.1 dX10_goesOn_25 rfl (lv_at hl 0 rfl) ?_
      refine lv_iload_n C.1.1 C.1.2.1 dX10_goesOn_26 rfl (lv_at hl 1 rfl) ?_
      refine lv_iload_n C.1.1 C.1.2.1 dX10_goesOn_27 rfl (lv_at hl 2 rfl) ?_
      refine lv_iload_n C.1.1 C.1.2.1 dX10_goesOn_28 rfl (lv_at hl 3 rfl) ?_
      refine lv_iload C.1.1 C.1.2.1 dX10_goesOn_29 (lv_at hl 4 rfl) ?_
      refine lv_bipush (v := 7) C.1.1 C.1.2.1 dX10_goesOn_31 (by decide) ?_
      obtain ⟨r7, hc8, h⟩ := bd1_some h
      refine w_callVi (k := 5) (As := [.int a1, .int a2, .int a3, .int a4, .int (7 : Int32)]) (rest := []) C hW (c_X10_refusesPairs g l  hc8) (by decide) rfl (EX_10 (by decide)) K_X10_306 (by decide +kernel) ⟨by decide, by decide⟩ ⟨Nat.le_refl _, Nat.le_refl _⟩ rfl hl.1 rfl (Nat.le_of_ble_eq_true rfl) dX10_goesOn_33 (fun H locs hW => ?_)
      refine lv_istore (lv' := [(6, .int r7), (0, .ref (g.1 + 0)), (1, .int a1), (2, .int a2), (3, .int a3), (4, .int a4), (5, .int a5)]) C.1.1 C.1.2.1 dX10_goesOn_36 hl (by decide) rfl (fun ls hl => ?_)
      refine lv_iload C.1.1 C.1.2.1 dX10_goesOn_38 (lv_at hl 0 rfl) ?_
      refine lv_if_eq (tgt := 46) C.1.1 C.1.2.1 dX10_goesOn_40 (by decide) (fun hc9 => ?_) (fun hc9 => ?_)
      · replace h := ite_t hc9 h
        refine lv_aload_n C.1.1 C.1.2.1 dX10_goesOn_46 rfl (lv_at hl 1 rfl) ?_
        refine G_X10_75 C hW (by decide) dX10_goesOn_47 ?_
        refine lv_aload_n C.1.1 C.1.2.1 dX10_goesOn_50 rfl (lv_at hl 1 rfl) ?_
        refine G_X10_39 C hW (by decide) dX10_goesOn_51 ?_
        refine lv_iload_n C.1.1 C.1.2.1 dX10_goesOn_54 rfl (lv_at hl 2 rfl) ?_
        obtain ⟨hi10, h⟩ := gi_some h
        refine w_ash C hW hi10 dX10_goesOn_55 ?_
        refine lv_iload_n C.1.1 C.1.2.1 dX10_goesOn_56 rfl (lv_at hl 4 rfl) ?_
        refine lv_iload C.1.1 C.1.2.1 dX10_goesOn_57 (lv_at hl 5 rfl) ?_
        obtain ⟨I11, hc12, h⟩ := bd1_some h
        refine w_callVv (k := 3) (As := [.ref (g.1 + (199 + 2 * a1.toNatClampNeg)), .int a3, .int a4]) (rest := []) C hW (c_X2_hear g l (kd_sh hi10) hc12) (by decide) rfl (EX_2 (by decide)) K_X10_320 (by decide +kernel) ⟨by decide, by decide⟩ ⟨Nat.le_refl _, Nat.le_refl _⟩ rfl hl.1 rfl (Nat.le_of_ble_eq_true rfl) dX10_goesOn_59 (fun H locs hW => ?_)
        refine lv_aload_n C.1.1 C.1.2.1 dX10_goesOn_62 rfl (lv_at hl 1 rfl) ?_
        refine G_X10_75 C hW (by decide) dX10_goesOn_63 ?_
        refine lv_iload C.1.1 C.1.2.1 dX10_goesOn_66 (lv_at hl 6 rfl) ?_
        obtain ⟨r13, hc14, h⟩ := bd1_some h
        refine w_callVi (k := 1) (As := [.int a5]) (rest := []) C hW (c_X2_knowAtLast g l  hc14) (by decide) rfl (EX_2 (by decide)) K_X10_323 (by decide +kernel) ⟨by decide, by decide⟩ ⟨Nat.le_refl _, Nat.le_refl _⟩ rfl hl.1 rfl (Nat.le_of_ble_eq_true rfl) dX10_goesOn_68 (fun H locs hW => ?_)
        obtain ⟨rfl, rfl⟩ := inj2 h
        subst hQ
        exact w_iret C hW hr hlocks dX10_goesOn_71
      · replace h := ite_f hc9 h
        refine lv_iload C.1.1 C.1.2.1 dX10_goesOn_43 (lv_at hl 0 rfl) ?_
        obtain ⟨rfl, rfl⟩ := inj2 h
        subst hQ
        exact w_iret C hW hr hlocks dX10_goesOn_45
    · replace h := ite_t hc6 h
      refine lv_iconst (v := -1) C.1.1 C.1.2.1 dX10_goesOn_23 (by decide) ?_
      obtain ⟨rfl, rfl⟩ := inj2 h
      subst hQ
      exact w_iret C hW hr hlocks dX10_goesOn_24
def f_X10_told (a1 : Int32) (a2 : Int32) (a3 : Int32) (a4 : Int32) (a5 : Int32) (I : MI) (L : ML) : Option (Int32 × MI) :=
  bd1 (f_X10_within a4 (0 : Int32) (12 : Int32)) (fun r1 => (if r1 = 0 then some (((-1 : Int32), I)) else bd1 (f_X10_within a5 (0 : Int32) (1 : Int32)) (fun r4 => (if r4 = 0 then some (((-1 : Int32), I)) else bd1 (f_X10_refusesPairs a1 a2 a3 a4 (7 : Int32) I L) (fun r7 => (if r7 = 0 then gi a1 4 (bd1 (f_X2_hear (199 + 2 * a1.toNatClampNeg) a3 a4 I L) (fun I11 => bd2 (f_X2_fewestToTell  I11 L) (fun r13 I14 => bd1 ((if a5 = 0 then bd1 (f_J6_bitCount_0f7a4 r13) (fun r20 => some r20) else some r13)) (fun y16 => some (y16, I14))))) else some (r7, I)))))))
set_option maxHeartbeats 4000000 in
set_option maxRecDepth 100000 in
theorem c_X10_told (g : Gp) (l : Launch) {a1 : Int32} {a2 : Int32} {a3 : Int32} {a4 : Int32} {a5 : Int32}  {I : MI} {L : ML} {r : Int32} {I' : MI} (h : f_X10_told a1 a2 a3 a4 a5 I L = some (r, I')) : MetI g l yX10_told cX10_told 8 .int 3 [.ref (g.1 + 0), .int a1, .int a2, .int a3, .int a4, .int a5] I L r I' L := by
  unfold f_X10_told at h
  refine w_enter (by decide) (Nat.le_of_ble_eq_true rfl) (own := RX10) rfl ?_
  intro p e s m below meth c args Q hQ C hr hlocks hW ls hl
  have hl : lv_has ls 8 [(0, .ref (g.1 + 0)), (1, .int a1), (2, .int a2), (3, .int a3), (4, .int a4), (5, .int a5)] := hl
  refine lv_iload C.1.1 C.1.2.1 dX10_told_0 (lv_at hl 4 rfl) ?_
  refine lv_iconst (v := 0) C.1.1 C.1.2.1 dX10_told_2 (by decide) ?_
  refine lv_bipush (v := 12) C.1.1 C.1.2.1 dX10_told_3 (by decide) ?_
  obtain ⟨r1, hc2, h⟩ := bd1_some h
  refine w_callSi (k := 3) (As := [.int a4, .int (0 : Int32), .int (12 : Int32)]) (rest := []) C hW (c_X10_within g l  hc2 I L) K_X10_79 (by decide +kernel) ⟨by decide, by decide⟩ ⟨Nat.le_refl _, Nat.le_refl _⟩ rfl hl.1 rfl (Nat.le_of_ble_eq_true rfl) dX10_told_5 (fun H locs hW => ?_)
  refine lv_if_eq (tgt := 21) C.1.1 C.1.2.1 dX10_told_8 (by decide) (fun hc3 => ?_) (fun hc3 => ?_)
  · replace h := ite_t hc3 h
    refine lv_iconst (v := -1) C.1.1 C.1.2.1 dX10_told_21 (by decide) ?_
    obtain ⟨rfl, rfl⟩ := inj2 h
    subst hQ
    exact w_iret C hW hr hlocks dX10_told_22
  · replace h := ite_f hc3 h
    refine lv_iload C.1.1 C.1.2.1 dX10_told_11 (lv_at hl 5 rfl) ?_
    refine lv_iconst (v := 0) C.1.1 C.1.2.1 dX10_told_13 (by decide) ?_
    refine lv_iconst (v := 1) C.1.1 C.1.2.1 dX10_told_14 (by decide) ?_
    obtain ⟨r4, hc5, h⟩ := bd1_some h
    refine w_callSi (k := 3) (As := [.int a5, .int (0 : Int32), .int (1 : Int32)]) (rest := []) C hW (c_X10_within g l  hc5 I L) K_X10_79 (by decide +kernel) ⟨by decide, by decide⟩ ⟨Nat.le_refl _, Nat.le_refl _⟩ rfl hl.1 rfl (Nat.le_of_ble_eq_true rfl) dX10_told_15 (fun H locs hW => ?_)
    refine lv_if_ne (tgt := 23) C.1.1 C.1.2.1 dX10_told_18 (by decide) (fun hc6 => ?_) (fun hc6 => ?_)
    · replace h := ite_f hc6 h
      refine lv_aload_n C.1.1 C.1.2.1 dX10_told_23 rfl (lv_at hl 0 rfl) ?_
      refine lv_iload_n C.1.1 C.1.2.1 dX10_told_24 rfl (lv_at hl 1 rfl) ?_
      refine lv_iload_n C.1.1 C.1.2.1 dX10_told_25 rfl (lv_at hl 2 rfl) ?_
      refine lv_iload_n C.1.1 C.1.2.1 dX10_told_26 rfl (lv_at hl 3 rfl) ?_
      refine lv_iload C.1.1 C.1.2.1 dX10_told_27 (lv_at hl 4 rfl) ?_
      refine lv_bipush (v := 7) C.1.1 C.1.2.1 dX10_told_29 (by decide) ?_
      obtain ⟨r7, hc8, h⟩ := bd1_some h
      refine w_callVi (k := 5) (As := [.int a1, .int a2, .int a3, .int a4, .int (7 : Int32)]) (rest := []) C hW (c_X10_refusesPairs g l  hc8) (by decide) rfl (EX_10 (by decide)) K_X10_306 (by decide +kernel) ⟨by decide, by decide⟩ ⟨Nat.le_refl _, Nat.le_refl _⟩ rfl hl.1 rfl (Nat.le_of_ble_eq_true rfl) dX10_told_31 (fun H locs hW => ?_)
      refine lv_istore (lv' := [(6, .int r7), (0, .ref (g.1 + 0)), (1, .int a1), (2, .int a2), (3, .int a3), (4, .int a4), (5, .int a5)]) C.1.1 C.1.2.1 dX10_told_34 hl (by decide) rfl (fun ls hl => ?_)
      refine lv_iload C.1.1 C.1.2.1 dX10_told_36 (lv_at hl 0 rfl) ?_
      refine lv_if_eq (tgt := 44) C.1.1 C.1.2.1 dX10_told_38 (by decide) (fun hc9 => ?_) (fun hc9 => ?_)
      · replace h := ite_t hc9 h
        refine lv_aload_n C.1.1 C.1.2.1 dX10_told_44 rfl (lv_at hl 1 rfl) ?_
        refine G_X10_75 C hW (by decide) dX10_told_45 ?_
        refine lv_aload_n C.1.1 C.1.2.1 dX10_told_48 rfl (lv_at hl 1 rfl) ?_
        refine G_X10_39 C hW (by decide) dX10_told_49 ?_
        refine lv_iload_n C.1.1 C.1.2.1 dX10_told_52 rfl (lv_at hl 2 rfl) ?_
        obtain ⟨hi10, h⟩ := gi_some h
        refine w_ash C hW hi10 dX10_told_53 ?_
        refine lv_iload_n C.1.1 C.1.2.1 dX10_told_54 rfl (lv_at hl 4 rfl) ?_
        refine lv_iload C.1.1 C.1.2.1 dX10_told_55 (lv_at hl 5 rfl) ?_
        obtain ⟨I11, hc12, h⟩ := bd1_some h
        refine w_callVv (k := 3) (As := [.ref (g.1 + (199 + 2 * a1.toNatClampNeg)), .int a3, .int a4]) (rest := []) C hW (c_X2_hear g l (kd_sh hi10) hc12) (by decide) rfl (EX_2 (by decide)) K_X10_320 (by decide +kernel) ⟨by decide, by decide⟩ ⟨Nat.le_refl _, Nat.le_refl _⟩ rfl hl.1 rfl (Nat.le_of_ble_eq_true rfl) dX10_told_57 (fun H locs hW => ?_)
        refine lv_aload_n C.1.1 C.1.2.1 dX10_told_60 rfl (lv_at hl 1 rfl) ?_
        refine G_X10_75 C hW (by decide) dX10_told_61 ?_
        obtain ⟨r13, I14, hc15, h⟩ := bd2_some h
        refine w_callVi (k := 0) (As := []) (rest := []) C hW (c_X2_fewestToTell g l  hc15) (by decide) rfl (EX_2 (by decide)) K_X10_326 (by decide +kernel) ⟨by decide, by decide⟩ ⟨Nat.le_refl _, Nat.le_refl _⟩ rfl hl.1 rfl (Nat.le_of_ble_eq_true rfl) dX10_told_64 (fun H locs hW => ?_)
        refine lv_istore (lv' := [(7, .int r13), (6, .int r7), (0, .ref (g.1 + 0)), (1, .int a1), (2, .int a2), (3, .int a3), (4, .int a4), (5, .int a5)]) C.1.1 C.1.2.1 dX10_told_67 hl (by decide) rfl (fun ls hl => ?_)
        refine lv_iload C.1.1 C.1.2.1 dX10_told_69 (lv_at hl 7 rfl) ?_
        obtain ⟨y16, hj18, h⟩ := bd1_some h
        have kJ17 : ∀ (H : Heap) (locs : List Loc) (ls : Array Slot), Ws g s I14 L H locs → lv_has ls 8 [] → W p l e (rmD 3) s m args below meth c H locs 0 0 Q (F0 m 84 ls [.int y16]) := by
          intro H locs ls hW hl
          obtain ⟨rfl, rfl⟩ := inj2 h
          subst hQ
          exact w_iret C hW hr hlocks dX10_told_84
        clear h
        have h := hj18
        clear hj18
        refine lv_if_ne (tgt := 82) C.1.1 C.1.2.1 dX10_told_71 (by decide) (fun hc19 => ?_) (fun hc19 => ?_)
        · replace h := ite_f hc19 h
          refine lv_iload C.1.1 C.1.2.1 dX10_told_82 (lv_at hl 0 rfl) ?_
          obtain rfl := inj1 h
          exact kJ17 _ _ _ hW (lv_sub hl [] rfl)
        · replace h := ite_t hc19 h
          refine lv_iload C.1.1 C.1.2.1 dX10_told_74 (lv_at hl 0 rfl) ?_
          obtain ⟨r20, hc21, h⟩ := bd1_some h
          refine w_callSi (k := 1) (As := [.int r13]) (rest := []) C hW (c_J6_bitCount_0f7a4 g l  hc21 I14 L) K_X10_329 (by decide +kernel) ⟨by decide, by decide⟩ ⟨Nat.le_refl _, Nat.le_refl _⟩ rfl hl.1 rfl (Nat.le_of_ble_eq_true rfl) dX10_told_76 (fun H locs hW => ?_)
          refine lv_goto (tgt := 84) C.1.1 C.1.2.1 dX10_told_79 (by decide) ?_
          obtain rfl := inj1 h
          exact kJ17 _ _ _ hW (lv_sub hl [] rfl)
      · replace h := ite_f hc9 h
        refine lv_iload C.1.1 C.1.2.1 dX10_told_41 (lv_at hl 0 rfl) ?_
        obtain ⟨rfl, rfl⟩ := inj2 h
        subst hQ
        exact w_iret C hW hr hlocks dX10_told_43
    · replace h := ite_t hc6 h
      refine lv_iconst (v := -1) C.1.1 C.1.2.1 dX10_told_21 (by decide) ?_
      obtain ⟨rfl, rfl⟩ := inj2 h
      subst hQ
      exact w_iret C hW hr hlocks dX10_told_22
def f_X10_ate (a1 : Int32) (a2 : Int32) (a3 : Int32) (a4 : Int32) (a5 : Int32) (a6 : Int32) (I : MI) (L : ML) : Option (Int32 × MI) :=
  bd1 (f_X9_has 3 a1 I L) (fun r1 => (if r1 = 0 then some (((-1 : Int32), I)) else bd1 (f_X10_within a5 (1 : Int32) (8 : Int32)) (fun r4 => (if r4 = 0 then some (((-1 : Int32), I)) else bd1 (f_X10_within a6 (0 : Int32) (1 : Int32)) (fun r7 => (if r7 = 0 then some (((-1 : Int32), I)) else bd1 (f_X10_refusesRow a2 a3 a4 a5 I L) (fun r10 => (if r10 = 0 then gi a1 6 (bd1 (f_X6_sits (3 + 2 + a1.toNatClampNeg) I L) (fun r14 => (if r14 = 0 then some (((-2 : Int32), I)) else bd1 (f_X1_look 3 I L) (fun I17 => gi a2 4 (bd1 (f_X1_findMeals (3 + 2 + a1.toNatClampNeg) (199 + 2 * a2.toNatClampNeg) a4 a5 I17 L) (fun I20 => bd1 ((if a6 = 0 then some (I20 207 3) else some (I20 207 4))) (fun y22 => some (y22, I20)))))))) else some (r10, I)))))))))
set_option maxHeartbeats 4000000 in
set_option maxRecDepth 100000 in
theorem c_X10_ate (g : Gp) (l : Launch) {a1 : Int32} {a2 : Int32} {a3 : Int32} {a4 : Int32} {a5 : Int32} {a6 : Int32}  {I : MI} {L : ML} {r : Int32} {I' : MI} (h : f_X10_ate a1 a2 a3 a4 a5 a6 I L = some (r, I')) : MetI g l yX10_ate cX10_ate 9 .int 6 [.ref (g.1 + 0), .int a1, .int a2, .int a3, .int a4, .int a5, .int a6] I L r I' L := by
  unfold f_X10_ate at h
  refine w_enter (by decide) (Nat.le_of_ble_eq_true rfl) (own := RX10) rfl ?_
  intro p e s m below meth c args Q hQ C hr hlocks hW ls hl
  have hl : lv_has ls 9 [(0, .ref (g.1 + 0)), (1, .int a1), (2, .int a2), (3, .int a3), (4, .int a4), (5, .int a5), (6, .int a6)] := hl
  refine lv_aload_n C.1.1 C.1.2.1 dX10_ate_0 rfl (lv_at hl 0 rfl) ?_
  refine G_X10_19 C hW (by decide) dX10_ate_1 ?_
  refine lv_iload_n C.1.1 C.1.2.1 dX10_ate_4 rfl (lv_at hl 1 rfl) ?_
  obtain ⟨r1, hc2, h⟩ := bd1_some h
  refine w_callVi (k := 1) (As := [.int a1]) (rest := []) C hW (c_X9_has g l (by decide) hc2) (by decide) rfl (EX_9 (by decide)) K_X10_108 (by decide +kernel) ⟨by decide, by decide⟩ ⟨Nat.le_refl _, Nat.le_refl _⟩ rfl hl.1 rfl (Nat.le_of_ble_eq_true rfl) dX10_ate_5 (fun H locs hW => ?_)
  refine lv_if_eq (tgt := 32) C.1.1 C.1.2.1 dX10_ate_8 (by decide) (fun hc3 => ?_) (fun hc3 => ?_)
  · replace h := ite_t hc3 h
    refine lv_iconst (v := -1) C.1.1 C.1.2.1 dX10_ate_32 (by decide) ?_
    obtain ⟨rfl, rfl⟩ := inj2 h
    subst hQ
    exact w_iret C hW hr hlocks dX10_ate_33
  · replace h := ite_f hc3 h
    refine lv_iload C.1.1 C.1.2.1 dX10_ate_11 (lv_at hl 5 rfl) ?_
    refine lv_iconst (v := 1) C.1.1 C.1.2.1 dX10_ate_13 (by decide) ?_
    refine lv_bipush (v := 8) C.1.1 C.1.2.1 dX10_ate_14 (by decide) ?_
    obtain ⟨r4, hc5, h⟩ := bd1_some h
    refine w_callSi (k := 3) (As := [.int a5, .int (1 : Int32), .int (8 : Int32)]) (rest := []) C hW (c_X10_within g l  hc5 I L) K_X10_79 (by decide +kernel) ⟨by decide, by decide⟩ ⟨Nat.le_refl _, Nat.le_refl _⟩ rfl hl.1 rfl (Nat.le_of_ble_eq_true rfl) dX10_ate_16 (fun H locs hW => ?_)
    refine lv_if_eq (tgt := 32) C.1.1 C.1.2.1 dX10_ate_19 (by decide) (fun hc6 => ?_) (fun hc6 => ?_)
    · replace h := ite_t hc6 h
      refine lv_iconst (v := -1) C.1.1 C.1.2.1 dX10_ate_32 (by decide) ?_
      obtain ⟨rfl, rfl⟩ := inj2 h
      subst hQ
      exact w_iret C hW hr hlocks dX10_ate_33
    · replace h := ite_f hc6 h
      refine lv_iload C.1.1 C.1.2.1 dX10_ate_22 (lv_at hl 6 rfl) ?_
      refine lv_iconst (v := 0) C.1.1 C.1.2.1 dX10_ate_24 (by decide) ?_
      refine lv_iconst (v := 1) C.1.1 C.1.2.1 dX10_ate_25 (by decide) ?_
      obtain ⟨r7, hc8, h⟩ := bd1_some h
      refine w_callSi (k := 3) (As := [.int a6, .int (0 : Int32), .int (1 : Int32)]) (rest := []) C hW (c_X10_within g l  hc8 I L) K_X10_79 (by decide +kernel) ⟨by decide, by decide⟩ ⟨Nat.le_refl _, Nat.le_refl _⟩ rfl hl.1 rfl (Nat.le_of_ble_eq_true rfl) dX10_ate_26 (fun H locs hW => ?_)
      refine lv_if_ne (tgt := 34) C.1.1 C.1.2.1 dX10_ate_29 (by decide) (fun hc9 => ?_) (fun hc9 => ?_)
      · replace h := ite_f hc9 h
        refine lv_aload_n C.1.1 C.1.2.1 dX10_ate_34 rfl (lv_at hl 0 rfl) ?_
        refine lv_iload_n C.1.1 C.1.2.1 dX10_ate_35 rfl (lv_at hl 2 rfl) ?_
        refine lv_iload_n C.1.1 C.1.2.1 dX10_ate_36 rfl (lv_at hl 3 rfl) ?_
        refine lv_iload C.1.1 C.1.2.1 dX10_ate_37 (lv_at hl 4 rfl) ?_
        refine lv_iload C.1.1 C.1.2.1 dX10_ate_39 (lv_at hl 5 rfl) ?_
        obtain ⟨r10, hc11, h⟩ := bd1_some h
        refine w_callVi (k := 4) (As := [.int a2, .int a3, .int a4, .int a5]) (rest := []) C hW (c_X10_refusesRow g l  hc11) (by decide) rfl (EX_10 (by decide)) K_X10_279 (by decide +kernel) ⟨by decide, by decide⟩ ⟨Nat.le_refl _, Nat.le_refl _⟩ rfl hl.1 rfl (Nat.le_of_ble_eq_true rfl) dX10_ate_41 (fun H locs hW => ?_)
        refine lv_istore (lv' := [(7, .int r10), (0, .ref (g.1 + 0)), (1, .int a1), (2, .int a2), (3, .int a3), (4, .int a4), (5, .int a5), (6, .int a6)]) C.1.1 C.1.2.1 dX10_ate_44 hl (by decide) rfl (fun ls hl => ?_)
        refine lv_iload C.1.1 C.1.2.1 dX10_ate_46 (lv_at hl 0 rfl) ?_
        refine lv_if_eq (tgt := 54) C.1.1 C.1.2.1 dX10_ate_48 (by decide) (fun hc12 => ?_) (fun hc12 => ?_)
        · replace h := ite_t hc12 h
          refine lv_aload_n C.1.1 C.1.2.1 dX10_ate_54 rfl (lv_at hl 1 rfl) ?_
          refine G_X10_19 C hW (by decide) dX10_ate_55 ?_
          refine G_X10_111 C hW (by decide) dX10_ate_58 ?_
          refine lv_iload_n C.1.1 C.1.2.1 dX10_ate_61 rfl (lv_at hl 2 rfl) ?_
          obtain ⟨hi13, h⟩ := gi_some h
          refine w_asit C hW (w := 3) (by decide) hi13 dX10_ate_62 ?_
          refine lv_astore (lv' := [(8, .ref (g.1 + (3 + 2 + a1.toNatClampNeg))), (7, .int r10), (0, .ref (g.1 + 0)), (1, .int a1), (2, .int a2), (3, .int a3), (4, .int a4), (5, .int a5), (6, .int a6)]) C.1.1 C.1.2.1 dX10_ate_63 hl (by decide) rfl (fun ls hl => ?_)
          refine lv_aload C.1.1 C.1.2.1 dX10_ate_65 (lv_at hl 0 rfl) ?_
          obtain ⟨r14, hc15, h⟩ := bd1_some h
          refine w_callVi (k := 0) (As := []) (rest := []) C hW (c_X6_sits g l (kd_sit (by decide) hi13) hc15) (kd_sit (by decide) hi13) rfl (EX_6 (kd_sit (by decide) hi13)) K_X10_185 (by decide +kernel) ⟨by decide, by decide⟩ ⟨Nat.le_refl _, Nat.le_refl _⟩ rfl hl.1 rfl (Nat.le_of_ble_eq_true rfl) dX10_ate_67 (fun H locs hW => ?_)
          refine lv_if_ne (tgt := 76) C.1.1 C.1.2.1 dX10_ate_70 (by decide) (fun hc16 => ?_) (fun hc16 => ?_)
          · replace h := ite_f hc16 h
            refine lv_aload_n C.1.1 C.1.2.1 dX10_ate_76 rfl (lv_at hl 2 rfl) ?_
            refine G_X10_47 C hW (by decide) dX10_ate_77 ?_
            refine lv_aload_n C.1.1 C.1.2.1 dX10_ate_80 rfl (lv_at hl 2 rfl) ?_
            refine G_X10_19 C hW (by decide) dX10_ate_81 ?_
            obtain ⟨I17, hc18, h⟩ := bd1_some h
            refine w_callVv (k := 1) (As := [.ref (g.1 + 3)]) (rest := []) C hW (c_X1_look g l (by decide) hc18) (by decide) rfl (EX_1 (by decide)) K_X10_210 (by decide +kernel) ⟨by decide, by decide⟩ ⟨Nat.le_refl _, Nat.le_refl _⟩ rfl hl.1 rfl (Nat.le_of_ble_eq_true rfl) dX10_ate_84 (fun H locs hW => ?_)
            refine lv_aload_n C.1.1 C.1.2.1 dX10_ate_87 rfl (lv_at hl 2 rfl) ?_
            refine G_X10_47 C hW (by decide) dX10_ate_88 ?_
            refine lv_aload C.1.1 C.1.2.1 dX10_ate_91 (lv_at hl 0 rfl) ?_
            refine lv_aload_n C.1.1 C.1.2.1 dX10_ate_93 rfl (lv_at hl 2 rfl) ?_
            refine G_X10_39 C hW (by decide) dX10_ate_94 ?_
            refine lv_iload_n C.1.1 C.1.2.1 dX10_ate_97 rfl (lv_at hl 4 rfl) ?_
            obtain ⟨hi19, h⟩ := gi_some h
            refine w_ash C hW hi19 dX10_ate_98 ?_
            refine lv_iload C.1.1 C.1.2.1 dX10_ate_99 (lv_at hl 6 rfl) ?_
            refine lv_iload C.1.1 C.1.2.1 dX10_ate_101 (lv_at hl 7 rfl) ?_
            obtain ⟨I20, hc21, h⟩ := bd1_some h
            refine w_callVv (k := 4) (As := [.ref (g.1 + (3 + 2 + a1.toNatClampNeg)), .ref (g.1 + (199 + 2 * a2.toNatClampNeg)), .int a4, .int a5]) (rest := []) C hW (c_X1_findMeals g l (kd_sit (by decide) hi13) (kd_sh hi19) hc21) (by decide) rfl (EX_1 (by decide)) K_X10_334 (by decide +kernel) ⟨by decide, by decide⟩ ⟨Nat.le_refl _, Nat.le_refl _⟩ rfl hl.1 rfl (Nat.le_of_ble_eq_true rfl) dX10_ate_103 (fun H locs hW => ?_)
            refine lv_iload C.1.1 C.1.2.1 dX10_ate_106 (lv_at hl 8 rfl) ?_
            obtain ⟨y22, hj24, h⟩ := bd1_some h
            have kJ23 : ∀ (H : Heap) (locs : List Loc) (ls : Array Slot), Ws g s I20 L H locs → lv_has ls 9 [] → W p l e (rmD 6) s m args below meth c H locs 0 0 Q (F0 m 128 ls [.int y22]) := by
              intro H locs ls hW hl
              obtain ⟨rfl, rfl⟩ := inj2 h
              subst hQ
              exact w_iret C hW hr hlocks dX10_ate_128
            clear h
            have h := hj24
            clear hj24
            refine lv_if_ne (tgt := 121) C.1.1 C.1.2.1 dX10_ate_108 (by decide) (fun hc25 => ?_) (fun hc25 => ?_)
            · replace h := ite_f hc25 h
              refine lv_aload_n C.1.1 C.1.2.1 dX10_ate_121 rfl (lv_at hl 2 rfl) ?_
              refine G_X10_47 C hW (by decide) dX10_ate_122 ?_
              refine G_X10_341 C hW (by decide) dX10_ate_125 ?_
              obtain rfl := inj1 h
              exact kJ23 _ _ _ hW (lv_sub hl [] rfl)
            · replace h := ite_t hc25 h
              refine lv_aload_n C.1.1 C.1.2.1 dX10_ate_111 rfl (lv_at hl 2 rfl) ?_
              refine G_X10_47 C hW (by decide) dX10_ate_112 ?_
              refine G_X10_338 C hW (by decide) dX10_ate_115 ?_
              refine lv_goto (tgt := 128) C.1.1 C.1.2.1 dX10_ate_118 (by decide) ?_
              obtain rfl := inj1 h
              exact kJ23 _ _ _ hW (lv_sub hl [] rfl)
          · replace h := ite_t hc16 h
            refine lv_bipush (v := -2) C.1.1 C.1.2.1 dX10_ate_73 (by decide) ?_
            obtain ⟨rfl, rfl⟩ := inj2 h
            subst hQ
            exact w_iret C hW hr hlocks dX10_ate_75
        · replace h := ite_f hc12 h
          refine lv_iload C.1.1 C.1.2.1 dX10_ate_51 (lv_at hl 0 rfl) ?_
          obtain ⟨rfl, rfl⟩ := inj2 h
          subst hQ
          exact w_iret C hW hr hlocks dX10_ate_53
      · replace h := ite_t hc9 h
        refine lv_iconst (v := -1) C.1.1 C.1.2.1 dX10_ate_32 (by decide) ?_
        obtain ⟨rfl, rfl⟩ := inj2 h
        subst hQ
        exact w_iret C hW hr hlocks dX10_ate_33
def f_X10_count (a1 : Int32) (I : MI) (L : ML) : Option (Int32) :=
  (if a1 = (0 : Int32) then some (I 3 1) else (if a1 = (1 : Int32) then bd1 (f_X9_sitting 3 I L) (fun r3 => some r3) else (if a1 = (2 : Int32) then some (I 3 4) else (if a1 = (3 : Int32) then some (I 3 2) else (if a1 = (4 : Int32) then some (I 3 3) else (if a1 = (5 : Int32) then bd1 (f_X9_allCrusts 3 I L) (fun r9 => some r9) else (if a1 = (6 : Int32) then some (I 3 5) else (if a1 = (7 : Int32) then bd1 (f_X9_stands 3 I L) (fun r13 => bd1 ((if r13 = 0 then some (0 : Int32) else bd1 (f_X9_isNight 3 I L) (fun r19 => (if r19 = 0 then some (0 : Int32) else some (1 : Int32))))) (fun y15 => some y15)) else (if a1 = (8 : Int32) then some (I 19 2) else (if a1 = (9 : Int32) then some (I 1 1) else some (-1 : Int32)))))))))))
set_option maxHeartbeats 4000000 in
set_option maxRecDepth 100000 in
theorem c_X10_count (g : Gp) (l : Launch) {a1 : Int32}  {I : MI} {L : ML} {r : Int32} (h : f_X10_count a1 I L = some r) : MetI g l yX10_count cX10_count 2 .int 2 [.ref (g.1 + 0), .int a1] I L r I L := by
  unfold f_X10_count at h
  refine w_enter (by decide) (Nat.le_of_ble_eq_true rfl) (own := RX10) rfl ?_
  intro p e s m below meth c args Q hQ C hr hlocks hW ls hl
  have hl : lv_has ls 2 [(0, .ref (g.1 + 0)), (1, .int a1)] := hl
  refine lv_iload_n C.1.1 C.1.2.1 dX10_count_0 rfl (lv_at hl 1 rfl) ?_
  by_cases hc1 : a1 = (0 : Int32)
  · replace h := ite_t hc1 h
    rw [hc1]
    refine lv_tableIn (tgt := 56) C.1.1 C.1.2.1 dX10_count_1 (by decide) (by decide) rfl (by decide) ?_
    refine lv_aload_n C.1.1 C.1.2.1 dX10_count_56 rfl (lv_at hl 0 rfl) ?_
    refine G_X10_19 C hW (by decide) dX10_count_57 ?_
    refine G_X10_105 C hW (by decide) dX10_count_60 ?_
    obtain rfl := inj1 h
    subst hQ
    exact w_iret C hW hr hlocks dX10_count_63
  · replace h := ite_f hc1 h
    by_cases hc2 : a1 = (1 : Int32)
    · replace h := ite_t hc2 h
      rw [hc2]
      refine lv_tableIn (tgt := 64) C.1.1 C.1.2.1 dX10_count_1 (by decide) (by decide) rfl (by decide) ?_
      refine lv_aload_n C.1.1 C.1.2.1 dX10_count_64 rfl (lv_at hl 0 rfl) ?_
      refine G_X10_19 C hW (by decide) dX10_count_65 ?_
      obtain ⟨r3, hc4, h⟩ := bd1_some h
      refine w_callVi (k := 0) (As := []) (rest := []) C hW (c_X9_sitting g l (by decide) hc4) (by decide) rfl (EX_9 (by decide)) K_X10_175 (by decide +kernel) ⟨by decide, by decide⟩ ⟨Nat.le_refl _, Nat.le_refl _⟩ rfl hl.1 rfl (Nat.le_of_ble_eq_true rfl) dX10_count_68 (fun H locs hW => ?_)
      obtain rfl := inj1 h
      subst hQ
      exact w_iret C hW hr hlocks dX10_count_71
    · replace h := ite_f hc2 h
      by_cases hc5 : a1 = (2 : Int32)
      · replace h := ite_t hc5 h
        rw [hc5]
        refine lv_tableIn (tgt := 72) C.1.1 C.1.2.1 dX10_count_1 (by decide) (by decide) rfl (by decide) ?_
        refine lv_aload_n C.1.1 C.1.2.1 dX10_count_72 rfl (lv_at hl 0 rfl) ?_
        refine G_X10_19 C hW (by decide) dX10_count_73 ?_
        refine G_X10_166 C hW (by decide) dX10_count_76 ?_
        obtain rfl := inj1 h
        subst hQ
        exact w_iret C hW hr hlocks dX10_count_79
      · replace h := ite_f hc5 h
        by_cases hc6 : a1 = (3 : Int32)
        · replace h := ite_t hc6 h
          rw [hc6]
          refine lv_tableIn (tgt := 80) C.1.1 C.1.2.1 dX10_count_1 (by decide) (by decide) rfl (by decide) ?_
          refine lv_aload_n C.1.1 C.1.2.1 dX10_count_80 rfl (lv_at hl 0 rfl) ?_
          refine G_X10_19 C hW (by decide) dX10_count_81 ?_
          refine G_X10_344 C hW (by decide) dX10_count_84 ?_
          obtain rfl := inj1 h
          subst hQ
          exact w_iret C hW hr hlocks dX10_count_87
        · replace h := ite_f hc6 h
          by_cases hc7 : a1 = (4 : Int32)
          · replace h := ite_t hc7 h
            rw [hc7]
            refine lv_tableIn (tgt := 88) C.1.1 C.1.2.1 dX10_count_1 (by decide) (by decide) rfl (by decide) ?_
            refine lv_aload_n C.1.1 C.1.2.1 dX10_count_88 rfl (lv_at hl 0 rfl) ?_
            refine G_X10_19 C hW (by decide) dX10_count_89 ?_
            refine G_X10_197 C hW (by decide) dX10_count_92 ?_
            obtain rfl := inj1 h
            subst hQ
            exact w_iret C hW hr hlocks dX10_count_95
          · replace h := ite_f hc7 h
            by_cases hc8 : a1 = (5 : Int32)
            · replace h := ite_t hc8 h
              rw [hc8]
              refine lv_tableIn (tgt := 96) C.1.1 C.1.2.1 dX10_count_1 (by decide) (by decide) rfl (by decide) ?_
              refine lv_aload_n C.1.1 C.1.2.1 dX10_count_96 rfl (lv_at hl 0 rfl) ?_
              refine G_X10_19 C hW (by decide) dX10_count_97 ?_
              obtain ⟨r9, hc10, h⟩ := bd1_some h
              refine w_callVi (k := 0) (As := []) (rest := []) C hW (c_X9_allCrusts g l (by decide) hc10) (by decide) rfl (EX_9 (by decide)) K_X10_347 (by decide +kernel) ⟨by decide, by decide⟩ ⟨Nat.le_refl _, Nat.le_refl _⟩ rfl hl.1 rfl (Nat.le_of_ble_eq_true rfl) dX10_count_100 (fun H locs hW => ?_)
              obtain rfl := inj1 h
              subst hQ
              exact w_iret C hW hr hlocks dX10_count_103
            · replace h := ite_f hc8 h
              by_cases hc11 : a1 = (6 : Int32)
              · replace h := ite_t hc11 h
                rw [hc11]
                refine lv_tableIn (tgt := 104) C.1.1 C.1.2.1 dX10_count_1 (by decide) (by decide) rfl (by decide) ?_
                refine lv_aload_n C.1.1 C.1.2.1 dX10_count_104 rfl (lv_at hl 0 rfl) ?_
                refine G_X10_19 C hW (by decide) dX10_count_105 ?_
                refine G_X10_350 C hW (by decide) dX10_count_108 ?_
                obtain rfl := inj1 h
                subst hQ
                exact w_iret C hW hr hlocks dX10_count_111
              · replace h := ite_f hc11 h
                by_cases hc12 : a1 = (7 : Int32)
                · replace h := ite_t hc12 h
                  rw [hc12]
                  refine lv_tableIn (tgt := 112) C.1.1 C.1.2.1 dX10_count_1 (by decide) (by decide) rfl (by decide) ?_
                  refine lv_aload_n C.1.1 C.1.2.1 dX10_count_112 rfl (lv_at hl 0 rfl) ?_
                  refine G_X10_19 C hW (by decide) dX10_count_113 ?_
                  obtain ⟨r13, hc14, h⟩ := bd1_some h
                  refine w_callVi (k := 0) (As := []) (rest := []) C hW (c_X9_stands g l (by decide) hc14) (by decide) rfl (EX_9 (by decide)) K_X10_163 (by decide +kernel) ⟨by decide, by decide⟩ ⟨Nat.le_refl _, Nat.le_refl _⟩ rfl hl.1 rfl (Nat.le_of_ble_eq_true rfl) dX10_count_116 (fun H locs hW => ?_)
                  obtain ⟨y15, hj17, h⟩ := bd1_some h
                  have kJ16 : ∀ (H : Heap) (locs : List Loc) (ls : Array Slot), Ws g s I L H locs → lv_has ls 2 [] → W p l e (rmD 2) s m args below meth c H locs 0 0 Q (F0 m 137 ls [.int y15]) := by
                    intro H locs ls hW hl
                    obtain rfl := inj1 h
                    subst hQ
                    exact w_iret C hW hr hlocks dX10_count_137
                  clear h
                  have h := hj17
                  clear hj17
                  refine lv_if_eq (tgt := 136) C.1.1 C.1.2.1 dX10_count_119 (by decide) (fun hc18 => ?_) (fun hc18 => ?_)
                  · replace h := ite_t hc18 h
                    refine lv_iconst (v := 0) C.1.1 C.1.2.1 dX10_count_136 (by decide) ?_
                    obtain rfl := inj1 h
                    exact kJ16 _ _ _ hW (lv_sub hl [] rfl)
                  · replace h := ite_f hc18 h
                    refine lv_aload_n C.1.1 C.1.2.1 dX10_count_122 rfl (lv_at hl 0 rfl) ?_
                    refine G_X10_19 C hW (by decide) dX10_count_123 ?_
                    obtain ⟨r19, hc20, h⟩ := bd1_some h
                    refine w_callVi (k := 0) (As := []) (rest := []) C hW (c_X9_isNight g l (by decide) hc20) (by decide) rfl (EX_9 (by decide)) K_X10_151 (by decide +kernel) ⟨by decide, by decide⟩ ⟨Nat.le_refl _, Nat.le_refl _⟩ rfl hl.1 rfl (Nat.le_of_ble_eq_true rfl) dX10_count_126 (fun H locs hW => ?_)
                    refine lv_if_eq (tgt := 136) C.1.1 C.1.2.1 dX10_count_129 (by decide) (fun hc21 => ?_) (fun hc21 => ?_)
                    · replace h := ite_t hc21 h
                      refine lv_iconst (v := 0) C.1.1 C.1.2.1 dX10_count_136 (by decide) ?_
                      obtain rfl := inj1 h
                      exact kJ16 _ _ _ hW (lv_sub hl [] rfl)
                    · replace h := ite_f hc21 h
                      refine lv_iconst (v := 1) C.1.1 C.1.2.1 dX10_count_132 (by decide) ?_
                      refine lv_goto (tgt := 137) C.1.1 C.1.2.1 dX10_count_133 (by decide) ?_
                      obtain rfl := inj1 h
                      exact kJ16 _ _ _ hW (lv_sub hl [] rfl)
                · replace h := ite_f hc12 h
                  by_cases hc22 : a1 = (8 : Int32)
                  · replace h := ite_t hc22 h
                    rw [hc22]
                    refine lv_tableIn (tgt := 138) C.1.1 C.1.2.1 dX10_count_1 (by decide) (by decide) rfl (by decide) ?_
                    refine lv_aload_n C.1.1 C.1.2.1 dX10_count_138 rfl (lv_at hl 0 rfl) ?_
                    refine G_X10_29 C hW (by decide) dX10_count_139 ?_
                    refine G_X10_208 C hW (by decide) dX10_count_142 ?_
                    obtain rfl := inj1 h
                    subst hQ
                    exact w_iret C hW hr hlocks dX10_count_145
                  · replace h := ite_f hc22 h
                    by_cases hc23 : a1 = (9 : Int32)
                    · replace h := ite_t hc23 h
                      rw [hc23]
                      refine lv_tableIn (tgt := 146) C.1.1 C.1.2.1 dX10_count_1 (by decide) (by decide) rfl (by decide) ?_
                      refine lv_aload_n C.1.1 C.1.2.1 dX10_count_146 rfl (lv_at hl 0 rfl) ?_
                      refine G_X10_10 C hW (by decide) dX10_count_147 ?_
                      refine G_X10_87 C hW (by decide) dX10_count_150 ?_
                      obtain rfl := inj1 h
                      subst hQ
                      exact w_iret C hW hr hlocks dX10_count_153
                    · replace h := ite_f hc23 h
                      refine lv_tableOut (tgt := 154) C.1.1 C.1.2.1 dX10_count_1 (by
                        have := lv_neT (a := 0) hc1 (by decide)
                        have := lv_neT (a := 1) hc2 (by decide)
                        have := lv_neT (a := 2) hc5 (by decide)
                        have := lv_neT (a := 3) hc6 (by decide)
                        have := lv_neT (a := 4) hc7 (by decide)
                        have := lv_neT (a := 5) hc8 (by decide)
                        have := lv_neT (a := 6) hc11 (by decide)
                        have := lv_neT (a := 7) hc12 (by decide)
                        have := lv_neT (a := 8) hc22 (by decide)
                        have := lv_neT (a := 9) hc23 (by decide)
                        omega) (by decide) ?_
                      refine lv_iconst (v := -1) C.1.1 C.1.2.1 dX10_count_154 (by decide) ?_
                      obtain rfl := inj1 h
                      subst hQ
                      exact w_iret C hW hr hlocks dX10_count_155
