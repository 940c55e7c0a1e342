theorem bk_0 : ∀ j, j < 7 → defaultValue (tyX0 j) = vp_V (blk 0) j := by decide +kernel
theorem bk_1 : ∀ j, j < 6 → defaultValue (tyX1 j) = vp_V (blk 1) j := by decide +kernel
theorem bk_2 : ∀ j, j < 4 → defaultValue (tyX2 j) = vp_V (blk 2) j := by decide +kernel
theorem bk_3 : ∀ j, j < 3 → defaultValue (tyX3 j) = vp_V (blk 3) j := by decide +kernel
theorem bk_4 : ∀ j, j < 3 → defaultValue (tyX4 j) = vp_V (blk 4) j := by decide +kernel
theorem bk_5 : ∀ j, j < 3 → defaultValue (tyX5 j) = vp_V (blk 5) j := by decide +kernel
theorem bk_6 : ∀ j, j < 11 → defaultValue (tyX6 j) = vp_V (blk 6) j := by decide +kernel
theorem bk_7 : ∀ j, j < 4 → defaultValue (tyX7 j) = vp_V (blk 7) j := by decide +kernel
theorem bk_8 : ∀ j, j < 5 → defaultValue (tyX8 j) = vp_V (blk 8) j := by decide +kernel
theorem bk_9 : ∀ j, j < 7 → defaultValue (tyX9 j) = vp_V (blk 9) j := by decide +kernel
theorem bk_10 : ∀ j, j < 11 → defaultValue (tyX10 j) = vp_V (blk 10) j := by decide +kernel
theorem bk_11 : ∀ j, j < 17 → defaultValue (tyX11 j) = vp_V (blk 11) j := by decide +kernel
def va_E_int (g : Gp) (N : Nat) (f : Nat → Int32) : va_E := .inl (g.2.2.1 0, N, .inl f)
set_option maxHeartbeats 4000000 in
set_option maxRecDepth 100000 in
theorem c_X6_init (g : Gp) (l : Launch) (i : Nat) (hi : kd i = 6) : MetC g l yX6_init cX6_init 1 1 0 0 i := by
  refine w_enterC (by decide) (by decide) (own := RX6) rfl rfl ?_
  intro M hO p e s m below meth c args Q hQ C hKc hr hlocks hin hW ls hl
  replace hO : M i = .inr (6, [.int 0, .int 0, .int 0, .int 0, .int 0, .int 0, .int 0, .int 0, .int 0, .int 0, .int 0]) := by rw [hO, hi]; rfl
  have hB : ∀ j, j < i → M j = M j := fun _ _ => rfl
  generalize hM0 : M = M0 at hQ
  have hB : ∀ j, j < i → M j = M0 j := fun _ _ => by rw [hM0]
  clear hM0
  refine lv_aload_n C.1.1 C.1.2.1 dX6_init_0 rfl (lv_at hl 0 rfl) ?_
  refine r_obj C (g1 57 (Eq.refl _) rfl) (g1 22 (Eq.refl _) rfl) (g1 23 (Eq.refl _) rfl) hl.1 (by decide) dX6_init_1 ?_
  refine lv_aload_n C.1.1 C.1.2.1 dX6_init_4 rfl (lv_at hl 0 rfl) ?_
  refine lv_bipush (v := -4) C.1.1 C.1.2.1 dX6_init_5 (by decide) ?_
  refine r_put (ci := 6) (Cn := RX6) (T := TX6) (N := 11) (ty0 := tyX6) (v := .int (-4)) (ty := .int) C hW inG6 tyX6_ok nmX6 (by omega) hO rfl 10 (by decide) (ref := RX6) (g1 95 (Eq.refl _) rfl) rfl rfl (by decide +kernel) rfl rfl (Nat.le_of_ble_eq_true rfl) dX6_init_7 (fun M H locs hO' hne hW => ?_)
  replace hO : M i = .inr (6, [.int 0, .int 0, .int 0, .int 0, .int 0, .int 0, .int 0, .int 0, .int 0, .int 0, .int (-4)]) := hO'
  clear hO'
  replace hB := fun j h1 => (hne j (by omega)).trans (hB j h1)
  have hZ : M i = E0 g i := by rw [hO, E0, EE_6 hi]; simp [I0, hi]
  subst hQ
  refine r_vret C hW hr hlocks (fun j h1 h2 => ?_) hB dX6_init_10
  rcases Nat.lt_or_ge j (i + 1) with hq | hq
  · obtain rfl : j = i := by omega
    exact hZ
  exact absurd h2 (by omega)
set_option maxHeartbeats 4000000 in
set_option maxRecDepth 100000 in
theorem c_X9_init (g : Gp) (l : Launch) (i : Nat) (hi : kd i = 9) : MetC g l yX9_init cX9_init 2 2 7 72 i := by
  refine w_enterC (by decide) (by decide) (own := RX9) rfl rfl ?_
  intro M hO p e s m below meth c args Q hQ C hKc hr hlocks hin hW ls hl
  replace hO : M i = .inr (9, [.null, .int 0, .int 0, .int 0, .int 0, .int 0, .int 0]) := by rw [hO, hi]; rfl
  have hB : ∀ j, j < i → M j = M j := fun _ _ => rfl
  generalize hM0 : M = M0 at hQ
  have hB : ∀ j, j < i → M j = M0 j := fun _ _ => by rw [hM0]
  clear hM0
  refine lv_aload_n C.1.1 C.1.2.1 dX9_init_0 rfl (lv_at hl 0 rfl) ?_
  refine r_obj C (g1 50 (Eq.refl _) rfl) (g1 22 (Eq.refl _) rfl) (g1 23 (Eq.refl _) rfl) hl.1 (by decide) dX9_init_1 ?_
  refine lv_aload_n C.1.1 C.1.2.1 dX9_init_4 rfl (lv_at hl 0 rfl) ?_
  refine lv_bipush (v := 6) C.1.1 C.1.2.1 dX9_init_5 (by decide) ?_
  refine r_newq (t := 4) (Cn := RX6) (N := 6) C hW (g1 51 (Eq.refl _) rfl) hKc.2.1 rfl (by decide) (by decide) (by decide) (by decide) (by decide) dX9_init_7 (fun M H hx1 hne hW => ?_)
  replace hO := (hne i (by omega)).trans hO
  replace hB := fun j h1 => (hne j (by omega)).trans (hB j h1)
  refine r_putF (ci := 9) (Cn := RX9) (T := TX9) (N := 7) (ty0 := tyX9) (v := .ref (g.1 + (i + 1))) (ty := (.array (.object "WallPatience$Sitter"))) C hW inG9 tyX9_ok nmX9 (by omega) hO rfl 0 (by decide) (ref := RX9) (g1 121 (Eq.refl _) rfl) rfl rfl hin rfl (by decide +kernel) rfl rfl (Nat.le_of_ble_eq_true rfl) dX9_init_10 (fun M H locs hO' hne hW => ?_)
  replace hO : M i = .inr (9, [.ref (g.1 + (i + 1)), .int 0, .int 0, .int 0, .int 0, .int 0, .int 0]) := hO'
  clear hO'
  replace hx1 := (hne (i + 1) (by omega)).trans hx1
  replace hB := fun j h1 => (hne j (by omega)).trans (hB j h1)
  refine lv_aload_n C.1.1 C.1.2.1 dX9_init_13 rfl (lv_at hl 0 rfl) ?_
  refine lv_iconst (v := 1) C.1.1 C.1.2.1 dX9_init_14 (by decide) ?_
  refine r_put (ci := 9) (Cn := RX9) (T := TX9) (N := 7) (ty0 := tyX9) (v := .int 1) (ty := .int) C hW inG9 tyX9_ok nmX9 (by omega) hO rfl 6 (by decide) (ref := RX9) (g1 142 (Eq.refl _) rfl) rfl rfl (by decide +kernel) rfl rfl (Nat.le_of_ble_eq_true rfl) dX9_init_15 (fun M H locs hO' hne hW => ?_)
  replace hO : M i = .inr (9, [.ref (g.1 + (i + 1)), .int 0, .int 0, .int 0, .int 0, .int 0, .int 1]) := hO'
  clear hO'
  replace hx1 := (hne (i + 1) (by omega)).trans hx1
  replace hB := fun j h1 => (hne j (by omega)).trans (hB j h1)
  refine lv_iconst (v := 0) C.1.1 C.1.2.1 dX9_init_18 (by decide) ?_
  refine lv_istore_n (lv' := [(1, .int 0), (0, .ref (g.1 + i))]) C.1.1 C.1.2.1 dX9_init_19 rfl hl (by decide) rfl (fun ls hl => ?_)
  refine lv_iload_n C.1.1 C.1.2.1 dX9_init_20 rfl (lv_at hl 0 rfl) ?_
  refine lv_bipush (v := 6) C.1.1 C.1.2.1 dX9_init_21 (by decide) ?_
  refine lv_icmp_ge (tgt := 45) C.1.1 C.1.2.1 dX9_init_23 (by decide) (fun hc => absurd hc (by decide)) (fun _ => ?_)
  refine lv_aload_n C.1.1 C.1.2.1 dX9_init_26 rfl (lv_at hl 1 rfl) ?_
  refine r_get (ci := 9) (Cn := RX9) (T := TX9) (N := 7) C hW inG9 (by omega) hO rfl 0 (by decide) (ref := RX9) (g1 121 (Eq.refl _) rfl) rfl rfl dX9_init_27 ?_
  refine lv_iload_n C.1.1 C.1.2.1 dX9_init_30 rfl (lv_at hl 0 rfl) ?_
  refine r_new (ci := 6) (Cn := RX6) (T := TX6) (N := 11) (fs := blk 6) C hW inG6 tyX6 tyX6_ok (g1 51 (Eq.refl _) rfl) (g1 53 (Eq.refl _) rfl) (g1 4 (Eq.refl _) rfl) rfl bk_6 (by decide) (by decide) dX9_init_31 (fun M H hx2 hne hW => ?_)
  replace hO := (hne i (by omega)).trans hO
  replace hx1 := (hne (i + 1) (by omega)).trans hx1
  replace hB := fun j h1 => (hne j (by omega)).trans (hB j h1)
  refine lv_dup C.1.1 C.1.2.1 dX9_init_34 rfl ?_
  replace hx2 : M (i + 2) = .inr (kd (i + 2), blk (kd (i + 2))) := by rw [hx2, show kd (i + 2) = 6 from (kd_sit' i (kd_lt hi (by decide)) hi 0 (by decide))]
  refine r_callIN (rest := [.ref (g.1 + (i + 2)), .int 0, .ref (g.1 + (i + 1))]) C hKc hW (c_X6_init g l (i + 2) (kd_sit' i (kd_lt hi (by decide)) hi 0 (by decide))) hx2 cd_X6_init (by decide +kernel) (g1 55 (Eq.refl _) rfl) (g1 4 (Eq.refl _) rfl) rfl (by decide +kernel) ⟨by decide, by decide⟩ ⟨by decide, by decide⟩ hl.1 (Nat.le_of_ble_eq_true rfl) dX9_init_35 (fun M H locs hF3 hb hW => ?_)
  replace hO := (hb i (by omega)).trans hO
  replace hx1 := (hb (i + 1) (by omega)).trans hx1
  replace hB := fun j h1 => (hb j (by omega)).trans (hB j h1)
  have hW : Wr g s (i + 3) M H locs := hW
  have hv4 := (hF3 (i + 2) (by omega) (by omega)).trans (EE_6 (kd_sit' i (kd_lt hi (by decide)) hi 0 (by decide)))
  refine r_ast (j := 0) (t := 4) (ci := 6) (N := 6) (r := (RX6, TX6, 11)) C hW (by omega) hx1 rfl (by omega) hv4 rfl (by decide) (by decide) (by decide) dX9_init_38 (fun M H locs hx1' hne hW => ?_)
  clear hv4
  replace hx1 := hx1'
  clear hx1'
  replace hO := (hne i (by omega)).trans hO
  replace hF3 := fun j h1 h2 => (hne j (by omega)).trans (hF3 j h1 h2)
  replace hB := fun j h1 => (hne j (by omega)).trans (hB j h1)
  refine lv_iinc (v := 1) (lv' := [(1, .int 1), (0, .ref (g.1 + i))]) C.1.1 C.1.2.1 dX9_init_39 hl (k := 0) rfl (by decide) (by decide) rfl (fun ls hl => ?_)
  refine lv_goto (tgt := 20) C.1.1 C.1.2.1 dX9_init_42 (by decide) ?_
  refine lv_iload_n C.1.1 C.1.2.1 dX9_init_20 rfl (lv_at hl 0 rfl) ?_
  refine lv_bipush (v := 6) C.1.1 C.1.2.1 dX9_init_21 (by decide) ?_
  refine lv_icmp_ge (tgt := 45) C.1.1 C.1.2.1 dX9_init_23 (by decide) (fun hc => absurd hc (by decide)) (fun _ => ?_)
  refine lv_aload_n C.1.1 C.1.2.1 dX9_init_26 rfl (lv_at hl 1 rfl) ?_
  refine r_get (ci := 9) (Cn := RX9) (T := TX9) (N := 7) C hW inG9 (by omega) hO rfl 0 (by decide) (ref := RX9) (g1 121 (Eq.refl _) rfl) rfl rfl dX9_init_27 ?_
  refine lv_iload_n C.1.1 C.1.2.1 dX9_init_30 rfl (lv_at hl 0 rfl) ?_
  refine r_new (ci := 6) (Cn := RX6) (T := TX6) (N := 11) (fs := blk 6) C hW inG6 tyX6 tyX6_ok (g1 51 (Eq.refl _) rfl) (g1 53 (Eq.refl _) rfl) (g1 4 (Eq.refl _) rfl) rfl bk_6 (by decide) (by decide) dX9_init_31 (fun M H hx5 hne hW => ?_)
  replace hO := (hne i (by omega)).trans hO
  replace hx1 := (hne (i + 1) (by omega)).trans hx1
  replace hF3 := fun j h1 h2 => (hne j (by omega)).trans (hF3 j h1 h2)
  replace hB := fun j h1 => (hne j (by omega)).trans (hB j h1)
  refine lv_dup C.1.1 C.1.2.1 dX9_init_34 rfl ?_
  replace hx5 : M (i + 3) = .inr (kd (i + 3), blk (kd (i + 3))) := by rw [hx5, show kd (i + 3) = 6 from (kd_sit' i (kd_lt hi (by decide)) hi 1 (by decide))]
  refine r_callIN (rest := [.ref (g.1 + (i + 3)), .int 1, .ref (g.1 + (i + 1))]) C hKc hW (c_X6_init g l (i + 3) (kd_sit' i (kd_lt hi (by decide)) hi 1 (by decide))) hx5 cd_X6_init (by decide +kernel) (g1 55 (Eq.refl _) rfl) (g1 4 (Eq.refl _) rfl) rfl (by decide +kernel) ⟨by decide, by decide⟩ ⟨by decide, by decide⟩ hl.1 (Nat.le_of_ble_eq_true rfl) dX9_init_35 (fun M H locs hF6 hb hW => ?_)
  replace hO := (hb i (by omega)).trans hO
  replace hx1 := (hb (i + 1) (by omega)).trans hx1
  replace hF3 := fun j h1 h2 => (hb j (by omega)).trans (hF3 j h1 h2)
  replace hB := fun j h1 => (hb j (by omega)).trans (hB j h1)
  have hW : Wr g s (i + 4) M H locs := hW
  have hv7 := (hF6 (i + 3) (by omega) (by omega)).trans (EE_6 (kd_sit' i (kd_lt hi (by decide)) hi 1 (by decide)))
  refine r_ast (j := 1) (t := 4) (ci := 6) (N := 6) (r := (RX6, TX6, 11)) C hW (by omega) hx1 rfl (by omega) hv7 rfl (by decide) (by decide) (by decide) dX9_init_38 (fun M H locs hx1' hne hW => ?_)
  clear hv7
  replace hx1 := hx1'
  clear hx1'
  replace hO := (hne i (by omega)).trans hO
  replace hF3 := fun j h1 h2 => (hne j (by omega)).trans (hF3 j h1 h2)
  replace hF6 := fun j h1 h2 => (hne j (by omega)).trans (hF6 j h1 h2)
  replace hB := fun j h1 => (hne j (by omega)).trans (hB j h1)
  refine lv_iinc (v := 2) (lv' := [(1, .int 2), (0, .ref (g.1 + i))]) C.1.1 C.1.2.1 dX9_init_39 hl (k := 0) rfl (by decide) (by decide) rfl (fun ls hl => ?_)
  refine lv_goto (tgt := 20) C.1.1 C.1.2.1 dX9_init_42 (by decide) ?_
  refine lv_iload_n C.1.1 C.1.2.1 dX9_init_20 rfl (lv_at hl 0 rfl) ?_
  refine lv_bipush (v := 6) C.1.1 C.1.2.1 dX9_init_21 (by decide) ?_
  refine lv_icmp_ge (tgt := 45) C.1.1 C.1.2.1 dX9_init_23 (by decide) (fun hc => absurd hc (by decide)) (fun _ => ?_)
  refine lv_aload_n C.1.1 C.1.2.1 dX9_init_26 rfl (lv_at hl 1 rfl) ?_
  refine r_get (ci := 9) (Cn := RX9) (T := TX9) (N := 7) C hW inG9 (by omega) hO rfl 0 (by decide) (ref := RX9) (g1 121 (Eq.refl _) rfl) rfl rfl dX9_init_27 ?_
  refine lv_iload_n C.1.1 C.1.2.1 dX9_init_30 rfl (lv_at hl 0 rfl) ?_
  refine r_new (ci := 6) (Cn := RX6) (T := TX6) (N := 11) (fs := blk 6) C hW inG6 tyX6 tyX6_ok (g1 51 (Eq.refl _) rfl) (g1 53 (Eq.refl _) rfl) (g1 4 (Eq.refl _) rfl) rfl bk_6 (by decide) (by decide) dX9_init_31 (fun M H hx8 hne hW => ?_)
  replace hO := (hne i (by omega)).trans hO
  replace hx1 := (hne (i + 1) (by omega)).trans hx1
  replace hF3 := fun j h1 h2 => (hne j (by omega)).trans (hF3 j h1 h2)
  replace hF6 := fun j h1 h2 => (hne j (by omega)).trans (hF6 j h1 h2)
  replace hB := fun j h1 => (hne j (by omega)).trans (hB j h1)
  refine lv_dup C.1.1 C.1.2.1 dX9_init_34 rfl ?_
  replace hx8 : M (i + 4) = .inr (kd (i + 4), blk (kd (i + 4))) := by rw [hx8, show kd (i + 4) = 6 from (kd_sit' i (kd_lt hi (by decide)) hi 2 (by decide))]
  refine r_callIN (rest := [.ref (g.1 + (i + 4)), .int 2, .ref (g.1 + (i + 1))]) C hKc hW (c_X6_init g l (i + 4) (kd_sit' i (kd_lt hi (by decide)) hi 2 (by decide))) hx8 cd_X6_init (by decide +kernel) (g1 55 (Eq.refl _) rfl) (g1 4 (Eq.refl _) rfl) rfl (by decide +kernel) ⟨by decide, by decide⟩ ⟨by decide, by decide⟩ hl.1 (Nat.le_of_ble_eq_true rfl) dX9_init_35 (fun M H locs hF9 hb hW => ?_)
  replace hO := (hb i (by omega)).trans hO
  replace hx1 := (hb (i + 1) (by omega)).trans hx1
  replace hF3 := fun j h1 h2 => (hb j (by omega)).trans (hF3 j h1 h2)
  replace hF6 := fun j h1 h2 => (hb j (by omega)).trans (hF6 j h1 h2)
  replace hB := fun j h1 => (hb j (by omega)).trans (hB j h1)
  have hW : Wr g s (i + 5) M H locs := hW
  have hv10 := (hF9 (i + 4) (by omega) (by omega)).trans (EE_6 (kd_sit' i (kd_lt hi (by decide)) hi 2 (by decide)))
  refine r_ast (j := 2) (t := 4) (ci := 6) (N := 6) (r := (RX6, TX6, 11)) C hW (by omega) hx1 rfl (by omega) hv10 rfl (by decide) (by decide) (by decide) dX9_init_38 (fun M H locs hx1' hne hW => ?_)
  clear hv10
  replace hx1 := hx1'
  clear hx1'
  replace hO := (hne i (by omega)).trans hO
  replace hF3 := fun j h1 h2 => (hne j (by omega)).trans (hF3 j h1 h2)
  replace hF6 := fun j h1 h2 => (hne j (by omega)).trans (hF6 j h1 h2)
  replace hF9 := fun j h1 h2 => (hne j (by omega)).trans (hF9 j h1 h2)
  replace hB := fun j h1 => (hne j (by omega)).trans (hB j h1)
  refine lv_iinc (v := 3) (lv' := [(1, .int 3), (0, .ref (g.1 + i))]) C.1.1 C.1.2.1 dX9_init_39 hl (k := 0) rfl (by decide) (by decide) rfl (fun ls hl => ?_)
  refine lv_goto (tgt := 20) C.1.1 C.1.2.1 dX9_init_42 (by decide) ?_
  refine lv_iload_n C.1.1 C.1.2.1 dX9_init_20 rfl (lv_at hl 0 rfl) ?_
  refine lv_bipush (v := 6) C.1.1 C.1.2.1 dX9_init_21 (by decide) ?_
  refine lv_icmp_ge (tgt := 45) C.1.1 C.1.2.1 dX9_init_23 (by decide) (fun hc => absurd hc (by decide)) (fun _ => ?_)
  refine lv_aload_n C.1.1 C.1.2.1 dX9_init_26 rfl (lv_at hl 1 rfl) ?_
  refine r_get (ci := 9) (Cn := RX9) (T := TX9) (N := 7) C hW inG9 (by omega) hO rfl 0 (by decide) (ref := RX9) (g1 121 (Eq.refl _) rfl) rfl rfl dX9_init_27 ?_
  refine lv_iload_n C.1.1 C.1.2.1 dX9_init_30 rfl (lv_at hl 0 rfl) ?_
  refine r_new (ci := 6) (Cn := RX6) (T := TX6) (N := 11) (fs := blk 6) C hW inG6 tyX6 tyX6_ok (g1 51 (Eq.refl _) rfl) (g1 53 (Eq.refl _) rfl) (g1 4 (Eq.refl _) rfl) rfl bk_6 (by decide) (by decide) dX9_init_31 (fun M H hx11 hne hW => ?_)
  replace hO := (hne i (by omega)).trans hO
  replace hx1 := (hne (i + 1) (by omega)).trans hx1
  replace hF3 := fun j h1 h2 => (hne j (by omega)).trans (hF3 j h1 h2)
  replace hF6 := fun j h1 h2 => (hne j (by omega)).trans (hF6 j h1 h2)
  replace hF9 := fun j h1 h2 => (hne j (by omega)).trans (hF9 j h1 h2)
  replace hB := fun j h1 => (hne j (by omega)).trans (hB j h1)
  refine lv_dup C.1.1 C.1.2.1 dX9_init_34 rfl ?_
  replace hx11 : M (i + 5) = .inr (kd (i + 5), blk (kd (i + 5))) := by rw [hx11, show kd (i + 5) = 6 from (kd_sit' i (kd_lt hi (by decide)) hi 3 (by decide))]
  refine r_callIN (rest := [.ref (g.1 + (i + 5)), .int 3, .ref (g.1 + (i + 1))]) C hKc hW (c_X6_init g l (i + 5) (kd_sit' i (kd_lt hi (by decide)) hi 3 (by decide))) hx11 cd_X6_init (by decide +kernel) (g1 55 (Eq.refl _) rfl) (g1 4 (Eq.refl _) rfl) rfl (by decide +kernel) ⟨by decide, by decide⟩ ⟨by decide, by decide⟩ hl.1 (Nat.le_of_ble_eq_true rfl) dX9_init_35 (fun M H locs hF12 hb hW => ?_)
  replace hO := (hb i (by omega)).trans hO
  replace hx1 := (hb (i + 1) (by omega)).trans hx1
  replace hF3 := fun j h1 h2 => (hb j (by omega)).trans (hF3 j h1 h2)
  replace hF6 := fun j h1 h2 => (hb j (by omega)).trans (hF6 j h1 h2)
  replace hF9 := fun j h1 h2 => (hb j (by omega)).trans (hF9 j h1 h2)
  replace hB := fun j h1 => (hb j (by omega)).trans (hB j h1)
  have hW : Wr g s (i + 6) M H locs := hW
  have hv13 := (hF12 (i + 5) (by omega) (by omega)).trans (EE_6 (kd_sit' i (kd_lt hi (by decide)) hi 3 (by decide)))
  refine r_ast (j := 3) (t := 4) (ci := 6) (N := 6) (r := (RX6, TX6, 11)) C hW (by omega) hx1 rfl (by omega) hv13 rfl (by decide) (by decide) (by decide) dX9_init_38 (fun M H locs hx1' hne hW => ?_)
  clear hv13
  replace hx1 := hx1'
  clear hx1'
  replace hO := (hne i (by omega)).trans hO
  replace hF3 := fun j h1 h2 => (hne j (by omega)).trans (hF3 j h1 h2)
  replace hF6 := fun j h1 h2 => (hne j (by omega)).trans (hF6 j h1 h2)
  replace hF9 := fun j h1 h2 => (hne j (by omega)).trans (hF9 j h1 h2)
  replace hF12 := fun j h1 h2 => (hne j (by omega)).trans (hF12 j h1 h2)
  replace hB := fun j h1 => (hne j (by omega)).trans (hB j h1)
  refine lv_iinc (v := 4) (lv' := [(1, .int 4), (0, .ref (g.1 + i))]) C.1.1 C.1.2.1 dX9_init_39 hl (k := 0) rfl (by decide) (by decide) rfl (fun ls hl => ?_)
  refine lv_goto (tgt := 20) C.1.1 C.1.2.1 dX9_init_42 (by decide) ?_
  refine lv_iload_n C.1.1 C.1.2.1 dX9_init_20 rfl (lv_at hl 0 rfl) ?_
  refine lv_bipush (v := 6) C.1.1 C.1.2.1 dX9_init_21 (by decide) ?_
  refine lv_icmp_ge (tgt := 45) C.1.1 C.1.2.1 dX9_init_23 (by decide) (fun hc => absurd hc (by decide)) (fun _ => ?_)
  refine lv_aload_n C.1.1 C.1.2.1 dX9_init_26 rfl (lv_at hl 1 rfl) ?_
  refine r_get (ci := 9) (Cn := RX9) (T := TX9) (N := 7) C hW inG9 (by omega) hO rfl 0 (by decide) (ref := RX9) (g1 121 (Eq.refl _) rfl) rfl rfl dX9_init_27 ?_
  refine lv_iload_n C.1.1 C.1.2.1 dX9_init_30 rfl (lv_at hl 0 rfl) ?_
  refine r_new (ci := 6) (Cn := RX6) (T := TX6) (N := 11) (fs := blk 6) C hW inG6 tyX6 tyX6_ok (g1 51 (Eq.refl _) rfl) (g1 53 (Eq.refl _) rfl) (g1 4 (Eq.refl _) rfl) rfl bk_6 (by decide) (by decide) dX9_init_31 (fun M H hx14 hne hW => ?_)
  replace hO := (hne i (by omega)).trans hO
  replace hx1 := (hne (i + 1) (by omega)).trans hx1
  replace hF3 := fun j h1 h2 => (hne j (by omega)).trans (hF3 j h1 h2)
  replace hF6 := fun j h1 h2 => (hne j (by omega)).trans (hF6 j h1 h2)
  replace hF9 := fun j h1 h2 => (hne j (by omega)).trans (hF9 j h1 h2)
  replace hF12 := fun j h1 h2 => (hne j (by omega)).trans (hF12 j h1 h2)
  replace hB := fun j h1 => (hne j (by omega)).trans (hB j h1)
  refine lv_dup C.1.1 C.1.2.1 dX9_init_34 rfl ?_
  replace hx14 : M (i + 6) = .inr (kd (i + 6), blk (kd (i + 6))) := by rw [hx14, show kd (i + 6) = 6 from (kd_sit' i (kd_lt hi (by decide)) hi 4 (by decide))]
  refine r_callIN (rest := [.ref (g.1 + (i + 6)), .int 4, .ref (g.1 + (i + 1))]) C hKc hW (c_X6_init g l (i + 6) (kd_sit' i (kd_lt hi (by decide)) hi 4 (by decide))) hx14 cd_X6_init (by decide +kernel) (g1 55 (Eq.refl _) rfl) (g1 4 (Eq.refl _) rfl) rfl (by decide +kernel) ⟨by decide, by decide⟩ ⟨by decide, by decide⟩ hl.1 (Nat.le_of_ble_eq_true rfl) dX9_init_35 (fun M H locs hF15 hb hW => ?_)
  replace hO := (hb i (by omega)).trans hO
  replace hx1 := (hb (i + 1) (by omega)).trans hx1
  replace hF3 := fun j h1 h2 => (hb j (by omega)).trans (hF3 j h1 h2)
  replace hF6 := fun j h1 h2 => (hb j (by omega)).trans (hF6 j h1 h2)
  replace hF9 := fun j h1 h2 => (hb j (by omega)).trans (hF9 j h1 h2)
  replace hF12 := fun j h1 h2 => (hb j (by omega)).trans (hF12 j h1 h2)
  replace hB := fun j h1 => (hb j (by omega)).trans (hB j h1)
  have hW : Wr g s (i + 7) M H locs := hW
  have hv16 := (hF15 (i + 6) (by omega) (by omega)).trans (EE_6 (kd_sit' i (kd_lt hi (by decide)) hi 4 (by decide)))
  refine r_ast (j := 4) (t := 4) (ci := 6) (N := 6) (r := (RX6, TX6, 11)) C hW (by omega) hx1 rfl (by omega) hv16 rfl (by decide) (by decide) (by decide) dX9_init_38 (fun M H locs hx1' hne hW => ?_)
  clear hv16
  replace hx1 := hx1'
  clear hx1'
  replace hO := (hne i (by omega)).trans hO
  replace hF3 := fun j h1 h2 => (hne j (by omega)).trans (hF3 j h1 h2)
  replace hF6 := fun j h1 h2 => (hne j (by omega)).trans (hF6 j h1 h2)
  replace hF9 := fun j h1 h2 => (hne j (by omega)).trans (hF9 j h1 h2)
  replace hF12 := fun j h1 h2 => (hne j (by omega)).trans (hF12 j h1 h2)
  replace hF15 := fun j h1 h2 => (hne j (by omega)).trans (hF15 j h1 h2)
  replace hB := fun j h1 => (hne j (by omega)).trans (hB j h1)
  refine lv_iinc (v := 5) (lv' := [(1, .int 5), (0, .ref (g.1 + i))]) C.1.1 C.1.2.1 dX9_init_39 hl (k := 0) rfl (by decide) (by decide) rfl (fun ls hl => ?_)
  refine lv_goto (tgt := 20) C.1.1 C.1.2.1 dX9_init_42 (by decide) ?_
  refine lv_iload_n C.1.1 C.1.2.1 dX9_init_20 rfl (lv_at hl 0 rfl) ?_
  refine lv_bipush (v := 6) C.1.1 C.1.2.1 dX9_init_21 (by decide) ?_
  refine lv_icmp_ge (tgt := 45) C.1.1 C.1.2.1 dX9_init_23 (by decide) (fun hc => absurd hc (by decide)) (fun _ => ?_)
  refine lv_aload_n C.1.1 C.1.2.1 dX9_init_26 rfl (lv_at hl 1 rfl) ?_
  refine r_get (ci := 9) (Cn := RX9) (T := TX9) (N := 7) C hW inG9 (by omega) hO rfl 0 (by decide) (ref := RX9) (g1 121 (Eq.refl _) rfl) rfl rfl dX9_init_27 ?_
  refine lv_iload_n C.1.1 C.1.2.1 dX9_init_30 rfl (lv_at hl 0 rfl) ?_
  refine r_new (ci := 6) (Cn := RX6) (T := TX6) (N := 11) (fs := blk 6) C hW inG6 tyX6 tyX6_ok (g1 51 (Eq.refl _) rfl) (g1 53 (Eq.refl _) rfl) (g1 4 (Eq.refl _) rfl) rfl bk_6 (by decide) (by decide) dX9_init_31 (fun M H hx17 hne hW => ?_)
  replace hO := (hne i (by omega)).trans hO
  replace hx1 := (hne (i + 1) (by omega)).trans hx1
  replace hF3 := fun j h1 h2 => (hne j (by omega)).trans (hF3 j h1 h2)
  replace hF6 := fun j h1 h2 => (hne j (by omega)).trans (hF6 j h1 h2)
  replace hF9 := fun j h1 h2 => (hne j (by omega)).trans (hF9 j h1 h2)
  replace hF12 := fun j h1 h2 => (hne j (by omega)).trans (hF12 j h1 h2)
  replace hF15 := fun j h1 h2 => (hne j (by omega)).trans (hF15 j h1 h2)
  replace hB := fun j h1 => (hne j (by omega)).trans (hB j h1)
  refine lv_dup C.1.1 C.1.2.1 dX9_init_34 rfl ?_
  replace hx17 : M (i + 7) = .inr (kd (i + 7), blk (kd (i + 7))) := by rw [hx17, show kd (i + 7) = 6 from (kd_sit' i (kd_lt hi (by decide)) hi 5 (by decide))]
  refine r_callIN (rest := [.ref (g.1 + (i + 7)), .int 5, .ref (g.1 + (i + 1))]) C hKc hW (c_X6_init g l (i + 7) (kd_sit' i (kd_lt hi (by decide)) hi 5 (by decide))) hx17 cd_X6_init (by decide +kernel) (g1 55 (Eq.refl _) rfl) (g1 4 (Eq.refl _) rfl) rfl (by decide +kernel) ⟨by decide, by decide⟩ ⟨by decide, by decide⟩ hl.1 (Nat.le_of_ble_eq_true rfl) dX9_init_35 (fun M H locs hF18 hb hW => ?_)
  replace hO := (hb i (by omega)).trans hO
  replace hx1 := (hb (i + 1) (by omega)).trans hx1
  replace hF3 := fun j h1 h2 => (hb j (by omega)).trans (hF3 j h1 h2)
  replace hF6 := fun j h1 h2 => (hb j (by omega)).trans (hF6 j h1 h2)
  replace hF9 := fun j h1 h2 => (hb j (by omega)).trans (hF9 j h1 h2)
  replace hF12 := fun j h1 h2 => (hb j (by omega)).trans (hF12 j h1 h2)
  replace hF15 := fun j h1 h2 => (hb j (by omega)).trans (hF15 j h1 h2)
  replace hB := fun j h1 => (hb j (by omega)).trans (hB j h1)
  have hW : Wr g s (i + 8) M H locs := hW
  have hv19 := (hF18 (i + 7) (by omega) (by omega)).trans (EE_6 (kd_sit' i (kd_lt hi (by decide)) hi 5 (by decide)))
  refine r_ast (j := 5) (t := 4) (ci := 6) (N := 6) (r := (RX6, TX6, 11)) C hW (by omega) hx1 rfl (by omega) hv19 rfl (by decide) (by decide) (by decide) dX9_init_38 (fun M H locs hx1' hne hW => ?_)
  clear hv19
  replace hx1 := hx1'
  clear hx1'
  replace hO := (hne i (by omega)).trans hO
  replace hF3 := fun j h1 h2 => (hne j (by omega)).trans (hF3 j h1 h2)
  replace hF6 := fun j h1 h2 => (hne j (by omega)).trans (hF6 j h1 h2)
  replace hF9 := fun j h1 h2 => (hne j (by omega)).trans (hF9 j h1 h2)
  replace hF12 := fun j h1 h2 => (hne j (by omega)).trans (hF12 j h1 h2)
  replace hF15 := fun j h1 h2 => (hne j (by omega)).trans (hF15 j h1 h2)
  replace hF18 := fun j h1 h2 => (hne j (by omega)).trans (hF18 j h1 h2)
  replace hB := fun j h1 => (hne j (by omega)).trans (hB j h1)
  refine lv_iinc (v := 6) (lv' := [(1, .int 6), (0, .ref (g.1 + i))]) C.1.1 C.1.2.1 dX9_init_39 hl (k := 0) rfl (by decide) (by decide) rfl (fun ls hl => ?_)
  refine lv_goto (tgt := 20) C.1.1 C.1.2.1 dX9_init_42 (by decide) ?_
  refine lv_iload_n C.1.1 C.1.2.1 dX9_init_20 rfl (lv_at hl 0 rfl) ?_
  refine lv_bipush (v := 6) C.1.1 C.1.2.1 dX9_init_21 (by decide) ?_
  refine lv_icmp_ge (tgt := 45) C.1.1 C.1.2.1 dX9_init_23 (by decide) (fun _ => ?_) (fun hc => absurd (by decide) hc)
  have hW := hW.norm (y := (6, rfa (fun j => g.1 + (i + 1 + 1 + j)))) hx1 (by
    rw [vp_cell_q, vp_cell_q]
    unfold arrV
    congr 1)
  generalize hMM : va_up M (i + 1) _ = M' at hW
  have hne : ∀ j, j ≠ (i + 1) → M' j = M j := fun j h => by rw [← hMM]; simp [va_up, h]
  replace hx1 : M' (i + 1) = E0 g (i + 1) := by
    rw [← hMM]
    simp [va_up, E0, EE_16 (kd_w1 hi), (kd_w1' i (kd_lt hi (by decide)) hi).2.1, (kd_w1' i (kd_lt hi (by decide)) hi).2.2.1, (kd_w1' i (kd_lt hi (by decide)) hi).2.2.2]
  clear hMM
  replace hO := (hne i (by omega)).trans hO
  replace hF3 := fun j h1 h2 => (hne j (by omega)).trans (hF3 j h1 h2)
  replace hF6 := fun j h1 h2 => (hne j (by omega)).trans (hF6 j h1 h2)
  replace hF9 := fun j h1 h2 => (hne j (by omega)).trans (hF9 j h1 h2)
  replace hF12 := fun j h1 h2 => (hne j (by omega)).trans (hF12 j h1 h2)
  replace hF15 := fun j h1 h2 => (hne j (by omega)).trans (hF15 j h1 h2)
  replace hF18 := fun j h1 h2 => (hne j (by omega)).trans (hF18 j h1 h2)
  replace hB := fun j h1 => (hne j (by omega)).trans (hB j h1)
  clear hne
  skip
  skip
  obtain ⟨M, rfl⟩ : ∃ z, z = M' := ⟨_, rfl⟩
  have hF20 : ∀ j, (i + 1) ≤ j → j < (i + 1) + 1 → M j = E0 g j := fun j h1 h2 => by
    obtain rfl : j = (i + 1) := by omega
    exact hx1
  have hZ : M i = E0 g i := by rw [hO, E0, EE_9 hi]; simp [I0, hi]
  subst hQ
  refine r_vret C hW hr hlocks (fun j h1 h2 => ?_) hB dX9_init_45
  rcases Nat.lt_or_ge j (i + 1) with hq | hq
  · obtain rfl : j = i := by omega
    exact hZ
  rcases Nat.lt_or_ge j (i + 2) with hq0 | hq0
  · exact hF20 j (by omega) (by omega)
  rcases Nat.lt_or_ge j (i + 3) with hq1 | hq1
  · exact hF3 j (by omega) (by omega)
  rcases Nat.lt_or_ge j (i + 4) with hq2 | hq2
  · exact hF6 j (by omega) (by omega)
  rcases Nat.lt_or_ge j (i + 5) with hq3 | hq3
  · exact hF9 j (by omega) (by omega)
  rcases Nat.lt_or_ge j (i + 6) with hq4 | hq4
  · exact hF12 j (by omega) (by omega)
  rcases Nat.lt_or_ge j (i + 7) with hq5 | hq5
  · exact hF15 j (by omega) (by omega)
  exact hF18 j (by omega) (by omega)
set_option maxHeartbeats 4000000 in
set_option maxRecDepth 100000 in
theorem c_X5_init (g : Gp) (l : Launch) (i : Nat) (hi : kd i = 5) : MetC g l yX5_init cX5_init 1 1 1 24 i := by
  refine w_enterC (by decide) (by decide) (own := RX5) rfl rfl ?_
  intro M hO p e s m below meth c args Q hQ C hKc hr hlocks hin hW ls hl
  replace hO : M i = .inr (5, [.int 0, .int 0, .null]) := by rw [hO, hi]; rfl
  have hB : ∀ j, j < i → M j = M j := fun _ _ => rfl
  generalize hM0 : M = M0 at hQ
  have hB : ∀ j, j < i → M j = M0 j := fun _ _ => by rw [hM0]
  clear hM0
  refine lv_aload_n C.1.1 C.1.2.1 dX5_init_0 rfl (lv_at hl 0 rfl) ?_
  refine r_obj C (g1 186 (Eq.refl _) rfl) (g1 22 (Eq.refl _) rfl) (g1 23 (Eq.refl _) rfl) hl.1 (by decide) dX5_init_1 ?_
  refine lv_aload_n C.1.1 C.1.2.1 dX5_init_4 rfl (lv_at hl 0 rfl) ?_
  refine lv_iconst (v := -1) C.1.1 C.1.2.1 dX5_init_5 (by decide) ?_
  refine r_put (ci := 5) (Cn := RX5) (T := TX5) (N := 3) (ty0 := tyX5) (v := .int (-1)) (ty := .int) C hW inG5 tyX5_ok nmX5 (by omega) hO rfl 0 (by decide) (ref := RX5) (g1 187 (Eq.refl _) rfl) rfl rfl (by decide +kernel) rfl rfl (Nat.le_of_ble_eq_true rfl) dX5_init_6 (fun M H locs hO' hne hW => ?_)
  replace hO : M i = .inr (5, [.int (-1), .int 0, .null]) := hO'
  clear hO'
  replace hB := fun j h1 => (hne j (by omega)).trans (hB j h1)
  refine lv_aload_n C.1.1 C.1.2.1 dX5_init_9 rfl (lv_at hl 0 rfl) ?_
  refine lv_bipush (v := 24) C.1.1 C.1.2.1 dX5_init_10 (by decide) ?_
  refine r_newa (t := 1) (ty := .long) (N := 24) (a0 := (24, .inr (.inl (fun _ => 0)))) C hW (g1 203 (Eq.refl _) rfl) rfl (fun h => h) rfl (fun cA => rfl) (by decide) (by decide) (by decide) (by decide) (by decide) dX5_init_12 (fun M H hx1 hne hW => ?_)
  replace hO := (hne i (by omega)).trans hO
  replace hB := fun j h1 => (hne j (by omega)).trans (hB j h1)
  have hF2 : ∀ j, (i + 1) ≤ j → j < (i + 1) + 1 → M j = E0 g j := fun j h1 h2 => by
    obtain rfl : j = (i + 1) := by omega
    rw [hx1, E0, EE_13 (kd_it hi), (ln_it hi)]; rfl
  refine r_putF (ci := 5) (Cn := RX5) (T := TX5) (N := 3) (ty0 := tyX5) (v := .ref (g.1 + (i + 1))) (ty := (.array .long)) C hW inG5 tyX5_ok nmX5 (by omega) hO rfl 2 (by decide) (ref := RX5) (g1 191 (Eq.refl _) rfl) rfl rfl hin rfl (by decide +kernel) rfl rfl (Nat.le_of_ble_eq_true rfl) dX5_init_14 (fun M H locs hO' hne hW => ?_)
  replace hO : M i = .inr (5, [.int (-1), .int 0, .ref (g.1 + (i + 1))]) := hO'
  clear hO'
  replace hF2 := fun j h1 h2 => (hne j (by omega)).trans (hF2 j h1 h2)
  replace hB := fun j h1 => (hne j (by omega)).trans (hB j h1)
  have hZ : M i = E0 g i := by rw [hO, E0, EE_5 hi]; simp [I0, hi]
  subst hQ
  refine r_vret C hW hr hlocks (fun j h1 h2 => ?_) hB dX5_init_17
  rcases Nat.lt_or_ge j (i + 1) with hq | hq
  · obtain rfl : j = i := by omega
    exact hZ
  exact hF2 j (by omega) (by omega)
set_option maxHeartbeats 4000000 in
set_option maxRecDepth 100000 in
theorem c_X7_init (g : Gp) (l : Launch) : MetC g l yX7_init cX7_init 1 1 1 90 1 := by
  refine w_enterC (by decide) (by decide) (own := RX7) rfl rfl ?_
  intro M hO p e s m below meth c args Q hQ C hKc hr hlocks hin hW ls hl
  replace hO : M 1 = .inr (7, [.null, .int 0, .int 0, .int 0]) := hO
  have hB : ∀ j, j < 1 → M j = M j := fun _ _ => rfl
  generalize hM0 : M = M0 at hQ
  have hB : ∀ j, j < 1 → M j = M0 j := fun _ _ => by rw [hM0]
  clear hM0
  refine lv_aload_n C.1.1 C.1.2.1 dX7_init_0 rfl (lv_at hl 0 rfl) ?_
  refine r_obj C (g1 29 (Eq.refl _) rfl) (g1 22 (Eq.refl _) rfl) (g1 23 (Eq.refl _) rfl) hl.1 (by decide) dX7_init_1 ?_
  refine lv_aload_n C.1.1 C.1.2.1 dX7_init_4 rfl (lv_at hl 0 rfl) ?_
  refine lv_bipush (v := 90) C.1.1 C.1.2.1 dX7_init_5 (by decide) ?_
  refine r_newa (t := 0) (ty := .int) (N := 90) (a0 := (90, .inl (fun _ => 0))) C hW (g1 44 (Eq.refl _) rfl) rfl (fun h => h) rfl (fun cA => rfl) (by decide) (by decide) (by decide) (by decide) (by decide) dX7_init_7 (fun M H hx1 hne hW => ?_)
  replace hO := (hne 1 (by omega)).trans hO
  replace hB := fun j h1 => (hne j (by omega)).trans (hB j h1)
  have hF2 : ∀ j, 2 ≤ j → j < 2 + 1 → M j = E0 g j := fun j h1 h2 => by
    obtain rfl : j = 2 := by omega
    rw [hx1, E0, EE_12 (by decide), (by decide : ln 2 = 90), show I0 2 = (fun _ => 0) from funext fun k => rfl]
  refine r_putF (ci := 7) (Cn := RX7) (T := TX7) (N := 4) (ty0 := tyX7) (v := .ref (g.1 + 2)) (ty := (.array .int)) C hW inG7 tyX7_ok nmX7 (by omega) hO rfl 0 (by decide) (ref := RX7) (g1 30 (Eq.refl _) rfl) rfl rfl hin rfl (by decide +kernel) rfl rfl (Nat.le_of_ble_eq_true rfl) dX7_init_9 (fun M H locs hO' hne hW => ?_)
  replace hO : M 1 = .inr (7, [.ref (g.1 + 2), .int 0, .int 0, .int 0]) := hO'
  clear hO'
  replace hF2 := fun j h1 h2 => (hne j (by omega)).trans (hF2 j h1 h2)
  replace hB := fun j h1 => (hne j (by omega)).trans (hB j h1)
  have hZ : M 1 = E0 g 1 := by rw [hO, E0, EE_7 (by decide)]; rfl
  subst hQ
  refine r_vret C hW hr hlocks (fun j h1 h2 => ?_) hB dX7_init_12
  rcases Nat.lt_or_ge j 2 with hq | hq
  · obtain rfl : j = 1 := by omega
    exact hZ
  exact hF2 j (by omega) (by omega)
set_option maxHeartbeats 4000000 in
set_option maxRecDepth 100000 in
theorem c_X3_init (g : Gp) (l : Launch) : MetC g l yX3_init cX3_init 2 3 161 1600 19 := by
  refine w_enterC (by decide) (by decide) (own := RX3) rfl rfl ?_
  intro M hO p e s m below meth c args Q hQ C hKc hr hlocks hin hW ls hl
  replace hO : M 19 = .inr (3, [.null, .int 0, .int 0]) := hO
  have hB : ∀ j, j < 19 → M j = M j := fun _ _ => rfl
  generalize hM0 : M = M0 at hQ
  have hB : ∀ j, j < 19 → M j = M0 j := fun _ _ => by rw [hM0]
  clear hM0
  refine lv_aload_n C.1.1 C.1.2.1 dX3_init_0 rfl (lv_at hl 0 rfl) ?_
  refine r_obj C (g1 165 (Eq.refl _) rfl) (g1 22 (Eq.refl _) rfl) (g1 23 (Eq.refl _) rfl) hl.1 (by decide) dX3_init_1 ?_
  refine lv_aload_n C.1.1 C.1.2.1 dX3_init_4 rfl (lv_at hl 0 rfl) ?_
  refine lv_bipush (v := 20) C.1.1 C.1.2.1 dX3_init_5 (by decide) ?_
  refine r_newq (t := 5) (Cn := RX9) (N := 20) C hW (g1 166 (Eq.refl _) rfl) hKc.2.2.1 rfl (by decide) (by decide) (by decide) (by decide) (by decide) dX3_init_7 (fun M H hx1 hne hW => ?_)
  replace hO := (hne 19 (by omega)).trans hO
  replace hB := fun j h1 => (hne j (by omega)).trans (hB j h1)
  refine r_putF (ci := 3) (Cn := RX3) (T := TX3) (N := 3) (ty0 := tyX3) (v := .ref (g.1 + 20)) (ty := (.array (.object "WallPatience$Wall"))) C hW inG3 tyX3_ok nmX3 (by omega) hO rfl 0 (by decide) (ref := RX3) (g1 169 (Eq.refl _) rfl) rfl rfl hin rfl (by decide +kernel) rfl rfl (Nat.le_of_ble_eq_true rfl) dX3_init_10 (fun M H locs hO' hne hW => ?_)
  replace hO : M 19 = .inr (3, [.ref (g.1 + 20), .int 0, .int 0]) := hO'
  clear hO'
  replace hx1 := (hne 20 (by omega)).trans hx1
  replace hB := fun j h1 => (hne j (by omega)).trans (hB j h1)
  refine lv_iconst (v := 0) C.1.1 C.1.2.1 dX3_init_13 (by decide) ?_
  refine lv_istore_n (lv' := [(1, .int 0), (0, .ref (g.1 + 19))]) C.1.1 C.1.2.1 dX3_init_14 rfl hl (by decide) rfl (fun ls hl => ?_)
  refine lv_iload_n C.1.1 C.1.2.1 dX3_init_15 rfl (lv_at hl 0 rfl) ?_
  refine lv_bipush (v := 20) C.1.1 C.1.2.1 dX3_init_16 (by decide) ?_
  refine lv_icmp_ge (tgt := 40) C.1.1 C.1.2.1 dX3_init_18 (by decide) (fun hc => absurd hc (by decide)) (fun _ => ?_)
  refine lv_aload_n C.1.1 C.1.2.1 dX3_init_21 rfl (lv_at hl 1 rfl) ?_
  refine r_get (ci := 3) (Cn := RX3) (T := TX3) (N := 3) C hW inG3 (by omega) hO rfl 0 (by decide) (ref := RX3) (g1 169 (Eq.refl _) rfl) rfl rfl dX3_init_22 ?_
  refine lv_iload_n C.1.1 C.1.2.1 dX3_init_25 rfl (lv_at hl 0 rfl) ?_
  refine r_new (ci := 9) (Cn := RX9) (T := TX9) (N := 7) (fs := blk 9) C hW inG9 tyX9 tyX9_ok (g1 166 (Eq.refl _) rfl) (g1 46 (Eq.refl _) rfl) (g1 3 (Eq.refl _) rfl) rfl bk_9 (by decide) (by decide) dX3_init_26 (fun M H hx2 hne hW => ?_)
  replace hO := (hne 19 (by omega)).trans hO
  replace hx1 := (hne 20 (by omega)).trans hx1
  replace hB := fun j h1 => (hne j (by omega)).trans (hB j h1)
  refine lv_dup C.1.1 C.1.2.1 dX3_init_29 rfl ?_
  replace hx2 : M 21 = .inr (kd 21, blk (kd 21)) := by rw [hx2, show kd 21 = 9 from (by decide)]
  refine r_callI (rest := [.ref (g.1 + 21), .int 0, .ref (g.1 + 20)]) C hKc hW (c_X9_init g l 21 (by decide)) hx2 cd_X9_init (g1 168 (Eq.refl _) rfl) (g1 48 (Eq.refl _) rfl) (g1 3 (Eq.refl _) rfl) rfl (by decide +kernel) ⟨by decide, by decide⟩ ⟨by decide, by decide⟩ hl.1 (Nat.le_of_ble_eq_true rfl) dX3_init_30 (fun M H locs hF3 hb hW => ?_)
  replace hO := (hb 19 (by omega)).trans hO
  replace hx1 := (hb 20 (by omega)).trans hx1
  replace hB := fun j h1 => (hb j (by omega)).trans (hB j h1)
  have hW : Wr g s 29 M H locs := hW
  have hv4 := (hF3 21 (by omega) (by omega)).trans (EE_9 (by decide))
  refine r_ast (j := 0) (t := 5) (ci := 9) (N := 20) (r := (RX9, TX9, 7)) C hW (by omega) hx1 rfl (by omega) hv4 rfl (by decide) (by decide) (by decide) dX3_init_33 (fun M H locs hx1' hne hW => ?_)
  clear hv4
  replace hx1 := hx1'
  clear hx1'
  replace hO := (hne 19 (by omega)).trans hO
  replace hF3 := fun j h1 h2 => (hne j (by omega)).trans (hF3 j h1 h2)
  replace hB := fun j h1 => (hne j (by omega)).trans (hB j h1)
  refine lv_iinc (v := 1) (lv' := [(1, .int 1), (0, .ref (g.1 + 19))]) C.1.1 C.1.2.1 dX3_init_34 hl (k := 0) rfl (by decide) (by decide) rfl (fun ls hl => ?_)
  refine lv_goto (tgt := 15) C.1.1 C.1.2.1 dX3_init_37 (by decide) ?_
  refine lv_iload_n C.1.1 C.1.2.1 dX3_init_15 rfl (lv_at hl 0 rfl) ?_
  refine lv_bipush (v := 20) C.1.1 C.1.2.1 dX3_init_16 (by decide) ?_
  refine lv_icmp_ge (tgt := 40) C.1.1 C.1.2.1 dX3_init_18 (by decide) (fun hc => absurd hc (by decide)) (fun _ => ?_)
  refine lv_aload_n C.1.1 C.1.2.1 dX3_init_21 rfl (lv_at hl 1 rfl) ?_
  refine r_get (ci := 3) (Cn := RX3) (T := TX3) (N := 3) C hW inG3 (by omega) hO rfl 0 (by decide) (ref := RX3) (g1 169 (Eq.refl _) rfl) rfl rfl dX3_init_22 ?_
  refine lv_iload_n C.1.1 C.1.2.1 dX3_init_25 rfl (lv_at hl 0 rfl) ?_
  refine r_new (ci := 9) (Cn := RX9) (T := TX9) (N := 7) (fs := blk 9) C hW inG9 tyX9 tyX9_ok (g1 166 (Eq.refl _) rfl) (g1 46 (Eq.refl _) rfl) (g1 3 (Eq.refl _) rfl) rfl bk_9 (by decide) (by decide) dX3_init_26 (fun M H hx5 hne hW => ?_)
  replace hO := (hne 19 (by omega)).trans hO
  replace hx1 := (hne 20 (by omega)).trans hx1
  replace hF3 := fun j h1 h2 => (hne j (by omega)).trans (hF3 j h1 h2)
  replace hB := fun j h1 => (hne j (by omega)).trans (hB j h1)
  refine lv_dup C.1.1 C.1.2.1 dX3_init_29 rfl ?_
  replace hx5 : M 29 = .inr (kd 29, blk (kd 29)) := by rw [hx5, show kd 29 = 9 from (by decide)]
  refine r_callI (rest := [.ref (g.1 + 29), .int 1, .ref (g.1 + 20)]) C hKc hW (c_X9_init g l 29 (by decide)) hx5 cd_X9_init (g1 168 (Eq.refl _) rfl) (g1 48 (Eq.refl _) rfl) (g1 3 (Eq.refl _) rfl) rfl (by decide +kernel) ⟨by decide, by decide⟩ ⟨by decide, by decide⟩ hl.1 (Nat.le_of_ble_eq_true rfl) dX3_init_30 (fun M H locs hF6 hb hW => ?_)
  replace hO := (hb 19 (by omega)).trans hO
  replace hx1 := (hb 20 (by omega)).trans hx1
  replace hF3 := fun j h1 h2 => (hb j (by omega)).trans (hF3 j h1 h2)
  replace hB := fun j h1 => (hb j (by omega)).trans (hB j h1)
  have hW : Wr g s 37 M H locs := hW
  have hv7 := (hF6 29 (by omega) (by omega)).trans (EE_9 (by decide))
  refine r_ast (j := 1) (t := 5) (ci := 9) (N := 20) (r := (RX9, TX9, 7)) C hW (by omega) hx1 rfl (by omega) hv7 rfl (by decide) (by decide) (by decide) dX3_init_33 (fun M H locs hx1' hne hW => ?_)
  clear hv7
  replace hx1 := hx1'
  clear hx1'
  replace hO := (hne 19 (by omega)).trans hO
  replace hF3 := fun j h1 h2 => (hne j (by omega)).trans (hF3 j h1 h2)
  replace hF6 := fun j h1 h2 => (hne j (by omega)).trans (hF6 j h1 h2)
  replace hB := fun j h1 => (hne j (by omega)).trans (hB j h1)
  refine lv_iinc (v := 2) (lv' := [(1, .int 2), (0, .ref (g.1 + 19))]) C.1.1 C.1.2.1 dX3_init_34 hl (k := 0) rfl (by decide) (by decide) rfl (fun ls hl => ?_)
  refine lv_goto (tgt := 15) C.1.1 C.1.2.1 dX3_init_37 (by decide) ?_
  refine lv_iload_n C.1.1 C.1.2.1 dX3_init_15 rfl (lv_at hl 0 rfl) ?_
  refine lv_bipush (v := 20) C.1.1 C.1.2.1 dX3_init_16 (by decide) ?_
  refine lv_icmp_ge (tgt := 40) C.1.1 C.1.2.1 dX3_init_18 (by decide) (fun hc => absurd hc (by decide)) (fun _ => ?_)
  refine lv_aload_n C.1.1 C.1.2.1 dX3_init_21 rfl (lv_at hl 1 rfl) ?_
  refine r_get (ci := 3) (Cn := RX3) (T := TX3) (N := 3) C hW inG3 (by omega) hO rfl 0 (by decide) (ref := RX3) (g1 169 (Eq.refl _) rfl) rfl rfl dX3_init_22 ?_
  refine lv_iload_n C.1.1 C.1.2.1 dX3_init_25 rfl (lv_at hl 0 rfl) ?_
  refine r_new (ci := 9) (Cn := RX9) (T := TX9) (N := 7) (fs := blk 9) C hW inG9 tyX9 tyX9_ok (g1 166 (Eq.refl _) rfl) (g1 46 (Eq.refl _) rfl) (g1 3 (Eq.refl _) rfl) rfl bk_9 (by decide) (by decide) dX3_init_26 (fun M H hx8 hne hW => ?_)
  replace hO := (hne 19 (by omega)).trans hO
  replace hx1 := (hne 20 (by omega)).trans hx1
  replace hF3 := fun j h1 h2 => (hne j (by omega)).trans (hF3 j h1 h2)
  replace hF6 := fun j h1 h2 => (hne j (by omega)).trans (hF6 j h1 h2)
  replace hB := fun j h1 => (hne j (by omega)).trans (hB j h1)
  refine lv_dup C.1.1 C.1.2.1 dX3_init_29 rfl ?_
  replace hx8 : M 37 = .inr (kd 37, blk (kd 37)) := by rw [hx8, show kd 37 = 9 from (by decide)]
  refine r_callI (rest := [.ref (g.1 + 37), .int 2, .ref (g.1 + 20)]) C hKc hW (c_X9_init g l 37 (by decide)) hx8 cd_X9_init (g1 168 (Eq.refl _) rfl) (g1 48 (Eq.refl _) rfl) (g1 3 (Eq.refl _) rfl) rfl (by decide +kernel) ⟨by decide, by decide⟩ ⟨by decide, by decide⟩ hl.1 (Nat.le_of_ble_eq_true rfl) dX3_init_30 (fun M H locs hF9 hb hW => ?_)
  replace hO := (hb 19 (by omega)).trans hO
  replace hx1 := (hb 20 (by omega)).trans hx1
  replace hF3 := fun j h1 h2 => (hb j (by omega)).trans (hF3 j h1 h2)
  replace hF6 := fun j h1 h2 => (hb j (by omega)).trans (hF6 j h1 h2)
  replace hB := fun j h1 => (hb j (by omega)).trans (hB j h1)
  have hW : Wr g s 45 M H locs := hW
  have hv10 := (hF9 37 (by omega) (by omega)).trans (EE_9 (by decide))
  refine r_ast (j := 2) (t := 5) (ci := 9) (N := 20) (r := (RX9, TX9, 7)) C hW (by omega) hx1 rfl (by omega) hv10 rfl (by decide) (by decide) (by decide) dX3_init_33 (fun M H locs hx1' hne hW => ?_)
  clear hv10
  replace hx1 := hx1'
  clear hx1'
  replace hO := (hne 19 (by omega)).trans hO
  replace hF3 := fun j h1 h2 => (hne j (by omega)).trans (hF3 j h1 h2)
  replace hF6 := fun j h1 h2 => (hne j (by omega)).trans (hF6 j h1 h2)
  replace hF9 := fun j h1 h2 => (hne j (by omega)).trans (hF9 j h1 h2)
  replace hB := fun j h1 => (hne j (by omega)).trans (hB j h1)
  refine lv_iinc (v := 3) (lv' := [(1, .int 3), (0, .ref (g.1 + 19))]) C.1.1 C.1.2.1 dX3_init_34 hl (k := 0) rfl (by decide) (by decide) rfl (fun ls hl => ?_)
  refine lv_goto (tgt := 15) C.1.1 C.1.2.1 dX3_init_37 (by decide) ?_
  refine lv_iload_n C.1.1 C.1.2.1 dX3_init_15 rfl (lv_at hl 0 rfl) ?_
  refine lv_bipush (v := 20) C.1.1 C.1.2.1 dX3_init_16 (by decide) ?_
  refine lv_icmp_ge (tgt := 40) C.1.1 C.1.2.1 dX3_init_18 (by decide) (fun hc => absurd hc (by decide)) (fun _ => ?_)
  refine lv_aload_n C.1.1 C.1.2.1 dX3_init_21 rfl (lv_at hl 1 rfl) ?_
  refine r_get (ci := 3) (Cn := RX3) (T := TX3) (N := 3) C hW inG3 (by omega) hO rfl 0 (by decide) (ref := RX3) (g1 169 (Eq.refl _) rfl) rfl rfl dX3_init_22 ?_
  refine lv_iload_n C.1.1 C.1.2.1 dX3_init_25 rfl (lv_at hl 0 rfl) ?_
  refine r_new (ci := 9) (Cn := RX9) (T := TX9) (N := 7) (fs := blk 9) C hW inG9 tyX9 tyX9_ok (g1 166 (Eq.refl _) rfl) (g1 46 (Eq.refl _) rfl) (g1 3 (Eq.refl _) rfl) rfl bk_9 (by decide) (by decide) dX3_init_26 (fun M H hx11 hne hW => ?_)
  replace hO := (hne 19 (by omega)).trans hO
  replace hx1 := (hne 20 (by omega)).trans hx1
  replace hF3 := fun j h1 h2 => (hne j (by omega)).trans (hF3 j h1 h2)
  replace hF6 := fun j h1 h2 => (hne j (by omega)).trans (hF6 j h1 h2)
  replace hF9 := fun j h1 h2 => (hne j (by omega)).trans (hF9 j h1 h2)
  replace hB := fun j h1 => (hne j (by omega)).trans (hB j h1)
  refine lv_dup C.1.1 C.1.2.1 dX3_init_29 rfl ?_
  replace hx11 : M 45 = .inr (kd 45, blk (kd 45)) := by rw [hx11, show kd 45 = 9 from (by decide)]
  refine r_callI (rest := [.ref (g.1 + 45), .int 3, .ref (g.1 + 20)]) C hKc hW (c_X9_init g l 45 (by decide)) hx11 cd_X9_init (g1 168 (Eq.refl _) rfl) (g1 48 (Eq.refl _) rfl) (g1 3 (Eq.refl _) rfl) rfl (by decide +kernel) ⟨by decide, by decide⟩ ⟨by decide, by decide⟩ hl.1 (Nat.le_of_ble_eq_true rfl) dX3_init_30 (fun M H locs hF12 hb hW => ?_)
  replace hO := (hb 19 (by omega)).trans hO
  replace hx1 := (hb 20 (by omega)).trans hx1
  replace hF3 := fun j h1 h2 => (hb j (by omega)).trans (hF3 j h1 h2)
  replace hF6 := fun j h1 h2 => (hb j (by omega)).trans (hF6 j h1 h2)
  replace hF9 := fun j h1 h2 => (hb j (by omega)).trans (hF9 j h1 h2)
  replace hB := fun j h1 => (hb j (by omega)).trans (hB j h1)
  have hW : Wr g s 53 M H locs := hW
  have hv13 := (hF12 45 (by omega) (by omega)).trans (EE_9 (by decide))
  refine r_ast (j := 3) (t := 5) (ci := 9) (N := 20) (r := (RX9, TX9, 7)) C hW (by omega) hx1 rfl (by omega) hv13 rfl (by decide) (by decide) (by decide) dX3_init_33 (fun M H locs hx1' hne hW => ?_)
  clear hv13
  replace hx1 := hx1'
  clear hx1'
  replace hO := (hne 19 (by omega)).trans hO
  replace hF3 := fun j h1 h2 => (hne j (by omega)).trans (hF3 j h1 h2)
  replace hF6 := fun j h1 h2 => (hne j (by omega)).trans (hF6 j h1 h2)
  replace hF9 := fun j h1 h2 => (hne j (by omega)).trans (hF9 j h1 h2)
  replace hF12 := fun j h1 h2 => (hne j (by omega)).trans (hF12 j h1 h2)
  replace hB := fun j h1 => (hne j (by omega)).trans (hB j h1)
  refine lv_iinc (v := 4) (lv' := [(1, .int 4), (0, .ref (g.1 + 19))]) C.1.1 C.1.2.1 dX3_init_34 hl (k := 0) rfl (by decide) (by decide) rfl (fun ls hl => ?_)
  refine lv_goto (tgt := 15) C.1.1 C.1.2.1 dX3_init_37 (by decide) ?_
  refine lv_iload_n C.1.1 C.1.2.1 dX3_init_15 rfl (lv_at hl 0 rfl) ?_
  refine lv_bipush (v := 20) C.1.1 C.1.2.1 dX3_init_16 (by decide) ?_
  refine lv_icmp_ge (tgt := 40) C.1.1 C.1.2.1 dX3_init_18 (by decide) (fun hc => absurd hc (by decide)) (fun _ => ?_)
  refine lv_aload_n C.1.1 C.1.2.1 dX3_init_21 rfl (lv_at hl 1 rfl) ?_
  refine r_get (ci := 3) (Cn := RX3) (T := TX3) (N := 3) C hW inG3 (by omega) hO rfl 0 (by decide) (ref := RX3) (g1 169 (Eq.refl _) rfl) rfl rfl dX3_init_22 ?_
  refine lv_iload_n C.1.1 C.1.2.1 dX3_init_25 rfl (lv_at hl 0 rfl) ?_
  refine r_new (ci := 9) (Cn := RX9) (T := TX9) (N := 7) (fs := blk 9) C hW inG9 tyX9 tyX9_ok (g1 166 (Eq.refl _) rfl) (g1 46 (Eq.refl _) rfl) (g1 3 (Eq.refl _) rfl) rfl bk_9 (by decide) (by decide) dX3_init_26 (fun M H hx14 hne hW => ?_)
  replace hO := (hne 19 (by omega)).trans hO
  replace hx1 := (hne 20 (by omega)).trans hx1
  replace hF3 := fun j h1 h2 => (hne j (by omega)).trans (hF3 j h1 h2)
  replace hF6 := fun j h1 h2 => (hne j (by omega)).trans (hF6 j h1 h2)
  replace hF9 := fun j h1 h2 => (hne j (by omega)).trans (hF9 j h1 h2)
  replace hF12 := fun j h1 h2 => (hne j (by omega)).trans (hF12 j h1 h2)
  replace hB := fun j h1 => (hne j (by omega)).trans (hB j h1)
  refine lv_dup C.1.1 C.1.2.1 dX3_init_29 rfl ?_
  replace hx14 : M 53 = .inr (kd 53, blk (kd 53)) := by rw [hx14, show kd 53 = 9 from (by decide)]
  refine r_callI (rest := [.ref (g.1 + 53), .int 4, .ref (g.1 + 20)]) C hKc hW (c_X9_init g l 53 (by decide)) hx14 cd_X9_init (g1 168 (Eq.refl _) rfl) (g1 48 (Eq.refl _) rfl) (g1 3 (Eq.refl _) rfl) rfl (by decide +kernel) ⟨by decide, by decide⟩ ⟨by decide, by decide⟩ hl.1 (Nat.le_of_ble_eq_true rfl) dX3_init_30 (fun M H locs hF15 hb hW => ?_)
  replace hO := (hb 19 (by omega)).trans hO
  replace hx1 := (hb 20 (by omega)).trans hx1
  replace hF3 := fun j h1 h2 => (hb j (by omega)).trans (hF3 j h1 h2)
  replace hF6 := fun j h1 h2 => (hb j (by omega)).trans (hF6 j h1 h2)
  replace hF9 := fun j h1 h2 => (hb j (by omega)).trans (hF9 j h1 h2)
  replace hF12 := fun j h1 h2 => (hb j (by omega)).trans (hF12 j h1 h2)
  replace hB := fun j h1 => (hb j (by omega)).trans (hB j h1)
  have hW : Wr g s 61 M H locs := hW
  have hv16 := (hF15 53 (by omega) (by omega)).trans (EE_9 (by decide))
  refine r_ast (j := 4) (t := 5) (ci := 9) (N := 20) (r := (RX9, TX9, 7)) C hW (by omega) hx1 rfl (by omega) hv16 rfl (by decide) (by decide) (by decide) dX3_init_33 (fun M H locs hx1' hne hW => ?_)
  clear hv16
  replace hx1 := hx1'
  clear hx1'
  replace hO := (hne 19 (by omega)).trans hO
  replace hF3 := fun j h1 h2 => (hne j (by omega)).trans (hF3 j h1 h2)
  replace hF6 := fun j h1 h2 => (hne j (by omega)).trans (hF6 j h1 h2)
  replace hF9 := fun j h1 h2 => (hne j (by omega)).trans (hF9 j h1 h2)
  replace hF12 := fun j h1 h2 => (hne j (by omega)).trans (hF12 j h1 h2)
  replace hF15 := fun j h1 h2 => (hne j (by omega)).trans (hF15 j h1 h2)
  replace hB := fun j h1 => (hne j (by omega)).trans (hB j h1)
  refine lv_iinc (v := 5) (lv' := [(1, .int 5), (0, .ref (g.1 + 19))]) C.1.1 C.1.2.1 dX3_init_34 hl (k := 0) rfl (by decide) (by decide) rfl (fun ls hl => ?_)
  refine lv_goto (tgt := 15) C.1.1 C.1.2.1 dX3_init_37 (by decide) ?_
  refine lv_iload_n C.1.1 C.1.2.1 dX3_init_15 rfl (lv_at hl 0 rfl) ?_
  refine lv_bipush (v := 20) C.1.1 C.1.2.1 dX3_init_16 (by decide) ?_
  refine lv_icmp_ge (tgt := 40) C.1.1 C.1.2.1 dX3_init_18 (by decide) (fun hc => absurd hc (by decide)) (fun _ => ?_)
  refine lv_aload_n C.1.1 C.1.2.1 dX3_init_21 rfl (lv_at hl 1 rfl) ?_
  refine r_get (ci := 3) (Cn := RX3) (T := TX3) (N := 3) C hW inG3 (by omega) hO rfl 0 (by decide) (ref := RX3) (g1 169 (Eq.refl _) rfl) rfl rfl dX3_init_22 ?_
  refine lv_iload_n C.1.1 C.1.2.1 dX3_init_25 rfl (lv_at hl 0 rfl) ?_
  refine r_new (ci := 9) (Cn := RX9) (T := TX9) (N := 7) (fs := blk 9) C hW inG9 tyX9 tyX9_ok (g1 166 (Eq.refl _) rfl) (g1 46 (Eq.refl _) rfl) (g1 3 (Eq.refl _) rfl) rfl bk_9 (by decide) (by decide) dX3_init_26 (fun M H hx17 hne hW => ?_)
  replace hO := (hne 19 (by omega)).trans hO
  replace hx1 := (hne 20 (by omega)).trans hx1
  replace hF3 := fun j h1 h2 => (hne j (by omega)).trans (hF3 j h1 h2)
  replace hF6 := fun j h1 h2 => (hne j (by omega)).trans (hF6 j h1 h2)
  replace hF9 := fun j h1 h2 => (hne j (by omega)).trans (hF9 j h1 h2)
  replace hF12 := fun j h1 h2 => (hne j (by omega)).trans (hF12 j h1 h2)
  replace hF15 := fun j h1 h2 => (hne j (by omega)).trans (hF15 j h1 h2)
  replace hB := fun j h1 => (hne j (by omega)).trans (hB j h1)
  refine lv_dup C.1.1 C.1.2.1 dX3_init_29 rfl ?_
  replace hx17 : M 61 = .inr (kd 61, blk (kd 61)) := by rw [hx17, show kd 61 = 9 from (by decide)]
  refine r_callI (rest := [.ref (g.1 + 61), .int 5, .ref (g.1 + 20)]) C hKc hW (c_X9_init g l 61 (by decide)) hx17 cd_X9_init (g1 168 (Eq.refl _) rfl) (g1 48 (Eq.refl _) rfl) (g1 3 (Eq.refl _) rfl) rfl (by decide +kernel) ⟨by decide, by decide⟩ ⟨by decide, by decide⟩ hl.1 (Nat.le_of_ble_eq_true rfl) dX3_init_30 (fun M H locs hF18 hb hW => ?_)
  replace hO := (hb 19 (by omega)).trans hO
  replace hx1 := (hb 20 (by omega)).trans hx1
  replace hF3 := fun j h1 h2 => (hb j (by omega)).trans (hF3 j h1 h2)
  replace hF6 := fun j h1 h2 => (hb j (by omega)).trans (hF6 j h1 h2)
  replace hF9 := fun j h1 h2 => (hb j (by omega)).trans (hF9 j h1 h2)
  replace hF12 := fun j h1 h2 => (hb j (by omega)).trans (hF12 j h1 h2)
  replace hF15 := fun j h1 h2 => (hb j (by omega)).trans (hF15 j h1 h2)
  replace hB := fun j h1 => (hb j (by omega)).trans (hB j h1)
  have hW : Wr g s 69 M H locs := hW
  have hv19 := (hF18 61 (by omega) (by omega)).trans (EE_9 (by decide))
  refine r_ast (j := 5) (t := 5) (ci := 9) (N := 20) (r := (RX9, TX9, 7)) C hW (by omega) hx1 rfl (by omega) hv19 rfl (by decide) (by decide) (by decide) dX3_init_33 (fun M H locs hx1' hne hW => ?_)
  clear hv19
  replace hx1 := hx1'
  clear hx1'
  replace hO := (hne 19 (by omega)).trans hO
  replace hF3 := fun j h1 h2 => (hne j (by omega)).trans (hF3 j h1 h2)
  replace hF6 := fun j h1 h2 => (hne j (by omega)).trans (hF6 j h1 h2)
  replace hF9 := fun j h1 h2 => (hne j (by omega)).trans (hF9 j h1 h2)
  replace hF12 := fun j h1 h2 => (hne j (by omega)).trans (hF12 j h1 h2)
  replace hF15 := fun j h1 h2 => (hne j (by omega)).trans (hF15 j h1 h2)
  replace hF18 := fun j h1 h2 => (hne j (by omega)).trans (hF18 j h1 h2)
  replace hB := fun j h1 => (hne j (by omega)).trans (hB j h1)
  refine lv_iinc (v := 6) (lv' := [(1, .int 6), (0, .ref (g.1 + 19))]) C.1.1 C.1.2.1 dX3_init_34 hl (k := 0) rfl (by decide) (by decide) rfl (fun ls hl => ?_)
  refine lv_goto (tgt := 15) C.1.1 C.1.2.1 dX3_init_37 (by decide) ?_
  refine lv_iload_n C.1.1 C.1.2.1 dX3_init_15 rfl (lv_at hl 0 rfl) ?_
  refine lv_bipush (v := 20) C.1.1 C.1.2.1 dX3_init_16 (by decide) ?_
  refine lv_icmp_ge (tgt := 40) C.1.1 C.1.2.1 dX3_init_18 (by decide) (fun hc => absurd hc (by decide)) (fun _ => ?_)
  refine lv_aload_n C.1.1 C.1.2.1 dX3_init_21 rfl (lv_at hl 1 rfl) ?_
  refine r_get (ci := 3) (Cn := RX3) (T := TX3) (N := 3) C hW inG3 (by omega) hO rfl 0 (by decide) (ref := RX3) (g1 169 (Eq.refl _) rfl) rfl rfl dX3_init_22 ?_
  refine lv_iload_n C.1.1 C.1.2.1 dX3_init_25 rfl (lv_at hl 0 rfl) ?_
  refine r_new (ci := 9) (Cn := RX9) (T := TX9) (N := 7) (fs := blk 9) C hW inG9 tyX9 tyX9_ok (g1 166 (Eq.refl _) rfl) (g1 46 (Eq.refl _) rfl) (g1 3 (Eq.refl _) rfl) rfl bk_9 (by decide) (by decide) dX3_init_26 (fun M H hx20 hne hW => ?_)
  replace hO := (hne 19 (by omega)).trans hO
  replace hx1 := (hne 20 (by omega)).trans hx1
  replace hF3 := fun j h1 h2 => (hne j (by omega)).trans (hF3 j h1 h2)
  replace hF6 := fun j h1 h2 => (hne j (by omega)).trans (hF6 j h1 h2)
  replace hF9 := fun j h1 h2 => (hne j (by omega)).trans (hF9 j h1 h2)
  replace hF12 := fun j h1 h2 => (hne j (by omega)).trans (hF12 j h1 h2)
  replace hF15 := fun j h1 h2 => (hne j (by omega)).trans (hF15 j h1 h2)
  replace hF18 := fun j h1 h2 => (hne j (by omega)).trans (hF18 j h1 h2)
  replace hB := fun j h1 => (hne j (by omega)).trans (hB j h1)
  refine lv_dup C.1.1 C.1.2.1 dX3_init_29 rfl ?_
  replace hx20 : M 69 = .inr (kd 69, blk (kd 69)) := by rw [hx20, show kd 69 = 9 from (by decide)]
  refine r_callI (rest := [.ref (g.1 + 69), .int 6, .ref (g.1 + 20)]) C hKc hW (c_X9_init g l 69 (by decide)) hx20 cd_X9_init (g1 168 (Eq.refl _) rfl) (g1 48 (Eq.refl _) rfl) (g1 3 (Eq.refl _) rfl) rfl (by decide +kernel) ⟨by decide, by decide⟩ ⟨by decide, by decide⟩ hl.1 (Nat.le_of_ble_eq_true rfl) dX3_init_30 (fun M H locs hF21 hb hW => ?_)
  replace hO := (hb 19 (by omega)).trans hO
  replace hx1 := (hb 20 (by omega)).trans hx1
  replace hF3 := fun j h1 h2 => (hb j (by omega)).trans (hF3 j h1 h2)
  replace hF6 := fun j h1 h2 => (hb j (by omega)).trans (hF6 j h1 h2)
  replace hF9 := fun j h1 h2 => (hb j (by omega)).trans (hF9 j h1 h2)
  replace hF12 := fun j h1 h2 => (hb j (by omega)).trans (hF12 j h1 h2)
  replace hF15 := fun j h1 h2 => (hb j (by omega)).trans (hF15 j h1 h2)
  replace hF18 := fun j h1 h2 => (hb j (by omega)).trans (hF18 j h1 h2)
  replace hB := fun j h1 => (hb j (by omega)).trans (hB j h1)
  have hW : Wr g s 77 M H locs := hW
  have hv22 := (hF21 69 (by omega) (by omega)).trans (EE_9 (by decide))
  refine r_ast (j := 6) (t := 5) (ci := 9) (N := 20) (r := (RX9, TX9, 7)) C hW (by omega) hx1 rfl (by omega) hv22 rfl (by decide) (by decide) (by decide) dX3_init_33 (fun M H locs hx1' hne hW => ?_)
  clear hv22
  replace hx1 := hx1'
  clear hx1'
  replace hO := (hne 19 (by omega)).trans hO
  replace hF3 := fun j h1 h2 => (hne j (by omega)).trans (hF3 j h1 h2)
  replace hF6 := fun j h1 h2 => (hne j (by omega)).trans (hF6 j h1 h2)
  replace hF9 := fun j h1 h2 => (hne j (by omega)).trans (hF9 j h1 h2)
  replace hF12 := fun j h1 h2 => (hne j (by omega)).trans (hF12 j h1 h2)
  replace hF15 := fun j h1 h2 => (hne j (by omega)).trans (hF15 j h1 h2)
  replace hF18 := fun j h1 h2 => (hne j (by omega)).trans (hF18 j h1 h2)
  replace hF21 := fun j h1 h2 => (hne j (by omega)).trans (hF21 j h1 h2)
  replace hB := fun j h1 => (hne j (by omega)).trans (hB j h1)
  refine lv_iinc (v := 7) (lv' := [(1, .int 7), (0, .ref (g.1 + 19))]) C.1.1 C.1.2.1 dX3_init_34 hl (k := 0) rfl (by decide) (by decide) rfl (fun ls hl => ?_)
  refine lv_goto (tgt := 15) C.1.1 C.1.2.1 dX3_init_37 (by decide) ?_
  refine lv_iload_n C.1.1 C.1.2.1 dX3_init_15 rfl (lv_at hl 0 rfl) ?_
  refine lv_bipush (v := 20) C.1.1 C.1.2.1 dX3_init_16 (by decide) ?_
  refine lv_icmp_ge (tgt := 40) C.1.1 C.1.2.1 dX3_init_18 (by decide) (fun hc => absurd hc (by decide)) (fun _ => ?_)
  refine lv_aload_n C.1.1 C.1.2.1 dX3_init_21 rfl (lv_at hl 1 rfl) ?_
  refine r_get (ci := 3) (Cn := RX3) (T := TX3) (N := 3) C hW inG3 (by omega) hO rfl 0 (by decide) (ref := RX3) (g1 169 (Eq.refl _) rfl) rfl rfl dX3_init_22 ?_
  refine lv_iload_n C.1.1 C.1.2.1 dX3_init_25 rfl (lv_at hl 0 rfl) ?_
  refine r_new (ci := 9) (Cn := RX9) (T := TX9) (N := 7) (fs := blk 9) C hW inG9 tyX9 tyX9_ok (g1 166 (Eq.refl _) rfl) (g1 46 (Eq.refl _) rfl) (g1 3 (Eq.refl _) rfl) rfl bk_9 (by decide) (by decide) dX3_init_26 (fun M H hx23 hne hW => ?_)
  replace hO := (hne 19 (by omega)).trans hO
  replace hx1 := (hne 20 (by omega)).trans hx1
  replace hF3 := fun j h1 h2 => (hne j (by omega)).trans (hF3 j h1 h2)
  replace hF6 := fun j h1 h2 => (hne j (by omega)).trans (hF6 j h1 h2)
  replace hF9 := fun j h1 h2 => (hne j (by omega)).trans (hF9 j h1 h2)
  replace hF12 := fun j h1 h2 => (hne j (by omega)).trans (hF12 j h1 h2)
  replace hF15 := fun j h1 h2 => (hne j (by omega)).trans (hF15 j h1 h2)
  replace hF18 := fun j h1 h2 => (hne j (by omega)).trans (hF18 j h1 h2)
  replace hF21 := fun j h1 h2 => (hne j (by omega)).trans (hF21 j h1 h2)
  replace hB := fun j h1 => (hne j (by omega)).trans (hB j h1)
  refine lv_dup C.1.1 C.1.2.1 dX3_init_29 rfl ?_
  replace hx23 : M 77 = .inr (kd 77, blk (kd 77)) := by rw [hx23, show kd 77 = 9 from (by decide)]
  refine r_callI (rest := [.ref (g.1 + 77), .int 7, .ref (g.1 + 20)]) C hKc hW (c_X9_init g l 77 (by decide)) hx23 cd_X9_init (g1 168 (Eq.refl _) rfl) (g1 48 (Eq.refl _) rfl) (g1 3 (Eq.refl _) rfl) rfl (by decide +kernel) ⟨by decide, by decide⟩ ⟨by decide, by decide⟩ hl.1 (Nat.le_of_ble_eq_true rfl) dX3_init_30 (fun M H locs hF24 hb hW => ?_)
  replace hO := (hb 19 (by omega)).trans hO
  replace hx1 := (hb 20 (by omega)).trans hx1
  replace hF3 := fun j h1 h2 => (hb j (by omega)).trans (hF3 j h1 h2)
  replace hF6 := fun j h1 h2 => (hb j (by omega)).trans (hF6 j h1 h2)
  replace hF9 := fun j h1 h2 => (hb j (by omega)).trans (hF9 j h1 h2)
  replace hF12 := fun j h1 h2 => (hb j (by omega)).trans (hF12 j h1 h2)
  replace hF15 := fun j h1 h2 => (hb j (by omega)).trans (hF15 j h1 h2)
  replace hF18 := fun j h1 h2 => (hb j (by omega)).trans (hF18 j h1 h2)
  replace hF21 := fun j h1 h2 => (hb j (by omega)).trans (hF21 j h1 h2)
  replace hB := fun j h1 => (hb j (by omega)).trans (hB j h1)
  have hW : Wr g s 85 M H locs := hW
  have hv25 := (hF24 77 (by omega) (by omega)).trans (EE_9 (by decide))
  refine r_ast (j := 7) (t := 5) (ci := 9) (N := 20) (r := (RX9, TX9, 7)) C hW (by omega) hx1 rfl (by omega) hv25 rfl (by decide) (by decide) (by decide) dX3_init_33 (fun M H locs hx1' hne hW => ?_)
  clear hv25
  replace hx1 := hx1'
  clear hx1'
  replace hO := (hne 19 (by omega)).trans hO
  replace hF3 := fun j h1 h2 => (hne j (by omega)).trans (hF3 j h1 h2)
  replace hF6 := fun j h1 h2 => (hne j (by omega)).trans (hF6 j h1 h2)
  replace hF9 := fun j h1 h2 => (hne j (by omega)).trans (hF9 j h1 h2)
  replace hF12 := fun j h1 h2 => (hne j (by omega)).trans (hF12 j h1 h2)
  replace hF15 := fun j h1 h2 => (hne j (by omega)).trans (hF15 j h1 h2)
  replace hF18 := fun j h1 h2 => (hne j (by omega)).trans (hF18 j h1 h2)
  replace hF21 := fun j h1 h2 => (hne j (by omega)).trans (hF21 j h1 h2)
  replace hF24 := fun j h1 h2 => (hne j (by omega)).trans (hF24 j h1 h2)
  replace hB := fun j h1 => (hne j (by omega)).trans (hB j h1)
  refine lv_iinc (v := 8) (lv' := [(1, .int 8), (0, .ref (g.1 + 19))]) C.1.1 C.1.2.1 dX3_init_34 hl (k := 0) rfl (by decide) (by decide) rfl (fun ls hl => ?_)
  refine lv_goto (tgt := 15) C.1.1 C.1.2.1 dX3_init_37 (by decide) ?_
  refine lv_iload_n C.1.1 C.1.2.1 dX3_init_15 rfl (lv_at hl 0 rfl) ?_
  refine lv_bipush (v := 20) C.1.1 C.1.2.1 dX3_init_16 (by decide) ?_
  refine lv_icmp_ge (tgt := 40) C.1.1 C.1.2.1 dX3_init_18 (by decide) (fun hc => absurd hc (by decide)) (fun _ => ?_)
  refine lv_aload_n C.1.1 C.1.2.1 dX3_init_21 rfl (lv_at hl 1 rfl) ?_
  refine r_get (ci := 3) (Cn := RX3) (T := TX3) (N := 3) C hW inG3 (by omega) hO rfl 0 (by decide) (ref := RX3) (g1 169 (Eq.refl _) rfl) rfl rfl dX3_init_22 ?_
  refine lv_iload_n C.1.1 C.1.2.1 dX3_init_25 rfl (lv_at hl 0 rfl) ?_
  refine r_new (ci := 9) (Cn := RX9) (T := TX9) (N := 7) (fs := blk 9) C hW inG9 tyX9 tyX9_ok (g1 166 (Eq.refl _) rfl) (g1 46 (Eq.refl _) rfl) (g1 3 (Eq.refl _) rfl) rfl bk_9 (by decide) (by decide) dX3_init_26 (fun M H hx26 hne hW => ?_)
  replace hO := (hne 19 (by omega)).trans hO
  replace hx1 := (hne 20 (by omega)).trans hx1
  replace hF3 := fun j h1 h2 => (hne j (by omega)).trans (hF3 j h1 h2)
  replace hF6 := fun j h1 h2 => (hne j (by omega)).trans (hF6 j h1 h2)
  replace hF9 := fun j h1 h2 => (hne j (by omega)).trans (hF9 j h1 h2)
  replace hF12 := fun j h1 h2 => (hne j (by omega)).trans (hF12 j h1 h2)
  replace hF15 := fun j h1 h2 => (hne j (by omega)).trans (hF15 j h1 h2)
  replace hF18 := fun j h1 h2 => (hne j (by omega)).trans (hF18 j h1 h2)
  replace hF21 := fun j h1 h2 => (hne j (by omega)).trans (hF21 j h1 h2)
  replace hF24 := fun j h1 h2 => (hne j (by omega)).trans (hF24 j h1 h2)
  replace hB := fun j h1 => (hne j (by omega)).trans (hB j h1)
  refine lv_dup C.1.1 C.1.2.1 dX3_init_29 rfl ?_
  replace hx26 : M 85 = .inr (kd 85, blk (kd 85)) := by rw [hx26, show kd 85 = 9 from (by decide)]
  refine r_callI (rest := [.ref (g.1 + 85), .int 8, .ref (g.1 + 20)]) C hKc hW (c_X9_init g l 85 (by decide)) hx26 cd_X9_init (g1 168 (Eq.refl _) rfl) (g1 48 (Eq.refl _) rfl) (g1 3 (Eq.refl _) rfl) rfl (by decide +kernel) ⟨by decide, by decide⟩ ⟨by decide, by decide⟩ hl.1 (Nat.le_of_ble_eq_true rfl) dX3_init_30 (fun M H locs hF27 hb hW => ?_)
  replace hO := (hb 19 (by omega)).trans hO
  replace hx1 := (hb 20 (by omega)).trans hx1
  replace hF3 := fun j h1 h2 => (hb j (by omega)).trans (hF3 j h1 h2)
  replace hF6 := fun j h1 h2 => (hb j (by omega)).trans (hF6 j h1 h2)
  replace hF9 := fun j h1 h2 => (hb j (by omega)).trans (hF9 j h1 h2)
  replace hF12 := fun j h1 h2 => (hb j (by omega)).trans (hF12 j h1 h2)
  replace hF15 := fun j h1 h2 => (hb j (by omega)).trans (hF15 j h1 h2)
  replace hF18 := fun j h1 h2 => (hb j (by omega)).trans (hF18 j h1 h2)
  replace hF21 := fun j h1 h2 => (hb j (by omega)).trans (hF21 j h1 h2)
  replace hF24 := fun j h1 h2 => (hb j (by omega)).trans (hF24 j h1 h2)
  replace hB := fun j h1 => (hb j (by omega)).trans (hB j h1)
  have hW : Wr g s 93 M H locs := hW
  have hv28 := (hF27 85 (by omega) (by omega)).trans (EE_9 (by decide))
  refine r_ast (j := 8) (t := 5) (ci := 9) (N := 20) (r := (RX9, TX9, 7)) C hW (by omega) hx1 rfl (by omega) hv28 rfl (by decide) (by decide) (by decide) dX3_init_33 (fun M H locs hx1' hne hW => ?_)
  clear hv28
  replace hx1 := hx1'
  clear hx1'
  replace hO := (hne 19 (by omega)).trans hO
  replace hF3 := fun j h1 h2 => (hne j (by omega)).trans (hF3 j h1 h2)
  replace hF6 := fun j h1 h2 => (hne j (by omega)).trans (hF6 j h1 h2)
  replace hF9 := fun j h1 h2 => (hne j (by omega)).trans (hF9 j h1 h2)
  replace hF12 := fun j h1 h2 => (hne j (by omega)).trans (hF12 j h1 h2)
  replace hF15 := fun j h1 h2 => (hne j (by omega)).trans (hF15 j h1 h2)
  replace hF18 := fun j h1 h2 => (hne j (by omega)).trans (hF18 j h1 h2)
  replace hF21 := fun j h1 h2 => (hne j (by omega)).trans (hF21 j h1 h2)
  replace hF24 := fun j h1 h2 => (hne j (by omega)).trans (hF24 j h1 h2)
  replace hF27 := fun j h1 h2 => (hne j (by omega)).trans (hF27 j h1 h2)
  replace hB := fun j h1 => (hne j (by omega)).trans (hB j h1)
  refine lv_iinc (v := 9) (lv' := [(1, .int 9), (0, .ref (g.1 + 19))]) C.1.1 C.1.2.1 dX3_init_34 hl (k := 0) rfl (by decide) (by decide) rfl (fun ls hl => ?_)
  refine lv_goto (tgt := 15) C.1.1 C.1.2.1 dX3_init_37 (by decide) ?_
  refine lv_iload_n C.1.1 C.1.2.1 dX3_init_15 rfl (lv_at hl 0 rfl) ?_
  refine lv_bipush (v := 20) C.1.1 C.1.2.1 dX3_init_16 (by decide) ?_
  refine lv_icmp_ge (tgt := 40) C.1.1 C.1.2.1 dX3_init_18 (by decide) (fun hc => absurd hc (by decide)) (fun _ => ?_)
  refine lv_aload_n C.1.1 C.1.2.1 dX3_init_21 rfl (lv_at hl 1 rfl) ?_
  refine r_get (ci := 3) (Cn := RX3) (T := TX3) (N := 3) C hW inG3 (by omega) hO rfl 0 (by decide) (ref := RX3) (g1 169 (Eq.refl _) rfl) rfl rfl dX3_init_22 ?_
  refine lv_iload_n C.1.1 C.1.2.1 dX3_init_25 rfl (lv_at hl 0 rfl) ?_
  refine r_new (ci := 9) (Cn := RX9) (T := TX9) (N := 7) (fs := blk 9) C hW inG9 tyX9 tyX9_ok (g1 166 (Eq.refl _) rfl) (g1 46 (Eq.refl _) rfl) (g1 3 (Eq.refl _) rfl) rfl bk_9 (by decide) (by decide) dX3_init_26 (fun M H hx29 hne hW => ?_)
  replace hO := (hne 19 (by omega)).trans hO
  replace hx1 := (hne 20 (by omega)).trans hx1
  replace hF3 := fun j h1 h2 => (hne j (by omega)).trans (hF3 j h1 h2)
  replace hF6 := fun j h1 h2 => (hne j (by omega)).trans (hF6 j h1 h2)
  replace hF9 := fun j h1 h2 => (hne j (by omega)).trans (hF9 j h1 h2)
  replace hF12 := fun j h1 h2 => (hne j (by omega)).trans (hF12 j h1 h2)
  replace hF15 := fun j h1 h2 => (hne j (by omega)).trans (hF15 j h1 h2)
  replace hF18 := fun j h1 h2 => (hne j (by omega)).trans (hF18 j h1 h2)
  replace hF21 := fun j h1 h2 => (hne j (by omega)).trans (hF21 j h1 h2)
  replace hF24 := fun j h1 h2 => (hne j (by omega)).trans (hF24 j h1 h2)
  replace hF27 := fun j h1 h2 => (hne j (by omega)).trans (hF27 j h1 h2)
  replace hB := fun j h1 => (hne j (by omega)).trans (hB j h1)
  refine lv_dup C.1.1 C.1.2.1 dX3_init_29 rfl ?_
  replace hx29 : M 93 = .inr (kd 93, blk (kd 93)) := by rw [hx29, show kd 93 = 9 from (by decide)]
  refine r_callI (rest := [.ref (g.1 + 93), .int 9, .ref (g.1 + 20)]) C hKc hW (c_X9_init g l 93 (by decide)) hx29 cd_X9_init (g1 168 (Eq.refl _) rfl) (g1 48 (Eq.refl _) rfl) (g1 3 (Eq.refl _) rfl) rfl (by decide +kernel) ⟨by decide, by decide⟩ ⟨by decide, by decide⟩ hl.1 (Nat.le_of_ble_eq_true rfl) dX3_init_30 (fun M H locs hF30 hb hW => ?_)
  replace hO := (hb 19 (by omega)).trans hO
  replace hx1 := (hb 20 (by omega)).trans hx1
  replace hF3 := fun j h1 h2 => (hb j (by omega)).trans (hF3 j h1 h2)
  replace hF6 := fun j h1 h2 => (hb j (by omega)).trans (hF6 j h1 h2)
  replace hF9 := fun j h1 h2 => (hb j (by omega)).trans (hF9 j h1 h2)
  replace hF12 := fun j h1 h2 => (hb j (by omega)).trans (hF12 j h1 h2)
  replace hF15 := fun j h1 h2 => (hb j (by omega)).trans (hF15 j h1 h2)
  replace hF18 := fun j h1 h2 => (hb j (by omega)).trans (hF18 j h1 h2)
  replace hF21 := fun j h1 h2 => (hb j (by omega)).trans (hF21 j h1 h2)
  replace hF24 := fun j h1 h2 => (hb j (by omega)).trans (hF24 j h1 h2)
  replace hF27 := fun j h1 h2 => (hb j (by omega)).trans (hF27 j h1 h2)
  replace hB := fun j h1 => (hb j (by omega)).trans (hB j h1)
  have hW : Wr g s 101 M H locs := hW
  have hv31 := (hF30 93 (by omega) (by omega)).trans (EE_9 (by decide))
  refine r_ast (j := 9) (t := 5) (ci := 9) (N := 20) (r := (RX9, TX9, 7)) C hW (by omega) hx1 rfl (by omega) hv31 rfl (by decide) (by decide) (by decide) dX3_init_33 (fun M H locs hx1' hne hW => ?_)
  clear hv31
  replace hx1 := hx1'
  clear hx1'
  replace hO := (hne 19 (by omega)).trans hO
  replace hF3 := fun j h1 h2 => (hne j (by omega)).trans (hF3 j h1 h2)
  replace hF6 := fun j h1 h2 => (hne j (by omega)).trans (hF6 j h1 h2)
  replace hF9 := fun j h1 h2 => (hne j (by omega)).trans (hF9 j h1 h2)
  replace hF12 := fun j h1 h2 => (hne j (by omega)).trans (hF12 j h1 h2)
  replace hF15 := fun j h1 h2 => (hne j (by omega)).trans (hF15 j h1 h2)
  replace hF18 := fun j h1 h2 => (hne j (by omega)).trans (hF18 j h1 h2)
  replace hF21 := fun j h1 h2 => (hne j (by omega)).trans (hF21 j h1 h2)
  replace hF24 := fun j h1 h2 => (hne j (by omega)).trans (hF24 j h1 h2)
  replace hF27 := fun j h1 h2 => (hne j (by omega)).trans (hF27 j h1 h2)
  replace hF30 := fun j h1 h2 => (hne j (by omega)).trans (hF30 j h1 h2)
  replace hB := fun j h1 => (hne j (by omega)).trans (hB j h1)
  refine lv_iinc (v := 10) (lv' := [(1, .int 10), (0, .ref (g.1 + 19))]) C.1.1 C.1.2.1 dX3_init_34 hl (k := 0) rfl (by decide) (by decide) rfl (fun ls hl => ?_)
  refine lv_goto (tgt := 15) C.1.1 C.1.2.1 dX3_init_37 (by decide) ?_
  refine lv_iload_n C.1.1 C.1.2.1 dX3_init_15 rfl (lv_at hl 0 rfl) ?_
  refine lv_bipush (v := 20) C.1.1 C.1.2.1 dX3_init_16 (by decide) ?_
  refine lv_icmp_ge (tgt := 40) C.1.1 C.1.2.1 dX3_init_18 (by decide) (fun hc => absurd hc (by decide)) (fun _ => ?_)
  refine lv_aload_n C.1.1 C.1.2.1 dX3_init_21 rfl (lv_at hl 1 rfl) ?_
  refine r_get (ci := 3) (Cn := RX3) (T := TX3) (N := 3) C hW inG3 (by omega) hO rfl 0 (by decide) (ref := RX3) (g1 169 (Eq.refl _) rfl) rfl rfl dX3_init_22 ?_
  refine lv_iload_n C.1.1 C.1.2.1 dX3_init_25 rfl (lv_at hl 0 rfl) ?_
  refine r_new (ci := 9) (Cn := RX9) (T := TX9) (N := 7) (fs := blk 9) C hW inG9 tyX9 tyX9_ok (g1 166 (Eq.refl _) rfl) (g1 46 (Eq.refl _) rfl) (g1 3 (Eq.refl _) rfl) rfl bk_9 (by decide) (by decide) dX3_init_26 (fun M H hx32 hne hW => ?_)
  replace hO := (hne 19 (by omega)).trans hO
  replace hx1 := (hne 20 (by omega)).trans hx1
  replace hF3 := fun j h1 h2 => (hne j (by omega)).trans (hF3 j h1 h2)
  replace hF6 := fun j h1 h2 => (hne j (by omega)).trans (hF6 j h1 h2)
  replace hF9 := fun j h1 h2 => (hne j (by omega)).trans (hF9 j h1 h2)
  replace hF12 := fun j h1 h2 => (hne j (by omega)).trans (hF12 j h1 h2)
  replace hF15 := fun j h1 h2 => (hne j (by omega)).trans (hF15 j h1 h2)
  replace hF18 := fun j h1 h2 => (hne j (by omega)).trans (hF18 j h1 h2)
  replace hF21 := fun j h1 h2 => (hne j (by omega)).trans (hF21 j h1 h2)
  replace hF24 := fun j h1 h2 => (hne j (by omega)).trans (hF24 j h1 h2)
  replace hF27 := fun j h1 h2 => (hne j (by omega)).trans (hF27 j h1 h2)
  replace hF30 := fun j h1 h2 => (hne j (by omega)).trans (hF30 j h1 h2)
  replace hB := fun j h1 => (hne j (by omega)).trans (hB j h1)
  refine lv_dup C.1.1 C.1.2.1 dX3_init_29 rfl ?_
  replace hx32 : M 101 = .inr (kd 101, blk (kd 101)) := by rw [hx32, show kd 101 = 9 from (by decide)]
  refine r_callI (rest := [.ref (g.1 + 101), .int 10, .ref (g.1 + 20)]) C hKc hW (c_X9_init g l 101 (by decide)) hx32 cd_X9_init (g1 168 (Eq.refl _) rfl) (g1 48 (Eq.refl _) rfl) (g1 3 (Eq.refl _) rfl) rfl (by decide +kernel) ⟨by decide, by decide⟩ ⟨by decide, by decide⟩ hl.1 (Nat.le_of_ble_eq_true rfl) dX3_init_30 (fun M H locs hF33 hb hW => ?_)
  replace hO := (hb 19 (by omega)).trans hO
  replace hx1 := (hb 20 (by omega)).trans hx1
  replace hF3 := fun j h1 h2 => (hb j (by omega)).trans (hF3 j h1 h2)
  replace hF6 := fun j h1 h2 => (hb j (by omega)).trans (hF6 j h1 h2)
  replace hF9 := fun j h1 h2 => (hb j (by omega)).trans (hF9 j h1 h2)
  replace hF12 := fun j h1 h2 => (hb j (by omega)).trans (hF12 j h1 h2)
  replace hF15 := fun j h1 h2 => (hb j (by omega)).trans (hF15 j h1 h2)
  replace hF18 := fun j h1 h2 => (hb j (by omega)).trans (hF18 j h1 h2)
  replace hF21 := fun j h1 h2 => (hb j (by omega)).trans (hF21 j h1 h2)
  replace hF24 := fun j h1 h2 => (hb j (by omega)).trans (hF24 j h1 h2)
  replace hF27 := fun j h1 h2 => (hb j (by omega)).trans (hF27 j h1 h2)
  replace hF30 := fun j h1 h2 => (hb j (by omega)).trans (hF30 j h1 h2)
  replace hB := fun j h1 => (hb j (by omega)).trans (hB j h1)
  have hW : Wr g s 109 M H locs := hW
  have hv34 := (hF33 101 (by omega) (by omega)).trans (EE_9 (by decide))
  refine r_ast (j := 10) (t := 5) (ci := 9) (N := 20) (r := (RX9, TX9, 7)) C hW (by omega) hx1 rfl (by omega) hv34 rfl (by decide) (by decide) (by decide) dX3_init_33 (fun M H locs hx1' hne hW => ?_)
  clear hv34
  replace hx1 := hx1'
  clear hx1'
  replace hO := (hne 19 (by omega)).trans hO
  replace hF3 := fun j h1 h2 => (hne j (by omega)).trans (hF3 j h1 h2)
  replace hF6 := fun j h1 h2 => (hne j (by omega)).trans (hF6 j h1 h2)
  replace hF9 := fun j h1 h2 => (hne j (by omega)).trans (hF9 j h1 h2)
  replace hF12 := fun j h1 h2 => (hne j (by omega)).trans (hF12 j h1 h2)
  replace hF15 := fun j h1 h2 => (hne j (by omega)).trans (hF15 j h1 h2)
  replace hF18 := fun j h1 h2 => (hne j (by omega)).trans (hF18 j h1 h2)
  replace hF21 := fun j h1 h2 => (hne j (by omega)).trans (hF21 j h1 h2)
  replace hF24 := fun j h1 h2 => (hne j (by omega)).trans (hF24 j h1 h2)
  replace hF27 := fun j h1 h2 => (hne j (by omega)).trans (hF27 j h1 h2)
  replace hF30 := fun j h1 h2 => (hne j (by omega)).trans (hF30 j h1 h2)
  replace hF33 := fun j h1 h2 => (hne j (by omega)).trans (hF33 j h1 h2)
  replace hB := fun j h1 => (hne j (by omega)).trans (hB j h1)
  refine lv_iinc (v := 11) (lv' := [(1, .int 11), (0, .ref (g.1 + 19))]) C.1.1 C.1.2.1 dX3_init_34 hl (k := 0) rfl (by decide) (by decide) rfl (fun ls hl => ?_)
  refine lv_goto (tgt := 15) C.1.1 C.1.2.1 dX3_init_37 (by decide) ?_
  refine lv_iload_n C.1.1 C.1.2.1 dX3_init_15 rfl (lv_at hl 0 rfl) ?_
  refine lv_bipush (v := 20) C.1.1 C.1.2.1 dX3_init_16 (by decide) ?_
  refine lv_icmp_ge (tgt := 40) C.1.1 C.1.2.1 dX3_init_18 (by decide) (fun hc => absurd hc (by decide)) (fun _ => ?_)
  refine lv_aload_n C.1.1 C.1.2.1 dX3_init_21 rfl (lv_at hl 1 rfl) ?_
  refine r_get (ci := 3) (Cn := RX3) (T := TX3) (N := 3) C hW inG3 (by omega) hO rfl 0 (by decide) (ref := RX3) (g1 169 (Eq.refl _) rfl) rfl rfl dX3_init_22 ?_
  refine lv_iload_n C.1.1 C.1.2.1 dX3_init_25 rfl (lv_at hl 0 rfl) ?_
  refine r_new (ci := 9) (Cn := RX9) (T := TX9) (N := 7) (fs := blk 9) C hW inG9 tyX9 tyX9_ok (g1 166 (Eq.refl _) rfl) (g1 46 (Eq.refl _) rfl) (g1 3 (Eq.refl _) rfl) rfl bk_9 (by decide) (by decide) dX3_init_26 (fun M H hx35 hne hW => ?_)
  replace hO := (hne 19 (by omega)).trans hO
  replace hx1 := (hne 20 (by omega)).trans hx1
  replace hF3 := fun j h1 h2 => (hne j (by omega)).trans (hF3 j h1 h2)
  replace hF6 := fun j h1 h2 => (hne j (by omega)).trans (hF6 j h1 h2)
  replace hF9 := fun j h1 h2 => (hne j (by omega)).trans (hF9 j h1 h2)
  replace hF12 := fun j h1 h2 => (hne j (by omega)).trans (hF12 j h1 h2)
  replace hF15 := fun j h1 h2 => (hne j (by omega)).trans (hF15 j h1 h2)
  replace hF18 := fun j h1 h2 => (hne j (by omega)).trans (hF18 j h1 h2)
  replace hF21 := fun j h1 h2 => (hne j (by omega)).trans (hF21 j h1 h2)
  replace hF24 := fun j h1 h2 => (hne j (by omega)).trans (hF24 j h1 h2)
  replace hF27 := fun j h1 h2 => (hne j (by omega)).trans (hF27 j h1 h2)
  replace hF30 := fun j h1 h2 => (hne j (by omega)).trans (hF30 j h1 h2)
  replace hF33 := fun j h1 h2 => (hne j (by omega)).trans (hF33 j h1 h2)
  replace hB := fun j h1 => (hne j (by omega)).trans (hB j h1)
  refine lv_dup C.1.1 C.1.2.1 dX3_init_29 rfl ?_
  replace hx35 : M 109 = .inr (kd 109, blk (kd 109)) := by rw [hx35, show kd 109 = 9 from (by decide)]
  refine r_callI (rest := [.ref (g.1 + 109), .int 11, .ref (g.1 + 20)]) C hKc hW (c_X9_init g l 109 (by decide)) hx35 cd_X9_init (g1 168 (Eq.refl _) rfl) (g1 48 (Eq.refl _) rfl) (g1 3 (Eq.refl _) rfl) rfl (by decide +kernel) ⟨by decide, by decide⟩ ⟨by decide, by decide⟩ hl.1 (Nat.le_of_ble_eq_true rfl) dX3_init_30 (fun M H locs hF36 hb hW => ?_)
  replace hO := (hb 19 (by omega)).trans hO
  replace hx1 := (hb 20 (by omega)).trans hx1
  replace hF3 := fun j h1 h2 => (hb j (by omega)).trans (hF3 j h1 h2)
  replace hF6 := fun j h1 h2 => (hb j (by omega)).trans (hF6 j h1 h2)
  replace hF9 := fun j h1 h2 => (hb j (by omega)).trans (hF9 j h1 h2)
  replace hF12 := fun j h1 h2 => (hb j (by omega)).trans (hF12 j h1 h2)
  replace hF15 := fun j h1 h2 => (hb j (by omega)).trans (hF15 j h1 h2)
  replace hF18 := fun j h1 h2 => (hb j (by omega)).trans (hF18 j h1 h2)
  replace hF21 := fun j h1 h2 => (hb j (by omega)).trans (hF21 j h1 h2)
  replace hF24 := fun j h1 h2 => (hb j (by omega)).trans (hF24 j h1 h2)
  replace hF27 := fun j h1 h2 => (hb j (by omega)).trans (hF27 j h1 h2)
  replace hF30 := fun j h1 h2 => (hb j (by omega)).trans (hF30 j h1 h2)
  replace hF33 := fun j h1 h2 => (hb j (by omega)).trans (hF33 j h1 h2)
  replace hB := fun j h1 => (hb j (by omega)).trans (hB j h1)
  have hW : Wr g s 117 M H locs := hW
  have hv37 := (hF36 109 (by omega) (by omega)).trans (EE_9 (by decide))
  refine r_ast (j := 11) (t := 5) (ci := 9) (N := 20) (r := (RX9, TX9, 7)) C hW (by omega) hx1 rfl (by omega) hv37 rfl (by decide) (by decide) (by decide) dX3_init_33 (fun M H locs hx1' hne hW => ?_)
  clear hv37
  replace hx1 := hx1'
  clear hx1'
  replace hO := (hne 19 (by omega)).trans hO
  replace hF3 := fun j h1 h2 => (hne j (by omega)).trans (hF3 j h1 h2)
  replace hF6 := fun j h1 h2 => (hne j (by omega)).trans (hF6 j h1 h2)
  replace hF9 := fun j h1 h2 => (hne j (by omega)).trans (hF9 j h1 h2)
  replace hF12 := fun j h1 h2 => (hne j (by omega)).trans (hF12 j h1 h2)
  replace hF15 := fun j h1 h2 => (hne j (by omega)).trans (hF15 j h1 h2)
  replace hF18 := fun j h1 h2 => (hne j (by omega)).trans (hF18 j h1 h2)
  replace hF21 := fun j h1 h2 => (hne j (by omega)).trans (hF21 j h1 h2)
  replace hF24 := fun j h1 h2 => (hne j (by omega)).trans (hF24 j h1 h2)
  replace hF27 := fun j h1 h2 => (hne j (by omega)).trans (hF27 j h1 h2)
  replace hF30 := fun j h1 h2 => (hne j (by omega)).trans (hF30 j h1 h2)
  replace hF33 := fun j h1 h2 => (hne j (by omega)).trans (hF33 j h1 h2)
  replace hF36 := fun j h1 h2 => (hne j (by omega)).trans (hF36 j h1 h2)
  replace hB := fun j h1 => (hne j (by omega)).trans (hB j h1)
  refine lv_iinc (v := 12) (lv' := [(1, .int 12), (0, .ref (g.1 + 19))]) C.1.1 C.1.2.1 dX3_init_34 hl (k := 0) rfl (by decide) (by decide) rfl (fun ls hl => ?_)
  refine lv_goto (tgt := 15) C.1.1 C.1.2.1 dX3_init_37 (by decide) ?_
  refine lv_iload_n C.1.1 C.1.2.1 dX3_init_15 rfl (lv_at hl 0 rfl) ?_
  refine lv_bipush (v := 20) C.1.1 C.1.2.1 dX3_init_16 (by decide) ?_
  refine lv_icmp_ge (tgt := 40) C.1.1 C.1.2.1 dX3_init_18 (by decide) (fun hc => absurd hc (by decide)) (fun _ => ?_)
  refine lv_aload_n C.1.1 C.1.2.1 dX3_init_21 rfl (lv_at hl 1 rfl) ?_
  refine r_get (ci := 3) (Cn := RX3) (T := TX3) (N := 3) C hW inG3 (by omega) hO rfl 0 (by decide) (ref := RX3) (g1 169 (Eq.refl _) rfl) rfl rfl dX3_init_22 ?_
  refine lv_iload_n C.1.1 C.1.2.1 dX3_init_25 rfl (lv_at hl 0 rfl) ?_
  refine r_new (ci := 9) (Cn := RX9) (T := TX9) (N := 7) (fs := blk 9) C hW inG9 tyX9 tyX9_ok (g1 166 (Eq.refl _) rfl) (g1 46 (Eq.refl _) rfl) (g1 3 (Eq.refl _) rfl) rfl bk_9 (by decide) (by decide) dX3_init_26 (fun M H hx38 hne hW => ?_)
  replace hO := (hne 19 (by omega)).trans hO
  replace hx1 := (hne 20 (by omega)).trans hx1
  replace hF3 := fun j h1 h2 => (hne j (by omega)).trans (hF3 j h1 h2)
  replace hF6 := fun j h1 h2 => (hne j (by omega)).trans (hF6 j h1 h2)
  replace hF9 := fun j h1 h2 => (hne j (by omega)).trans (hF9 j h1 h2)
  replace hF12 := fun j h1 h2 => (hne j (by omega)).trans (hF12 j h1 h2)
  replace hF15 := fun j h1 h2 => (hne j (by omega)).trans (hF15 j h1 h2)
  replace hF18 := fun j h1 h2 => (hne j (by omega)).trans (hF18 j h1 h2)
  replace hF21 := fun j h1 h2 => (hne j (by omega)).trans (hF21 j h1 h2)
  replace hF24 := fun j h1 h2 => (hne j (by omega)).trans (hF24 j h1 h2)
  replace hF27 := fun j h1 h2 => (hne j (by omega)).trans (hF27 j h1 h2)
  replace hF30 := fun j h1 h2 => (hne j (by omega)).trans (hF30 j h1 h2)
  replace hF33 := fun j h1 h2 => (hne j (by omega)).trans (hF33 j h1 h2)
  replace hF36 := fun j h1 h2 => (hne j (by omega)).trans (hF36 j h1 h2)
  replace hB := fun j h1 => (hne j (by omega)).trans (hB j h1)
  refine lv_dup C.1.1 C.1.2.1 dX3_init_29 rfl ?_
  replace hx38 : M 117 = .inr (kd 117, blk (kd 117)) := by rw [hx38, show kd 117 = 9 from (by decide)]
  refine r_callI (rest := [.ref (g.1 + 117), .int 12, .ref (g.1 + 20)]) C hKc hW (c_X9_init g l 117 (by decide)) hx38 cd_X9_init (g1 168 (Eq.refl _) rfl) (g1 48 (Eq.refl _) rfl) (g1 3 (Eq.refl _) rfl) rfl (by decide +kernel) ⟨by decide, by decide⟩ ⟨by decide, by decide⟩ hl.1 (Nat.le_of_ble_eq_true rfl) dX3_init_30 (fun M H locs hF39 hb hW => ?_)
  replace hO := (hb 19 (by omega)).trans hO
  replace hx1 := (hb 20 (by omega)).trans hx1
  replace hF3 := fun j h1 h2 => (hb j (by omega)).trans (hF3 j h1 h2)
  replace hF6 := fun j h1 h2 => (hb j (by omega)).trans (hF6 j h1 h2)
  replace hF9 := fun j h1 h2 => (hb j (by omega)).trans (hF9 j h1 h2)
  replace hF12 := fun j h1 h2 => (hb j (by omega)).trans (hF12 j h1 h2)
  replace hF15 := fun j h1 h2 => (hb j (by omega)).trans (hF15 j h1 h2)
  replace hF18 := fun j h1 h2 => (hb j (by omega)).trans (hF18 j h1 h2)
  replace hF21 := fun j h1 h2 => (hb j (by omega)).trans (hF21 j h1 h2)
  replace hF24 := fun j h1 h2 => (hb j (by omega)).trans (hF24 j h1 h2)
  replace hF27 := fun j h1 h2 => (hb j (by omega)).trans (hF27 j h1 h2)
  replace hF30 := fun j h1 h2 => (hb j (by omega)).trans (hF30 j h1 h2)
  replace hF33 := fun j h1 h2 => (hb j (by omega)).trans (hF33 j h1 h2)
  replace hF36 := fun j h1 h2 => (hb j (by omega)).trans (hF36 j h1 h2)
  replace hB := fun j h1 => (hb j (by omega)).trans (hB j h1)
  have hW : Wr g s 125 M H locs := hW
  have hv40 := (hF39 117 (by omega) (by omega)).trans (EE_9 (by decide))
  refine r_ast (j := 12) (t := 5) (ci := 9) (N := 20) (r := (RX9, TX9, 7)) C hW (by omega) hx1 rfl (by omega) hv40 rfl (by decide) (by decide) (by decide) dX3_init_33 (fun M H locs hx1' hne hW => ?_)
  clear hv40
  replace hx1 := hx1'
  clear hx1'
  replace hO := (hne 19 (by omega)).trans hO
  replace hF3 := fun j h1 h2 => (hne j (by omega)).trans (hF3 j h1 h2)
  replace hF6 := fun j h1 h2 => (hne j (by omega)).trans (hF6 j h1 h2)
  replace hF9 := fun j h1 h2 => (hne j (by omega)).trans (hF9 j h1 h2)
  replace hF12 := fun j h1 h2 => (hne j (by omega)).trans (hF12 j h1 h2)
  replace hF15 := fun j h1 h2 => (hne j (by omega)).trans (hF15 j h1 h2)
  replace hF18 := fun j h1 h2 => (hne j (by omega)).trans (hF18 j h1 h2)
  replace hF21 := fun j h1 h2 => (hne j (by omega)).trans (hF21 j h1 h2)
  replace hF24 := fun j h1 h2 => (hne j (by omega)).trans (hF24 j h1 h2)
  replace hF27 := fun j h1 h2 => (hne j (by omega)).trans (hF27 j h1 h2)
  replace hF30 := fun j h1 h2 => (hne j (by omega)).trans (hF30 j h1 h2)
  replace hF33 := fun j h1 h2 => (hne j (by omega)).trans (hF33 j h1 h2)
  replace hF36 := fun j h1 h2 => (hne j (by omega)).trans (hF36 j h1 h2)
  replace hF39 := fun j h1 h2 => (hne j (by omega)).trans (hF39 j h1 h2)
  replace hB := fun j h1 => (hne j (by omega)).trans (hB j h1)
  refine lv_iinc (v := 13) (lv' := [(1, .int 13), (0, .ref (g.1 + 19))]) C.1.1 C.1.2.1 dX3_init_34 hl (k := 0) rfl (by decide) (by decide) rfl (fun ls hl => ?_)
  refine lv_goto (tgt := 15) C.1.1 C.1.2.1 dX3_init_37 (by decide) ?_
  refine lv_iload_n C.1.1 C.1.2.1 dX3_init_15 rfl (lv_at hl 0 rfl) ?_
  refine lv_bipush (v := 20) C.1.1 C.1.2.1 dX3_init_16 (by decide) ?_
  refine lv_icmp_ge (tgt := 40) C.1.1 C.1.2.1 dX3_init_18 (by decide) (fun hc => absurd hc (by decide)) (fun _ => ?_)
  refine lv_aload_n C.1.1 C.1.2.1 dX3_init_21 rfl (lv_at hl 1 rfl) ?_
  refine r_get (ci := 3) (Cn := RX3) (T := TX3) (N := 3) C hW inG3 (by omega) hO rfl 0 (by decide) (ref := RX3) (g1 169 (Eq.refl _) rfl) rfl rfl dX3_init_22 ?_
  refine lv_iload_n C.1.1 C.1.2.1 dX3_init_25 rfl (lv_at hl 0 rfl) ?_
  refine r_new (ci := 9) (Cn := RX9) (T := TX9) (N := 7) (fs := blk 9) C hW inG9 tyX9 tyX9_ok (g1 166 (Eq.refl _) rfl) (g1 46 (Eq.refl _) rfl) (g1 3 (Eq.refl _) rfl) rfl bk_9 (by decide) (by decide) dX3_init_26 (fun M H hx41 hne hW => ?_)
  replace hO := (hne 19 (by omega)).trans hO
  replace hx1 := (hne 20 (by omega)).trans hx1
  replace hF3 := fun j h1 h2 => (hne j (by omega)).trans (hF3 j h1 h2)
  replace hF6 := fun j h1 h2 => (hne j (by omega)).trans (hF6 j h1 h2)
  replace hF9 := fun j h1 h2 => (hne j (by omega)).trans (hF9 j h1 h2)
  replace hF12 := fun j h1 h2 => (hne j (by omega)).trans (hF12 j h1 h2)
  replace hF15 := fun j h1 h2 => (hne j (by omega)).trans (hF15 j h1 h2)
  replace hF18 := fun j h1 h2 => (hne j (by omega)).trans (hF18 j h1 h2)
  replace hF21 := fun j h1 h2 => (hne j (by omega)).trans (hF21 j h1 h2)
  replace hF24 := fun j h1 h2 => (hne j (by omega)).trans (hF24 j h1 h2)
  replace hF27 := fun j h1 h2 => (hne j (by omega)).trans (hF27 j h1 h2)
  replace hF30 := fun j h1 h2 => (hne j (by omega)).trans (hF30 j h1 h2)
  replace hF33 := fun j h1 h2 => (hne j (by omega)).trans (hF33 j h1 h2)
  replace hF36 := fun j h1 h2 => (hne j (by omega)).trans (hF36 j h1 h2)
  replace hF39 := fun j h1 h2 => (hne j (by omega)).trans (hF39 j h1 h2)
  replace hB := fun j h1 => (hne j (by omega)).trans (hB j h1)
  refine lv_dup C.1.1 C.1.2.1 dX3_init_29 rfl ?_
  replace hx41 : M 125 = .inr (kd 125, blk (kd 125)) := by rw [hx41, show kd 125 = 9 from (by decide)]
  refine r_callI (rest := [.ref (g.1 + 125), .int 13, .ref (g.1 + 20)]) C hKc hW (c_X9_init g l 125 (by decide)) hx41 cd_X9_init (g1 168 (Eq.refl _) rfl) (g1 48 (Eq.refl _) rfl) (g1 3 (Eq.refl _) rfl) rfl (by decide +kernel) ⟨by decide, by decide⟩ ⟨by decide, by decide⟩ hl.1 (Nat.le_of_ble_eq_true rfl) dX3_init_30 (fun M H locs hF42 hb hW => ?_)
  replace hO := (hb 19 (by omega)).trans hO
  replace hx1 := (hb 20 (by omega)).trans hx1
  replace hF3 := fun j h1 h2 => (hb j (by omega)).trans (hF3 j h1 h2)
  replace hF6 := fun j h1 h2 => (hb j (by omega)).trans (hF6 j h1 h2)
  replace hF9 := fun j h1 h2 => (hb j (by omega)).trans (hF9 j h1 h2)
  replace hF12 := fun j h1 h2 => (hb j (by omega)).trans (hF12 j h1 h2)
  replace hF15 := fun j h1 h2 => (hb j (by omega)).trans (hF15 j h1 h2)
  replace hF18 := fun j h1 h2 => (hb j (by omega)).trans (hF18 j h1 h2)
  replace hF21 := fun j h1 h2 => (hb j (by omega)).trans (hF21 j h1 h2)
  replace hF24 := fun j h1 h2 => (hb j (by omega)).trans (hF24 j h1 h2)
  replace hF27 := fun j h1 h2 => (hb j (by omega)).trans (hF27 j h1 h2)
  replace hF30 := fun j h1 h2 => (hb j (by omega)).trans (hF30 j h1 h2)
  replace hF33 := fun j h1 h2 => (hb j (by omega)).trans (hF33 j h1 h2)
  replace hF36 := fun j h1 h2 => (hb j (by omega)).trans (hF36 j h1 h2)
  replace hF39 := fun j h1 h2 => (hb j (by omega)).trans (hF39 j h1 h2)
  replace hB := fun j h1 => (hb j (by omega)).trans (hB j h1)
  have hW : Wr g s 133 M H locs := hW
  have hv43 := (hF42 125 (by omega) (by omega)).trans (EE_9 (by decide))
  refine r_ast (j := 13) (t := 5) (ci := 9) (N := 20) (r := (RX9, TX9, 7)) C hW (by omega) hx1 rfl (by omega) hv43 rfl (by decide) (by decide) (by decide) dX3_init_33 (fun M H locs hx1' hne hW => ?_)
  clear hv43
  replace hx1 := hx1'
  clear hx1'
  replace hO := (hne 19 (by omega)).trans hO
  replace hF3 := fun j h1 h2 => (hne j (by omega)).trans (hF3 j h1 h2)
  replace hF6 := fun j h1 h2 => (hne j (by omega)).trans (hF6 j h1 h2)
  replace hF9 := fun j h1 h2 => (hne j (by omega)).trans (hF9 j h1 h2)
  replace hF12 := fun j h1 h2 => (hne j (by omega)).trans (hF12 j h1 h2)
  replace hF15 := fun j h1 h2 => (hne j (by omega)).trans (hF15 j h1 h2)
  replace hF18 := fun j h1 h2 => (hne j (by omega)).trans (hF18 j h1 h2)
  replace hF21 := fun j h1 h2 => (hne j (by omega)).trans (hF21 j h1 h2)
  replace hF24 := fun j h1 h2 => (hne j (by omega)).trans (hF24 j h1 h2)
  replace hF27 := fun j h1 h2 => (hne j (by omega)).trans (hF27 j h1 h2)
  replace hF30 := fun j h1 h2 => (hne j (by omega)).trans (hF30 j h1 h2)
  replace hF33 := fun j h1 h2 => (hne j (by omega)).trans (hF33 j h1 h2)
  replace hF36 := fun j h1 h2 => (hne j (by omega)).trans (hF36 j h1 h2)
  replace hF39 := fun j h1 h2 => (hne j (by omega)).trans (hF39 j h1 h2)
  replace hF42 := fun j h1 h2 => (hne j (by omega)).trans (hF42 j h1 h2)
  replace hB := fun j h1 => (hne j (by omega)).trans (hB j h1)
  refine lv_iinc (v := 14) (lv' := [(1, .int 14), (0, .ref (g.1 + 19))]) C.1.1 C.1.2.1 dX3_init_34 hl (k := 0) rfl (by decide) (by decide) rfl (fun ls hl => ?_)
  refine lv_goto (tgt := 15) C.1.1 C.1.2.1 dX3_init_37 (by decide) ?_
  refine lv_iload_n C.1.1 C.1.2.1 dX3_init_15 rfl (lv_at hl 0 rfl) ?_
  refine lv_bipush (v := 20) C.1.1 C.1.2.1 dX3_init_16 (by decide) ?_
  refine lv_icmp_ge (tgt := 40) C.1.1 C.1.2.1 dX3_init_18 (by decide) (fun hc => absurd hc (by decide)) (fun _ => ?_)
  refine lv_aload_n C.1.1 C.1.2.1 dX3_init_21 rfl (lv_at hl 1 rfl) ?_
  refine r_get (ci := 3) (Cn := RX3) (T := TX3) (N := 3) C hW inG3 (by omega) hO rfl 0 (by decide) (ref := RX3) (g1 169 (Eq.refl _) rfl) rfl rfl dX3_init_22 ?_
  refine lv_iload_n C.1.1 C.1.2.1 dX3_init_25 rfl (lv_at hl 0 rfl) ?_
  refine r_new (ci := 9) (Cn := RX9) (T := TX9) (N := 7) (fs := blk 9) C hW inG9 tyX9 tyX9_ok (g1 166 (Eq.refl _) rfl) (g1 46 (Eq.refl _) rfl) (g1 3 (Eq.refl _) rfl) rfl bk_9 (by decide) (by decide) dX3_init_26 (fun M H hx44 hne hW => ?_)
  replace hO := (hne 19 (by omega)).trans hO
  replace hx1 := (hne 20 (by omega)).trans hx1
  replace hF3 := fun j h1 h2 => (hne j (by omega)).trans (hF3 j h1 h2)
  replace hF6 := fun j h1 h2 => (hne j (by omega)).trans (hF6 j h1 h2)
  replace hF9 := fun j h1 h2 => (hne j (by omega)).trans (hF9 j h1 h2)
  replace hF12 := fun j h1 h2 => (hne j (by omega)).trans (hF12 j h1 h2)
  replace hF15 := fun j h1 h2 => (hne j (by omega)).trans (hF15 j h1 h2)
  replace hF18 := fun j h1 h2 => (hne j (by omega)).trans (hF18 j h1 h2)
  replace hF21 := fun j h1 h2 => (hne j (by omega)).trans (hF21 j h1 h2)
  replace hF24 := fun j h1 h2 => (hne j (by omega)).trans (hF24 j h1 h2)
  replace hF27 := fun j h1 h2 => (hne j (by omega)).trans (hF27 j h1 h2)
  replace hF30 := fun j h1 h2 => (hne j (by omega)).trans (hF30 j h1 h2)
  replace hF33 := fun j h1 h2 => (hne j (by omega)).trans (hF33 j h1 h2)
  replace hF36 := fun j h1 h2 => (hne j (by omega)).trans (hF36 j h1 h2)
  replace hF39 := fun j h1 h2 => (hne j (by omega)).trans (hF39 j h1 h2)
  replace hF42 := fun j h1 h2 => (hne j (by omega)).trans (hF42 j h1 h2)
  replace hB := fun j h1 => (hne j (by omega)).trans (hB j h1)
  refine lv_dup C.1.1 C.1.2.1 dX3_init_29 rfl ?_
  replace hx44 : M 133 = .inr (kd 133, blk (kd 133)) := by rw [hx44, show kd 133 = 9 from (by decide)]
  refine r_callI (rest := [.ref (g.1 + 133), .int 14, .ref (g.1 + 20)]) C hKc hW (c_X9_init g l 133 (by decide)) hx44 cd_X9_init (g1 168 (Eq.refl _) rfl) (g1 48 (Eq.refl _) rfl) (g1 3 (Eq.refl _) rfl) rfl (by decide +kernel) ⟨by decide, by decide⟩ ⟨by decide, by decide⟩ hl.1 (Nat.le_of_ble_eq_true rfl) dX3_init_30 (fun M H locs hF45 hb hW => ?_)
  replace hO := (hb 19 (by omega)).trans hO
  replace hx1 := (hb 20 (by omega)).trans hx1
  replace hF3 := fun j h1 h2 => (hb j (by omega)).trans (hF3 j h1 h2)
  replace hF6 := fun j h1 h2 => (hb j (by omega)).trans (hF6 j h1 h2)
  replace hF9 := fun j h1 h2 => (hb j (by omega)).trans (hF9 j h1 h2)
  replace hF12 := fun j h1 h2 => (hb j (by omega)).trans (hF12 j h1 h2)
  replace hF15 := fun j h1 h2 => (hb j (by omega)).trans (hF15 j h1 h2)
  replace hF18 := fun j h1 h2 => (hb j (by omega)).trans (hF18 j h1 h2)
  replace hF21 := fun j h1 h2 => (hb j (by omega)).trans (hF21 j h1 h2)
  replace hF24 := fun j h1 h2 => (hb j (by omega)).trans (hF24 j h1 h2)
  replace hF27 := fun j h1 h2 => (hb j (by omega)).trans (hF27 j h1 h2)
  replace hF30 := fun j h1 h2 => (hb j (by omega)).trans (hF30 j h1 h2)
  replace hF33 := fun j h1 h2 => (hb j (by omega)).trans (hF33 j h1 h2)
  replace hF36 := fun j h1 h2 => (hb j (by omega)).trans (hF36 j h1 h2)
  replace hF39 := fun j h1 h2 => (hb j (by omega)).trans (hF39 j h1 h2)
  replace hF42 := fun j h1 h2 => (hb j (by omega)).trans (hF42 j h1 h2)
  replace hB := fun j h1 => (hb j (by omega)).trans (hB j h1)
  have hW : Wr g s 141 M H locs := hW
  have hv46 := (hF45 133 (by omega) (by omega)).trans (EE_9 (by decide))
  refine r_ast (j := 14) (t := 5) (ci := 9) (N := 20) (r := (RX9, TX9, 7)) C hW (by omega) hx1 rfl (by omega) hv46 rfl (by decide) (by decide) (by decide) dX3_init_33 (fun M H locs hx1' hne hW => ?_)
  clear hv46
  replace hx1 := hx1'
  clear hx1'
  replace hO := (hne 19 (by omega)).trans hO
  replace hF3 := fun j h1 h2 => (hne j (by omega)).trans (hF3 j h1 h2)
  replace hF6 := fun j h1 h2 => (hne j (by omega)).trans (hF6 j h1 h2)
  replace hF9 := fun j h1 h2 => (hne j (by omega)).trans (hF9 j h1 h2)
  replace hF12 := fun j h1 h2 => (hne j (by omega)).trans (hF12 j h1 h2)
  replace hF15 := fun j h1 h2 => (hne j (by omega)).trans (hF15 j h1 h2)
  replace hF18 := fun j h1 h2 => (hne j (by omega)).trans (hF18 j h1 h2)
  replace hF21 := fun j h1 h2 => (hne j (by omega)).trans (hF21 j h1 h2)
  replace hF24 := fun j h1 h2 => (hne j (by omega)).trans (hF24 j h1 h2)
  replace hF27 := fun j h1 h2 => (hne j (by omega)).trans (hF27 j h1 h2)
  replace hF30 := fun j h1 h2 => (hne j (by omega)).trans (hF30 j h1 h2)
  replace hF33 := fun j h1 h2 => (hne j (by omega)).trans (hF33 j h1 h2)
  replace hF36 := fun j h1 h2 => (hne j (by omega)).trans (hF36 j h1 h2)
  replace hF39 := fun j h1 h2 => (hne j (by omega)).trans (hF39 j h1 h2)
  replace hF42 := fun j h1 h2 => (hne j (by omega)).trans (hF42 j h1 h2)
  replace hF45 := fun j h1 h2 => (hne j (by omega)).trans (hF45 j h1 h2)
  replace hB := fun j h1 => (hne j (by omega)).trans (hB j h1)
  refine lv_iinc (v := 15) (lv' := [(1, .int 15), (0, .ref (g.1 + 19))]) C.1.1 C.1.2.1 dX3_init_34 hl (k := 0) rfl (by decide) (by decide) rfl (fun ls hl => ?_)
  refine lv_goto (tgt := 15) C.1.1 C.1.2.1 dX3_init_37 (by decide) ?_
  refine lv_iload_n C.1.1 C.1.2.1 dX3_init_15 rfl (lv_at hl 0 rfl) ?_
  refine lv_bipush (v := 20) C.1.1 C.1.2.1 dX3_init_16 (by decide) ?_
  refine lv_icmp_ge (tgt := 40) C.1.1 C.1.2.1 dX3_init_18 (by decide) (fun hc => absurd hc (by decide)) (fun _ => ?_)
  refine lv_aload_n C.1.1 C.1.2.1 dX3_init_21 rfl (lv_at hl 1 rfl) ?_
  refine r_get (ci := 3) (Cn := RX3) (T := TX3) (N := 3) C hW inG3 (by omega) hO rfl 0 (by decide) (ref := RX3) (g1 169 (Eq.refl _) rfl) rfl rfl dX3_init_22 ?_
  refine lv_iload_n C.1.1 C.1.2.1 dX3_init_25 rfl (lv_at hl 0 rfl) ?_
  refine r_new (ci := 9) (Cn := RX9) (T := TX9) (N := 7) (fs := blk 9) C hW inG9 tyX9 tyX9_ok (g1 166 (Eq.refl _) rfl) (g1 46 (Eq.refl _) rfl) (g1 3 (Eq.refl _) rfl) rfl bk_9 (by decide) (by decide) dX3_init_26 (fun M H hx47 hne hW => ?_)
  replace hO := (hne 19 (by omega)).trans hO
  replace hx1 := (hne 20 (by omega)).trans hx1
  replace hF3 := fun j h1 h2 => (hne j (by omega)).trans (hF3 j h1 h2)
  replace hF6 := fun j h1 h2 => (hne j (by omega)).trans (hF6 j h1 h2)
  replace hF9 := fun j h1 h2 => (hne j (by omega)).trans (hF9 j h1 h2)
  replace hF12 := fun j h1 h2 => (hne j (by omega)).trans (hF12 j h1 h2)
  replace hF15 := fun j h1 h2 => (hne j (by omega)).trans (hF15 j h1 h2)
  replace hF18 := fun j h1 h2 => (hne j (by omega)).trans (hF18 j h1 h2)
  replace hF21 := fun j h1 h2 => (hne j (by omega)).trans (hF21 j h1 h2)
  replace hF24 := fun j h1 h2 => (hne j (by omega)).trans (hF24 j h1 h2)
  replace hF27 := fun j h1 h2 => (hne j (by omega)).trans (hF27 j h1 h2)
  replace hF30 := fun j h1 h2 => (hne j (by omega)).trans (hF30 j h1 h2)
  replace hF33 := fun j h1 h2 => (hne j (by omega)).trans (hF33 j h1 h2)
  replace hF36 := fun j h1 h2 => (hne j (by omega)).trans (hF36 j h1 h2)
  replace hF39 := fun j h1 h2 => (hne j (by omega)).trans (hF39 j h1 h2)
  replace hF42 := fun j h1 h2 => (hne j (by omega)).trans (hF42 j h1 h2)
  replace hF45 := fun j h1 h2 => (hne j (by omega)).trans (hF45 j h1 h2)
  replace hB := fun j h1 => (hne j (by omega)).trans (hB j h1)
  refine lv_dup C.1.1 C.1.2.1 dX3_init_29 rfl ?_
  replace hx47 : M 141 = .inr (kd 141, blk (kd 141)) := by rw [hx47, show kd 141 = 9 from (by decide)]
  refine r_callI (rest := [.ref (g.1 + 141), .int 15, .ref (g.1 + 20)]) C hKc hW (c_X9_init g l 141 (by decide)) hx47 cd_X9_init (g1 168 (Eq.refl _) rfl) (g1 48 (Eq.refl _) rfl) (g1 3 (Eq.refl _) rfl) rfl (by decide +kernel) ⟨by decide, by decide⟩ ⟨by decide, by decide⟩ hl.1 (Nat.le_of_ble_eq_true rfl) dX3_init_30 (fun M H locs hF48 hb hW => ?_)
  replace hO := (hb 19 (by omega)).trans hO
  replace hx1 := (hb 20 (by omega)).trans hx1
  replace hF3 := fun j h1 h2 => (hb j (by omega)).trans (hF3 j h1 h2)
  replace hF6 := fun j h1 h2 => (hb j (by omega)).trans (hF6 j h1 h2)
  replace hF9 := fun j h1 h2 => (hb j (by omega)).trans (hF9 j h1 h2)
  replace hF12 := fun j h1 h2 => (hb j (by omega)).trans (hF12 j h1 h2)
  replace hF15 := fun j h1 h2 => (hb j (by omega)).trans (hF15 j h1 h2)
  replace hF18 := fun j h1 h2 => (hb j (by omega)).trans (hF18 j h1 h2)
  replace hF21 := fun j h1 h2 => (hb j (by omega)).trans (hF21 j h1 h2)
  replace hF24 := fun j h1 h2 => (hb j (by omega)).trans (hF24 j h1 h2)
  replace hF27 := fun j h1 h2 => (hb j (by omega)).trans (hF27 j h1 h2)
  replace hF30 := fun j h1 h2 => (hb j (by omega)).trans (hF30 j h1 h2)
  replace hF33 := fun j h1 h2 => (hb j (by omega)).trans (hF33 j h1 h2)
  replace hF36 := fun j h1 h2 => (hb j (by omega)).trans (hF36 j h1 h2)
  replace hF39 := fun j h1 h2 => (hb j (by omega)).trans (hF39 j h1 h2)
  replace hF42 := fun j h1 h2 => (hb j (by omega)).trans (hF42 j h1 h2)
  replace hF45 := fun j h1 h2 => (hb j (by omega)).trans (hF45 j h1 h2)
  replace hB := fun j h1 => (hb j (by omega)).trans (hB j h1)
  have hW : Wr g s 149 M H locs := hW
  have hv49 := (hF48 141 (by omega) (by omega)).trans (EE_9 (by decide))
  refine r_ast (j := 15) (t := 5) (ci := 9) (N := 20) (r := (RX9, TX9, 7)) C hW (by omega) hx1 rfl (by omega) hv49 rfl (by decide) (by decide) (by decide) dX3_init_33 (fun M H locs hx1' hne hW => ?_)
  clear hv49
  replace hx1 := hx1'
  clear hx1'
  replace hO := (hne 19 (by omega)).trans hO
  replace hF3 := fun j h1 h2 => (hne j (by omega)).trans (hF3 j h1 h2)
  replace hF6 := fun j h1 h2 => (hne j (by omega)).trans (hF6 j h1 h2)
  replace hF9 := fun j h1 h2 => (hne j (by omega)).trans (hF9 j h1 h2)
  replace hF12 := fun j h1 h2 => (hne j (by omega)).trans (hF12 j h1 h2)
  replace hF15 := fun j h1 h2 => (hne j (by omega)).trans (hF15 j h1 h2)
  replace hF18 := fun j h1 h2 => (hne j (by omega)).trans (hF18 j h1 h2)
  replace hF21 := fun j h1 h2 => (hne j (by omega)).trans (hF21 j h1 h2)
  replace hF24 := fun j h1 h2 => (hne j (by omega)).trans (hF24 j h1 h2)
  replace hF27 := fun j h1 h2 => (hne j (by omega)).trans (hF27 j h1 h2)
  replace hF30 := fun j h1 h2 => (hne j (by omega)).trans (hF30 j h1 h2)
  replace hF33 := fun j h1 h2 => (hne j (by omega)).trans (hF33 j h1 h2)
  replace hF36 := fun j h1 h2 => (hne j (by omega)).trans (hF36 j h1 h2)
  replace hF39 := fun j h1 h2 => (hne j (by omega)).trans (hF39 j h1 h2)
  replace hF42 := fun j h1 h2 => (hne j (by omega)).trans (hF42 j h1 h2)
  replace hF45 := fun j h1 h2 => (hne j (by omega)).trans (hF45 j h1 h2)
  replace hF48 := fun j h1 h2 => (hne j (by omega)).trans (hF48 j h1 h2)
  replace hB := fun j h1 => (hne j (by omega)).trans (hB j h1)
  refine lv_iinc (v := 16) (lv' := [(1, .int 16), (0, .ref (g.1 + 19))]) C.1.1 C.1.2.1 dX3_init_34 hl (k := 0) rfl (by decide) (by decide) rfl (fun ls hl => ?_)
  refine lv_goto (tgt := 15) C.1.1 C.1.2.1 dX3_init_37 (by decide) ?_
  refine lv_iload_n C.1.1 C.1.2.1 dX3_init_15 rfl (lv_at hl 0 rfl) ?_
  refine lv_bipush (v := 20) C.1.1 C.1.2.1 dX3_init_16 (by decide) ?_
  refine lv_icmp_ge (tgt := 40) C.1.1 C.1.2.1 dX3_init_18 (by decide) (fun hc => absurd hc (by decide)) (fun _ => ?_)
  refine lv_aload_n C.1.1 C.1.2.1 dX3_init_21 rfl (lv_at hl 1 rfl) ?_
  refine r_get (ci := 3) (Cn := RX3) (T := TX3) (N := 3) C hW inG3 (by omega) hO rfl 0 (by decide) (ref := RX3) (g1 169 (Eq.refl _) rfl) rfl rfl dX3_init_22 ?_
  refine lv_iload_n C.1.1 C.1.2.1 dX3_init_25 rfl (lv_at hl 0 rfl) ?_
  refine r_new (ci := 9) (Cn := RX9) (T := TX9) (N := 7) (fs := blk 9) C hW inG9 tyX9 tyX9_ok (g1 166 (Eq.refl _) rfl) (g1 46 (Eq.refl _) rfl) (g1 3 (Eq.refl _) rfl) rfl bk_9 (by decide) (by decide) dX3_init_26 (fun M H hx50 hne hW => ?_)
  replace hO := (hne 19 (by omega)).trans hO
  replace hx1 := (hne 20 (by omega)).trans hx1
  replace hF3 := fun j h1 h2 => (hne j (by omega)).trans (hF3 j h1 h2)
  replace hF6 := fun j h1 h2 => (hne j (by omega)).trans (hF6 j h1 h2)
  replace hF9 := fun j h1 h2 => (hne j (by omega)).trans (hF9 j h1 h2)
  replace hF12 := fun j h1 h2 => (hne j (by omega)).trans (hF12 j h1 h2)
  replace hF15 := fun j h1 h2 => (hne j (by omega)).trans (hF15 j h1 h2)
  replace hF18 := fun j h1 h2 => (hne j (by omega)).trans (hF18 j h1 h2)
  replace hF21 := fun j h1 h2 => (hne j (by omega)).trans (hF21 j h1 h2)
  replace hF24 := fun j h1 h2 => (hne j (by omega)).trans (hF24 j h1 h2)
  replace hF27 := fun j h1 h2 => (hne j (by omega)).trans (hF27 j h1 h2)
  replace hF30 := fun j h1 h2 => (hne j (by omega)).trans (hF30 j h1 h2)
  replace hF33 := fun j h1 h2 => (hne j (by omega)).trans (hF33 j h1 h2)
  replace hF36 := fun j h1 h2 => (hne j (by omega)).trans (hF36 j h1 h2)
  replace hF39 := fun j h1 h2 => (hne j (by omega)).trans (hF39 j h1 h2)
  replace hF42 := fun j h1 h2 => (hne j (by omega)).trans (hF42 j h1 h2)
  replace hF45 := fun j h1 h2 => (hne j (by omega)).trans (hF45 j h1 h2)
  replace hF48 := fun j h1 h2 => (hne j (by omega)).trans (hF48 j h1 h2)
  replace hB := fun j h1 => (hne j (by omega)).trans (hB j h1)
  refine lv_dup C.1.1 C.1.2.1 dX3_init_29 rfl ?_
  replace hx50 : M 149 = .inr (kd 149, blk (kd 149)) := by rw [hx50, show kd 149 = 9 from (by decide)]
  refine r_callI (rest := [.ref (g.1 + 149), .int 16, .ref (g.1 + 20)]) C hKc hW (c_X9_init g l 149 (by decide)) hx50 cd_X9_init (g1 168 (Eq.refl _) rfl) (g1 48 (Eq.refl _) rfl) (g1 3 (Eq.refl _) rfl) rfl (by decide +kernel) ⟨by decide, by decide⟩ ⟨by decide, by decide⟩ hl.1 (Nat.le_of_ble_eq_true rfl) dX3_init_30 (fun M H locs hF51 hb hW => ?_)
  replace hO := (hb 19 (by omega)).trans hO
  replace hx1 := (hb 20 (by omega)).trans hx1
  replace hF3 := fun j h1 h2 => (hb j (by omega)).trans (hF3 j h1 h2)
  replace hF6 := fun j h1 h2 => (hb j (by omega)).trans (hF6 j h1 h2)
  replace hF9 := fun j h1 h2 => (hb j (by omega)).trans (hF9 j h1 h2)
  replace hF12 := fun j h1 h2 => (hb j (by omega)).trans (hF12 j h1 h2)
  replace hF15 := fun j h1 h2 => (hb j (by omega)).trans (hF15 j h1 h2)
  replace hF18 := fun j h1 h2 => (hb j (by omega)).trans (hF18 j h1 h2)
  replace hF21 := fun j h1 h2 => (hb j (by omega)).trans (hF21 j h1 h2)
  replace hF24 := fun j h1 h2 => (hb j (by omega)).trans (hF24 j h1 h2)
  replace hF27 := fun j h1 h2 => (hb j (by omega)).trans (hF27 j h1 h2)
  replace hF30 := fun j h1 h2 => (hb j (by omega)).trans (hF30 j h1 h2)
  replace hF33 := fun j h1 h2 => (hb j (by omega)).trans (hF33 j h1 h2)
  replace hF36 := fun j h1 h2 => (hb j (by omega)).trans (hF36 j h1 h2)
  replace hF39 := fun j h1 h2 => (hb j (by omega)).trans (hF39 j h1 h2)
  replace hF42 := fun j h1 h2 => (hb j (by omega)).trans (hF42 j h1 h2)
  replace hF45 := fun j h1 h2 => (hb j (by omega)).trans (hF45 j h1 h2)
  replace hF48 := fun j h1 h2 => (hb j (by omega)).trans (hF48 j h1 h2)
  replace hB := fun j h1 => (hb j (by omega)).trans (hB j h1)
  have hW : Wr g s 157 M H locs := hW
  have hv52 := (hF51 149 (by omega) (by omega)).trans (EE_9 (by decide))
  refine r_ast (j := 16) (t := 5) (ci := 9) (N := 20) (r := (RX9, TX9, 7)) C hW (by omega) hx1 rfl (by omega) hv52 rfl (by decide) (by decide) (by decide) dX3_init_33 (fun M H locs hx1' hne hW => ?_)
  clear hv52
  replace hx1 := hx1'
  clear hx1'
  replace hO := (hne 19 (by omega)).trans hO
  replace hF3 := fun j h1 h2 => (hne j (by omega)).trans (hF3 j h1 h2)
  replace hF6 := fun j h1 h2 => (hne j (by omega)).trans (hF6 j h1 h2)
  replace hF9 := fun j h1 h2 => (hne j (by omega)).trans (hF9 j h1 h2)
  replace hF12 := fun j h1 h2 => (hne j (by omega)).trans (hF12 j h1 h2)
  replace hF15 := fun j h1 h2 => (hne j (by omega)).trans (hF15 j h1 h2)
  replace hF18 := fun j h1 h2 => (hne j (by omega)).trans (hF18 j h1 h2)
  replace hF21 := fun j h1 h2 => (hne j (by omega)).trans (hF21 j h1 h2)
  replace hF24 := fun j h1 h2 => (hne j (by omega)).trans (hF24 j h1 h2)
  replace hF27 := fun j h1 h2 => (hne j (by omega)).trans (hF27 j h1 h2)
  replace hF30 := fun j h1 h2 => (hne j (by omega)).trans (hF30 j h1 h2)
  replace hF33 := fun j h1 h2 => (hne j (by omega)).trans (hF33 j h1 h2)
  replace hF36 := fun j h1 h2 => (hne j (by omega)).trans (hF36 j h1 h2)
  replace hF39 := fun j h1 h2 => (hne j (by omega)).trans (hF39 j h1 h2)
  replace hF42 := fun j h1 h2 => (hne j (by omega)).trans (hF42 j h1 h2)
  replace hF45 := fun j h1 h2 => (hne j (by omega)).trans (hF45 j h1 h2)
  replace hF48 := fun j h1 h2 => (hne j (by omega)).trans (hF48 j h1 h2)
  replace hF51 := fun j h1 h2 => (hne j (by omega)).trans (hF51 j h1 h2)
  replace hB := fun j h1 => (hne j (by omega)).trans (hB j h1)
  refine lv_iinc (v := 17) (lv' := [(1, .int 17), (0, .ref (g.1 + 19))]) C.1.1 C.1.2.1 dX3_init_34 hl (k := 0) rfl (by decide) (by decide) rfl (fun ls hl => ?_)
  refine lv_goto (tgt := 15) C.1.1 C.1.2.1 dX3_init_37 (by decide) ?_
  refine lv_iload_n C.1.1 C.1.2.1 dX3_init_15 rfl (lv_at hl 0 rfl) ?_
  refine lv_bipush (v := 20) C.1.1 C.1.2.1 dX3_init_16 (by decide) ?_
  refine lv_icmp_ge (tgt := 40) C.1.1 C.1.2.1 dX3_init_18 (by decide) (fun hc => absurd hc (by decide)) (fun _ => ?_)
  refine lv_aload_n C.1.1 C.1.2.1 dX3_init_21 rfl (lv_at hl 1 rfl) ?_
  refine r_get (ci := 3) (Cn := RX3) (T := TX3) (N := 3) C hW inG3 (by omega) hO rfl 0 (by decide) (ref := RX3) (g1 169 (Eq.refl _) rfl) rfl rfl dX3_init_22 ?_
  refine lv_iload_n C.1.1 C.1.2.1 dX3_init_25 rfl (lv_at hl 0 rfl) ?_
  refine r_new (ci := 9) (Cn := RX9) (T := TX9) (N := 7) (fs := blk 9) C hW inG9 tyX9 tyX9_ok (g1 166 (Eq.refl _) rfl) (g1 46 (Eq.refl _) rfl) (g1 3 (Eq.refl _) rfl) rfl bk_9 (by decide) (by decide) dX3_init_26 (fun M H hx53 hne hW => ?_)
  replace hO := (hne 19 (by omega)).trans hO
  replace hx1 := (hne 20 (by omega)).trans hx1
  replace hF3 := fun j h1 h2 => (hne j (by omega)).trans (hF3 j h1 h2)
  replace hF6 := fun j h1 h2 => (hne j (by omega)).trans (hF6 j h1 h2)
  replace hF9 := fun j h1 h2 => (hne j (by omega)).trans (hF9 j h1 h2)
  replace hF12 := fun j h1 h2 => (hne j (by omega)).trans (hF12 j h1 h2)
  replace hF15 := fun j h1 h2 => (hne j (by omega)).trans (hF15 j h1 h2)
  replace hF18 := fun j h1 h2 => (hne j (by omega)).trans (hF18 j h1 h2)
  replace hF21 := fun j h1 h2 => (hne j (by omega)).trans (hF21 j h1 h2)
  replace hF24 := fun j h1 h2 => (hne j (by omega)).trans (hF24 j h1 h2)
  replace hF27 := fun j h1 h2 => (hne j (by omega)).trans (hF27 j h1 h2)
  replace hF30 := fun j h1 h2 => (hne j (by omega)).trans (hF30 j h1 h2)
  replace hF33 := fun j h1 h2 => (hne j (by omega)).trans (hF33 j h1 h2)
  replace hF36 := fun j h1 h2 => (hne j (by omega)).trans (hF36 j h1 h2)
  replace hF39 := fun j h1 h2 => (hne j (by omega)).trans (hF39 j h1 h2)
  replace hF42 := fun j h1 h2 => (hne j (by omega)).trans (hF42 j h1 h2)
  replace hF45 := fun j h1 h2 => (hne j (by omega)).trans (hF45 j h1 h2)
  replace hF48 := fun j h1 h2 => (hne j (by omega)).trans (hF48 j h1 h2)
  replace hF51 := fun j h1 h2 => (hne j (by omega)).trans (hF51 j h1 h2)
  replace hB := fun j h1 => (hne j (by omega)).trans (hB j h1)
  refine lv_dup C.1.1 C.1.2.1 dX3_init_29 rfl ?_
  replace hx53 : M 157 = .inr (kd 157, blk (kd 157)) := by rw [hx53, show kd 157 = 9 from (by decide)]
  refine r_callI (rest := [.ref (g.1 + 157), .int 17, .ref (g.1 + 20)]) C hKc hW (c_X9_init g l 157 (by decide)) hx53 cd_X9_init (g1 168 (Eq.refl _) rfl) (g1 48 (Eq.refl _) rfl) (g1 3 (Eq.refl _) rfl) rfl (by decide +kernel) ⟨by decide, by decide⟩ ⟨by decide, by decide⟩ hl.1 (Nat.le_of_ble_eq_true rfl) dX3_init_30 (fun M H locs hF54 hb hW => ?_)
  replace hO := (hb 19 (by omega)).trans hO
  replace hx1 := (hb 20 (by omega)).trans hx1
  replace hF3 := fun j h1 h2 => (hb j (by omega)).trans (hF3 j h1 h2)
  replace hF6 := fun j h1 h2 => (hb j (by omega)).trans (hF6 j h1 h2)
  replace hF9 := fun j h1 h2 => (hb j (by omega)).trans (hF9 j h1 h2)
  replace hF12 := fun j h1 h2 => (hb j (by omega)).trans (hF12 j h1 h2)
  replace hF15 := fun j h1 h2 => (hb j (by omega)).trans (hF15 j h1 h2)
  replace hF18 := fun j h1 h2 => (hb j (by omega)).trans (hF18 j h1 h2)
  replace hF21 := fun j h1 h2 => (hb j (by omega)).trans (hF21 j h1 h2)
  replace hF24 := fun j h1 h2 => (hb j (by omega)).trans (hF24 j h1 h2)
  replace hF27 := fun j h1 h2 => (hb j (by omega)).trans (hF27 j h1 h2)
  replace hF30 := fun j h1 h2 => (hb j (by omega)).trans (hF30 j h1 h2)
  replace hF33 := fun j h1 h2 => (hb j (by omega)).trans (hF33 j h1 h2)
  replace hF36 := fun j h1 h2 => (hb j (by omega)).trans (hF36 j h1 h2)
  replace hF39 := fun j h1 h2 => (hb j (by omega)).trans (hF39 j h1 h2)
  replace hF42 := fun j h1 h2 => (hb j (by omega)).trans (hF42 j h1 h2)
  replace hF45 := fun j h1 h2 => (hb j (by omega)).trans (hF45 j h1 h2)
  replace hF48 := fun j h1 h2 => (hb j (by omega)).trans (hF48 j h1 h2)
  replace hF51 := fun j h1 h2 => (hb j (by omega)).trans (hF51 j h1 h2)
  replace hB := fun j h1 => (hb j (by omega)).trans (hB j h1)
  have hW : Wr g s 165 M H locs := hW
  have hv55 := (hF54 157 (by omega) (by omega)).trans (EE_9 (by decide))
  refine r_ast (j := 17) (t := 5) (ci := 9) (N := 20) (r := (RX9, TX9, 7)) C hW (by omega) hx1 rfl (by omega) hv55 rfl (by decide) (by decide) (by decide) dX3_init_33 (fun M H locs hx1' hne hW => ?_)
  clear hv55
  replace hx1 := hx1'
  clear hx1'
  replace hO := (hne 19 (by omega)).trans hO
  replace hF3 := fun j h1 h2 => (hne j (by omega)).trans (hF3 j h1 h2)
  replace hF6 := fun j h1 h2 => (hne j (by omega)).trans (hF6 j h1 h2)
  replace hF9 := fun j h1 h2 => (hne j (by omega)).trans (hF9 j h1 h2)
  replace hF12 := fun j h1 h2 => (hne j (by omega)).trans (hF12 j h1 h2)
  replace hF15 := fun j h1 h2 => (hne j (by omega)).trans (hF15 j h1 h2)
  replace hF18 := fun j h1 h2 => (hne j (by omega)).trans (hF18 j h1 h2)
  replace hF21 := fun j h1 h2 => (hne j (by omega)).trans (hF21 j h1 h2)
  replace hF24 := fun j h1 h2 => (hne j (by omega)).trans (hF24 j h1 h2)
  replace hF27 := fun j h1 h2 => (hne j (by omega)).trans (hF27 j h1 h2)
  replace hF30 := fun j h1 h2 => (hne j (by omega)).trans (hF30 j h1 h2)
  replace hF33 := fun j h1 h2 => (hne j (by omega)).trans (hF33 j h1 h2)
  replace hF36 := fun j h1 h2 => (hne j (by omega)).trans (hF36 j h1 h2)
  replace hF39 := fun j h1 h2 => (hne j (by omega)).trans (hF39 j h1 h2)
  replace hF42 := fun j h1 h2 => (hne j (by omega)).trans (hF42 j h1 h2)
  replace hF45 := fun j h1 h2 => (hne j (by omega)).trans (hF45 j h1 h2)
  replace hF48 := fun j h1 h2 => (hne j (by omega)).trans (hF48 j h1 h2)
  replace hF51 := fun j h1 h2 => (hne j (by omega)).trans (hF51 j h1 h2)
  replace hF54 := fun j h1 h2 => (hne j (by omega)).trans (hF54 j h1 h2)
  replace hB := fun j h1 => (hne j (by omega)).trans (hB j h1)
  refine lv_iinc (v := 18) (lv' := [(1, .int 18), (0, .ref (g.1 + 19))]) C.1.1 C.1.2.1 dX3_init_34 hl (k := 0) rfl (by decide) (by decide) rfl (fun ls hl => ?_)
  refine lv_goto (tgt := 15) C.1.1 C.1.2.1 dX3_init_37 (by decide) ?_
  refine lv_iload_n C.1.1 C.1.2.1 dX3_init_15 rfl (lv_at hl 0 rfl) ?_
  refine lv_bipush (v := 20) C.1.1 C.1.2.1 dX3_init_16 (by decide) ?_
  refine lv_icmp_ge (tgt := 40) C.1.1 C.1.2.1 dX3_init_18 (by decide) (fun hc => absurd hc (by decide)) (fun _ => ?_)
  refine lv_aload_n C.1.1 C.1.2.1 dX3_init_21 rfl (lv_at hl 1 rfl) ?_
  refine r_get (ci := 3) (Cn := RX3) (T := TX3) (N := 3) C hW inG3 (by omega) hO rfl 0 (by decide) (ref := RX3) (g1 169 (Eq.refl _) rfl) rfl rfl dX3_init_22 ?_
  refine lv_iload_n C.1.1 C.1.2.1 dX3_init_25 rfl (lv_at hl 0 rfl) ?_
  refine r_new (ci := 9) (Cn := RX9) (T := TX9) (N := 7) (fs := blk 9) C hW inG9 tyX9 tyX9_ok (g1 166 (Eq.refl _) rfl) (g1 46 (Eq.refl _) rfl) (g1 3 (Eq.refl _) rfl) rfl bk_9 (by decide) (by decide) dX3_init_26 (fun M H hx56 hne hW => ?_)
  replace hO := (hne 19 (by omega)).trans hO
  replace hx1 := (hne 20 (by omega)).trans hx1
  replace hF3 := fun j h1 h2 => (hne j (by omega)).trans (hF3 j h1 h2)
  replace hF6 := fun j h1 h2 => (hne j (by omega)).trans (hF6 j h1 h2)
  replace hF9 := fun j h1 h2 => (hne j (by omega)).trans (hF9 j h1 h2)
  replace hF12 := fun j h1 h2 => (hne j (by omega)).trans (hF12 j h1 h2)
  replace hF15 := fun j h1 h2 => (hne j (by omega)).trans (hF15 j h1 h2)
  replace hF18 := fun j h1 h2 => (hne j (by omega)).trans (hF18 j h1 h2)
  replace hF21 := fun j h1 h2 => (hne j (by omega)).trans (hF21 j h1 h2)
  replace hF24 := fun j h1 h2 => (hne j (by omega)).trans (hF24 j h1 h2)
  replace hF27 := fun j h1 h2 => (hne j (by omega)).trans (hF27 j h1 h2)
  replace hF30 := fun j h1 h2 => (hne j (by omega)).trans (hF30 j h1 h2)
  replace hF33 := fun j h1 h2 => (hne j (by omega)).trans (hF33 j h1 h2)
  replace hF36 := fun j h1 h2 => (hne j (by omega)).trans (hF36 j h1 h2)
  replace hF39 := fun j h1 h2 => (hne j (by omega)).trans (hF39 j h1 h2)
  replace hF42 := fun j h1 h2 => (hne j (by omega)).trans (hF42 j h1 h2)
  replace hF45 := fun j h1 h2 => (hne j (by omega)).trans (hF45 j h1 h2)
  replace hF48 := fun j h1 h2 => (hne j (by omega)).trans (hF48 j h1 h2)
  replace hF51 := fun j h1 h2 => (hne j (by omega)).trans (hF51 j h1 h2)
  replace hF54 := fun j h1 h2 => (hne j (by omega)).trans (hF54 j h1 h2)
  replace hB := fun j h1 => (hne j (by omega)).trans (hB j h1)
  refine lv_dup C.1.1 C.1.2.1 dX3_init_29 rfl ?_
  replace hx56 : M 165 = .inr (kd 165, blk (kd 165)) := by rw [hx56, show kd 165 = 9 from (by decide)]
  refine r_callI (rest := [.ref (g.1 + 165), .int 18, .ref (g.1 + 20)]) C hKc hW (c_X9_init g l 165 (by decide)) hx56 cd_X9_init (g1 168 (Eq.refl _) rfl) (g1 48 (Eq.refl _) rfl) (g1 3 (Eq.refl _) rfl) rfl (by decide +kernel) ⟨by decide, by decide⟩ ⟨by decide, by decide⟩ hl.1 (Nat.le_of_ble_eq_true rfl) dX3_init_30 (fun M H locs hF57 hb hW => ?_)
  replace hO := (hb 19 (by omega)).trans hO
  replace hx1 := (hb 20 (by omega)).trans hx1
  replace hF3 := fun j h1 h2 => (hb j (by omega)).trans (hF3 j h1 h2)
  replace hF6 := fun j h1 h2 => (hb j (by omega)).trans (hF6 j h1 h2)
  replace hF9 := fun j h1 h2 => (hb j (by omega)).trans (hF9 j h1 h2)
  replace hF12 := fun j h1 h2 => (hb j (by omega)).trans (hF12 j h1 h2)
  replace hF15 := fun j h1 h2 => (hb j (by omega)).trans (hF15 j h1 h2)
  replace hF18 := fun j h1 h2 => (hb j (by omega)).trans (hF18 j h1 h2)
  replace hF21 := fun j h1 h2 => (hb j (by omega)).trans (hF21 j h1 h2)
  replace hF24 := fun j h1 h2 => (hb j (by omega)).trans (hF24 j h1 h2)
  replace hF27 := fun j h1 h2 => (hb j (by omega)).trans (hF27 j h1 h2)
  replace hF30 := fun j h1 h2 => (hb j (by omega)).trans (hF30 j h1 h2)
  replace hF33 := fun j h1 h2 => (hb j (by omega)).trans (hF33 j h1 h2)
  replace hF36 := fun j h1 h2 => (hb j (by omega)).trans (hF36 j h1 h2)
  replace hF39 := fun j h1 h2 => (hb j (by omega)).trans (hF39 j h1 h2)
  replace hF42 := fun j h1 h2 => (hb j (by omega)).trans (hF42 j h1 h2)
  replace hF45 := fun j h1 h2 => (hb j (by omega)).trans (hF45 j h1 h2)
  replace hF48 := fun j h1 h2 => (hb j (by omega)).trans (hF48 j h1 h2)
  replace hF51 := fun j h1 h2 => (hb j (by omega)).trans (hF51 j h1 h2)
  replace hF54 := fun j h1 h2 => (hb j (by omega)).trans (hF54 j h1 h2)
  replace hB := fun j h1 => (hb j (by omega)).trans (hB j h1)
  have hW : Wr g s 173 M H locs := hW
  have hv58 := (hF57 165 (by omega) (by omega)).trans (EE_9 (by decide))
  refine r_ast (j := 18) (t := 5) (ci := 9) (N := 20) (r := (RX9, TX9, 7)) C hW (by omega) hx1 rfl (by omega) hv58 rfl (by decide) (by decide) (by decide) dX3_init_33 (fun M H locs hx1' hne hW => ?_)
  clear hv58
  replace hx1 := hx1'
  clear hx1'
  replace hO := (hne 19 (by omega)).trans hO
  replace hF3 := fun j h1 h2 => (hne j (by omega)).trans (hF3 j h1 h2)
  replace hF6 := fun j h1 h2 => (hne j (by omega)).trans (hF6 j h1 h2)
  replace hF9 := fun j h1 h2 => (hne j (by omega)).trans (hF9 j h1 h2)
  replace hF12 := fun j h1 h2 => (hne j (by omega)).trans (hF12 j h1 h2)
  replace hF15 := fun j h1 h2 => (hne j (by omega)).trans (hF15 j h1 h2)
  replace hF18 := fun j h1 h2 => (hne j (by omega)).trans (hF18 j h1 h2)
  replace hF21 := fun j h1 h2 => (hne j (by omega)).trans (hF21 j h1 h2)
  replace hF24 := fun j h1 h2 => (hne j (by omega)).trans (hF24 j h1 h2)
  replace hF27 := fun j h1 h2 => (hne j (by omega)).trans (hF27 j h1 h2)
  replace hF30 := fun j h1 h2 => (hne j (by omega)).trans (hF30 j h1 h2)
  replace hF33 := fun j h1 h2 => (hne j (by omega)).trans (hF33 j h1 h2)
  replace hF36 := fun j h1 h2 => (hne j (by omega)).trans (hF36 j h1 h2)
  replace hF39 := fun j h1 h2 => (hne j (by omega)).trans (hF39 j h1 h2)
  replace hF42 := fun j h1 h2 => (hne j (by omega)).trans (hF42 j h1 h2)
  replace hF45 := fun j h1 h2 => (hne j (by omega)).trans (hF45 j h1 h2)
  replace hF48 := fun j h1 h2 => (hne j (by omega)).trans (hF48 j h1 h2)
  replace hF51 := fun j h1 h2 => (hne j (by omega)).trans (hF51 j h1 h2)
  replace hF54 := fun j h1 h2 => (hne j (by omega)).trans (hF54 j h1 h2)
  replace hF57 := fun j h1 h2 => (hne j (by omega)).trans (hF57 j h1 h2)
  replace hB := fun j h1 => (hne j (by omega)).trans (hB j h1)
  refine lv_iinc (v := 19) (lv' := [(1, .int 19), (0, .ref (g.1 + 19))]) C.1.1 C.1.2.1 dX3_init_34 hl (k := 0) rfl (by decide) (by decide) rfl (fun ls hl => ?_)
  refine lv_goto (tgt := 15) C.1.1 C.1.2.1 dX3_init_37 (by decide) ?_
  refine lv_iload_n C.1.1 C.1.2.1 dX3_init_15 rfl (lv_at hl 0 rfl) ?_
  refine lv_bipush (v := 20) C.1.1 C.1.2.1 dX3_init_16 (by decide) ?_
  refine lv_icmp_ge (tgt := 40) C.1.1 C.1.2.1 dX3_init_18 (by decide) (fun hc => absurd hc (by decide)) (fun _ => ?_)
  refine lv_aload_n C.1.1 C.1.2.1 dX3_init_21 rfl (lv_at hl 1 rfl) ?_
  refine r_get (ci := 3) (Cn := RX3) (T := TX3) (N := 3) C hW inG3 (by omega) hO rfl 0 (by decide) (ref := RX3) (g1 169 (Eq.refl _) rfl) rfl rfl dX3_init_22 ?_
  refine lv_iload_n C.1.1 C.1.2.1 dX3_init_25 rfl (lv_at hl 0 rfl) ?_
  refine r_new (ci := 9) (Cn := RX9) (T := TX9) (N := 7) (fs := blk 9) C hW inG9 tyX9 tyX9_ok (g1 166 (Eq.refl _) rfl) (g1 46 (Eq.refl _) rfl) (g1 3 (Eq.refl _) rfl) rfl bk_9 (by decide) (by decide) dX3_init_26 (fun M H hx59 hne hW => ?_)
  replace hO := (hne 19 (by omega)).trans hO
  replace hx1 := (hne 20 (by omega)).trans hx1
  replace hF3 := fun j h1 h2 => (hne j (by omega)).trans (hF3 j h1 h2)
  replace hF6 := fun j h1 h2 => (hne j (by omega)).trans (hF6 j h1 h2)
  replace hF9 := fun j h1 h2 => (hne j (by omega)).trans (hF9 j h1 h2)
  replace hF12 := fun j h1 h2 => (hne j (by omega)).trans (hF12 j h1 h2)
  replace hF15 := fun j h1 h2 => (hne j (by omega)).trans (hF15 j h1 h2)
  replace hF18 := fun j h1 h2 => (hne j (by omega)).trans (hF18 j h1 h2)
  replace hF21 := fun j h1 h2 => (hne j (by omega)).trans (hF21 j h1 h2)
  replace hF24 := fun j h1 h2 => (hne j (by omega)).trans (hF24 j h1 h2)
  replace hF27 := fun j h1 h2 => (hne j (by omega)).trans (hF27 j h1 h2)
  replace hF30 := fun j h1 h2 => (hne j (by omega)).trans (hF30 j h1 h2)
  replace hF33 := fun j h1 h2 => (hne j (by omega)).trans (hF33 j h1 h2)
  replace hF36 := fun j h1 h2 => (hne j (by omega)).trans (hF36 j h1 h2)
  replace hF39 := fun j h1 h2 => (hne j (by omega)).trans (hF39 j h1 h2)
  replace hF42 := fun j h1 h2 => (hne j (by omega)).trans (hF42 j h1 h2)
  replace hF45 := fun j h1 h2 => (hne j (by omega)).trans (hF45 j h1 h2)
  replace hF48 := fun j h1 h2 => (hne j (by omega)).trans (hF48 j h1 h2)
  replace hF51 := fun j h1 h2 => (hne j (by omega)).trans (hF51 j h1 h2)
  replace hF54 := fun j h1 h2 => (hne j (by omega)).trans (hF54 j h1 h2)
  replace hF57 := fun j h1 h2 => (hne j (by omega)).trans (hF57 j h1 h2)
  replace hB := fun j h1 => (hne j (by omega)).trans (hB j h1)
  refine lv_dup C.1.1 C.1.2.1 dX3_init_29 rfl ?_
  replace hx59 : M 173 = .inr (kd 173, blk (kd 173)) := by rw [hx59, show kd 173 = 9 from (by decide)]
  refine r_callI (rest := [.ref (g.1 + 173), .int 19, .ref (g.1 + 20)]) C hKc hW (c_X9_init g l 173 (by decide)) hx59 cd_X9_init (g1 168 (Eq.refl _) rfl) (g1 48 (Eq.refl _) rfl) (g1 3 (Eq.refl _) rfl) rfl (by decide +kernel) ⟨by decide, by decide⟩ ⟨by decide, by decide⟩ hl.1 (Nat.le_of_ble_eq_true rfl) dX3_init_30 (fun M H locs hF60 hb hW => ?_)
  replace hO := (hb 19 (by omega)).trans hO
  replace hx1 := (hb 20 (by omega)).trans hx1
  replace hF3 := fun j h1 h2 => (hb j (by omega)).trans (hF3 j h1 h2)
  replace hF6 := fun j h1 h2 => (hb j (by omega)).trans (hF6 j h1 h2)
  replace hF9 := fun j h1 h2 => (hb j (by omega)).trans (hF9 j h1 h2)
  replace hF12 := fun j h1 h2 => (hb j (by omega)).trans (hF12 j h1 h2)
  replace hF15 := fun j h1 h2 => (hb j (by omega)).trans (hF15 j h1 h2)
  replace hF18 := fun j h1 h2 => (hb j (by omega)).trans (hF18 j h1 h2)
  replace hF21 := fun j h1 h2 => (hb j (by omega)).trans (hF21 j h1 h2)
  replace hF24 := fun j h1 h2 => (hb j (by omega)).trans (hF24 j h1 h2)
  replace hF27 := fun j h1 h2 => (hb j (by omega)).trans (hF27 j h1 h2)
  replace hF30 := fun j h1 h2 => (hb j (by omega)).trans (hF30 j h1 h2)
  replace hF33 := fun j h1 h2 => (hb j (by omega)).trans (hF33 j h1 h2)
  replace hF36 := fun j h1 h2 => (hb j (by omega)).trans (hF36 j h1 h2)
  replace hF39 := fun j h1 h2 => (hb j (by omega)).trans (hF39 j h1 h2)
  replace hF42 := fun j h1 h2 => (hb j (by omega)).trans (hF42 j h1 h2)
  replace hF45 := fun j h1 h2 => (hb j (by omega)).trans (hF45 j h1 h2)
  replace hF48 := fun j h1 h2 => (hb j (by omega)).trans (hF48 j h1 h2)
  replace hF51 := fun j h1 h2 => (hb j (by omega)).trans (hF51 j h1 h2)
  replace hF54 := fun j h1 h2 => (hb j (by omega)).trans (hF54 j h1 h2)
  replace hF57 := fun j h1 h2 => (hb j (by omega)).trans (hF57 j h1 h2)
  replace hB := fun j h1 => (hb j (by omega)).trans (hB j h1)
  have hW : Wr g s 181 M H locs := hW
  have hv61 := (hF60 173 (by omega) (by omega)).trans (EE_9 (by decide))
  refine r_ast (j := 19) (t := 5) (ci := 9) (N := 20) (r := (RX9, TX9, 7)) C hW (by omega) hx1 rfl (by omega) hv61 rfl (by decide) (by decide) (by decide) dX3_init_33 (fun M H locs hx1' hne hW => ?_)
  clear hv61
  replace hx1 := hx1'
  clear hx1'
  replace hO := (hne 19 (by omega)).trans hO
  replace hF3 := fun j h1 h2 => (hne j (by omega)).trans (hF3 j h1 h2)
  replace hF6 := fun j h1 h2 => (hne j (by omega)).trans (hF6 j h1 h2)
  replace hF9 := fun j h1 h2 => (hne j (by omega)).trans (hF9 j h1 h2)
  replace hF12 := fun j h1 h2 => (hne j (by omega)).trans (hF12 j h1 h2)
  replace hF15 := fun j h1 h2 => (hne j (by omega)).trans (hF15 j h1 h2)
  replace hF18 := fun j h1 h2 => (hne j (by omega)).trans (hF18 j h1 h2)
  replace hF21 := fun j h1 h2 => (hne j (by omega)).trans (hF21 j h1 h2)
  replace hF24 := fun j h1 h2 => (hne j (by omega)).trans (hF24 j h1 h2)
  replace hF27 := fun j h1 h2 => (hne j (by omega)).trans (hF27 j h1 h2)
  replace hF30 := fun j h1 h2 => (hne j (by omega)).trans (hF30 j h1 h2)
  replace hF33 := fun j h1 h2 => (hne j (by omega)).trans (hF33 j h1 h2)
  replace hF36 := fun j h1 h2 => (hne j (by omega)).trans (hF36 j h1 h2)
  replace hF39 := fun j h1 h2 => (hne j (by omega)).trans (hF39 j h1 h2)
  replace hF42 := fun j h1 h2 => (hne j (by omega)).trans (hF42 j h1 h2)
  replace hF45 := fun j h1 h2 => (hne j (by omega)).trans (hF45 j h1 h2)
  replace hF48 := fun j h1 h2 => (hne j (by omega)).trans (hF48 j h1 h2)
  replace hF51 := fun j h1 h2 => (hne j (by omega)).trans (hF51 j h1 h2)
  replace hF54 := fun j h1 h2 => (hne j (by omega)).trans (hF54 j h1 h2)
  replace hF57 := fun j h1 h2 => (hne j (by omega)).trans (hF57 j h1 h2)
  replace hF60 := fun j h1 h2 => (hne j (by omega)).trans (hF60 j h1 h2)
  replace hB := fun j h1 => (hne j (by omega)).trans (hB j h1)
  refine lv_iinc (v := 20) (lv' := [(1, .int 20), (0, .ref (g.1 + 19))]) C.1.1 C.1.2.1 dX3_init_34 hl (k := 0) rfl (by decide) (by decide) rfl (fun ls hl => ?_)
  refine lv_goto (tgt := 15) C.1.1 C.1.2.1 dX3_init_37 (by decide) ?_
  refine lv_iload_n C.1.1 C.1.2.1 dX3_init_15 rfl (lv_at hl 0 rfl) ?_
  refine lv_bipush (v := 20) C.1.1 C.1.2.1 dX3_init_16 (by decide) ?_
  refine lv_icmp_ge (tgt := 40) C.1.1 C.1.2.1 dX3_init_18 (by decide) (fun _ => ?_) (fun hc => absurd (by decide) hc)
  have hW := hW.norm (y := (20, rfa (fun j => g.1 + (21 + 8 * j)))) hx1 (by
    rw [vp_cell_q, vp_cell_q]
    unfold arrV
    congr 1)
  generalize hMM : va_up M 20 _ = M' at hW
  have hne : ∀ j, j ≠ 20 → M' j = M j := fun j h => by rw [← hMM]; simp [va_up, h]
  replace hx1 : M' 20 = E0 g 20 := by
    rw [← hMM]
    simp only [va_up, if_true]; rw [E0, EE_17 (by decide)]; rfl
  clear hMM
  replace hO := (hne 19 (by omega)).trans hO
  replace hF3 := fun j h1 h2 => (hne j (by omega)).trans (hF3 j h1 h2)
  replace hF6 := fun j h1 h2 => (hne j (by omega)).trans (hF6 j h1 h2)
  replace hF9 := fun j h1 h2 => (hne j (by omega)).trans (hF9 j h1 h2)
  replace hF12 := fun j h1 h2 => (hne j (by omega)).trans (hF12 j h1 h2)
  replace hF15 := fun j h1 h2 => (hne j (by omega)).trans (hF15 j h1 h2)
  replace hF18 := fun j h1 h2 => (hne j (by omega)).trans (hF18 j h1 h2)
  replace hF21 := fun j h1 h2 => (hne j (by omega)).trans (hF21 j h1 h2)
  replace hF24 := fun j h1 h2 => (hne j (by omega)).trans (hF24 j h1 h2)
  replace hF27 := fun j h1 h2 => (hne j (by omega)).trans (hF27 j h1 h2)
  replace hF30 := fun j h1 h2 => (hne j (by omega)).trans (hF30 j h1 h2)
  replace hF33 := fun j h1 h2 => (hne j (by omega)).trans (hF33 j h1 h2)
  replace hF36 := fun j h1 h2 => (hne j (by omega)).trans (hF36 j h1 h2)
  replace hF39 := fun j h1 h2 => (hne j (by omega)).trans (hF39 j h1 h2)
  replace hF42 := fun j h1 h2 => (hne j (by omega)).trans (hF42 j h1 h2)
  replace hF45 := fun j h1 h2 => (hne j (by omega)).trans (hF45 j h1 h2)
  replace hF48 := fun j h1 h2 => (hne j (by omega)).trans (hF48 j h1 h2)
  replace hF51 := fun j h1 h2 => (hne j (by omega)).trans (hF51 j h1 h2)
  replace hF54 := fun j h1 h2 => (hne j (by omega)).trans (hF54 j h1 h2)
  replace hF57 := fun j h1 h2 => (hne j (by omega)).trans (hF57 j h1 h2)
  replace hF60 := fun j h1 h2 => (hne j (by omega)).trans (hF60 j h1 h2)
  replace hB := fun j h1 => (hne j (by omega)).trans (hB j h1)
  clear hne
  skip
  skip
  obtain ⟨M, rfl⟩ : ∃ z, z = M' := ⟨_, rfl⟩
  have hF62 : ∀ j, 20 ≤ j → j < 20 + 1 → M j = E0 g j := fun j h1 h2 => by
    obtain rfl : j = 20 := by omega
    exact hx1
  have hZ : M 19 = E0 g 19 := by rw [hO, E0, EE_3 (by decide)]; rfl
  subst hQ
  refine r_vret C hW hr hlocks (fun j h1 h2 => ?_) hB dX3_init_40
  rcases Nat.lt_or_ge j 20 with hq | hq
  · obtain rfl : j = 19 := by omega
    exact hZ
  rcases Nat.lt_or_ge j 21 with hq0 | hq0
  · exact hF62 j (by omega) (by omega)
  rcases Nat.lt_or_ge j 29 with hq1 | hq1
  · exact hF3 j (by omega) (by omega)
  rcases Nat.lt_or_ge j 37 with hq2 | hq2
  · exact hF6 j (by omega) (by omega)
  rcases Nat.lt_or_ge j 45 with hq3 | hq3
  · exact hF9 j (by omega) (by omega)
  rcases Nat.lt_or_ge j 53 with hq4 | hq4
  · exact hF12 j (by omega) (by omega)
  rcases Nat.lt_or_ge j 61 with hq5 | hq5
  · exact hF15 j (by omega) (by omega)
  rcases Nat.lt_or_ge j 69 with hq6 | hq6
  · exact hF18 j (by omega) (by omega)
  rcases Nat.lt_or_ge j 77 with hq7 | hq7
  · exact hF21 j (by omega) (by omega)
  rcases Nat.lt_or_ge j 85 with hq8 | hq8
  · exact hF24 j (by omega) (by omega)
  rcases Nat.lt_or_ge j 93 with hq9 | hq9
  · exact hF27 j (by omega) (by omega)
  rcases Nat.lt_or_ge j 101 with hq10 | hq10
  · exact hF30 j (by omega) (by omega)
  rcases Nat.lt_or_ge j 109 with hq11 | hq11
  · exact hF33 j (by omega) (by omega)
  rcases Nat.lt_or_ge j 117 with hq12 | hq12
  · exact hF36 j (by omega) (by omega)
  rcases Nat.lt_or_ge j 125 with hq13 | hq13
  · exact hF39 j (by omega) (by omega)
  rcases Nat.lt_or_ge j 133 with hq14 | hq14
  · exact hF42 j (by omega) (by omega)
  rcases Nat.lt_or_ge j 141 with hq15 | hq15
  · exact hF45 j (by omega) (by omega)
  rcases Nat.lt_or_ge j 149 with hq16 | hq16
  · exact hF48 j (by omega) (by omega)
  rcases Nat.lt_or_ge j 157 with hq17 | hq17
  · exact hF51 j (by omega) (by omega)
  rcases Nat.lt_or_ge j 165 with hq18 | hq18
  · exact hF54 j (by omega) (by omega)
  rcases Nat.lt_or_ge j 173 with hq19 | hq19
  · exact hF57 j (by omega) (by omega)
  exact hF60 j (by omega) (by omega)
set_option maxHeartbeats 4000000 in
set_option maxRecDepth 100000 in
theorem c_X1_init (g : Gp) (l : Launch) : MetC g l yX1_init cX1_init 1 2 4 135 207 := by
  refine w_enterC (by decide) (by decide) (own := RX1) rfl rfl ?_
  intro M hO p e s m below meth c args Q hQ C hKc hr hlocks hin hW ls hl
  replace hO : M 207 = .inr (1, [.null, .null, .null, .int 0, .int 0, .null]) := hO
  have hB : ∀ j, j < 207 → M j = M j := fun _ _ => rfl
  generalize hM0 : M = M0 at hQ
  have hB : ∀ j, j < 207 → M j = M0 j := fun _ _ => by rw [hM0]
  clear hM0
  refine lv_aload_n C.1.1 C.1.2.1 dX1_init_0 rfl (lv_at hl 0 rfl) ?_
  refine r_obj C (g1 209 (Eq.refl _) rfl) (g1 22 (Eq.refl _) rfl) (g1 23 (Eq.refl _) rfl) hl.1 (by decide) dX1_init_1 ?_
  refine lv_aload_n C.1.1 C.1.2.1 dX1_init_4 rfl (lv_at hl 0 rfl) ?_
  refine lv_bipush (v := 60) C.1.1 C.1.2.1 dX1_init_5 (by decide) ?_
  refine r_newa (t := 0) (ty := .int) (N := 60) (a0 := (60, .inl (fun _ => 0))) C hW (g1 44 (Eq.refl _) rfl) rfl (fun h => h) rfl (fun cA => rfl) (by decide) (by decide) (by decide) (by decide) (by decide) dX1_init_7 (fun M H hx1 hne hW => ?_)
  replace hO := (hne 207 (by omega)).trans hO
  replace hB := fun j h1 => (hne j (by omega)).trans (hB j h1)
  have hF2 : ∀ j, 208 ≤ j → j < 208 + 1 → M j = E0 g j := fun j h1 h2 => by
    obtain rfl : j = 208 := by omega
    rw [hx1, E0, EE_12 (by decide), (by decide : ln 208 = 60), show I0 208 = (fun _ => 0) from funext fun k => rfl]
  refine r_putF (ci := 1) (Cn := RX1) (T := TX1) (N := 6) (ty0 := tyX1) (v := .ref (g.1 + 208)) (ty := (.array .int)) C hW inG1 tyX1_ok nmX1 (by omega) hO rfl 0 (by decide) (ref := RX1) (g1 212 (Eq.refl _) rfl) rfl rfl hin rfl (by decide +kernel) rfl rfl (Nat.le_of_ble_eq_true rfl) dX1_init_9 (fun M H locs hO' hne hW => ?_)
  replace hO : M 207 = .inr (1, [.ref (g.1 + 208), .null, .null, .int 0, .int 0, .null]) := hO'
  clear hO'
  replace hF2 := fun j h1 h2 => (hne j (by omega)).trans (hF2 j h1 h2)
  replace hB := fun j h1 => (hne j (by omega)).trans (hB j h1)
  refine lv_aload_n C.1.1 C.1.2.1 dX1_init_12 rfl (lv_at hl 0 rfl) ?_
  refine lv_bipush (v := 60) C.1.1 C.1.2.1 dX1_init_13 (by decide) ?_
  refine r_newa (t := 2) (ty := .boolean) (N := 60) (a0 := (60, .inl (fun _ => 0))) C hW (g1 236 (Eq.refl _) rfl) rfl (fun h => h) rfl (fun cA => rfl) (by decide) (by decide) (by decide) (by decide) (by decide) dX1_init_15 (fun M H hx3 hne hW => ?_)
  replace hO := (hne 207 (by omega)).trans hO
  replace hF2 := fun j h1 h2 => (hne j (by omega)).trans (hF2 j h1 h2)
  replace hB := fun j h1 => (hne j (by omega)).trans (hB j h1)
  have hF4 : ∀ j, 209 ≤ j → j < 209 + 1 → M j = E0 g j := fun j h1 h2 => by
    obtain rfl : j = 209 := by omega
    rw [hx3, E0, EE_14 (by decide), (by decide : ln 209 = 60), show I0 209 = (fun _ => 0) from funext fun k => rfl]
  refine r_putF (ci := 1) (Cn := RX1) (T := TX1) (N := 6) (ty0 := tyX1) (v := .ref (g.1 + 209)) (ty := (.array .boolean)) C hW inG1 tyX1_ok nmX1 (by omega) hO rfl 1 (by decide) (ref := RX1) (g1 214 (Eq.refl _) rfl) rfl rfl hin rfl (by decide +kernel) rfl rfl (Nat.le_of_ble_eq_true rfl) dX1_init_17 (fun M H locs hO' hne hW => ?_)
  replace hO : M 207 = .inr (1, [.ref (g.1 + 208), .ref (g.1 + 209), .null, .int 0, .int 0, .null]) := hO'
  clear hO'
  replace hF2 := fun j h1 h2 => (hne j (by omega)).trans (hF2 j h1 h2)
  replace hF4 := fun j h1 h2 => (hne j (by omega)).trans (hF4 j h1 h2)
  replace hB := fun j h1 => (hne j (by omega)).trans (hB j h1)
  refine lv_aload_n C.1.1 C.1.2.1 dX1_init_20 rfl (lv_at hl 0 rfl) ?_
  refine lv_iconst (v := 4) C.1.1 C.1.2.1 dX1_init_21 (by decide) ?_
  refine r_newa (t := 0) (ty := .int) (N := 4) (a0 := (4, .inl (fun _ => 0))) C hW (g1 44 (Eq.refl _) rfl) rfl (fun h => h) rfl (fun cA => rfl) (by decide) (by decide) (by decide) (by decide) (by decide) dX1_init_22 (fun M H hx5 hne hW => ?_)
  replace hO := (hne 207 (by omega)).trans hO
  replace hF2 := fun j h1 h2 => (hne j (by omega)).trans (hF2 j h1 h2)
  replace hF4 := fun j h1 h2 => (hne j (by omega)).trans (hF4 j h1 h2)
  replace hB := fun j h1 => (hne j (by omega)).trans (hB j h1)
  have hF6 : ∀ j, 210 ≤ j → j < 210 + 1 → M j = E0 g j := fun j h1 h2 => by
    obtain rfl : j = 210 := by omega
    rw [hx5, E0, EE_12 (by decide), (by decide : ln 210 = 4), show I0 210 = (fun _ => 0) from funext fun k => rfl]
  refine r_putF (ci := 1) (Cn := RX1) (T := TX1) (N := 6) (ty0 := tyX1) (v := .ref (g.1 + 210)) (ty := (.array .int)) C hW inG1 tyX1_ok nmX1 (by omega) hO rfl 2 (by decide) (ref := RX1) (g1 216 (Eq.refl _) rfl) rfl rfl hin rfl (by decide +kernel) rfl rfl (Nat.le_of_ble_eq_true rfl) dX1_init_24 (fun M H locs hO' hne hW => ?_)
  replace hO : M 207 = .inr (1, [.ref (g.1 + 208), .ref (g.1 + 209), .ref (g.1 + 210), .int 0, .int 0, .null]) := hO'
  clear hO'
  replace hF2 := fun j h1 h2 => (hne j (by omega)).trans (hF2 j h1 h2)
  replace hF4 := fun j h1 h2 => (hne j (by omega)).trans (hF4 j h1 h2)
  replace hF6 := fun j h1 h2 => (hne j (by omega)).trans (hF6 j h1 h2)
  replace hB := fun j h1 => (hne j (by omega)).trans (hB j h1)
  refine lv_aload_n C.1.1 C.1.2.1 dX1_init_27 rfl (lv_at hl 0 rfl) ?_
  refine r_new (ci := 6) (Cn := RX6) (T := TX6) (N := 11) (fs := blk 6) C hW inG6 tyX6 tyX6_ok (g1 210 (Eq.refl _) rfl) (g1 53 (Eq.refl _) rfl) (g1 4 (Eq.refl _) rfl) rfl bk_6 (by decide) (by decide) dX1_init_28 (fun M H hx7 hne hW => ?_)
  replace hO := (hne 207 (by omega)).trans hO
  replace hF2 := fun j h1 h2 => (hne j (by omega)).trans (hF2 j h1 h2)
  replace hF4 := fun j h1 h2 => (hne j (by omega)).trans (hF4 j h1 h2)
  replace hF6 := fun j h1 h2 => (hne j (by omega)).trans (hF6 j h1 h2)
  replace hB := fun j h1 => (hne j (by omega)).trans (hB j h1)
  refine lv_dup C.1.1 C.1.2.1 dX1_init_31 rfl ?_
  replace hx7 : M 211 = .inr (kd 211, blk (kd 211)) := by rw [hx7, show kd 211 = 6 from (by decide)]
  refine r_callIN (rest := [.ref (g.1 + 211), .ref (g.1 + 207)]) C hKc hW (c_X6_init g l 211 (by decide)) hx7 cd_X6_init (by decide +kernel) (g1 55 (Eq.refl _) rfl) (g1 4 (Eq.refl _) rfl) rfl (by decide +kernel) ⟨by decide, by decide⟩ ⟨by decide, by decide⟩ hl.1 (Nat.le_of_ble_eq_true rfl) dX1_init_32 (fun M H locs hF8 hb hW => ?_)
  replace hO := (hb 207 (by omega)).trans hO
  replace hF2 := fun j h1 h2 => (hb j (by omega)).trans (hF2 j h1 h2)
  replace hF4 := fun j h1 h2 => (hb j (by omega)).trans (hF4 j h1 h2)
  replace hF6 := fun j h1 h2 => (hb j (by omega)).trans (hF6 j h1 h2)
  replace hB := fun j h1 => (hb j (by omega)).trans (hB j h1)
  have hW : Wr g s 212 M H locs := hW
  refine r_putF (ci := 1) (Cn := RX1) (T := TX1) (N := 6) (ty0 := tyX1) (v := .ref (g.1 + 211)) (ty := .object "WallPatience$Sitter") C hW inG1 tyX1_ok nmX1 (by omega) hO rfl 5 (by decide) (ref := RX1) (g1 222 (Eq.refl _) rfl) rfl rfl hin rfl (by decide +kernel) rfl rfl (Nat.le_of_ble_eq_true rfl) dX1_init_35 (fun M H locs hO' hne hW => ?_)
  replace hO : M 207 = .inr (1, [.ref (g.1 + 208), .ref (g.1 + 209), .ref (g.1 + 210), .int 0, .int 0, .ref (g.1 + 211)]) := hO'
  clear hO'
  replace hF2 := fun j h1 h2 => (hne j (by omega)).trans (hF2 j h1 h2)
  replace hF4 := fun j h1 h2 => (hne j (by omega)).trans (hF4 j h1 h2)
  replace hF6 := fun j h1 h2 => (hne j (by omega)).trans (hF6 j h1 h2)
  replace hF8 := fun j h1 h2 => (hne j (by omega)).trans (hF8 j h1 h2)
  replace hB := fun j h1 => (hne j (by omega)).trans (hB j h1)
  have hZ : M 207 = E0 g 207 := by rw [hO, E0, EE_1 (by decide)]; rfl
  subst hQ
  refine r_vret C hW hr hlocks (fun j h1 h2 => ?_) hB dX1_init_38
  rcases Nat.lt_or_ge j 208 with hq | hq
  · obtain rfl : j = 207 := by omega
    exact hZ
  rcases Nat.lt_or_ge j 209 with hq0 | hq0
  · exact hF2 j (by omega) (by omega)
  rcases Nat.lt_or_ge j 210 with hq1 | hq1
  · exact hF4 j (by omega) (by omega)
  rcases Nat.lt_or_ge j 211 with hq2 | hq2
  · exact hF6 j (by omega) (by omega)
  exact hF8 j (by omega) (by omega)
set_option maxHeartbeats 4000000 in
set_option maxRecDepth 100000 in
theorem c_X0_init (g : Gp) (l : Launch) : MetC g l yX0_init cX0_init 1 1 7 54 212 := by
  refine w_enterC (by decide) (by decide) (own := RX0) rfl rfl ?_
  intro M hO p e s m below meth c args Q hQ C hKc hr hlocks hin hW ls hl
  replace hO : M 212 = .inr (0, [.null, .null, .null, .int 0, .int 0, .int 0, .int 0]) := hO
  have hB : ∀ j, j < 212 → M j = M j := fun _ _ => rfl
  generalize hM0 : M = M0 at hQ
  have hB : ∀ j, j < 212 → M j = M0 j := fun _ _ => by rw [hM0]
  clear hM0
  refine lv_aload_n C.1.1 C.1.2.1 dX0_init_0 rfl (lv_at hl 0 rfl) ?_
  refine r_obj C (g2 2 (Eq.refl _) rfl) (g1 22 (Eq.refl _) rfl) (g1 23 (Eq.refl _) rfl) hl.1 (by decide) dX0_init_1 ?_
  refine lv_aload_n C.1.1 C.1.2.1 dX0_init_4 rfl (lv_at hl 0 rfl) ?_
  refine lv_bipush (v := 10) C.1.1 C.1.2.1 dX0_init_5 (by decide) ?_
  refine r_newa (t := 2) (ty := .boolean) (N := 10) (a0 := (10, .inl (fun _ => 0))) C hW (g1 236 (Eq.refl _) rfl) rfl (fun h => h) rfl (fun cA => rfl) (by decide) (by decide) (by decide) (by decide) (by decide) dX0_init_7 (fun M H hx1 hne hW => ?_)
  replace hO := (hne 212 (by omega)).trans hO
  replace hB := fun j h1 => (hne j (by omega)).trans (hB j h1)
  have hF2 : ∀ j, 213 ≤ j → j < 213 + 1 → M j = E0 g j := fun j h1 h2 => by
    obtain rfl : j = 213 := by omega
    rw [hx1, E0, EE_14 (by decide), (by decide : ln 213 = 10), show I0 213 = (fun _ => 0) from funext fun k => rfl]
  refine r_putF (ci := 0) (Cn := RX0) (T := TX0) (N := 7) (ty0 := tyX0) (v := .ref (g.1 + 213)) (ty := (.array .boolean)) C hW inG0 tyX0_ok nmX0 (by omega) hO rfl 0 (by decide) (ref := RX0) (g2 5 (Eq.refl _) rfl) rfl rfl hin rfl (by decide +kernel) rfl rfl (Nat.le_of_ble_eq_true rfl) dX0_init_9 (fun M H locs hO' hne hW => ?_)
  replace hO : M 212 = .inr (0, [.ref (g.1 + 213), .null, .null, .int 0, .int 0, .int 0, .int 0]) := hO'
  clear hO'
  replace hF2 := fun j h1 h2 => (hne j (by omega)).trans (hF2 j h1 h2)
  replace hB := fun j h1 => (hne j (by omega)).trans (hB j h1)
  refine lv_aload_n C.1.1 C.1.2.1 dX0_init_12 rfl (lv_at hl 0 rfl) ?_
  refine lv_iconst (v := 2) C.1.1 C.1.2.1 dX0_init_13 (by decide) ?_
  refine lv_bipush (v := 10) C.1.1 C.1.2.1 dX0_init_14 (by decide) ?_
  refine r_mna C hKc hW (g2 3 (Eq.refl _) rfl) (g1 44 (Eq.refl _) rfl) (by decide) (by decide) dX0_init_16 (fun M H hx3 hx3a hx3b hne hW => ?_)
  replace hO := (hne 212 (by omega) (by omega) (by omega)).trans hO
  replace hF2 := fun j h1 h2 => (hne j (by omega) (by omega) (by omega)).trans (hF2 j h1 h2)
  replace hB := fun j h1 => (hne j (by omega) (by omega) (by omega)).trans (hB j h1)
  have hF4 : ∀ j, 214 ≤ j → j < 214 + 3 → M j = E0 g j := fun j h1 h2 => by
    rcases (show j = 214 ∨ j = 215 ∨ j = 216 by omega) with rfl | rfl | rfl
    · rw [hx3, E0, EE_18 (by decide)]; rfl
    · refine hx3a.trans ?_; rw [E0, EE_12 (by decide)]; rfl
    · refine hx3b.trans ?_; rw [E0, EE_12 (by decide)]; rfl
  refine r_putF (ci := 0) (Cn := RX0) (T := TX0) (N := 7) (ty0 := tyX0) (v := .ref (g.1 + 214)) (ty := (.array (.array .int))) C hW inG0 tyX0_ok nmX0 (by omega) hO rfl 1 (by decide) (ref := RX0) (g2 6 (Eq.refl _) rfl) rfl rfl hin rfl (by decide +kernel) rfl rfl (Nat.le_of_ble_eq_true rfl) dX0_init_20 (fun M H locs hO' hne hW => ?_)
  replace hO : M 212 = .inr (0, [.ref (g.1 + 213), .ref (g.1 + 214), .null, .int 0, .int 0, .int 0, .int 0]) := hO'
  clear hO'
  replace hF2 := fun j h1 h2 => (hne j (by omega)).trans (hF2 j h1 h2)
  replace hF4 := fun j h1 h2 => (hne j (by omega)).trans (hF4 j h1 h2)
  replace hB := fun j h1 => (hne j (by omega)).trans (hB j h1)
  refine lv_aload_n C.1.1 C.1.2.1 dX0_init_23 rfl (lv_at hl 0 rfl) ?_
  refine lv_iconst (v := 2) C.1.1 C.1.2.1 dX0_init_24 (by decide) ?_
  refine lv_bipush (v := 10) C.1.1 C.1.2.1 dX0_init_25 (by decide) ?_
  refine r_mna C hKc hW (g2 3 (Eq.refl _) rfl) (g1 44 (Eq.refl _) rfl) (by decide) (by decide) dX0_init_27 (fun M H hx5 hx5a hx5b hne hW => ?_)
  replace hO := (hne 212 (by omega) (by omega) (by omega)).trans hO
  replace hF2 := fun j h1 h2 => (hne j (by omega) (by omega) (by omega)).trans (hF2 j h1 h2)
  replace hF4 := fun j h1 h2 => (hne j (by omega) (by omega) (by omega)).trans (hF4 j h1 h2)
  replace hB := fun j h1 => (hne j (by omega) (by omega) (by omega)).trans (hB j h1)
  have hF6 : ∀ j, 217 ≤ j → j < 217 + 3 → M j = E0 g j := fun j h1 h2 => by
    rcases (show j = 217 ∨ j = 218 ∨ j = 219 by omega) with rfl | rfl | rfl
    · rw [hx5, E0, EE_18 (by decide)]; rfl
    · refine hx5a.trans ?_; rw [E0, EE_12 (by decide)]; rfl
    · refine hx5b.trans ?_; rw [E0, EE_12 (by decide)]; rfl
  refine r_putF (ci := 0) (Cn := RX0) (T := TX0) (N := 7) (ty0 := tyX0) (v := .ref (g.1 + 217)) (ty := (.array (.array .int))) C hW inG0 tyX0_ok nmX0 (by omega) hO rfl 2 (by decide) (ref := RX0) (g2 7 (Eq.refl _) rfl) rfl rfl hin rfl (by decide +kernel) rfl rfl (Nat.le_of_ble_eq_true rfl) dX0_init_31 (fun M H locs hO' hne hW => ?_)
  replace hO : M 212 = .inr (0, [.ref (g.1 + 213), .ref (g.1 + 214), .ref (g.1 + 217), .int 0, .int 0, .int 0, .int 0]) := hO'
  clear hO'
  replace hF2 := fun j h1 h2 => (hne j (by omega)).trans (hF2 j h1 h2)
  replace hF4 := fun j h1 h2 => (hne j (by omega)).trans (hF4 j h1 h2)
  replace hF6 := fun j h1 h2 => (hne j (by omega)).trans (hF6 j h1 h2)
  replace hB := fun j h1 => (hne j (by omega)).trans (hB j h1)
  have hZ : M 212 = E0 g 212 := by rw [hO, E0, EE_0 (by decide)]; rfl
  subst hQ
  refine r_vret C hW hr hlocks (fun j h1 h2 => ?_) hB dX0_init_34
  rcases Nat.lt_or_ge j 213 with hq | hq
  · obtain rfl : j = 212 := by omega
    exact hZ
  rcases Nat.lt_or_ge j 214 with hq0 | hq0
  · exact hF2 j (by omega) (by omega)
  rcases Nat.lt_or_ge j 217 with hq1 | hq1
  · exact hF4 j (by omega) (by omega)
  exact hF6 j (by omega) (by omega)
set_option maxHeartbeats 4000000 in
set_option maxRecDepth 100000 in
theorem c_X4_init (g : Gp) (l : Launch) : MetC g l yX4_init cX4_init 2 2 16 168 220 := by
  refine w_enterC (by decide) (by decide) (own := RX4) rfl rfl ?_
  intro M hO p e s m below meth c args Q hQ C hKc hr hlocks hin hW ls hl
  replace hO : M 220 = .inr (4, [.null, .null, .null]) := hO
  have hB : ∀ j, j < 220 → M j = M j := fun _ _ => rfl
  generalize hM0 : M = M0 at hQ
  have hB : ∀ j, j < 220 → M j = M0 j := fun _ _ => by rw [hM0]
  clear hM0
  refine lv_aload_n C.1.1 C.1.2.1 dX4_init_0 rfl (lv_at hl 0 rfl) ?_
  refine r_obj C (g2 32 (Eq.refl _) rfl) (g1 22 (Eq.refl _) rfl) (g1 23 (Eq.refl _) rfl) hl.1 (by decide) dX4_init_1 ?_
  refine lv_aload_n C.1.1 C.1.2.1 dX4_init_4 rfl (lv_at hl 0 rfl) ?_
  refine lv_bipush (v := 7) C.1.1 C.1.2.1 dX4_init_5 (by decide) ?_
  refine r_newq (t := 4) (Cn := RX6) (N := 7) C hW (g2 33 (Eq.refl _) rfl) hKc.2.1 rfl (by decide) (by decide) (by decide) (by decide) (by decide) dX4_init_7 (fun M H hx1 hne hW => ?_)
  replace hO := (hne 220 (by omega)).trans hO
  replace hB := fun j h1 => (hne j (by omega)).trans (hB j h1)
  refine r_putF (ci := 4) (Cn := RX4) (T := TX4) (N := 3) (ty0 := tyX4) (v := .ref (g.1 + 221)) (ty := (.array (.object "WallPatience$Sitter"))) C hW inG4 tyX4_ok nmX4 (by omega) hO rfl 0 (by decide) (ref := RX4) (g2 35 (Eq.refl _) rfl) rfl rfl hin rfl (by decide +kernel) rfl rfl (Nat.le_of_ble_eq_true rfl) dX4_init_10 (fun M H locs hO' hne hW => ?_)
  replace hO : M 220 = .inr (4, [.ref (g.1 + 221), .null, .null]) := hO'
  clear hO'
  replace hx1 := (hne 221 (by omega)).trans hx1
  replace hB := fun j h1 => (hne j (by omega)).trans (hB j h1)
  refine lv_aload_n C.1.1 C.1.2.1 dX4_init_13 rfl (lv_at hl 0 rfl) ?_
  refine lv_bipush (v := 7) C.1.1 C.1.2.1 dX4_init_14 (by decide) ?_
  refine r_newq (t := 4) (Cn := RX6) (N := 7) C hW (g2 33 (Eq.refl _) rfl) hKc.2.1 rfl (by decide) (by decide) (by decide) (by decide) (by decide) dX4_init_16 (fun M H hx2 hne hW => ?_)
  replace hO := (hne 220 (by omega)).trans hO
  replace hx1 := (hne 221 (by omega)).trans hx1
  replace hB := fun j h1 => (hne j (by omega)).trans (hB j h1)
  refine r_putF (ci := 4) (Cn := RX4) (T := TX4) (N := 3) (ty0 := tyX4) (v := .ref (g.1 + 222)) (ty := (.array (.object "WallPatience$Sitter"))) C hW inG4 tyX4_ok nmX4 (by omega) hO rfl 1 (by decide) (ref := RX4) (g2 36 (Eq.refl _) rfl) rfl rfl hin rfl (by decide +kernel) rfl rfl (Nat.le_of_ble_eq_true rfl) dX4_init_19 (fun M H locs hO' hne hW => ?_)
  replace hO : M 220 = .inr (4, [.ref (g.1 + 221), .ref (g.1 + 222), .null]) := hO'
  clear hO'
  replace hx1 := (hne 221 (by omega)).trans hx1
  replace hx2 := (hne 222 (by omega)).trans hx2
  replace hB := fun j h1 => (hne j (by omega)).trans (hB j h1)
  refine lv_iconst (v := 0) C.1.1 C.1.2.1 dX4_init_22 (by decide) ?_
  refine lv_istore_n (lv' := [(1, .int 0), (0, .ref (g.1 + 220))]) C.1.1 C.1.2.1 dX4_init_23 rfl hl (by decide) rfl (fun ls hl => ?_)
  refine lv_iload_n C.1.1 C.1.2.1 dX4_init_24 rfl (lv_at hl 0 rfl) ?_
  refine lv_bipush (v := 7) C.1.1 C.1.2.1 dX4_init_25 (by decide) ?_
  refine lv_icmp_ge (tgt := 62) C.1.1 C.1.2.1 dX4_init_27 (by decide) (fun hc => absurd hc (by decide)) (fun _ => ?_)
  refine lv_aload_n C.1.1 C.1.2.1 dX4_init_30 rfl (lv_at hl 1 rfl) ?_
  refine r_get (ci := 4) (Cn := RX4) (T := TX4) (N := 3) C hW inG4 (by omega) hO rfl 0 (by decide) (ref := RX4) (g2 35 (Eq.refl _) rfl) rfl rfl dX4_init_31 ?_
  refine lv_iload_n C.1.1 C.1.2.1 dX4_init_34 rfl (lv_at hl 0 rfl) ?_
  refine r_new (ci := 6) (Cn := RX6) (T := TX6) (N := 11) (fs := blk 6) C hW inG6 tyX6 tyX6_ok (g2 33 (Eq.refl _) rfl) (g1 53 (Eq.refl _) rfl) (g1 4 (Eq.refl _) rfl) rfl bk_6 (by decide) (by decide) dX4_init_35 (fun M H hx3 hne hW => ?_)
  replace hO := (hne 220 (by omega)).trans hO
  replace hx1 := (hne 221 (by omega)).trans hx1
  replace hx2 := (hne 222 (by omega)).trans hx2
  replace hB := fun j h1 => (hne j (by omega)).trans (hB j h1)
  refine lv_dup C.1.1 C.1.2.1 dX4_init_38 rfl ?_
  replace hx3 : M 223 = .inr (kd 223, blk (kd 223)) := by rw [hx3, show kd 223 = 6 from (by decide)]
  refine r_callIN (rest := [.ref (g.1 + 223), .int 0, .ref (g.1 + 221)]) C hKc hW (c_X6_init g l 223 (by decide)) hx3 cd_X6_init (by decide +kernel) (g1 55 (Eq.refl _) rfl) (g1 4 (Eq.refl _) rfl) rfl (by decide +kernel) ⟨by decide, by decide⟩ ⟨by decide, by decide⟩ hl.1 (Nat.le_of_ble_eq_true rfl) dX4_init_39 (fun M H locs hF4 hb hW => ?_)
  replace hO := (hb 220 (by omega)).trans hO
  replace hx1 := (hb 221 (by omega)).trans hx1
  replace hx2 := (hb 222 (by omega)).trans hx2
  replace hB := fun j h1 => (hb j (by omega)).trans (hB j h1)
  have hW : Wr g s 224 M H locs := hW
  have hv5 := (hF4 223 (by omega) (by omega)).trans (EE_6 (by decide))
  refine r_ast (j := 0) (t := 4) (ci := 6) (N := 7) (r := (RX6, TX6, 11)) C hW (by omega) hx1 rfl (by omega) hv5 rfl (by decide) (by decide) (by decide) dX4_init_42 (fun M H locs hx1' hne hW => ?_)
  clear hv5
  replace hx1 := hx1'
  clear hx1'
  replace hO := (hne 220 (by omega)).trans hO
  replace hx2 := (hne 222 (by omega)).trans hx2
  replace hF4 := fun j h1 h2 => (hne j (by omega)).trans (hF4 j h1 h2)
  replace hB := fun j h1 => (hne j (by omega)).trans (hB j h1)
  refine lv_aload_n C.1.1 C.1.2.1 dX4_init_43 rfl (lv_at hl 1 rfl) ?_
  refine r_get (ci := 4) (Cn := RX4) (T := TX4) (N := 3) C hW inG4 (by omega) hO rfl 1 (by decide) (ref := RX4) (g2 36 (Eq.refl _) rfl) rfl rfl dX4_init_44 ?_
  refine lv_iload_n C.1.1 C.1.2.1 dX4_init_47 rfl (lv_at hl 0 rfl) ?_
  refine r_new (ci := 6) (Cn := RX6) (T := TX6) (N := 11) (fs := blk 6) C hW inG6 tyX6 tyX6_ok (g2 33 (Eq.refl _) rfl) (g1 53 (Eq.refl _) rfl) (g1 4 (Eq.refl _) rfl) rfl bk_6 (by decide) (by decide) dX4_init_48 (fun M H hx6 hne hW => ?_)
  replace hO := (hne 220 (by omega)).trans hO
  replace hx1 := (hne 221 (by omega)).trans hx1
  replace hx2 := (hne 222 (by omega)).trans hx2
  replace hF4 := fun j h1 h2 => (hne j (by omega)).trans (hF4 j h1 h2)
  replace hB := fun j h1 => (hne j (by omega)).trans (hB j h1)
  refine lv_dup C.1.1 C.1.2.1 dX4_init_51 rfl ?_
  replace hx6 : M 224 = .inr (kd 224, blk (kd 224)) := by rw [hx6, show kd 224 = 6 from (by decide)]
  refine r_callIN (rest := [.ref (g.1 + 224), .int 0, .ref (g.1 + 222)]) C hKc hW (c_X6_init g l 224 (by decide)) hx6 cd_X6_init (by decide +kernel) (g1 55 (Eq.refl _) rfl) (g1 4 (Eq.refl _) rfl) rfl (by decide +kernel) ⟨by decide, by decide⟩ ⟨by decide, by decide⟩ hl.1 (Nat.le_of_ble_eq_true rfl) dX4_init_52 (fun M H locs hF7 hb hW => ?_)
  replace hO := (hb 220 (by omega)).trans hO
  replace hx1 := (hb 221 (by omega)).trans hx1
  replace hx2 := (hb 222 (by omega)).trans hx2
  replace hF4 := fun j h1 h2 => (hb j (by omega)).trans (hF4 j h1 h2)
  replace hB := fun j h1 => (hb j (by omega)).trans (hB j h1)
  have hW : Wr g s 225 M H locs := hW
  have hv8 := (hF7 224 (by omega) (by omega)).trans (EE_6 (by decide))
  refine r_ast (j := 0) (t := 4) (ci := 6) (N := 7) (r := (RX6, TX6, 11)) C hW (by omega) hx2 rfl (by omega) hv8 rfl (by decide) (by decide) (by decide) dX4_init_55 (fun M H locs hx2' hne hW => ?_)
  clear hv8
  replace hx2 := hx2'
  clear hx2'
  replace hO := (hne 220 (by omega)).trans hO
  replace hx1 := (hne 221 (by omega)).trans hx1
  replace hF4 := fun j h1 h2 => (hne j (by omega)).trans (hF4 j h1 h2)
  replace hF7 := fun j h1 h2 => (hne j (by omega)).trans (hF7 j h1 h2)
  replace hB := fun j h1 => (hne j (by omega)).trans (hB j h1)
  refine lv_iinc (v := 1) (lv' := [(1, .int 1), (0, .ref (g.1 + 220))]) C.1.1 C.1.2.1 dX4_init_56 hl (k := 0) rfl (by decide) (by decide) rfl (fun ls hl => ?_)
  refine lv_goto (tgt := 24) C.1.1 C.1.2.1 dX4_init_59 (by decide) ?_
  refine lv_iload_n C.1.1 C.1.2.1 dX4_init_24 rfl (lv_at hl 0 rfl) ?_
  refine lv_bipush (v := 7) C.1.1 C.1.2.1 dX4_init_25 (by decide) ?_
  refine lv_icmp_ge (tgt := 62) C.1.1 C.1.2.1 dX4_init_27 (by decide) (fun hc => absurd hc (by decide)) (fun _ => ?_)
  refine lv_aload_n C.1.1 C.1.2.1 dX4_init_30 rfl (lv_at hl 1 rfl) ?_
  refine r_get (ci := 4) (Cn := RX4) (T := TX4) (N := 3) C hW inG4 (by omega) hO rfl 0 (by decide) (ref := RX4) (g2 35 (Eq.refl _) rfl) rfl rfl dX4_init_31 ?_
  refine lv_iload_n C.1.1 C.1.2.1 dX4_init_34 rfl (lv_at hl 0 rfl) ?_
  refine r_new (ci := 6) (Cn := RX6) (T := TX6) (N := 11) (fs := blk 6) C hW inG6 tyX6 tyX6_ok (g2 33 (Eq.refl _) rfl) (g1 53 (Eq.refl _) rfl) (g1 4 (Eq.refl _) rfl) rfl bk_6 (by decide) (by decide) dX4_init_35 (fun M H hx9 hne hW => ?_)
  replace hO := (hne 220 (by omega)).trans hO
  replace hx1 := (hne 221 (by omega)).trans hx1
  replace hx2 := (hne 222 (by omega)).trans hx2
  replace hF4 := fun j h1 h2 => (hne j (by omega)).trans (hF4 j h1 h2)
  replace hF7 := fun j h1 h2 => (hne j (by omega)).trans (hF7 j h1 h2)
  replace hB := fun j h1 => (hne j (by omega)).trans (hB j h1)
  refine lv_dup C.1.1 C.1.2.1 dX4_init_38 rfl ?_
  replace hx9 : M 225 = .inr (kd 225, blk (kd 225)) := by rw [hx9, show kd 225 = 6 from (by decide)]
  refine r_callIN (rest := [.ref (g.1 + 225), .int 1, .ref (g.1 + 221)]) C hKc hW (c_X6_init g l 225 (by decide)) hx9 cd_X6_init (by decide +kernel) (g1 55 (Eq.refl _) rfl) (g1 4 (Eq.refl _) rfl) rfl (by decide +kernel) ⟨by decide, by decide⟩ ⟨by decide, by decide⟩ hl.1 (Nat.le_of_ble_eq_true rfl) dX4_init_39 (fun M H locs hF10 hb hW => ?_)
  replace hO := (hb 220 (by omega)).trans hO
  replace hx1 := (hb 221 (by omega)).trans hx1
  replace hx2 := (hb 222 (by omega)).trans hx2
  replace hF4 := fun j h1 h2 => (hb j (by omega)).trans (hF4 j h1 h2)
  replace hF7 := fun j h1 h2 => (hb j (by omega)).trans (hF7 j h1 h2)
  replace hB := fun j h1 => (hb j (by omega)).trans (hB j h1)
  have hW : Wr g s 226 M H locs := hW
  have hv11 := (hF10 225 (by omega) (by omega)).trans (EE_6 (by decide))
  refine r_ast (j := 1) (t := 4) (ci := 6) (N := 7) (r := (RX6, TX6, 11)) C hW (by omega) hx1 rfl (by omega) hv11 rfl (by decide) (by decide) (by decide) dX4_init_42 (fun M H locs hx1' hne hW => ?_)
  clear hv11
  replace hx1 := hx1'
  clear hx1'
  replace hO := (hne 220 (by omega)).trans hO
  replace hx2 := (hne 222 (by omega)).trans hx2
  replace hF4 := fun j h1 h2 => (hne j (by omega)).trans (hF4 j h1 h2)
  replace hF7 := fun j h1 h2 => (hne j (by omega)).trans (hF7 j h1 h2)
  replace hF10 := fun j h1 h2 => (hne j (by omega)).trans (hF10 j h1 h2)
  replace hB := fun j h1 => (hne j (by omega)).trans (hB j h1)
  refine lv_aload_n C.1.1 C.1.2.1 dX4_init_43 rfl (lv_at hl 1 rfl) ?_
  refine r_get (ci := 4) (Cn := RX4) (T := TX4) (N := 3) C hW inG4 (by omega) hO rfl 1 (by decide) (ref := RX4) (g2 36 (Eq.refl _) rfl) rfl rfl dX4_init_44 ?_
  refine lv_iload_n C.1.1 C.1.2.1 dX4_init_47 rfl (lv_at hl 0 rfl) ?_
  refine r_new (ci := 6) (Cn := RX6) (T := TX6) (N := 11) (fs := blk 6) C hW inG6 tyX6 tyX6_ok (g2 33 (Eq.refl _) rfl) (g1 53 (Eq.refl _) rfl) (g1 4 (Eq.refl _) rfl) rfl bk_6 (by decide) (by decide) dX4_init_48 (fun M H hx12 hne hW => ?_)
  replace hO := (hne 220 (by omega)).trans hO
  replace hx1 := (hne 221 (by omega)).trans hx1
  replace hx2 := (hne 222 (by omega)).trans hx2
  replace hF4 := fun j h1 h2 => (hne j (by omega)).trans (hF4 j h1 h2)
  replace hF7 := fun j h1 h2 => (hne j (by omega)).trans (hF7 j h1 h2)
  replace hF10 := fun j h1 h2 => (hne j (by omega)).trans (hF10 j h1 h2)
  replace hB := fun j h1 => (hne j (by omega)).trans (hB j h1)
  refine lv_dup C.1.1 C.1.2.1 dX4_init_51 rfl ?_
  replace hx12 : M 226 = .inr (kd 226, blk (kd 226)) := by rw [hx12, show kd 226 = 6 from (by decide)]
  refine r_callIN (rest := [.ref (g.1 + 226), .int 1, .ref (g.1 + 222)]) C hKc hW (c_X6_init g l 226 (by decide)) hx12 cd_X6_init (by decide +kernel) (g1 55 (Eq.refl _) rfl) (g1 4 (Eq.refl _) rfl) rfl (by decide +kernel) ⟨by decide, by decide⟩ ⟨by decide, by decide⟩ hl.1 (Nat.le_of_ble_eq_true rfl) dX4_init_52 (fun M H locs hF13 hb hW => ?_)
  replace hO := (hb 220 (by omega)).trans hO
  replace hx1 := (hb 221 (by omega)).trans hx1
  replace hx2 := (hb 222 (by omega)).trans hx2
  replace hF4 := fun j h1 h2 => (hb j (by omega)).trans (hF4 j h1 h2)
  replace hF7 := fun j h1 h2 => (hb j (by omega)).trans (hF7 j h1 h2)
  replace hF10 := fun j h1 h2 => (hb j (by omega)).trans (hF10 j h1 h2)
  replace hB := fun j h1 => (hb j (by omega)).trans (hB j h1)
  have hW : Wr g s 227 M H locs := hW
  have hv14 := (hF13 226 (by omega) (by omega)).trans (EE_6 (by decide))
  refine r_ast (j := 1) (t := 4) (ci := 6) (N := 7) (r := (RX6, TX6, 11)) C hW (by omega) hx2 rfl (by omega) hv14 rfl (by decide) (by decide) (by decide) dX4_init_55 (fun M H locs hx2' hne hW => ?_)
  clear hv14
  replace hx2 := hx2'
  clear hx2'
  replace hO := (hne 220 (by omega)).trans hO
  replace hx1 := (hne 221 (by omega)).trans hx1
  replace hF4 := fun j h1 h2 => (hne j (by omega)).trans (hF4 j h1 h2)
  replace hF7 := fun j h1 h2 => (hne j (by omega)).trans (hF7 j h1 h2)
  replace hF10 := fun j h1 h2 => (hne j (by omega)).trans (hF10 j h1 h2)
  replace hF13 := fun j h1 h2 => (hne j (by omega)).trans (hF13 j h1 h2)
  replace hB := fun j h1 => (hne j (by omega)).trans (hB j h1)
  refine lv_iinc (v := 2) (lv' := [(1, .int 2), (0, .ref (g.1 + 220))]) C.1.1 C.1.2.1 dX4_init_56 hl (k := 0) rfl (by decide) (by decide) rfl (fun ls hl => ?_)
  refine lv_goto (tgt := 24) C.1.1 C.1.2.1 dX4_init_59 (by decide) ?_
  refine lv_iload_n C.1.1 C.1.2.1 dX4_init_24 rfl (lv_at hl 0 rfl) ?_
  refine lv_bipush (v := 7) C.1.1 C.1.2.1 dX4_init_25 (by decide) ?_
  refine lv_icmp_ge (tgt := 62) C.1.1 C.1.2.1 dX4_init_27 (by decide) (fun hc => absurd hc (by decide)) (fun _ => ?_)
  refine lv_aload_n C.1.1 C.1.2.1 dX4_init_30 rfl (lv_at hl 1 rfl) ?_
  refine r_get (ci := 4) (Cn := RX4) (T := TX4) (N := 3) C hW inG4 (by omega) hO rfl 0 (by decide) (ref := RX4) (g2 35 (Eq.refl _) rfl) rfl rfl dX4_init_31 ?_
  refine lv_iload_n C.1.1 C.1.2.1 dX4_init_34 rfl (lv_at hl 0 rfl) ?_
  refine r_new (ci := 6) (Cn := RX6) (T := TX6) (N := 11) (fs := blk 6) C hW inG6 tyX6 tyX6_ok (g2 33 (Eq.refl _) rfl) (g1 53 (Eq.refl _) rfl) (g1 4 (Eq.refl _) rfl) rfl bk_6 (by decide) (by decide) dX4_init_35 (fun M H hx15 hne hW => ?_)
  replace hO := (hne 220 (by omega)).trans hO
  replace hx1 := (hne 221 (by omega)).trans hx1
  replace hx2 := (hne 222 (by omega)).trans hx2
  replace hF4 := fun j h1 h2 => (hne j (by omega)).trans (hF4 j h1 h2)
  replace hF7 := fun j h1 h2 => (hne j (by omega)).trans (hF7 j h1 h2)
  replace hF10 := fun j h1 h2 => (hne j (by omega)).trans (hF10 j h1 h2)
  replace hF13 := fun j h1 h2 => (hne j (by omega)).trans (hF13 j h1 h2)
  replace hB := fun j h1 => (hne j (by omega)).trans (hB j h1)
  refine lv_dup C.1.1 C.1.2.1 dX4_init_38 rfl ?_
  replace hx15 : M 227 = .inr (kd 227, blk (kd 227)) := by rw [hx15, show kd 227 = 6 from (by decide)]
  refine r_callIN (rest := [.ref (g.1 + 227), .int 2, .ref (g.1 + 221)]) C hKc hW (c_X6_init g l 227 (by decide)) hx15 cd_X6_init (by decide +kernel) (g1 55 (Eq.refl _) rfl) (g1 4 (Eq.refl _) rfl) rfl (by decide +kernel) ⟨by decide, by decide⟩ ⟨by decide, by decide⟩ hl.1 (Nat.le_of_ble_eq_true rfl) dX4_init_39 (fun M H locs hF16 hb hW => ?_)
  replace hO := (hb 220 (by omega)).trans hO
  replace hx1 := (hb 221 (by omega)).trans hx1
  replace hx2 := (hb 222 (by omega)).trans hx2
  replace hF4 := fun j h1 h2 => (hb j (by omega)).trans (hF4 j h1 h2)
  replace hF7 := fun j h1 h2 => (hb j (by omega)).trans (hF7 j h1 h2)
  replace hF10 := fun j h1 h2 => (hb j (by omega)).trans (hF10 j h1 h2)
  replace hF13 := fun j h1 h2 => (hb j (by omega)).trans (hF13 j h1 h2)
  replace hB := fun j h1 => (hb j (by omega)).trans (hB j h1)
  have hW : Wr g s 228 M H locs := hW
  have hv17 := (hF16 227 (by omega) (by omega)).trans (EE_6 (by decide))
  refine r_ast (j := 2) (t := 4) (ci := 6) (N := 7) (r := (RX6, TX6, 11)) C hW (by omega) hx1 rfl (by omega) hv17 rfl (by decide) (by decide) (by decide) dX4_init_42 (fun M H locs hx1' hne hW => ?_)
  clear hv17
  replace hx1 := hx1'
  clear hx1'
  replace hO := (hne 220 (by omega)).trans hO
  replace hx2 := (hne 222 (by omega)).trans hx2
  replace hF4 := fun j h1 h2 => (hne j (by omega)).trans (hF4 j h1 h2)
  replace hF7 := fun j h1 h2 => (hne j (by omega)).trans (hF7 j h1 h2)
  replace hF10 := fun j h1 h2 => (hne j (by omega)).trans (hF10 j h1 h2)
  replace hF13 := fun j h1 h2 => (hne j (by omega)).trans (hF13 j h1 h2)
  replace hF16 := fun j h1 h2 => (hne j (by omega)).trans (hF16 j h1 h2)
  replace hB := fun j h1 => (hne j (by omega)).trans (hB j h1)
  refine lv_aload_n C.1.1 C.1.2.1 dX4_init_43 rfl (lv_at hl 1 rfl) ?_
  refine r_get (ci := 4) (Cn := RX4) (T := TX4) (N := 3) C hW inG4 (by omega) hO rfl 1 (by decide) (ref := RX4) (g2 36 (Eq.refl _) rfl) rfl rfl dX4_init_44 ?_
  refine lv_iload_n C.1.1 C.1.2.1 dX4_init_47 rfl (lv_at hl 0 rfl) ?_
  refine r_new (ci := 6) (Cn := RX6) (T := TX6) (N := 11) (fs := blk 6) C hW inG6 tyX6 tyX6_ok (g2 33 (Eq.refl _) rfl) (g1 53 (Eq.refl _) rfl) (g1 4 (Eq.refl _) rfl) rfl bk_6 (by decide) (by decide) dX4_init_48 (fun M H hx18 hne hW => ?_)
  replace hO := (hne 220 (by omega)).trans hO
  replace hx1 := (hne 221 (by omega)).trans hx1
  replace hx2 := (hne 222 (by omega)).trans hx2
  replace hF4 := fun j h1 h2 => (hne j (by omega)).trans (hF4 j h1 h2)
  replace hF7 := fun j h1 h2 => (hne j (by omega)).trans (hF7 j h1 h2)
  replace hF10 := fun j h1 h2 => (hne j (by omega)).trans (hF10 j h1 h2)
  replace hF13 := fun j h1 h2 => (hne j (by omega)).trans (hF13 j h1 h2)
  replace hF16 := fun j h1 h2 => (hne j (by omega)).trans (hF16 j h1 h2)
  replace hB := fun j h1 => (hne j (by omega)).trans (hB j h1)
  refine lv_dup C.1.1 C.1.2.1 dX4_init_51 rfl ?_
  replace hx18 : M 228 = .inr (kd 228, blk (kd 228)) := by rw [hx18, show kd 228 = 6 from (by decide)]
  refine r_callIN (rest := [.ref (g.1 + 228), .int 2, .ref (g.1 + 222)]) C hKc hW (c_X6_init g l 228 (by decide)) hx18 cd_X6_init (by decide +kernel) (g1 55 (Eq.refl _) rfl) (g1 4 (Eq.refl _) rfl) rfl (by decide +kernel) ⟨by decide, by decide⟩ ⟨by decide, by decide⟩ hl.1 (Nat.le_of_ble_eq_true rfl) dX4_init_52 (fun M H locs hF19 hb hW => ?_)
  replace hO := (hb 220 (by omega)).trans hO
  replace hx1 := (hb 221 (by omega)).trans hx1
  replace hx2 := (hb 222 (by omega)).trans hx2
  replace hF4 := fun j h1 h2 => (hb j (by omega)).trans (hF4 j h1 h2)
  replace hF7 := fun j h1 h2 => (hb j (by omega)).trans (hF7 j h1 h2)
  replace hF10 := fun j h1 h2 => (hb j (by omega)).trans (hF10 j h1 h2)
  replace hF13 := fun j h1 h2 => (hb j (by omega)).trans (hF13 j h1 h2)
  replace hF16 := fun j h1 h2 => (hb j (by omega)).trans (hF16 j h1 h2)
  replace hB := fun j h1 => (hb j (by omega)).trans (hB j h1)
  have hW : Wr g s 229 M H locs := hW
  have hv20 := (hF19 228 (by omega) (by omega)).trans (EE_6 (by decide))
  refine r_ast (j := 2) (t := 4) (ci := 6) (N := 7) (r := (RX6, TX6, 11)) C hW (by omega) hx2 rfl (by omega) hv20 rfl (by decide) (by decide) (by decide) dX4_init_55 (fun M H locs hx2' hne hW => ?_)
  clear hv20
  replace hx2 := hx2'
  clear hx2'
  replace hO := (hne 220 (by omega)).trans hO
  replace hx1 := (hne 221 (by omega)).trans hx1
  replace hF4 := fun j h1 h2 => (hne j (by omega)).trans (hF4 j h1 h2)
  replace hF7 := fun j h1 h2 => (hne j (by omega)).trans (hF7 j h1 h2)
  replace hF10 := fun j h1 h2 => (hne j (by omega)).trans (hF10 j h1 h2)
  replace hF13 := fun j h1 h2 => (hne j (by omega)).trans (hF13 j h1 h2)
  replace hF16 := fun j h1 h2 => (hne j (by omega)).trans (hF16 j h1 h2)
  replace hF19 := fun j h1 h2 => (hne j (by omega)).trans (hF19 j h1 h2)
  replace hB := fun j h1 => (hne j (by omega)).trans (hB j h1)
  refine lv_iinc (v := 3) (lv' := [(1, .int 3), (0, .ref (g.1 + 220))]) C.1.1 C.1.2.1 dX4_init_56 hl (k := 0) rfl (by decide) (by decide) rfl (fun ls hl => ?_)
  refine lv_goto (tgt := 24) C.1.1 C.1.2.1 dX4_init_59 (by decide) ?_
  refine lv_iload_n C.1.1 C.1.2.1 dX4_init_24 rfl (lv_at hl 0 rfl) ?_
  refine lv_bipush (v := 7) C.1.1 C.1.2.1 dX4_init_25 (by decide) ?_
  refine lv_icmp_ge (tgt := 62) C.1.1 C.1.2.1 dX4_init_27 (by decide) (fun hc => absurd hc (by decide)) (fun _ => ?_)
  refine lv_aload_n C.1.1 C.1.2.1 dX4_init_30 rfl (lv_at hl 1 rfl) ?_
  refine r_get (ci := 4) (Cn := RX4) (T := TX4) (N := 3) C hW inG4 (by omega) hO rfl 0 (by decide) (ref := RX4) (g2 35 (Eq.refl _) rfl) rfl rfl dX4_init_31 ?_
  refine lv_iload_n C.1.1 C.1.2.1 dX4_init_34 rfl (lv_at hl 0 rfl) ?_
  refine r_new (ci := 6) (Cn := RX6) (T := TX6) (N := 11) (fs := blk 6) C hW inG6 tyX6 tyX6_ok (g2 33 (Eq.refl _) rfl) (g1 53 (Eq.refl _) rfl) (g1 4 (Eq.refl _) rfl) rfl bk_6 (by decide) (by decide) dX4_init_35 (fun M H hx21 hne hW => ?_)
  replace hO := (hne 220 (by omega)).trans hO
  replace hx1 := (hne 221 (by omega)).trans hx1
  replace hx2 := (hne 222 (by omega)).trans hx2
  replace hF4 := fun j h1 h2 => (hne j (by omega)).trans (hF4 j h1 h2)
  replace hF7 := fun j h1 h2 => (hne j (by omega)).trans (hF7 j h1 h2)
  replace hF10 := fun j h1 h2 => (hne j (by omega)).trans (hF10 j h1 h2)
  replace hF13 := fun j h1 h2 => (hne j (by omega)).trans (hF13 j h1 h2)
  replace hF16 := fun j h1 h2 => (hne j (by omega)).trans (hF16 j h1 h2)
  replace hF19 := fun j h1 h2 => (hne j (by omega)).trans (hF19 j h1 h2)
  replace hB := fun j h1 => (hne j (by omega)).trans (hB j h1)
  refine lv_dup C.1.1 C.1.2.1 dX4_init_38 rfl ?_
  replace hx21 : M 229 = .inr (kd 229, blk (kd 229)) := by rw [hx21, show kd 229 = 6 from (by decide)]
  refine r_callIN (rest := [.ref (g.1 + 229), .int 3, .ref (g.1 + 221)]) C hKc hW (c_X6_init g l 229 (by decide)) hx21 cd_X6_init (by decide +kernel) (g1 55 (Eq.refl _) rfl) (g1 4 (Eq.refl _) rfl) rfl (by decide +kernel) ⟨by decide, by decide⟩ ⟨by decide, by decide⟩ hl.1 (Nat.le_of_ble_eq_true rfl) dX4_init_39 (fun M H locs hF22 hb hW => ?_)
  replace hO := (hb 220 (by omega)).trans hO
  replace hx1 := (hb 221 (by omega)).trans hx1
  replace hx2 := (hb 222 (by omega)).trans hx2
  replace hF4 := fun j h1 h2 => (hb j (by omega)).trans (hF4 j h1 h2)
  replace hF7 := fun j h1 h2 => (hb j (by omega)).trans (hF7 j h1 h2)
  replace hF10 := fun j h1 h2 => (hb j (by omega)).trans (hF10 j h1 h2)
  replace hF13 := fun j h1 h2 => (hb j (by omega)).trans (hF13 j h1 h2)
  replace hF16 := fun j h1 h2 => (hb j (by omega)).trans (hF16 j h1 h2)
  replace hF19 := fun j h1 h2 => (hb j (by omega)).trans (hF19 j h1 h2)
  replace hB := fun j h1 => (hb j (by omega)).trans (hB j h1)
  have hW : Wr g s 230 M H locs := hW
  have hv23 := (hF22 229 (by omega) (by omega)).trans (EE_6 (by decide))
  refine r_ast (j := 3) (t := 4) (ci := 6) (N := 7) (r := (RX6, TX6, 11)) C hW (by omega) hx1 rfl (by omega) hv23 rfl (by decide) (by decide) (by decide) dX4_init_42 (fun M H locs hx1' hne hW => ?_)
  clear hv23
  replace hx1 := hx1'
  clear hx1'
  replace hO := (hne 220 (by omega)).trans hO
  replace hx2 := (hne 222 (by omega)).trans hx2
  replace hF4 := fun j h1 h2 => (hne j (by omega)).trans (hF4 j h1 h2)
  replace hF7 := fun j h1 h2 => (hne j (by omega)).trans (hF7 j h1 h2)
  replace hF10 := fun j h1 h2 => (hne j (by omega)).trans (hF10 j h1 h2)
  replace hF13 := fun j h1 h2 => (hne j (by omega)).trans (hF13 j h1 h2)
  replace hF16 := fun j h1 h2 => (hne j (by omega)).trans (hF16 j h1 h2)
  replace hF19 := fun j h1 h2 => (hne j (by omega)).trans (hF19 j h1 h2)
  replace hF22 := fun j h1 h2 => (hne j (by omega)).trans (hF22 j h1 h2)
  replace hB := fun j h1 => (hne j (by omega)).trans (hB j h1)
  refine lv_aload_n C.1.1 C.1.2.1 dX4_init_43 rfl (lv_at hl 1 rfl) ?_
  refine r_get (ci := 4) (Cn := RX4) (T := TX4) (N := 3) C hW inG4 (by omega) hO rfl 1 (by decide) (ref := RX4) (g2 36 (Eq.refl _) rfl) rfl rfl dX4_init_44 ?_
  refine lv_iload_n C.1.1 C.1.2.1 dX4_init_47 rfl (lv_at hl 0 rfl) ?_
  refine r_new (ci := 6) (Cn := RX6) (T := TX6) (N := 11) (fs := blk 6) C hW inG6 tyX6 tyX6_ok (g2 33 (Eq.refl _) rfl) (g1 53 (Eq.refl _) rfl) (g1 4 (Eq.refl _) rfl) rfl bk_6 (by decide) (by decide) dX4_init_48 (fun M H hx24 hne hW => ?_)
  replace hO := (hne 220 (by omega)).trans hO
  replace hx1 := (hne 221 (by omega)).trans hx1
  replace hx2 := (hne 222 (by omega)).trans hx2
  replace hF4 := fun j h1 h2 => (hne j (by omega)).trans (hF4 j h1 h2)
  replace hF7 := fun j h1 h2 => (hne j (by omega)).trans (hF7 j h1 h2)
  replace hF10 := fun j h1 h2 => (hne j (by omega)).trans (hF10 j h1 h2)
  replace hF13 := fun j h1 h2 => (hne j (by omega)).trans (hF13 j h1 h2)
  replace hF16 := fun j h1 h2 => (hne j (by omega)).trans (hF16 j h1 h2)
  replace hF19 := fun j h1 h2 => (hne j (by omega)).trans (hF19 j h1 h2)
  replace hF22 := fun j h1 h2 => (hne j (by omega)).trans (hF22 j h1 h2)
  replace hB := fun j h1 => (hne j (by omega)).trans (hB j h1)
  refine lv_dup C.1.1 C.1.2.1 dX4_init_51 rfl ?_
  replace hx24 : M 230 = .inr (kd 230, blk (kd 230)) := by rw [hx24, show kd 230 = 6 from (by decide)]
  refine r_callIN (rest := [.ref (g.1 + 230), .int 3, .ref (g.1 + 222)]) C hKc hW (c_X6_init g l 230 (by decide)) hx24 cd_X6_init (by decide +kernel) (g1 55 (Eq.refl _) rfl) (g1 4 (Eq.refl _) rfl) rfl (by decide +kernel) ⟨by decide, by decide⟩ ⟨by decide, by decide⟩ hl.1 (Nat.le_of_ble_eq_true rfl) dX4_init_52 (fun M H locs hF25 hb hW => ?_)
  replace hO := (hb 220 (by omega)).trans hO
  replace hx1 := (hb 221 (by omega)).trans hx1
  replace hx2 := (hb 222 (by omega)).trans hx2
  replace hF4 := fun j h1 h2 => (hb j (by omega)).trans (hF4 j h1 h2)
  replace hF7 := fun j h1 h2 => (hb j (by omega)).trans (hF7 j h1 h2)
  replace hF10 := fun j h1 h2 => (hb j (by omega)).trans (hF10 j h1 h2)
  replace hF13 := fun j h1 h2 => (hb j (by omega)).trans (hF13 j h1 h2)
  replace hF16 := fun j h1 h2 => (hb j (by omega)).trans (hF16 j h1 h2)
  replace hF19 := fun j h1 h2 => (hb j (by omega)).trans (hF19 j h1 h2)
  replace hF22 := fun j h1 h2 => (hb j (by omega)).trans (hF22 j h1 h2)
  replace hB := fun j h1 => (hb j (by omega)).trans (hB j h1)
  have hW : Wr g s 231 M H locs := hW
  have hv26 := (hF25 230 (by omega) (by omega)).trans (EE_6 (by decide))
  refine r_ast (j := 3) (t := 4) (ci := 6) (N := 7) (r := (RX6, TX6, 11)) C hW (by omega) hx2 rfl (by omega) hv26 rfl (by decide) (by decide) (by decide) dX4_init_55 (fun M H locs hx2' hne hW => ?_)
  clear hv26
  replace hx2 := hx2'
  clear hx2'
  replace hO := (hne 220 (by omega)).trans hO
  replace hx1 := (hne 221 (by omega)).trans hx1
  replace hF4 := fun j h1 h2 => (hne j (by omega)).trans (hF4 j h1 h2)
  replace hF7 := fun j h1 h2 => (hne j (by omega)).trans (hF7 j h1 h2)
  replace hF10 := fun j h1 h2 => (hne j (by omega)).trans (hF10 j h1 h2)
  replace hF13 := fun j h1 h2 => (hne j (by omega)).trans (hF13 j h1 h2)
  replace hF16 := fun j h1 h2 => (hne j (by omega)).trans (hF16 j h1 h2)
  replace hF19 := fun j h1 h2 => (hne j (by omega)).trans (hF19 j h1 h2)
  replace hF22 := fun j h1 h2 => (hne j (by omega)).trans (hF22 j h1 h2)
  replace hF25 := fun j h1 h2 => (hne j (by omega)).trans (hF25 j h1 h2)
  replace hB := fun j h1 => (hne j (by omega)).trans (hB j h1)
  refine lv_iinc (v := 4) (lv' := [(1, .int 4), (0, .ref (g.1 + 220))]) C.1.1 C.1.2.1 dX4_init_56 hl (k := 0) rfl (by decide) (by decide) rfl (fun ls hl => ?_)
  refine lv_goto (tgt := 24) C.1.1 C.1.2.1 dX4_init_59 (by decide) ?_
  refine lv_iload_n C.1.1 C.1.2.1 dX4_init_24 rfl (lv_at hl 0 rfl) ?_
  refine lv_bipush (v := 7) C.1.1 C.1.2.1 dX4_init_25 (by decide) ?_
  refine lv_icmp_ge (tgt := 62) C.1.1 C.1.2.1 dX4_init_27 (by decide) (fun hc => absurd hc (by decide)) (fun _ => ?_)
  refine lv_aload_n C.1.1 C.1.2.1 dX4_init_30 rfl (lv_at hl 1 rfl) ?_
  refine r_get (ci := 4) (Cn := RX4) (T := TX4) (N := 3) C hW inG4 (by omega) hO rfl 0 (by decide) (ref := RX4) (g2 35 (Eq.refl _) rfl) rfl rfl dX4_init_31 ?_
  refine lv_iload_n C.1.1 C.1.2.1 dX4_init_34 rfl (lv_at hl 0 rfl) ?_
  refine r_new (ci := 6) (Cn := RX6) (T := TX6) (N := 11) (fs := blk 6) C hW inG6 tyX6 tyX6_ok (g2 33 (Eq.refl _) rfl) (g1 53 (Eq.refl _) rfl) (g1 4 (Eq.refl _) rfl) rfl bk_6 (by decide) (by decide) dX4_init_35 (fun M H hx27 hne hW => ?_)
  replace hO := (hne 220 (by omega)).trans hO
  replace hx1 := (hne 221 (by omega)).trans hx1
  replace hx2 := (hne 222 (by omega)).trans hx2
  replace hF4 := fun j h1 h2 => (hne j (by omega)).trans (hF4 j h1 h2)
  replace hF7 := fun j h1 h2 => (hne j (by omega)).trans (hF7 j h1 h2)
  replace hF10 := fun j h1 h2 => (hne j (by omega)).trans (hF10 j h1 h2)
  replace hF13 := fun j h1 h2 => (hne j (by omega)).trans (hF13 j h1 h2)
  replace hF16 := fun j h1 h2 => (hne j (by omega)).trans (hF16 j h1 h2)
  replace hF19 := fun j h1 h2 => (hne j (by omega)).trans (hF19 j h1 h2)
  replace hF22 := fun j h1 h2 => (hne j (by omega)).trans (hF22 j h1 h2)
  replace hF25 := fun j h1 h2 => (hne j (by omega)).trans (hF25 j h1 h2)
  replace hB := fun j h1 => (hne j (by omega)).trans (hB j h1)
  refine lv_dup C.1.1 C.1.2.1 dX4_init_38 rfl ?_
  replace hx27 : M 231 = .inr (kd 231, blk (kd 231)) := by rw [hx27, show kd 231 = 6 from (by decide)]
  refine r_callIN (rest := [.ref (g.1 + 231), .int 4, .ref (g.1 + 221)]) C hKc hW (c_X6_init g l 231 (by decide)) hx27 cd_X6_init (by decide +kernel) (g1 55 (Eq.refl _) rfl) (g1 4 (Eq.refl _) rfl) rfl (by decide +kernel) ⟨by decide, by decide⟩ ⟨by decide, by decide⟩ hl.1 (Nat.le_of_ble_eq_true rfl) dX4_init_39 (fun M H locs hF28 hb hW => ?_)
  replace hO := (hb 220 (by omega)).trans hO
  replace hx1 := (hb 221 (by omega)).trans hx1
  replace hx2 := (hb 222 (by omega)).trans hx2
  replace hF4 := fun j h1 h2 => (hb j (by omega)).trans (hF4 j h1 h2)
  replace hF7 := fun j h1 h2 => (hb j (by omega)).trans (hF7 j h1 h2)
  replace hF10 := fun j h1 h2 => (hb j (by omega)).trans (hF10 j h1 h2)
  replace hF13 := fun j h1 h2 => (hb j (by omega)).trans (hF13 j h1 h2)
  replace hF16 := fun j h1 h2 => (hb j (by omega)).trans (hF16 j h1 h2)
  replace hF19 := fun j h1 h2 => (hb j (by omega)).trans (hF19 j h1 h2)
  replace hF22 := fun j h1 h2 => (hb j (by omega)).trans (hF22 j h1 h2)
  replace hF25 := fun j h1 h2 => (hb j (by omega)).trans (hF25 j h1 h2)
  replace hB := fun j h1 => (hb j (by omega)).trans (hB j h1)
  have hW : Wr g s 232 M H locs := hW
  have hv29 := (hF28 231 (by omega) (by omega)).trans (EE_6 (by decide))
  refine r_ast (j := 4) (t := 4) (ci := 6) (N := 7) (r := (RX6, TX6, 11)) C hW (by omega) hx1 rfl (by omega) hv29 rfl (by decide) (by decide) (by decide) dX4_init_42 (fun M H locs hx1' hne hW => ?_)
  clear hv29
  replace hx1 := hx1'
  clear hx1'
  replace hO := (hne 220 (by omega)).trans hO
  replace hx2 := (hne 222 (by omega)).trans hx2
  replace hF4 := fun j h1 h2 => (hne j (by omega)).trans (hF4 j h1 h2)
  replace hF7 := fun j h1 h2 => (hne j (by omega)).trans (hF7 j h1 h2)
  replace hF10 := fun j h1 h2 => (hne j (by omega)).trans (hF10 j h1 h2)
  replace hF13 := fun j h1 h2 => (hne j (by omega)).trans (hF13 j h1 h2)
  replace hF16 := fun j h1 h2 => (hne j (by omega)).trans (hF16 j h1 h2)
  replace hF19 := fun j h1 h2 => (hne j (by omega)).trans (hF19 j h1 h2)
  replace hF22 := fun j h1 h2 => (hne j (by omega)).trans (hF22 j h1 h2)
  replace hF25 := fun j h1 h2 => (hne j (by omega)).trans (hF25 j h1 h2)
  replace hF28 := fun j h1 h2 => (hne j (by omega)).trans (hF28 j h1 h2)
  replace hB := fun j h1 => (hne j (by omega)).trans (hB j h1)
  refine lv_aload_n C.1.1 C.1.2.1 dX4_init_43 rfl (lv_at hl 1 rfl) ?_
  refine r_get (ci := 4) (Cn := RX4) (T := TX4) (N := 3) C hW inG4 (by omega) hO rfl 1 (by decide) (ref := RX4) (g2 36 (Eq.refl _) rfl) rfl rfl dX4_init_44 ?_
  refine lv_iload_n C.1.1 C.1.2.1 dX4_init_47 rfl (lv_at hl 0 rfl) ?_
  refine r_new (ci := 6) (Cn := RX6) (T := TX6) (N := 11) (fs := blk 6) C hW inG6 tyX6 tyX6_ok (g2 33 (Eq.refl _) rfl) (g1 53 (Eq.refl _) rfl) (g1 4 (Eq.refl _) rfl) rfl bk_6 (by decide) (by decide) dX4_init_48 (fun M H hx30 hne hW => ?_)
  replace hO := (hne 220 (by omega)).trans hO
  replace hx1 := (hne 221 (by omega)).trans hx1
  replace hx2 := (hne 222 (by omega)).trans hx2
  replace hF4 := fun j h1 h2 => (hne j (by omega)).trans (hF4 j h1 h2)
  replace hF7 := fun j h1 h2 => (hne j (by omega)).trans (hF7 j h1 h2)
  replace hF10 := fun j h1 h2 => (hne j (by omega)).trans (hF10 j h1 h2)
  replace hF13 := fun j h1 h2 => (hne j (by omega)).trans (hF13 j h1 h2)
  replace hF16 := fun j h1 h2 => (hne j (by omega)).trans (hF16 j h1 h2)
  replace hF19 := fun j h1 h2 => (hne j (by omega)).trans (hF19 j h1 h2)
  replace hF22 := fun j h1 h2 => (hne j (by omega)).trans (hF22 j h1 h2)
  replace hF25 := fun j h1 h2 => (hne j (by omega)).trans (hF25 j h1 h2)
  replace hF28 := fun j h1 h2 => (hne j (by omega)).trans (hF28 j h1 h2)
  replace hB := fun j h1 => (hne j (by omega)).trans (hB j h1)
  refine lv_dup C.1.1 C.1.2.1 dX4_init_51 rfl ?_
  replace hx30 : M 232 = .inr (kd 232, blk (kd 232)) := by rw [hx30, show kd 232 = 6 from (by decide)]
  refine r_callIN (rest := [.ref (g.1 + 232), .int 4, .ref (g.1 + 222)]) C hKc hW (c_X6_init g l 232 (by decide)) hx30 cd_X6_init (by decide +kernel) (g1 55 (Eq.refl _) rfl) (g1 4 (Eq.refl _) rfl) rfl (by decide +kernel) ⟨by decide, by decide⟩ ⟨by decide, by decide⟩ hl.1 (Nat.le_of_ble_eq_true rfl) dX4_init_52 (fun M H locs hF31 hb hW => ?_)
  replace hO := (hb 220 (by omega)).trans hO
  replace hx1 := (hb 221 (by omega)).trans hx1
  replace hx2 := (hb 222 (by omega)).trans hx2
  replace hF4 := fun j h1 h2 => (hb j (by omega)).trans (hF4 j h1 h2)
  replace hF7 := fun j h1 h2 => (hb j (by omega)).trans (hF7 j h1 h2)
  replace hF10 := fun j h1 h2 => (hb j (by omega)).trans (hF10 j h1 h2)
  replace hF13 := fun j h1 h2 => (hb j (by omega)).trans (hF13 j h1 h2)
  replace hF16 := fun j h1 h2 => (hb j (by omega)).trans (hF16 j h1 h2)
  replace hF19 := fun j h1 h2 => (hb j (by omega)).trans (hF19 j h1 h2)
  replace hF22 := fun j h1 h2 => (hb j (by omega)).trans (hF22 j h1 h2)
  replace hF25 := fun j h1 h2 => (hb j (by omega)).trans (hF25 j h1 h2)
  replace hF28 := fun j h1 h2 => (hb j (by omega)).trans (hF28 j h1 h2)
  replace hB := fun j h1 => (hb j (by omega)).trans (hB j h1)
  have hW : Wr g s 233 M H locs := hW
  have hv32 := (hF31 232 (by omega) (by omega)).trans (EE_6 (by decide))
  refine r_ast (j := 4) (t := 4) (ci := 6) (N := 7) (r := (RX6, TX6, 11)) C hW (by omega) hx2 rfl (by omega) hv32 rfl (by decide) (by decide) (by decide) dX4_init_55 (fun M H locs hx2' hne hW => ?_)
  clear hv32
  replace hx2 := hx2'
  clear hx2'
  replace hO := (hne 220 (by omega)).trans hO
  replace hx1 := (hne 221 (by omega)).trans hx1
  replace hF4 := fun j h1 h2 => (hne j (by omega)).trans (hF4 j h1 h2)
  replace hF7 := fun j h1 h2 => (hne j (by omega)).trans (hF7 j h1 h2)
  replace hF10 := fun j h1 h2 => (hne j (by omega)).trans (hF10 j h1 h2)
  replace hF13 := fun j h1 h2 => (hne j (by omega)).trans (hF13 j h1 h2)
  replace hF16 := fun j h1 h2 => (hne j (by omega)).trans (hF16 j h1 h2)
  replace hF19 := fun j h1 h2 => (hne j (by omega)).trans (hF19 j h1 h2)
  replace hF22 := fun j h1 h2 => (hne j (by omega)).trans (hF22 j h1 h2)
  replace hF25 := fun j h1 h2 => (hne j (by omega)).trans (hF25 j h1 h2)
  replace hF28 := fun j h1 h2 => (hne j (by omega)).trans (hF28 j h1 h2)
  replace hF31 := fun j h1 h2 => (hne j (by omega)).trans (hF31 j h1 h2)
  replace hB := fun j h1 => (hne j (by omega)).trans (hB j h1)
  refine lv_iinc (v := 5) (lv' := [(1, .int 5), (0, .ref (g.1 + 220))]) C.1.1 C.1.2.1 dX4_init_56 hl (k := 0) rfl (by decide) (by decide) rfl (fun ls hl => ?_)
  refine lv_goto (tgt := 24) C.1.1 C.1.2.1 dX4_init_59 (by decide) ?_
  refine lv_iload_n C.1.1 C.1.2.1 dX4_init_24 rfl (lv_at hl 0 rfl) ?_
  refine lv_bipush (v := 7) C.1.1 C.1.2.1 dX4_init_25 (by decide) ?_
  refine lv_icmp_ge (tgt := 62) C.1.1 C.1.2.1 dX4_init_27 (by decide) (fun hc => absurd hc (by decide)) (fun _ => ?_)
  refine lv_aload_n C.1.1 C.1.2.1 dX4_init_30 rfl (lv_at hl 1 rfl) ?_
  refine r_get (ci := 4) (Cn := RX4) (T := TX4) (N := 3) C hW inG4 (by omega) hO rfl 0 (by decide) (ref := RX4) (g2 35 (Eq.refl _) rfl) rfl rfl dX4_init_31 ?_
  refine lv_iload_n C.1.1 C.1.2.1 dX4_init_34 rfl (lv_at hl 0 rfl) ?_
  refine r_new (ci := 6) (Cn := RX6) (T := TX6) (N := 11) (fs := blk 6) C hW inG6 tyX6 tyX6_ok (g2 33 (Eq.refl _) rfl) (g1 53 (Eq.refl _) rfl) (g1 4 (Eq.refl _) rfl) rfl bk_6 (by decide) (by decide) dX4_init_35 (fun M H hx33 hne hW => ?_)
  replace hO := (hne 220 (by omega)).trans hO
  replace hx1 := (hne 221 (by omega)).trans hx1
  replace hx2 := (hne 222 (by omega)).trans hx2
  replace hF4 := fun j h1 h2 => (hne j (by omega)).trans (hF4 j h1 h2)
  replace hF7 := fun j h1 h2 => (hne j (by omega)).trans (hF7 j h1 h2)
  replace hF10 := fun j h1 h2 => (hne j (by omega)).trans (hF10 j h1 h2)
  replace hF13 := fun j h1 h2 => (hne j (by omega)).trans (hF13 j h1 h2)
  replace hF16 := fun j h1 h2 => (hne j (by omega)).trans (hF16 j h1 h2)
  replace hF19 := fun j h1 h2 => (hne j (by omega)).trans (hF19 j h1 h2)
  replace hF22 := fun j h1 h2 => (hne j (by omega)).trans (hF22 j h1 h2)
  replace hF25 := fun j h1 h2 => (hne j (by omega)).trans (hF25 j h1 h2)
  replace hF28 := fun j h1 h2 => (hne j (by omega)).trans (hF28 j h1 h2)
  replace hF31 := fun j h1 h2 => (hne j (by omega)).trans (hF31 j h1 h2)
  replace hB := fun j h1 => (hne j (by omega)).trans (hB j h1)
  refine lv_dup C.1.1 C.1.2.1 dX4_init_38 rfl ?_
  replace hx33 : M 233 = .inr (kd 233, blk (kd 233)) := by rw [hx33, show kd 233 = 6 from (by decide)]
  refine r_callIN (rest := [.ref (g.1 + 233), .int 5, .ref (g.1 + 221)]) C hKc hW (c_X6_init g l 233 (by decide)) hx33 cd_X6_init (by decide +kernel) (g1 55 (Eq.refl _) rfl) (g1 4 (Eq.refl _) rfl) rfl (by decide +kernel) ⟨by decide, by decide⟩ ⟨by decide, by decide⟩ hl.1 (Nat.le_of_ble_eq_true rfl) dX4_init_39 (fun M H locs hF34 hb hW => ?_)
  replace hO := (hb 220 (by omega)).trans hO
  replace hx1 := (hb 221 (by omega)).trans hx1
  replace hx2 := (hb 222 (by omega)).trans hx2
  replace hF4 := fun j h1 h2 => (hb j (by omega)).trans (hF4 j h1 h2)
  replace hF7 := fun j h1 h2 => (hb j (by omega)).trans (hF7 j h1 h2)
  replace hF10 := fun j h1 h2 => (hb j (by omega)).trans (hF10 j h1 h2)
  replace hF13 := fun j h1 h2 => (hb j (by omega)).trans (hF13 j h1 h2)
  replace hF16 := fun j h1 h2 => (hb j (by omega)).trans (hF16 j h1 h2)
  replace hF19 := fun j h1 h2 => (hb j (by omega)).trans (hF19 j h1 h2)
  replace hF22 := fun j h1 h2 => (hb j (by omega)).trans (hF22 j h1 h2)
  replace hF25 := fun j h1 h2 => (hb j (by omega)).trans (hF25 j h1 h2)
  replace hF28 := fun j h1 h2 => (hb j (by omega)).trans (hF28 j h1 h2)
  replace hF31 := fun j h1 h2 => (hb j (by omega)).trans (hF31 j h1 h2)
  replace hB := fun j h1 => (hb j (by omega)).trans (hB j h1)
  have hW : Wr g s 234 M H locs := hW
  have hv35 := (hF34 233 (by omega) (by omega)).trans (EE_6 (by decide))
  refine r_ast (j := 5) (t := 4) (ci := 6) (N := 7) (r := (RX6, TX6, 11)) C hW (by omega) hx1 rfl (by omega) hv35 rfl (by decide) (by decide) (by decide) dX4_init_42 (fun M H locs hx1' hne hW => ?_)
  clear hv35
  replace hx1 := hx1'
  clear hx1'
  replace hO := (hne 220 (by omega)).trans hO
  replace hx2 := (hne 222 (by omega)).trans hx2
  replace hF4 := fun j h1 h2 => (hne j (by omega)).trans (hF4 j h1 h2)
  replace hF7 := fun j h1 h2 => (hne j (by omega)).trans (hF7 j h1 h2)
  replace hF10 := fun j h1 h2 => (hne j (by omega)).trans (hF10 j h1 h2)
  replace hF13 := fun j h1 h2 => (hne j (by omega)).trans (hF13 j h1 h2)
  replace hF16 := fun j h1 h2 => (hne j (by omega)).trans (hF16 j h1 h2)
  replace hF19 := fun j h1 h2 => (hne j (by omega)).trans (hF19 j h1 h2)
  replace hF22 := fun j h1 h2 => (hne j (by omega)).trans (hF22 j h1 h2)
  replace hF25 := fun j h1 h2 => (hne j (by omega)).trans (hF25 j h1 h2)
  replace hF28 := fun j h1 h2 => (hne j (by omega)).trans (hF28 j h1 h2)
  replace hF31 := fun j h1 h2 => (hne j (by omega)).trans (hF31 j h1 h2)
  replace hF34 := fun j h1 h2 => (hne j (by omega)).trans (hF34 j h1 h2)
  replace hB := fun j h1 => (hne j (by omega)).trans (hB j h1)
  refine lv_aload_n C.1.1 C.1.2.1 dX4_init_43 rfl (lv_at hl 1 rfl) ?_
  refine r_get (ci := 4) (Cn := RX4) (T := TX4) (N := 3) C hW inG4 (by omega) hO rfl 1 (by decide) (ref := RX4) (g2 36 (Eq.refl _) rfl) rfl rfl dX4_init_44 ?_
  refine lv_iload_n C.1.1 C.1.2.1 dX4_init_47 rfl (lv_at hl 0 rfl) ?_
  refine r_new (ci := 6) (Cn := RX6) (T := TX6) (N := 11) (fs := blk 6) C hW inG6 tyX6 tyX6_ok (g2 33 (Eq.refl _) rfl) (g1 53 (Eq.refl _) rfl) (g1 4 (Eq.refl _) rfl) rfl bk_6 (by decide) (by decide) dX4_init_48 (fun M H hx36 hne hW => ?_)
  replace hO := (hne 220 (by omega)).trans hO
  replace hx1 := (hne 221 (by omega)).trans hx1
  replace hx2 := (hne 222 (by omega)).trans hx2
  replace hF4 := fun j h1 h2 => (hne j (by omega)).trans (hF4 j h1 h2)
  replace hF7 := fun j h1 h2 => (hne j (by omega)).trans (hF7 j h1 h2)
  replace hF10 := fun j h1 h2 => (hne j (by omega)).trans (hF10 j h1 h2)
  replace hF13 := fun j h1 h2 => (hne j (by omega)).trans (hF13 j h1 h2)
  replace hF16 := fun j h1 h2 => (hne j (by omega)).trans (hF16 j h1 h2)
  replace hF19 := fun j h1 h2 => (hne j (by omega)).trans (hF19 j h1 h2)
  replace hF22 := fun j h1 h2 => (hne j (by omega)).trans (hF22 j h1 h2)
  replace hF25 := fun j h1 h2 => (hne j (by omega)).trans (hF25 j h1 h2)
  replace hF28 := fun j h1 h2 => (hne j (by omega)).trans (hF28 j h1 h2)
  replace hF31 := fun j h1 h2 => (hne j (by omega)).trans (hF31 j h1 h2)
  replace hF34 := fun j h1 h2 => (hne j (by omega)).trans (hF34 j h1 h2)
  replace hB := fun j h1 => (hne j (by omega)).trans (hB j h1)
  refine lv_dup C.1.1 C.1.2.1 dX4_init_51 rfl ?_
  replace hx36 : M 234 = .inr (kd 234, blk (kd 234)) := by rw [hx36, show kd 234 = 6 from (by decide)]
  refine r_callIN (rest := [.ref (g.1 + 234), .int 5, .ref (g.1 + 222)]) C hKc hW (c_X6_init g l 234 (by decide)) hx36 cd_X6_init (by decide +kernel) (g1 55 (Eq.refl _) rfl) (g1 4 (Eq.refl _) rfl) rfl (by decide +kernel) ⟨by decide, by decide⟩ ⟨by decide, by decide⟩ hl.1 (Nat.le_of_ble_eq_true rfl) dX4_init_52 (fun M H locs hF37 hb hW => ?_)
  replace hO := (hb 220 (by omega)).trans hO
  replace hx1 := (hb 221 (by omega)).trans hx1
  replace hx2 := (hb 222 (by omega)).trans hx2
  replace hF4 := fun j h1 h2 => (hb j (by omega)).trans (hF4 j h1 h2)
  replace hF7 := fun j h1 h2 => (hb j (by omega)).trans (hF7 j h1 h2)
  replace hF10 := fun j h1 h2 => (hb j (by omega)).trans (hF10 j h1 h2)
  replace hF13 := fun j h1 h2 => (hb j (by omega)).trans (hF13 j h1 h2)
  replace hF16 := fun j h1 h2 => (hb j (by omega)).trans (hF16 j h1 h2)
  replace hF19 := fun j h1 h2 => (hb j (by omega)).trans (hF19 j h1 h2)
  replace hF22 := fun j h1 h2 => (hb j (by omega)).trans (hF22 j h1 h2)
  replace hF25 := fun j h1 h2 => (hb j (by omega)).trans (hF25 j h1 h2)
  replace hF28 := fun j h1 h2 => (hb j (by omega)).trans (hF28 j h1 h2)
  replace hF31 := fun j h1 h2 => (hb j (by omega)).trans (hF31 j h1 h2)
  replace hF34 := fun j h1 h2 => (hb j (by omega)).trans (hF34 j h1 h2)
  replace hB := fun j h1 => (hb j (by omega)).trans (hB j h1)
  have hW : Wr g s 235 M H locs := hW
  have hv38 := (hF37 234 (by omega) (by omega)).trans (EE_6 (by decide))
  refine r_ast (j := 5) (t := 4) (ci := 6) (N := 7) (r := (RX6, TX6, 11)) C hW (by omega) hx2 rfl (by omega) hv38 rfl (by decide) (by decide) (by decide) dX4_init_55 (fun M H locs hx2' hne hW => ?_)
  clear hv38
  replace hx2 := hx2'
  clear hx2'
  replace hO := (hne 220 (by omega)).trans hO
  replace hx1 := (hne 221 (by omega)).trans hx1
  replace hF4 := fun j h1 h2 => (hne j (by omega)).trans (hF4 j h1 h2)
  replace hF7 := fun j h1 h2 => (hne j (by omega)).trans (hF7 j h1 h2)
  replace hF10 := fun j h1 h2 => (hne j (by omega)).trans (hF10 j h1 h2)
  replace hF13 := fun j h1 h2 => (hne j (by omega)).trans (hF13 j h1 h2)
  replace hF16 := fun j h1 h2 => (hne j (by omega)).trans (hF16 j h1 h2)
  replace hF19 := fun j h1 h2 => (hne j (by omega)).trans (hF19 j h1 h2)
  replace hF22 := fun j h1 h2 => (hne j (by omega)).trans (hF22 j h1 h2)
  replace hF25 := fun j h1 h2 => (hne j (by omega)).trans (hF25 j h1 h2)
  replace hF28 := fun j h1 h2 => (hne j (by omega)).trans (hF28 j h1 h2)
  replace hF31 := fun j h1 h2 => (hne j (by omega)).trans (hF31 j h1 h2)
  replace hF34 := fun j h1 h2 => (hne j (by omega)).trans (hF34 j h1 h2)
  replace hF37 := fun j h1 h2 => (hne j (by omega)).trans (hF37 j h1 h2)
  replace hB := fun j h1 => (hne j (by omega)).trans (hB j h1)
  refine lv_iinc (v := 6) (lv' := [(1, .int 6), (0, .ref (g.1 + 220))]) C.1.1 C.1.2.1 dX4_init_56 hl (k := 0) rfl (by decide) (by decide) rfl (fun ls hl => ?_)
  refine lv_goto (tgt := 24) C.1.1 C.1.2.1 dX4_init_59 (by decide) ?_
  refine lv_iload_n C.1.1 C.1.2.1 dX4_init_24 rfl (lv_at hl 0 rfl) ?_
  refine lv_bipush (v := 7) C.1.1 C.1.2.1 dX4_init_25 (by decide) ?_
  refine lv_icmp_ge (tgt := 62) C.1.1 C.1.2.1 dX4_init_27 (by decide) (fun hc => absurd hc (by decide)) (fun _ => ?_)
  refine lv_aload_n C.1.1 C.1.2.1 dX4_init_30 rfl (lv_at hl 1 rfl) ?_
  refine r_get (ci := 4) (Cn := RX4) (T := TX4) (N := 3) C hW inG4 (by omega) hO rfl 0 (by decide) (ref := RX4) (g2 35 (Eq.refl _) rfl) rfl rfl dX4_init_31 ?_
  refine lv_iload_n C.1.1 C.1.2.1 dX4_init_34 rfl (lv_at hl 0 rfl) ?_
  refine r_new (ci := 6) (Cn := RX6) (T := TX6) (N := 11) (fs := blk 6) C hW inG6 tyX6 tyX6_ok (g2 33 (Eq.refl _) rfl) (g1 53 (Eq.refl _) rfl) (g1 4 (Eq.refl _) rfl) rfl bk_6 (by decide) (by decide) dX4_init_35 (fun M H hx39 hne hW => ?_)
  replace hO := (hne 220 (by omega)).trans hO
  replace hx1 := (hne 221 (by omega)).trans hx1
  replace hx2 := (hne 222 (by omega)).trans hx2
  replace hF4 := fun j h1 h2 => (hne j (by omega)).trans (hF4 j h1 h2)
  replace hF7 := fun j h1 h2 => (hne j (by omega)).trans (hF7 j h1 h2)
  replace hF10 := fun j h1 h2 => (hne j (by omega)).trans (hF10 j h1 h2)
  replace hF13 := fun j h1 h2 => (hne j (by omega)).trans (hF13 j h1 h2)
  replace hF16 := fun j h1 h2 => (hne j (by omega)).trans (hF16 j h1 h2)
  replace hF19 := fun j h1 h2 => (hne j (by omega)).trans (hF19 j h1 h2)
  replace hF22 := fun j h1 h2 => (hne j (by omega)).trans (hF22 j h1 h2)
  replace hF25 := fun j h1 h2 => (hne j (by omega)).trans (hF25 j h1 h2)
  replace hF28 := fun j h1 h2 => (hne j (by omega)).trans (hF28 j h1 h2)
  replace hF31 := fun j h1 h2 => (hne j (by omega)).trans (hF31 j h1 h2)
  replace hF34 := fun j h1 h2 => (hne j (by omega)).trans (hF34 j h1 h2)
  replace hF37 := fun j h1 h2 => (hne j (by omega)).trans (hF37 j h1 h2)
  replace hB := fun j h1 => (hne j (by omega)).trans (hB j h1)
  refine lv_dup C.1.1 C.1.2.1 dX4_init_38 rfl ?_
  replace hx39 : M 235 = .inr (kd 235, blk (kd 235)) := by rw [hx39, show kd 235 = 6 from (by decide)]
  refine r_callIN (rest := [.ref (g.1 + 235), .int 6, .ref (g.1 + 221)]) C hKc hW (c_X6_init g l 235 (by decide)) hx39 cd_X6_init (by decide +kernel) (g1 55 (Eq.refl _) rfl) (g1 4 (Eq.refl _) rfl) rfl (by decide +kernel) ⟨by decide, by decide⟩ ⟨by decide, by decide⟩ hl.1 (Nat.le_of_ble_eq_true rfl) dX4_init_39 (fun M H locs hF40 hb hW => ?_)
  replace hO := (hb 220 (by omega)).trans hO
  replace hx1 := (hb 221 (by omega)).trans hx1
  replace hx2 := (hb 222 (by omega)).trans hx2
  replace hF4 := fun j h1 h2 => (hb j (by omega)).trans (hF4 j h1 h2)
  replace hF7 := fun j h1 h2 => (hb j (by omega)).trans (hF7 j h1 h2)
  replace hF10 := fun j h1 h2 => (hb j (by omega)).trans (hF10 j h1 h2)
  replace hF13 := fun j h1 h2 => (hb j (by omega)).trans (hF13 j h1 h2)
  replace hF16 := fun j h1 h2 => (hb j (by omega)).trans (hF16 j h1 h2)
  replace hF19 := fun j h1 h2 => (hb j (by omega)).trans (hF19 j h1 h2)
  replace hF22 := fun j h1 h2 => (hb j (by omega)).trans (hF22 j h1 h2)
  replace hF25 := fun j h1 h2 => (hb j (by omega)).trans (hF25 j h1 h2)
  replace hF28 := fun j h1 h2 => (hb j (by omega)).trans (hF28 j h1 h2)
  replace hF31 := fun j h1 h2 => (hb j (by omega)).trans (hF31 j h1 h2)
  replace hF34 := fun j h1 h2 => (hb j (by omega)).trans (hF34 j h1 h2)
  replace hF37 := fun j h1 h2 => (hb j (by omega)).trans (hF37 j h1 h2)
  replace hB := fun j h1 => (hb j (by omega)).trans (hB j h1)
  have hW : Wr g s 236 M H locs := hW
  have hv41 := (hF40 235 (by omega) (by omega)).trans (EE_6 (by decide))
  refine r_ast (j := 6) (t := 4) (ci := 6) (N := 7) (r := (RX6, TX6, 11)) C hW (by omega) hx1 rfl (by omega) hv41 rfl (by decide) (by decide) (by decide) dX4_init_42 (fun M H locs hx1' hne hW => ?_)
  clear hv41
  replace hx1 := hx1'
  clear hx1'
  replace hO := (hne 220 (by omega)).trans hO
  replace hx2 := (hne 222 (by omega)).trans hx2
  replace hF4 := fun j h1 h2 => (hne j (by omega)).trans (hF4 j h1 h2)
  replace hF7 := fun j h1 h2 => (hne j (by omega)).trans (hF7 j h1 h2)
  replace hF10 := fun j h1 h2 => (hne j (by omega)).trans (hF10 j h1 h2)
  replace hF13 := fun j h1 h2 => (hne j (by omega)).trans (hF13 j h1 h2)
  replace hF16 := fun j h1 h2 => (hne j (by omega)).trans (hF16 j h1 h2)
  replace hF19 := fun j h1 h2 => (hne j (by omega)).trans (hF19 j h1 h2)
  replace hF22 := fun j h1 h2 => (hne j (by omega)).trans (hF22 j h1 h2)
  replace hF25 := fun j h1 h2 => (hne j (by omega)).trans (hF25 j h1 h2)
  replace hF28 := fun j h1 h2 => (hne j (by omega)).trans (hF28 j h1 h2)
  replace hF31 := fun j h1 h2 => (hne j (by omega)).trans (hF31 j h1 h2)
  replace hF34 := fun j h1 h2 => (hne j (by omega)).trans (hF34 j h1 h2)
  replace hF37 := fun j h1 h2 => (hne j (by omega)).trans (hF37 j h1 h2)
  replace hF40 := fun j h1 h2 => (hne j (by omega)).trans (hF40 j h1 h2)
  replace hB := fun j h1 => (hne j (by omega)).trans (hB j h1)
  refine lv_aload_n C.1.1 C.1.2.1 dX4_init_43 rfl (lv_at hl 1 rfl) ?_
  refine r_get (ci := 4) (Cn := RX4) (T := TX4) (N := 3) C hW inG4 (by omega) hO rfl 1 (by decide) (ref := RX4) (g2 36 (Eq.refl _) rfl) rfl rfl dX4_init_44 ?_
  refine lv_iload_n C.1.1 C.1.2.1 dX4_init_47 rfl (lv_at hl 0 rfl) ?_
  refine r_new (ci := 6) (Cn := RX6) (T := TX6) (N := 11) (fs := blk 6) C hW inG6 tyX6 tyX6_ok (g2 33 (Eq.refl _) rfl) (g1 53 (Eq.refl _) rfl) (g1 4 (Eq.refl _) rfl) rfl bk_6 (by decide) (by decide) dX4_init_48 (fun M H hx42 hne hW => ?_)
  replace hO := (hne 220 (by omega)).trans hO
  replace hx1 := (hne 221 (by omega)).trans hx1
  replace hx2 := (hne 222 (by omega)).trans hx2
  replace hF4 := fun j h1 h2 => (hne j (by omega)).trans (hF4 j h1 h2)
  replace hF7 := fun j h1 h2 => (hne j (by omega)).trans (hF7 j h1 h2)
  replace hF10 := fun j h1 h2 => (hne j (by omega)).trans (hF10 j h1 h2)
  replace hF13 := fun j h1 h2 => (hne j (by omega)).trans (hF13 j h1 h2)
  replace hF16 := fun j h1 h2 => (hne j (by omega)).trans (hF16 j h1 h2)
  replace hF19 := fun j h1 h2 => (hne j (by omega)).trans (hF19 j h1 h2)
  replace hF22 := fun j h1 h2 => (hne j (by omega)).trans (hF22 j h1 h2)
  replace hF25 := fun j h1 h2 => (hne j (by omega)).trans (hF25 j h1 h2)
  replace hF28 := fun j h1 h2 => (hne j (by omega)).trans (hF28 j h1 h2)
  replace hF31 := fun j h1 h2 => (hne j (by omega)).trans (hF31 j h1 h2)
  replace hF34 := fun j h1 h2 => (hne j (by omega)).trans (hF34 j h1 h2)
  replace hF37 := fun j h1 h2 => (hne j (by omega)).trans (hF37 j h1 h2)
  replace hF40 := fun j h1 h2 => (hne j (by omega)).trans (hF40 j h1 h2)
  replace hB := fun j h1 => (hne j (by omega)).trans (hB j h1)
  refine lv_dup C.1.1 C.1.2.1 dX4_init_51 rfl ?_
  replace hx42 : M 236 = .inr (kd 236, blk (kd 236)) := by rw [hx42, show kd 236 = 6 from (by decide)]
  refine r_callIN (rest := [.ref (g.1 + 236), .int 6, .ref (g.1 + 222)]) C hKc hW (c_X6_init g l 236 (by decide)) hx42 cd_X6_init (by decide +kernel) (g1 55 (Eq.refl _) rfl) (g1 4 (Eq.refl _) rfl) rfl (by decide +kernel) ⟨by decide, by decide⟩ ⟨by decide, by decide⟩ hl.1 (Nat.le_of_ble_eq_true rfl) dX4_init_52 (fun M H locs hF43 hb hW => ?_)
  replace hO := (hb 220 (by omega)).trans hO
  replace hx1 := (hb 221 (by omega)).trans hx1
  replace hx2 := (hb 222 (by omega)).trans hx2
  replace hF4 := fun j h1 h2 => (hb j (by omega)).trans (hF4 j h1 h2)
  replace hF7 := fun j h1 h2 => (hb j (by omega)).trans (hF7 j h1 h2)
  replace hF10 := fun j h1 h2 => (hb j (by omega)).trans (hF10 j h1 h2)
  replace hF13 := fun j h1 h2 => (hb j (by omega)).trans (hF13 j h1 h2)
  replace hF16 := fun j h1 h2 => (hb j (by omega)).trans (hF16 j h1 h2)
  replace hF19 := fun j h1 h2 => (hb j (by omega)).trans (hF19 j h1 h2)
  replace hF22 := fun j h1 h2 => (hb j (by omega)).trans (hF22 j h1 h2)
  replace hF25 := fun j h1 h2 => (hb j (by omega)).trans (hF25 j h1 h2)
  replace hF28 := fun j h1 h2 => (hb j (by omega)).trans (hF28 j h1 h2)
  replace hF31 := fun j h1 h2 => (hb j (by omega)).trans (hF31 j h1 h2)
  replace hF34 := fun j h1 h2 => (hb j (by omega)).trans (hF34 j h1 h2)
  replace hF37 := fun j h1 h2 => (hb j (by omega)).trans (hF37 j h1 h2)
  replace hF40 := fun j h1 h2 => (hb j (by omega)).trans (hF40 j h1 h2)
  replace hB := fun j h1 => (hb j (by omega)).trans (hB j h1)
  have hW : Wr g s 237 M H locs := hW
  have hv44 := (hF43 236 (by omega) (by omega)).trans (EE_6 (by decide))
  refine r_ast (j := 6) (t := 4) (ci := 6) (N := 7) (r := (RX6, TX6, 11)) C hW (by omega) hx2 rfl (by omega) hv44 rfl (by decide) (by decide) (by decide) dX4_init_55 (fun M H locs hx2' hne hW => ?_)
  clear hv44
  replace hx2 := hx2'
  clear hx2'
  replace hO := (hne 220 (by omega)).trans hO
  replace hx1 := (hne 221 (by omega)).trans hx1
  replace hF4 := fun j h1 h2 => (hne j (by omega)).trans (hF4 j h1 h2)
  replace hF7 := fun j h1 h2 => (hne j (by omega)).trans (hF7 j h1 h2)
  replace hF10 := fun j h1 h2 => (hne j (by omega)).trans (hF10 j h1 h2)
  replace hF13 := fun j h1 h2 => (hne j (by omega)).trans (hF13 j h1 h2)
  replace hF16 := fun j h1 h2 => (hne j (by omega)).trans (hF16 j h1 h2)
  replace hF19 := fun j h1 h2 => (hne j (by omega)).trans (hF19 j h1 h2)
  replace hF22 := fun j h1 h2 => (hne j (by omega)).trans (hF22 j h1 h2)
  replace hF25 := fun j h1 h2 => (hne j (by omega)).trans (hF25 j h1 h2)
  replace hF28 := fun j h1 h2 => (hne j (by omega)).trans (hF28 j h1 h2)
  replace hF31 := fun j h1 h2 => (hne j (by omega)).trans (hF31 j h1 h2)
  replace hF34 := fun j h1 h2 => (hne j (by omega)).trans (hF34 j h1 h2)
  replace hF37 := fun j h1 h2 => (hne j (by omega)).trans (hF37 j h1 h2)
  replace hF40 := fun j h1 h2 => (hne j (by omega)).trans (hF40 j h1 h2)
  replace hF43 := fun j h1 h2 => (hne j (by omega)).trans (hF43 j h1 h2)
  replace hB := fun j h1 => (hne j (by omega)).trans (hB j h1)
  refine lv_iinc (v := 7) (lv' := [(1, .int 7), (0, .ref (g.1 + 220))]) C.1.1 C.1.2.1 dX4_init_56 hl (k := 0) rfl (by decide) (by decide) rfl (fun ls hl => ?_)
  refine lv_goto (tgt := 24) C.1.1 C.1.2.1 dX4_init_59 (by decide) ?_
  refine lv_iload_n C.1.1 C.1.2.1 dX4_init_24 rfl (lv_at hl 0 rfl) ?_
  refine lv_bipush (v := 7) C.1.1 C.1.2.1 dX4_init_25 (by decide) ?_
  refine lv_icmp_ge (tgt := 62) C.1.1 C.1.2.1 dX4_init_27 (by decide) (fun _ => ?_) (fun hc => absurd (by decide) hc)
  have hW := hW.norm (y := (7, rfa (fun j => g.1 + (223 + 2 * j)))) hx1 (by
    rw [vp_cell_q, vp_cell_q]
    unfold arrV
    congr 1)
  generalize hMM : va_up M 221 _ = M' at hW
  have hne : ∀ j, j ≠ 221 → M' j = M j := fun j h => by rw [← hMM]; simp [va_up, h]
  replace hx1 : M' 221 = E0 g 221 := by
    rw [← hMM]
    simp only [va_up, if_true]; rw [E0, EE_16 (by decide)]; rfl
  clear hMM
  replace hO := (hne 220 (by omega)).trans hO
  replace hx2 := (hne 222 (by omega)).trans hx2
  replace hF4 := fun j h1 h2 => (hne j (by omega)).trans (hF4 j h1 h2)
  replace hF7 := fun j h1 h2 => (hne j (by omega)).trans (hF7 j h1 h2)
  replace hF10 := fun j h1 h2 => (hne j (by omega)).trans (hF10 j h1 h2)
  replace hF13 := fun j h1 h2 => (hne j (by omega)).trans (hF13 j h1 h2)
  replace hF16 := fun j h1 h2 => (hne j (by omega)).trans (hF16 j h1 h2)
  replace hF19 := fun j h1 h2 => (hne j (by omega)).trans (hF19 j h1 h2)
  replace hF22 := fun j h1 h2 => (hne j (by omega)).trans (hF22 j h1 h2)
  replace hF25 := fun j h1 h2 => (hne j (by omega)).trans (hF25 j h1 h2)
  replace hF28 := fun j h1 h2 => (hne j (by omega)).trans (hF28 j h1 h2)
  replace hF31 := fun j h1 h2 => (hne j (by omega)).trans (hF31 j h1 h2)
  replace hF34 := fun j h1 h2 => (hne j (by omega)).trans (hF34 j h1 h2)
  replace hF37 := fun j h1 h2 => (hne j (by omega)).trans (hF37 j h1 h2)
  replace hF40 := fun j h1 h2 => (hne j (by omega)).trans (hF40 j h1 h2)
  replace hF43 := fun j h1 h2 => (hne j (by omega)).trans (hF43 j h1 h2)
  replace hB := fun j h1 => (hne j (by omega)).trans (hB j h1)
  clear hne
  skip
  skip
  obtain ⟨M, rfl⟩ : ∃ z, z = M' := ⟨_, rfl⟩
  have hF45 : ∀ j, 221 ≤ j → j < 221 + 1 → M j = E0 g j := fun j h1 h2 => by
    obtain rfl : j = 221 := by omega
    exact hx1
  have hW := hW.norm (y := (7, rfa (fun j => g.1 + (224 + 2 * j)))) hx2 (by
    rw [vp_cell_q, vp_cell_q]
    unfold arrV
    congr 1)
  generalize hMM : va_up M 222 _ = M' at hW
  have hne : ∀ j, j ≠ 222 → M' j = M j := fun j h => by rw [← hMM]; simp [va_up, h]
  replace hx2 : M' 222 = E0 g 222 := by
    rw [← hMM]
    simp only [va_up, if_true]; rw [E0, EE_16 (by decide)]; rfl
  clear hMM
  replace hO := (hne 220 (by omega)).trans hO
  replace hF4 := fun j h1 h2 => (hne j (by omega)).trans (hF4 j h1 h2)
  replace hF7 := fun j h1 h2 => (hne j (by omega)).trans (hF7 j h1 h2)
  replace hF10 := fun j h1 h2 => (hne j (by omega)).trans (hF10 j h1 h2)
  replace hF13 := fun j h1 h2 => (hne j (by omega)).trans (hF13 j h1 h2)
  replace hF16 := fun j h1 h2 => (hne j (by omega)).trans (hF16 j h1 h2)
  replace hF19 := fun j h1 h2 => (hne j (by omega)).trans (hF19 j h1 h2)
  replace hF22 := fun j h1 h2 => (hne j (by omega)).trans (hF22 j h1 h2)
  replace hF25 := fun j h1 h2 => (hne j (by omega)).trans (hF25 j h1 h2)
  replace hF28 := fun j h1 h2 => (hne j (by omega)).trans (hF28 j h1 h2)
  replace hF31 := fun j h1 h2 => (hne j (by omega)).trans (hF31 j h1 h2)
  replace hF34 := fun j h1 h2 => (hne j (by omega)).trans (hF34 j h1 h2)
  replace hF37 := fun j h1 h2 => (hne j (by omega)).trans (hF37 j h1 h2)
  replace hF40 := fun j h1 h2 => (hne j (by omega)).trans (hF40 j h1 h2)
  replace hF43 := fun j h1 h2 => (hne j (by omega)).trans (hF43 j h1 h2)
  replace hF45 := fun j h1 h2 => (hne j (by omega)).trans (hF45 j h1 h2)
  replace hB := fun j h1 => (hne j (by omega)).trans (hB j h1)
  clear hne
  skip
  skip
  obtain ⟨M, rfl⟩ : ∃ z, z = M' := ⟨_, rfl⟩
  have hF46 : ∀ j, 222 ≤ j → j < 222 + 1 → M j = E0 g j := fun j h1 h2 => by
    obtain rfl : j = 222 := by omega
    exact hx2
  have hZ : M 220 = E0 g 220 := by rw [hO, E0, EE_4 (by decide)]; rfl
  subst hQ
  refine r_vret C hW hr hlocks (fun j h1 h2 => ?_) hB dX4_init_62
  rcases Nat.lt_or_ge j 221 with hq | hq
  · obtain rfl : j = 220 := by omega
    exact hZ
  rcases Nat.lt_or_ge j 222 with hq0 | hq0
  · exact hF45 j (by omega) (by omega)
  rcases Nat.lt_or_ge j 223 with hq1 | hq1
  · exact hF46 j (by omega) (by omega)
  rcases Nat.lt_or_ge j 224 with hq2 | hq2
  · exact hF4 j (by omega) (by omega)
  rcases Nat.lt_or_ge j 225 with hq3 | hq3
  · exact hF7 j (by omega) (by omega)
  rcases Nat.lt_or_ge j 226 with hq4 | hq4
  · exact hF10 j (by omega) (by omega)
  rcases Nat.lt_or_ge j 227 with hq5 | hq5
  · exact hF13 j (by omega) (by omega)
  rcases Nat.lt_or_ge j 228 with hq6 | hq6
  · exact hF16 j (by omega) (by omega)
  rcases Nat.lt_or_ge j 229 with hq7 | hq7
  · exact hF19 j (by omega) (by omega)
  rcases Nat.lt_or_ge j 230 with hq8 | hq8
  · exact hF22 j (by omega) (by omega)
  rcases Nat.lt_or_ge j 231 with hq9 | hq9
  · exact hF25 j (by omega) (by omega)
  rcases Nat.lt_or_ge j 232 with hq10 | hq10
  · exact hF28 j (by omega) (by omega)
  rcases Nat.lt_or_ge j 233 with hq11 | hq11
  · exact hF31 j (by omega) (by omega)
  rcases Nat.lt_or_ge j 234 with hq12 | hq12
  · exact hF34 j (by omega) (by omega)
  rcases Nat.lt_or_ge j 235 with hq13 | hq13
  · exact hF37 j (by omega) (by omega)
  rcases Nat.lt_or_ge j 236 with hq14 | hq14
  · exact hF40 j (by omega) (by omega)
  exact hF43 j (by omega) (by omega)
set_option maxHeartbeats 4000000 in
set_option maxRecDepth 100000 in
theorem c_X8_init (g : Gp) (l : Launch) : MetC g l yX8_init cX8_init 1 1 2 14 237 := by
  refine w_enterC (by decide) (by decide) (own := RX8) rfl rfl ?_
  intro M hO p e s m below meth c args Q hQ C hKc hr hlocks hin hW ls hl
  replace hO : M 237 = .inr (8, [.null, .null, .int 0, .int 0, .int 0]) := hO
  have hB : ∀ j, j < 237 → M j = M j := fun _ _ => rfl
  generalize hM0 : M = M0 at hQ
  have hB : ∀ j, j < 237 → M j = M0 j := fun _ _ => by rw [hM0]
  clear hM0
  refine lv_aload_n C.1.1 C.1.2.1 dX8_init_0 rfl (lv_at hl 0 rfl) ?_
  refine r_obj C (g2 50 (Eq.refl _) rfl) (g1 22 (Eq.refl _) rfl) (g1 23 (Eq.refl _) rfl) hl.1 (by decide) dX8_init_1 ?_
  refine lv_aload_n C.1.1 C.1.2.1 dX8_init_4 rfl (lv_at hl 0 rfl) ?_
  refine lv_bipush (v := 7) C.1.1 C.1.2.1 dX8_init_5 (by decide) ?_
  refine r_newa (t := 0) (ty := .int) (N := 7) (a0 := (7, .inl (fun _ => 0))) C hW (g1 44 (Eq.refl _) rfl) rfl (fun h => h) rfl (fun cA => rfl) (by decide) (by decide) (by decide) (by decide) (by decide) dX8_init_7 (fun M H hx1 hne hW => ?_)
  replace hO := (hne 237 (by omega)).trans hO
  replace hB := fun j h1 => (hne j (by omega)).trans (hB j h1)
  have hF2 : ∀ j, 238 ≤ j → j < 238 + 1 → M j = E0 g j := fun j h1 h2 => by
    obtain rfl : j = 238 := by omega
    rw [hx1, E0, EE_12 (by decide), (by decide : ln 238 = 7), show I0 238 = (fun _ => 0) from funext fun k => rfl]
  refine r_putF (ci := 8) (Cn := RX8) (T := TX8) (N := 5) (ty0 := tyX8) (v := .ref (g.1 + 238)) (ty := (.array .int)) C hW inG8 tyX8_ok nmX8 (by omega) hO rfl 0 (by decide) (ref := RX8) (g2 51 (Eq.refl _) rfl) rfl rfl hin rfl (by decide +kernel) rfl rfl (Nat.le_of_ble_eq_true rfl) dX8_init_9 (fun M H locs hO' hne hW => ?_)
  replace hO : M 237 = .inr (8, [.ref (g.1 + 238), .null, .int 0, .int 0, .int 0]) := hO'
  clear hO'
  replace hF2 := fun j h1 h2 => (hne j (by omega)).trans (hF2 j h1 h2)
  replace hB := fun j h1 => (hne j (by omega)).trans (hB j h1)
  refine lv_aload_n C.1.1 C.1.2.1 dX8_init_12 rfl (lv_at hl 0 rfl) ?_
  refine lv_bipush (v := 7) C.1.1 C.1.2.1 dX8_init_13 (by decide) ?_
  refine r_newa (t := 0) (ty := .int) (N := 7) (a0 := (7, .inl (fun _ => 0))) C hW (g1 44 (Eq.refl _) rfl) rfl (fun h => h) rfl (fun cA => rfl) (by decide) (by decide) (by decide) (by decide) (by decide) dX8_init_15 (fun M H hx3 hne hW => ?_)
  replace hO := (hne 237 (by omega)).trans hO
  replace hF2 := fun j h1 h2 => (hne j (by omega)).trans (hF2 j h1 h2)
  replace hB := fun j h1 => (hne j (by omega)).trans (hB j h1)
  have hF4 : ∀ j, 239 ≤ j → j < 239 + 1 → M j = E0 g j := fun j h1 h2 => by
    obtain rfl : j = 239 := by omega
    rw [hx3, E0, EE_12 (by decide), (by decide : ln 239 = 7), show I0 239 = (fun _ => 0) from funext fun k => rfl]
  refine r_putF (ci := 8) (Cn := RX8) (T := TX8) (N := 5) (ty0 := tyX8) (v := .ref (g.1 + 239)) (ty := (.array .int)) C hW inG8 tyX8_ok nmX8 (by omega) hO rfl 1 (by decide) (ref := RX8) (g2 52 (Eq.refl _) rfl) rfl rfl hin rfl (by decide +kernel) rfl rfl (Nat.le_of_ble_eq_true rfl) dX8_init_17 (fun M H locs hO' hne hW => ?_)
  replace hO : M 237 = .inr (8, [.ref (g.1 + 238), .ref (g.1 + 239), .int 0, .int 0, .int 0]) := hO'
  clear hO'
  replace hF2 := fun j h1 h2 => (hne j (by omega)).trans (hF2 j h1 h2)
  replace hF4 := fun j h1 h2 => (hne j (by omega)).trans (hF4 j h1 h2)
  replace hB := fun j h1 => (hne j (by omega)).trans (hB j h1)
  have hZ : M 237 = E0 g 237 := by rw [hO, E0, EE_8 (by decide)]; rfl
  subst hQ
  refine r_vret C hW hr hlocks (fun j h1 h2 => ?_) hB dX8_init_20
  rcases Nat.lt_or_ge j 238 with hq | hq
  · obtain rfl : j = 237 := by omega
    exact hZ
  rcases Nat.lt_or_ge j 239 with hq0 | hq0
  · exact hF2 j (by omega) (by omega)
  exact hF4 j (by omega) (by omega)
set_option maxHeartbeats 4000000 in
set_option maxRecDepth 100000 in
theorem c_X2_init (g : Gp) (l : Launch) : MetC g l yX2_init cX2_init 1 1 3 32 240 := by
  refine w_enterC (by decide) (by decide) (own := RX2) rfl rfl ?_
  intro M hO p e s m below meth c args Q hQ C hKc hr hlocks hin hW ls hl
  replace hO : M 240 = .inr (2, [.null, .null, .null, .int 0]) := hO
  have hB : ∀ j, j < 240 → M j = M j := fun _ _ => rfl
  generalize hM0 : M = M0 at hQ
  have hB : ∀ j, j < 240 → M j = M0 j := fun _ _ => by rw [hM0]
  clear hM0
  refine lv_aload_n C.1.1 C.1.2.1 dX2_init_0 rfl (lv_at hl 0 rfl) ?_
  refine r_obj C (g2 74 (Eq.refl _) rfl) (g1 22 (Eq.refl _) rfl) (g1 23 (Eq.refl _) rfl) hl.1 (by decide) dX2_init_1 ?_
  refine lv_aload_n C.1.1 C.1.2.1 dX2_init_4 rfl (lv_at hl 0 rfl) ?_
  refine lv_bipush (v := 12) C.1.1 C.1.2.1 dX2_init_5 (by decide) ?_
  refine r_newa (t := 0) (ty := .int) (N := 12) (a0 := (12, .inl (fun _ => 0))) C hW (g1 44 (Eq.refl _) rfl) rfl (fun h => h) rfl (fun cA => rfl) (by decide) (by decide) (by decide) (by decide) (by decide) dX2_init_7 (fun M H hx1 hne hW => ?_)
  replace hO := (hne 240 (by omega)).trans hO
  replace hB := fun j h1 => (hne j (by omega)).trans (hB j h1)
  have hF2 : ∀ j, 241 ≤ j → j < 241 + 1 → M j = E0 g j := fun j h1 h2 => by
    obtain rfl : j = 241 := by omega
    rw [hx1, E0, EE_12 (by decide), (by decide : ln 241 = 12), show I0 241 = (fun _ => 0) from funext fun k => rfl]
  refine r_putF (ci := 2) (Cn := RX2) (T := TX2) (N := 4) (ty0 := tyX2) (v := .ref (g.1 + 241)) (ty := (.array .int)) C hW inG2 tyX2_ok nmX2 (by omega) hO rfl 0 (by decide) (ref := RX2) (g2 75 (Eq.refl _) rfl) rfl rfl hin rfl (by decide +kernel) rfl rfl (Nat.le_of_ble_eq_true rfl) dX2_init_9 (fun M H locs hO' hne hW => ?_)
  replace hO : M 240 = .inr (2, [.ref (g.1 + 241), .null, .null, .int 0]) := hO'
  clear hO'
  replace hF2 := fun j h1 h2 => (hne j (by omega)).trans (hF2 j h1 h2)
  replace hB := fun j h1 => (hne j (by omega)).trans (hB j h1)
  refine lv_aload_n C.1.1 C.1.2.1 dX2_init_12 rfl (lv_at hl 0 rfl) ?_
  refine lv_bipush (v := 12) C.1.1 C.1.2.1 dX2_init_13 (by decide) ?_
  refine r_newa (t := 0) (ty := .int) (N := 12) (a0 := (12, .inl (fun _ => 0))) C hW (g1 44 (Eq.refl _) rfl) rfl (fun h => h) rfl (fun cA => rfl) (by decide) (by decide) (by decide) (by decide) (by decide) dX2_init_15 (fun M H hx3 hne hW => ?_)
  replace hO := (hne 240 (by omega)).trans hO
  replace hF2 := fun j h1 h2 => (hne j (by omega)).trans (hF2 j h1 h2)
  replace hB := fun j h1 => (hne j (by omega)).trans (hB j h1)
  have hF4 : ∀ j, 242 ≤ j → j < 242 + 1 → M j = E0 g j := fun j h1 h2 => by
    obtain rfl : j = 242 := by omega
    rw [hx3, E0, EE_12 (by decide), (by decide : ln 242 = 12), show I0 242 = (fun _ => 0) from funext fun k => rfl]
  refine r_putF (ci := 2) (Cn := RX2) (T := TX2) (N := 4) (ty0 := tyX2) (v := .ref (g.1 + 242)) (ty := (.array .int)) C hW inG2 tyX2_ok nmX2 (by omega) hO rfl 1 (by decide) (ref := RX2) (g2 76 (Eq.refl _) rfl) rfl rfl hin rfl (by decide +kernel) rfl rfl (Nat.le_of_ble_eq_true rfl) dX2_init_17 (fun M H locs hO' hne hW => ?_)
  replace hO : M 240 = .inr (2, [.ref (g.1 + 241), .ref (g.1 + 242), .null, .int 0]) := hO'
  clear hO'
  replace hF2 := fun j h1 h2 => (hne j (by omega)).trans (hF2 j h1 h2)
  replace hF4 := fun j h1 h2 => (hne j (by omega)).trans (hF4 j h1 h2)
  replace hB := fun j h1 => (hne j (by omega)).trans (hB j h1)
  refine lv_aload_n C.1.1 C.1.2.1 dX2_init_20 rfl (lv_at hl 0 rfl) ?_
  refine lv_bipush (v := 8) C.1.1 C.1.2.1 dX2_init_21 (by decide) ?_
  refine r_newa (t := 0) (ty := .int) (N := 8) (a0 := (8, .inl (fun _ => 0))) C hW (g1 44 (Eq.refl _) rfl) rfl (fun h => h) rfl (fun cA => rfl) (by decide) (by decide) (by decide) (by decide) (by decide) dX2_init_23 (fun M H hx5 hne hW => ?_)
  replace hO := (hne 240 (by omega)).trans hO
  replace hF2 := fun j h1 h2 => (hne j (by omega)).trans (hF2 j h1 h2)
  replace hF4 := fun j h1 h2 => (hne j (by omega)).trans (hF4 j h1 h2)
  replace hB := fun j h1 => (hne j (by omega)).trans (hB j h1)
  have hF6 : ∀ j, 243 ≤ j → j < 243 + 1 → M j = E0 g j := fun j h1 h2 => by
    obtain rfl : j = 243 := by omega
    rw [hx5, E0, EE_12 (by decide), (by decide : ln 243 = 8), show I0 243 = (fun _ => 0) from funext fun k => rfl]
  refine r_putF (ci := 2) (Cn := RX2) (T := TX2) (N := 4) (ty0 := tyX2) (v := .ref (g.1 + 243)) (ty := (.array .int)) C hW inG2 tyX2_ok nmX2 (by omega) hO rfl 2 (by decide) (ref := RX2) (g2 77 (Eq.refl _) rfl) rfl rfl hin rfl (by decide +kernel) rfl rfl (Nat.le_of_ble_eq_true rfl) dX2_init_25 (fun M H locs hO' hne hW => ?_)
  replace hO : M 240 = .inr (2, [.ref (g.1 + 241), .ref (g.1 + 242), .ref (g.1 + 243), .int 0]) := hO'
  clear hO'
  replace hF2 := fun j h1 h2 => (hne j (by omega)).trans (hF2 j h1 h2)
  replace hF4 := fun j h1 h2 => (hne j (by omega)).trans (hF4 j h1 h2)
  replace hF6 := fun j h1 h2 => (hne j (by omega)).trans (hF6 j h1 h2)
  replace hB := fun j h1 => (hne j (by omega)).trans (hB j h1)
  have hZ : M 240 = E0 g 240 := by rw [hO, E0, EE_2 (by decide)]; rfl
  subst hQ
  refine r_vret C hW hr hlocks (fun j h1 h2 => ?_) hB dX2_init_28
  rcases Nat.lt_or_ge j 241 with hq | hq
  · obtain rfl : j = 240 := by omega
    exact hZ
  rcases Nat.lt_or_ge j 242 with hq0 | hq0
  · exact hF2 j (by omega) (by omega)
  rcases Nat.lt_or_ge j 243 with hq1 | hq1
  · exact hF4 j (by omega) (by omega)
  exact hF6 j (by omega) (by omega)
set_option maxHeartbeats 4000000 in
set_option maxRecDepth 100000 in
theorem c_X10_init (g : Gp) (l : Launch) : MetC g l yX10_init cX10_init 2 4 243 2555 0 := by
  refine w_enterC (by decide) (by decide) (own := RX10) rfl rfl ?_
  intro M hO p e s m below meth c args Q hQ C hKc hr hlocks hin hW ls hl
  replace hO : M 0 = .inr (10, [.null, .null, .null, .null, .null, .null, .null, .null, .null, .null, .null]) := hO
  have hB : ∀ j, j < 0 → M j = M j := fun _ _ => rfl
  generalize hM0 : M = M0 at hQ
  have hB : ∀ j, j < 0 → M j = M0 j := fun _ _ => by rw [hM0]
  clear hM0
  refine lv_aload_n C.1.1 C.1.2.1 dX10_init_0 rfl (lv_at hl 0 rfl) ?_
  refine r_obj C (g1 21 (Eq.refl _) rfl) (g1 22 (Eq.refl _) rfl) (g1 23 (Eq.refl _) rfl) hl.1 (by decide) dX10_init_1 ?_
  refine lv_aload_n C.1.1 C.1.2.1 dX10_init_4 rfl (lv_at hl 0 rfl) ?_
  refine r_new (ci := 7) (Cn := RX7) (T := TX7) (N := 4) (fs := blk 7) C hW inG7 tyX7 tyX7_ok (g1 24 (Eq.refl _) rfl) (g1 25 (Eq.refl _) rfl) (g1 2 (Eq.refl _) rfl) rfl bk_7 (by decide) (by decide) dX10_init_5 (fun M H hx1 hne hW => ?_)
  replace hO := (hne 0 (by omega)).trans hO
  replace hB := fun j h1 => (hne j (by omega)).trans (hB j h1)
  refine lv_dup C.1.1 C.1.2.1 dX10_init_8 rfl ?_
  replace hx1 : M 1 = .inr (kd 1, blk (kd 1)) := by rw [hx1, show kd 1 = 7 from (by decide)]
  refine r_callIN (rest := [.ref (g.1 + 1), .ref (g.1 + 0)]) C hKc hW (c_X7_init g l) hx1 cd_X7_init (by decide +kernel) (g1 27 (Eq.refl _) rfl) (g1 2 (Eq.refl _) rfl) rfl (by decide +kernel) ⟨by decide, by decide⟩ ⟨by decide, by decide⟩ hl.1 (Nat.le_of_ble_eq_true rfl) dX10_init_9 (fun M H locs hF2 hb hW => ?_)
  replace hO := (hb 0 (by omega)).trans hO
  replace hB := fun j h1 => (hb j (by omega)).trans (hB j h1)
  have hW : Wr g s 3 M H locs := hW
  refine r_putF (ci := 10) (Cn := RX10) (T := TX10) (N := 11) (ty0 := tyX10) (v := .ref (g.1 + 1)) (ty := .object "WallPatience$Tape") C hW inG10 tyX10_ok nmX10 (by omega) hO rfl 0 (by decide) (ref := RX10) (g2 88 (Eq.refl _) rfl) rfl rfl hin rfl (by decide +kernel) rfl rfl (Nat.le_of_ble_eq_true rfl) dX10_init_12 (fun M H locs hO' hne hW => ?_)
  replace hO : M 0 = .inr (10, [.ref (g.1 + 1), .null, .null, .null, .null, .null, .null, .null, .null, .null, .null]) := hO'
  clear hO'
  replace hF2 := fun j h1 h2 => (hne j (by omega)).trans (hF2 j h1 h2)
  replace hB := fun j h1 => (hne j (by omega)).trans (hB j h1)
  refine lv_aload_n C.1.1 C.1.2.1 dX10_init_15 rfl (lv_at hl 0 rfl) ?_
  refine r_new (ci := 9) (Cn := RX9) (T := TX9) (N := 7) (fs := blk 9) C hW inG9 tyX9 tyX9_ok (g1 45 (Eq.refl _) rfl) (g1 46 (Eq.refl _) rfl) (g1 3 (Eq.refl _) rfl) rfl bk_9 (by decide) (by decide) dX10_init_16 (fun M H hx3 hne hW => ?_)
  replace hO := (hne 0 (by omega)).trans hO
  replace hF2 := fun j h1 h2 => (hne j (by omega)).trans (hF2 j h1 h2)
  replace hB := fun j h1 => (hne j (by omega)).trans (hB j h1)
  refine lv_dup C.1.1 C.1.2.1 dX10_init_19 rfl ?_
  replace hx3 : M 3 = .inr (kd 3, blk (kd 3)) := by rw [hx3, show kd 3 = 9 from (by decide)]
  refine r_callI (rest := [.ref (g.1 + 3), .ref (g.1 + 0)]) C hKc hW (c_X9_init g l 3 (by decide)) hx3 cd_X9_init (g1 47 (Eq.refl _) rfl) (g1 48 (Eq.refl _) rfl) (g1 3 (Eq.refl _) rfl) rfl (by decide +kernel) ⟨by decide, by decide⟩ ⟨by decide, by decide⟩ hl.1 (Nat.le_of_ble_eq_true rfl) dX10_init_20 (fun M H locs hF4 hb hW => ?_)
  replace hO := (hb 0 (by omega)).trans hO
  replace hF2 := fun j h1 h2 => (hb j (by omega)).trans (hF2 j h1 h2)
  replace hB := fun j h1 => (hb j (by omega)).trans (hB j h1)
  have hW : Wr g s 11 M H locs := hW
  refine r_putF (ci := 10) (Cn := RX10) (T := TX10) (N := 11) (ty0 := tyX10) (v := .ref (g.1 + 3)) (ty := .object "WallPatience$Wall") C hW inG10 tyX10_ok nmX10 (by omega) hO rfl 1 (by decide) (ref := RX10) (g2 89 (Eq.refl _) rfl) rfl rfl hin rfl (by decide +kernel) rfl rfl (Nat.le_of_ble_eq_true rfl) dX10_init_23 (fun M H locs hO' hne hW => ?_)
  replace hO : M 0 = .inr (10, [.ref (g.1 + 1), .ref (g.1 + 3), .null, .null, .null, .null, .null, .null, .null, .null, .null]) := hO'
  clear hO'
  replace hF2 := fun j h1 h2 => (hne j (by omega)).trans (hF2 j h1 h2)
  replace hF4 := fun j h1 h2 => (hne j (by omega)).trans (hF4 j h1 h2)
  replace hB := fun j h1 => (hne j (by omega)).trans (hB j h1)
  refine lv_aload_n C.1.1 C.1.2.1 dX10_init_26 rfl (lv_at hl 0 rfl) ?_
  refine r_new (ci := 9) (Cn := RX9) (T := TX9) (N := 7) (fs := blk 9) C hW inG9 tyX9 tyX9_ok (g1 45 (Eq.refl _) rfl) (g1 46 (Eq.refl _) rfl) (g1 3 (Eq.refl _) rfl) rfl bk_9 (by decide) (by decide) dX10_init_27 (fun M H hx5 hne hW => ?_)
  replace hO := (hne 0 (by omega)).trans hO
  replace hF2 := fun j h1 h2 => (hne j (by omega)).trans (hF2 j h1 h2)
  replace hF4 := fun j h1 h2 => (hne j (by omega)).trans (hF4 j h1 h2)
  replace hB := fun j h1 => (hne j (by omega)).trans (hB j h1)
  refine lv_dup C.1.1 C.1.2.1 dX10_init_30 rfl ?_
  replace hx5 : M 11 = .inr (kd 11, blk (kd 11)) := by rw [hx5, show kd 11 = 9 from (by decide)]
  refine r_callI (rest := [.ref (g.1 + 11), .ref (g.1 + 0)]) C hKc hW (c_X9_init g l 11 (by decide)) hx5 cd_X9_init (g1 47 (Eq.refl _) rfl) (g1 48 (Eq.refl _) rfl) (g1 3 (Eq.refl _) rfl) rfl (by decide +kernel) ⟨by decide, by decide⟩ ⟨by decide, by decide⟩ hl.1 (Nat.le_of_ble_eq_true rfl) dX10_init_31 (fun M H locs hF6 hb hW => ?_)
  replace hO := (hb 0 (by omega)).trans hO
  replace hF2 := fun j h1 h2 => (hb j (by omega)).trans (hF2 j h1 h2)
  replace hF4 := fun j h1 h2 => (hb j (by omega)).trans (hF4 j h1 h2)
  replace hB := fun j h1 => (hb j (by omega)).trans (hB j h1)
  have hW : Wr g s 19 M H locs := hW
  refine r_putF (ci := 10) (Cn := RX10) (T := TX10) (N := 11) (ty0 := tyX10) (v := .ref (g.1 + 11)) (ty := .object "WallPatience$Wall") C hW inG10 tyX10_ok nmX10 (by omega) hO rfl 2 (by decide) (ref := RX10) (g2 90 (Eq.refl _) rfl) rfl rfl hin rfl (by decide +kernel) rfl rfl (Nat.le_of_ble_eq_true rfl) dX10_init_34 (fun M H locs hO' hne hW => ?_)
  replace hO : M 0 = .inr (10, [.ref (g.1 + 1), .ref (g.1 + 3), .ref (g.1 + 11), .null, .null, .null, .null, .null, .null, .null, .null]) := hO'
  clear hO'
  replace hF2 := fun j h1 h2 => (hne j (by omega)).trans (hF2 j h1 h2)
  replace hF4 := fun j h1 h2 => (hne j (by omega)).trans (hF4 j h1 h2)
  replace hF6 := fun j h1 h2 => (hne j (by omega)).trans (hF6 j h1 h2)
  replace hB := fun j h1 => (hne j (by omega)).trans (hB j h1)
  refine lv_aload_n C.1.1 C.1.2.1 dX10_init_37 rfl (lv_at hl 0 rfl) ?_
  refine r_new (ci := 3) (Cn := RX3) (T := TX3) (N := 3) (fs := blk 3) C hW inG3 tyX3 tyX3_ok (g1 160 (Eq.refl _) rfl) (g1 161 (Eq.refl _) rfl) (g1 5 (Eq.refl _) rfl) rfl bk_3 (by decide) (by decide) dX10_init_38 (fun M H hx7 hne hW => ?_)
  replace hO := (hne 0 (by omega)).trans hO
  replace hF2 := fun j h1 h2 => (hne j (by omega)).trans (hF2 j h1 h2)
  replace hF4 := fun j h1 h2 => (hne j (by omega)).trans (hF4 j h1 h2)
  replace hF6 := fun j h1 h2 => (hne j (by omega)).trans (hF6 j h1 h2)
  replace hB := fun j h1 => (hne j (by omega)).trans (hB j h1)
  refine lv_dup C.1.1 C.1.2.1 dX10_init_41 rfl ?_
  replace hx7 : M 19 = .inr (kd 19, blk (kd 19)) := by rw [hx7, show kd 19 = 3 from (by decide)]
  refine r_callI (rest := [.ref (g.1 + 19), .ref (g.1 + 0)]) C hKc hW (c_X3_init g l) hx7 cd_X3_init (g1 162 (Eq.refl _) rfl) (g1 163 (Eq.refl _) rfl) (g1 5 (Eq.refl _) rfl) rfl (by decide +kernel) ⟨by decide, by decide⟩ ⟨by decide, by decide⟩ hl.1 (Nat.le_of_ble_eq_true rfl) dX10_init_42 (fun M H locs hF8 hb hW => ?_)
  replace hO := (hb 0 (by omega)).trans hO
  replace hF2 := fun j h1 h2 => (hb j (by omega)).trans (hF2 j h1 h2)
  replace hF4 := fun j h1 h2 => (hb j (by omega)).trans (hF4 j h1 h2)
  replace hF6 := fun j h1 h2 => (hb j (by omega)).trans (hF6 j h1 h2)
  replace hB := fun j h1 => (hb j (by omega)).trans (hB j h1)
  have hW : Wr g s 181 M H locs := hW
  refine r_putF (ci := 10) (Cn := RX10) (T := TX10) (N := 11) (ty0 := tyX10) (v := .ref (g.1 + 19)) (ty := .object "WallPatience$History") C hW inG10 tyX10_ok nmX10 (by omega) hO rfl 3 (by decide) (ref := RX10) (g2 91 (Eq.refl _) rfl) rfl rfl hin rfl (by decide +kernel) rfl rfl (Nat.le_of_ble_eq_true rfl) dX10_init_45 (fun M H locs hO' hne hW => ?_)
  replace hO : M 0 = .inr (10, [.ref (g.1 + 1), .ref (g.1 + 3), .ref (g.1 + 11), .ref (g.1 + 19), .null, .null, .null, .null, .null, .null, .null]) := hO'
  clear hO'
  replace hF2 := fun j h1 h2 => (hne j (by omega)).trans (hF2 j h1 h2)
  replace hF4 := fun j h1 h2 => (hne j (by omega)).trans (hF4 j h1 h2)
  replace hF6 := fun j h1 h2 => (hne j (by omega)).trans (hF6 j h1 h2)
  replace hF8 := fun j h1 h2 => (hne j (by omega)).trans (hF8 j h1 h2)
  replace hB := fun j h1 => (hne j (by omega)).trans (hB j h1)
  refine lv_aload_n C.1.1 C.1.2.1 dX10_init_48 rfl (lv_at hl 0 rfl) ?_
  refine lv_iconst (v := 2) C.1.1 C.1.2.1 dX10_init_49 (by decide) ?_
  refine r_newq (t := 5) (Cn := RX9) (N := 2) C hW (g1 45 (Eq.refl _) rfl) hKc.2.2.1 rfl (by decide) (by decide) (by decide) (by decide) (by decide) dX10_init_50 (fun M H hx9 hne hW => ?_)
  replace hO := (hne 0 (by omega)).trans hO
  replace hF2 := fun j h1 h2 => (hne j (by omega)).trans (hF2 j h1 h2)
  replace hF4 := fun j h1 h2 => (hne j (by omega)).trans (hF4 j h1 h2)
  replace hF6 := fun j h1 h2 => (hne j (by omega)).trans (hF6 j h1 h2)
  replace hF8 := fun j h1 h2 => (hne j (by omega)).trans (hF8 j h1 h2)
  replace hB := fun j h1 => (hne j (by omega)).trans (hB j h1)
  refine r_putF (ci := 10) (Cn := RX10) (T := TX10) (N := 11) (ty0 := tyX10) (v := .ref (g.1 + 181)) (ty := (.array (.object "WallPatience$Wall"))) C hW inG10 tyX10_ok nmX10 (by omega) hO rfl 4 (by decide) (ref := RX10) (g2 92 (Eq.refl _) rfl) rfl rfl hin rfl (by decide +kernel) rfl rfl (Nat.le_of_ble_eq_true rfl) dX10_init_53 (fun M H locs hO' hne hW => ?_)
  replace hO : M 0 = .inr (10, [.ref (g.1 + 1), .ref (g.1 + 3), .ref (g.1 + 11), .ref (g.1 + 19), .ref (g.1 + 181), .null, .null, .null, .null, .null, .null]) := hO'
  clear hO'
  replace hx9 := (hne 181 (by omega)).trans hx9
  replace hF2 := fun j h1 h2 => (hne j (by omega)).trans (hF2 j h1 h2)
  replace hF4 := fun j h1 h2 => (hne j (by omega)).trans (hF4 j h1 h2)
  replace hF6 := fun j h1 h2 => (hne j (by omega)).trans (hF6 j h1 h2)
  replace hF8 := fun j h1 h2 => (hne j (by omega)).trans (hF8 j h1 h2)
  replace hB := fun j h1 => (hne j (by omega)).trans (hB j h1)
  refine lv_iconst (v := 0) C.1.1 C.1.2.1 dX10_init_56 (by decide) ?_
  refine lv_istore_n (lv' := [(1, .int 0), (0, .ref (g.1 + 0))]) C.1.1 C.1.2.1 dX10_init_57 rfl hl (by decide) rfl (fun ls hl => ?_)
  refine lv_iload_n C.1.1 C.1.2.1 dX10_init_58 rfl (lv_at hl 0 rfl) ?_
  refine lv_iconst (v := 2) C.1.1 C.1.2.1 dX10_init_59 (by decide) ?_
  refine lv_icmp_ge (tgt := 82) C.1.1 C.1.2.1 dX10_init_60 (by decide) (fun hc => absurd hc (by decide)) (fun _ => ?_)
  refine lv_aload_n C.1.1 C.1.2.1 dX10_init_63 rfl (lv_at hl 1 rfl) ?_
  refine r_get (ci := 10) (Cn := RX10) (T := TX10) (N := 11) C hW inG10 (by omega) hO rfl 4 (by decide) (ref := RX10) (g2 92 (Eq.refl _) rfl) rfl rfl dX10_init_64 ?_
  refine lv_iload_n C.1.1 C.1.2.1 dX10_init_67 rfl (lv_at hl 0 rfl) ?_
  refine r_new (ci := 9) (Cn := RX9) (T := TX9) (N := 7) (fs := blk 9) C hW inG9 tyX9 tyX9_ok (g1 45 (Eq.refl _) rfl) (g1 46 (Eq.refl _) rfl) (g1 3 (Eq.refl _) rfl) rfl bk_9 (by decide) (by decide) dX10_init_68 (fun M H hx10 hne hW => ?_)
  replace hO := (hne 0 (by omega)).trans hO
  replace hx9 := (hne 181 (by omega)).trans hx9
  replace hF2 := fun j h1 h2 => (hne j (by omega)).trans (hF2 j h1 h2)
  replace hF4 := fun j h1 h2 => (hne j (by omega)).trans (hF4 j h1 h2)
  replace hF6 := fun j h1 h2 => (hne j (by omega)).trans (hF6 j h1 h2)
  replace hF8 := fun j h1 h2 => (hne j (by omega)).trans (hF8 j h1 h2)
  replace hB := fun j h1 => (hne j (by omega)).trans (hB j h1)
  refine lv_dup C.1.1 C.1.2.1 dX10_init_71 rfl ?_
  replace hx10 : M 182 = .inr (kd 182, blk (kd 182)) := by rw [hx10, show kd 182 = 9 from (by decide)]
  refine r_callI (rest := [.ref (g.1 + 182), .int 0, .ref (g.1 + 181)]) C hKc hW (c_X9_init g l 182 (by decide)) hx10 cd_X9_init (g1 47 (Eq.refl _) rfl) (g1 48 (Eq.refl _) rfl) (g1 3 (Eq.refl _) rfl) rfl (by decide +kernel) ⟨by decide, by decide⟩ ⟨by decide, by decide⟩ hl.1 (Nat.le_of_ble_eq_true rfl) dX10_init_72 (fun M H locs hF11 hb hW => ?_)
  replace hO := (hb 0 (by omega)).trans hO
  replace hx9 := (hb 181 (by omega)).trans hx9
  replace hF2 := fun j h1 h2 => (hb j (by omega)).trans (hF2 j h1 h2)
  replace hF4 := fun j h1 h2 => (hb j (by omega)).trans (hF4 j h1 h2)
  replace hF6 := fun j h1 h2 => (hb j (by omega)).trans (hF6 j h1 h2)
  replace hF8 := fun j h1 h2 => (hb j (by omega)).trans (hF8 j h1 h2)
  replace hB := fun j h1 => (hb j (by omega)).trans (hB j h1)
  have hW : Wr g s 190 M H locs := hW
  have hv12 := (hF11 182 (by omega) (by omega)).trans (EE_9 (by decide))
  refine r_ast (j := 0) (t := 5) (ci := 9) (N := 2) (r := (RX9, TX9, 7)) C hW (by omega) hx9 rfl (by omega) hv12 rfl (by decide) (by decide) (by decide) dX10_init_75 (fun M H locs hx9' hne hW => ?_)
  clear hv12
  replace hx9 := hx9'
  clear hx9'
  replace hO := (hne 0 (by omega)).trans hO
  replace hF2 := fun j h1 h2 => (hne j (by omega)).trans (hF2 j h1 h2)
  replace hF4 := fun j h1 h2 => (hne j (by omega)).trans (hF4 j h1 h2)
  replace hF6 := fun j h1 h2 => (hne j (by omega)).trans (hF6 j h1 h2)
  replace hF8 := fun j h1 h2 => (hne j (by omega)).trans (hF8 j h1 h2)
  replace hF11 := fun j h1 h2 => (hne j (by omega)).trans (hF11 j h1 h2)
  replace hB := fun j h1 => (hne j (by omega)).trans (hB j h1)
  refine lv_iinc (v := 1) (lv' := [(1, .int 1), (0, .ref (g.1 + 0))]) C.1.1 C.1.2.1 dX10_init_76 hl (k := 0) rfl (by decide) (by decide) rfl (fun ls hl => ?_)
  refine lv_goto (tgt := 58) C.1.1 C.1.2.1 dX10_init_79 (by decide) ?_
  refine lv_iload_n C.1.1 C.1.2.1 dX10_init_58 rfl (lv_at hl 0 rfl) ?_
  refine lv_iconst (v := 2) C.1.1 C.1.2.1 dX10_init_59 (by decide) ?_
  refine lv_icmp_ge (tgt := 82) C.1.1 C.1.2.1 dX10_init_60 (by decide) (fun hc => absurd hc (by decide)) (fun _ => ?_)
  refine lv_aload_n C.1.1 C.1.2.1 dX10_init_63 rfl (lv_at hl 1 rfl) ?_
  refine r_get (ci := 10) (Cn := RX10) (T := TX10) (N := 11) C hW inG10 (by omega) hO rfl 4 (by decide) (ref := RX10) (g2 92 (Eq.refl _) rfl) rfl rfl dX10_init_64 ?_
  refine lv_iload_n C.1.1 C.1.2.1 dX10_init_67 rfl (lv_at hl 0 rfl) ?_
  refine r_new (ci := 9) (Cn := RX9) (T := TX9) (N := 7) (fs := blk 9) C hW inG9 tyX9 tyX9_ok (g1 45 (Eq.refl _) rfl) (g1 46 (Eq.refl _) rfl) (g1 3 (Eq.refl _) rfl) rfl bk_9 (by decide) (by decide) dX10_init_68 (fun M H hx13 hne hW => ?_)
  replace hO := (hne 0 (by omega)).trans hO
  replace hx9 := (hne 181 (by omega)).trans hx9
  replace hF2 := fun j h1 h2 => (hne j (by omega)).trans (hF2 j h1 h2)
  replace hF4 := fun j h1 h2 => (hne j (by omega)).trans (hF4 j h1 h2)
  replace hF6 := fun j h1 h2 => (hne j (by omega)).trans (hF6 j h1 h2)
  replace hF8 := fun j h1 h2 => (hne j (by omega)).trans (hF8 j h1 h2)
  replace hF11 := fun j h1 h2 => (hne j (by omega)).trans (hF11 j h1 h2)
  replace hB := fun j h1 => (hne j (by omega)).trans (hB j h1)
  refine lv_dup C.1.1 C.1.2.1 dX10_init_71 rfl ?_
  replace hx13 : M 190 = .inr (kd 190, blk (kd 190)) := by rw [hx13, show kd 190 = 9 from (by decide)]
  refine r_callI (rest := [.ref (g.1 + 190), .int 1, .ref (g.1 + 181)]) C hKc hW (c_X9_init g l 190 (by decide)) hx13 cd_X9_init (g1 47 (Eq.refl _) rfl) (g1 48 (Eq.refl _) rfl) (g1 3 (Eq.refl _) rfl) rfl (by decide +kernel) ⟨by decide, by decide⟩ ⟨by decide, by decide⟩ hl.1 (Nat.le_of_ble_eq_true rfl) dX10_init_72 (fun M H locs hF14 hb hW => ?_)
  replace hO := (hb 0 (by omega)).trans hO
  replace hx9 := (hb 181 (by omega)).trans hx9
  replace hF2 := fun j h1 h2 => (hb j (by omega)).trans (hF2 j h1 h2)
  replace hF4 := fun j h1 h2 => (hb j (by omega)).trans (hF4 j h1 h2)
  replace hF6 := fun j h1 h2 => (hb j (by omega)).trans (hF6 j h1 h2)
  replace hF8 := fun j h1 h2 => (hb j (by omega)).trans (hF8 j h1 h2)
  replace hF11 := fun j h1 h2 => (hb j (by omega)).trans (hF11 j h1 h2)
  replace hB := fun j h1 => (hb j (by omega)).trans (hB j h1)
  have hW : Wr g s 198 M H locs := hW
  have hv15 := (hF14 190 (by omega) (by omega)).trans (EE_9 (by decide))
  refine r_ast (j := 1) (t := 5) (ci := 9) (N := 2) (r := (RX9, TX9, 7)) C hW (by omega) hx9 rfl (by omega) hv15 rfl (by decide) (by decide) (by decide) dX10_init_75 (fun M H locs hx9' hne hW => ?_)
  clear hv15
  replace hx9 := hx9'
  clear hx9'
  replace hO := (hne 0 (by omega)).trans hO
  replace hF2 := fun j h1 h2 => (hne j (by omega)).trans (hF2 j h1 h2)
  replace hF4 := fun j h1 h2 => (hne j (by omega)).trans (hF4 j h1 h2)
  replace hF6 := fun j h1 h2 => (hne j (by omega)).trans (hF6 j h1 h2)
  replace hF8 := fun j h1 h2 => (hne j (by omega)).trans (hF8 j h1 h2)
  replace hF11 := fun j h1 h2 => (hne j (by omega)).trans (hF11 j h1 h2)
  replace hF14 := fun j h1 h2 => (hne j (by omega)).trans (hF14 j h1 h2)
  replace hB := fun j h1 => (hne j (by omega)).trans (hB j h1)
  refine lv_iinc (v := 2) (lv' := [(1, .int 2), (0, .ref (g.1 + 0))]) C.1.1 C.1.2.1 dX10_init_76 hl (k := 0) rfl (by decide) (by decide) rfl (fun ls hl => ?_)
  refine lv_goto (tgt := 58) C.1.1 C.1.2.1 dX10_init_79 (by decide) ?_
  refine lv_iload_n C.1.1 C.1.2.1 dX10_init_58 rfl (lv_at hl 0 rfl) ?_
  refine lv_iconst (v := 2) C.1.1 C.1.2.1 dX10_init_59 (by decide) ?_
  refine lv_icmp_ge (tgt := 82) C.1.1 C.1.2.1 dX10_init_60 (by decide) (fun _ => ?_) (fun hc => absurd (by decide) hc)
  refine lv_aload_n C.1.1 C.1.2.1 dX10_init_82 rfl (lv_at hl 1 rfl) ?_
  refine lv_iconst (v := 4) C.1.1 C.1.2.1 dX10_init_83 (by decide) ?_
  refine r_newq (t := 3) (Cn := RX5) (N := 4) C hW (g1 180 (Eq.refl _) rfl) hKc.1 rfl (by decide) (by decide) (by decide) (by decide) (by decide) dX10_init_84 (fun M H hx16 hne hW => ?_)
  replace hO := (hne 0 (by omega)).trans hO
  replace hx9 := (hne 181 (by omega)).trans hx9
  replace hF2 := fun j h1 h2 => (hne j (by omega)).trans (hF2 j h1 h2)
  replace hF4 := fun j h1 h2 => (hne j (by omega)).trans (hF4 j h1 h2)
  replace hF6 := fun j h1 h2 => (hne j (by omega)).trans (hF6 j h1 h2)
  replace hF8 := fun j h1 h2 => (hne j (by omega)).trans (hF8 j h1 h2)
  replace hF11 := fun j h1 h2 => (hne j (by omega)).trans (hF11 j h1 h2)
  replace hF14 := fun j h1 h2 => (hne j (by omega)).trans (hF14 j h1 h2)
  replace hB := fun j h1 => (hne j (by omega)).trans (hB j h1)
  refine r_putF (ci := 10) (Cn := RX10) (T := TX10) (N := 11) (ty0 := tyX10) (v := .ref (g.1 + 198)) (ty := (.array (.object "WallPatience$Sheet"))) C hW inG10 tyX10_ok nmX10 (by omega) hO rfl 5 (by decide) (ref := RX10) (g2 93 (Eq.refl _) rfl) rfl rfl hin rfl (by decide +kernel) rfl rfl (Nat.le_of_ble_eq_true rfl) dX10_init_87 (fun M H locs hO' hne hW => ?_)
  replace hO : M 0 = .inr (10, [.ref (g.1 + 1), .ref (g.1 + 3), .ref (g.1 + 11), .ref (g.1 + 19), .ref (g.1 + 181), .ref (g.1 + 198), .null, .null, .null, .null, .null]) := hO'
  clear hO'
  replace hx9 := (hne 181 (by omega)).trans hx9
  replace hx16 := (hne 198 (by omega)).trans hx16
  replace hF2 := fun j h1 h2 => (hne j (by omega)).trans (hF2 j h1 h2)
  replace hF4 := fun j h1 h2 => (hne j (by omega)).trans (hF4 j h1 h2)
  replace hF6 := fun j h1 h2 => (hne j (by omega)).trans (hF6 j h1 h2)
  replace hF8 := fun j h1 h2 => (hne j (by omega)).trans (hF8 j h1 h2)
  replace hF11 := fun j h1 h2 => (hne j (by omega)).trans (hF11 j h1 h2)
  replace hF14 := fun j h1 h2 => (hne j (by omega)).trans (hF14 j h1 h2)
  replace hB := fun j h1 => (hne j (by omega)).trans (hB j h1)
  refine lv_iconst (v := 0) C.1.1 C.1.2.1 dX10_init_90 (by decide) ?_
  refine lv_istore_n (lv' := [(1, .int 0), (0, .ref (g.1 + 0))]) C.1.1 C.1.2.1 dX10_init_91 rfl hl (by decide) rfl (fun ls hl => ?_)
  refine lv_iload_n C.1.1 C.1.2.1 dX10_init_92 rfl (lv_at hl 0 rfl) ?_
  refine lv_iconst (v := 4) C.1.1 C.1.2.1 dX10_init_93 (by decide) ?_
  refine lv_icmp_ge (tgt := 116) C.1.1 C.1.2.1 dX10_init_94 (by decide) (fun hc => absurd hc (by decide)) (fun _ => ?_)
  refine lv_aload_n C.1.1 C.1.2.1 dX10_init_97 rfl (lv_at hl 1 rfl) ?_
  refine r_get (ci := 10) (Cn := RX10) (T := TX10) (N := 11) C hW inG10 (by omega) hO rfl 5 (by decide) (ref := RX10) (g2 93 (Eq.refl _) rfl) rfl rfl dX10_init_98 ?_
  refine lv_iload_n C.1.1 C.1.2.1 dX10_init_101 rfl (lv_at hl 0 rfl) ?_
  refine r_new (ci := 5) (Cn := RX5) (T := TX5) (N := 3) (fs := blk 5) C hW inG5 tyX5 tyX5_ok (g1 180 (Eq.refl _) rfl) (g1 182 (Eq.refl _) rfl) (g1 6 (Eq.refl _) rfl) rfl bk_5 (by decide) (by decide) dX10_init_102 (fun M H hx17 hne hW => ?_)
  replace hO := (hne 0 (by omega)).trans hO
  replace hx9 := (hne 181 (by omega)).trans hx9
  replace hx16 := (hne 198 (by omega)).trans hx16
  replace hF2 := fun j h1 h2 => (hne j (by omega)).trans (hF2 j h1 h2)
  replace hF4 := fun j h1 h2 => (hne j (by omega)).trans (hF4 j h1 h2)
  replace hF6 := fun j h1 h2 => (hne j (by omega)).trans (hF6 j h1 h2)
  replace hF8 := fun j h1 h2 => (hne j (by omega)).trans (hF8 j h1 h2)
  replace hF11 := fun j h1 h2 => (hne j (by omega)).trans (hF11 j h1 h2)
  replace hF14 := fun j h1 h2 => (hne j (by omega)).trans (hF14 j h1 h2)
  replace hB := fun j h1 => (hne j (by omega)).trans (hB j h1)
  refine lv_dup C.1.1 C.1.2.1 dX10_init_105 rfl ?_
  replace hx17 : M 199 = .inr (kd 199, blk (kd 199)) := by rw [hx17, show kd 199 = 5 from (by decide)]
  refine r_callIN (rest := [.ref (g.1 + 199), .int 0, .ref (g.1 + 198)]) C hKc hW (c_X5_init g l 199 (by decide)) hx17 cd_X5_init (by decide +kernel) (g1 184 (Eq.refl _) rfl) (g1 6 (Eq.refl _) rfl) rfl (by decide +kernel) ⟨by decide, by decide⟩ ⟨by decide, by decide⟩ hl.1 (Nat.le_of_ble_eq_true rfl) dX10_init_106 (fun M H locs hF18 hb hW => ?_)
  replace hO := (hb 0 (by omega)).trans hO
  replace hx9 := (hb 181 (by omega)).trans hx9
  replace hx16 := (hb 198 (by omega)).trans hx16
  replace hF2 := fun j h1 h2 => (hb j (by omega)).trans (hF2 j h1 h2)
  replace hF4 := fun j h1 h2 => (hb j (by omega)).trans (hF4 j h1 h2)
  replace hF6 := fun j h1 h2 => (hb j (by omega)).trans (hF6 j h1 h2)
  replace hF8 := fun j h1 h2 => (hb j (by omega)).trans (hF8 j h1 h2)
  replace hF11 := fun j h1 h2 => (hb j (by omega)).trans (hF11 j h1 h2)
  replace hF14 := fun j h1 h2 => (hb j (by omega)).trans (hF14 j h1 h2)
  replace hB := fun j h1 => (hb j (by omega)).trans (hB j h1)
  have hW : Wr g s 201 M H locs := hW
  have hv19 := (hF18 199 (by omega) (by omega)).trans (EE_5 (by decide))
  refine r_ast (j := 0) (t := 3) (ci := 5) (N := 4) (r := (RX5, TX5, 3)) C hW (by omega) hx16 rfl (by omega) hv19 rfl (by decide) (by decide) (by decide) dX10_init_109 (fun M H locs hx16' hne hW => ?_)
  clear hv19
  replace hx16 := hx16'
  clear hx16'
  replace hO := (hne 0 (by omega)).trans hO
  replace hx9 := (hne 181 (by omega)).trans hx9
  replace hF2 := fun j h1 h2 => (hne j (by omega)).trans (hF2 j h1 h2)
  replace hF4 := fun j h1 h2 => (hne j (by omega)).trans (hF4 j h1 h2)
  replace hF6 := fun j h1 h2 => (hne j (by omega)).trans (hF6 j h1 h2)
  replace hF8 := fun j h1 h2 => (hne j (by omega)).trans (hF8 j h1 h2)
  replace hF11 := fun j h1 h2 => (hne j (by omega)).trans (hF11 j h1 h2)
  replace hF14 := fun j h1 h2 => (hne j (by omega)).trans (hF14 j h1 h2)
  replace hF18 := fun j h1 h2 => (hne j (by omega)).trans (hF18 j h1 h2)
  replace hB := fun j h1 => (hne j (by omega)).trans (hB j h1)
  refine lv_iinc (v := 1) (lv' := [(1, .int 1), (0, .ref (g.1 + 0))]) C.1.1 C.1.2.1 dX10_init_110 hl (k := 0) rfl (by decide) (by decide) rfl (fun ls hl => ?_)
  refine lv_goto (tgt := 92) C.1.1 C.1.2.1 dX10_init_113 (by decide) ?_
  refine lv_iload_n C.1.1 C.1.2.1 dX10_init_92 rfl (lv_at hl 0 rfl) ?_
  refine lv_iconst (v := 4) C.1.1 C.1.2.1 dX10_init_93 (by decide) ?_
  refine lv_icmp_ge (tgt := 116) C.1.1 C.1.2.1 dX10_init_94 (by decide) (fun hc => absurd hc (by decide)) (fun _ => ?_)
  refine lv_aload_n C.1.1 C.1.2.1 dX10_init_97 rfl (lv_at hl 1 rfl) ?_
  refine r_get (ci := 10) (Cn := RX10) (T := TX10) (N := 11) C hW inG10 (by omega) hO rfl 5 (by decide) (ref := RX10) (g2 93 (Eq.refl _) rfl) rfl rfl dX10_init_98 ?_
  refine lv_iload_n C.1.1 C.1.2.1 dX10_init_101 rfl (lv_at hl 0 rfl) ?_
  refine r_new (ci := 5) (Cn := RX5) (T := TX5) (N := 3) (fs := blk 5) C hW inG5 tyX5 tyX5_ok (g1 180 (Eq.refl _) rfl) (g1 182 (Eq.refl _) rfl) (g1 6 (Eq.refl _) rfl) rfl bk_5 (by decide) (by decide) dX10_init_102 (fun M H hx20 hne hW => ?_)
  replace hO := (hne 0 (by omega)).trans hO
  replace hx9 := (hne 181 (by omega)).trans hx9
  replace hx16 := (hne 198 (by omega)).trans hx16
  replace hF2 := fun j h1 h2 => (hne j (by omega)).trans (hF2 j h1 h2)
  replace hF4 := fun j h1 h2 => (hne j (by omega)).trans (hF4 j h1 h2)
  replace hF6 := fun j h1 h2 => (hne j (by omega)).trans (hF6 j h1 h2)
  replace hF8 := fun j h1 h2 => (hne j (by omega)).trans (hF8 j h1 h2)
  replace hF11 := fun j h1 h2 => (hne j (by omega)).trans (hF11 j h1 h2)
  replace hF14 := fun j h1 h2 => (hne j (by omega)).trans (hF14 j h1 h2)
  replace hF18 := fun j h1 h2 => (hne j (by omega)).trans (hF18 j h1 h2)
  replace hB := fun j h1 => (hne j (by omega)).trans (hB j h1)
  refine lv_dup C.1.1 C.1.2.1 dX10_init_105 rfl ?_
  replace hx20 : M 201 = .inr (kd 201, blk (kd 201)) := by rw [hx20, show kd 201 = 5 from (by decide)]
  refine r_callIN (rest := [.ref (g.1 + 201), .int 1, .ref (g.1 + 198)]) C hKc hW (c_X5_init g l 201 (by decide)) hx20 cd_X5_init (by decide +kernel) (g1 184 (Eq.refl _) rfl) (g1 6 (Eq.refl _) rfl) rfl (by decide +kernel) ⟨by decide, by decide⟩ ⟨by decide, by decide⟩ hl.1 (Nat.le_of_ble_eq_true rfl) dX10_init_106 (fun M H locs hF21 hb hW => ?_)
  replace hO := (hb 0 (by omega)).trans hO
  replace hx9 := (hb 181 (by omega)).trans hx9
  replace hx16 := (hb 198 (by omega)).trans hx16
  replace hF2 := fun j h1 h2 => (hb j (by omega)).trans (hF2 j h1 h2)
  replace hF4 := fun j h1 h2 => (hb j (by omega)).trans (hF4 j h1 h2)
  replace hF6 := fun j h1 h2 => (hb j (by omega)).trans (hF6 j h1 h2)
  replace hF8 := fun j h1 h2 => (hb j (by omega)).trans (hF8 j h1 h2)
  replace hF11 := fun j h1 h2 => (hb j (by omega)).trans (hF11 j h1 h2)
  replace hF14 := fun j h1 h2 => (hb j (by omega)).trans (hF14 j h1 h2)
  replace hF18 := fun j h1 h2 => (hb j (by omega)).trans (hF18 j h1 h2)
  replace hB := fun j h1 => (hb j (by omega)).trans (hB j h1)
  have hW : Wr g s 203 M H locs := hW
  have hv22 := (hF21 201 (by omega) (by omega)).trans (EE_5 (by decide))
  refine r_ast (j := 1) (t := 3) (ci := 5) (N := 4) (r := (RX5, TX5, 3)) C hW (by omega) hx16 rfl (by omega) hv22 rfl (by decide) (by decide) (by decide) dX10_init_109 (fun M H locs hx16' hne hW => ?_)
  clear hv22
  replace hx16 := hx16'
  clear hx16'
  replace hO := (hne 0 (by omega)).trans hO
  replace hx9 := (hne 181 (by omega)).trans hx9
  replace hF2 := fun j h1 h2 => (hne j (by omega)).trans (hF2 j h1 h2)
  replace hF4 := fun j h1 h2 => (hne j (by omega)).trans (hF4 j h1 h2)
  replace hF6 := fun j h1 h2 => (hne j (by omega)).trans (hF6 j h1 h2)
  replace hF8 := fun j h1 h2 => (hne j (by omega)).trans (hF8 j h1 h2)
  replace hF11 := fun j h1 h2 => (hne j (by omega)).trans (hF11 j h1 h2)
  replace hF14 := fun j h1 h2 => (hne j (by omega)).trans (hF14 j h1 h2)
  replace hF18 := fun j h1 h2 => (hne j (by omega)).trans (hF18 j h1 h2)
  replace hF21 := fun j h1 h2 => (hne j (by omega)).trans (hF21 j h1 h2)
  replace hB := fun j h1 => (hne j (by omega)).trans (hB j h1)
  refine lv_iinc (v := 2) (lv' := [(1, .int 2), (0, .ref (g.1 + 0))]) C.1.1 C.1.2.1 dX10_init_110 hl (k := 0) rfl (by decide) (by decide) rfl (fun ls hl => ?_)
  refine lv_goto (tgt := 92) C.1.1 C.1.2.1 dX10_init_113 (by decide) ?_
  refine lv_iload_n C.1.1 C.1.2.1 dX10_init_92 rfl (lv_at hl 0 rfl) ?_
  refine lv_iconst (v := 4) C.1.1 C.1.2.1 dX10_init_93 (by decide) ?_
  refine lv_icmp_ge (tgt := 116) C.1.1 C.1.2.1 dX10_init_94 (by decide) (fun hc => absurd hc (by decide)) (fun _ => ?_)
  refine lv_aload_n C.1.1 C.1.2.1 dX10_init_97 rfl (lv_at hl 1 rfl) ?_
  refine r_get (ci := 10) (Cn := RX10) (T := TX10) (N := 11) C hW inG10 (by omega) hO rfl 5 (by decide) (ref := RX10) (g2 93 (Eq.refl _) rfl) rfl rfl dX10_init_98 ?_
  refine lv_iload_n C.1.1 C.1.2.1 dX10_init_101 rfl (lv_at hl 0 rfl) ?_
  refine r_new (ci := 5) (Cn := RX5) (T := TX5) (N := 3) (fs := blk 5) C hW inG5 tyX5 tyX5_ok (g1 180 (Eq.refl _) rfl) (g1 182 (Eq.refl _) rfl) (g1 6 (Eq.refl _) rfl) rfl bk_5 (by decide) (by decide) dX10_init_102 (fun M H hx23 hne hW => ?_)
  replace hO := (hne 0 (by omega)).trans hO
  replace hx9 := (hne 181 (by omega)).trans hx9
  replace hx16 := (hne 198 (by omega)).trans hx16
  replace hF2 := fun j h1 h2 => (hne j (by omega)).trans (hF2 j h1 h2)
  replace hF4 := fun j h1 h2 => (hne j (by omega)).trans (hF4 j h1 h2)
  replace hF6 := fun j h1 h2 => (hne j (by omega)).trans (hF6 j h1 h2)
  replace hF8 := fun j h1 h2 => (hne j (by omega)).trans (hF8 j h1 h2)
  replace hF11 := fun j h1 h2 => (hne j (by omega)).trans (hF11 j h1 h2)
  replace hF14 := fun j h1 h2 => (hne j (by omega)).trans (hF14 j h1 h2)
  replace hF18 := fun j h1 h2 => (hne j (by omega)).trans (hF18 j h1 h2)
  replace hF21 := fun j h1 h2 => (hne j (by omega)).trans (hF21 j h1 h2)
  replace hB := fun j h1 => (hne j (by omega)).trans (hB j h1)
  refine lv_dup C.1.1 C.1.2.1 dX10_init_105 rfl ?_
  replace hx23 : M 203 = .inr (kd 203, blk (kd 203)) := by rw [hx23, show kd 203 = 5 from (by decide)]
  refine r_callIN (rest := [.ref (g.1 + 203), .int 2, .ref (g.1 + 198)]) C hKc hW (c_X5_init g l 203 (by decide)) hx23 cd_X5_init (by decide +kernel) (g1 184 (Eq.refl _) rfl) (g1 6 (Eq.refl _) rfl) rfl (by decide +kernel) ⟨by decide, by decide⟩ ⟨by decide, by decide⟩ hl.1 (Nat.le_of_ble_eq_true rfl) dX10_init_106 (fun M H locs hF24 hb hW => ?_)
  replace hO := (hb 0 (by omega)).trans hO
  replace hx9 := (hb 181 (by omega)).trans hx9
  replace hx16 := (hb 198 (by omega)).trans hx16
  replace hF2 := fun j h1 h2 => (hb j (by omega)).trans (hF2 j h1 h2)
  replace hF4 := fun j h1 h2 => (hb j (by omega)).trans (hF4 j h1 h2)
  replace hF6 := fun j h1 h2 => (hb j (by omega)).trans (hF6 j h1 h2)
  replace hF8 := fun j h1 h2 => (hb j (by omega)).trans (hF8 j h1 h2)
  replace hF11 := fun j h1 h2 => (hb j (by omega)).trans (hF11 j h1 h2)
  replace hF14 := fun j h1 h2 => (hb j (by omega)).trans (hF14 j h1 h2)
  replace hF18 := fun j h1 h2 => (hb j (by omega)).trans (hF18 j h1 h2)
  replace hF21 := fun j h1 h2 => (hb j (by omega)).trans (hF21 j h1 h2)
  replace hB := fun j h1 => (hb j (by omega)).trans (hB j h1)
  have hW : Wr g s 205 M H locs := hW
  have hv25 := (hF24 203 (by omega) (by omega)).trans (EE_5 (by decide))
  refine r_ast (j := 2) (t := 3) (ci := 5) (N := 4) (r := (RX5, TX5, 3)) C hW (by omega) hx16 rfl (by omega) hv25 rfl (by decide) (by decide) (by decide) dX10_init_109 (fun M H locs hx16' hne hW => ?_)
  clear hv25
  replace hx16 := hx16'
  clear hx16'
  replace hO := (hne 0 (by omega)).trans hO
  replace hx9 := (hne 181 (by omega)).trans hx9
  replace hF2 := fun j h1 h2 => (hne j (by omega)).trans (hF2 j h1 h2)
  replace hF4 := fun j h1 h2 => (hne j (by omega)).trans (hF4 j h1 h2)
  replace hF6 := fun j h1 h2 => (hne j (by omega)).trans (hF6 j h1 h2)
  replace hF8 := fun j h1 h2 => (hne j (by omega)).trans (hF8 j h1 h2)
  replace hF11 := fun j h1 h2 => (hne j (by omega)).trans (hF11 j h1 h2)
  replace hF14 := fun j h1 h2 => (hne j (by omega)).trans (hF14 j h1 h2)
  replace hF18 := fun j h1 h2 => (hne j (by omega)).trans (hF18 j h1 h2)
  replace hF21 := fun j h1 h2 => (hne j (by omega)).trans (hF21 j h1 h2)
  replace hF24 := fun j h1 h2 => (hne j (by omega)).trans (hF24 j h1 h2)
  replace hB := fun j h1 => (hne j (by omega)).trans (hB j h1)
  refine lv_iinc (v := 3) (lv' := [(1, .int 3), (0, .ref (g.1 + 0))]) C.1.1 C.1.2.1 dX10_init_110 hl (k := 0) rfl (by decide) (by decide) rfl (fun ls hl => ?_)
  refine lv_goto (tgt := 92) C.1.1 C.1.2.1 dX10_init_113 (by decide) ?_
  refine lv_iload_n C.1.1 C.1.2.1 dX10_init_92 rfl (lv_at hl 0 rfl) ?_
  refine lv_iconst (v := 4) C.1.1 C.1.2.1 dX10_init_93 (by decide) ?_
  refine lv_icmp_ge (tgt := 116) C.1.1 C.1.2.1 dX10_init_94 (by decide) (fun hc => absurd hc (by decide)) (fun _ => ?_)
  refine lv_aload_n C.1.1 C.1.2.1 dX10_init_97 rfl (lv_at hl 1 rfl) ?_
  refine r_get (ci := 10) (Cn := RX10) (T := TX10) (N := 11) C hW inG10 (by omega) hO rfl 5 (by decide) (ref := RX10) (g2 93 (Eq.refl _) rfl) rfl rfl dX10_init_98 ?_
  refine lv_iload_n C.1.1 C.1.2.1 dX10_init_101 rfl (lv_at hl 0 rfl) ?_
  refine r_new (ci := 5) (Cn := RX5) (T := TX5) (N := 3) (fs := blk 5) C hW inG5 tyX5 tyX5_ok (g1 180 (Eq.refl _) rfl) (g1 182 (Eq.refl _) rfl) (g1 6 (Eq.refl _) rfl) rfl bk_5 (by decide) (by decide) dX10_init_102 (fun M H hx26 hne hW => ?_)
  replace hO := (hne 0 (by omega)).trans hO
  replace hx9 := (hne 181 (by omega)).trans hx9
  replace hx16 := (hne 198 (by omega)).trans hx16
  replace hF2 := fun j h1 h2 => (hne j (by omega)).trans (hF2 j h1 h2)
  replace hF4 := fun j h1 h2 => (hne j (by omega)).trans (hF4 j h1 h2)
  replace hF6 := fun j h1 h2 => (hne j (by omega)).trans (hF6 j h1 h2)
  replace hF8 := fun j h1 h2 => (hne j (by omega)).trans (hF8 j h1 h2)
  replace hF11 := fun j h1 h2 => (hne j (by omega)).trans (hF11 j h1 h2)
  replace hF14 := fun j h1 h2 => (hne j (by omega)).trans (hF14 j h1 h2)
  replace hF18 := fun j h1 h2 => (hne j (by omega)).trans (hF18 j h1 h2)
  replace hF21 := fun j h1 h2 => (hne j (by omega)).trans (hF21 j h1 h2)
  replace hF24 := fun j h1 h2 => (hne j (by omega)).trans (hF24 j h1 h2)
  replace hB := fun j h1 => (hne j (by omega)).trans (hB j h1)
  refine lv_dup C.1.1 C.1.2.1 dX10_init_105 rfl ?_
  replace hx26 : M 205 = .inr (kd 205, blk (kd 205)) := by rw [hx26, show kd 205 = 5 from (by decide)]
  refine r_callIN (rest := [.ref (g.1 + 205), .int 3, .ref (g.1 + 198)]) C hKc hW (c_X5_init g l 205 (by decide)) hx26 cd_X5_init (by decide +kernel) (g1 184 (Eq.refl _) rfl) (g1 6 (Eq.refl _) rfl) rfl (by decide +kernel) ⟨by decide, by decide⟩ ⟨by decide, by decide⟩ hl.1 (Nat.le_of_ble_eq_true rfl) dX10_init_106 (fun M H locs hF27 hb hW => ?_)
  replace hO := (hb 0 (by omega)).trans hO
  replace hx9 := (hb 181 (by omega)).trans hx9
  replace hx16 := (hb 198 (by omega)).trans hx16
  replace hF2 := fun j h1 h2 => (hb j (by omega)).trans (hF2 j h1 h2)
  replace hF4 := fun j h1 h2 => (hb j (by omega)).trans (hF4 j h1 h2)
  replace hF6 := fun j h1 h2 => (hb j (by omega)).trans (hF6 j h1 h2)
  replace hF8 := fun j h1 h2 => (hb j (by omega)).trans (hF8 j h1 h2)
  replace hF11 := fun j h1 h2 => (hb j (by omega)).trans (hF11 j h1 h2)
  replace hF14 := fun j h1 h2 => (hb j (by omega)).trans (hF14 j h1 h2)
  replace hF18 := fun j h1 h2 => (hb j (by omega)).trans (hF18 j h1 h2)
  replace hF21 := fun j h1 h2 => (hb j (by omega)).trans (hF21 j h1 h2)
  replace hF24 := fun j h1 h2 => (hb j (by omega)).trans (hF24 j h1 h2)
  replace hB := fun j h1 => (hb j (by omega)).trans (hB j h1)
  have hW : Wr g s 207 M H locs := hW
  have hv28 := (hF27 205 (by omega) (by omega)).trans (EE_5 (by decide))
  refine r_ast (j := 3) (t := 3) (ci := 5) (N := 4) (r := (RX5, TX5, 3)) C hW (by omega) hx16 rfl (by omega) hv28 rfl (by decide) (by decide) (by decide) dX10_init_109 (fun M H locs hx16' hne hW => ?_)
  clear hv28
  replace hx16 := hx16'
  clear hx16'
  replace hO := (hne 0 (by omega)).trans hO
  replace hx9 := (hne 181 (by omega)).trans hx9
  replace hF2 := fun j h1 h2 => (hne j (by omega)).trans (hF2 j h1 h2)
  replace hF4 := fun j h1 h2 => (hne j (by omega)).trans (hF4 j h1 h2)
  replace hF6 := fun j h1 h2 => (hne j (by omega)).trans (hF6 j h1 h2)
  replace hF8 := fun j h1 h2 => (hne j (by omega)).trans (hF8 j h1 h2)
  replace hF11 := fun j h1 h2 => (hne j (by omega)).trans (hF11 j h1 h2)
  replace hF14 := fun j h1 h2 => (hne j (by omega)).trans (hF14 j h1 h2)
  replace hF18 := fun j h1 h2 => (hne j (by omega)).trans (hF18 j h1 h2)
  replace hF21 := fun j h1 h2 => (hne j (by omega)).trans (hF21 j h1 h2)
  replace hF24 := fun j h1 h2 => (hne j (by omega)).trans (hF24 j h1 h2)
  replace hF27 := fun j h1 h2 => (hne j (by omega)).trans (hF27 j h1 h2)
  replace hB := fun j h1 => (hne j (by omega)).trans (hB j h1)
  refine lv_iinc (v := 4) (lv' := [(1, .int 4), (0, .ref (g.1 + 0))]) C.1.1 C.1.2.1 dX10_init_110 hl (k := 0) rfl (by decide) (by decide) rfl (fun ls hl => ?_)
  refine lv_goto (tgt := 92) C.1.1 C.1.2.1 dX10_init_113 (by decide) ?_
  refine lv_iload_n C.1.1 C.1.2.1 dX10_init_92 rfl (lv_at hl 0 rfl) ?_
  refine lv_iconst (v := 4) C.1.1 C.1.2.1 dX10_init_93 (by decide) ?_
  refine lv_icmp_ge (tgt := 116) C.1.1 C.1.2.1 dX10_init_94 (by decide) (fun _ => ?_) (fun hc => absurd (by decide) hc)
  refine lv_aload_n C.1.1 C.1.2.1 dX10_init_116 rfl (lv_at hl 1 rfl) ?_
  refine r_new (ci := 1) (Cn := RX1) (T := TX1) (N := 6) (fs := blk 1) C hW inG1 tyX1 tyX1_ok (g1 204 (Eq.refl _) rfl) (g1 205 (Eq.refl _) rfl) (g1 7 (Eq.refl _) rfl) rfl bk_1 (by decide) (by decide) dX10_init_117 (fun M H hx29 hne hW => ?_)
  replace hO := (hne 0 (by omega)).trans hO
  replace hx9 := (hne 181 (by omega)).trans hx9
  replace hx16 := (hne 198 (by omega)).trans hx16
  replace hF2 := fun j h1 h2 => (hne j (by omega)).trans (hF2 j h1 h2)
  replace hF4 := fun j h1 h2 => (hne j (by omega)).trans (hF4 j h1 h2)
  replace hF6 := fun j h1 h2 => (hne j (by omega)).trans (hF6 j h1 h2)
  replace hF8 := fun j h1 h2 => (hne j (by omega)).trans (hF8 j h1 h2)
  replace hF11 := fun j h1 h2 => (hne j (by omega)).trans (hF11 j h1 h2)
  replace hF14 := fun j h1 h2 => (hne j (by omega)).trans (hF14 j h1 h2)
  replace hF18 := fun j h1 h2 => (hne j (by omega)).trans (hF18 j h1 h2)
  replace hF21 := fun j h1 h2 => (hne j (by omega)).trans (hF21 j h1 h2)
  replace hF24 := fun j h1 h2 => (hne j (by omega)).trans (hF24 j h1 h2)
  replace hF27 := fun j h1 h2 => (hne j (by omega)).trans (hF27 j h1 h2)
  replace hB := fun j h1 => (hne j (by omega)).trans (hB j h1)
  refine lv_dup C.1.1 C.1.2.1 dX10_init_120 rfl ?_
  replace hx29 : M 207 = .inr (kd 207, blk (kd 207)) := by rw [hx29, show kd 207 = 1 from (by decide)]
  refine r_callIN (rest := [.ref (g.1 + 207), .ref (g.1 + 0)]) C hKc hW (c_X1_init g l) hx29 cd_X1_init (by decide +kernel) (g1 207 (Eq.refl _) rfl) (g1 7 (Eq.refl _) rfl) rfl (by decide +kernel) ⟨by decide, by decide⟩ ⟨by decide, by decide⟩ hl.1 (Nat.le_of_ble_eq_true rfl) dX10_init_121 (fun M H locs hF30 hb hW => ?_)
  replace hO := (hb 0 (by omega)).trans hO
  replace hx9 := (hb 181 (by omega)).trans hx9
  replace hx16 := (hb 198 (by omega)).trans hx16
  replace hF2 := fun j h1 h2 => (hb j (by omega)).trans (hF2 j h1 h2)
  replace hF4 := fun j h1 h2 => (hb j (by omega)).trans (hF4 j h1 h2)
  replace hF6 := fun j h1 h2 => (hb j (by omega)).trans (hF6 j h1 h2)
  replace hF8 := fun j h1 h2 => (hb j (by omega)).trans (hF8 j h1 h2)
  replace hF11 := fun j h1 h2 => (hb j (by omega)).trans (hF11 j h1 h2)
  replace hF14 := fun j h1 h2 => (hb j (by omega)).trans (hF14 j h1 h2)
  replace hF18 := fun j h1 h2 => (hb j (by omega)).trans (hF18 j h1 h2)
  replace hF21 := fun j h1 h2 => (hb j (by omega)).trans (hF21 j h1 h2)
  replace hF24 := fun j h1 h2 => (hb j (by omega)).trans (hF24 j h1 h2)
  replace hF27 := fun j h1 h2 => (hb j (by omega)).trans (hF27 j h1 h2)
  replace hB := fun j h1 => (hb j (by omega)).trans (hB j h1)
  have hW : Wr g s 212 M H locs := hW
  refine r_putF (ci := 10) (Cn := RX10) (T := TX10) (N := 11) (ty0 := tyX10) (v := .ref (g.1 + 207)) (ty := .object "WallPatience$Forecast") C hW inG10 tyX10_ok nmX10 (by omega) hO rfl 6 (by decide) (ref := RX10) (g2 94 (Eq.refl _) rfl) rfl rfl hin rfl (by decide +kernel) rfl rfl (Nat.le_of_ble_eq_true rfl) dX10_init_124 (fun M H locs hO' hne hW => ?_)
  replace hO : M 0 = .inr (10, [.ref (g.1 + 1), .ref (g.1 + 3), .ref (g.1 + 11), .ref (g.1 + 19), .ref (g.1 + 181), .ref (g.1 + 198), .ref (g.1 + 207), .null, .null, .null, .null]) := hO'
  clear hO'
  replace hx9 := (hne 181 (by omega)).trans hx9
  replace hx16 := (hne 198 (by omega)).trans hx16
  replace hF2 := fun j h1 h2 => (hne j (by omega)).trans (hF2 j h1 h2)
  replace hF4 := fun j h1 h2 => (hne j (by omega)).trans (hF4 j h1 h2)
  replace hF6 := fun j h1 h2 => (hne j (by omega)).trans (hF6 j h1 h2)
  replace hF8 := fun j h1 h2 => (hne j (by omega)).trans (hF8 j h1 h2)
  replace hF11 := fun j h1 h2 => (hne j (by omega)).trans (hF11 j h1 h2)
  replace hF14 := fun j h1 h2 => (hne j (by omega)).trans (hF14 j h1 h2)
  replace hF18 := fun j h1 h2 => (hne j (by omega)).trans (hF18 j h1 h2)
  replace hF21 := fun j h1 h2 => (hne j (by omega)).trans (hF21 j h1 h2)
  replace hF24 := fun j h1 h2 => (hne j (by omega)).trans (hF24 j h1 h2)
  replace hF27 := fun j h1 h2 => (hne j (by omega)).trans (hF27 j h1 h2)
  replace hF30 := fun j h1 h2 => (hne j (by omega)).trans (hF30 j h1 h2)
  replace hB := fun j h1 => (hne j (by omega)).trans (hB j h1)
  refine lv_aload_n C.1.1 C.1.2.1 dX10_init_127 rfl (lv_at hl 1 rfl) ?_
  refine r_new (ci := 0) (Cn := RX0) (T := TX0) (N := 7) (fs := blk 0) C hW inG0 tyX0 tyX0_ok (g1 237 (Eq.refl _) rfl) (g1 238 (Eq.refl _) rfl) (g1 8 (Eq.refl _) rfl) rfl bk_0 (by decide) (by decide) dX10_init_128 (fun M H hx31 hne hW => ?_)
  replace hO := (hne 0 (by omega)).trans hO
  replace hx9 := (hne 181 (by omega)).trans hx9
  replace hx16 := (hne 198 (by omega)).trans hx16
  replace hF2 := fun j h1 h2 => (hne j (by omega)).trans (hF2 j h1 h2)
  replace hF4 := fun j h1 h2 => (hne j (by omega)).trans (hF4 j h1 h2)
  replace hF6 := fun j h1 h2 => (hne j (by omega)).trans (hF6 j h1 h2)
  replace hF8 := fun j h1 h2 => (hne j (by omega)).trans (hF8 j h1 h2)
  replace hF11 := fun j h1 h2 => (hne j (by omega)).trans (hF11 j h1 h2)
  replace hF14 := fun j h1 h2 => (hne j (by omega)).trans (hF14 j h1 h2)
  replace hF18 := fun j h1 h2 => (hne j (by omega)).trans (hF18 j h1 h2)
  replace hF21 := fun j h1 h2 => (hne j (by omega)).trans (hF21 j h1 h2)
  replace hF24 := fun j h1 h2 => (hne j (by omega)).trans (hF24 j h1 h2)
  replace hF27 := fun j h1 h2 => (hne j (by omega)).trans (hF27 j h1 h2)
  replace hF30 := fun j h1 h2 => (hne j (by omega)).trans (hF30 j h1 h2)
  replace hB := fun j h1 => (hne j (by omega)).trans (hB j h1)
  refine lv_dup C.1.1 C.1.2.1 dX10_init_131 rfl ?_
  replace hx31 : M 212 = .inr (kd 212, blk (kd 212)) := by rw [hx31, show kd 212 = 0 from (by decide)]
  refine r_callIN (rest := [.ref (g.1 + 212), .ref (g.1 + 0)]) C hKc hW (c_X0_init g l) hx31 cd_X0_init (by decide +kernel) (g2 0 (Eq.refl _) rfl) (g1 8 (Eq.refl _) rfl) rfl (by decide +kernel) ⟨by decide, by decide⟩ ⟨by decide, by decide⟩ hl.1 (Nat.le_of_ble_eq_true rfl) dX10_init_132 (fun M H locs hF32 hb hW => ?_)
  replace hO := (hb 0 (by omega)).trans hO
  replace hx9 := (hb 181 (by omega)).trans hx9
  replace hx16 := (hb 198 (by omega)).trans hx16
  replace hF2 := fun j h1 h2 => (hb j (by omega)).trans (hF2 j h1 h2)
  replace hF4 := fun j h1 h2 => (hb j (by omega)).trans (hF4 j h1 h2)
  replace hF6 := fun j h1 h2 => (hb j (by omega)).trans (hF6 j h1 h2)
  replace hF8 := fun j h1 h2 => (hb j (by omega)).trans (hF8 j h1 h2)
  replace hF11 := fun j h1 h2 => (hb j (by omega)).trans (hF11 j h1 h2)
  replace hF14 := fun j h1 h2 => (hb j (by omega)).trans (hF14 j h1 h2)
  replace hF18 := fun j h1 h2 => (hb j (by omega)).trans (hF18 j h1 h2)
  replace hF21 := fun j h1 h2 => (hb j (by omega)).trans (hF21 j h1 h2)
  replace hF24 := fun j h1 h2 => (hb j (by omega)).trans (hF24 j h1 h2)
  replace hF27 := fun j h1 h2 => (hb j (by omega)).trans (hF27 j h1 h2)
  replace hF30 := fun j h1 h2 => (hb j (by omega)).trans (hF30 j h1 h2)
  replace hB := fun j h1 => (hb j (by omega)).trans (hB j h1)
  have hW : Wr g s 220 M H locs := hW
  refine r_putF (ci := 10) (Cn := RX10) (T := TX10) (N := 11) (ty0 := tyX10) (v := .ref (g.1 + 212)) (ty := .object "WallPatience$Chances") C hW inG10 tyX10_ok nmX10 (by omega) hO rfl 7 (by decide) (ref := RX10) (g2 95 (Eq.refl _) rfl) rfl rfl hin rfl (by decide +kernel) rfl rfl (Nat.le_of_ble_eq_true rfl) dX10_init_135 (fun M H locs hO' hne hW => ?_)
  replace hO : M 0 = .inr (10, [.ref (g.1 + 1), .ref (g.1 + 3), .ref (g.1 + 11), .ref (g.1 + 19), .ref (g.1 + 181), .ref (g.1 + 198), .ref (g.1 + 207), .ref (g.1 + 212), .null, .null, .null]) := hO'
  clear hO'
  replace hx9 := (hne 181 (by omega)).trans hx9
  replace hx16 := (hne 198 (by omega)).trans hx16
  replace hF2 := fun j h1 h2 => (hne j (by omega)).trans (hF2 j h1 h2)
  replace hF4 := fun j h1 h2 => (hne j (by omega)).trans (hF4 j h1 h2)
  replace hF6 := fun j h1 h2 => (hne j (by omega)).trans (hF6 j h1 h2)
  replace hF8 := fun j h1 h2 => (hne j (by omega)).trans (hF8 j h1 h2)
  replace hF11 := fun j h1 h2 => (hne j (by omega)).trans (hF11 j h1 h2)
  replace hF14 := fun j h1 h2 => (hne j (by omega)).trans (hF14 j h1 h2)
  replace hF18 := fun j h1 h2 => (hne j (by omega)).trans (hF18 j h1 h2)
  replace hF21 := fun j h1 h2 => (hne j (by omega)).trans (hF21 j h1 h2)
  replace hF24 := fun j h1 h2 => (hne j (by omega)).trans (hF24 j h1 h2)
  replace hF27 := fun j h1 h2 => (hne j (by omega)).trans (hF27 j h1 h2)
  replace hF30 := fun j h1 h2 => (hne j (by omega)).trans (hF30 j h1 h2)
  replace hF32 := fun j h1 h2 => (hne j (by omega)).trans (hF32 j h1 h2)
  replace hB := fun j h1 => (hne j (by omega)).trans (hB j h1)
  refine lv_aload_n C.1.1 C.1.2.1 dX10_init_138 rfl (lv_at hl 1 rfl) ?_
  refine r_new (ci := 4) (Cn := RX4) (T := TX4) (N := 3) (fs := blk 4) C hW inG4 tyX4 tyX4_ok (g2 27 (Eq.refl _) rfl) (g2 28 (Eq.refl _) rfl) (g1 9 (Eq.refl _) rfl) rfl bk_4 (by decide) (by decide) dX10_init_139 (fun M H hx33 hne hW => ?_)
  replace hO := (hne 0 (by omega)).trans hO
  replace hx9 := (hne 181 (by omega)).trans hx9
  replace hx16 := (hne 198 (by omega)).trans hx16
  replace hF2 := fun j h1 h2 => (hne j (by omega)).trans (hF2 j h1 h2)
  replace hF4 := fun j h1 h2 => (hne j (by omega)).trans (hF4 j h1 h2)
  replace hF6 := fun j h1 h2 => (hne j (by omega)).trans (hF6 j h1 h2)
  replace hF8 := fun j h1 h2 => (hne j (by omega)).trans (hF8 j h1 h2)
  replace hF11 := fun j h1 h2 => (hne j (by omega)).trans (hF11 j h1 h2)
  replace hF14 := fun j h1 h2 => (hne j (by omega)).trans (hF14 j h1 h2)
  replace hF18 := fun j h1 h2 => (hne j (by omega)).trans (hF18 j h1 h2)
  replace hF21 := fun j h1 h2 => (hne j (by omega)).trans (hF21 j h1 h2)
  replace hF24 := fun j h1 h2 => (hne j (by omega)).trans (hF24 j h1 h2)
  replace hF27 := fun j h1 h2 => (hne j (by omega)).trans (hF27 j h1 h2)
  replace hF30 := fun j h1 h2 => (hne j (by omega)).trans (hF30 j h1 h2)
  replace hF32 := fun j h1 h2 => (hne j (by omega)).trans (hF32 j h1 h2)
  replace hB := fun j h1 => (hne j (by omega)).trans (hB j h1)
  refine lv_dup C.1.1 C.1.2.1 dX10_init_142 rfl ?_
  replace hx33 : M 220 = .inr (kd 220, blk (kd 220)) := by rw [hx33, show kd 220 = 4 from (by decide)]
  refine r_callI (rest := [.ref (g.1 + 220), .ref (g.1 + 0)]) C hKc hW (c_X4_init g l) hx33 cd_X4_init (g2 29 (Eq.refl _) rfl) (g2 30 (Eq.refl _) rfl) (g1 9 (Eq.refl _) rfl) rfl (by decide +kernel) ⟨by decide, by decide⟩ ⟨by decide, by decide⟩ hl.1 (Nat.le_of_ble_eq_true rfl) dX10_init_143 (fun M H locs hF34 hb hW => ?_)
  replace hO := (hb 0 (by omega)).trans hO
  replace hx9 := (hb 181 (by omega)).trans hx9
  replace hx16 := (hb 198 (by omega)).trans hx16
  replace hF2 := fun j h1 h2 => (hb j (by omega)).trans (hF2 j h1 h2)
  replace hF4 := fun j h1 h2 => (hb j (by omega)).trans (hF4 j h1 h2)
  replace hF6 := fun j h1 h2 => (hb j (by omega)).trans (hF6 j h1 h2)
  replace hF8 := fun j h1 h2 => (hb j (by omega)).trans (hF8 j h1 h2)
  replace hF11 := fun j h1 h2 => (hb j (by omega)).trans (hF11 j h1 h2)
  replace hF14 := fun j h1 h2 => (hb j (by omega)).trans (hF14 j h1 h2)
  replace hF18 := fun j h1 h2 => (hb j (by omega)).trans (hF18 j h1 h2)
  replace hF21 := fun j h1 h2 => (hb j (by omega)).trans (hF21 j h1 h2)
  replace hF24 := fun j h1 h2 => (hb j (by omega)).trans (hF24 j h1 h2)
  replace hF27 := fun j h1 h2 => (hb j (by omega)).trans (hF27 j h1 h2)
  replace hF30 := fun j h1 h2 => (hb j (by omega)).trans (hF30 j h1 h2)
  replace hF32 := fun j h1 h2 => (hb j (by omega)).trans (hF32 j h1 h2)
  replace hB := fun j h1 => (hb j (by omega)).trans (hB j h1)
  have hW : Wr g s 237 M H locs := hW
  refine r_putF (ci := 10) (Cn := RX10) (T := TX10) (N := 11) (ty0 := tyX10) (v := .ref (g.1 + 220)) (ty := .object "WallPatience$Seconds") C hW inG10 tyX10_ok nmX10 (by omega) hO rfl 8 (by decide) (ref := RX10) (g2 96 (Eq.refl _) rfl) rfl rfl hin rfl (by decide +kernel) rfl rfl (Nat.le_of_ble_eq_true rfl) dX10_init_146 (fun M H locs hO' hne hW => ?_)
  replace hO : M 0 = .inr (10, [.ref (g.1 + 1), .ref (g.1 + 3), .ref (g.1 + 11), .ref (g.1 + 19), .ref (g.1 + 181), .ref (g.1 + 198), .ref (g.1 + 207), .ref (g.1 + 212), .ref (g.1 + 220), .null, .null]) := hO'
  clear hO'
  replace hx9 := (hne 181 (by omega)).trans hx9
  replace hx16 := (hne 198 (by omega)).trans hx16
  replace hF2 := fun j h1 h2 => (hne j (by omega)).trans (hF2 j h1 h2)
  replace hF4 := fun j h1 h2 => (hne j (by omega)).trans (hF4 j h1 h2)
  replace hF6 := fun j h1 h2 => (hne j (by omega)).trans (hF6 j h1 h2)
  replace hF8 := fun j h1 h2 => (hne j (by omega)).trans (hF8 j h1 h2)
  replace hF11 := fun j h1 h2 => (hne j (by omega)).trans (hF11 j h1 h2)
  replace hF14 := fun j h1 h2 => (hne j (by omega)).trans (hF14 j h1 h2)
  replace hF18 := fun j h1 h2 => (hne j (by omega)).trans (hF18 j h1 h2)
  replace hF21 := fun j h1 h2 => (hne j (by omega)).trans (hF21 j h1 h2)
  replace hF24 := fun j h1 h2 => (hne j (by omega)).trans (hF24 j h1 h2)
  replace hF27 := fun j h1 h2 => (hne j (by omega)).trans (hF27 j h1 h2)
  replace hF30 := fun j h1 h2 => (hne j (by omega)).trans (hF30 j h1 h2)
  replace hF32 := fun j h1 h2 => (hne j (by omega)).trans (hF32 j h1 h2)
  replace hF34 := fun j h1 h2 => (hne j (by omega)).trans (hF34 j h1 h2)
  replace hB := fun j h1 => (hne j (by omega)).trans (hB j h1)
  refine lv_aload_n C.1.1 C.1.2.1 dX10_init_149 rfl (lv_at hl 1 rfl) ?_
  refine r_new (ci := 8) (Cn := RX8) (T := TX8) (N := 5) (fs := blk 8) C hW inG8 tyX8 tyX8_ok (g2 45 (Eq.refl _) rfl) (g2 46 (Eq.refl _) rfl) (g1 10 (Eq.refl _) rfl) rfl bk_8 (by decide) (by decide) dX10_init_150 (fun M H hx35 hne hW => ?_)
  replace hO := (hne 0 (by omega)).trans hO
  replace hx9 := (hne 181 (by omega)).trans hx9
  replace hx16 := (hne 198 (by omega)).trans hx16
  replace hF2 := fun j h1 h2 => (hne j (by omega)).trans (hF2 j h1 h2)
  replace hF4 := fun j h1 h2 => (hne j (by omega)).trans (hF4 j h1 h2)
  replace hF6 := fun j h1 h2 => (hne j (by omega)).trans (hF6 j h1 h2)
  replace hF8 := fun j h1 h2 => (hne j (by omega)).trans (hF8 j h1 h2)
  replace hF11 := fun j h1 h2 => (hne j (by omega)).trans (hF11 j h1 h2)
  replace hF14 := fun j h1 h2 => (hne j (by omega)).trans (hF14 j h1 h2)
  replace hF18 := fun j h1 h2 => (hne j (by omega)).trans (hF18 j h1 h2)
  replace hF21 := fun j h1 h2 => (hne j (by omega)).trans (hF21 j h1 h2)
  replace hF24 := fun j h1 h2 => (hne j (by omega)).trans (hF24 j h1 h2)
  replace hF27 := fun j h1 h2 => (hne j (by omega)).trans (hF27 j h1 h2)
  replace hF30 := fun j h1 h2 => (hne j (by omega)).trans (hF30 j h1 h2)
  replace hF32 := fun j h1 h2 => (hne j (by omega)).trans (hF32 j h1 h2)
  replace hF34 := fun j h1 h2 => (hne j (by omega)).trans (hF34 j h1 h2)
  replace hB := fun j h1 => (hne j (by omega)).trans (hB j h1)
  refine lv_dup C.1.1 C.1.2.1 dX10_init_153 rfl ?_
  replace hx35 : M 237 = .inr (kd 237, blk (kd 237)) := by rw [hx35, show kd 237 = 8 from (by decide)]
  refine r_callIN (rest := [.ref (g.1 + 237), .ref (g.1 + 0)]) C hKc hW (c_X8_init g l) hx35 cd_X8_init (by decide +kernel) (g2 48 (Eq.refl _) rfl) (g1 10 (Eq.refl _) rfl) rfl (by decide +kernel) ⟨by decide, by decide⟩ ⟨by decide, by decide⟩ hl.1 (Nat.le_of_ble_eq_true rfl) dX10_init_154 (fun M H locs hF36 hb hW => ?_)
  replace hO := (hb 0 (by omega)).trans hO
  replace hx9 := (hb 181 (by omega)).trans hx9
  replace hx16 := (hb 198 (by omega)).trans hx16
  replace hF2 := fun j h1 h2 => (hb j (by omega)).trans (hF2 j h1 h2)
  replace hF4 := fun j h1 h2 => (hb j (by omega)).trans (hF4 j h1 h2)
  replace hF6 := fun j h1 h2 => (hb j (by omega)).trans (hF6 j h1 h2)
  replace hF8 := fun j h1 h2 => (hb j (by omega)).trans (hF8 j h1 h2)
  replace hF11 := fun j h1 h2 => (hb j (by omega)).trans (hF11 j h1 h2)
  replace hF14 := fun j h1 h2 => (hb j (by omega)).trans (hF14 j h1 h2)
  replace hF18 := fun j h1 h2 => (hb j (by omega)).trans (hF18 j h1 h2)
  replace hF21 := fun j h1 h2 => (hb j (by omega)).trans (hF21 j h1 h2)
  replace hF24 := fun j h1 h2 => (hb j (by omega)).trans (hF24 j h1 h2)
  replace hF27 := fun j h1 h2 => (hb j (by omega)).trans (hF27 j h1 h2)
  replace hF30 := fun j h1 h2 => (hb j (by omega)).trans (hF30 j h1 h2)
  replace hF32 := fun j h1 h2 => (hb j (by omega)).trans (hF32 j h1 h2)
  replace hF34 := fun j h1 h2 => (hb j (by omega)).trans (hF34 j h1 h2)
  replace hB := fun j h1 => (hb j (by omega)).trans (hB j h1)
  have hW : Wr g s 240 M H locs := hW
  refine r_putF (ci := 10) (Cn := RX10) (T := TX10) (N := 11) (ty0 := tyX10) (v := .ref (g.1 + 237)) (ty := .object "WallPatience$Tour") C hW inG10 tyX10_ok nmX10 (by omega) hO rfl 9 (by decide) (ref := RX10) (g2 97 (Eq.refl _) rfl) rfl rfl hin rfl (by decide +kernel) rfl rfl (Nat.le_of_ble_eq_true rfl) dX10_init_157 (fun M H locs hO' hne hW => ?_)
  replace hO : M 0 = .inr (10, [.ref (g.1 + 1), .ref (g.1 + 3), .ref (g.1 + 11), .ref (g.1 + 19), .ref (g.1 + 181), .ref (g.1 + 198), .ref (g.1 + 207), .ref (g.1 + 212), .ref (g.1 + 220), .ref (g.1 + 237), .null]) := hO'
  clear hO'
  replace hx9 := (hne 181 (by omega)).trans hx9
  replace hx16 := (hne 198 (by omega)).trans hx16
  replace hF2 := fun j h1 h2 => (hne j (by omega)).trans (hF2 j h1 h2)
  replace hF4 := fun j h1 h2 => (hne j (by omega)).trans (hF4 j h1 h2)
  replace hF6 := fun j h1 h2 => (hne j (by omega)).trans (hF6 j h1 h2)
  replace hF8 := fun j h1 h2 => (hne j (by omega)).trans (hF8 j h1 h2)
  replace hF11 := fun j h1 h2 => (hne j (by omega)).trans (hF11 j h1 h2)
  replace hF14 := fun j h1 h2 => (hne j (by omega)).trans (hF14 j h1 h2)
  replace hF18 := fun j h1 h2 => (hne j (by omega)).trans (hF18 j h1 h2)
  replace hF21 := fun j h1 h2 => (hne j (by omega)).trans (hF21 j h1 h2)
  replace hF24 := fun j h1 h2 => (hne j (by omega)).trans (hF24 j h1 h2)
  replace hF27 := fun j h1 h2 => (hne j (by omega)).trans (hF27 j h1 h2)
  replace hF30 := fun j h1 h2 => (hne j (by omega)).trans (hF30 j h1 h2)
  replace hF32 := fun j h1 h2 => (hne j (by omega)).trans (hF32 j h1 h2)
  replace hF34 := fun j h1 h2 => (hne j (by omega)).trans (hF34 j h1 h2)
  replace hF36 := fun j h1 h2 => (hne j (by omega)).trans (hF36 j h1 h2)
  replace hB := fun j h1 => (hne j (by omega)).trans (hB j h1)
  refine lv_aload_n C.1.1 C.1.2.1 dX10_init_160 rfl (lv_at hl 1 rfl) ?_
  refine r_new (ci := 2) (Cn := RX2) (T := TX2) (N := 4) (fs := blk 2) C hW inG2 tyX2 tyX2_ok (g2 69 (Eq.refl _) rfl) (g2 70 (Eq.refl _) rfl) (g1 11 (Eq.refl _) rfl) rfl bk_2 (by decide) (by decide) dX10_init_161 (fun M H hx37 hne hW => ?_)
  replace hO := (hne 0 (by omega)).trans hO
  replace hx9 := (hne 181 (by omega)).trans hx9
  replace hx16 := (hne 198 (by omega)).trans hx16
  replace hF2 := fun j h1 h2 => (hne j (by omega)).trans (hF2 j h1 h2)
  replace hF4 := fun j h1 h2 => (hne j (by omega)).trans (hF4 j h1 h2)
  replace hF6 := fun j h1 h2 => (hne j (by omega)).trans (hF6 j h1 h2)
  replace hF8 := fun j h1 h2 => (hne j (by omega)).trans (hF8 j h1 h2)
  replace hF11 := fun j h1 h2 => (hne j (by omega)).trans (hF11 j h1 h2)
  replace hF14 := fun j h1 h2 => (hne j (by omega)).trans (hF14 j h1 h2)
  replace hF18 := fun j h1 h2 => (hne j (by omega)).trans (hF18 j h1 h2)
  replace hF21 := fun j h1 h2 => (hne j (by omega)).trans (hF21 j h1 h2)
  replace hF24 := fun j h1 h2 => (hne j (by omega)).trans (hF24 j h1 h2)
  replace hF27 := fun j h1 h2 => (hne j (by omega)).trans (hF27 j h1 h2)
  replace hF30 := fun j h1 h2 => (hne j (by omega)).trans (hF30 j h1 h2)
  replace hF32 := fun j h1 h2 => (hne j (by omega)).trans (hF32 j h1 h2)
  replace hF34 := fun j h1 h2 => (hne j (by omega)).trans (hF34 j h1 h2)
  replace hF36 := fun j h1 h2 => (hne j (by omega)).trans (hF36 j h1 h2)
  replace hB := fun j h1 => (hne j (by omega)).trans (hB j h1)
  refine lv_dup C.1.1 C.1.2.1 dX10_init_164 rfl ?_
  replace hx37 : M 240 = .inr (kd 240, blk (kd 240)) := by rw [hx37, show kd 240 = 2 from (by decide)]
  refine r_callIN (rest := [.ref (g.1 + 240), .ref (g.1 + 0)]) C hKc hW (c_X2_init g l) hx37 cd_X2_init (by decide +kernel) (g2 72 (Eq.refl _) rfl) (g1 11 (Eq.refl _) rfl) rfl (by decide +kernel) ⟨by decide, by decide⟩ ⟨by decide, by decide⟩ hl.1 (Nat.le_of_ble_eq_true rfl) dX10_init_165 (fun M H locs hF38 hb hW => ?_)
  replace hO := (hb 0 (by omega)).trans hO
  replace hx9 := (hb 181 (by omega)).trans hx9
  replace hx16 := (hb 198 (by omega)).trans hx16
  replace hF2 := fun j h1 h2 => (hb j (by omega)).trans (hF2 j h1 h2)
  replace hF4 := fun j h1 h2 => (hb j (by omega)).trans (hF4 j h1 h2)
  replace hF6 := fun j h1 h2 => (hb j (by omega)).trans (hF6 j h1 h2)
  replace hF8 := fun j h1 h2 => (hb j (by omega)).trans (hF8 j h1 h2)
  replace hF11 := fun j h1 h2 => (hb j (by omega)).trans (hF11 j h1 h2)
  replace hF14 := fun j h1 h2 => (hb j (by omega)).trans (hF14 j h1 h2)
  replace hF18 := fun j h1 h2 => (hb j (by omega)).trans (hF18 j h1 h2)
  replace hF21 := fun j h1 h2 => (hb j (by omega)).trans (hF21 j h1 h2)
  replace hF24 := fun j h1 h2 => (hb j (by omega)).trans (hF24 j h1 h2)
  replace hF27 := fun j h1 h2 => (hb j (by omega)).trans (hF27 j h1 h2)
  replace hF30 := fun j h1 h2 => (hb j (by omega)).trans (hF30 j h1 h2)
  replace hF32 := fun j h1 h2 => (hb j (by omega)).trans (hF32 j h1 h2)
  replace hF34 := fun j h1 h2 => (hb j (by omega)).trans (hF34 j h1 h2)
  replace hF36 := fun j h1 h2 => (hb j (by omega)).trans (hF36 j h1 h2)
  replace hB := fun j h1 => (hb j (by omega)).trans (hB j h1)
  have hW : Wr g s 244 M H locs := hW
  refine r_putF (ci := 10) (Cn := RX10) (T := TX10) (N := 11) (ty0 := tyX10) (v := .ref (g.1 + 240)) (ty := .object "WallPatience$Gossip") C hW inG10 tyX10_ok nmX10 (by omega) hO rfl 10 (by decide) (ref := RX10) (g2 98 (Eq.refl _) rfl) rfl rfl hin rfl (by decide +kernel) rfl rfl (Nat.le_of_ble_eq_true rfl) dX10_init_168 (fun M H locs hO' hne hW => ?_)
  replace hO : M 0 = .inr (10, [.ref (g.1 + 1), .ref (g.1 + 3), .ref (g.1 + 11), .ref (g.1 + 19), .ref (g.1 + 181), .ref (g.1 + 198), .ref (g.1 + 207), .ref (g.1 + 212), .ref (g.1 + 220), .ref (g.1 + 237), .ref (g.1 + 240)]) := hO'
  clear hO'
  replace hx9 := (hne 181 (by omega)).trans hx9
  replace hx16 := (hne 198 (by omega)).trans hx16
  replace hF2 := fun j h1 h2 => (hne j (by omega)).trans (hF2 j h1 h2)
  replace hF4 := fun j h1 h2 => (hne j (by omega)).trans (hF4 j h1 h2)
  replace hF6 := fun j h1 h2 => (hne j (by omega)).trans (hF6 j h1 h2)
  replace hF8 := fun j h1 h2 => (hne j (by omega)).trans (hF8 j h1 h2)
  replace hF11 := fun j h1 h2 => (hne j (by omega)).trans (hF11 j h1 h2)
  replace hF14 := fun j h1 h2 => (hne j (by omega)).trans (hF14 j h1 h2)
  replace hF18 := fun j h1 h2 => (hne j (by omega)).trans (hF18 j h1 h2)
  replace hF21 := fun j h1 h2 => (hne j (by omega)).trans (hF21 j h1 h2)
  replace hF24 := fun j h1 h2 => (hne j (by omega)).trans (hF24 j h1 h2)
  replace hF27 := fun j h1 h2 => (hne j (by omega)).trans (hF27 j h1 h2)
  replace hF30 := fun j h1 h2 => (hne j (by omega)).trans (hF30 j h1 h2)
  replace hF32 := fun j h1 h2 => (hne j (by omega)).trans (hF32 j h1 h2)
  replace hF34 := fun j h1 h2 => (hne j (by omega)).trans (hF34 j h1 h2)
  replace hF36 := fun j h1 h2 => (hne j (by omega)).trans (hF36 j h1 h2)
  replace hF38 := fun j h1 h2 => (hne j (by omega)).trans (hF38 j h1 h2)
  replace hB := fun j h1 => (hne j (by omega)).trans (hB j h1)
  have hW := hW.norm (y := (2, rfa (fun j => g.1 + (182 + 8 * j)))) hx9 (by
    rw [vp_cell_q, vp_cell_q]
    unfold arrV
    congr 1)
  generalize hMM : va_up M 181 _ = M' at hW
  have hne : ∀ j, j ≠ 181 → M' j = M j := fun j h => by rw [← hMM]; simp [va_up, h]
  replace hx9 : M' 181 = E0 g 181 := by
    rw [← hMM]
    simp only [va_up, if_true]; rw [E0, EE_17 (by decide)]; rfl
  clear hMM
  replace hO := (hne 0 (by omega)).trans hO
  replace hx16 := (hne 198 (by omega)).trans hx16
  replace hF2 := fun j h1 h2 => (hne j (by omega)).trans (hF2 j h1 h2)
  replace hF4 := fun j h1 h2 => (hne j (by omega)).trans (hF4 j h1 h2)
  replace hF6 := fun j h1 h2 => (hne j (by omega)).trans (hF6 j h1 h2)
  replace hF8 := fun j h1 h2 => (hne j (by omega)).trans (hF8 j h1 h2)
  replace hF11 := fun j h1 h2 => (hne j (by omega)).trans (hF11 j h1 h2)
  replace hF14 := fun j h1 h2 => (hne j (by omega)).trans (hF14 j h1 h2)
  replace hF18 := fun j h1 h2 => (hne j (by omega)).trans (hF18 j h1 h2)
  replace hF21 := fun j h1 h2 => (hne j (by omega)).trans (hF21 j h1 h2)
  replace hF24 := fun j h1 h2 => (hne j (by omega)).trans (hF24 j h1 h2)
  replace hF27 := fun j h1 h2 => (hne j (by omega)).trans (hF27 j h1 h2)
  replace hF30 := fun j h1 h2 => (hne j (by omega)).trans (hF30 j h1 h2)
  replace hF32 := fun j h1 h2 => (hne j (by omega)).trans (hF32 j h1 h2)
  replace hF34 := fun j h1 h2 => (hne j (by omega)).trans (hF34 j h1 h2)
  replace hF36 := fun j h1 h2 => (hne j (by omega)).trans (hF36 j h1 h2)
  replace hF38 := fun j h1 h2 => (hne j (by omega)).trans (hF38 j h1 h2)
  replace hB := fun j h1 => (hne j (by omega)).trans (hB j h1)
  clear hne
  skip
  skip
  obtain ⟨M, rfl⟩ : ∃ z, z = M' := ⟨_, rfl⟩
  have hF39 : ∀ j, 181 ≤ j → j < 181 + 1 → M j = E0 g j := fun j h1 h2 => by
    obtain rfl : j = 181 := by omega
    exact hx9
  have hW := hW.norm (y := (4, rfa (fun j => g.1 + (199 + 2 * j)))) hx16 (by
    rw [vp_cell_q, vp_cell_q]
    unfold arrV
    congr 1)
  generalize hMM : va_up M 198 _ = M' at hW
  have hne : ∀ j, j ≠ 198 → M' j = M j := fun j h => by rw [← hMM]; simp [va_up, h]
  replace hx16 : M' 198 = E0 g 198 := by
    rw [← hMM]
    simp only [va_up, if_true]; rw [E0, EE_15 (by decide)]; rfl
  clear hMM
  replace hO := (hne 0 (by omega)).trans hO
  replace hF2 := fun j h1 h2 => (hne j (by omega)).trans (hF2 j h1 h2)
  replace hF4 := fun j h1 h2 => (hne j (by omega)).trans (hF4 j h1 h2)
  replace hF6 := fun j h1 h2 => (hne j (by omega)).trans (hF6 j h1 h2)
  replace hF8 := fun j h1 h2 => (hne j (by omega)).trans (hF8 j h1 h2)
  replace hF11 := fun j h1 h2 => (hne j (by omega)).trans (hF11 j h1 h2)
  replace hF14 := fun j h1 h2 => (hne j (by omega)).trans (hF14 j h1 h2)
  replace hF18 := fun j h1 h2 => (hne j (by omega)).trans (hF18 j h1 h2)
  replace hF21 := fun j h1 h2 => (hne j (by omega)).trans (hF21 j h1 h2)
  replace hF24 := fun j h1 h2 => (hne j (by omega)).trans (hF24 j h1 h2)
  replace hF27 := fun j h1 h2 => (hne j (by omega)).trans (hF27 j h1 h2)
  replace hF30 := fun j h1 h2 => (hne j (by omega)).trans (hF30 j h1 h2)
  replace hF32 := fun j h1 h2 => (hne j (by omega)).trans (hF32 j h1 h2)
  replace hF34 := fun j h1 h2 => (hne j (by omega)).trans (hF34 j h1 h2)
  replace hF36 := fun j h1 h2 => (hne j (by omega)).trans (hF36 j h1 h2)
  replace hF38 := fun j h1 h2 => (hne j (by omega)).trans (hF38 j h1 h2)
  replace hF39 := fun j h1 h2 => (hne j (by omega)).trans (hF39 j h1 h2)
  replace hB := fun j h1 => (hne j (by omega)).trans (hB j h1)
  clear hne
  skip
  skip
  obtain ⟨M, rfl⟩ : ∃ z, z = M' := ⟨_, rfl⟩
  have hF40 : ∀ j, 198 ≤ j → j < 198 + 1 → M j = E0 g j := fun j h1 h2 => by
    obtain rfl : j = 198 := by omega
    exact hx16
  have hZ : M 0 = E0 g 0 := by rw [hO, E0, EE_10 (by decide)]
  subst hQ
  refine r_vret C hW hr hlocks (fun j h1 h2 => ?_) hB dX10_init_171
  rcases Nat.lt_or_ge j 1 with hq | hq
  · obtain rfl : j = 0 := by omega
    exact hZ
  rcases Nat.lt_or_ge j 3 with hq0 | hq0
  · exact hF2 j (by omega) (by omega)
  rcases Nat.lt_or_ge j 11 with hq1 | hq1
  · exact hF4 j (by omega) (by omega)
  rcases Nat.lt_or_ge j 19 with hq2 | hq2
  · exact hF6 j (by omega) (by omega)
  rcases Nat.lt_or_ge j 181 with hq3 | hq3
  · exact hF8 j (by omega) (by omega)
  rcases Nat.lt_or_ge j 182 with hq4 | hq4
  · exact hF39 j (by omega) (by omega)
  rcases Nat.lt_or_ge j 190 with hq5 | hq5
  · exact hF11 j (by omega) (by omega)
  rcases Nat.lt_or_ge j 198 with hq6 | hq6
  · exact hF14 j (by omega) (by omega)
  rcases Nat.lt_or_ge j 199 with hq7 | hq7
  · exact hF40 j (by omega) (by omega)
  rcases Nat.lt_or_ge j 201 with hq8 | hq8
  · exact hF18 j (by omega) (by omega)
  rcases Nat.lt_or_ge j 203 with hq9 | hq9
  · exact hF21 j (by omega) (by omega)
  rcases Nat.lt_or_ge j 205 with hq10 | hq10
  · exact hF24 j (by omega) (by omega)
  rcases Nat.lt_or_ge j 207 with hq11 | hq11
  · exact hF27 j (by omega) (by omega)
  rcases Nat.lt_or_ge j 212 with hq12 | hq12
  · exact hF30 j (by omega) (by omega)
  rcases Nat.lt_or_ge j 220 with hq13 | hq13
  · exact hF32 j (by omega) (by omega)
  rcases Nat.lt_or_ge j 237 with hq14 | hq14
  · exact hF34 j (by omega) (by omega)
  rcases Nat.lt_or_ge j 240 with hq15 | hq15
  · exact hF36 j (by omega) (by omega)
  exact hF38 j (by omega) (by omega)
set_option maxHeartbeats 4000000 in
set_option maxRecDepth 100000 in
theorem c_X11_init (g : Gp) (l : Launch) : MetC g l yX11_init cX11_init 2 1 10 3189 244 := by
  refine w_enterC (by decide) (by decide) (own := RX11) rfl rfl ?_
  intro M hO p e s m below meth c args Q hQ C hKc hr hlocks hin hW ls hl
  replace hO : M 244 = .inr (11, [.null, .null, .int 0, .null, .null, .null, .null, .int 0, .int 0, .int 0, .int 0, .null, .long 0, .long 0, .null, .null, .null]) := hO
  have hB : ∀ j, j < 244 → M j = M j := fun _ _ => rfl
  generalize hM0 : M = M0 at hQ
  have hB : ∀ j, j < 244 → M j = M0 j := fun _ _ => by rw [hM0]
  clear hM0
  refine lv_aload_n C.1.1 C.1.2.1 dX11_init_0 rfl (lv_at hl 0 rfl) ?_
  refine r_obj C (g4 159 (Eq.refl _) rfl) (g1 22 (Eq.refl _) rfl) (g1 23 (Eq.refl _) rfl) hl.1 (by decide) dX11_init_1 ?_
  refine lv_aload_n C.1.1 C.1.2.1 dX11_init_4 rfl (lv_at hl 0 rfl) ?_
  refine lv_sipush (v := 1752) C.1.1 C.1.2.1 dX11_init_5 (by decide) ?_
  refine r_newa (t := 0) (ty := .int) (N := 1752) (a0 := (1752, .inl (fun _ => 0))) C hW (g1 44 (Eq.refl _) rfl) rfl (fun h => h) rfl (fun cA => rfl) (by decide) (by decide) (by decide) (by decide) (by decide) dX11_init_8 (fun M H hx1 hne hW => ?_)
  replace hO := (hne 244 (by omega)).trans hO
  replace hB := fun j h1 => (hne j (by omega)).trans (hB j h1)
  refine r_putF (ci := 11) (Cn := RX11) (T := TX11) (N := 17) (ty0 := tyX11) (v := .ref (g.1 + 245)) (ty := (.array .int)) C hW inG11 tyX11_ok nmX11 (by omega) hO rfl 0 (by decide) (ref := RX11) (g4 160 (Eq.refl _) rfl) rfl rfl hin rfl (by decide +kernel) rfl rfl (Nat.le_of_ble_eq_true rfl) dX11_init_10 (fun M H locs hO' hne hW => ?_)
  replace hO : M 244 = .inr (11, [.ref (g.1 + 245), .null, .int 0, .null, .null, .null, .null, .int 0, .int 0, .int 0, .int 0, .null, .long 0, .long 0, .null, .null, .null]) := hO'
  clear hO'
  replace hx1 := (hne 245 (by omega)).trans hx1
  replace hB := fun j h1 => (hne j (by omega)).trans (hB j h1)
  refine lv_aload_n C.1.1 C.1.2.1 dX11_init_13 rfl (lv_at hl 0 rfl) ?_
  refine lv_iconst (v := 2) C.1.1 C.1.2.1 dX11_init_14 (by decide) ?_
  refine r_newa (t := 2) (ty := .boolean) (N := 2) (a0 := (2, .inl (fun _ => 0))) C hW (g1 236 (Eq.refl _) rfl) rfl (fun h => h) rfl (fun cA => rfl) (by decide) (by decide) (by decide) (by decide) (by decide) dX11_init_15 (fun M H hx3 hne hW => ?_)
  replace hO := (hne 244 (by omega)).trans hO
  replace hx1 := (hne 245 (by omega)).trans hx1
  replace hB := fun j h1 => (hne j (by omega)).trans (hB j h1)
  have hF4 : ∀ j, 246 ≤ j → j < 246 + 1 → M j = E0 g j := fun j h1 h2 => by
    obtain rfl : j = 246 := by omega
    rw [hx3, E0, EE_14 (by decide), (by decide : ln 246 = 2), show I0 246 = (fun _ => 0) from funext fun k => rfl]
  refine r_putF (ci := 11) (Cn := RX11) (T := TX11) (N := 17) (ty0 := tyX11) (v := .ref (g.1 + 246)) (ty := (.array .boolean)) C hW inG11 tyX11_ok nmX11 (by omega) hO rfl 1 (by decide) (ref := RX11) (g4 161 (Eq.refl _) rfl) rfl rfl hin rfl (by decide +kernel) rfl rfl (Nat.le_of_ble_eq_true rfl) dX11_init_17 (fun M H locs hO' hne hW => ?_)
  replace hO : M 244 = .inr (11, [.ref (g.1 + 245), .ref (g.1 + 246), .int 0, .null, .null, .null, .null, .int 0, .int 0, .int 0, .int 0, .null, .long 0, .long 0, .null, .null, .null]) := hO'
  clear hO'
  replace hx1 := (hne 245 (by omega)).trans hx1
  replace hF4 := fun j h1 h2 => (hne j (by omega)).trans (hF4 j h1 h2)
  replace hB := fun j h1 => (hne j (by omega)).trans (hB j h1)
  refine lv_aload_n C.1.1 C.1.2.1 dX11_init_20 rfl (lv_at hl 0 rfl) ?_
  refine lv_bipush (v := 96) C.1.1 C.1.2.1 dX11_init_21 (by decide) ?_
  refine r_newa (t := 1) (ty := .long) (N := 96) (a0 := (96, .inr (.inl (fun _ => 0)))) C hW (g1 203 (Eq.refl _) rfl) rfl (fun h => h) rfl (fun cA => rfl) (by decide) (by decide) (by decide) (by decide) (by decide) dX11_init_23 (fun M H hx5 hne hW => ?_)
  replace hO := (hne 244 (by omega)).trans hO
  replace hx1 := (hne 245 (by omega)).trans hx1
  replace hF4 := fun j h1 h2 => (hne j (by omega)).trans (hF4 j h1 h2)
  replace hB := fun j h1 => (hne j (by omega)).trans (hB j h1)
  have hF6 : ∀ j, 247 ≤ j → j < 247 + 1 → M j = E0 g j := fun j h1 h2 => by
    obtain rfl : j = 247 := by omega
    rw [hx5, E0, EE_13 (by decide), (by decide : ln 247 = 96)]; rfl
  refine r_putF (ci := 11) (Cn := RX11) (T := TX11) (N := 17) (ty0 := tyX11) (v := .ref (g.1 + 247)) (ty := (.array .long)) C hW inG11 tyX11_ok nmX11 (by omega) hO rfl 3 (by decide) (ref := RX11) (g4 163 (Eq.refl _) rfl) rfl rfl hin rfl (by decide +kernel) rfl rfl (Nat.le_of_ble_eq_true rfl) dX11_init_25 (fun M H locs hO' hne hW => ?_)
  replace hO : M 244 = .inr (11, [.ref (g.1 + 245), .ref (g.1 + 246), .int 0, .ref (g.1 + 247), .null, .null, .null, .int 0, .int 0, .int 0, .int 0, .null, .long 0, .long 0, .null, .null, .null]) := hO'
  clear hO'
  replace hx1 := (hne 245 (by omega)).trans hx1
  replace hF4 := fun j h1 h2 => (hne j (by omega)).trans (hF4 j h1 h2)
  replace hF6 := fun j h1 h2 => (hne j (by omega)).trans (hF6 j h1 h2)
  replace hB := fun j h1 => (hne j (by omega)).trans (hB j h1)
  refine lv_aload_n C.1.1 C.1.2.1 dX11_init_28 rfl (lv_at hl 0 rfl) ?_
  refine lv_iconst (v := 4) C.1.1 C.1.2.1 dX11_init_29 (by decide) ?_
  refine r_newa (t := 0) (ty := .int) (N := 4) (a0 := (4, .inl (fun _ => 0))) C hW (g1 44 (Eq.refl _) rfl) rfl (fun h => h) rfl (fun cA => rfl) (by decide) (by decide) (by decide) (by decide) (by decide) dX11_init_30 (fun M H hx7 hne hW => ?_)
  replace hO := (hne 244 (by omega)).trans hO
  replace hx1 := (hne 245 (by omega)).trans hx1
  replace hF4 := fun j h1 h2 => (hne j (by omega)).trans (hF4 j h1 h2)
  replace hF6 := fun j h1 h2 => (hne j (by omega)).trans (hF6 j h1 h2)
  replace hB := fun j h1 => (hne j (by omega)).trans (hB j h1)
  have hF8 : ∀ j, 248 ≤ j → j < 248 + 1 → M j = E0 g j := fun j h1 h2 => by
    obtain rfl : j = 248 := by omega
    rw [hx7, E0, EE_12 (by decide), (by decide : ln 248 = 4), show I0 248 = (fun _ => 0) from funext fun k => rfl]
  refine r_putF (ci := 11) (Cn := RX11) (T := TX11) (N := 17) (ty0 := tyX11) (v := .ref (g.1 + 248)) (ty := (.array .int)) C hW inG11 tyX11_ok nmX11 (by omega) hO rfl 4 (by decide) (ref := RX11) (g4 164 (Eq.refl _) rfl) rfl rfl hin rfl (by decide +kernel) rfl rfl (Nat.le_of_ble_eq_true rfl) dX11_init_32 (fun M H locs hO' hne hW => ?_)
  replace hO : M 244 = .inr (11, [.ref (g.1 + 245), .ref (g.1 + 246), .int 0, .ref (g.1 + 247), .ref (g.1 + 248), .null, .null, .int 0, .int 0, .int 0, .int 0, .null, .long 0, .long 0, .null, .null, .null]) := hO'
  clear hO'
  replace hx1 := (hne 245 (by omega)).trans hx1
  replace hF4 := fun j h1 h2 => (hne j (by omega)).trans (hF4 j h1 h2)
  replace hF6 := fun j h1 h2 => (hne j (by omega)).trans (hF6 j h1 h2)
  replace hF8 := fun j h1 h2 => (hne j (by omega)).trans (hF8 j h1 h2)
  replace hB := fun j h1 => (hne j (by omega)).trans (hB j h1)
  refine lv_aload_n C.1.1 C.1.2.1 dX11_init_35 rfl (lv_at hl 0 rfl) ?_
  refine lv_iconst (v := 4) C.1.1 C.1.2.1 dX11_init_36 (by decide) ?_
  refine r_newa (t := 0) (ty := .int) (N := 4) (a0 := (4, .inl (fun _ => 0))) C hW (g1 44 (Eq.refl _) rfl) rfl (fun h => h) rfl (fun cA => rfl) (by decide) (by decide) (by decide) (by decide) (by decide) dX11_init_37 (fun M H hx9 hne hW => ?_)
  replace hO := (hne 244 (by omega)).trans hO
  replace hx1 := (hne 245 (by omega)).trans hx1
  replace hF4 := fun j h1 h2 => (hne j (by omega)).trans (hF4 j h1 h2)
  replace hF6 := fun j h1 h2 => (hne j (by omega)).trans (hF6 j h1 h2)
  replace hF8 := fun j h1 h2 => (hne j (by omega)).trans (hF8 j h1 h2)
  replace hB := fun j h1 => (hne j (by omega)).trans (hB j h1)
  refine r_putF (ci := 11) (Cn := RX11) (T := TX11) (N := 17) (ty0 := tyX11) (v := .ref (g.1 + 249)) (ty := (.array .int)) C hW inG11 tyX11_ok nmX11 (by omega) hO rfl 5 (by decide) (ref := RX11) (g4 165 (Eq.refl _) rfl) rfl rfl hin rfl (by decide +kernel) rfl rfl (Nat.le_of_ble_eq_true rfl) dX11_init_39 (fun M H locs hO' hne hW => ?_)
  replace hO : M 244 = .inr (11, [.ref (g.1 + 245), .ref (g.1 + 246), .int 0, .ref (g.1 + 247), .ref (g.1 + 248), .ref (g.1 + 249), .null, .int 0, .int 0, .int 0, .int 0, .null, .long 0, .long 0, .null, .null, .null]) := hO'
  clear hO'
  replace hx1 := (hne 245 (by omega)).trans hx1
  replace hx9 := (hne 249 (by omega)).trans hx9
  replace hF4 := fun j h1 h2 => (hne j (by omega)).trans (hF4 j h1 h2)
  replace hF6 := fun j h1 h2 => (hne j (by omega)).trans (hF6 j h1 h2)
  replace hF8 := fun j h1 h2 => (hne j (by omega)).trans (hF8 j h1 h2)
  replace hB := fun j h1 => (hne j (by omega)).trans (hB j h1)
  refine lv_aload_n C.1.1 C.1.2.1 dX11_init_42 rfl (lv_at hl 0 rfl) ?_
  refine lv_bipush (v := 90) C.1.1 C.1.2.1 dX11_init_43 (by decide) ?_
  refine r_newa (t := 0) (ty := .int) (N := 90) (a0 := (90, .inl (fun _ => 0))) C hW (g1 44 (Eq.refl _) rfl) rfl (fun h => h) rfl (fun cA => rfl) (by decide) (by decide) (by decide) (by decide) (by decide) dX11_init_45 (fun M H hx11 hne hW => ?_)
  replace hO := (hne 244 (by omega)).trans hO
  replace hx1 := (hne 245 (by omega)).trans hx1
  replace hx9 := (hne 249 (by omega)).trans hx9
  replace hF4 := fun j h1 h2 => (hne j (by omega)).trans (hF4 j h1 h2)
  replace hF6 := fun j h1 h2 => (hne j (by omega)).trans (hF6 j h1 h2)
  replace hF8 := fun j h1 h2 => (hne j (by omega)).trans (hF8 j h1 h2)
  replace hB := fun j h1 => (hne j (by omega)).trans (hB j h1)
  have hF12 : ∀ j, 250 ≤ j → j < 250 + 1 → M j = E0 g j := fun j h1 h2 => by
    obtain rfl : j = 250 := by omega
    rw [hx11, E0, EE_12 (by decide), (by decide : ln 250 = 90), show I0 250 = (fun _ => 0) from funext fun k => rfl]
  refine r_putF (ci := 11) (Cn := RX11) (T := TX11) (N := 17) (ty0 := tyX11) (v := .ref (g.1 + 250)) (ty := (.array .int)) C hW inG11 tyX11_ok nmX11 (by omega) hO rfl 6 (by decide) (ref := RX11) (g4 166 (Eq.refl _) rfl) rfl rfl hin rfl (by decide +kernel) rfl rfl (Nat.le_of_ble_eq_true rfl) dX11_init_47 (fun M H locs hO' hne hW => ?_)
  replace hO : M 244 = .inr (11, [.ref (g.1 + 245), .ref (g.1 + 246), .int 0, .ref (g.1 + 247), .ref (g.1 + 248), .ref (g.1 + 249), .ref (g.1 + 250), .int 0, .int 0, .int 0, .int 0, .null, .long 0, .long 0, .null, .null, .null]) := hO'
  clear hO'
  replace hx1 := (hne 245 (by omega)).trans hx1
  replace hx9 := (hne 249 (by omega)).trans hx9
  replace hF4 := fun j h1 h2 => (hne j (by omega)).trans (hF4 j h1 h2)
  replace hF6 := fun j h1 h2 => (hne j (by omega)).trans (hF6 j h1 h2)
  replace hF8 := fun j h1 h2 => (hne j (by omega)).trans (hF8 j h1 h2)
  replace hF12 := fun j h1 h2 => (hne j (by omega)).trans (hF12 j h1 h2)
  replace hB := fun j h1 => (hne j (by omega)).trans (hB j h1)
  refine lv_aload_n C.1.1 C.1.2.1 dX11_init_50 rfl (lv_at hl 0 rfl) ?_
  refine lv_bipush (v := 40) C.1.1 C.1.2.1 dX11_init_51 (by decide) ?_
  refine r_newa (t := 0) (ty := .int) (N := 40) (a0 := (40, .inl (fun _ => 0))) C hW (g1 44 (Eq.refl _) rfl) rfl (fun h => h) rfl (fun cA => rfl) (by decide) (by decide) (by decide) (by decide) (by decide) dX11_init_53 (fun M H hx13 hne hW => ?_)
  replace hO := (hne 244 (by omega)).trans hO
  replace hx1 := (hne 245 (by omega)).trans hx1
  replace hx9 := (hne 249 (by omega)).trans hx9
  replace hF4 := fun j h1 h2 => (hne j (by omega)).trans (hF4 j h1 h2)
  replace hF6 := fun j h1 h2 => (hne j (by omega)).trans (hF6 j h1 h2)
  replace hF8 := fun j h1 h2 => (hne j (by omega)).trans (hF8 j h1 h2)
  replace hF12 := fun j h1 h2 => (hne j (by omega)).trans (hF12 j h1 h2)
  replace hB := fun j h1 => (hne j (by omega)).trans (hB j h1)
  have hF14 : ∀ j, 251 ≤ j → j < 251 + 1 → M j = E0 g j := fun j h1 h2 => by
    obtain rfl : j = 251 := by omega
    rw [hx13, E0, EE_12 (by decide), (by decide : ln 251 = 40), show I0 251 = (fun _ => 0) from funext fun k => rfl]
  refine r_putF (ci := 11) (Cn := RX11) (T := TX11) (N := 17) (ty0 := tyX11) (v := .ref (g.1 + 251)) (ty := (.array .int)) C hW inG11 tyX11_ok nmX11 (by omega) hO rfl 11 (by decide) (ref := RX11) (g4 171 (Eq.refl _) rfl) rfl rfl hin rfl (by decide +kernel) rfl rfl (Nat.le_of_ble_eq_true rfl) dX11_init_55 (fun M H locs hO' hne hW => ?_)
  replace hO : M 244 = .inr (11, [.ref (g.1 + 245), .ref (g.1 + 246), .int 0, .ref (g.1 + 247), .ref (g.1 + 248), .ref (g.1 + 249), .ref (g.1 + 250), .int 0, .int 0, .int 0, .int 0, .ref (g.1 + 251), .long 0, .long 0, .null, .null, .null]) := hO'
  clear hO'
  replace hx1 := (hne 245 (by omega)).trans hx1
  replace hx9 := (hne 249 (by omega)).trans hx9
  replace hF4 := fun j h1 h2 => (hne j (by omega)).trans (hF4 j h1 h2)
  replace hF6 := fun j h1 h2 => (hne j (by omega)).trans (hF6 j h1 h2)
  replace hF8 := fun j h1 h2 => (hne j (by omega)).trans (hF8 j h1 h2)
  replace hF12 := fun j h1 h2 => (hne j (by omega)).trans (hF12 j h1 h2)
  replace hF14 := fun j h1 h2 => (hne j (by omega)).trans (hF14 j h1 h2)
  replace hB := fun j h1 => (hne j (by omega)).trans (hB j h1)
  refine lv_aload_n C.1.1 C.1.2.1 dX11_init_58 rfl (lv_at hl 0 rfl) ?_
  refine lv_sipush (v := 729) C.1.1 C.1.2.1 dX11_init_59 (by decide) ?_
  refine r_newa (t := 0) (ty := .int) (N := 729) (a0 := (729, .inl (fun _ => 0))) C hW (g1 44 (Eq.refl _) rfl) rfl (fun h => h) rfl (fun cA => rfl) (by decide) (by decide) (by decide) (by decide) (by decide) dX11_init_62 (fun M H hx15 hne hW => ?_)
  replace hO := (hne 244 (by omega)).trans hO
  replace hx1 := (hne 245 (by omega)).trans hx1
  replace hx9 := (hne 249 (by omega)).trans hx9
  replace hF4 := fun j h1 h2 => (hne j (by omega)).trans (hF4 j h1 h2)
  replace hF6 := fun j h1 h2 => (hne j (by omega)).trans (hF6 j h1 h2)
  replace hF8 := fun j h1 h2 => (hne j (by omega)).trans (hF8 j h1 h2)
  replace hF12 := fun j h1 h2 => (hne j (by omega)).trans (hF12 j h1 h2)
  replace hF14 := fun j h1 h2 => (hne j (by omega)).trans (hF14 j h1 h2)
  replace hB := fun j h1 => (hne j (by omega)).trans (hB j h1)
  have hF16 : ∀ j, 252 ≤ j → j < 252 + 1 → M j = E0 g j := fun j h1 h2 => by
    obtain rfl : j = 252 := by omega
    rw [hx15, E0, EE_12 (by decide), (by decide : ln 252 = 729), show I0 252 = (fun _ => 0) from funext fun k => rfl]
  refine r_putF (ci := 11) (Cn := RX11) (T := TX11) (N := 17) (ty0 := tyX11) (v := .ref (g.1 + 252)) (ty := (.array .int)) C hW inG11 tyX11_ok nmX11 (by omega) hO rfl 14 (by decide) (ref := RX11) (g4 174 (Eq.refl _) rfl) rfl rfl hin rfl (by decide +kernel) rfl rfl (Nat.le_of_ble_eq_true rfl) dX11_init_64 (fun M H locs hO' hne hW => ?_)
  replace hO : M 244 = .inr (11, [.ref (g.1 + 245), .ref (g.1 + 246), .int 0, .ref (g.1 + 247), .ref (g.1 + 248), .ref (g.1 + 249), .ref (g.1 + 250), .int 0, .int 0, .int 0, .int 0, .ref (g.1 + 251), .long 0, .long 0, .ref (g.1 + 252), .null, .null]) := hO'
  clear hO'
  replace hx1 := (hne 245 (by omega)).trans hx1
  replace hx9 := (hne 249 (by omega)).trans hx9
  replace hF4 := fun j h1 h2 => (hne j (by omega)).trans (hF4 j h1 h2)
  replace hF6 := fun j h1 h2 => (hne j (by omega)).trans (hF6 j h1 h2)
  replace hF8 := fun j h1 h2 => (hne j (by omega)).trans (hF8 j h1 h2)
  replace hF12 := fun j h1 h2 => (hne j (by omega)).trans (hF12 j h1 h2)
  replace hF14 := fun j h1 h2 => (hne j (by omega)).trans (hF14 j h1 h2)
  replace hF16 := fun j h1 h2 => (hne j (by omega)).trans (hF16 j h1 h2)
  replace hB := fun j h1 => (hne j (by omega)).trans (hB j h1)
  refine lv_aload_n C.1.1 C.1.2.1 dX11_init_67 rfl (lv_at hl 0 rfl) ?_
  refine lv_bipush (v := 24) C.1.1 C.1.2.1 dX11_init_68 (by decide) ?_
  refine r_newa (t := 1) (ty := .long) (N := 24) (a0 := (24, .inr (.inl (fun _ => 0)))) C hW (g1 203 (Eq.refl _) rfl) rfl (fun h => h) rfl (fun cA => rfl) (by decide) (by decide) (by decide) (by decide) (by decide) dX11_init_70 (fun M H hx17 hne hW => ?_)
  replace hO := (hne 244 (by omega)).trans hO
  replace hx1 := (hne 245 (by omega)).trans hx1
  replace hx9 := (hne 249 (by omega)).trans hx9
  replace hF4 := fun j h1 h2 => (hne j (by omega)).trans (hF4 j h1 h2)
  replace hF6 := fun j h1 h2 => (hne j (by omega)).trans (hF6 j h1 h2)
  replace hF8 := fun j h1 h2 => (hne j (by omega)).trans (hF8 j h1 h2)
  replace hF12 := fun j h1 h2 => (hne j (by omega)).trans (hF12 j h1 h2)
  replace hF14 := fun j h1 h2 => (hne j (by omega)).trans (hF14 j h1 h2)
  replace hF16 := fun j h1 h2 => (hne j (by omega)).trans (hF16 j h1 h2)
  replace hB := fun j h1 => (hne j (by omega)).trans (hB j h1)
  have hF18 : ∀ j, 253 ≤ j → j < 253 + 1 → M j = E0 g j := fun j h1 h2 => by
    obtain rfl : j = 253 := by omega
    rw [hx17, E0, EE_13 (by decide), (by decide : ln 253 = 24)]; rfl
  refine r_putF (ci := 11) (Cn := RX11) (T := TX11) (N := 17) (ty0 := tyX11) (v := .ref (g.1 + 253)) (ty := (.array .long)) C hW inG11 tyX11_ok nmX11 (by omega) hO rfl 15 (by decide) (ref := RX11) (g4 175 (Eq.refl _) rfl) rfl rfl hin rfl (by decide +kernel) rfl rfl (Nat.le_of_ble_eq_true rfl) dX11_init_72 (fun M H locs hO' hne hW => ?_)
  replace hO : M 244 = .inr (11, [.ref (g.1 + 245), .ref (g.1 + 246), .int 0, .ref (g.1 + 247), .ref (g.1 + 248), .ref (g.1 + 249), .ref (g.1 + 250), .int 0, .int 0, .int 0, .int 0, .ref (g.1 + 251), .long 0, .long 0, .ref (g.1 + 252), .ref (g.1 + 253), .null]) := hO'
  clear hO'
  replace hx1 := (hne 245 (by omega)).trans hx1
  replace hx9 := (hne 249 (by omega)).trans hx9
  replace hF4 := fun j h1 h2 => (hne j (by omega)).trans (hF4 j h1 h2)
  replace hF6 := fun j h1 h2 => (hne j (by omega)).trans (hF6 j h1 h2)
  replace hF8 := fun j h1 h2 => (hne j (by omega)).trans (hF8 j h1 h2)
  replace hF12 := fun j h1 h2 => (hne j (by omega)).trans (hF12 j h1 h2)
  replace hF14 := fun j h1 h2 => (hne j (by omega)).trans (hF14 j h1 h2)
  replace hF16 := fun j h1 h2 => (hne j (by omega)).trans (hF16 j h1 h2)
  replace hF18 := fun j h1 h2 => (hne j (by omega)).trans (hF18 j h1 h2)
  replace hB := fun j h1 => (hne j (by omega)).trans (hB j h1)
  refine lv_aload_n C.1.1 C.1.2.1 dX11_init_75 rfl (lv_at hl 0 rfl) ?_
  refine lv_sipush (v := 448) C.1.1 C.1.2.1 dX11_init_76 (by decide) ?_
  refine r_newa (t := 0) (ty := .int) (N := 448) (a0 := (448, .inl (fun _ => 0))) C hW (g1 44 (Eq.refl _) rfl) rfl (fun h => h) rfl (fun cA => rfl) (by decide) (by decide) (by decide) (by decide) (by decide) dX11_init_79 (fun M H hx19 hne hW => ?_)
  replace hO := (hne 244 (by omega)).trans hO
  replace hx1 := (hne 245 (by omega)).trans hx1
  replace hx9 := (hne 249 (by omega)).trans hx9
  replace hF4 := fun j h1 h2 => (hne j (by omega)).trans (hF4 j h1 h2)
  replace hF6 := fun j h1 h2 => (hne j (by omega)).trans (hF6 j h1 h2)
  replace hF8 := fun j h1 h2 => (hne j (by omega)).trans (hF8 j h1 h2)
  replace hF12 := fun j h1 h2 => (hne j (by omega)).trans (hF12 j h1 h2)
  replace hF14 := fun j h1 h2 => (hne j (by omega)).trans (hF14 j h1 h2)
  replace hF16 := fun j h1 h2 => (hne j (by omega)).trans (hF16 j h1 h2)
  replace hF18 := fun j h1 h2 => (hne j (by omega)).trans (hF18 j h1 h2)
  replace hB := fun j h1 => (hne j (by omega)).trans (hB j h1)
  have hF20 : ∀ j, 254 ≤ j → j < 254 + 1 → M j = E0 g j := fun j h1 h2 => by
    obtain rfl : j = 254 := by omega
    rw [hx19, E0, EE_12 (by decide), (by decide : ln 254 = 448), show I0 254 = (fun _ => 0) from funext fun k => rfl]
  refine r_putF (ci := 11) (Cn := RX11) (T := TX11) (N := 17) (ty0 := tyX11) (v := .ref (g.1 + 254)) (ty := (.array .int)) C hW inG11 tyX11_ok nmX11 (by omega) hO rfl 16 (by decide) (ref := RX11) (g4 176 (Eq.refl _) rfl) rfl rfl hin rfl (by decide +kernel) rfl rfl (Nat.le_of_ble_eq_true rfl) dX11_init_81 (fun M H locs hO' hne hW => ?_)
  replace hO : M 244 = .inr (11, [.ref (g.1 + 245), .ref (g.1 + 246), .int 0, .ref (g.1 + 247), .ref (g.1 + 248), .ref (g.1 + 249), .ref (g.1 + 250), .int 0, .int 0, .int 0, .int 0, .ref (g.1 + 251), .long 0, .long 0, .ref (g.1 + 252), .ref (g.1 + 253), .ref (g.1 + 254)]) := hO'
  clear hO'
  replace hx1 := (hne 245 (by omega)).trans hx1
  replace hx9 := (hne 249 (by omega)).trans hx9
  replace hF4 := fun j h1 h2 => (hne j (by omega)).trans (hF4 j h1 h2)
  replace hF6 := fun j h1 h2 => (hne j (by omega)).trans (hF6 j h1 h2)
  replace hF8 := fun j h1 h2 => (hne j (by omega)).trans (hF8 j h1 h2)
  replace hF12 := fun j h1 h2 => (hne j (by omega)).trans (hF12 j h1 h2)
  replace hF14 := fun j h1 h2 => (hne j (by omega)).trans (hF14 j h1 h2)
  replace hF16 := fun j h1 h2 => (hne j (by omega)).trans (hF16 j h1 h2)
  replace hF18 := fun j h1 h2 => (hne j (by omega)).trans (hF18 j h1 h2)
  replace hF20 := fun j h1 h2 => (hne j (by omega)).trans (hF20 j h1 h2)
  replace hB := fun j h1 => (hne j (by omega)).trans (hB j h1)
  refine lv_aload_n C.1.1 C.1.2.1 dX11_init_84 rfl (lv_at hl 0 rfl) ?_
  refine r_get (ci := 11) (Cn := RX11) (T := TX11) (N := 17) C hW inG11 (by omega) hO rfl 0 (by decide) (ref := RX11) (g4 160 (Eq.refl _) rfl) rfl rfl dX11_init_85 ?_
  refine lv_bipush (v := 6) C.1.1 C.1.2.1 dX11_init_88 (by decide) ?_
  refine lv_iconst (v := 1) C.1.1 C.1.2.1 dX11_init_90 (by decide) ?_
  refine r_iast (j := 6) (N := 1752) (y := 1) C hW (by omega) hx1 (by decide) (by decide) (by decide) dX11_init_91 (fun M H locs hx1' hne hW => ?_)
  replace hx1 := hx1'
  clear hx1'
  replace hO := (hne 244 (by omega)).trans hO
  replace hx9 := (hne 249 (by omega)).trans hx9
  replace hF4 := fun j h1 h2 => (hne j (by omega)).trans (hF4 j h1 h2)
  replace hF6 := fun j h1 h2 => (hne j (by omega)).trans (hF6 j h1 h2)
  replace hF8 := fun j h1 h2 => (hne j (by omega)).trans (hF8 j h1 h2)
  replace hF12 := fun j h1 h2 => (hne j (by omega)).trans (hF12 j h1 h2)
  replace hF14 := fun j h1 h2 => (hne j (by omega)).trans (hF14 j h1 h2)
  replace hF16 := fun j h1 h2 => (hne j (by omega)).trans (hF16 j h1 h2)
  replace hF18 := fun j h1 h2 => (hne j (by omega)).trans (hF18 j h1 h2)
  replace hF20 := fun j h1 h2 => (hne j (by omega)).trans (hF20 j h1 h2)
  replace hB := fun j h1 => (hne j (by omega)).trans (hB j h1)
  refine lv_iconst (v := 0) C.1.1 C.1.2.1 dX11_init_92 (by decide) ?_
  refine lv_istore_n (lv' := [(1, .int 0), (0, .ref (g.1 + 244))]) C.1.1 C.1.2.1 dX11_init_93 rfl hl (by decide) rfl (fun ls hl => ?_)
  refine lv_iload_n C.1.1 C.1.2.1 dX11_init_94 rfl (lv_at hl 0 rfl) ?_
  refine lv_iconst (v := 4) C.1.1 C.1.2.1 dX11_init_95 (by decide) ?_
  refine lv_icmp_ge (tgt := 112) C.1.1 C.1.2.1 dX11_init_96 (by decide) (fun hc => absurd hc (by decide)) (fun _ => ?_)
  refine lv_aload_n C.1.1 C.1.2.1 dX11_init_99 rfl (lv_at hl 1 rfl) ?_
  refine r_get (ci := 11) (Cn := RX11) (T := TX11) (N := 17) C hW inG11 (by omega) hO rfl 5 (by decide) (ref := RX11) (g4 165 (Eq.refl _) rfl) rfl rfl dX11_init_100 ?_
  refine lv_iload_n C.1.1 C.1.2.1 dX11_init_103 rfl (lv_at hl 0 rfl) ?_
  refine lv_iconst (v := -1) C.1.1 C.1.2.1 dX11_init_104 (by decide) ?_
  refine r_iast (j := 0) (N := 4) (y := (-1)) C hW (by omega) hx9 (by decide) (by decide) (by decide) dX11_init_105 (fun M H locs hx9' hne hW => ?_)
  replace hx9 := hx9'
  clear hx9'
  replace hO := (hne 244 (by omega)).trans hO
  replace hx1 := (hne 245 (by omega)).trans hx1
  replace hF4 := fun j h1 h2 => (hne j (by omega)).trans (hF4 j h1 h2)
  replace hF6 := fun j h1 h2 => (hne j (by omega)).trans (hF6 j h1 h2)
  replace hF8 := fun j h1 h2 => (hne j (by omega)).trans (hF8 j h1 h2)
  replace hF12 := fun j h1 h2 => (hne j (by omega)).trans (hF12 j h1 h2)
  replace hF14 := fun j h1 h2 => (hne j (by omega)).trans (hF14 j h1 h2)
  replace hF16 := fun j h1 h2 => (hne j (by omega)).trans (hF16 j h1 h2)
  replace hF18 := fun j h1 h2 => (hne j (by omega)).trans (hF18 j h1 h2)
  replace hF20 := fun j h1 h2 => (hne j (by omega)).trans (hF20 j h1 h2)
  replace hB := fun j h1 => (hne j (by omega)).trans (hB j h1)
  refine lv_iinc (v := 1) (lv' := [(1, .int 1), (0, .ref (g.1 + 244))]) C.1.1 C.1.2.1 dX11_init_106 hl (k := 0) rfl (by decide) (by decide) rfl (fun ls hl => ?_)
  refine lv_goto (tgt := 94) C.1.1 C.1.2.1 dX11_init_109 (by decide) ?_
  refine lv_iload_n C.1.1 C.1.2.1 dX11_init_94 rfl (lv_at hl 0 rfl) ?_
  refine lv_iconst (v := 4) C.1.1 C.1.2.1 dX11_init_95 (by decide) ?_
  refine lv_icmp_ge (tgt := 112) C.1.1 C.1.2.1 dX11_init_96 (by decide) (fun hc => absurd hc (by decide)) (fun _ => ?_)
  refine lv_aload_n C.1.1 C.1.2.1 dX11_init_99 rfl (lv_at hl 1 rfl) ?_
  refine r_get (ci := 11) (Cn := RX11) (T := TX11) (N := 17) C hW inG11 (by omega) hO rfl 5 (by decide) (ref := RX11) (g4 165 (Eq.refl _) rfl) rfl rfl dX11_init_100 ?_
  refine lv_iload_n C.1.1 C.1.2.1 dX11_init_103 rfl (lv_at hl 0 rfl) ?_
  refine lv_iconst (v := -1) C.1.1 C.1.2.1 dX11_init_104 (by decide) ?_
  refine r_iast (j := 1) (N := 4) (y := (-1)) C hW (by omega) hx9 (by decide) (by decide) (by decide) dX11_init_105 (fun M H locs hx9' hne hW => ?_)
  replace hx9 := hx9'
  clear hx9'
  replace hO := (hne 244 (by omega)).trans hO
  replace hx1 := (hne 245 (by omega)).trans hx1
  replace hF4 := fun j h1 h2 => (hne j (by omega)).trans (hF4 j h1 h2)
  replace hF6 := fun j h1 h2 => (hne j (by omega)).trans (hF6 j h1 h2)
  replace hF8 := fun j h1 h2 => (hne j (by omega)).trans (hF8 j h1 h2)
  replace hF12 := fun j h1 h2 => (hne j (by omega)).trans (hF12 j h1 h2)
  replace hF14 := fun j h1 h2 => (hne j (by omega)).trans (hF14 j h1 h2)
  replace hF16 := fun j h1 h2 => (hne j (by omega)).trans (hF16 j h1 h2)
  replace hF18 := fun j h1 h2 => (hne j (by omega)).trans (hF18 j h1 h2)
  replace hF20 := fun j h1 h2 => (hne j (by omega)).trans (hF20 j h1 h2)
  replace hB := fun j h1 => (hne j (by omega)).trans (hB j h1)
  refine lv_iinc (v := 2) (lv' := [(1, .int 2), (0, .ref (g.1 + 244))]) C.1.1 C.1.2.1 dX11_init_106 hl (k := 0) rfl (by decide) (by decide) rfl (fun ls hl => ?_)
  refine lv_goto (tgt := 94) C.1.1 C.1.2.1 dX11_init_109 (by decide) ?_
  refine lv_iload_n C.1.1 C.1.2.1 dX11_init_94 rfl (lv_at hl 0 rfl) ?_
  refine lv_iconst (v := 4) C.1.1 C.1.2.1 dX11_init_95 (by decide) ?_
  refine lv_icmp_ge (tgt := 112) C.1.1 C.1.2.1 dX11_init_96 (by decide) (fun hc => absurd hc (by decide)) (fun _ => ?_)
  refine lv_aload_n C.1.1 C.1.2.1 dX11_init_99 rfl (lv_at hl 1 rfl) ?_
  refine r_get (ci := 11) (Cn := RX11) (T := TX11) (N := 17) C hW inG11 (by omega) hO rfl 5 (by decide) (ref := RX11) (g4 165 (Eq.refl _) rfl) rfl rfl dX11_init_100 ?_
  refine lv_iload_n C.1.1 C.1.2.1 dX11_init_103 rfl (lv_at hl 0 rfl) ?_
  refine lv_iconst (v := -1) C.1.1 C.1.2.1 dX11_init_104 (by decide) ?_
  refine r_iast (j := 2) (N := 4) (y := (-1)) C hW (by omega) hx9 (by decide) (by decide) (by decide) dX11_init_105 (fun M H locs hx9' hne hW => ?_)
  replace hx9 := hx9'
  clear hx9'
  replace hO := (hne 244 (by omega)).trans hO
  replace hx1 := (hne 245 (by omega)).trans hx1
  replace hF4 := fun j h1 h2 => (hne j (by omega)).trans (hF4 j h1 h2)
  replace hF6 := fun j h1 h2 => (hne j (by omega)).trans (hF6 j h1 h2)
  replace hF8 := fun j h1 h2 => (hne j (by omega)).trans (hF8 j h1 h2)
  replace hF12 := fun j h1 h2 => (hne j (by omega)).trans (hF12 j h1 h2)
  replace hF14 := fun j h1 h2 => (hne j (by omega)).trans (hF14 j h1 h2)
  replace hF16 := fun j h1 h2 => (hne j (by omega)).trans (hF16 j h1 h2)
  replace hF18 := fun j h1 h2 => (hne j (by omega)).trans (hF18 j h1 h2)
  replace hF20 := fun j h1 h2 => (hne j (by omega)).trans (hF20 j h1 h2)
  replace hB := fun j h1 => (hne j (by omega)).trans (hB j h1)
  refine lv_iinc (v := 3) (lv' := [(1, .int 3), (0, .ref (g.1 + 244))]) C.1.1 C.1.2.1 dX11_init_106 hl (k := 0) rfl (by decide) (by decide) rfl (fun ls hl => ?_)
  refine lv_goto (tgt := 94) C.1.1 C.1.2.1 dX11_init_109 (by decide) ?_
  refine lv_iload_n C.1.1 C.1.2.1 dX11_init_94 rfl (lv_at hl 0 rfl) ?_
  refine lv_iconst (v := 4) C.1.1 C.1.2.1 dX11_init_95 (by decide) ?_
  refine lv_icmp_ge (tgt := 112) C.1.1 C.1.2.1 dX11_init_96 (by decide) (fun hc => absurd hc (by decide)) (fun _ => ?_)
  refine lv_aload_n C.1.1 C.1.2.1 dX11_init_99 rfl (lv_at hl 1 rfl) ?_
  refine r_get (ci := 11) (Cn := RX11) (T := TX11) (N := 17) C hW inG11 (by omega) hO rfl 5 (by decide) (ref := RX11) (g4 165 (Eq.refl _) rfl) rfl rfl dX11_init_100 ?_
  refine lv_iload_n C.1.1 C.1.2.1 dX11_init_103 rfl (lv_at hl 0 rfl) ?_
  refine lv_iconst (v := -1) C.1.1 C.1.2.1 dX11_init_104 (by decide) ?_
  refine r_iast (j := 3) (N := 4) (y := (-1)) C hW (by omega) hx9 (by decide) (by decide) (by decide) dX11_init_105 (fun M H locs hx9' hne hW => ?_)
  replace hx9 := hx9'
  clear hx9'
  replace hO := (hne 244 (by omega)).trans hO
  replace hx1 := (hne 245 (by omega)).trans hx1
  replace hF4 := fun j h1 h2 => (hne j (by omega)).trans (hF4 j h1 h2)
  replace hF6 := fun j h1 h2 => (hne j (by omega)).trans (hF6 j h1 h2)
  replace hF8 := fun j h1 h2 => (hne j (by omega)).trans (hF8 j h1 h2)
  replace hF12 := fun j h1 h2 => (hne j (by omega)).trans (hF12 j h1 h2)
  replace hF14 := fun j h1 h2 => (hne j (by omega)).trans (hF14 j h1 h2)
  replace hF16 := fun j h1 h2 => (hne j (by omega)).trans (hF16 j h1 h2)
  replace hF18 := fun j h1 h2 => (hne j (by omega)).trans (hF18 j h1 h2)
  replace hF20 := fun j h1 h2 => (hne j (by omega)).trans (hF20 j h1 h2)
  replace hB := fun j h1 => (hne j (by omega)).trans (hB j h1)
  refine lv_iinc (v := 4) (lv' := [(1, .int 4), (0, .ref (g.1 + 244))]) C.1.1 C.1.2.1 dX11_init_106 hl (k := 0) rfl (by decide) (by decide) rfl (fun ls hl => ?_)
  refine lv_goto (tgt := 94) C.1.1 C.1.2.1 dX11_init_109 (by decide) ?_
  refine lv_iload_n C.1.1 C.1.2.1 dX11_init_94 rfl (lv_at hl 0 rfl) ?_
  refine lv_iconst (v := 4) C.1.1 C.1.2.1 dX11_init_95 (by decide) ?_
  refine lv_icmp_ge (tgt := 112) C.1.1 C.1.2.1 dX11_init_96 (by decide) (fun _ => ?_) (fun hc => absurd (by decide) hc)
  have hF21 : ∀ j, 245 ≤ j → j < 245 + 1 → M j = E0 g j := fun j h1 h2 => by
    obtain rfl : j = 245 := by omega
    rw [hx1, E0, EE_12 (by decide), (by decide : ln 245 = 1752)]
    refine congrArg (fun z => va_E_int g 1752 z) (funext fun k => ?_)
    by_cases hk : k = 6 <;> simp [upd, I0, kd, hk]
  have hF22 : ∀ j, 249 ≤ j → j < 249 + 1 → M j = E0 g j := fun j h1 h2 => by
    obtain rfl : j = 249 := by omega
    rw [hx9, E0, EE_12 (by decide), (by decide : ln 249 = 4)]
    refine congrArg (fun z => va_E_int g 4 z) (funext fun k => ?_)
    by_cases h0 : k = 0 <;> by_cases h1 : k = 1 <;> by_cases h2 : k = 2 <;> by_cases h3 : k = 3 <;> simp [upd, I0, kd, wk, h0, h1, h2, h3] <;> omega
  have hZ : M 244 = E0 g 244 := by rw [hO, E0, EE_11 (by decide)]; rfl
  subst hQ
  refine r_vret C hW hr hlocks (fun j h1 h2 => ?_) hB dX11_init_112
  rcases Nat.lt_or_ge j 245 with hq | hq
  · obtain rfl : j = 244 := by omega
    exact hZ
  rcases Nat.lt_or_ge j 246 with hq0 | hq0
  · exact hF21 j (by omega) (by omega)
  rcases Nat.lt_or_ge j 247 with hq1 | hq1
  · exact hF4 j (by omega) (by omega)
  rcases Nat.lt_or_ge j 248 with hq2 | hq2
  · exact hF6 j (by omega) (by omega)
  rcases Nat.lt_or_ge j 249 with hq3 | hq3
  · exact hF8 j (by omega) (by omega)
  rcases Nat.lt_or_ge j 250 with hq4 | hq4
  · exact hF22 j (by omega) (by omega)
  rcases Nat.lt_or_ge j 251 with hq5 | hq5
  · exact hF12 j (by omega) (by omega)
  rcases Nat.lt_or_ge j 252 with hq6 | hq6
  · exact hF14 j (by omega) (by omega)
  rcases Nat.lt_or_ge j 253 with hq7 | hq7
  · exact hF16 j (by omega) (by omega)
  rcases Nat.lt_or_ge j 254 with hq8 | hq8
  · exact hF18 j (by omega) (by omega)
  exact hF20 j (by omega) (by omega)
