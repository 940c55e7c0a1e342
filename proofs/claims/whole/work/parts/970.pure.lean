theorem law_pure (xs : Nat → Int32) (Lx : Nat) (h : Lx ≤ 448) : ∃ (I' : MI) (L' : ML), lp (fun s => b_L_law_18 xs Lx s.1 s.2.1 s.2.2) FU (0, I0, L0) = some (I', L') := sorry
