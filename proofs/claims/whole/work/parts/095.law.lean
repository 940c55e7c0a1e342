def b_L_law_18 (xs : Nat → Int32) (Lx : Nat)  (z3 : Int32) (I : MI) (L : ML) : Option ((Int32 × MI × ML) ⊕ ((MI × ML))) :=
  (if ((Int32.ofNat Lx) - (7 : Int32)) < z3 then some (Sum.inr (I, L)) else gi z3 Lx (nm ((xs z3.toNatClampNeg) &&& (63 : Int32)) (fun x3 => (if x3 = (0 : Int32) then gi (z3 + (1 : Int32)) Lx (bd2 (f_X10_feed (xs (z3 + (1 : Int32)).toNatClampNeg) I L) (fun r6 I7 => gi (z3 + (1 : Int32)) Lx (bd2 (f_X11_feed (xs (z3 + (1 : Int32)).toNatClampNeg) I7 L) (fun r10 I11 => (if r6 = r10 then nm (z3 + (7 : Int32)) (fun x14 => some (Sum.inl (x14, I11, L))) else none))))) else (if x3 = (1 : Int32) then bd2 (f_X10_wall  I L) (fun r16 I17 => bd2 (f_X11_wall  I17 L) (fun r19 I20 => (if r16 = r19 then nm (z3 + (7 : Int32)) (fun x23 => some (Sum.inl (x23, I20, L))) else none))) else (if x3 = (2 : Int32) then gi (z3 + (1 : Int32)) Lx (gi (z3 + (2 : Int32)) Lx (bd1 (f_X10_sitter (xs (z3 + (1 : Int32)).toNatClampNeg) (xs (z3 + (2 : Int32)).toNatClampNeg) I L) (fun r27 => gi (z3 + (1 : Int32)) Lx (gi (z3 + (2 : Int32)) Lx (bd1 (f_X11_sitter (xs (z3 + (1 : Int32)).toNatClampNeg) (xs (z3 + (2 : Int32)).toNatClampNeg) I L) (fun r31 => (if r27 = r31 then nm (z3 + (7 : Int32)) (fun x34 => some (Sum.inl (x34, I, L))) else none))))))) else (if x3 = (3 : Int32) then gi (z3 + (1 : Int32)) Lx (gi (z3 + (2 : Int32)) Lx (bd1 (f_X10_growth (xs (z3 + (1 : Int32)).toNatClampNeg) (xs (z3 + (2 : Int32)).toNatClampNeg) I L) (fun r38 => gi (z3 + (1 : Int32)) Lx (gi (z3 + (2 : Int32)) Lx (bd1 (f_X11_growth (xs (z3 + (1 : Int32)).toNatClampNeg) (xs (z3 + (2 : Int32)).toNatClampNeg) I L) (fun r42 => (if r38 = r42 then nm (z3 + (7 : Int32)) (fun x45 => some (Sum.inl (x45, I, L))) else none))))))) else (if x3 = (4 : Int32) then gi (z3 + (1 : Int32)) Lx (gi (z3 + (2 : Int32)) Lx (bd1 (f_X10_as (xs (z3 + (1 : Int32)).toNatClampNeg) (xs (z3 + (2 : Int32)).toNatClampNeg) I L) (fun r49 => gi (z3 + (1 : Int32)) Lx (gi (z3 + (2 : Int32)) Lx (bd1 (f_X11_as (xs (z3 + (1 : Int32)).toNatClampNeg) (xs (z3 + (2 : Int32)).toNatClampNeg) I L) (fun r53 => (if r49 = r53 then nm (z3 + (7 : Int32)) (fun x56 => some (Sum.inl (x56, I, L))) else none))))))) else (if x3 = (5 : Int32) then gi (z3 + (1 : Int32)) Lx (bd2 (f_X10_hours (xs (z3 + (1 : Int32)).toNatClampNeg) I L) (fun r59 I60 => gi (z3 + (1 : Int32)) Lx (bd2 (f_X11_hours (xs (z3 + (1 : Int32)).toNatClampNeg) I60 L) (fun r63 I64 => (if r59 = r63 then nm (z3 + (7 : Int32)) (fun x67 => some (Sum.inl (x67, I64, L))) else none))))) else (if x3 = (6 : Int32) then gi (z3 + (1 : Int32)) Lx (bd2 (f_X10_crust (xs (z3 + (1 : Int32)).toNatClampNeg) I L) (fun r70 I71 => gi (z3 + (1 : Int32)) Lx (bd2 (f_X11_crust (xs (z3 + (1 : Int32)).toNatClampNeg) I71 L) (fun r74 I75 => (if r70 = r74 then nm (z3 + (7 : Int32)) (fun x78 => some (Sum.inl (x78, I75, L))) else none))))) else (if x3 = (7 : Int32) then gi (z3 + (1 : Int32)) Lx (gi (z3 + (2 : Int32)) Lx (bd2 (f_X10_news (xs (z3 + (1 : Int32)).toNatClampNeg) (xs (z3 + (2 : Int32)).toNatClampNeg) I L) (fun r82 I83 => gi (z3 + (1 : Int32)) Lx (gi (z3 + (2 : Int32)) Lx (bd2 (f_X11_news (xs (z3 + (1 : Int32)).toNatClampNeg) (xs (z3 + (2 : Int32)).toNatClampNeg) I83 L) (fun r87 I88 => (if r82 = r87 then nm (z3 + (7 : Int32)) (fun x91 => some (Sum.inl (x91, I88, L))) else none))))))) else (if x3 = (8 : Int32) then gi (z3 + (1 : Int32)) Lx (bd2 (f_X10_praise (xs (z3 + (1 : Int32)).toNatClampNeg) I L) (fun r94 I95 => gi (z3 + (1 : Int32)) Lx (bd2 (f_X11_praise (xs (z3 + (1 : Int32)).toNatClampNeg) I95 L) (fun r98 I99 => (if r94 = r98 then nm (z3 + (7 : Int32)) (fun x102 => some (Sum.inl (x102, I99, L))) else none))))) else (if x3 = (9 : Int32) then gi (z3 + (1 : Int32)) Lx (gi (z3 + (2 : Int32)) Lx (bd2 (f_X10_cloak (xs (z3 + (1 : Int32)).toNatClampNeg) (xs (z3 + (2 : Int32)).toNatClampNeg) I L) (fun r106 I107 => gi (z3 + (1 : Int32)) Lx (gi (z3 + (2 : Int32)) Lx (bd2 (f_X11_cloak (xs (z3 + (1 : Int32)).toNatClampNeg) (xs (z3 + (2 : Int32)).toNatClampNeg) I107 L) (fun r111 I112 => (if r106 = r111 then nm (z3 + (7 : Int32)) (fun x115 => some (Sum.inl (x115, I112, L))) else none))))))) else (if x3 = (10 : Int32) then gi (z3 + (1 : Int32)) Lx (bd2 (f_X10_heir (xs (z3 + (1 : Int32)).toNatClampNeg) I L) (fun r118 I119 => gi (z3 + (1 : Int32)) Lx (bd2 (f_X11_heir (xs (z3 + (1 : Int32)).toNatClampNeg) I119 L) (fun r122 I123 => (if r118 = r122 then nm (z3 + (7 : Int32)) (fun x126 => some (Sum.inl (x126, I123, L))) else none))))) else (if x3 = (11 : Int32) then bd2 (f_X10_undo  I L) (fun r128 I129 => bd2 (f_X11_undo  I129 L) (fun r131 I132 => (if r128 = r131 then nm (z3 + (7 : Int32)) (fun x135 => some (Sum.inl (x135, I132, L))) else none))) else (if x3 = (12 : Int32) then gi (z3 + (1 : Int32)) Lx (bd2 (f_X10_seed (xs (z3 + (1 : Int32)).toNatClampNeg) I L) (fun r138 I139 => gi (z3 + (1 : Int32)) Lx (bd2 (f_X11_seed (xs (z3 + (1 : Int32)).toNatClampNeg) I139 L) (fun r142 I143 => (if r138 = r142 then nm (z3 + (7 : Int32)) (fun x146 => some (Sum.inl (x146, I143, L))) else none))))) else (if x3 = (13 : Int32) then gi (z3 + (1 : Int32)) Lx (bd2 (f_X10_image (xs (z3 + (1 : Int32)).toNatClampNeg) I L) (fun r149 I150 => gi (z3 + (1 : Int32)) Lx (bd2 (f_X11_image (xs (z3 + (1 : Int32)).toNatClampNeg) I150 L) (fun r153 I154 => (if r149 = r153 then nm (z3 + (7 : Int32)) (fun x157 => some (Sum.inl (x157, I154, L))) else none))))) else (if x3 = (14 : Int32) then gi (z3 + (1 : Int32)) Lx (bd2 (f_X10_restore (xs (z3 + (1 : Int32)).toNatClampNeg) I L) (fun r160 I161 => gi (z3 + (1 : Int32)) Lx (bd2 (f_X11_restore (xs (z3 + (1 : Int32)).toNatClampNeg) I161 L) (fun r164 I165 => (if r160 = r164 then nm (z3 + (7 : Int32)) (fun x168 => some (Sum.inl (x168, I165, L))) else none))))) else (if x3 = (15 : Int32) then gi (z3 + (1 : Int32)) Lx (gi (z3 + (2 : Int32)) Lx (bd2 (f_X10_strain (xs (z3 + (1 : Int32)).toNatClampNeg) (xs (z3 + (2 : Int32)).toNatClampNeg) I L) (fun r172 I173 => gi (z3 + (1 : Int32)) Lx (gi (z3 + (2 : Int32)) Lx (bd2 (f_X11_strain (xs (z3 + (1 : Int32)).toNatClampNeg) (xs (z3 + (2 : Int32)).toNatClampNeg) I173 L) (fun r177 I178 => (if r172 = r177 then nm (z3 + (7 : Int32)) (fun x181 => some (Sum.inl (x181, I178, L))) else none))))))) else (if x3 = (16 : Int32) then gi (z3 + (1 : Int32)) Lx (bd2 (f_X10_down (xs (z3 + (1 : Int32)).toNatClampNeg) I L) (fun r184 I185 => gi (z3 + (1 : Int32)) Lx (bd2 (f_X11_down (xs (z3 + (1 : Int32)).toNatClampNeg) I185 L) (fun r188 I189 => (if r184 = r188 then nm (z3 + (7 : Int32)) (fun x192 => some (Sum.inl (x192, I189, L))) else none))))) else (if x3 = (17 : Int32) then gi (z3 + (1 : Int32)) Lx (gi (z3 + (2 : Int32)) Lx (bd2 (f_X10_duel (xs (z3 + (1 : Int32)).toNatClampNeg) (xs (z3 + (2 : Int32)).toNatClampNeg) I L) (fun r196 I197 => gi (z3 + (1 : Int32)) Lx (gi (z3 + (2 : Int32)) Lx (bd2 (f_X11_duel (xs (z3 + (1 : Int32)).toNatClampNeg) (xs (z3 + (2 : Int32)).toNatClampNeg) I197 L) (fun r201 I202 => (if r196 = r201 then nm (z3 + (7 : Int32)) (fun x205 => some (Sum.inl (x205, I202, L))) else none))))))) else (if x3 = (18 : Int32) then gi (z3 + (1 : Int32)) Lx (bd2 (f_X10_honour (xs (z3 + (1 : Int32)).toNatClampNeg) I L) (fun r208 I209 => gi (z3 + (1 : Int32)) Lx (bd2 (f_X11_honour (xs (z3 + (1 : Int32)).toNatClampNeg) I209 L) (fun r212 I213 => (if r208 = r212 then nm (z3 + (7 : Int32)) (fun x216 => some (Sum.inl (x216, I213, L))) else none))))) else (if x3 = (19 : Int32) then gi (z3 + (1 : Int32)) Lx (gi (z3 + (2 : Int32)) Lx (gi (z3 + (3 : Int32)) Lx (bd2 (f_X10_eat (xs (z3 + (1 : Int32)).toNatClampNeg) (xs (z3 + (2 : Int32)).toNatClampNeg) (xs (z3 + (3 : Int32)).toNatClampNeg) I L) (fun r221 I222 => gi (z3 + (1 : Int32)) Lx (gi (z3 + (2 : Int32)) Lx (gi (z3 + (3 : Int32)) Lx (bd2 (f_X11_eat (xs (z3 + (1 : Int32)).toNatClampNeg) (xs (z3 + (2 : Int32)).toNatClampNeg) (xs (z3 + (3 : Int32)).toNatClampNeg) I222 L) (fun r227 I228 => (if r221 = r227 then nm (z3 + (7 : Int32)) (fun x231 => some (Sum.inl (x231, I228, L))) else none))))))))) else (if x3 = (20 : Int32) then gi (z3 + (1 : Int32)) Lx (gi (z3 + (2 : Int32)) Lx (gi (z3 + (3 : Int32)) Lx (bd2 (f_X10_train (xs (z3 + (1 : Int32)).toNatClampNeg) (xs (z3 + (2 : Int32)).toNatClampNeg) (xs (z3 + (3 : Int32)).toNatClampNeg) I L) (fun r236 I237 => gi (z3 + (1 : Int32)) Lx (gi (z3 + (2 : Int32)) Lx (gi (z3 + (3 : Int32)) Lx (bd2 (f_X11_train (xs (z3 + (1 : Int32)).toNatClampNeg) (xs (z3 + (2 : Int32)).toNatClampNeg) (xs (z3 + (3 : Int32)).toNatClampNeg) I237 L) (fun r242 I243 => (if r236 = r242 then nm (z3 + (7 : Int32)) (fun x246 => some (Sum.inl (x246, I243, L))) else none))))))))) else (if x3 = (21 : Int32) then gi (z3 + (1 : Int32)) Lx (bd2 (f_X10_dusk (xs (z3 + (1 : Int32)).toNatClampNeg) I L) (fun r249 I250 => gi (z3 + (1 : Int32)) Lx (bd2 (f_X11_dusk (xs (z3 + (1 : Int32)).toNatClampNeg) I250 L) (fun r253 I254 => (if r249 = r253 then nm (z3 + (7 : Int32)) (fun x257 => some (Sum.inl (x257, I254, L))) else none))))) else (if x3 = (22 : Int32) then gi (z3 + (1 : Int32)) Lx (gi (z3 + (2 : Int32)) Lx (gi (z3 + (3 : Int32)) Lx (gi (z3 + (4 : Int32)) Lx (gi (z3 + (5 : Int32)) Lx (bd2 (f_X10_odds (xs (z3 + (1 : Int32)).toNatClampNeg) (xs (z3 + (2 : Int32)).toNatClampNeg) (xs (z3 + (3 : Int32)).toNatClampNeg) (xs (z3 + (4 : Int32)).toNatClampNeg) (xs (z3 + (5 : Int32)).toNatClampNeg) I L) (fun r264 I265 => gi (z3 + (1 : Int32)) Lx (gi (z3 + (2 : Int32)) Lx (gi (z3 + (3 : Int32)) Lx (gi (z3 + (4 : Int32)) Lx (gi (z3 + (5 : Int32)) Lx (bd3 (f_X11_odds (xs (z3 + (1 : Int32)).toNatClampNeg) (xs (z3 + (2 : Int32)).toNatClampNeg) (xs (z3 + (3 : Int32)).toNatClampNeg) (xs (z3 + (4 : Int32)).toNatClampNeg) (xs (z3 + (5 : Int32)).toNatClampNeg) I265 L) (fun r272 I273 L274 => (if (lg_cmp r264 r272) = 0 then nm (z3 + (7 : Int32)) (fun x277 => some (Sum.inl (x277, I273, L274))) else none))))))))))))) else (if x3 = (23 : Int32) then gi (z3 + (1 : Int32)) Lx (gi (z3 + (2 : Int32)) Lx (gi (z3 + (3 : Int32)) Lx (bd2 (f_X10_challenge (xs (z3 + (1 : Int32)).toNatClampNeg) (xs (z3 + (2 : Int32)).toNatClampNeg) (xs (z3 + (3 : Int32)).toNatClampNeg) I L) (fun r282 I283 => gi (z3 + (1 : Int32)) Lx (gi (z3 + (2 : Int32)) Lx (gi (z3 + (3 : Int32)) Lx (bd3 (f_X11_challenge (xs (z3 + (1 : Int32)).toNatClampNeg) (xs (z3 + (2 : Int32)).toNatClampNeg) (xs (z3 + (3 : Int32)).toNatClampNeg) I283 L) (fun r288 I289 L290 => (if r282 = r288 then nm (z3 + (7 : Int32)) (fun x293 => some (Sum.inl (x293, I289, L290))) else none))))))))) else (if x3 = (24 : Int32) then gi (z3 + (1 : Int32)) Lx (gi (z3 + (2 : Int32)) Lx (gi (z3 + (3 : Int32)) Lx (bd2 (f_X10_game (xs (z3 + (1 : Int32)).toNatClampNeg) (xs (z3 + (2 : Int32)).toNatClampNeg) (xs (z3 + (3 : Int32)).toNatClampNeg) I L) (fun r298 I299 => gi (z3 + (1 : Int32)) Lx (gi (z3 + (2 : Int32)) Lx (gi (z3 + (3 : Int32)) Lx (bd2 (f_X11_game (xs (z3 + (1 : Int32)).toNatClampNeg) (xs (z3 + (2 : Int32)).toNatClampNeg) (xs (z3 + (3 : Int32)).toNatClampNeg) I299 L) (fun r304 I305 => (if r298 = r304 then nm (z3 + (7 : Int32)) (fun x308 => some (Sum.inl (x308, I305, L))) else none))))))))) else (if x3 = (25 : Int32) then gi (z3 + (1 : Int32)) Lx (gi (z3 + (2 : Int32)) Lx (gi (z3 + (3 : Int32)) Lx (bd3 (f_X10_sheet (xs (z3 + (1 : Int32)).toNatClampNeg) (xs (z3 + (2 : Int32)).toNatClampNeg) (xs (z3 + (3 : Int32)).toNatClampNeg) I L) (fun r313 I314 L315 => gi (z3 + (1 : Int32)) Lx (gi (z3 + (2 : Int32)) Lx (gi (z3 + (3 : Int32)) Lx (bd3 (f_X11_sheet (xs (z3 + (1 : Int32)).toNatClampNeg) (xs (z3 + (2 : Int32)).toNatClampNeg) (xs (z3 + (3 : Int32)).toNatClampNeg) I314 L315) (fun r320 I321 L322 => (if r313 = r320 then nm (z3 + (7 : Int32)) (fun x325 => some (Sum.inl (x325, I321, L322))) else none))))))))) else (if x3 = (26 : Int32) then gi (z3 + (1 : Int32)) Lx (bd2 (f_X10_drop (xs (z3 + (1 : Int32)).toNatClampNeg) I L) (fun r328 I329 => gi (z3 + (1 : Int32)) Lx (bd2 (f_X11_drop (xs (z3 + (1 : Int32)).toNatClampNeg) I329 L) (fun r332 I333 => (if r328 = r332 then nm (z3 + (7 : Int32)) (fun x336 => some (Sum.inl (x336, I333, L))) else none))))) else (if x3 = (27 : Int32) then gi (z3 + (1 : Int32)) Lx (gi (z3 + (2 : Int32)) Lx (gi (z3 + (3 : Int32)) Lx (gi (z3 + (4 : Int32)) Lx (gi (z3 + (5 : Int32)) Lx (bd2 (f_X10_item (xs (z3 + (1 : Int32)).toNatClampNeg) (xs (z3 + (2 : Int32)).toNatClampNeg) (xs (z3 + (3 : Int32)).toNatClampNeg) ((((xs (z3 + (4 : Int32)).toNatClampNeg).toInt64) <<< ((32 : Int32).toInt64 &&& (63 : Int64))) ||| (((xs (z3 + (5 : Int32)).toNatClampNeg).toInt64) &&& (4294967295 : Int64))) I L) (fun r343 L344 => gi (z3 + (1 : Int32)) Lx (gi (z3 + (2 : Int32)) Lx (gi (z3 + (3 : Int32)) Lx (gi (z3 + (4 : Int32)) Lx (gi (z3 + (5 : Int32)) Lx (bd2 (f_X11_item (xs (z3 + (1 : Int32)).toNatClampNeg) (xs (z3 + (2 : Int32)).toNatClampNeg) (xs (z3 + (3 : Int32)).toNatClampNeg) ((((xs (z3 + (4 : Int32)).toNatClampNeg).toInt64) <<< ((32 : Int32).toInt64 &&& (63 : Int64))) ||| (((xs (z3 + (5 : Int32)).toNatClampNeg).toInt64) &&& (4294967295 : Int64))) I L344) (fun r351 L352 => (if (lg_cmp r343 r351) = 0 then nm (z3 + (7 : Int32)) (fun x355 => some (Sum.inl (x355, I, L352))) else none))))))))))))) else (if x3 = (28 : Int32) then gi (z3 + (1 : Int32)) Lx (gi (z3 + (2 : Int32)) Lx (gi (z3 + (3 : Int32)) Lx (gi (z3 + (4 : Int32)) Lx (gi (z3 + (5 : Int32)) Lx (bd2 (f_X10_copy (xs (z3 + (1 : Int32)).toNatClampNeg) (xs (z3 + (2 : Int32)).toNatClampNeg) (xs (z3 + (3 : Int32)).toNatClampNeg) (xs (z3 + (4 : Int32)).toNatClampNeg) (xs (z3 + (5 : Int32)).toNatClampNeg) I L) (fun r362 L363 => gi (z3 + (1 : Int32)) Lx (gi (z3 + (2 : Int32)) Lx (gi (z3 + (3 : Int32)) Lx (gi (z3 + (4 : Int32)) Lx (gi (z3 + (5 : Int32)) Lx (bd2 (f_X11_copy (xs (z3 + (1 : Int32)).toNatClampNeg) (xs (z3 + (2 : Int32)).toNatClampNeg) (xs (z3 + (3 : Int32)).toNatClampNeg) (xs (z3 + (4 : Int32)).toNatClampNeg) (xs (z3 + (5 : Int32)).toNatClampNeg) I L363) (fun r370 L371 => (if r362 = r370 then nm (z3 + (7 : Int32)) (fun x374 => some (Sum.inl (x374, I, L371))) else none))))))))))))) else (if x3 = (29 : Int32) then gi (z3 + (1 : Int32)) Lx (gi (z3 + (2 : Int32)) Lx (gi (z3 + (3 : Int32)) Lx (gi (z3 + (4 : Int32)) Lx (gi (z3 + (5 : Int32)) Lx (bd3 (f_X10_film (xs (z3 + (1 : Int32)).toNatClampNeg) (xs (z3 + (2 : Int32)).toNatClampNeg) (xs (z3 + (3 : Int32)).toNatClampNeg) (xs (z3 + (4 : Int32)).toNatClampNeg) (xs (z3 + (5 : Int32)).toNatClampNeg) I L) (fun r381 I382 L383 => gi (z3 + (1 : Int32)) Lx (gi (z3 + (2 : Int32)) Lx (gi (z3 + (3 : Int32)) Lx (gi (z3 + (4 : Int32)) Lx (gi (z3 + (5 : Int32)) Lx (bd3 (f_X11_film (xs (z3 + (1 : Int32)).toNatClampNeg) (xs (z3 + (2 : Int32)).toNatClampNeg) (xs (z3 + (3 : Int32)).toNatClampNeg) (xs (z3 + (4 : Int32)).toNatClampNeg) (xs (z3 + (5 : Int32)).toNatClampNeg) I382 L383) (fun r390 I391 L392 => (if r381 = r390 then nm (z3 + (7 : Int32)) (fun x395 => some (Sum.inl (x395, I391, L392))) else none))))))))))))) else (if x3 = (30 : Int32) then gi (z3 + (1 : Int32)) Lx (gi (z3 + (2 : Int32)) Lx (gi (z3 + (3 : Int32)) Lx (gi (z3 + (4 : Int32)) Lx (gi (z3 + (5 : Int32)) Lx (bd2 (f_X10_round (xs (z3 + (1 : Int32)).toNatClampNeg) (xs (z3 + (2 : Int32)).toNatClampNeg) (xs (z3 + (3 : Int32)).toNatClampNeg) (xs (z3 + (4 : Int32)).toNatClampNeg) (xs (z3 + (5 : Int32)).toNatClampNeg) I L) (fun r402 I403 => gi (z3 + (1 : Int32)) Lx (gi (z3 + (2 : Int32)) Lx (gi (z3 + (3 : Int32)) Lx (gi (z3 + (4 : Int32)) Lx (gi (z3 + (5 : Int32)) Lx (bd2 (f_X11_round (xs (z3 + (1 : Int32)).toNatClampNeg) (xs (z3 + (2 : Int32)).toNatClampNeg) (xs (z3 + (3 : Int32)).toNatClampNeg) (xs (z3 + (4 : Int32)).toNatClampNeg) (xs (z3 + (5 : Int32)).toNatClampNeg) I403 L) (fun r410 I411 => (if r402 = r410 then nm (z3 + (7 : Int32)) (fun x414 => some (Sum.inl (x414, I411, L))) else none))))))))))))) else (if x3 = (31 : Int32) then gi (z3 + (1 : Int32)) Lx (gi (z3 + (2 : Int32)) Lx (gi (z3 + (3 : Int32)) Lx (gi (z3 + (4 : Int32)) Lx (gi (z3 + (5 : Int32)) Lx (bd2 (f_X10_goesOn (xs (z3 + (1 : Int32)).toNatClampNeg) (xs (z3 + (2 : Int32)).toNatClampNeg) (xs (z3 + (3 : Int32)).toNatClampNeg) (xs (z3 + (4 : Int32)).toNatClampNeg) (xs (z3 + (5 : Int32)).toNatClampNeg) I L) (fun r421 I422 => gi (z3 + (1 : Int32)) Lx (gi (z3 + (2 : Int32)) Lx (gi (z3 + (3 : Int32)) Lx (gi (z3 + (4 : Int32)) Lx (gi (z3 + (5 : Int32)) Lx (bd1 (f_X11_goesOn (xs (z3 + (1 : Int32)).toNatClampNeg) (xs (z3 + (2 : Int32)).toNatClampNeg) (xs (z3 + (3 : Int32)).toNatClampNeg) (xs (z3 + (4 : Int32)).toNatClampNeg) (xs (z3 + (5 : Int32)).toNatClampNeg) I422 L) (fun r429 => (if r421 = r429 then nm (z3 + (7 : Int32)) (fun x432 => some (Sum.inl (x432, I422, L))) else none))))))))))))) else (if x3 = (32 : Int32) then gi (z3 + (1 : Int32)) Lx (gi (z3 + (2 : Int32)) Lx (gi (z3 + (3 : Int32)) Lx (gi (z3 + (4 : Int32)) Lx (gi (z3 + (5 : Int32)) Lx (bd2 (f_X10_told (xs (z3 + (1 : Int32)).toNatClampNeg) (xs (z3 + (2 : Int32)).toNatClampNeg) (xs (z3 + (3 : Int32)).toNatClampNeg) (xs (z3 + (4 : Int32)).toNatClampNeg) (xs (z3 + (5 : Int32)).toNatClampNeg) I L) (fun r439 I440 => gi (z3 + (1 : Int32)) Lx (gi (z3 + (2 : Int32)) Lx (gi (z3 + (3 : Int32)) Lx (gi (z3 + (4 : Int32)) Lx (gi (z3 + (5 : Int32)) Lx (bd1 (f_X11_told (xs (z3 + (1 : Int32)).toNatClampNeg) (xs (z3 + (2 : Int32)).toNatClampNeg) (xs (z3 + (3 : Int32)).toNatClampNeg) (xs (z3 + (4 : Int32)).toNatClampNeg) (xs (z3 + (5 : Int32)).toNatClampNeg) I440 L) (fun r447 => (if r439 = r447 then nm (z3 + (7 : Int32)) (fun x450 => some (Sum.inl (x450, I440, L))) else none))))))))))))) else (if x3 = (33 : Int32) then gi (z3 + (1 : Int32)) Lx (gi (z3 + (2 : Int32)) Lx (gi (z3 + (3 : Int32)) Lx (gi (z3 + (4 : Int32)) Lx (gi (z3 + (5 : Int32)) Lx (gi (z3 + (6 : Int32)) Lx (bd2 (f_X10_ate (xs (z3 + (1 : Int32)).toNatClampNeg) (xs (z3 + (2 : Int32)).toNatClampNeg) (xs (z3 + (3 : Int32)).toNatClampNeg) (xs (z3 + (4 : Int32)).toNatClampNeg) (xs (z3 + (5 : Int32)).toNatClampNeg) (xs (z3 + (6 : Int32)).toNatClampNeg) I L) (fun r458 I459 => gi (z3 + (1 : Int32)) Lx (gi (z3 + (2 : Int32)) Lx (gi (z3 + (3 : Int32)) Lx (gi (z3 + (4 : Int32)) Lx (gi (z3 + (5 : Int32)) Lx (gi (z3 + (6 : Int32)) Lx (bd2 (f_X11_ate (xs (z3 + (1 : Int32)).toNatClampNeg) (xs (z3 + (2 : Int32)).toNatClampNeg) (xs (z3 + (3 : Int32)).toNatClampNeg) (xs (z3 + (4 : Int32)).toNatClampNeg) (xs (z3 + (5 : Int32)).toNatClampNeg) (xs (z3 + (6 : Int32)).toNatClampNeg) I459 L) (fun r467 I468 => (if r458 = r467 then nm (z3 + (7 : Int32)) (fun x471 => some (Sum.inl (x471, I468, L))) else none))))))))))))))) else (if x3 = (34 : Int32) then gi (z3 + (1 : Int32)) Lx (bd1 (f_X10_count (xs (z3 + (1 : Int32)).toNatClampNeg) I L) (fun r474 => gi (z3 + (1 : Int32)) Lx (bd1 (f_X11_count (xs (z3 + (1 : Int32)).toNatClampNeg) I L) (fun r477 => (if r474 = r477 then nm (z3 + (7 : Int32)) (fun x480 => some (Sum.inl (x480, I, L))) else none))))) else nm (z3 + (7 : Int32)) (fun x481 => some (Sum.inl (x481, I, L)))))))))))))))))))))))))))))))))))))))))
set_option maxHeartbeats 4000000 in
set_option maxRecDepth 100000 in
theorem l_L_law_18 {g : Gp} {p : Program} {l : Launch} {e : Env} {s : State} {m : MethodId} {args : Array Value} {below : List Frame} {meth : Method} {c : Code} {Q : State → Prop}  {b Lx : Nat} {xs : Nat → Int32} (hX : va_X b Lx xs s s.heap) (hbl : b < s.heap.size) (hbA : ¬ AA g b) (C : Cx g p s m args c RL cL_law 4)   : ∀ (n : Nat) (z3 : Int32) (I : MI) (L : ML) (Iy0 : MI) (Ly0 : ML), lp (fun s => b_L_law_18 xs Lx  s.1 s.2.1 s.2.2) n (z3, I, L) = some (Iy0, Ly0) → ∀ (H : Heap) (locs : List Loc) (ls : Array Slot), Ws g s I L H locs → lv_has ls 4 [(0, .ref b), (1, .ref (g.1 + 0)), (2, .ref (g.1 + 244)), (3, .int z3)] → (∀ (H : Heap) (locs : List Loc) (ls : Array Slot), Ws g s Iy0 Ly0 H locs → lv_has ls 4 [] → W p l e room_1 s m args below meth c H locs 600000 7302250 Q (F0 m 1503 ls [])) → W p l e room_1 s m args below meth c H locs 600000 7302250 Q (F0 m 18 ls []) := by
  intro n
  induction n with
  | zero => intro z3 I L Iy0 Ly0 h; exact lp_zero h
  | succ n ih =>
      intro z3 I L Iy0 Ly0 h H locs ls hW hl hx0
      obtain ⟨r9, h, h9⟩ := lp_some h
      have h : b_L_law_18 xs Lx  z3 I L = some r9 := h
      unfold b_L_law_18 at h
      refine lv_iload_n C.1.1 C.1.2.1 dL_law_18 rfl (lv_at hl 3 rfl) ?_
      refine lv_aload_n C.1.1 C.1.2.1 dL_law_19 rfl (lv_at hl 0 rfl) ?_
      refine va_slen C.1.1 C.1.2.1 hX hbl hbA hW.2 dL_law_20 ?_
      refine lv_bipush (v := 7) C.1.1 C.1.2.1 dL_law_21 (by decide) ?_
      refine lv_isub C.1.1 C.1.2.1 dL_law_23 ?_
      refine lv_icmp_gt (tgt := 1503) C.1.1 C.1.2.1 dL_law_24 (by decide) (fun hc1 => ?_) (fun hc1 => ?_)
      · replace h := ite_t hc1 h
        obtain rfl := Option.some.inj h
        replace h9 := Option.some.inj h9
        obtain ⟨rfl, rfl⟩ := pnj2 h9
        exact hx0 _ _ _ hW (lv_sub hl [] rfl)
      · replace h := ite_f hc1 h
        refine lv_aload_n C.1.1 C.1.2.1 dL_law_27 rfl (lv_at hl 0 rfl) ?_
        refine lv_iload_n C.1.1 C.1.2.1 dL_law_28 rfl (lv_at hl 3 rfl) ?_
        obtain ⟨hi2, h⟩ := gi_some h
        refine va_sld C.1.1 C.1.2.1 hX hbl hbA hW.2 hi2 dL_law_29 ?_
        refine lv_bipush (v := 63) C.1.1 C.1.2.1 dL_law_30 (by decide) ?_
        refine lv_iand C.1.1 C.1.2.1 dL_law_32 ?_
        refine lv_topi (fun x3 ex3 => ?_)
        replace h := nm_at ex3 h
        clear ex3
        by_cases hc4 : x3 = (0 : Int32)
        · replace h := ite_t hc4 h
          rw [hc4]
          refine lv_tableIn (tgt := 188) C.1.1 C.1.2.1 dL_law_33 (by decide) (by decide) rfl (by decide) ?_
          refine lv_aload_n C.1.1 C.1.2.1 dL_law_188 rfl (lv_at hl 1 rfl) ?_
          refine lv_aload_n C.1.1 C.1.2.1 dL_law_189 rfl (lv_at hl 0 rfl) ?_
          refine lv_iload_n C.1.1 C.1.2.1 dL_law_190 rfl (lv_at hl 3 rfl) ?_
          refine lv_iconst (v := 1) C.1.1 C.1.2.1 dL_law_191 (by decide) ?_
          refine lv_iadd C.1.1 C.1.2.1 dL_law_192 ?_
          obtain ⟨hi5, h⟩ := gi_some h
          refine va_sld C.1.1 C.1.2.1 hX hbl hbA hW.2 hi5 dL_law_193 ?_
          obtain ⟨r6, I7, hc8, h⟩ := bd2_some h
          refine w_callVi (k := 1) (As := [.int (xs (z3 + (1 : Int32)).toNatClampNeg)]) (rest := []) C hW (c_X10_feed g l  hc8) (by decide) rfl (EX_10 (by decide)) K_L_13 (by decide +kernel) ⟨by decide, by decide⟩ ⟨Nat.le_refl _, Nat.le_refl _⟩ rfl hl.1 rfl (Nat.le_of_ble_eq_true rfl) dL_law_194 (fun H locs hW => ?_)
          refine lv_aload_n C.1.1 C.1.2.1 dL_law_197 rfl (lv_at hl 2 rfl) ?_
          refine lv_aload_n C.1.1 C.1.2.1 dL_law_198 rfl (lv_at hl 0 rfl) ?_
          refine lv_iload_n C.1.1 C.1.2.1 dL_law_199 rfl (lv_at hl 3 rfl) ?_
          refine lv_iconst (v := 1) C.1.1 C.1.2.1 dL_law_200 (by decide) ?_
          refine lv_iadd C.1.1 C.1.2.1 dL_law_201 ?_
          obtain ⟨hi9, h⟩ := gi_some h
          refine va_sld C.1.1 C.1.2.1 hX hbl hbA hW.2 hi9 dL_law_202 ?_
          obtain ⟨r10, I11, hc12, h⟩ := bd2_some h
          refine w_callVi (k := 1) (As := [.int (xs (z3 + (1 : Int32)).toNatClampNeg)]) (rest := [.int r6]) C hW (c_X11_feed g l  hc12) (by decide) rfl (EX_11 (by decide)) K_L_17 (by decide +kernel) ⟨by decide, by decide⟩ ⟨Nat.le_refl _, Nat.le_refl _⟩ rfl hl.1 rfl (Nat.le_of_ble_eq_true rfl) dL_law_203 (fun H locs hW => ?_)
          refine lv_icmp_eq (tgt := 1497) C.1.1 C.1.2.1 dL_law_206 (by decide) (fun hc13 => ?_) (fun hc13 => ?_)
          · replace h := ite_t hc13 h
            obtain ⟨x14, ex14⟩ : ∃ y : Int32, y = z3 + (7 : Int32) := ⟨_, rfl⟩
            replace h := nm_at ex14 h
            refine lv_iinc (v := x14) (lv' := [(3, .int x14), (0, .ref b), (1, .ref (g.1 + 0)), (2, .ref (g.1 + 244))]) C.1.1 C.1.2.1 dL_law_1497 hl (k := 3) rfl (by rw [ex14]; rfl) (by decide) rfl (fun ls hl => ?_)
            clear ex14
            refine lv_goto (tgt := 18) C.1.1 C.1.2.1 dL_law_1500 (by decide) ?_
            obtain rfl := Option.some.inj h
            exact ih _ _ _ _ _ h9 _ _ _ hW (lv_sub hl [1, 2, 3, 0] rfl) hx0
          · replace h := ite_f hc13 h
            cases h
        · replace h := ite_f hc4 h
          by_cases hc15 : x3 = (1 : Int32)
          · replace h := ite_t hc15 h
            rw [hc15]
            refine lv_tableIn (tgt := 211) C.1.1 C.1.2.1 dL_law_33 (by decide) (by decide) rfl (by decide) ?_
            refine lv_aload_n C.1.1 C.1.2.1 dL_law_211 rfl (lv_at hl 1 rfl) ?_
            obtain ⟨r16, I17, hc18, h⟩ := bd2_some h
            refine w_callVi (k := 0) (As := []) (rest := []) C hW (c_X10_wall g l  hc18) (by decide) rfl (EX_10 (by decide)) K_L_18 (by decide +kernel) ⟨by decide, by decide⟩ ⟨Nat.le_refl _, Nat.le_refl _⟩ rfl hl.1 rfl (Nat.le_of_ble_eq_true rfl) dL_law_212 (fun H locs hW => ?_)
            refine lv_aload_n C.1.1 C.1.2.1 dL_law_215 rfl (lv_at hl 2 rfl) ?_
            obtain ⟨r19, I20, hc21, h⟩ := bd2_some h
            refine w_callVi (k := 0) (As := []) (rest := [.int r16]) C hW (c_X11_wall g l  hc21) (by decide) rfl (EX_11 (by decide)) K_L_22 (by decide +kernel) ⟨by decide, by decide⟩ ⟨Nat.le_refl _, Nat.le_refl _⟩ rfl hl.1 rfl (Nat.le_of_ble_eq_true rfl) dL_law_216 (fun H locs hW => ?_)
            refine lv_icmp_eq (tgt := 1497) C.1.1 C.1.2.1 dL_law_219 (by decide) (fun hc22 => ?_) (fun hc22 => ?_)
            · replace h := ite_t hc22 h
              obtain ⟨x23, ex23⟩ : ∃ y : Int32, y = z3 + (7 : Int32) := ⟨_, rfl⟩
              replace h := nm_at ex23 h
              refine lv_iinc (v := x23) (lv' := [(3, .int x23), (0, .ref b), (1, .ref (g.1 + 0)), (2, .ref (g.1 + 244))]) C.1.1 C.1.2.1 dL_law_1497 hl (k := 3) rfl (by rw [ex23]; rfl) (by decide) rfl (fun ls hl => ?_)
              clear ex23
              refine lv_goto (tgt := 18) C.1.1 C.1.2.1 dL_law_1500 (by decide) ?_
              obtain rfl := Option.some.inj h
              exact ih _ _ _ _ _ h9 _ _ _ hW (lv_sub hl [1, 2, 3, 0] rfl) hx0
            · replace h := ite_f hc22 h
              cases h
          · replace h := ite_f hc15 h
            by_cases hc24 : x3 = (2 : Int32)
            · replace h := ite_t hc24 h
              rw [hc24]
              refine lv_tableIn (tgt := 224) C.1.1 C.1.2.1 dL_law_33 (by decide) (by decide) rfl (by decide) ?_
              refine lv_aload_n C.1.1 C.1.2.1 dL_law_224 rfl (lv_at hl 1 rfl) ?_
              refine lv_aload_n C.1.1 C.1.2.1 dL_law_225 rfl (lv_at hl 0 rfl) ?_
              refine lv_iload_n C.1.1 C.1.2.1 dL_law_226 rfl (lv_at hl 3 rfl) ?_
              refine lv_iconst (v := 1) C.1.1 C.1.2.1 dL_law_227 (by decide) ?_
              refine lv_iadd C.1.1 C.1.2.1 dL_law_228 ?_
              obtain ⟨hi25, h⟩ := gi_some h
              refine va_sld C.1.1 C.1.2.1 hX hbl hbA hW.2 hi25 dL_law_229 ?_
              refine lv_aload_n C.1.1 C.1.2.1 dL_law_230 rfl (lv_at hl 0 rfl) ?_
              refine lv_iload_n C.1.1 C.1.2.1 dL_law_231 rfl (lv_at hl 3 rfl) ?_
              refine lv_iconst (v := 2) C.1.1 C.1.2.1 dL_law_232 (by decide) ?_
              refine lv_iadd C.1.1 C.1.2.1 dL_law_233 ?_
              obtain ⟨hi26, h⟩ := gi_some h
              refine va_sld C.1.1 C.1.2.1 hX hbl hbA hW.2 hi26 dL_law_234 ?_
              obtain ⟨r27, hc28, h⟩ := bd1_some h
              refine w_callVi (k := 2) (As := [.int (xs (z3 + (1 : Int32)).toNatClampNeg), .int (xs (z3 + (2 : Int32)).toNatClampNeg)]) (rest := []) C hW (c_X10_sitter g l  hc28) (by decide) rfl (EX_10 (by decide)) K_L_23 (by decide +kernel) ⟨by decide, by decide⟩ ⟨Nat.le_refl _, Nat.le_refl _⟩ rfl hl.1 rfl (Nat.le_of_ble_eq_true rfl) dL_law_235 (fun H locs hW => ?_)
              refine lv_aload_n C.1.1 C.1.2.1 dL_law_238 rfl (lv_at hl 2 rfl) ?_
              refine lv_aload_n C.1.1 C.1.2.1 dL_law_239 rfl (lv_at hl 0 rfl) ?_
              refine lv_iload_n C.1.1 C.1.2.1 dL_law_240 rfl (lv_at hl 3 rfl) ?_
              refine lv_iconst (v := 1) C.1.1 C.1.2.1 dL_law_241 (by decide) ?_
              refine lv_iadd C.1.1 C.1.2.1 dL_law_242 ?_
              obtain ⟨hi29, h⟩ := gi_some h
              refine va_sld C.1.1 C.1.2.1 hX hbl hbA hW.2 hi29 dL_law_243 ?_
              refine lv_aload_n C.1.1 C.1.2.1 dL_law_244 rfl (lv_at hl 0 rfl) ?_
              refine lv_iload_n C.1.1 C.1.2.1 dL_law_245 rfl (lv_at hl 3 rfl) ?_
              refine lv_iconst (v := 2) C.1.1 C.1.2.1 dL_law_246 (by decide) ?_
              refine lv_iadd C.1.1 C.1.2.1 dL_law_247 ?_
              obtain ⟨hi30, h⟩ := gi_some h
              refine va_sld C.1.1 C.1.2.1 hX hbl hbA hW.2 hi30 dL_law_248 ?_
              obtain ⟨r31, hc32, h⟩ := bd1_some h
              refine w_callVi (k := 2) (As := [.int (xs (z3 + (1 : Int32)).toNatClampNeg), .int (xs (z3 + (2 : Int32)).toNatClampNeg)]) (rest := [.int r27]) C hW (c_X11_sitter g l  hc32) (by decide) rfl (EX_11 (by decide)) K_L_27 (by decide +kernel) ⟨by decide, by decide⟩ ⟨Nat.le_refl _, Nat.le_refl _⟩ rfl hl.1 rfl (Nat.le_of_ble_eq_true rfl) dL_law_249 (fun H locs hW => ?_)
              refine lv_icmp_eq (tgt := 1497) C.1.1 C.1.2.1 dL_law_252 (by decide) (fun hc33 => ?_) (fun hc33 => ?_)
              · replace h := ite_t hc33 h
                obtain ⟨x34, ex34⟩ : ∃ y : Int32, y = z3 + (7 : Int32) := ⟨_, rfl⟩
                replace h := nm_at ex34 h
                refine lv_iinc (v := x34) (lv' := [(3, .int x34), (0, .ref b), (1, .ref (g.1 + 0)), (2, .ref (g.1 + 244))]) C.1.1 C.1.2.1 dL_law_1497 hl (k := 3) rfl (by rw [ex34]; rfl) (by decide) rfl (fun ls hl => ?_)
                clear ex34
                refine lv_goto (tgt := 18) C.1.1 C.1.2.1 dL_law_1500 (by decide) ?_
                obtain rfl := Option.some.inj h
                exact ih _ _ _ _ _ h9 _ _ _ hW (lv_sub hl [1, 2, 3, 0] rfl) hx0
              · replace h := ite_f hc33 h
                cases h
            · replace h := ite_f hc24 h
              by_cases hc35 : x3 = (3 : Int32)
              · replace h := ite_t hc35 h
                rw [hc35]
                refine lv_tableIn (tgt := 257) C.1.1 C.1.2.1 dL_law_33 (by decide) (by decide) rfl (by decide) ?_
                refine lv_aload_n C.1.1 C.1.2.1 dL_law_257 rfl (lv_at hl 1 rfl) ?_
                refine lv_aload_n C.1.1 C.1.2.1 dL_law_258 rfl (lv_at hl 0 rfl) ?_
                refine lv_iload_n C.1.1 C.1.2.1 dL_law_259 rfl (lv_at hl 3 rfl) ?_
                refine lv_iconst (v := 1) C.1.1 C.1.2.1 dL_law_260 (by decide) ?_
                refine lv_iadd C.1.1 C.1.2.1 dL_law_261 ?_
                obtain ⟨hi36, h⟩ := gi_some h
                refine va_sld C.1.1 C.1.2.1 hX hbl hbA hW.2 hi36 dL_law_262 ?_
                refine lv_aload_n C.1.1 C.1.2.1 dL_law_263 rfl (lv_at hl 0 rfl) ?_
                refine lv_iload_n C.1.1 C.1.2.1 dL_law_264 rfl (lv_at hl 3 rfl) ?_
                refine lv_iconst (v := 2) C.1.1 C.1.2.1 dL_law_265 (by decide) ?_
                refine lv_iadd C.1.1 C.1.2.1 dL_law_266 ?_
                obtain ⟨hi37, h⟩ := gi_some h
                refine va_sld C.1.1 C.1.2.1 hX hbl hbA hW.2 hi37 dL_law_267 ?_
                obtain ⟨r38, hc39, h⟩ := bd1_some h
                refine w_callVi (k := 2) (As := [.int (xs (z3 + (1 : Int32)).toNatClampNeg), .int (xs (z3 + (2 : Int32)).toNatClampNeg)]) (rest := []) C hW (c_X10_growth g l  hc39) (by decide) rfl (EX_10 (by decide)) K_L_28 (by decide +kernel) ⟨by decide, by decide⟩ ⟨Nat.le_refl _, Nat.le_refl _⟩ rfl hl.1 rfl (Nat.le_of_ble_eq_true rfl) dL_law_268 (fun H locs hW => ?_)
                refine lv_aload_n C.1.1 C.1.2.1 dL_law_271 rfl (lv_at hl 2 rfl) ?_
                refine lv_aload_n C.1.1 C.1.2.1 dL_law_272 rfl (lv_at hl 0 rfl) ?_
                refine lv_iload_n C.1.1 C.1.2.1 dL_law_273 rfl (lv_at hl 3 rfl) ?_
                refine lv_iconst (v := 1) C.1.1 C.1.2.1 dL_law_274 (by decide) ?_
                refine lv_iadd C.1.1 C.1.2.1 dL_law_275 ?_
                obtain ⟨hi40, h⟩ := gi_some h
                refine va_sld C.1.1 C.1.2.1 hX hbl hbA hW.2 hi40 dL_law_276 ?_
                refine lv_aload_n C.1.1 C.1.2.1 dL_law_277 rfl (lv_at hl 0 rfl) ?_
                refine lv_iload_n C.1.1 C.1.2.1 dL_law_278 rfl (lv_at hl 3 rfl) ?_
                refine lv_iconst (v := 2) C.1.1 C.1.2.1 dL_law_279 (by decide) ?_
                refine lv_iadd C.1.1 C.1.2.1 dL_law_280 ?_
                obtain ⟨hi41, h⟩ := gi_some h
                refine va_sld C.1.1 C.1.2.1 hX hbl hbA hW.2 hi41 dL_law_281 ?_
                obtain ⟨r42, hc43, h⟩ := bd1_some h
                refine w_callVi (k := 2) (As := [.int (xs (z3 + (1 : Int32)).toNatClampNeg), .int (xs (z3 + (2 : Int32)).toNatClampNeg)]) (rest := [.int r38]) C hW (c_X11_growth g l  hc43) (by decide) rfl (EX_11 (by decide)) K_L_31 (by decide +kernel) ⟨by decide, by decide⟩ ⟨Nat.le_refl _, Nat.le_refl _⟩ rfl hl.1 rfl (Nat.le_of_ble_eq_true rfl) dL_law_282 (fun H locs hW => ?_)
                refine lv_icmp_eq (tgt := 1497) C.1.1 C.1.2.1 dL_law_285 (by decide) (fun hc44 => ?_) (fun hc44 => ?_)
                · replace h := ite_t hc44 h
                  obtain ⟨x45, ex45⟩ : ∃ y : Int32, y = z3 + (7 : Int32) := ⟨_, rfl⟩
                  replace h := nm_at ex45 h
                  refine lv_iinc (v := x45) (lv' := [(3, .int x45), (0, .ref b), (1, .ref (g.1 + 0)), (2, .ref (g.1 + 244))]) C.1.1 C.1.2.1 dL_law_1497 hl (k := 3) rfl (by rw [ex45]; rfl) (by decide) rfl (fun ls hl => ?_)
                  clear ex45
                  refine lv_goto (tgt := 18) C.1.1 C.1.2.1 dL_law_1500 (by decide) ?_
                  obtain rfl := Option.some.inj h
                  exact ih _ _ _ _ _ h9 _ _ _ hW (lv_sub hl [1, 2, 3, 0] rfl) hx0
                · replace h := ite_f hc44 h
                  cases h
              · replace h := ite_f hc35 h
                by_cases hc46 : x3 = (4 : Int32)
                · replace h := ite_t hc46 h
                  rw [hc46]
                  refine lv_tableIn (tgt := 290) C.1.1 C.1.2.1 dL_law_33 (by decide) (by decide) rfl (by decide) ?_
                  refine lv_aload_n C.1.1 C.1.2.1 dL_law_290 rfl (lv_at hl 1 rfl) ?_
                  refine lv_aload_n C.1.1 C.1.2.1 dL_law_291 rfl (lv_at hl 0 rfl) ?_
                  refine lv_iload_n C.1.1 C.1.2.1 dL_law_292 rfl (lv_at hl 3 rfl) ?_
                  refine lv_iconst (v := 1) C.1.1 C.1.2.1 dL_law_293 (by decide) ?_
                  refine lv_iadd C.1.1 C.1.2.1 dL_law_294 ?_
                  obtain ⟨hi47, h⟩ := gi_some h
                  refine va_sld C.1.1 C.1.2.1 hX hbl hbA hW.2 hi47 dL_law_295 ?_
                  refine lv_aload_n C.1.1 C.1.2.1 dL_law_296 rfl (lv_at hl 0 rfl) ?_
                  refine lv_iload_n C.1.1 C.1.2.1 dL_law_297 rfl (lv_at hl 3 rfl) ?_
                  refine lv_iconst (v := 2) C.1.1 C.1.2.1 dL_law_298 (by decide) ?_
                  refine lv_iadd C.1.1 C.1.2.1 dL_law_299 ?_
                  obtain ⟨hi48, h⟩ := gi_some h
                  refine va_sld C.1.1 C.1.2.1 hX hbl hbA hW.2 hi48 dL_law_300 ?_
                  obtain ⟨r49, hc50, h⟩ := bd1_some h
                  refine w_callVi (k := 2) (As := [.int (xs (z3 + (1 : Int32)).toNatClampNeg), .int (xs (z3 + (2 : Int32)).toNatClampNeg)]) (rest := []) C hW (c_X10_as g l  hc50) (by decide) rfl (EX_10 (by decide)) K_L_32 (by decide +kernel) ⟨by decide, by decide⟩ ⟨Nat.le_refl _, Nat.le_refl _⟩ rfl hl.1 rfl (Nat.le_of_ble_eq_true rfl) dL_law_301 (fun H locs hW => ?_)
                  refine lv_aload_n C.1.1 C.1.2.1 dL_law_304 rfl (lv_at hl 2 rfl) ?_
                  refine lv_aload_n C.1.1 C.1.2.1 dL_law_305 rfl (lv_at hl 0 rfl) ?_
                  refine lv_iload_n C.1.1 C.1.2.1 dL_law_306 rfl (lv_at hl 3 rfl) ?_
                  refine lv_iconst (v := 1) C.1.1 C.1.2.1 dL_law_307 (by decide) ?_
                  refine lv_iadd C.1.1 C.1.2.1 dL_law_308 ?_
                  obtain ⟨hi51, h⟩ := gi_some h
                  refine va_sld C.1.1 C.1.2.1 hX hbl hbA hW.2 hi51 dL_law_309 ?_
                  refine lv_aload_n C.1.1 C.1.2.1 dL_law_310 rfl (lv_at hl 0 rfl) ?_
                  refine lv_iload_n C.1.1 C.1.2.1 dL_law_311 rfl (lv_at hl 3 rfl) ?_
                  refine lv_iconst (v := 2) C.1.1 C.1.2.1 dL_law_312 (by decide) ?_
                  refine lv_iadd C.1.1 C.1.2.1 dL_law_313 ?_
                  obtain ⟨hi52, h⟩ := gi_some h
                  refine va_sld C.1.1 C.1.2.1 hX hbl hbA hW.2 hi52 dL_law_314 ?_
                  obtain ⟨r53, hc54, h⟩ := bd1_some h
                  refine w_callVi (k := 2) (As := [.int (xs (z3 + (1 : Int32)).toNatClampNeg), .int (xs (z3 + (2 : Int32)).toNatClampNeg)]) (rest := [.int r49]) C hW (c_X11_as g l  hc54) (by decide) rfl (EX_11 (by decide)) K_L_35 (by decide +kernel) ⟨by decide, by decide⟩ ⟨Nat.le_refl _, Nat.le_refl _⟩ rfl hl.1 rfl (Nat.le_of_ble_eq_true rfl) dL_law_315 (fun H locs hW => ?_)
                  refine lv_icmp_eq (tgt := 1497) C.1.1 C.1.2.1 dL_law_318 (by decide) (fun hc55 => ?_) (fun hc55 => ?_)
                  · replace h := ite_t hc55 h
                    obtain ⟨x56, ex56⟩ : ∃ y : Int32, y = z3 + (7 : Int32) := ⟨_, rfl⟩
                    replace h := nm_at ex56 h
                    refine lv_iinc (v := x56) (lv' := [(3, .int x56), (0, .ref b), (1, .ref (g.1 + 0)), (2, .ref (g.1 + 244))]) C.1.1 C.1.2.1 dL_law_1497 hl (k := 3) rfl (by rw [ex56]; rfl) (by decide) rfl (fun ls hl => ?_)
                    clear ex56
                    refine lv_goto (tgt := 18) C.1.1 C.1.2.1 dL_law_1500 (by decide) ?_
                    obtain rfl := Option.some.inj h
                    exact ih _ _ _ _ _ h9 _ _ _ hW (lv_sub hl [1, 2, 3, 0] rfl) hx0
                  · replace h := ite_f hc55 h
                    cases h
                · replace h := ite_f hc46 h
                  by_cases hc57 : x3 = (5 : Int32)
                  · replace h := ite_t hc57 h
                    rw [hc57]
                    refine lv_tableIn (tgt := 323) C.1.1 C.1.2.1 dL_law_33 (by decide) (by decide) rfl (by decide) ?_
                    refine lv_aload_n C.1.1 C.1.2.1 dL_law_323 rfl (lv_at hl 1 rfl) ?_
                    refine lv_aload_n C.1.1 C.1.2.1 dL_law_324 rfl (lv_at hl 0 rfl) ?_
                    refine lv_iload_n C.1.1 C.1.2.1 dL_law_325 rfl (lv_at hl 3 rfl) ?_
                    refine lv_iconst (v := 1) C.1.1 C.1.2.1 dL_law_326 (by decide) ?_
                    refine lv_iadd C.1.1 C.1.2.1 dL_law_327 ?_
                    obtain ⟨hi58, h⟩ := gi_some h
                    refine va_sld C.1.1 C.1.2.1 hX hbl hbA hW.2 hi58 dL_law_328 ?_
                    obtain ⟨r59, I60, hc61, h⟩ := bd2_some h
                    refine w_callVi (k := 1) (As := [.int (xs (z3 + (1 : Int32)).toNatClampNeg)]) (rest := []) C hW (c_X10_hours g l  hc61) (by decide) rfl (EX_10 (by decide)) K_L_36 (by decide +kernel) ⟨by decide, by decide⟩ ⟨Nat.le_refl _, Nat.le_refl _⟩ rfl hl.1 rfl (Nat.le_of_ble_eq_true rfl) dL_law_329 (fun H locs hW => ?_)
                    refine lv_aload_n C.1.1 C.1.2.1 dL_law_332 rfl (lv_at hl 2 rfl) ?_
                    refine lv_aload_n C.1.1 C.1.2.1 dL_law_333 rfl (lv_at hl 0 rfl) ?_
                    refine lv_iload_n C.1.1 C.1.2.1 dL_law_334 rfl (lv_at hl 3 rfl) ?_
                    refine lv_iconst (v := 1) C.1.1 C.1.2.1 dL_law_335 (by decide) ?_
                    refine lv_iadd C.1.1 C.1.2.1 dL_law_336 ?_
                    obtain ⟨hi62, h⟩ := gi_some h
                    refine va_sld C.1.1 C.1.2.1 hX hbl hbA hW.2 hi62 dL_law_337 ?_
                    obtain ⟨r63, I64, hc65, h⟩ := bd2_some h
                    refine w_callVi (k := 1) (As := [.int (xs (z3 + (1 : Int32)).toNatClampNeg)]) (rest := [.int r59]) C hW (c_X11_hours g l  hc65) (by decide) rfl (EX_11 (by decide)) K_L_39 (by decide +kernel) ⟨by decide, by decide⟩ ⟨Nat.le_refl _, Nat.le_refl _⟩ rfl hl.1 rfl (Nat.le_of_ble_eq_true rfl) dL_law_338 (fun H locs hW => ?_)
                    refine lv_icmp_eq (tgt := 1497) C.1.1 C.1.2.1 dL_law_341 (by decide) (fun hc66 => ?_) (fun hc66 => ?_)
                    · replace h := ite_t hc66 h
                      obtain ⟨x67, ex67⟩ : ∃ y : Int32, y = z3 + (7 : Int32) := ⟨_, rfl⟩
                      replace h := nm_at ex67 h
                      refine lv_iinc (v := x67) (lv' := [(3, .int x67), (0, .ref b), (1, .ref (g.1 + 0)), (2, .ref (g.1 + 244))]) C.1.1 C.1.2.1 dL_law_1497 hl (k := 3) rfl (by rw [ex67]; rfl) (by decide) rfl (fun ls hl => ?_)
                      clear ex67
                      refine lv_goto (tgt := 18) C.1.1 C.1.2.1 dL_law_1500 (by decide) ?_
                      obtain rfl := Option.some.inj h
                      exact ih _ _ _ _ _ h9 _ _ _ hW (lv_sub hl [1, 2, 3, 0] rfl) hx0
                    · replace h := ite_f hc66 h
                      cases h
                  · replace h := ite_f hc57 h
                    by_cases hc68 : x3 = (6 : Int32)
                    · replace h := ite_t hc68 h
                      rw [hc68]
                      refine lv_tableIn (tgt := 346) C.1.1 C.1.2.1 dL_law_33 (by decide) (by decide) rfl (by decide) ?_
                      refine lv_aload_n C.1.1 C.1.2.1 dL_law_346 rfl (lv_at hl 1 rfl) ?_
                      refine lv_aload_n C.1.1 C.1.2.1 dL_law_347 rfl (lv_at hl 0 rfl) ?_
                      refine lv_iload_n C.1.1 C.1.2.1 dL_law_348 rfl (lv_at hl 3 rfl) ?_
                      refine lv_iconst (v := 1) C.1.1 C.1.2.1 dL_law_349 (by decide) ?_
                      refine lv_iadd C.1.1 C.1.2.1 dL_law_350 ?_
                      obtain ⟨hi69, h⟩ := gi_some h
                      refine va_sld C.1.1 C.1.2.1 hX hbl hbA hW.2 hi69 dL_law_351 ?_
                      obtain ⟨r70, I71, hc72, h⟩ := bd2_some h
                      refine w_callVi (k := 1) (As := [.int (xs (z3 + (1 : Int32)).toNatClampNeg)]) (rest := []) C hW (c_X10_crust g l  hc72) (by decide) rfl (EX_10 (by decide)) K_L_40 (by decide +kernel) ⟨by decide, by decide⟩ ⟨Nat.le_refl _, Nat.le_refl _⟩ rfl hl.1 rfl (Nat.le_of_ble_eq_true rfl) dL_law_352 (fun H locs hW => ?_)
                      refine lv_aload_n C.1.1 C.1.2.1 dL_law_355 rfl (lv_at hl 2 rfl) ?_
                      refine lv_aload_n C.1.1 C.1.2.1 dL_law_356 rfl (lv_at hl 0 rfl) ?_
                      refine lv_iload_n C.1.1 C.1.2.1 dL_law_357 rfl (lv_at hl 3 rfl) ?_
                      refine lv_iconst (v := 1) C.1.1 C.1.2.1 dL_law_358 (by decide) ?_
                      refine lv_iadd C.1.1 C.1.2.1 dL_law_359 ?_
                      obtain ⟨hi73, h⟩ := gi_some h
                      refine va_sld C.1.1 C.1.2.1 hX hbl hbA hW.2 hi73 dL_law_360 ?_
                      obtain ⟨r74, I75, hc76, h⟩ := bd2_some h
                      refine w_callVi (k := 1) (As := [.int (xs (z3 + (1 : Int32)).toNatClampNeg)]) (rest := [.int r70]) C hW (c_X11_crust g l  hc76) (by decide) rfl (EX_11 (by decide)) K_L_43 (by decide +kernel) ⟨by decide, by decide⟩ ⟨Nat.le_refl _, Nat.le_refl _⟩ rfl hl.1 rfl (Nat.le_of_ble_eq_true rfl) dL_law_361 (fun H locs hW => ?_)
                      refine lv_icmp_eq (tgt := 1497) C.1.1 C.1.2.1 dL_law_364 (by decide) (fun hc77 => ?_) (fun hc77 => ?_)
                      · replace h := ite_t hc77 h
                        obtain ⟨x78, ex78⟩ : ∃ y : Int32, y = z3 + (7 : Int32) := ⟨_, rfl⟩
                        replace h := nm_at ex78 h
                        refine lv_iinc (v := x78) (lv' := [(3, .int x78), (0, .ref b), (1, .ref (g.1 + 0)), (2, .ref (g.1 + 244))]) C.1.1 C.1.2.1 dL_law_1497 hl (k := 3) rfl (by rw [ex78]; rfl) (by decide) rfl (fun ls hl => ?_)
                        clear ex78
                        refine lv_goto (tgt := 18) C.1.1 C.1.2.1 dL_law_1500 (by decide) ?_
                        obtain rfl := Option.some.inj h
                        exact ih _ _ _ _ _ h9 _ _ _ hW (lv_sub hl [1, 2, 3, 0] rfl) hx0
                      · replace h := ite_f hc77 h
                        cases h
                    · replace h := ite_f hc68 h
                      by_cases hc79 : x3 = (7 : Int32)
                      · replace h := ite_t hc79 h
                        rw [hc79]
                        refine lv_tableIn (tgt := 369) C.1.1 C.1.2.1 dL_law_33 (by decide) (by decide) rfl (by decide) ?_
                        refine lv_aload_n C.1.1 C.1.2.1 dL_law_369 rfl (lv_at hl 1 rfl) ?_
                        refine lv_aload_n C.1.1 C.1.2.1 dL_law_370 rfl (lv_at hl 0 rfl) ?_
                        refine lv_iload_n C.1.1 C.1.2.1 dL_law_371 rfl (lv_at hl 3 rfl) ?_
                        refine lv_iconst (v := 1) C.1.1 C.1.2.1 dL_law_372 (by decide) ?_
                        refine lv_iadd C.1.1 C.1.2.1 dL_law_373 ?_
                        obtain ⟨hi80, h⟩ := gi_some h
                        refine va_sld C.1.1 C.1.2.1 hX hbl hbA hW.2 hi80 dL_law_374 ?_
                        refine lv_aload_n C.1.1 C.1.2.1 dL_law_375 rfl (lv_at hl 0 rfl) ?_
                        refine lv_iload_n C.1.1 C.1.2.1 dL_law_376 rfl (lv_at hl 3 rfl) ?_
                        refine lv_iconst (v := 2) C.1.1 C.1.2.1 dL_law_377 (by decide) ?_
                        refine lv_iadd C.1.1 C.1.2.1 dL_law_378 ?_
                        obtain ⟨hi81, h⟩ := gi_some h
                        refine va_sld C.1.1 C.1.2.1 hX hbl hbA hW.2 hi81 dL_law_379 ?_
                        obtain ⟨r82, I83, hc84, h⟩ := bd2_some h
                        refine w_callVi (k := 2) (As := [.int (xs (z3 + (1 : Int32)).toNatClampNeg), .int (xs (z3 + (2 : Int32)).toNatClampNeg)]) (rest := []) C hW (c_X10_news g l  hc84) (by decide) rfl (EX_10 (by decide)) K_L_44 (by decide +kernel) ⟨by decide, by decide⟩ ⟨Nat.le_refl _, Nat.le_refl _⟩ rfl hl.1 rfl (Nat.le_of_ble_eq_true rfl) dL_law_380 (fun H locs hW => ?_)
                        refine lv_aload_n C.1.1 C.1.2.1 dL_law_383 rfl (lv_at hl 2 rfl) ?_
                        refine lv_aload_n C.1.1 C.1.2.1 dL_law_384 rfl (lv_at hl 0 rfl) ?_
                        refine lv_iload_n C.1.1 C.1.2.1 dL_law_385 rfl (lv_at hl 3 rfl) ?_
                        refine lv_iconst (v := 1) C.1.1 C.1.2.1 dL_law_386 (by decide) ?_
                        refine lv_iadd C.1.1 C.1.2.1 dL_law_387 ?_
                        obtain ⟨hi85, h⟩ := gi_some h
                        refine va_sld C.1.1 C.1.2.1 hX hbl hbA hW.2 hi85 dL_law_388 ?_
                        refine lv_aload_n C.1.1 C.1.2.1 dL_law_389 rfl (lv_at hl 0 rfl) ?_
                        refine lv_iload_n C.1.1 C.1.2.1 dL_law_390 rfl (lv_at hl 3 rfl) ?_
                        refine lv_iconst (v := 2) C.1.1 C.1.2.1 dL_law_391 (by decide) ?_
                        refine lv_iadd C.1.1 C.1.2.1 dL_law_392 ?_
                        obtain ⟨hi86, h⟩ := gi_some h
                        refine va_sld C.1.1 C.1.2.1 hX hbl hbA hW.2 hi86 dL_law_393 ?_
                        obtain ⟨r87, I88, hc89, h⟩ := bd2_some h
                        refine w_callVi (k := 2) (As := [.int (xs (z3 + (1 : Int32)).toNatClampNeg), .int (xs (z3 + (2 : Int32)).toNatClampNeg)]) (rest := [.int r82]) C hW (c_X11_news g l  hc89) (by decide) rfl (EX_11 (by decide)) K_L_47 (by decide +kernel) ⟨by decide, by decide⟩ ⟨Nat.le_refl _, Nat.le_refl _⟩ rfl hl.1 rfl (Nat.le_of_ble_eq_true rfl) dL_law_394 (fun H locs hW => ?_)
                        refine lv_icmp_eq (tgt := 1497) C.1.1 C.1.2.1 dL_law_397 (by decide) (fun hc90 => ?_) (fun hc90 => ?_)
                        · replace h := ite_t hc90 h
                          obtain ⟨x91, ex91⟩ : ∃ y : Int32, y = z3 + (7 : Int32) := ⟨_, rfl⟩
                          replace h := nm_at ex91 h
                          refine lv_iinc (v := x91) (lv' := [(3, .int x91), (0, .ref b), (1, .ref (g.1 + 0)), (2, .ref (g.1 + 244))]) C.1.1 C.1.2.1 dL_law_1497 hl (k := 3) rfl (by rw [ex91]; rfl) (by decide) rfl (fun ls hl => ?_)
                          clear ex91
                          refine lv_goto (tgt := 18) C.1.1 C.1.2.1 dL_law_1500 (by decide) ?_
                          obtain rfl := Option.some.inj h
                          exact ih _ _ _ _ _ h9 _ _ _ hW (lv_sub hl [1, 2, 3, 0] rfl) hx0
                        · replace h := ite_f hc90 h
                          cases h
                      · replace h := ite_f hc79 h
                        by_cases hc92 : x3 = (8 : Int32)
                        · replace h := ite_t hc92 h
                          rw [hc92]
                          refine lv_tableIn (tgt := 402) C.1.1 C.1.2.1 dL_law_33 (by decide) (by decide) rfl (by decide) ?_
                          refine lv_aload_n C.1.1 C.1.2.1 dL_law_402 rfl (lv_at hl 1 rfl) ?_
                          refine lv_aload_n C.1.1 C.1.2.1 dL_law_403 rfl (lv_at hl 0 rfl) ?_
                          refine lv_iload_n C.1.1 C.1.2.1 dL_law_404 rfl (lv_at hl 3 rfl) ?_
                          refine lv_iconst (v := 1) C.1.1 C.1.2.1 dL_law_405 (by decide) ?_
                          refine lv_iadd C.1.1 C.1.2.1 dL_law_406 ?_
                          obtain ⟨hi93, h⟩ := gi_some h
                          refine va_sld C.1.1 C.1.2.1 hX hbl hbA hW.2 hi93 dL_law_407 ?_
                          obtain ⟨r94, I95, hc96, h⟩ := bd2_some h
                          refine w_callVi (k := 1) (As := [.int (xs (z3 + (1 : Int32)).toNatClampNeg)]) (rest := []) C hW (c_X10_praise g l  hc96) (by decide) rfl (EX_10 (by decide)) K_L_48 (by decide +kernel) ⟨by decide, by decide⟩ ⟨Nat.le_refl _, Nat.le_refl _⟩ rfl hl.1 rfl (Nat.le_of_ble_eq_true rfl) dL_law_408 (fun H locs hW => ?_)
                          refine lv_aload_n C.1.1 C.1.2.1 dL_law_411 rfl (lv_at hl 2 rfl) ?_
                          refine lv_aload_n C.1.1 C.1.2.1 dL_law_412 rfl (lv_at hl 0 rfl) ?_
                          refine lv_iload_n C.1.1 C.1.2.1 dL_law_413 rfl (lv_at hl 3 rfl) ?_
                          refine lv_iconst (v := 1) C.1.1 C.1.2.1 dL_law_414 (by decide) ?_
                          refine lv_iadd C.1.1 C.1.2.1 dL_law_415 ?_
                          obtain ⟨hi97, h⟩ := gi_some h
                          refine va_sld C.1.1 C.1.2.1 hX hbl hbA hW.2 hi97 dL_law_416 ?_
                          obtain ⟨r98, I99, hc100, h⟩ := bd2_some h
                          refine w_callVi (k := 1) (As := [.int (xs (z3 + (1 : Int32)).toNatClampNeg)]) (rest := [.int r94]) C hW (c_X11_praise g l  hc100) (by decide) rfl (EX_11 (by decide)) K_L_51 (by decide +kernel) ⟨by decide, by decide⟩ ⟨Nat.le_refl _, Nat.le_refl _⟩ rfl hl.1 rfl (Nat.le_of_ble_eq_true rfl) dL_law_417 (fun H locs hW => ?_)
                          refine lv_icmp_eq (tgt := 1497) C.1.1 C.1.2.1 dL_law_420 (by decide) (fun hc101 => ?_) (fun hc101 => ?_)
                          · replace h := ite_t hc101 h
                            obtain ⟨x102, ex102⟩ : ∃ y : Int32, y = z3 + (7 : Int32) := ⟨_, rfl⟩
                            replace h := nm_at ex102 h
                            refine lv_iinc (v := x102) (lv' := [(3, .int x102), (0, .ref b), (1, .ref (g.1 + 0)), (2, .ref (g.1 + 244))]) C.1.1 C.1.2.1 dL_law_1497 hl (k := 3) rfl (by rw [ex102]; rfl) (by decide) rfl (fun ls hl => ?_)
                            clear ex102
                            refine lv_goto (tgt := 18) C.1.1 C.1.2.1 dL_law_1500 (by decide) ?_
                            obtain rfl := Option.some.inj h
                            exact ih _ _ _ _ _ h9 _ _ _ hW (lv_sub hl [1, 2, 3, 0] rfl) hx0
                          · replace h := ite_f hc101 h
                            cases h
                        · replace h := ite_f hc92 h
                          by_cases hc103 : x3 = (9 : Int32)
                          · replace h := ite_t hc103 h
                            rw [hc103]
                            refine lv_tableIn (tgt := 425) C.1.1 C.1.2.1 dL_law_33 (by decide) (by decide) rfl (by decide) ?_
                            refine lv_aload_n C.1.1 C.1.2.1 dL_law_425 rfl (lv_at hl 1 rfl) ?_
                            refine lv_aload_n C.1.1 C.1.2.1 dL_law_426 rfl (lv_at hl 0 rfl) ?_
                            refine lv_iload_n C.1.1 C.1.2.1 dL_law_427 rfl (lv_at hl 3 rfl) ?_
                            refine lv_iconst (v := 1) C.1.1 C.1.2.1 dL_law_428 (by decide) ?_
                            refine lv_iadd C.1.1 C.1.2.1 dL_law_429 ?_
                            obtain ⟨hi104, h⟩ := gi_some h
                            refine va_sld C.1.1 C.1.2.1 hX hbl hbA hW.2 hi104 dL_law_430 ?_
                            refine lv_aload_n C.1.1 C.1.2.1 dL_law_431 rfl (lv_at hl 0 rfl) ?_
                            refine lv_iload_n C.1.1 C.1.2.1 dL_law_432 rfl (lv_at hl 3 rfl) ?_
                            refine lv_iconst (v := 2) C.1.1 C.1.2.1 dL_law_433 (by decide) ?_
                            refine lv_iadd C.1.1 C.1.2.1 dL_law_434 ?_
                            obtain ⟨hi105, h⟩ := gi_some h
                            refine va_sld C.1.1 C.1.2.1 hX hbl hbA hW.2 hi105 dL_law_435 ?_
                            obtain ⟨r106, I107, hc108, h⟩ := bd2_some h
                            refine w_callVi (k := 2) (As := [.int (xs (z3 + (1 : Int32)).toNatClampNeg), .int (xs (z3 + (2 : Int32)).toNatClampNeg)]) (rest := []) C hW (c_X10_cloak g l  hc108) (by decide) rfl (EX_10 (by decide)) K_L_52 (by decide +kernel) ⟨by decide, by decide⟩ ⟨Nat.le_refl _, Nat.le_refl _⟩ rfl hl.1 rfl (Nat.le_of_ble_eq_true rfl) dL_law_436 (fun H locs hW => ?_)
                            refine lv_aload_n C.1.1 C.1.2.1 dL_law_439 rfl (lv_at hl 2 rfl) ?_
                            refine lv_aload_n C.1.1 C.1.2.1 dL_law_440 rfl (lv_at hl 0 rfl) ?_
                            refine lv_iload_n C.1.1 C.1.2.1 dL_law_441 rfl (lv_at hl 3 rfl) ?_
                            refine lv_iconst (v := 1) C.1.1 C.1.2.1 dL_law_442 (by decide) ?_
                            refine lv_iadd C.1.1 C.1.2.1 dL_law_443 ?_
                            obtain ⟨hi109, h⟩ := gi_some h
                            refine va_sld C.1.1 C.1.2.1 hX hbl hbA hW.2 hi109 dL_law_444 ?_
                            refine lv_aload_n C.1.1 C.1.2.1 dL_law_445 rfl (lv_at hl 0 rfl) ?_
                            refine lv_iload_n C.1.1 C.1.2.1 dL_law_446 rfl (lv_at hl 3 rfl) ?_
                            refine lv_iconst (v := 2) C.1.1 C.1.2.1 dL_law_447 (by decide) ?_
                            refine lv_iadd C.1.1 C.1.2.1 dL_law_448 ?_
                            obtain ⟨hi110, h⟩ := gi_some h
                            refine va_sld C.1.1 C.1.2.1 hX hbl hbA hW.2 hi110 dL_law_449 ?_
                            obtain ⟨r111, I112, hc113, h⟩ := bd2_some h
                            refine w_callVi (k := 2) (As := [.int (xs (z3 + (1 : Int32)).toNatClampNeg), .int (xs (z3 + (2 : Int32)).toNatClampNeg)]) (rest := [.int r106]) C hW (c_X11_cloak g l  hc113) (by decide) rfl (EX_11 (by decide)) K_L_55 (by decide +kernel) ⟨by decide, by decide⟩ ⟨Nat.le_refl _, Nat.le_refl _⟩ rfl hl.1 rfl (Nat.le_of_ble_eq_true rfl) dL_law_450 (fun H locs hW => ?_)
                            refine lv_icmp_eq (tgt := 1497) C.1.1 C.1.2.1 dL_law_453 (by decide) (fun hc114 => ?_) (fun hc114 => ?_)
                            · replace h := ite_t hc114 h
                              obtain ⟨x115, ex115⟩ : ∃ y : Int32, y = z3 + (7 : Int32) := ⟨_, rfl⟩
                              replace h := nm_at ex115 h
                              refine lv_iinc (v := x115) (lv' := [(3, .int x115), (0, .ref b), (1, .ref (g.1 + 0)), (2, .ref (g.1 + 244))]) C.1.1 C.1.2.1 dL_law_1497 hl (k := 3) rfl (by rw [ex115]; rfl) (by decide) rfl (fun ls hl => ?_)
                              clear ex115
                              refine lv_goto (tgt := 18) C.1.1 C.1.2.1 dL_law_1500 (by decide) ?_
                              obtain rfl := Option.some.inj h
                              exact ih _ _ _ _ _ h9 _ _ _ hW (lv_sub hl [1, 2, 3, 0] rfl) hx0
                            · replace h := ite_f hc114 h
                              cases h
                          · replace h := ite_f hc103 h
                            by_cases hc116 : x3 = (10 : Int32)
                            · replace h := ite_t hc116 h
                              rw [hc116]
                              refine lv_tableIn (tgt := 458) C.1.1 C.1.2.1 dL_law_33 (by decide) (by decide) rfl (by decide) ?_
                              refine lv_aload_n C.1.1 C.1.2.1 dL_law_458 rfl (lv_at hl 1 rfl) ?_
                              refine lv_aload_n C.1.1 C.1.2.1 dL_law_459 rfl (lv_at hl 0 rfl) ?_
                              refine lv_iload_n C.1.1 C.1.2.1 dL_law_460 rfl (lv_at hl 3 rfl) ?_
                              refine lv_iconst (v := 1) C.1.1 C.1.2.1 dL_law_461 (by decide) ?_
                              refine lv_iadd C.1.1 C.1.2.1 dL_law_462 ?_
                              obtain ⟨hi117, h⟩ := gi_some h
                              refine va_sld C.1.1 C.1.2.1 hX hbl hbA hW.2 hi117 dL_law_463 ?_
                              obtain ⟨r118, I119, hc120, h⟩ := bd2_some h
                              refine w_callVi (k := 1) (As := [.int (xs (z3 + (1 : Int32)).toNatClampNeg)]) (rest := []) C hW (c_X10_heir g l  hc120) (by decide) rfl (EX_10 (by decide)) K_L_56 (by decide +kernel) ⟨by decide, by decide⟩ ⟨Nat.le_refl _, Nat.le_refl _⟩ rfl hl.1 rfl (Nat.le_of_ble_eq_true rfl) dL_law_464 (fun H locs hW => ?_)
                              refine lv_aload_n C.1.1 C.1.2.1 dL_law_467 rfl (lv_at hl 2 rfl) ?_
                              refine lv_aload_n C.1.1 C.1.2.1 dL_law_468 rfl (lv_at hl 0 rfl) ?_
                              refine lv_iload_n C.1.1 C.1.2.1 dL_law_469 rfl (lv_at hl 3 rfl) ?_
                              refine lv_iconst (v := 1) C.1.1 C.1.2.1 dL_law_470 (by decide) ?_
                              refine lv_iadd C.1.1 C.1.2.1 dL_law_471 ?_
                              obtain ⟨hi121, h⟩ := gi_some h
                              refine va_sld C.1.1 C.1.2.1 hX hbl hbA hW.2 hi121 dL_law_472 ?_
                              obtain ⟨r122, I123, hc124, h⟩ := bd2_some h
                              refine w_callVi (k := 1) (As := [.int (xs (z3 + (1 : Int32)).toNatClampNeg)]) (rest := [.int r118]) C hW (c_X11_heir g l  hc124) (by decide) rfl (EX_11 (by decide)) K_L_59 (by decide +kernel) ⟨by decide, by decide⟩ ⟨Nat.le_refl _, Nat.le_refl _⟩ rfl hl.1 rfl (Nat.le_of_ble_eq_true rfl) dL_law_473 (fun H locs hW => ?_)
                              refine lv_icmp_eq (tgt := 1497) C.1.1 C.1.2.1 dL_law_476 (by decide) (fun hc125 => ?_) (fun hc125 => ?_)
                              · replace h := ite_t hc125 h
                                obtain ⟨x126, ex126⟩ : ∃ y : Int32, y = z3 + (7 : Int32) := ⟨_, rfl⟩
                                replace h := nm_at ex126 h
                                refine lv_iinc (v := x126) (lv' := [(3, .int x126), (0, .ref b), (1, .ref (g.1 + 0)), (2, .ref (g.1 + 244))]) C.1.1 C.1.2.1 dL_law_1497 hl (k := 3) rfl (by rw [ex126]; rfl) (by decide) rfl (fun ls hl => ?_)
                                clear ex126
                                refine lv_goto (tgt := 18) C.1.1 C.1.2.1 dL_law_1500 (by decide) ?_
                                obtain rfl := Option.some.inj h
                                exact ih _ _ _ _ _ h9 _ _ _ hW (lv_sub hl [1, 2, 3, 0] rfl) hx0
                              · replace h := ite_f hc125 h
                                cases h
                            · replace h := ite_f hc116 h
                              by_cases hc127 : x3 = (11 : Int32)
                              · replace h := ite_t hc127 h
                                rw [hc127]
                                refine lv_tableIn (tgt := 481) C.1.1 C.1.2.1 dL_law_33 (by decide) (by decide) rfl (by decide) ?_
                                refine lv_aload_n C.1.1 C.1.2.1 dL_law_481 rfl (lv_at hl 1 rfl) ?_
                                obtain ⟨r128, I129, hc130, h⟩ := bd2_some h
                                refine w_callVi (k := 0) (As := []) (rest := []) C hW (c_X10_undo g l  hc130) (by decide) rfl (EX_10 (by decide)) K_L_60 (by decide +kernel) ⟨by decide, by decide⟩ ⟨Nat.le_refl _, Nat.le_refl _⟩ rfl hl.1 rfl (Nat.le_of_ble_eq_true rfl) dL_law_482 (fun H locs hW => ?_)
                                refine lv_aload_n C.1.1 C.1.2.1 dL_law_485 rfl (lv_at hl 2 rfl) ?_
                                obtain ⟨r131, I132, hc133, h⟩ := bd2_some h
                                refine w_callVi (k := 0) (As := []) (rest := [.int r128]) C hW (c_X11_undo g l  hc133) (by decide) rfl (EX_11 (by decide)) K_L_63 (by decide +kernel) ⟨by decide, by decide⟩ ⟨Nat.le_refl _, Nat.le_refl _⟩ rfl hl.1 rfl (Nat.le_of_ble_eq_true rfl) dL_law_486 (fun H locs hW => ?_)
                                refine lv_icmp_eq (tgt := 1497) C.1.1 C.1.2.1 dL_law_489 (by decide) (fun hc134 => ?_) (fun hc134 => ?_)
                                · replace h := ite_t hc134 h
                                  obtain ⟨x135, ex135⟩ : ∃ y : Int32, y = z3 + (7 : Int32) := ⟨_, rfl⟩
                                  replace h := nm_at ex135 h
                                  refine lv_iinc (v := x135) (lv' := [(3, .int x135), (0, .ref b), (1, .ref (g.1 + 0)), (2, .ref (g.1 + 244))]) C.1.1 C.1.2.1 dL_law_1497 hl (k := 3) rfl (by rw [ex135]; rfl) (by decide) rfl (fun ls hl => ?_)
                                  clear ex135
                                  refine lv_goto (tgt := 18) C.1.1 C.1.2.1 dL_law_1500 (by decide) ?_
                                  obtain rfl := Option.some.inj h
                                  exact ih _ _ _ _ _ h9 _ _ _ hW (lv_sub hl [1, 2, 3, 0] rfl) hx0
                                · replace h := ite_f hc134 h
                                  cases h
                              · replace h := ite_f hc127 h
                                by_cases hc136 : x3 = (12 : Int32)
                                · replace h := ite_t hc136 h
                                  rw [hc136]
                                  refine lv_tableIn (tgt := 494) C.1.1 C.1.2.1 dL_law_33 (by decide) (by decide) rfl (by decide) ?_
                                  refine lv_aload_n C.1.1 C.1.2.1 dL_law_494 rfl (lv_at hl 1 rfl) ?_
                                  refine lv_aload_n C.1.1 C.1.2.1 dL_law_495 rfl (lv_at hl 0 rfl) ?_
                                  refine lv_iload_n C.1.1 C.1.2.1 dL_law_496 rfl (lv_at hl 3 rfl) ?_
                                  refine lv_iconst (v := 1) C.1.1 C.1.2.1 dL_law_497 (by decide) ?_
                                  refine lv_iadd C.1.1 C.1.2.1 dL_law_498 ?_
                                  obtain ⟨hi137, h⟩ := gi_some h
                                  refine va_sld C.1.1 C.1.2.1 hX hbl hbA hW.2 hi137 dL_law_499 ?_
                                  obtain ⟨r138, I139, hc140, h⟩ := bd2_some h
                                  refine w_callVi (k := 1) (As := [.int (xs (z3 + (1 : Int32)).toNatClampNeg)]) (rest := []) C hW (c_X10_seed g l  hc140) (by decide) rfl (EX_10 (by decide)) K_L_64 (by decide +kernel) ⟨by decide, by decide⟩ ⟨Nat.le_refl _, Nat.le_refl _⟩ rfl hl.1 rfl (Nat.le_of_ble_eq_true rfl) dL_law_500 (fun H locs hW => ?_)
                                  refine lv_aload_n C.1.1 C.1.2.1 dL_law_503 rfl (lv_at hl 2 rfl) ?_
                                  refine lv_aload_n C.1.1 C.1.2.1 dL_law_504 rfl (lv_at hl 0 rfl) ?_
                                  refine lv_iload_n C.1.1 C.1.2.1 dL_law_505 rfl (lv_at hl 3 rfl) ?_
                                  refine lv_iconst (v := 1) C.1.1 C.1.2.1 dL_law_506 (by decide) ?_
                                  refine lv_iadd C.1.1 C.1.2.1 dL_law_507 ?_
                                  obtain ⟨hi141, h⟩ := gi_some h
                                  refine va_sld C.1.1 C.1.2.1 hX hbl hbA hW.2 hi141 dL_law_508 ?_
                                  obtain ⟨r142, I143, hc144, h⟩ := bd2_some h
                                  refine w_callVi (k := 1) (As := [.int (xs (z3 + (1 : Int32)).toNatClampNeg)]) (rest := [.int r138]) C hW (c_X11_seed g l  hc144) (by decide) rfl (EX_11 (by decide)) K_L_67 (by decide +kernel) ⟨by decide, by decide⟩ ⟨Nat.le_refl _, Nat.le_refl _⟩ rfl hl.1 rfl (Nat.le_of_ble_eq_true rfl) dL_law_509 (fun H locs hW => ?_)
                                  refine lv_icmp_eq (tgt := 1497) C.1.1 C.1.2.1 dL_law_512 (by decide) (fun hc145 => ?_) (fun hc145 => ?_)
                                  · replace h := ite_t hc145 h
                                    obtain ⟨x146, ex146⟩ : ∃ y : Int32, y = z3 + (7 : Int32) := ⟨_, rfl⟩
                                    replace h := nm_at ex146 h
                                    refine lv_iinc (v := x146) (lv' := [(3, .int x146), (0, .ref b), (1, .ref (g.1 + 0)), (2, .ref (g.1 + 244))]) C.1.1 C.1.2.1 dL_law_1497 hl (k := 3) rfl (by rw [ex146]; rfl) (by decide) rfl (fun ls hl => ?_)
                                    clear ex146
                                    refine lv_goto (tgt := 18) C.1.1 C.1.2.1 dL_law_1500 (by decide) ?_
                                    obtain rfl := Option.some.inj h
                                    exact ih _ _ _ _ _ h9 _ _ _ hW (lv_sub hl [1, 2, 3, 0] rfl) hx0
                                  · replace h := ite_f hc145 h
                                    cases h
                                · replace h := ite_f hc136 h
                                  by_cases hc147 : x3 = (13 : Int32)
                                  · replace h := ite_t hc147 h
                                    rw [hc147]
                                    refine lv_tableIn (tgt := 517) C.1.1 C.1.2.1 dL_law_33 (by decide) (by decide) rfl (by decide) ?_
                                    refine lv_aload_n C.1.1 C.1.2.1 dL_law_517 rfl (lv_at hl 1 rfl) ?_
                                    refine lv_aload_n C.1.1 C.1.2.1 dL_law_518 rfl (lv_at hl 0 rfl) ?_
                                    refine lv_iload_n C.1.1 C.1.2.1 dL_law_519 rfl (lv_at hl 3 rfl) ?_
                                    refine lv_iconst (v := 1) C.1.1 C.1.2.1 dL_law_520 (by decide) ?_
                                    refine lv_iadd C.1.1 C.1.2.1 dL_law_521 ?_
                                    obtain ⟨hi148, h⟩ := gi_some h
                                    refine va_sld C.1.1 C.1.2.1 hX hbl hbA hW.2 hi148 dL_law_522 ?_
                                    obtain ⟨r149, I150, hc151, h⟩ := bd2_some h
                                    refine w_callVi (k := 1) (As := [.int (xs (z3 + (1 : Int32)).toNatClampNeg)]) (rest := []) C hW (c_X10_image g l  hc151) (by decide) rfl (EX_10 (by decide)) K_L_68 (by decide +kernel) ⟨by decide, by decide⟩ ⟨Nat.le_refl _, Nat.le_refl _⟩ rfl hl.1 rfl (Nat.le_of_ble_eq_true rfl) dL_law_523 (fun H locs hW => ?_)
                                    refine lv_aload_n C.1.1 C.1.2.1 dL_law_526 rfl (lv_at hl 2 rfl) ?_
                                    refine lv_aload_n C.1.1 C.1.2.1 dL_law_527 rfl (lv_at hl 0 rfl) ?_
                                    refine lv_iload_n C.1.1 C.1.2.1 dL_law_528 rfl (lv_at hl 3 rfl) ?_
                                    refine lv_iconst (v := 1) C.1.1 C.1.2.1 dL_law_529 (by decide) ?_
                                    refine lv_iadd C.1.1 C.1.2.1 dL_law_530 ?_
                                    obtain ⟨hi152, h⟩ := gi_some h
                                    refine va_sld C.1.1 C.1.2.1 hX hbl hbA hW.2 hi152 dL_law_531 ?_
                                    obtain ⟨r153, I154, hc155, h⟩ := bd2_some h
                                    refine w_callVi (k := 1) (As := [.int (xs (z3 + (1 : Int32)).toNatClampNeg)]) (rest := [.int r149]) C hW (c_X11_image g l  hc155) (by decide) rfl (EX_11 (by decide)) K_L_71 (by decide +kernel) ⟨by decide, by decide⟩ ⟨Nat.le_refl _, Nat.le_refl _⟩ rfl hl.1 rfl (Nat.le_of_ble_eq_true rfl) dL_law_532 (fun H locs hW => ?_)
                                    refine lv_icmp_eq (tgt := 1497) C.1.1 C.1.2.1 dL_law_535 (by decide) (fun hc156 => ?_) (fun hc156 => ?_)
                                    · replace h := ite_t hc156 h
                                      obtain ⟨x157, ex157⟩ : ∃ y : Int32, y = z3 + (7 : Int32) := ⟨_, rfl⟩
                                      replace h := nm_at ex157 h
                                      refine lv_iinc (v := x157) (lv' := [(3, .int x157), (0, .ref b), (1, .ref (g.1 + 0)), (2, .ref (g.1 + 244))]) C.1.1 C.1.2.1 dL_law_1497 hl (k := 3) rfl (by rw [ex157]; rfl) (by decide) rfl (fun ls hl => ?_)
                                      clear ex157
                                      refine lv_goto (tgt := 18) C.1.1 C.1.2.1 dL_law_1500 (by decide) ?_
                                      obtain rfl := Option.some.inj h
                                      exact ih _ _ _ _ _ h9 _ _ _ hW (lv_sub hl [1, 2, 3, 0] rfl) hx0
                                    · replace h := ite_f hc156 h
                                      cases h
                                  · replace h := ite_f hc147 h
                                    by_cases hc158 : x3 = (14 : Int32)
                                    · replace h := ite_t hc158 h
                                      rw [hc158]
                                      refine lv_tableIn (tgt := 540) C.1.1 C.1.2.1 dL_law_33 (by decide) (by decide) rfl (by decide) ?_
                                      refine lv_aload_n C.1.1 C.1.2.1 dL_law_540 rfl (lv_at hl 1 rfl) ?_
                                      refine lv_aload_n C.1.1 C.1.2.1 dL_law_541 rfl (lv_at hl 0 rfl) ?_
                                      refine lv_iload_n C.1.1 C.1.2.1 dL_law_542 rfl (lv_at hl 3 rfl) ?_
                                      refine lv_iconst (v := 1) C.1.1 C.1.2.1 dL_law_543 (by decide) ?_
                                      refine lv_iadd C.1.1 C.1.2.1 dL_law_544 ?_
                                      obtain ⟨hi159, h⟩ := gi_some h
                                      refine va_sld C.1.1 C.1.2.1 hX hbl hbA hW.2 hi159 dL_law_545 ?_
                                      obtain ⟨r160, I161, hc162, h⟩ := bd2_some h
                                      refine w_callVi (k := 1) (As := [.int (xs (z3 + (1 : Int32)).toNatClampNeg)]) (rest := []) C hW (c_X10_restore g l  hc162) (by decide) rfl (EX_10 (by decide)) K_L_72 (by decide +kernel) ⟨by decide, by decide⟩ ⟨Nat.le_refl _, Nat.le_refl _⟩ rfl hl.1 rfl (Nat.le_of_ble_eq_true rfl) dL_law_546 (fun H locs hW => ?_)
                                      refine lv_aload_n C.1.1 C.1.2.1 dL_law_549 rfl (lv_at hl 2 rfl) ?_
                                      refine lv_aload_n C.1.1 C.1.2.1 dL_law_550 rfl (lv_at hl 0 rfl) ?_
                                      refine lv_iload_n C.1.1 C.1.2.1 dL_law_551 rfl (lv_at hl 3 rfl) ?_
                                      refine lv_iconst (v := 1) C.1.1 C.1.2.1 dL_law_552 (by decide) ?_
                                      refine lv_iadd C.1.1 C.1.2.1 dL_law_553 ?_
                                      obtain ⟨hi163, h⟩ := gi_some h
                                      refine va_sld C.1.1 C.1.2.1 hX hbl hbA hW.2 hi163 dL_law_554 ?_
                                      obtain ⟨r164, I165, hc166, h⟩ := bd2_some h
                                      refine w_callVi (k := 1) (As := [.int (xs (z3 + (1 : Int32)).toNatClampNeg)]) (rest := [.int r160]) C hW (c_X11_restore g l  hc166) (by decide) rfl (EX_11 (by decide)) K_L_75 (by decide +kernel) ⟨by decide, by decide⟩ ⟨Nat.le_refl _, Nat.le_refl _⟩ rfl hl.1 rfl (Nat.le_of_ble_eq_true rfl) dL_law_555 (fun H locs hW => ?_)
                                      refine lv_icmp_eq (tgt := 1497) C.1.1 C.1.2.1 dL_law_558 (by decide) (fun hc167 => ?_) (fun hc167 => ?_)
                                      · replace h := ite_t hc167 h
                                        obtain ⟨x168, ex168⟩ : ∃ y : Int32, y = z3 + (7 : Int32) := ⟨_, rfl⟩
                                        replace h := nm_at ex168 h
                                        refine lv_iinc (v := x168) (lv' := [(3, .int x168), (0, .ref b), (1, .ref (g.1 + 0)), (2, .ref (g.1 + 244))]) C.1.1 C.1.2.1 dL_law_1497 hl (k := 3) rfl (by rw [ex168]; rfl) (by decide) rfl (fun ls hl => ?_)
                                        clear ex168
                                        refine lv_goto (tgt := 18) C.1.1 C.1.2.1 dL_law_1500 (by decide) ?_
                                        obtain rfl := Option.some.inj h
                                        exact ih _ _ _ _ _ h9 _ _ _ hW (lv_sub hl [1, 2, 3, 0] rfl) hx0
                                      · replace h := ite_f hc167 h
                                        cases h
                                    · replace h := ite_f hc158 h
                                      by_cases hc169 : x3 = (15 : Int32)
                                      · replace h := ite_t hc169 h
                                        rw [hc169]
                                        refine lv_tableIn (tgt := 563) C.1.1 C.1.2.1 dL_law_33 (by decide) (by decide) rfl (by decide) ?_
                                        refine lv_aload_n C.1.1 C.1.2.1 dL_law_563 rfl (lv_at hl 1 rfl) ?_
                                        refine lv_aload_n C.1.1 C.1.2.1 dL_law_564 rfl (lv_at hl 0 rfl) ?_
                                        refine lv_iload_n C.1.1 C.1.2.1 dL_law_565 rfl (lv_at hl 3 rfl) ?_
                                        refine lv_iconst (v := 1) C.1.1 C.1.2.1 dL_law_566 (by decide) ?_
                                        refine lv_iadd C.1.1 C.1.2.1 dL_law_567 ?_
                                        obtain ⟨hi170, h⟩ := gi_some h
                                        refine va_sld C.1.1 C.1.2.1 hX hbl hbA hW.2 hi170 dL_law_568 ?_
                                        refine lv_aload_n C.1.1 C.1.2.1 dL_law_569 rfl (lv_at hl 0 rfl) ?_
                                        refine lv_iload_n C.1.1 C.1.2.1 dL_law_570 rfl (lv_at hl 3 rfl) ?_
                                        refine lv_iconst (v := 2) C.1.1 C.1.2.1 dL_law_571 (by decide) ?_
                                        refine lv_iadd C.1.1 C.1.2.1 dL_law_572 ?_
                                        obtain ⟨hi171, h⟩ := gi_some h
                                        refine va_sld C.1.1 C.1.2.1 hX hbl hbA hW.2 hi171 dL_law_573 ?_
                                        obtain ⟨r172, I173, hc174, h⟩ := bd2_some h
                                        refine w_callVi (k := 2) (As := [.int (xs (z3 + (1 : Int32)).toNatClampNeg), .int (xs (z3 + (2 : Int32)).toNatClampNeg)]) (rest := []) C hW (c_X10_strain g l  hc174) (by decide) rfl (EX_10 (by decide)) K_L_76 (by decide +kernel) ⟨by decide, by decide⟩ ⟨Nat.le_refl _, Nat.le_refl _⟩ rfl hl.1 rfl (Nat.le_of_ble_eq_true rfl) dL_law_574 (fun H locs hW => ?_)
                                        refine lv_aload_n C.1.1 C.1.2.1 dL_law_577 rfl (lv_at hl 2 rfl) ?_
                                        refine lv_aload_n C.1.1 C.1.2.1 dL_law_578 rfl (lv_at hl 0 rfl) ?_
                                        refine lv_iload_n C.1.1 C.1.2.1 dL_law_579 rfl (lv_at hl 3 rfl) ?_
                                        refine lv_iconst (v := 1) C.1.1 C.1.2.1 dL_law_580 (by decide) ?_
                                        refine lv_iadd C.1.1 C.1.2.1 dL_law_581 ?_
                                        obtain ⟨hi175, h⟩ := gi_some h
                                        refine va_sld C.1.1 C.1.2.1 hX hbl hbA hW.2 hi175 dL_law_582 ?_
                                        refine lv_aload_n C.1.1 C.1.2.1 dL_law_583 rfl (lv_at hl 0 rfl) ?_
                                        refine lv_iload_n C.1.1 C.1.2.1 dL_law_584 rfl (lv_at hl 3 rfl) ?_
                                        refine lv_iconst (v := 2) C.1.1 C.1.2.1 dL_law_585 (by decide) ?_
                                        refine lv_iadd C.1.1 C.1.2.1 dL_law_586 ?_
                                        obtain ⟨hi176, h⟩ := gi_some h
                                        refine va_sld C.1.1 C.1.2.1 hX hbl hbA hW.2 hi176 dL_law_587 ?_
                                        obtain ⟨r177, I178, hc179, h⟩ := bd2_some h
                                        refine w_callVi (k := 2) (As := [.int (xs (z3 + (1 : Int32)).toNatClampNeg), .int (xs (z3 + (2 : Int32)).toNatClampNeg)]) (rest := [.int r172]) C hW (c_X11_strain g l  hc179) (by decide) rfl (EX_11 (by decide)) K_L_79 (by decide +kernel) ⟨by decide, by decide⟩ ⟨Nat.le_refl _, Nat.le_refl _⟩ rfl hl.1 rfl (Nat.le_of_ble_eq_true rfl) dL_law_588 (fun H locs hW => ?_)
                                        refine lv_icmp_eq (tgt := 1497) C.1.1 C.1.2.1 dL_law_591 (by decide) (fun hc180 => ?_) (fun hc180 => ?_)
                                        · replace h := ite_t hc180 h
                                          obtain ⟨x181, ex181⟩ : ∃ y : Int32, y = z3 + (7 : Int32) := ⟨_, rfl⟩
                                          replace h := nm_at ex181 h
                                          refine lv_iinc (v := x181) (lv' := [(3, .int x181), (0, .ref b), (1, .ref (g.1 + 0)), (2, .ref (g.1 + 244))]) C.1.1 C.1.2.1 dL_law_1497 hl (k := 3) rfl (by rw [ex181]; rfl) (by decide) rfl (fun ls hl => ?_)
                                          clear ex181
                                          refine lv_goto (tgt := 18) C.1.1 C.1.2.1 dL_law_1500 (by decide) ?_
                                          obtain rfl := Option.some.inj h
                                          exact ih _ _ _ _ _ h9 _ _ _ hW (lv_sub hl [1, 2, 3, 0] rfl) hx0
                                        · replace h := ite_f hc180 h
                                          cases h
                                      · replace h := ite_f hc169 h
                                        by_cases hc182 : x3 = (16 : Int32)
                                        · replace h := ite_t hc182 h
                                          rw [hc182]
                                          refine lv_tableIn (tgt := 596) C.1.1 C.1.2.1 dL_law_33 (by decide) (by decide) rfl (by decide) ?_
                                          refine lv_aload_n C.1.1 C.1.2.1 dL_law_596 rfl (lv_at hl 1 rfl) ?_
                                          refine lv_aload_n C.1.1 C.1.2.1 dL_law_597 rfl (lv_at hl 0 rfl) ?_
                                          refine lv_iload_n C.1.1 C.1.2.1 dL_law_598 rfl (lv_at hl 3 rfl) ?_
                                          refine lv_iconst (v := 1) C.1.1 C.1.2.1 dL_law_599 (by decide) ?_
                                          refine lv_iadd C.1.1 C.1.2.1 dL_law_600 ?_
                                          obtain ⟨hi183, h⟩ := gi_some h
                                          refine va_sld C.1.1 C.1.2.1 hX hbl hbA hW.2 hi183 dL_law_601 ?_
                                          obtain ⟨r184, I185, hc186, h⟩ := bd2_some h
                                          refine w_callVi (k := 1) (As := [.int (xs (z3 + (1 : Int32)).toNatClampNeg)]) (rest := []) C hW (c_X10_down g l  hc186) (by decide) rfl (EX_10 (by decide)) K_L_80 (by decide +kernel) ⟨by decide, by decide⟩ ⟨Nat.le_refl _, Nat.le_refl _⟩ rfl hl.1 rfl (Nat.le_of_ble_eq_true rfl) dL_law_602 (fun H locs hW => ?_)
                                          refine lv_aload_n C.1.1 C.1.2.1 dL_law_605 rfl (lv_at hl 2 rfl) ?_
                                          refine lv_aload_n C.1.1 C.1.2.1 dL_law_606 rfl (lv_at hl 0 rfl) ?_
                                          refine lv_iload_n C.1.1 C.1.2.1 dL_law_607 rfl (lv_at hl 3 rfl) ?_
                                          refine lv_iconst (v := 1) C.1.1 C.1.2.1 dL_law_608 (by decide) ?_
                                          refine lv_iadd C.1.1 C.1.2.1 dL_law_609 ?_
                                          obtain ⟨hi187, h⟩ := gi_some h
                                          refine va_sld C.1.1 C.1.2.1 hX hbl hbA hW.2 hi187 dL_law_610 ?_
                                          obtain ⟨r188, I189, hc190, h⟩ := bd2_some h
                                          refine w_callVi (k := 1) (As := [.int (xs (z3 + (1 : Int32)).toNatClampNeg)]) (rest := [.int r184]) C hW (c_X11_down g l  hc190) (by decide) rfl (EX_11 (by decide)) K_L_83 (by decide +kernel) ⟨by decide, by decide⟩ ⟨Nat.le_refl _, Nat.le_refl _⟩ rfl hl.1 rfl (Nat.le_of_ble_eq_true rfl) dL_law_611 (fun H locs hW => ?_)
                                          refine lv_icmp_eq (tgt := 1497) C.1.1 C.1.2.1 dL_law_614 (by decide) (fun hc191 => ?_) (fun hc191 => ?_)
                                          · replace h := ite_t hc191 h
                                            obtain ⟨x192, ex192⟩ : ∃ y : Int32, y = z3 + (7 : Int32) := ⟨_, rfl⟩
                                            replace h := nm_at ex192 h
                                            refine lv_iinc (v := x192) (lv' := [(3, .int x192), (0, .ref b), (1, .ref (g.1 + 0)), (2, .ref (g.1 + 244))]) C.1.1 C.1.2.1 dL_law_1497 hl (k := 3) rfl (by rw [ex192]; rfl) (by decide) rfl (fun ls hl => ?_)
                                            clear ex192
                                            refine lv_goto (tgt := 18) C.1.1 C.1.2.1 dL_law_1500 (by decide) ?_
                                            obtain rfl := Option.some.inj h
                                            exact ih _ _ _ _ _ h9 _ _ _ hW (lv_sub hl [1, 2, 3, 0] rfl) hx0
                                          · replace h := ite_f hc191 h
                                            cases h
                                        · replace h := ite_f hc182 h
                                          by_cases hc193 : x3 = (17 : Int32)
                                          · replace h := ite_t hc193 h
                                            rw [hc193]
                                            refine lv_tableIn (tgt := 619) C.1.1 C.1.2.1 dL_law_33 (by decide) (by decide) rfl (by decide) ?_
                                            refine lv_aload_n C.1.1 C.1.2.1 dL_law_619 rfl (lv_at hl 1 rfl) ?_
                                            refine lv_aload_n C.1.1 C.1.2.1 dL_law_620 rfl (lv_at hl 0 rfl) ?_
                                            refine lv_iload_n C.1.1 C.1.2.1 dL_law_621 rfl (lv_at hl 3 rfl) ?_
                                            refine lv_iconst (v := 1) C.1.1 C.1.2.1 dL_law_622 (by decide) ?_
                                            refine lv_iadd C.1.1 C.1.2.1 dL_law_623 ?_
                                            obtain ⟨hi194, h⟩ := gi_some h
                                            refine va_sld C.1.1 C.1.2.1 hX hbl hbA hW.2 hi194 dL_law_624 ?_
                                            refine lv_aload_n C.1.1 C.1.2.1 dL_law_625 rfl (lv_at hl 0 rfl) ?_
                                            refine lv_iload_n C.1.1 C.1.2.1 dL_law_626 rfl (lv_at hl 3 rfl) ?_
                                            refine lv_iconst (v := 2) C.1.1 C.1.2.1 dL_law_627 (by decide) ?_
                                            refine lv_iadd C.1.1 C.1.2.1 dL_law_628 ?_
                                            obtain ⟨hi195, h⟩ := gi_some h
                                            refine va_sld C.1.1 C.1.2.1 hX hbl hbA hW.2 hi195 dL_law_629 ?_
                                            obtain ⟨r196, I197, hc198, h⟩ := bd2_some h
                                            refine w_callVi (k := 2) (As := [.int (xs (z3 + (1 : Int32)).toNatClampNeg), .int (xs (z3 + (2 : Int32)).toNatClampNeg)]) (rest := []) C hW (c_X10_duel g l  hc198) (by decide) rfl (EX_10 (by decide)) K_L_84 (by decide +kernel) ⟨by decide, by decide⟩ ⟨Nat.le_refl _, Nat.le_refl _⟩ rfl hl.1 rfl (Nat.le_of_ble_eq_true rfl) dL_law_630 (fun H locs hW => ?_)
                                            refine lv_aload_n C.1.1 C.1.2.1 dL_law_633 rfl (lv_at hl 2 rfl) ?_
                                            refine lv_aload_n C.1.1 C.1.2.1 dL_law_634 rfl (lv_at hl 0 rfl) ?_
                                            refine lv_iload_n C.1.1 C.1.2.1 dL_law_635 rfl (lv_at hl 3 rfl) ?_
                                            refine lv_iconst (v := 1) C.1.1 C.1.2.1 dL_law_636 (by decide) ?_
                                            refine lv_iadd C.1.1 C.1.2.1 dL_law_637 ?_
                                            obtain ⟨hi199, h⟩ := gi_some h
                                            refine va_sld C.1.1 C.1.2.1 hX hbl hbA hW.2 hi199 dL_law_638 ?_
                                            refine lv_aload_n C.1.1 C.1.2.1 dL_law_639 rfl (lv_at hl 0 rfl) ?_
                                            refine lv_iload_n C.1.1 C.1.2.1 dL_law_640 rfl (lv_at hl 3 rfl) ?_
                                            refine lv_iconst (v := 2) C.1.1 C.1.2.1 dL_law_641 (by decide) ?_
                                            refine lv_iadd C.1.1 C.1.2.1 dL_law_642 ?_
                                            obtain ⟨hi200, h⟩ := gi_some h
                                            refine va_sld C.1.1 C.1.2.1 hX hbl hbA hW.2 hi200 dL_law_643 ?_
                                            obtain ⟨r201, I202, hc203, h⟩ := bd2_some h
                                            refine w_callVi (k := 2) (As := [.int (xs (z3 + (1 : Int32)).toNatClampNeg), .int (xs (z3 + (2 : Int32)).toNatClampNeg)]) (rest := [.int r196]) C hW (c_X11_duel g l  hc203) (by decide) rfl (EX_11 (by decide)) K_L_87 (by decide +kernel) ⟨by decide, by decide⟩ ⟨Nat.le_refl _, Nat.le_refl _⟩ rfl hl.1 rfl (Nat.le_of_ble_eq_true rfl) dL_law_644 (fun H locs hW => ?_)
                                            refine lv_icmp_eq (tgt := 1497) C.1.1 C.1.2.1 dL_law_647 (by decide) (fun hc204 => ?_) (fun hc204 => ?_)
                                            · replace h := ite_t hc204 h
                                              obtain ⟨x205, ex205⟩ : ∃ y : Int32, y = z3 + (7 : Int32) := ⟨_, rfl⟩
                                              replace h := nm_at ex205 h
                                              refine lv_iinc (v := x205) (lv' := [(3, .int x205), (0, .ref b), (1, .ref (g.1 + 0)), (2, .ref (g.1 + 244))]) C.1.1 C.1.2.1 dL_law_1497 hl (k := 3) rfl (by rw [ex205]; rfl) (by decide) rfl (fun ls hl => ?_)
                                              clear ex205
                                              refine lv_goto (tgt := 18) C.1.1 C.1.2.1 dL_law_1500 (by decide) ?_
                                              obtain rfl := Option.some.inj h
                                              exact ih _ _ _ _ _ h9 _ _ _ hW (lv_sub hl [1, 2, 3, 0] rfl) hx0
                                            · replace h := ite_f hc204 h
                                              cases h
                                          · replace h := ite_f hc193 h
                                            by_cases hc206 : x3 = (18 : Int32)
                                            · replace h := ite_t hc206 h
                                              rw [hc206]
                                              refine lv_tableIn (tgt := 652) C.1.1 C.1.2.1 dL_law_33 (by decide) (by decide) rfl (by decide) ?_
                                              refine lv_aload_n C.1.1 C.1.2.1 dL_law_652 rfl (lv_at hl 1 rfl) ?_
                                              refine lv_aload_n C.1.1 C.1.2.1 dL_law_653 rfl (lv_at hl 0 rfl) ?_
                                              refine lv_iload_n C.1.1 C.1.2.1 dL_law_654 rfl (lv_at hl 3 rfl) ?_
                                              refine lv_iconst (v := 1) C.1.1 C.1.2.1 dL_law_655 (by decide) ?_
                                              refine lv_iadd C.1.1 C.1.2.1 dL_law_656 ?_
                                              obtain ⟨hi207, h⟩ := gi_some h
                                              refine va_sld C.1.1 C.1.2.1 hX hbl hbA hW.2 hi207 dL_law_657 ?_
                                              obtain ⟨r208, I209, hc210, h⟩ := bd2_some h
                                              refine w_callVi (k := 1) (As := [.int (xs (z3 + (1 : Int32)).toNatClampNeg)]) (rest := []) C hW (c_X10_honour g l  hc210) (by decide) rfl (EX_10 (by decide)) K_L_88 (by decide +kernel) ⟨by decide, by decide⟩ ⟨Nat.le_refl _, Nat.le_refl _⟩ rfl hl.1 rfl (Nat.le_of_ble_eq_true rfl) dL_law_658 (fun H locs hW => ?_)
                                              refine lv_aload_n C.1.1 C.1.2.1 dL_law_661 rfl (lv_at hl 2 rfl) ?_
                                              refine lv_aload_n C.1.1 C.1.2.1 dL_law_662 rfl (lv_at hl 0 rfl) ?_
                                              refine lv_iload_n C.1.1 C.1.2.1 dL_law_663 rfl (lv_at hl 3 rfl) ?_
                                              refine lv_iconst (v := 1) C.1.1 C.1.2.1 dL_law_664 (by decide) ?_
                                              refine lv_iadd C.1.1 C.1.2.1 dL_law_665 ?_
                                              obtain ⟨hi211, h⟩ := gi_some h
                                              refine va_sld C.1.1 C.1.2.1 hX hbl hbA hW.2 hi211 dL_law_666 ?_
                                              obtain ⟨r212, I213, hc214, h⟩ := bd2_some h
                                              refine w_callVi (k := 1) (As := [.int (xs (z3 + (1 : Int32)).toNatClampNeg)]) (rest := [.int r208]) C hW (c_X11_honour g l  hc214) (by decide) rfl (EX_11 (by decide)) K_L_91 (by decide +kernel) ⟨by decide, by decide⟩ ⟨Nat.le_refl _, Nat.le_refl _⟩ rfl hl.1 rfl (Nat.le_of_ble_eq_true rfl) dL_law_667 (fun H locs hW => ?_)
                                              refine lv_icmp_eq (tgt := 1497) C.1.1 C.1.2.1 dL_law_670 (by decide) (fun hc215 => ?_) (fun hc215 => ?_)
                                              · replace h := ite_t hc215 h
                                                obtain ⟨x216, ex216⟩ : ∃ y : Int32, y = z3 + (7 : Int32) := ⟨_, rfl⟩
                                                replace h := nm_at ex216 h
                                                refine lv_iinc (v := x216) (lv' := [(3, .int x216), (0, .ref b), (1, .ref (g.1 + 0)), (2, .ref (g.1 + 244))]) C.1.1 C.1.2.1 dL_law_1497 hl (k := 3) rfl (by rw [ex216]; rfl) (by decide) rfl (fun ls hl => ?_)
                                                clear ex216
                                                refine lv_goto (tgt := 18) C.1.1 C.1.2.1 dL_law_1500 (by decide) ?_
                                                obtain rfl := Option.some.inj h
                                                exact ih _ _ _ _ _ h9 _ _ _ hW (lv_sub hl [1, 2, 3, 0] rfl) hx0
                                              · replace h := ite_f hc215 h
                                                cases h
                                            · replace h := ite_f hc206 h
                                              by_cases hc217 : x3 = (19 : Int32)
                                              · replace h := ite_t hc217 h
                                                rw [hc217]
                                                refine lv_tableIn (tgt := 675) C.1.1 C.1.2.1 dL_law_33 (by decide) (by decide) rfl (by decide) ?_
                                                refine lv_aload_n C.1.1 C.1.2.1 dL_law_675 rfl (lv_at hl 1 rfl) ?_
                                                refine lv_aload_n C.1.1 C.1.2.1 dL_law_676 rfl (lv_at hl 0 rfl) ?_
                                                refine lv_iload_n C.1.1 C.1.2.1 dL_law_677 rfl (lv_at hl 3 rfl) ?_
                                                refine lv_iconst (v := 1) C.1.1 C.1.2.1 dL_law_678 (by decide) ?_
                                                refine lv_iadd C.1.1 C.1.2.1 dL_law_679 ?_
                                                obtain ⟨hi218, h⟩ := gi_some h
                                                refine va_sld C.1.1 C.1.2.1 hX hbl hbA hW.2 hi218 dL_law_680 ?_
                                                refine lv_aload_n C.1.1 C.1.2.1 dL_law_681 rfl (lv_at hl 0 rfl) ?_
                                                refine lv_iload_n C.1.1 C.1.2.1 dL_law_682 rfl (lv_at hl 3 rfl) ?_
                                                refine lv_iconst (v := 2) C.1.1 C.1.2.1 dL_law_683 (by decide) ?_
                                                refine lv_iadd C.1.1 C.1.2.1 dL_law_684 ?_
                                                obtain ⟨hi219, h⟩ := gi_some h
                                                refine va_sld C.1.1 C.1.2.1 hX hbl hbA hW.2 hi219 dL_law_685 ?_
                                                refine lv_aload_n C.1.1 C.1.2.1 dL_law_686 rfl (lv_at hl 0 rfl) ?_
                                                refine lv_iload_n C.1.1 C.1.2.1 dL_law_687 rfl (lv_at hl 3 rfl) ?_
                                                refine lv_iconst (v := 3) C.1.1 C.1.2.1 dL_law_688 (by decide) ?_
                                                refine lv_iadd C.1.1 C.1.2.1 dL_law_689 ?_
                                                obtain ⟨hi220, h⟩ := gi_some h
                                                refine va_sld C.1.1 C.1.2.1 hX hbl hbA hW.2 hi220 dL_law_690 ?_
                                                obtain ⟨r221, I222, hc223, h⟩ := bd2_some h
                                                refine w_callVi (k := 3) (As := [.int (xs (z3 + (1 : Int32)).toNatClampNeg), .int (xs (z3 + (2 : Int32)).toNatClampNeg), .int (xs (z3 + (3 : Int32)).toNatClampNeg)]) (rest := []) C hW (c_X10_eat g l  hc223) (by decide) rfl (EX_10 (by decide)) K_L_92 (by decide +kernel) ⟨by decide, by decide⟩ ⟨Nat.le_refl _, Nat.le_refl _⟩ rfl hl.1 rfl (Nat.le_of_ble_eq_true rfl) dL_law_691 (fun H locs hW => ?_)
                                                refine lv_aload_n C.1.1 C.1.2.1 dL_law_694 rfl (lv_at hl 2 rfl) ?_
                                                refine lv_aload_n C.1.1 C.1.2.1 dL_law_695 rfl (lv_at hl 0 rfl) ?_
                                                refine lv_iload_n C.1.1 C.1.2.1 dL_law_696 rfl (lv_at hl 3 rfl) ?_
                                                refine lv_iconst (v := 1) C.1.1 C.1.2.1 dL_law_697 (by decide) ?_
                                                refine lv_iadd C.1.1 C.1.2.1 dL_law_698 ?_
                                                obtain ⟨hi224, h⟩ := gi_some h
                                                refine va_sld C.1.1 C.1.2.1 hX hbl hbA hW.2 hi224 dL_law_699 ?_
                                                refine lv_aload_n C.1.1 C.1.2.1 dL_law_700 rfl (lv_at hl 0 rfl) ?_
                                                refine lv_iload_n C.1.1 C.1.2.1 dL_law_701 rfl (lv_at hl 3 rfl) ?_
                                                refine lv_iconst (v := 2) C.1.1 C.1.2.1 dL_law_702 (by decide) ?_
                                                refine lv_iadd C.1.1 C.1.2.1 dL_law_703 ?_
                                                obtain ⟨hi225, h⟩ := gi_some h
                                                refine va_sld C.1.1 C.1.2.1 hX hbl hbA hW.2 hi225 dL_law_704 ?_
                                                refine lv_aload_n C.1.1 C.1.2.1 dL_law_705 rfl (lv_at hl 0 rfl) ?_
                                                refine lv_iload_n C.1.1 C.1.2.1 dL_law_706 rfl (lv_at hl 3 rfl) ?_
                                                refine lv_iconst (v := 3) C.1.1 C.1.2.1 dL_law_707 (by decide) ?_
                                                refine lv_iadd C.1.1 C.1.2.1 dL_law_708 ?_
                                                obtain ⟨hi226, h⟩ := gi_some h
                                                refine va_sld C.1.1 C.1.2.1 hX hbl hbA hW.2 hi226 dL_law_709 ?_
                                                obtain ⟨r227, I228, hc229, h⟩ := bd2_some h
                                                refine w_callVi (k := 3) (As := [.int (xs (z3 + (1 : Int32)).toNatClampNeg), .int (xs (z3 + (2 : Int32)).toNatClampNeg), .int (xs (z3 + (3 : Int32)).toNatClampNeg)]) (rest := [.int r221]) C hW (c_X11_eat g l  hc229) (by decide) rfl (EX_11 (by decide)) K_L_96 (by decide +kernel) ⟨by decide, by decide⟩ ⟨Nat.le_refl _, Nat.le_refl _⟩ rfl hl.1 rfl (Nat.le_of_ble_eq_true rfl) dL_law_710 (fun H locs hW => ?_)
                                                refine lv_icmp_eq (tgt := 1497) C.1.1 C.1.2.1 dL_law_713 (by decide) (fun hc230 => ?_) (fun hc230 => ?_)
                                                · replace h := ite_t hc230 h
                                                  obtain ⟨x231, ex231⟩ : ∃ y : Int32, y = z3 + (7 : Int32) := ⟨_, rfl⟩
                                                  replace h := nm_at ex231 h
                                                  refine lv_iinc (v := x231) (lv' := [(3, .int x231), (0, .ref b), (1, .ref (g.1 + 0)), (2, .ref (g.1 + 244))]) C.1.1 C.1.2.1 dL_law_1497 hl (k := 3) rfl (by rw [ex231]; rfl) (by decide) rfl (fun ls hl => ?_)
                                                  clear ex231
                                                  refine lv_goto (tgt := 18) C.1.1 C.1.2.1 dL_law_1500 (by decide) ?_
                                                  obtain rfl := Option.some.inj h
                                                  exact ih _ _ _ _ _ h9 _ _ _ hW (lv_sub hl [1, 2, 3, 0] rfl) hx0
                                                · replace h := ite_f hc230 h
                                                  cases h
                                              · replace h := ite_f hc217 h
                                                by_cases hc232 : x3 = (20 : Int32)
                                                · replace h := ite_t hc232 h
                                                  rw [hc232]
                                                  refine lv_tableIn (tgt := 718) C.1.1 C.1.2.1 dL_law_33 (by decide) (by decide) rfl (by decide) ?_
                                                  refine lv_aload_n C.1.1 C.1.2.1 dL_law_718 rfl (lv_at hl 1 rfl) ?_
                                                  refine lv_aload_n C.1.1 C.1.2.1 dL_law_719 rfl (lv_at hl 0 rfl) ?_
                                                  refine lv_iload_n C.1.1 C.1.2.1 dL_law_720 rfl (lv_at hl 3 rfl) ?_
                                                  refine lv_iconst (v := 1) C.1.1 C.1.2.1 dL_law_721 (by decide) ?_
                                                  refine lv_iadd C.1.1 C.1.2.1 dL_law_722 ?_
                                                  obtain ⟨hi233, h⟩ := gi_some h
                                                  refine va_sld C.1.1 C.1.2.1 hX hbl hbA hW.2 hi233 dL_law_723 ?_
                                                  refine lv_aload_n C.1.1 C.1.2.1 dL_law_724 rfl (lv_at hl 0 rfl) ?_
                                                  refine lv_iload_n C.1.1 C.1.2.1 dL_law_725 rfl (lv_at hl 3 rfl) ?_
                                                  refine lv_iconst (v := 2) C.1.1 C.1.2.1 dL_law_726 (by decide) ?_
                                                  refine lv_iadd C.1.1 C.1.2.1 dL_law_727 ?_
                                                  obtain ⟨hi234, h⟩ := gi_some h
                                                  refine va_sld C.1.1 C.1.2.1 hX hbl hbA hW.2 hi234 dL_law_728 ?_
                                                  refine lv_aload_n C.1.1 C.1.2.1 dL_law_729 rfl (lv_at hl 0 rfl) ?_
                                                  refine lv_iload_n C.1.1 C.1.2.1 dL_law_730 rfl (lv_at hl 3 rfl) ?_
                                                  refine lv_iconst (v := 3) C.1.1 C.1.2.1 dL_law_731 (by decide) ?_
                                                  refine lv_iadd C.1.1 C.1.2.1 dL_law_732 ?_
                                                  obtain ⟨hi235, h⟩ := gi_some h
                                                  refine va_sld C.1.1 C.1.2.1 hX hbl hbA hW.2 hi235 dL_law_733 ?_
                                                  obtain ⟨r236, I237, hc238, h⟩ := bd2_some h
                                                  refine w_callVi (k := 3) (As := [.int (xs (z3 + (1 : Int32)).toNatClampNeg), .int (xs (z3 + (2 : Int32)).toNatClampNeg), .int (xs (z3 + (3 : Int32)).toNatClampNeg)]) (rest := []) C hW (c_X10_train g l  hc238) (by decide) rfl (EX_10 (by decide)) K_L_97 (by decide +kernel) ⟨by decide, by decide⟩ ⟨Nat.le_refl _, Nat.le_refl _⟩ rfl hl.1 rfl (Nat.le_of_ble_eq_true rfl) dL_law_734 (fun H locs hW => ?_)
                                                  refine lv_aload_n C.1.1 C.1.2.1 dL_law_737 rfl (lv_at hl 2 rfl) ?_
                                                  refine lv_aload_n C.1.1 C.1.2.1 dL_law_738 rfl (lv_at hl 0 rfl) ?_
                                                  refine lv_iload_n C.1.1 C.1.2.1 dL_law_739 rfl (lv_at hl 3 rfl) ?_
                                                  refine lv_iconst (v := 1) C.1.1 C.1.2.1 dL_law_740 (by decide) ?_
                                                  refine lv_iadd C.1.1 C.1.2.1 dL_law_741 ?_
                                                  obtain ⟨hi239, h⟩ := gi_some h
                                                  refine va_sld C.1.1 C.1.2.1 hX hbl hbA hW.2 hi239 dL_law_742 ?_
                                                  refine lv_aload_n C.1.1 C.1.2.1 dL_law_743 rfl (lv_at hl 0 rfl) ?_
                                                  refine lv_iload_n C.1.1 C.1.2.1 dL_law_744 rfl (lv_at hl 3 rfl) ?_
                                                  refine lv_iconst (v := 2) C.1.1 C.1.2.1 dL_law_745 (by decide) ?_
                                                  refine lv_iadd C.1.1 C.1.2.1 dL_law_746 ?_
                                                  obtain ⟨hi240, h⟩ := gi_some h
                                                  refine va_sld C.1.1 C.1.2.1 hX hbl hbA hW.2 hi240 dL_law_747 ?_
                                                  refine lv_aload_n C.1.1 C.1.2.1 dL_law_748 rfl (lv_at hl 0 rfl) ?_
                                                  refine lv_iload_n C.1.1 C.1.2.1 dL_law_749 rfl (lv_at hl 3 rfl) ?_
                                                  refine lv_iconst (v := 3) C.1.1 C.1.2.1 dL_law_750 (by decide) ?_
                                                  refine lv_iadd C.1.1 C.1.2.1 dL_law_751 ?_
                                                  obtain ⟨hi241, h⟩ := gi_some h
                                                  refine va_sld C.1.1 C.1.2.1 hX hbl hbA hW.2 hi241 dL_law_752 ?_
                                                  obtain ⟨r242, I243, hc244, h⟩ := bd2_some h
                                                  refine w_callVi (k := 3) (As := [.int (xs (z3 + (1 : Int32)).toNatClampNeg), .int (xs (z3 + (2 : Int32)).toNatClampNeg), .int (xs (z3 + (3 : Int32)).toNatClampNeg)]) (rest := [.int r236]) C hW (c_X11_train g l  hc244) (by decide) rfl (EX_11 (by decide)) K_L_100 (by decide +kernel) ⟨by decide, by decide⟩ ⟨Nat.le_refl _, Nat.le_refl _⟩ rfl hl.1 rfl (Nat.le_of_ble_eq_true rfl) dL_law_753 (fun H locs hW => ?_)
                                                  refine lv_icmp_eq (tgt := 1497) C.1.1 C.1.2.1 dL_law_756 (by decide) (fun hc245 => ?_) (fun hc245 => ?_)
                                                  · replace h := ite_t hc245 h
                                                    obtain ⟨x246, ex246⟩ : ∃ y : Int32, y = z3 + (7 : Int32) := ⟨_, rfl⟩
                                                    replace h := nm_at ex246 h
                                                    refine lv_iinc (v := x246) (lv' := [(3, .int x246), (0, .ref b), (1, .ref (g.1 + 0)), (2, .ref (g.1 + 244))]) C.1.1 C.1.2.1 dL_law_1497 hl (k := 3) rfl (by rw [ex246]; rfl) (by decide) rfl (fun ls hl => ?_)
                                                    clear ex246
                                                    refine lv_goto (tgt := 18) C.1.1 C.1.2.1 dL_law_1500 (by decide) ?_
                                                    obtain rfl := Option.some.inj h
                                                    exact ih _ _ _ _ _ h9 _ _ _ hW (lv_sub hl [1, 2, 3, 0] rfl) hx0
                                                  · replace h := ite_f hc245 h
                                                    cases h
                                                · replace h := ite_f hc232 h
                                                  by_cases hc247 : x3 = (21 : Int32)
                                                  · replace h := ite_t hc247 h
                                                    rw [hc247]
                                                    refine lv_tableIn (tgt := 761) C.1.1 C.1.2.1 dL_law_33 (by decide) (by decide) rfl (by decide) ?_
                                                    refine lv_aload_n C.1.1 C.1.2.1 dL_law_761 rfl (lv_at hl 1 rfl) ?_
                                                    refine lv_aload_n C.1.1 C.1.2.1 dL_law_762 rfl (lv_at hl 0 rfl) ?_
                                                    refine lv_iload_n C.1.1 C.1.2.1 dL_law_763 rfl (lv_at hl 3 rfl) ?_
                                                    refine lv_iconst (v := 1) C.1.1 C.1.2.1 dL_law_764 (by decide) ?_
                                                    refine lv_iadd C.1.1 C.1.2.1 dL_law_765 ?_
                                                    obtain ⟨hi248, h⟩ := gi_some h
                                                    refine va_sld C.1.1 C.1.2.1 hX hbl hbA hW.2 hi248 dL_law_766 ?_
                                                    obtain ⟨r249, I250, hc251, h⟩ := bd2_some h
                                                    refine w_callVi (k := 1) (As := [.int (xs (z3 + (1 : Int32)).toNatClampNeg)]) (rest := []) C hW (c_X10_dusk g l  hc251) (by decide) rfl (EX_10 (by decide)) K_L_101 (by decide +kernel) ⟨by decide, by decide⟩ ⟨Nat.le_refl _, Nat.le_refl _⟩ rfl hl.1 rfl (Nat.le_of_ble_eq_true rfl) dL_law_767 (fun H locs hW => ?_)
                                                    refine lv_aload_n C.1.1 C.1.2.1 dL_law_770 rfl (lv_at hl 2 rfl) ?_
                                                    refine lv_aload_n C.1.1 C.1.2.1 dL_law_771 rfl (lv_at hl 0 rfl) ?_
                                                    refine lv_iload_n C.1.1 C.1.2.1 dL_law_772 rfl (lv_at hl 3 rfl) ?_
                                                    refine lv_iconst (v := 1) C.1.1 C.1.2.1 dL_law_773 (by decide) ?_
                                                    refine lv_iadd C.1.1 C.1.2.1 dL_law_774 ?_
                                                    obtain ⟨hi252, h⟩ := gi_some h
                                                    refine va_sld C.1.1 C.1.2.1 hX hbl hbA hW.2 hi252 dL_law_775 ?_
                                                    obtain ⟨r253, I254, hc255, h⟩ := bd2_some h
                                                    refine w_callVi (k := 1) (As := [.int (xs (z3 + (1 : Int32)).toNatClampNeg)]) (rest := [.int r249]) C hW (c_X11_dusk g l  hc255) (by decide) rfl (EX_11 (by decide)) K_L_104 (by decide +kernel) ⟨by decide, by decide⟩ ⟨Nat.le_refl _, Nat.le_refl _⟩ rfl hl.1 rfl (Nat.le_of_ble_eq_true rfl) dL_law_776 (fun H locs hW => ?_)
                                                    refine lv_icmp_eq (tgt := 1497) C.1.1 C.1.2.1 dL_law_779 (by decide) (fun hc256 => ?_) (fun hc256 => ?_)
                                                    · replace h := ite_t hc256 h
                                                      obtain ⟨x257, ex257⟩ : ∃ y : Int32, y = z3 + (7 : Int32) := ⟨_, rfl⟩
                                                      replace h := nm_at ex257 h
                                                      refine lv_iinc (v := x257) (lv' := [(3, .int x257), (0, .ref b), (1, .ref (g.1 + 0)), (2, .ref (g.1 + 244))]) C.1.1 C.1.2.1 dL_law_1497 hl (k := 3) rfl (by rw [ex257]; rfl) (by decide) rfl (fun ls hl => ?_)
                                                      clear ex257
                                                      refine lv_goto (tgt := 18) C.1.1 C.1.2.1 dL_law_1500 (by decide) ?_
                                                      obtain rfl := Option.some.inj h
                                                      exact ih _ _ _ _ _ h9 _ _ _ hW (lv_sub hl [1, 2, 3, 0] rfl) hx0
                                                    · replace h := ite_f hc256 h
                                                      cases h
                                                  · replace h := ite_f hc247 h
                                                    by_cases hc258 : x3 = (22 : Int32)
                                                    · replace h := ite_t hc258 h
                                                      rw [hc258]
                                                      refine lv_tableIn (tgt := 784) C.1.1 C.1.2.1 dL_law_33 (by decide) (by decide) rfl (by decide) ?_
                                                      refine lv_aload_n C.1.1 C.1.2.1 dL_law_784 rfl (lv_at hl 1 rfl) ?_
                                                      refine lv_aload_n C.1.1 C.1.2.1 dL_law_785 rfl (lv_at hl 0 rfl) ?_
                                                      refine lv_iload_n C.1.1 C.1.2.1 dL_law_786 rfl (lv_at hl 3 rfl) ?_
                                                      refine lv_iconst (v := 1) C.1.1 C.1.2.1 dL_law_787 (by decide) ?_
                                                      refine lv_iadd C.1.1 C.1.2.1 dL_law_788 ?_
                                                      obtain ⟨hi259, h⟩ := gi_some h
                                                      refine va_sld C.1.1 C.1.2.1 hX hbl hbA hW.2 hi259 dL_law_789 ?_
                                                      refine lv_aload_n C.1.1 C.1.2.1 dL_law_790 rfl (lv_at hl 0 rfl) ?_
                                                      refine lv_iload_n C.1.1 C.1.2.1 dL_law_791 rfl (lv_at hl 3 rfl) ?_
                                                      refine lv_iconst (v := 2) C.1.1 C.1.2.1 dL_law_792 (by decide) ?_
                                                      refine lv_iadd C.1.1 C.1.2.1 dL_law_793 ?_
                                                      obtain ⟨hi260, h⟩ := gi_some h
                                                      refine va_sld C.1.1 C.1.2.1 hX hbl hbA hW.2 hi260 dL_law_794 ?_
                                                      refine lv_aload_n C.1.1 C.1.2.1 dL_law_795 rfl (lv_at hl 0 rfl) ?_
                                                      refine lv_iload_n C.1.1 C.1.2.1 dL_law_796 rfl (lv_at hl 3 rfl) ?_
                                                      refine lv_iconst (v := 3) C.1.1 C.1.2.1 dL_law_797 (by decide) ?_
                                                      refine lv_iadd C.1.1 C.1.2.1 dL_law_798 ?_
                                                      obtain ⟨hi261, h⟩ := gi_some h
                                                      refine va_sld C.1.1 C.1.2.1 hX hbl hbA hW.2 hi261 dL_law_799 ?_
                                                      refine lv_aload_n C.1.1 C.1.2.1 dL_law_800 rfl (lv_at hl 0 rfl) ?_
                                                      refine lv_iload_n C.1.1 C.1.2.1 dL_law_801 rfl (lv_at hl 3 rfl) ?_
                                                      refine lv_iconst (v := 4) C.1.1 C.1.2.1 dL_law_802 (by decide) ?_
                                                      refine lv_iadd C.1.1 C.1.2.1 dL_law_803 ?_
                                                      obtain ⟨hi262, h⟩ := gi_some h
                                                      refine va_sld C.1.1 C.1.2.1 hX hbl hbA hW.2 hi262 dL_law_804 ?_
                                                      refine lv_aload_n C.1.1 C.1.2.1 dL_law_805 rfl (lv_at hl 0 rfl) ?_
                                                      refine lv_iload_n C.1.1 C.1.2.1 dL_law_806 rfl (lv_at hl 3 rfl) ?_
                                                      refine lv_iconst (v := 5) C.1.1 C.1.2.1 dL_law_807 (by decide) ?_
                                                      refine lv_iadd C.1.1 C.1.2.1 dL_law_808 ?_
                                                      obtain ⟨hi263, h⟩ := gi_some h
                                                      refine va_sld C.1.1 C.1.2.1 hX hbl hbA hW.2 hi263 dL_law_809 ?_
                                                      obtain ⟨r264, I265, hc266, h⟩ := bd2_some h
                                                      refine w_callVl (k := 5) (As := [.int (xs (z3 + (1 : Int32)).toNatClampNeg), .int (xs (z3 + (2 : Int32)).toNatClampNeg), .int (xs (z3 + (3 : Int32)).toNatClampNeg), .int (xs (z3 + (4 : Int32)).toNatClampNeg), .int (xs (z3 + (5 : Int32)).toNatClampNeg)]) (rest := []) C hW (c_X10_odds g l  hc266) (by decide) rfl (EX_10 (by decide)) K_L_105 (by decide +kernel) ⟨by decide, by decide⟩ ⟨Nat.le_refl _, Nat.le_refl _⟩ rfl hl.1 rfl (Nat.le_of_ble_eq_true rfl) dL_law_810 (fun H locs hW => ?_)
                                                      refine lv_aload_n C.1.1 C.1.2.1 dL_law_813 rfl (lv_at hl 2 rfl) ?_
                                                      refine lv_aload_n C.1.1 C.1.2.1 dL_law_814 rfl (lv_at hl 0 rfl) ?_
                                                      refine lv_iload_n C.1.1 C.1.2.1 dL_law_815 rfl (lv_at hl 3 rfl) ?_
                                                      refine lv_iconst (v := 1) C.1.1 C.1.2.1 dL_law_816 (by decide) ?_
                                                      refine lv_iadd C.1.1 C.1.2.1 dL_law_817 ?_
                                                      obtain ⟨hi267, h⟩ := gi_some h
                                                      refine va_sld C.1.1 C.1.2.1 hX hbl hbA hW.2 hi267 dL_law_818 ?_
                                                      refine lv_aload_n C.1.1 C.1.2.1 dL_law_819 rfl (lv_at hl 0 rfl) ?_
                                                      refine lv_iload_n C.1.1 C.1.2.1 dL_law_820 rfl (lv_at hl 3 rfl) ?_
                                                      refine lv_iconst (v := 2) C.1.1 C.1.2.1 dL_law_821 (by decide) ?_
                                                      refine lv_iadd C.1.1 C.1.2.1 dL_law_822 ?_
                                                      obtain ⟨hi268, h⟩ := gi_some h
                                                      refine va_sld C.1.1 C.1.2.1 hX hbl hbA hW.2 hi268 dL_law_823 ?_
                                                      refine lv_aload_n C.1.1 C.1.2.1 dL_law_824 rfl (lv_at hl 0 rfl) ?_
                                                      refine lv_iload_n C.1.1 C.1.2.1 dL_law_825 rfl (lv_at hl 3 rfl) ?_
                                                      refine lv_iconst (v := 3) C.1.1 C.1.2.1 dL_law_826 (by decide) ?_
                                                      refine lv_iadd C.1.1 C.1.2.1 dL_law_827 ?_
                                                      obtain ⟨hi269, h⟩ := gi_some h
                                                      refine va_sld C.1.1 C.1.2.1 hX hbl hbA hW.2 hi269 dL_law_828 ?_
                                                      refine lv_aload_n C.1.1 C.1.2.1 dL_law_829 rfl (lv_at hl 0 rfl) ?_
                                                      refine lv_iload_n C.1.1 C.1.2.1 dL_law_830 rfl (lv_at hl 3 rfl) ?_
                                                      refine lv_iconst (v := 4) C.1.1 C.1.2.1 dL_law_831 (by decide) ?_
                                                      refine lv_iadd C.1.1 C.1.2.1 dL_law_832 ?_
                                                      obtain ⟨hi270, h⟩ := gi_some h
                                                      refine va_sld C.1.1 C.1.2.1 hX hbl hbA hW.2 hi270 dL_law_833 ?_
                                                      refine lv_aload_n C.1.1 C.1.2.1 dL_law_834 rfl (lv_at hl 0 rfl) ?_
                                                      refine lv_iload_n C.1.1 C.1.2.1 dL_law_835 rfl (lv_at hl 3 rfl) ?_
                                                      refine lv_iconst (v := 5) C.1.1 C.1.2.1 dL_law_836 (by decide) ?_
                                                      refine lv_iadd C.1.1 C.1.2.1 dL_law_837 ?_
                                                      obtain ⟨hi271, h⟩ := gi_some h
                                                      refine va_sld C.1.1 C.1.2.1 hX hbl hbA hW.2 hi271 dL_law_838 ?_
                                                      obtain ⟨r272, I273, L274, hc275, h⟩ := bd3_some h
                                                      refine w_callVl (k := 5) (As := [.int (xs (z3 + (1 : Int32)).toNatClampNeg), .int (xs (z3 + (2 : Int32)).toNatClampNeg), .int (xs (z3 + (3 : Int32)).toNatClampNeg), .int (xs (z3 + (4 : Int32)).toNatClampNeg), .int (xs (z3 + (5 : Int32)).toNatClampNeg)]) (rest := [.long r264]) C hW (c_X11_odds g l  hc275) (by decide) rfl (EX_11 (by decide)) K_L_109 (by decide +kernel) ⟨by decide, by decide⟩ ⟨Nat.le_refl _, Nat.le_refl _⟩ rfl hl.1 rfl (Nat.le_of_ble_eq_true rfl) dL_law_839 (fun H locs hW => ?_)
                                                      refine W.lcmp C.1.1 C.1.2.1 dL_law_842 ?_
                                                      refine lv_if_eq (tgt := 1497) C.1.1 C.1.2.1 dL_law_843 (by decide) (fun hc276 => ?_) (fun hc276 => ?_)
                                                      · replace h := ite_t hc276 h
                                                        obtain ⟨x277, ex277⟩ : ∃ y : Int32, y = z3 + (7 : Int32) := ⟨_, rfl⟩
                                                        replace h := nm_at ex277 h
                                                        refine lv_iinc (v := x277) (lv' := [(3, .int x277), (0, .ref b), (1, .ref (g.1 + 0)), (2, .ref (g.1 + 244))]) C.1.1 C.1.2.1 dL_law_1497 hl (k := 3) rfl (by rw [ex277]; rfl) (by decide) rfl (fun ls hl => ?_)
                                                        clear ex277
                                                        refine lv_goto (tgt := 18) C.1.1 C.1.2.1 dL_law_1500 (by decide) ?_
                                                        obtain rfl := Option.some.inj h
                                                        exact ih _ _ _ _ _ h9 _ _ _ hW (lv_sub hl [1, 2, 3, 0] rfl) hx0
                                                      · replace h := ite_f hc276 h
                                                        cases h
                                                    · replace h := ite_f hc258 h
                                                      by_cases hc278 : x3 = (23 : Int32)
                                                      · replace h := ite_t hc278 h
                                                        rw [hc278]
                                                        refine lv_tableIn (tgt := 848) C.1.1 C.1.2.1 dL_law_33 (by decide) (by decide) rfl (by decide) ?_
                                                        refine lv_aload_n C.1.1 C.1.2.1 dL_law_848 rfl (lv_at hl 1 rfl) ?_
                                                        refine lv_aload_n C.1.1 C.1.2.1 dL_law_849 rfl (lv_at hl 0 rfl) ?_
                                                        refine lv_iload_n C.1.1 C.1.2.1 dL_law_850 rfl (lv_at hl 3 rfl) ?_
                                                        refine lv_iconst (v := 1) C.1.1 C.1.2.1 dL_law_851 (by decide) ?_
                                                        refine lv_iadd C.1.1 C.1.2.1 dL_law_852 ?_
                                                        obtain ⟨hi279, h⟩ := gi_some h
                                                        refine va_sld C.1.1 C.1.2.1 hX hbl hbA hW.2 hi279 dL_law_853 ?_
                                                        refine lv_aload_n C.1.1 C.1.2.1 dL_law_854 rfl (lv_at hl 0 rfl) ?_
                                                        refine lv_iload_n C.1.1 C.1.2.1 dL_law_855 rfl (lv_at hl 3 rfl) ?_
                                                        refine lv_iconst (v := 2) C.1.1 C.1.2.1 dL_law_856 (by decide) ?_
                                                        refine lv_iadd C.1.1 C.1.2.1 dL_law_857 ?_
                                                        obtain ⟨hi280, h⟩ := gi_some h
                                                        refine va_sld C.1.1 C.1.2.1 hX hbl hbA hW.2 hi280 dL_law_858 ?_
                                                        refine lv_aload_n C.1.1 C.1.2.1 dL_law_859 rfl (lv_at hl 0 rfl) ?_
                                                        refine lv_iload_n C.1.1 C.1.2.1 dL_law_860 rfl (lv_at hl 3 rfl) ?_
                                                        refine lv_iconst (v := 3) C.1.1 C.1.2.1 dL_law_861 (by decide) ?_
                                                        refine lv_iadd C.1.1 C.1.2.1 dL_law_862 ?_
                                                        obtain ⟨hi281, h⟩ := gi_some h
                                                        refine va_sld C.1.1 C.1.2.1 hX hbl hbA hW.2 hi281 dL_law_863 ?_
                                                        obtain ⟨r282, I283, hc284, h⟩ := bd2_some h
                                                        refine w_callVi (k := 3) (As := [.int (xs (z3 + (1 : Int32)).toNatClampNeg), .int (xs (z3 + (2 : Int32)).toNatClampNeg), .int (xs (z3 + (3 : Int32)).toNatClampNeg)]) (rest := []) C hW (c_X10_challenge g l  hc284) (by decide) rfl (EX_10 (by decide)) K_L_110 (by decide +kernel) ⟨by decide, by decide⟩ ⟨Nat.le_refl _, Nat.le_refl _⟩ rfl hl.1 rfl (Nat.le_of_ble_eq_true rfl) dL_law_864 (fun H locs hW => ?_)
                                                        refine lv_aload_n C.1.1 C.1.2.1 dL_law_867 rfl (lv_at hl 2 rfl) ?_
                                                        refine lv_aload_n C.1.1 C.1.2.1 dL_law_868 rfl (lv_at hl 0 rfl) ?_
                                                        refine lv_iload_n C.1.1 C.1.2.1 dL_law_869 rfl (lv_at hl 3 rfl) ?_
                                                        refine lv_iconst (v := 1) C.1.1 C.1.2.1 dL_law_870 (by decide) ?_
                                                        refine lv_iadd C.1.1 C.1.2.1 dL_law_871 ?_
                                                        obtain ⟨hi285, h⟩ := gi_some h
                                                        refine va_sld C.1.1 C.1.2.1 hX hbl hbA hW.2 hi285 dL_law_872 ?_
                                                        refine lv_aload_n C.1.1 C.1.2.1 dL_law_873 rfl (lv_at hl 0 rfl) ?_
                                                        refine lv_iload_n C.1.1 C.1.2.1 dL_law_874 rfl (lv_at hl 3 rfl) ?_
                                                        refine lv_iconst (v := 2) C.1.1 C.1.2.1 dL_law_875 (by decide) ?_
                                                        refine lv_iadd C.1.1 C.1.2.1 dL_law_876 ?_
                                                        obtain ⟨hi286, h⟩ := gi_some h
                                                        refine va_sld C.1.1 C.1.2.1 hX hbl hbA hW.2 hi286 dL_law_877 ?_
                                                        refine lv_aload_n C.1.1 C.1.2.1 dL_law_878 rfl (lv_at hl 0 rfl) ?_
                                                        refine lv_iload_n C.1.1 C.1.2.1 dL_law_879 rfl (lv_at hl 3 rfl) ?_
                                                        refine lv_iconst (v := 3) C.1.1 C.1.2.1 dL_law_880 (by decide) ?_
                                                        refine lv_iadd C.1.1 C.1.2.1 dL_law_881 ?_
                                                        obtain ⟨hi287, h⟩ := gi_some h
                                                        refine va_sld C.1.1 C.1.2.1 hX hbl hbA hW.2 hi287 dL_law_882 ?_
                                                        obtain ⟨r288, I289, L290, hc291, h⟩ := bd3_some h
                                                        refine w_callVi (k := 3) (As := [.int (xs (z3 + (1 : Int32)).toNatClampNeg), .int (xs (z3 + (2 : Int32)).toNatClampNeg), .int (xs (z3 + (3 : Int32)).toNatClampNeg)]) (rest := [.int r282]) C hW (c_X11_challenge g l  hc291) (by decide) rfl (EX_11 (by decide)) K_L_113 (by decide +kernel) ⟨by decide, by decide⟩ ⟨Nat.le_refl _, Nat.le_refl _⟩ rfl hl.1 rfl (Nat.le_of_ble_eq_true rfl) dL_law_883 (fun H locs hW => ?_)
                                                        refine lv_icmp_eq (tgt := 1497) C.1.1 C.1.2.1 dL_law_886 (by decide) (fun hc292 => ?_) (fun hc292 => ?_)
                                                        · replace h := ite_t hc292 h
                                                          obtain ⟨x293, ex293⟩ : ∃ y : Int32, y = z3 + (7 : Int32) := ⟨_, rfl⟩
                                                          replace h := nm_at ex293 h
                                                          refine lv_iinc (v := x293) (lv' := [(3, .int x293), (0, .ref b), (1, .ref (g.1 + 0)), (2, .ref (g.1 + 244))]) C.1.1 C.1.2.1 dL_law_1497 hl (k := 3) rfl (by rw [ex293]; rfl) (by decide) rfl (fun ls hl => ?_)
                                                          clear ex293
                                                          refine lv_goto (tgt := 18) C.1.1 C.1.2.1 dL_law_1500 (by decide) ?_
                                                          obtain rfl := Option.some.inj h
                                                          exact ih _ _ _ _ _ h9 _ _ _ hW (lv_sub hl [1, 2, 3, 0] rfl) hx0
                                                        · replace h := ite_f hc292 h
                                                          cases h
                                                      · replace h := ite_f hc278 h
                                                        by_cases hc294 : x3 = (24 : Int32)
                                                        · replace h := ite_t hc294 h
                                                          rw [hc294]
                                                          refine lv_tableIn (tgt := 891) C.1.1 C.1.2.1 dL_law_33 (by decide) (by decide) rfl (by decide) ?_
                                                          refine lv_aload_n C.1.1 C.1.2.1 dL_law_891 rfl (lv_at hl 1 rfl) ?_
                                                          refine lv_aload_n C.1.1 C.1.2.1 dL_law_892 rfl (lv_at hl 0 rfl) ?_
                                                          refine lv_iload_n C.1.1 C.1.2.1 dL_law_893 rfl (lv_at hl 3 rfl) ?_
                                                          refine lv_iconst (v := 1) C.1.1 C.1.2.1 dL_law_894 (by decide) ?_
                                                          refine lv_iadd C.1.1 C.1.2.1 dL_law_895 ?_
                                                          obtain ⟨hi295, h⟩ := gi_some h
                                                          refine va_sld C.1.1 C.1.2.1 hX hbl hbA hW.2 hi295 dL_law_896 ?_
                                                          refine lv_aload_n C.1.1 C.1.2.1 dL_law_897 rfl (lv_at hl 0 rfl) ?_
                                                          refine lv_iload_n C.1.1 C.1.2.1 dL_law_898 rfl (lv_at hl 3 rfl) ?_
                                                          refine lv_iconst (v := 2) C.1.1 C.1.2.1 dL_law_899 (by decide) ?_
                                                          refine lv_iadd C.1.1 C.1.2.1 dL_law_900 ?_
                                                          obtain ⟨hi296, h⟩ := gi_some h
                                                          refine va_sld C.1.1 C.1.2.1 hX hbl hbA hW.2 hi296 dL_law_901 ?_
                                                          refine lv_aload_n C.1.1 C.1.2.1 dL_law_902 rfl (lv_at hl 0 rfl) ?_
                                                          refine lv_iload_n C.1.1 C.1.2.1 dL_law_903 rfl (lv_at hl 3 rfl) ?_
                                                          refine lv_iconst (v := 3) C.1.1 C.1.2.1 dL_law_904 (by decide) ?_
                                                          refine lv_iadd C.1.1 C.1.2.1 dL_law_905 ?_
                                                          obtain ⟨hi297, h⟩ := gi_some h
                                                          refine va_sld C.1.1 C.1.2.1 hX hbl hbA hW.2 hi297 dL_law_906 ?_
                                                          obtain ⟨r298, I299, hc300, h⟩ := bd2_some h
                                                          refine w_callVi (k := 3) (As := [.int (xs (z3 + (1 : Int32)).toNatClampNeg), .int (xs (z3 + (2 : Int32)).toNatClampNeg), .int (xs (z3 + (3 : Int32)).toNatClampNeg)]) (rest := []) C hW (c_X10_game g l  hc300) (by decide) rfl (EX_10 (by decide)) K_L_114 (by decide +kernel) ⟨by decide, by decide⟩ ⟨Nat.le_refl _, Nat.le_refl _⟩ rfl hl.1 rfl (Nat.le_of_ble_eq_true rfl) dL_law_907 (fun H locs hW => ?_)
                                                          refine lv_aload_n C.1.1 C.1.2.1 dL_law_910 rfl (lv_at hl 2 rfl) ?_
                                                          refine lv_aload_n C.1.1 C.1.2.1 dL_law_911 rfl (lv_at hl 0 rfl) ?_
                                                          refine lv_iload_n C.1.1 C.1.2.1 dL_law_912 rfl (lv_at hl 3 rfl) ?_
                                                          refine lv_iconst (v := 1) C.1.1 C.1.2.1 dL_law_913 (by decide) ?_
                                                          refine lv_iadd C.1.1 C.1.2.1 dL_law_914 ?_
                                                          obtain ⟨hi301, h⟩ := gi_some h
                                                          refine va_sld C.1.1 C.1.2.1 hX hbl hbA hW.2 hi301 dL_law_915 ?_
                                                          refine lv_aload_n C.1.1 C.1.2.1 dL_law_916 rfl (lv_at hl 0 rfl) ?_
                                                          refine lv_iload_n C.1.1 C.1.2.1 dL_law_917 rfl (lv_at hl 3 rfl) ?_
                                                          refine lv_iconst (v := 2) C.1.1 C.1.2.1 dL_law_918 (by decide) ?_
                                                          refine lv_iadd C.1.1 C.1.2.1 dL_law_919 ?_
                                                          obtain ⟨hi302, h⟩ := gi_some h
                                                          refine va_sld C.1.1 C.1.2.1 hX hbl hbA hW.2 hi302 dL_law_920 ?_
                                                          refine lv_aload_n C.1.1 C.1.2.1 dL_law_921 rfl (lv_at hl 0 rfl) ?_
                                                          refine lv_iload_n C.1.1 C.1.2.1 dL_law_922 rfl (lv_at hl 3 rfl) ?_
                                                          refine lv_iconst (v := 3) C.1.1 C.1.2.1 dL_law_923 (by decide) ?_
                                                          refine lv_iadd C.1.1 C.1.2.1 dL_law_924 ?_
                                                          obtain ⟨hi303, h⟩ := gi_some h
                                                          refine va_sld C.1.1 C.1.2.1 hX hbl hbA hW.2 hi303 dL_law_925 ?_
                                                          obtain ⟨r304, I305, hc306, h⟩ := bd2_some h
                                                          refine w_callVi (k := 3) (As := [.int (xs (z3 + (1 : Int32)).toNatClampNeg), .int (xs (z3 + (2 : Int32)).toNatClampNeg), .int (xs (z3 + (3 : Int32)).toNatClampNeg)]) (rest := [.int r298]) C hW (c_X11_game g l  hc306) (by decide) rfl (EX_11 (by decide)) K_L_117 (by decide +kernel) ⟨by decide, by decide⟩ ⟨Nat.le_refl _, Nat.le_refl _⟩ rfl hl.1 rfl (Nat.le_of_ble_eq_true rfl) dL_law_926 (fun H locs hW => ?_)
                                                          refine lv_icmp_eq (tgt := 1497) C.1.1 C.1.2.1 dL_law_929 (by decide) (fun hc307 => ?_) (fun hc307 => ?_)
                                                          · replace h := ite_t hc307 h
                                                            obtain ⟨x308, ex308⟩ : ∃ y : Int32, y = z3 + (7 : Int32) := ⟨_, rfl⟩
                                                            replace h := nm_at ex308 h
                                                            refine lv_iinc (v := x308) (lv' := [(3, .int x308), (0, .ref b), (1, .ref (g.1 + 0)), (2, .ref (g.1 + 244))]) C.1.1 C.1.2.1 dL_law_1497 hl (k := 3) rfl (by rw [ex308]; rfl) (by decide) rfl (fun ls hl => ?_)
                                                            clear ex308
                                                            refine lv_goto (tgt := 18) C.1.1 C.1.2.1 dL_law_1500 (by decide) ?_
                                                            obtain rfl := Option.some.inj h
                                                            exact ih _ _ _ _ _ h9 _ _ _ hW (lv_sub hl [1, 2, 3, 0] rfl) hx0
                                                          · replace h := ite_f hc307 h
                                                            cases h
                                                        · replace h := ite_f hc294 h
                                                          by_cases hc309 : x3 = (25 : Int32)
                                                          · replace h := ite_t hc309 h
                                                            rw [hc309]
                                                            refine lv_tableIn (tgt := 934) C.1.1 C.1.2.1 dL_law_33 (by decide) (by decide) rfl (by decide) ?_
                                                            refine lv_aload_n C.1.1 C.1.2.1 dL_law_934 rfl (lv_at hl 1 rfl) ?_
                                                            refine lv_aload_n C.1.1 C.1.2.1 dL_law_935 rfl (lv_at hl 0 rfl) ?_
                                                            refine lv_iload_n C.1.1 C.1.2.1 dL_law_936 rfl (lv_at hl 3 rfl) ?_
                                                            refine lv_iconst (v := 1) C.1.1 C.1.2.1 dL_law_937 (by decide) ?_
                                                            refine lv_iadd C.1.1 C.1.2.1 dL_law_938 ?_
                                                            obtain ⟨hi310, h⟩ := gi_some h
                                                            refine va_sld C.1.1 C.1.2.1 hX hbl hbA hW.2 hi310 dL_law_939 ?_
                                                            refine lv_aload_n C.1.1 C.1.2.1 dL_law_940 rfl (lv_at hl 0 rfl) ?_
                                                            refine lv_iload_n C.1.1 C.1.2.1 dL_law_941 rfl (lv_at hl 3 rfl) ?_
                                                            refine lv_iconst (v := 2) C.1.1 C.1.2.1 dL_law_942 (by decide) ?_
                                                            refine lv_iadd C.1.1 C.1.2.1 dL_law_943 ?_
                                                            obtain ⟨hi311, h⟩ := gi_some h
                                                            refine va_sld C.1.1 C.1.2.1 hX hbl hbA hW.2 hi311 dL_law_944 ?_
                                                            refine lv_aload_n C.1.1 C.1.2.1 dL_law_945 rfl (lv_at hl 0 rfl) ?_
                                                            refine lv_iload_n C.1.1 C.1.2.1 dL_law_946 rfl (lv_at hl 3 rfl) ?_
                                                            refine lv_iconst (v := 3) C.1.1 C.1.2.1 dL_law_947 (by decide) ?_
                                                            refine lv_iadd C.1.1 C.1.2.1 dL_law_948 ?_
                                                            obtain ⟨hi312, h⟩ := gi_some h
                                                            refine va_sld C.1.1 C.1.2.1 hX hbl hbA hW.2 hi312 dL_law_949 ?_
                                                            obtain ⟨r313, I314, L315, hc316, h⟩ := bd3_some h
                                                            refine w_callVi (k := 3) (As := [.int (xs (z3 + (1 : Int32)).toNatClampNeg), .int (xs (z3 + (2 : Int32)).toNatClampNeg), .int (xs (z3 + (3 : Int32)).toNatClampNeg)]) (rest := []) C hW (c_X10_sheet g l  hc316) (by decide) rfl (EX_10 (by decide)) K_L_118 (by decide +kernel) ⟨by decide, by decide⟩ ⟨Nat.le_refl _, Nat.le_refl _⟩ rfl hl.1 rfl (Nat.le_of_ble_eq_true rfl) dL_law_950 (fun H locs hW => ?_)
                                                            refine lv_aload_n C.1.1 C.1.2.1 dL_law_953 rfl (lv_at hl 2 rfl) ?_
                                                            refine lv_aload_n C.1.1 C.1.2.1 dL_law_954 rfl (lv_at hl 0 rfl) ?_
                                                            refine lv_iload_n C.1.1 C.1.2.1 dL_law_955 rfl (lv_at hl 3 rfl) ?_
                                                            refine lv_iconst (v := 1) C.1.1 C.1.2.1 dL_law_956 (by decide) ?_
                                                            refine lv_iadd C.1.1 C.1.2.1 dL_law_957 ?_
                                                            obtain ⟨hi317, h⟩ := gi_some h
                                                            refine va_sld C.1.1 C.1.2.1 hX hbl hbA hW.2 hi317 dL_law_958 ?_
                                                            refine lv_aload_n C.1.1 C.1.2.1 dL_law_959 rfl (lv_at hl 0 rfl) ?_
                                                            refine lv_iload_n C.1.1 C.1.2.1 dL_law_960 rfl (lv_at hl 3 rfl) ?_
                                                            refine lv_iconst (v := 2) C.1.1 C.1.2.1 dL_law_961 (by decide) ?_
                                                            refine lv_iadd C.1.1 C.1.2.1 dL_law_962 ?_
                                                            obtain ⟨hi318, h⟩ := gi_some h
                                                            refine va_sld C.1.1 C.1.2.1 hX hbl hbA hW.2 hi318 dL_law_963 ?_
                                                            refine lv_aload_n C.1.1 C.1.2.1 dL_law_964 rfl (lv_at hl 0 rfl) ?_
                                                            refine lv_iload_n C.1.1 C.1.2.1 dL_law_965 rfl (lv_at hl 3 rfl) ?_
                                                            refine lv_iconst (v := 3) C.1.1 C.1.2.1 dL_law_966 (by decide) ?_
                                                            refine lv_iadd C.1.1 C.1.2.1 dL_law_967 ?_
                                                            obtain ⟨hi319, h⟩ := gi_some h
                                                            refine va_sld C.1.1 C.1.2.1 hX hbl hbA hW.2 hi319 dL_law_968 ?_
                                                            obtain ⟨r320, I321, L322, hc323, h⟩ := bd3_some h
                                                            refine w_callVi (k := 3) (As := [.int (xs (z3 + (1 : Int32)).toNatClampNeg), .int (xs (z3 + (2 : Int32)).toNatClampNeg), .int (xs (z3 + (3 : Int32)).toNatClampNeg)]) (rest := [.int r313]) C hW (c_X11_sheet g l  hc323) (by decide) rfl (EX_11 (by decide)) K_L_121 (by decide +kernel) ⟨by decide, by decide⟩ ⟨Nat.le_refl _, Nat.le_refl _⟩ rfl hl.1 rfl (Nat.le_of_ble_eq_true rfl) dL_law_969 (fun H locs hW => ?_)
                                                            refine lv_icmp_eq (tgt := 1497) C.1.1 C.1.2.1 dL_law_972 (by decide) (fun hc324 => ?_) (fun hc324 => ?_)
                                                            · replace h := ite_t hc324 h
                                                              obtain ⟨x325, ex325⟩ : ∃ y : Int32, y = z3 + (7 : Int32) := ⟨_, rfl⟩
                                                              replace h := nm_at ex325 h
                                                              refine lv_iinc (v := x325) (lv' := [(3, .int x325), (0, .ref b), (1, .ref (g.1 + 0)), (2, .ref (g.1 + 244))]) C.1.1 C.1.2.1 dL_law_1497 hl (k := 3) rfl (by rw [ex325]; rfl) (by decide) rfl (fun ls hl => ?_)
                                                              clear ex325
                                                              refine lv_goto (tgt := 18) C.1.1 C.1.2.1 dL_law_1500 (by decide) ?_
                                                              obtain rfl := Option.some.inj h
                                                              exact ih _ _ _ _ _ h9 _ _ _ hW (lv_sub hl [1, 2, 3, 0] rfl) hx0
                                                            · replace h := ite_f hc324 h
                                                              cases h
                                                          · replace h := ite_f hc309 h
                                                            by_cases hc326 : x3 = (26 : Int32)
                                                            · replace h := ite_t hc326 h
                                                              rw [hc326]
                                                              refine lv_tableIn (tgt := 977) C.1.1 C.1.2.1 dL_law_33 (by decide) (by decide) rfl (by decide) ?_
                                                              refine lv_aload_n C.1.1 C.1.2.1 dL_law_977 rfl (lv_at hl 1 rfl) ?_
                                                              refine lv_aload_n C.1.1 C.1.2.1 dL_law_978 rfl (lv_at hl 0 rfl) ?_
                                                              refine lv_iload_n C.1.1 C.1.2.1 dL_law_979 rfl (lv_at hl 3 rfl) ?_
                                                              refine lv_iconst (v := 1) C.1.1 C.1.2.1 dL_law_980 (by decide) ?_
                                                              refine lv_iadd C.1.1 C.1.2.1 dL_law_981 ?_
                                                              obtain ⟨hi327, h⟩ := gi_some h
                                                              refine va_sld C.1.1 C.1.2.1 hX hbl hbA hW.2 hi327 dL_law_982 ?_
                                                              obtain ⟨r328, I329, hc330, h⟩ := bd2_some h
                                                              refine w_callVi (k := 1) (As := [.int (xs (z3 + (1 : Int32)).toNatClampNeg)]) (rest := []) C hW (c_X10_drop g l  hc330) (by decide) rfl (EX_10 (by decide)) K_L_122 (by decide +kernel) ⟨by decide, by decide⟩ ⟨Nat.le_refl _, Nat.le_refl _⟩ rfl hl.1 rfl (Nat.le_of_ble_eq_true rfl) dL_law_983 (fun H locs hW => ?_)
                                                              refine lv_aload_n C.1.1 C.1.2.1 dL_law_986 rfl (lv_at hl 2 rfl) ?_
                                                              refine lv_aload_n C.1.1 C.1.2.1 dL_law_987 rfl (lv_at hl 0 rfl) ?_
                                                              refine lv_iload_n C.1.1 C.1.2.1 dL_law_988 rfl (lv_at hl 3 rfl) ?_
                                                              refine lv_iconst (v := 1) C.1.1 C.1.2.1 dL_law_989 (by decide) ?_
                                                              refine lv_iadd C.1.1 C.1.2.1 dL_law_990 ?_
                                                              obtain ⟨hi331, h⟩ := gi_some h
                                                              refine va_sld C.1.1 C.1.2.1 hX hbl hbA hW.2 hi331 dL_law_991 ?_
                                                              obtain ⟨r332, I333, hc334, h⟩ := bd2_some h
                                                              refine w_callVi (k := 1) (As := [.int (xs (z3 + (1 : Int32)).toNatClampNeg)]) (rest := [.int r328]) C hW (c_X11_drop g l  hc334) (by decide) rfl (EX_11 (by decide)) K_L_125 (by decide +kernel) ⟨by decide, by decide⟩ ⟨Nat.le_refl _, Nat.le_refl _⟩ rfl hl.1 rfl (Nat.le_of_ble_eq_true rfl) dL_law_992 (fun H locs hW => ?_)
                                                              refine lv_icmp_eq (tgt := 1497) C.1.1 C.1.2.1 dL_law_995 (by decide) (fun hc335 => ?_) (fun hc335 => ?_)
                                                              · replace h := ite_t hc335 h
                                                                obtain ⟨x336, ex336⟩ : ∃ y : Int32, y = z3 + (7 : Int32) := ⟨_, rfl⟩
                                                                replace h := nm_at ex336 h
                                                                refine lv_iinc (v := x336) (lv' := [(3, .int x336), (0, .ref b), (1, .ref (g.1 + 0)), (2, .ref (g.1 + 244))]) C.1.1 C.1.2.1 dL_law_1497 hl (k := 3) rfl (by rw [ex336]; rfl) (by decide) rfl (fun ls hl => ?_)
                                                                clear ex336
                                                                refine lv_goto (tgt := 18) C.1.1 C.1.2.1 dL_law_1500 (by decide) ?_
                                                                obtain rfl := Option.some.inj h
                                                                exact ih _ _ _ _ _ h9 _ _ _ hW (lv_sub hl [1, 2, 3, 0] rfl) hx0
                                                              · replace h := ite_f hc335 h
                                                                cases h
                                                            · replace h := ite_f hc326 h
                                                              by_cases hc337 : x3 = (27 : Int32)
                                                              · replace h := ite_t hc337 h
                                                                rw [hc337]
                                                                refine lv_tableIn (tgt := 1000) C.1.1 C.1.2.1 dL_law_33 (by decide) (by decide) rfl (by decide) ?_
                                                                refine lv_aload_n C.1.1 C.1.2.1 dL_law_1000 rfl (lv_at hl 1 rfl) ?_
                                                                refine lv_aload_n C.1.1 C.1.2.1 dL_law_1001 rfl (lv_at hl 0 rfl) ?_
                                                                refine lv_iload_n C.1.1 C.1.2.1 dL_law_1002 rfl (lv_at hl 3 rfl) ?_
                                                                refine lv_iconst (v := 1) C.1.1 C.1.2.1 dL_law_1003 (by decide) ?_
                                                                refine lv_iadd C.1.1 C.1.2.1 dL_law_1004 ?_
                                                                obtain ⟨hi338, h⟩ := gi_some h
                                                                refine va_sld C.1.1 C.1.2.1 hX hbl hbA hW.2 hi338 dL_law_1005 ?_
                                                                refine lv_aload_n C.1.1 C.1.2.1 dL_law_1006 rfl (lv_at hl 0 rfl) ?_
                                                                refine lv_iload_n C.1.1 C.1.2.1 dL_law_1007 rfl (lv_at hl 3 rfl) ?_
                                                                refine lv_iconst (v := 2) C.1.1 C.1.2.1 dL_law_1008 (by decide) ?_
                                                                refine lv_iadd C.1.1 C.1.2.1 dL_law_1009 ?_
                                                                obtain ⟨hi339, h⟩ := gi_some h
                                                                refine va_sld C.1.1 C.1.2.1 hX hbl hbA hW.2 hi339 dL_law_1010 ?_
                                                                refine lv_aload_n C.1.1 C.1.2.1 dL_law_1011 rfl (lv_at hl 0 rfl) ?_
                                                                refine lv_iload_n C.1.1 C.1.2.1 dL_law_1012 rfl (lv_at hl 3 rfl) ?_
                                                                refine lv_iconst (v := 3) C.1.1 C.1.2.1 dL_law_1013 (by decide) ?_
                                                                refine lv_iadd C.1.1 C.1.2.1 dL_law_1014 ?_
                                                                obtain ⟨hi340, h⟩ := gi_some h
                                                                refine va_sld C.1.1 C.1.2.1 hX hbl hbA hW.2 hi340 dL_law_1015 ?_
                                                                refine lv_aload_n C.1.1 C.1.2.1 dL_law_1016 rfl (lv_at hl 0 rfl) ?_
                                                                refine lv_iload_n C.1.1 C.1.2.1 dL_law_1017 rfl (lv_at hl 3 rfl) ?_
                                                                refine lv_iconst (v := 4) C.1.1 C.1.2.1 dL_law_1018 (by decide) ?_
                                                                refine lv_iadd C.1.1 C.1.2.1 dL_law_1019 ?_
                                                                obtain ⟨hi341, h⟩ := gi_some h
                                                                refine va_sld C.1.1 C.1.2.1 hX hbl hbA hW.2 hi341 dL_law_1020 ?_
                                                                refine lv_i2l C.1.1 C.1.2.1 dL_law_1021 rfl ?_
                                                                refine lv_bipush (v := 32) C.1.1 C.1.2.1 dL_law_1022 (by decide) ?_
                                                                refine lv_lshl C.1.1 C.1.2.1 dL_law_1024 rfl ?_
                                                                refine lv_aload_n C.1.1 C.1.2.1 dL_law_1025 rfl (lv_at hl 0 rfl) ?_
                                                                refine lv_iload_n C.1.1 C.1.2.1 dL_law_1026 rfl (lv_at hl 3 rfl) ?_
                                                                refine lv_iconst (v := 5) C.1.1 C.1.2.1 dL_law_1027 (by decide) ?_
                                                                refine lv_iadd C.1.1 C.1.2.1 dL_law_1028 ?_
                                                                obtain ⟨hi342, h⟩ := gi_some h
                                                                refine va_sld C.1.1 C.1.2.1 hX hbl hbA hW.2 hi342 dL_law_1029 ?_
                                                                refine lv_i2l C.1.1 C.1.2.1 dL_law_1030 rfl ?_
                                                                refine lv_ldc2 C.1.1 C.1.2.1 C.1.2.2.2.1 (C.1.2.2.2.2 _ kl_L_126) dL_law_1031 ?_
                                                                refine lv_land C.1.1 C.1.2.1 dL_law_1034 ?_
                                                                refine lv_lor C.1.1 C.1.2.1 dL_law_1035 ?_
                                                                obtain ⟨r343, L344, hc345, h⟩ := bd2_some h
                                                                refine w_callVl (k := 4) (As := [.int (xs (z3 + (1 : Int32)).toNatClampNeg), .int (xs (z3 + (2 : Int32)).toNatClampNeg), .int (xs (z3 + (3 : Int32)).toNatClampNeg), .long ((((xs (z3 + (4 : Int32)).toNatClampNeg).toInt64) <<< ((32 : Int32).toInt64 &&& (63 : Int64))) ||| (((xs (z3 + (5 : Int32)).toNatClampNeg).toInt64) &&& (4294967295 : Int64)))]) (rest := []) C hW (c_X10_item g l  hc345) (by decide) rfl (EX_10 (by decide)) K_L_128 (by decide +kernel) ⟨by decide, by decide⟩ ⟨Nat.le_refl _, Nat.le_refl _⟩ rfl hl.1 rfl (Nat.le_of_ble_eq_true rfl) dL_law_1036 (fun H locs hW => ?_)
                                                                refine lv_aload_n C.1.1 C.1.2.1 dL_law_1039 rfl (lv_at hl 2 rfl) ?_
                                                                refine lv_aload_n C.1.1 C.1.2.1 dL_law_1040 rfl (lv_at hl 0 rfl) ?_
                                                                refine lv_iload_n C.1.1 C.1.2.1 dL_law_1041 rfl (lv_at hl 3 rfl) ?_
                                                                refine lv_iconst (v := 1) C.1.1 C.1.2.1 dL_law_1042 (by decide) ?_
                                                                refine lv_iadd C.1.1 C.1.2.1 dL_law_1043 ?_
                                                                obtain ⟨hi346, h⟩ := gi_some h
                                                                refine va_sld C.1.1 C.1.2.1 hX hbl hbA hW.2 hi346 dL_law_1044 ?_
                                                                refine lv_aload_n C.1.1 C.1.2.1 dL_law_1045 rfl (lv_at hl 0 rfl) ?_
                                                                refine lv_iload_n C.1.1 C.1.2.1 dL_law_1046 rfl (lv_at hl 3 rfl) ?_
                                                                refine lv_iconst (v := 2) C.1.1 C.1.2.1 dL_law_1047 (by decide) ?_
                                                                refine lv_iadd C.1.1 C.1.2.1 dL_law_1048 ?_
                                                                obtain ⟨hi347, h⟩ := gi_some h
                                                                refine va_sld C.1.1 C.1.2.1 hX hbl hbA hW.2 hi347 dL_law_1049 ?_
                                                                refine lv_aload_n C.1.1 C.1.2.1 dL_law_1050 rfl (lv_at hl 0 rfl) ?_
                                                                refine lv_iload_n C.1.1 C.1.2.1 dL_law_1051 rfl (lv_at hl 3 rfl) ?_
                                                                refine lv_iconst (v := 3) C.1.1 C.1.2.1 dL_law_1052 (by decide) ?_
                                                                refine lv_iadd C.1.1 C.1.2.1 dL_law_1053 ?_
                                                                obtain ⟨hi348, h⟩ := gi_some h
                                                                refine va_sld C.1.1 C.1.2.1 hX hbl hbA hW.2 hi348 dL_law_1054 ?_
                                                                refine lv_aload_n C.1.1 C.1.2.1 dL_law_1055 rfl (lv_at hl 0 rfl) ?_
                                                                refine lv_iload_n C.1.1 C.1.2.1 dL_law_1056 rfl (lv_at hl 3 rfl) ?_
                                                                refine lv_iconst (v := 4) C.1.1 C.1.2.1 dL_law_1057 (by decide) ?_
                                                                refine lv_iadd C.1.1 C.1.2.1 dL_law_1058 ?_
                                                                obtain ⟨hi349, h⟩ := gi_some h
                                                                refine va_sld C.1.1 C.1.2.1 hX hbl hbA hW.2 hi349 dL_law_1059 ?_
                                                                refine lv_i2l C.1.1 C.1.2.1 dL_law_1060 rfl ?_
                                                                refine lv_bipush (v := 32) C.1.1 C.1.2.1 dL_law_1061 (by decide) ?_
                                                                refine lv_lshl C.1.1 C.1.2.1 dL_law_1063 rfl ?_
                                                                refine lv_aload_n C.1.1 C.1.2.1 dL_law_1064 rfl (lv_at hl 0 rfl) ?_
                                                                refine lv_iload_n C.1.1 C.1.2.1 dL_law_1065 rfl (lv_at hl 3 rfl) ?_
                                                                refine lv_iconst (v := 5) C.1.1 C.1.2.1 dL_law_1066 (by decide) ?_
                                                                refine lv_iadd C.1.1 C.1.2.1 dL_law_1067 ?_
                                                                obtain ⟨hi350, h⟩ := gi_some h
                                                                refine va_sld C.1.1 C.1.2.1 hX hbl hbA hW.2 hi350 dL_law_1068 ?_
                                                                refine lv_i2l C.1.1 C.1.2.1 dL_law_1069 rfl ?_
                                                                refine lv_ldc2 C.1.1 C.1.2.1 C.1.2.2.2.1 (C.1.2.2.2.2 _ kl_L_126) dL_law_1070 ?_
                                                                refine lv_land C.1.1 C.1.2.1 dL_law_1073 ?_
                                                                refine lv_lor C.1.1 C.1.2.1 dL_law_1074 ?_
                                                                obtain ⟨r351, L352, hc353, h⟩ := bd2_some h
                                                                refine w_callVl (k := 4) (As := [.int (xs (z3 + (1 : Int32)).toNatClampNeg), .int (xs (z3 + (2 : Int32)).toNatClampNeg), .int (xs (z3 + (3 : Int32)).toNatClampNeg), .long ((((xs (z3 + (4 : Int32)).toNatClampNeg).toInt64) <<< ((32 : Int32).toInt64 &&& (63 : Int64))) ||| (((xs (z3 + (5 : Int32)).toNatClampNeg).toInt64) &&& (4294967295 : Int64)))]) (rest := [.long r343]) C hW (c_X11_item g l  hc353) (by decide) rfl (EX_11 (by decide)) K_L_132 (by decide +kernel) ⟨by decide, by decide⟩ ⟨Nat.le_refl _, Nat.le_refl _⟩ rfl hl.1 rfl (Nat.le_of_ble_eq_true rfl) dL_law_1075 (fun H locs hW => ?_)
                                                                refine W.lcmp C.1.1 C.1.2.1 dL_law_1078 ?_
                                                                refine lv_if_eq (tgt := 1497) C.1.1 C.1.2.1 dL_law_1079 (by decide) (fun hc354 => ?_) (fun hc354 => ?_)
                                                                · replace h := ite_t hc354 h
                                                                  obtain ⟨x355, ex355⟩ : ∃ y : Int32, y = z3 + (7 : Int32) := ⟨_, rfl⟩
                                                                  replace h := nm_at ex355 h
                                                                  refine lv_iinc (v := x355) (lv' := [(3, .int x355), (0, .ref b), (1, .ref (g.1 + 0)), (2, .ref (g.1 + 244))]) C.1.1 C.1.2.1 dL_law_1497 hl (k := 3) rfl (by rw [ex355]; rfl) (by decide) rfl (fun ls hl => ?_)
                                                                  clear ex355
                                                                  refine lv_goto (tgt := 18) C.1.1 C.1.2.1 dL_law_1500 (by decide) ?_
                                                                  obtain rfl := Option.some.inj h
                                                                  exact ih _ _ _ _ _ h9 _ _ _ hW (lv_sub hl [1, 2, 3, 0] rfl) hx0
                                                                · replace h := ite_f hc354 h
                                                                  cases h
                                                              · replace h := ite_f hc337 h
                                                                by_cases hc356 : x3 = (28 : Int32)
                                                                · replace h := ite_t hc356 h
                                                                  rw [hc356]
                                                                  refine lv_tableIn (tgt := 1084) C.1.1 C.1.2.1 dL_law_33 (by decide) (by decide) rfl (by decide) ?_
                                                                  refine lv_aload_n C.1.1 C.1.2.1 dL_law_1084 rfl (lv_at hl 1 rfl) ?_
                                                                  refine lv_aload_n C.1.1 C.1.2.1 dL_law_1085 rfl (lv_at hl 0 rfl) ?_
                                                                  refine lv_iload_n C.1.1 C.1.2.1 dL_law_1086 rfl (lv_at hl 3 rfl) ?_
                                                                  refine lv_iconst (v := 1) C.1.1 C.1.2.1 dL_law_1087 (by decide) ?_
                                                                  refine lv_iadd C.1.1 C.1.2.1 dL_law_1088 ?_
                                                                  obtain ⟨hi357, h⟩ := gi_some h
                                                                  refine va_sld C.1.1 C.1.2.1 hX hbl hbA hW.2 hi357 dL_law_1089 ?_
                                                                  refine lv_aload_n C.1.1 C.1.2.1 dL_law_1090 rfl (lv_at hl 0 rfl) ?_
                                                                  refine lv_iload_n C.1.1 C.1.2.1 dL_law_1091 rfl (lv_at hl 3 rfl) ?_
                                                                  refine lv_iconst (v := 2) C.1.1 C.1.2.1 dL_law_1092 (by decide) ?_
                                                                  refine lv_iadd C.1.1 C.1.2.1 dL_law_1093 ?_
                                                                  obtain ⟨hi358, h⟩ := gi_some h
                                                                  refine va_sld C.1.1 C.1.2.1 hX hbl hbA hW.2 hi358 dL_law_1094 ?_
                                                                  refine lv_aload_n C.1.1 C.1.2.1 dL_law_1095 rfl (lv_at hl 0 rfl) ?_
                                                                  refine lv_iload_n C.1.1 C.1.2.1 dL_law_1096 rfl (lv_at hl 3 rfl) ?_
                                                                  refine lv_iconst (v := 3) C.1.1 C.1.2.1 dL_law_1097 (by decide) ?_
                                                                  refine lv_iadd C.1.1 C.1.2.1 dL_law_1098 ?_
                                                                  obtain ⟨hi359, h⟩ := gi_some h
                                                                  refine va_sld C.1.1 C.1.2.1 hX hbl hbA hW.2 hi359 dL_law_1099 ?_
                                                                  refine lv_aload_n C.1.1 C.1.2.1 dL_law_1100 rfl (lv_at hl 0 rfl) ?_
                                                                  refine lv_iload_n C.1.1 C.1.2.1 dL_law_1101 rfl (lv_at hl 3 rfl) ?_
                                                                  refine lv_iconst (v := 4) C.1.1 C.1.2.1 dL_law_1102 (by decide) ?_
                                                                  refine lv_iadd C.1.1 C.1.2.1 dL_law_1103 ?_
                                                                  obtain ⟨hi360, h⟩ := gi_some h
                                                                  refine va_sld C.1.1 C.1.2.1 hX hbl hbA hW.2 hi360 dL_law_1104 ?_
                                                                  refine lv_aload_n C.1.1 C.1.2.1 dL_law_1105 rfl (lv_at hl 0 rfl) ?_
                                                                  refine lv_iload_n C.1.1 C.1.2.1 dL_law_1106 rfl (lv_at hl 3 rfl) ?_
                                                                  refine lv_iconst (v := 5) C.1.1 C.1.2.1 dL_law_1107 (by decide) ?_
                                                                  refine lv_iadd C.1.1 C.1.2.1 dL_law_1108 ?_
                                                                  obtain ⟨hi361, h⟩ := gi_some h
                                                                  refine va_sld C.1.1 C.1.2.1 hX hbl hbA hW.2 hi361 dL_law_1109 ?_
                                                                  obtain ⟨r362, L363, hc364, h⟩ := bd2_some h
                                                                  refine w_callVi (k := 5) (As := [.int (xs (z3 + (1 : Int32)).toNatClampNeg), .int (xs (z3 + (2 : Int32)).toNatClampNeg), .int (xs (z3 + (3 : Int32)).toNatClampNeg), .int (xs (z3 + (4 : Int32)).toNatClampNeg), .int (xs (z3 + (5 : Int32)).toNatClampNeg)]) (rest := []) C hW (c_X10_copy g l  hc364) (by decide) rfl (EX_10 (by decide)) K_L_133 (by decide +kernel) ⟨by decide, by decide⟩ ⟨Nat.le_refl _, Nat.le_refl _⟩ rfl hl.1 rfl (Nat.le_of_ble_eq_true rfl) dL_law_1110 (fun H locs hW => ?_)
                                                                  refine lv_aload_n C.1.1 C.1.2.1 dL_law_1113 rfl (lv_at hl 2 rfl) ?_
                                                                  refine lv_aload_n C.1.1 C.1.2.1 dL_law_1114 rfl (lv_at hl 0 rfl) ?_
                                                                  refine lv_iload_n C.1.1 C.1.2.1 dL_law_1115 rfl (lv_at hl 3 rfl) ?_
                                                                  refine lv_iconst (v := 1) C.1.1 C.1.2.1 dL_law_1116 (by decide) ?_
                                                                  refine lv_iadd C.1.1 C.1.2.1 dL_law_1117 ?_
                                                                  obtain ⟨hi365, h⟩ := gi_some h
                                                                  refine va_sld C.1.1 C.1.2.1 hX hbl hbA hW.2 hi365 dL_law_1118 ?_
                                                                  refine lv_aload_n C.1.1 C.1.2.1 dL_law_1119 rfl (lv_at hl 0 rfl) ?_
                                                                  refine lv_iload_n C.1.1 C.1.2.1 dL_law_1120 rfl (lv_at hl 3 rfl) ?_
                                                                  refine lv_iconst (v := 2) C.1.1 C.1.2.1 dL_law_1121 (by decide) ?_
                                                                  refine lv_iadd C.1.1 C.1.2.1 dL_law_1122 ?_
                                                                  obtain ⟨hi366, h⟩ := gi_some h
                                                                  refine va_sld C.1.1 C.1.2.1 hX hbl hbA hW.2 hi366 dL_law_1123 ?_
                                                                  refine lv_aload_n C.1.1 C.1.2.1 dL_law_1124 rfl (lv_at hl 0 rfl) ?_
                                                                  refine lv_iload_n C.1.1 C.1.2.1 dL_law_1125 rfl (lv_at hl 3 rfl) ?_
                                                                  refine lv_iconst (v := 3) C.1.1 C.1.2.1 dL_law_1126 (by decide) ?_
                                                                  refine lv_iadd C.1.1 C.1.2.1 dL_law_1127 ?_
                                                                  obtain ⟨hi367, h⟩ := gi_some h
                                                                  refine va_sld C.1.1 C.1.2.1 hX hbl hbA hW.2 hi367 dL_law_1128 ?_
                                                                  refine lv_aload_n C.1.1 C.1.2.1 dL_law_1129 rfl (lv_at hl 0 rfl) ?_
                                                                  refine lv_iload_n C.1.1 C.1.2.1 dL_law_1130 rfl (lv_at hl 3 rfl) ?_
                                                                  refine lv_iconst (v := 4) C.1.1 C.1.2.1 dL_law_1131 (by decide) ?_
                                                                  refine lv_iadd C.1.1 C.1.2.1 dL_law_1132 ?_
                                                                  obtain ⟨hi368, h⟩ := gi_some h
                                                                  refine va_sld C.1.1 C.1.2.1 hX hbl hbA hW.2 hi368 dL_law_1133 ?_
                                                                  refine lv_aload_n C.1.1 C.1.2.1 dL_law_1134 rfl (lv_at hl 0 rfl) ?_
                                                                  refine lv_iload_n C.1.1 C.1.2.1 dL_law_1135 rfl (lv_at hl 3 rfl) ?_
                                                                  refine lv_iconst (v := 5) C.1.1 C.1.2.1 dL_law_1136 (by decide) ?_
                                                                  refine lv_iadd C.1.1 C.1.2.1 dL_law_1137 ?_
                                                                  obtain ⟨hi369, h⟩ := gi_some h
                                                                  refine va_sld C.1.1 C.1.2.1 hX hbl hbA hW.2 hi369 dL_law_1138 ?_
                                                                  obtain ⟨r370, L371, hc372, h⟩ := bd2_some h
                                                                  refine w_callVi (k := 5) (As := [.int (xs (z3 + (1 : Int32)).toNatClampNeg), .int (xs (z3 + (2 : Int32)).toNatClampNeg), .int (xs (z3 + (3 : Int32)).toNatClampNeg), .int (xs (z3 + (4 : Int32)).toNatClampNeg), .int (xs (z3 + (5 : Int32)).toNatClampNeg)]) (rest := [.int r362]) C hW (c_X11_copy g l  hc372) (by decide) rfl (EX_11 (by decide)) K_L_137 (by decide +kernel) ⟨by decide, by decide⟩ ⟨Nat.le_refl _, Nat.le_refl _⟩ rfl hl.1 rfl (Nat.le_of_ble_eq_true rfl) dL_law_1139 (fun H locs hW => ?_)
                                                                  refine lv_icmp_eq (tgt := 1497) C.1.1 C.1.2.1 dL_law_1142 (by decide) (fun hc373 => ?_) (fun hc373 => ?_)
                                                                  · replace h := ite_t hc373 h
                                                                    obtain ⟨x374, ex374⟩ : ∃ y : Int32, y = z3 + (7 : Int32) := ⟨_, rfl⟩
                                                                    replace h := nm_at ex374 h
                                                                    refine lv_iinc (v := x374) (lv' := [(3, .int x374), (0, .ref b), (1, .ref (g.1 + 0)), (2, .ref (g.1 + 244))]) C.1.1 C.1.2.1 dL_law_1497 hl (k := 3) rfl (by rw [ex374]; rfl) (by decide) rfl (fun ls hl => ?_)
                                                                    clear ex374
                                                                    refine lv_goto (tgt := 18) C.1.1 C.1.2.1 dL_law_1500 (by decide) ?_
                                                                    obtain rfl := Option.some.inj h
                                                                    exact ih _ _ _ _ _ h9 _ _ _ hW (lv_sub hl [1, 2, 3, 0] rfl) hx0
                                                                  · replace h := ite_f hc373 h
                                                                    cases h
                                                                · replace h := ite_f hc356 h
                                                                  by_cases hc375 : x3 = (29 : Int32)
                                                                  · replace h := ite_t hc375 h
                                                                    rw [hc375]
                                                                    refine lv_tableIn (tgt := 1147) C.1.1 C.1.2.1 dL_law_33 (by decide) (by decide) rfl (by decide) ?_
                                                                    refine lv_aload_n C.1.1 C.1.2.1 dL_law_1147 rfl (lv_at hl 1 rfl) ?_
                                                                    refine lv_aload_n C.1.1 C.1.2.1 dL_law_1148 rfl (lv_at hl 0 rfl) ?_
                                                                    refine lv_iload_n C.1.1 C.1.2.1 dL_law_1149 rfl (lv_at hl 3 rfl) ?_
                                                                    refine lv_iconst (v := 1) C.1.1 C.1.2.1 dL_law_1150 (by decide) ?_
                                                                    refine lv_iadd C.1.1 C.1.2.1 dL_law_1151 ?_
                                                                    obtain ⟨hi376, h⟩ := gi_some h
                                                                    refine va_sld C.1.1 C.1.2.1 hX hbl hbA hW.2 hi376 dL_law_1152 ?_
                                                                    refine lv_aload_n C.1.1 C.1.2.1 dL_law_1153 rfl (lv_at hl 0 rfl) ?_
                                                                    refine lv_iload_n C.1.1 C.1.2.1 dL_law_1154 rfl (lv_at hl 3 rfl) ?_
                                                                    refine lv_iconst (v := 2) C.1.1 C.1.2.1 dL_law_1155 (by decide) ?_
                                                                    refine lv_iadd C.1.1 C.1.2.1 dL_law_1156 ?_
                                                                    obtain ⟨hi377, h⟩ := gi_some h
                                                                    refine va_sld C.1.1 C.1.2.1 hX hbl hbA hW.2 hi377 dL_law_1157 ?_
                                                                    refine lv_aload_n C.1.1 C.1.2.1 dL_law_1158 rfl (lv_at hl 0 rfl) ?_
                                                                    refine lv_iload_n C.1.1 C.1.2.1 dL_law_1159 rfl (lv_at hl 3 rfl) ?_
                                                                    refine lv_iconst (v := 3) C.1.1 C.1.2.1 dL_law_1160 (by decide) ?_
                                                                    refine lv_iadd C.1.1 C.1.2.1 dL_law_1161 ?_
                                                                    obtain ⟨hi378, h⟩ := gi_some h
                                                                    refine va_sld C.1.1 C.1.2.1 hX hbl hbA hW.2 hi378 dL_law_1162 ?_
                                                                    refine lv_aload_n C.1.1 C.1.2.1 dL_law_1163 rfl (lv_at hl 0 rfl) ?_
                                                                    refine lv_iload_n C.1.1 C.1.2.1 dL_law_1164 rfl (lv_at hl 3 rfl) ?_
                                                                    refine lv_iconst (v := 4) C.1.1 C.1.2.1 dL_law_1165 (by decide) ?_
                                                                    refine lv_iadd C.1.1 C.1.2.1 dL_law_1166 ?_
                                                                    obtain ⟨hi379, h⟩ := gi_some h
                                                                    refine va_sld C.1.1 C.1.2.1 hX hbl hbA hW.2 hi379 dL_law_1167 ?_
                                                                    refine lv_aload_n C.1.1 C.1.2.1 dL_law_1168 rfl (lv_at hl 0 rfl) ?_
                                                                    refine lv_iload_n C.1.1 C.1.2.1 dL_law_1169 rfl (lv_at hl 3 rfl) ?_
                                                                    refine lv_iconst (v := 5) C.1.1 C.1.2.1 dL_law_1170 (by decide) ?_
                                                                    refine lv_iadd C.1.1 C.1.2.1 dL_law_1171 ?_
                                                                    obtain ⟨hi380, h⟩ := gi_some h
                                                                    refine va_sld C.1.1 C.1.2.1 hX hbl hbA hW.2 hi380 dL_law_1172 ?_
                                                                    obtain ⟨r381, I382, L383, hc384, h⟩ := bd3_some h
                                                                    refine w_callVi (k := 5) (As := [.int (xs (z3 + (1 : Int32)).toNatClampNeg), .int (xs (z3 + (2 : Int32)).toNatClampNeg), .int (xs (z3 + (3 : Int32)).toNatClampNeg), .int (xs (z3 + (4 : Int32)).toNatClampNeg), .int (xs (z3 + (5 : Int32)).toNatClampNeg)]) (rest := []) C hW (c_X10_film g l  hc384) (by decide) rfl (EX_10 (by decide)) K_L_138 (by decide +kernel) ⟨by decide, by decide⟩ ⟨Nat.le_refl _, Nat.le_refl _⟩ rfl hl.1 rfl (Nat.le_of_ble_eq_true rfl) dL_law_1173 (fun H locs hW => ?_)
                                                                    refine lv_aload_n C.1.1 C.1.2.1 dL_law_1176 rfl (lv_at hl 2 rfl) ?_
                                                                    refine lv_aload_n C.1.1 C.1.2.1 dL_law_1177 rfl (lv_at hl 0 rfl) ?_
                                                                    refine lv_iload_n C.1.1 C.1.2.1 dL_law_1178 rfl (lv_at hl 3 rfl) ?_
                                                                    refine lv_iconst (v := 1) C.1.1 C.1.2.1 dL_law_1179 (by decide) ?_
                                                                    refine lv_iadd C.1.1 C.1.2.1 dL_law_1180 ?_
                                                                    obtain ⟨hi385, h⟩ := gi_some h
                                                                    refine va_sld C.1.1 C.1.2.1 hX hbl hbA hW.2 hi385 dL_law_1181 ?_
                                                                    refine lv_aload_n C.1.1 C.1.2.1 dL_law_1182 rfl (lv_at hl 0 rfl) ?_
                                                                    refine lv_iload_n C.1.1 C.1.2.1 dL_law_1183 rfl (lv_at hl 3 rfl) ?_
                                                                    refine lv_iconst (v := 2) C.1.1 C.1.2.1 dL_law_1184 (by decide) ?_
                                                                    refine lv_iadd C.1.1 C.1.2.1 dL_law_1185 ?_
                                                                    obtain ⟨hi386, h⟩ := gi_some h
                                                                    refine va_sld C.1.1 C.1.2.1 hX hbl hbA hW.2 hi386 dL_law_1186 ?_
                                                                    refine lv_aload_n C.1.1 C.1.2.1 dL_law_1187 rfl (lv_at hl 0 rfl) ?_
                                                                    refine lv_iload_n C.1.1 C.1.2.1 dL_law_1188 rfl (lv_at hl 3 rfl) ?_
                                                                    refine lv_iconst (v := 3) C.1.1 C.1.2.1 dL_law_1189 (by decide) ?_
                                                                    refine lv_iadd C.1.1 C.1.2.1 dL_law_1190 ?_
                                                                    obtain ⟨hi387, h⟩ := gi_some h
                                                                    refine va_sld C.1.1 C.1.2.1 hX hbl hbA hW.2 hi387 dL_law_1191 ?_
                                                                    refine lv_aload_n C.1.1 C.1.2.1 dL_law_1192 rfl (lv_at hl 0 rfl) ?_
                                                                    refine lv_iload_n C.1.1 C.1.2.1 dL_law_1193 rfl (lv_at hl 3 rfl) ?_
                                                                    refine lv_iconst (v := 4) C.1.1 C.1.2.1 dL_law_1194 (by decide) ?_
                                                                    refine lv_iadd C.1.1 C.1.2.1 dL_law_1195 ?_
                                                                    obtain ⟨hi388, h⟩ := gi_some h
                                                                    refine va_sld C.1.1 C.1.2.1 hX hbl hbA hW.2 hi388 dL_law_1196 ?_
                                                                    refine lv_aload_n C.1.1 C.1.2.1 dL_law_1197 rfl (lv_at hl 0 rfl) ?_
                                                                    refine lv_iload_n C.1.1 C.1.2.1 dL_law_1198 rfl (lv_at hl 3 rfl) ?_
                                                                    refine lv_iconst (v := 5) C.1.1 C.1.2.1 dL_law_1199 (by decide) ?_
                                                                    refine lv_iadd C.1.1 C.1.2.1 dL_law_1200 ?_
                                                                    obtain ⟨hi389, h⟩ := gi_some h
                                                                    refine va_sld C.1.1 C.1.2.1 hX hbl hbA hW.2 hi389 dL_law_1201 ?_
                                                                    obtain ⟨r390, I391, L392, hc393, h⟩ := bd3_some h
                                                                    refine w_callVi (k := 5) (As := [.int (xs (z3 + (1 : Int32)).toNatClampNeg), .int (xs (z3 + (2 : Int32)).toNatClampNeg), .int (xs (z3 + (3 : Int32)).toNatClampNeg), .int (xs (z3 + (4 : Int32)).toNatClampNeg), .int (xs (z3 + (5 : Int32)).toNatClampNeg)]) (rest := [.int r381]) C hW (c_X11_film g l  hc393) (by decide) rfl (EX_11 (by decide)) K_L_141 (by decide +kernel) ⟨by decide, by decide⟩ ⟨Nat.le_refl _, Nat.le_refl _⟩ rfl hl.1 rfl (Nat.le_of_ble_eq_true rfl) dL_law_1202 (fun H locs hW => ?_)
                                                                    refine lv_icmp_eq (tgt := 1497) C.1.1 C.1.2.1 dL_law_1205 (by decide) (fun hc394 => ?_) (fun hc394 => ?_)
                                                                    · replace h := ite_t hc394 h
                                                                      obtain ⟨x395, ex395⟩ : ∃ y : Int32, y = z3 + (7 : Int32) := ⟨_, rfl⟩
                                                                      replace h := nm_at ex395 h
                                                                      refine lv_iinc (v := x395) (lv' := [(3, .int x395), (0, .ref b), (1, .ref (g.1 + 0)), (2, .ref (g.1 + 244))]) C.1.1 C.1.2.1 dL_law_1497 hl (k := 3) rfl (by rw [ex395]; rfl) (by decide) rfl (fun ls hl => ?_)
                                                                      clear ex395
                                                                      refine lv_goto (tgt := 18) C.1.1 C.1.2.1 dL_law_1500 (by decide) ?_
                                                                      obtain rfl := Option.some.inj h
                                                                      exact ih _ _ _ _ _ h9 _ _ _ hW (lv_sub hl [1, 2, 3, 0] rfl) hx0
                                                                    · replace h := ite_f hc394 h
                                                                      cases h
                                                                  · replace h := ite_f hc375 h
                                                                    by_cases hc396 : x3 = (30 : Int32)
                                                                    · replace h := ite_t hc396 h
                                                                      rw [hc396]
                                                                      refine lv_tableIn (tgt := 1210) C.1.1 C.1.2.1 dL_law_33 (by decide) (by decide) rfl (by decide) ?_
                                                                      refine lv_aload_n C.1.1 C.1.2.1 dL_law_1210 rfl (lv_at hl 1 rfl) ?_
                                                                      refine lv_aload_n C.1.1 C.1.2.1 dL_law_1211 rfl (lv_at hl 0 rfl) ?_
                                                                      refine lv_iload_n C.1.1 C.1.2.1 dL_law_1212 rfl (lv_at hl 3 rfl) ?_
                                                                      refine lv_iconst (v := 1) C.1.1 C.1.2.1 dL_law_1213 (by decide) ?_
                                                                      refine lv_iadd C.1.1 C.1.2.1 dL_law_1214 ?_
                                                                      obtain ⟨hi397, h⟩ := gi_some h
                                                                      refine va_sld C.1.1 C.1.2.1 hX hbl hbA hW.2 hi397 dL_law_1215 ?_
                                                                      refine lv_aload_n C.1.1 C.1.2.1 dL_law_1216 rfl (lv_at hl 0 rfl) ?_
                                                                      refine lv_iload_n C.1.1 C.1.2.1 dL_law_1217 rfl (lv_at hl 3 rfl) ?_
                                                                      refine lv_iconst (v := 2) C.1.1 C.1.2.1 dL_law_1218 (by decide) ?_
                                                                      refine lv_iadd C.1.1 C.1.2.1 dL_law_1219 ?_
                                                                      obtain ⟨hi398, h⟩ := gi_some h
                                                                      refine va_sld C.1.1 C.1.2.1 hX hbl hbA hW.2 hi398 dL_law_1220 ?_
                                                                      refine lv_aload_n C.1.1 C.1.2.1 dL_law_1221 rfl (lv_at hl 0 rfl) ?_
                                                                      refine lv_iload_n C.1.1 C.1.2.1 dL_law_1222 rfl (lv_at hl 3 rfl) ?_
                                                                      refine lv_iconst (v := 3) C.1.1 C.1.2.1 dL_law_1223 (by decide) ?_
                                                                      refine lv_iadd C.1.1 C.1.2.1 dL_law_1224 ?_
                                                                      obtain ⟨hi399, h⟩ := gi_some h
                                                                      refine va_sld C.1.1 C.1.2.1 hX hbl hbA hW.2 hi399 dL_law_1225 ?_
                                                                      refine lv_aload_n C.1.1 C.1.2.1 dL_law_1226 rfl (lv_at hl 0 rfl) ?_
                                                                      refine lv_iload_n C.1.1 C.1.2.1 dL_law_1227 rfl (lv_at hl 3 rfl) ?_
                                                                      refine lv_iconst (v := 4) C.1.1 C.1.2.1 dL_law_1228 (by decide) ?_
                                                                      refine lv_iadd C.1.1 C.1.2.1 dL_law_1229 ?_
                                                                      obtain ⟨hi400, h⟩ := gi_some h
                                                                      refine va_sld C.1.1 C.1.2.1 hX hbl hbA hW.2 hi400 dL_law_1230 ?_
                                                                      refine lv_aload_n C.1.1 C.1.2.1 dL_law_1231 rfl (lv_at hl 0 rfl) ?_
                                                                      refine lv_iload_n C.1.1 C.1.2.1 dL_law_1232 rfl (lv_at hl 3 rfl) ?_
                                                                      refine lv_iconst (v := 5) C.1.1 C.1.2.1 dL_law_1233 (by decide) ?_
                                                                      refine lv_iadd C.1.1 C.1.2.1 dL_law_1234 ?_
                                                                      obtain ⟨hi401, h⟩ := gi_some h
                                                                      refine va_sld C.1.1 C.1.2.1 hX hbl hbA hW.2 hi401 dL_law_1235 ?_
                                                                      obtain ⟨r402, I403, hc404, h⟩ := bd2_some h
                                                                      refine w_callVi (k := 5) (As := [.int (xs (z3 + (1 : Int32)).toNatClampNeg), .int (xs (z3 + (2 : Int32)).toNatClampNeg), .int (xs (z3 + (3 : Int32)).toNatClampNeg), .int (xs (z3 + (4 : Int32)).toNatClampNeg), .int (xs (z3 + (5 : Int32)).toNatClampNeg)]) (rest := []) C hW (c_X10_round g l  hc404) (by decide) rfl (EX_10 (by decide)) K_L_142 (by decide +kernel) ⟨by decide, by decide⟩ ⟨Nat.le_refl _, Nat.le_refl _⟩ rfl hl.1 rfl (Nat.le_of_ble_eq_true rfl) dL_law_1236 (fun H locs hW => ?_)
                                                                      refine lv_aload_n C.1.1 C.1.2.1 dL_law_1239 rfl (lv_at hl 2 rfl) ?_
                                                                      refine lv_aload_n C.1.1 C.1.2.1 dL_law_1240 rfl (lv_at hl 0 rfl) ?_
                                                                      refine lv_iload_n C.1.1 C.1.2.1 dL_law_1241 rfl (lv_at hl 3 rfl) ?_
                                                                      refine lv_iconst (v := 1) C.1.1 C.1.2.1 dL_law_1242 (by decide) ?_
                                                                      refine lv_iadd C.1.1 C.1.2.1 dL_law_1243 ?_
                                                                      obtain ⟨hi405, h⟩ := gi_some h
                                                                      refine va_sld C.1.1 C.1.2.1 hX hbl hbA hW.2 hi405 dL_law_1244 ?_
                                                                      refine lv_aload_n C.1.1 C.1.2.1 dL_law_1245 rfl (lv_at hl 0 rfl) ?_
                                                                      refine lv_iload_n C.1.1 C.1.2.1 dL_law_1246 rfl (lv_at hl 3 rfl) ?_
                                                                      refine lv_iconst (v := 2) C.1.1 C.1.2.1 dL_law_1247 (by decide) ?_
                                                                      refine lv_iadd C.1.1 C.1.2.1 dL_law_1248 ?_
                                                                      obtain ⟨hi406, h⟩ := gi_some h
                                                                      refine va_sld C.1.1 C.1.2.1 hX hbl hbA hW.2 hi406 dL_law_1249 ?_
                                                                      refine lv_aload_n C.1.1 C.1.2.1 dL_law_1250 rfl (lv_at hl 0 rfl) ?_
                                                                      refine lv_iload_n C.1.1 C.1.2.1 dL_law_1251 rfl (lv_at hl 3 rfl) ?_
                                                                      refine lv_iconst (v := 3) C.1.1 C.1.2.1 dL_law_1252 (by decide) ?_
                                                                      refine lv_iadd C.1.1 C.1.2.1 dL_law_1253 ?_
                                                                      obtain ⟨hi407, h⟩ := gi_some h
                                                                      refine va_sld C.1.1 C.1.2.1 hX hbl hbA hW.2 hi407 dL_law_1254 ?_
                                                                      refine lv_aload_n C.1.1 C.1.2.1 dL_law_1255 rfl (lv_at hl 0 rfl) ?_
                                                                      refine lv_iload_n C.1.1 C.1.2.1 dL_law_1256 rfl (lv_at hl 3 rfl) ?_
                                                                      refine lv_iconst (v := 4) C.1.1 C.1.2.1 dL_law_1257 (by decide) ?_
                                                                      refine lv_iadd C.1.1 C.1.2.1 dL_law_1258 ?_
                                                                      obtain ⟨hi408, h⟩ := gi_some h
                                                                      refine va_sld C.1.1 C.1.2.1 hX hbl hbA hW.2 hi408 dL_law_1259 ?_
                                                                      refine lv_aload_n C.1.1 C.1.2.1 dL_law_1260 rfl (lv_at hl 0 rfl) ?_
                                                                      refine lv_iload_n C.1.1 C.1.2.1 dL_law_1261 rfl (lv_at hl 3 rfl) ?_
                                                                      refine lv_iconst (v := 5) C.1.1 C.1.2.1 dL_law_1262 (by decide) ?_
                                                                      refine lv_iadd C.1.1 C.1.2.1 dL_law_1263 ?_
                                                                      obtain ⟨hi409, h⟩ := gi_some h
                                                                      refine va_sld C.1.1 C.1.2.1 hX hbl hbA hW.2 hi409 dL_law_1264 ?_
                                                                      obtain ⟨r410, I411, hc412, h⟩ := bd2_some h
                                                                      refine w_callVi (k := 5) (As := [.int (xs (z3 + (1 : Int32)).toNatClampNeg), .int (xs (z3 + (2 : Int32)).toNatClampNeg), .int (xs (z3 + (3 : Int32)).toNatClampNeg), .int (xs (z3 + (4 : Int32)).toNatClampNeg), .int (xs (z3 + (5 : Int32)).toNatClampNeg)]) (rest := [.int r402]) C hW (c_X11_round g l  hc412) (by decide) rfl (EX_11 (by decide)) K_L_145 (by decide +kernel) ⟨by decide, by decide⟩ ⟨Nat.le_refl _, Nat.le_refl _⟩ rfl hl.1 rfl (Nat.le_of_ble_eq_true rfl) dL_law_1265 (fun H locs hW => ?_)
                                                                      refine lv_icmp_eq (tgt := 1497) C.1.1 C.1.2.1 dL_law_1268 (by decide) (fun hc413 => ?_) (fun hc413 => ?_)
                                                                      · replace h := ite_t hc413 h
                                                                        obtain ⟨x414, ex414⟩ : ∃ y : Int32, y = z3 + (7 : Int32) := ⟨_, rfl⟩
                                                                        replace h := nm_at ex414 h
                                                                        refine lv_iinc (v := x414) (lv' := [(3, .int x414), (0, .ref b), (1, .ref (g.1 + 0)), (2, .ref (g.1 + 244))]) C.1.1 C.1.2.1 dL_law_1497 hl (k := 3) rfl (by rw [ex414]; rfl) (by decide) rfl (fun ls hl => ?_)
                                                                        clear ex414
                                                                        refine lv_goto (tgt := 18) C.1.1 C.1.2.1 dL_law_1500 (by decide) ?_
                                                                        obtain rfl := Option.some.inj h
                                                                        exact ih _ _ _ _ _ h9 _ _ _ hW (lv_sub hl [1, 2, 3, 0] rfl) hx0
                                                                      · replace h := ite_f hc413 h
                                                                        cases h
                                                                    · replace h := ite_f hc396 h
                                                                      by_cases hc415 : x3 = (31 : Int32)
                                                                      · replace h := ite_t hc415 h
                                                                        rw [hc415]
                                                                        refine lv_tableIn (tgt := 1273) C.1.1 C.1.2.1 dL_law_33 (by decide) (by decide) rfl (by decide) ?_
                                                                        refine lv_aload_n C.1.1 C.1.2.1 dL_law_1273 rfl (lv_at hl 1 rfl) ?_
                                                                        refine lv_aload_n C.1.1 C.1.2.1 dL_law_1274 rfl (lv_at hl 0 rfl) ?_
                                                                        refine lv_iload_n C.1.1 C.1.2.1 dL_law_1275 rfl (lv_at hl 3 rfl) ?_
                                                                        refine lv_iconst (v := 1) C.1.1 C.1.2.1 dL_law_1276 (by decide) ?_
                                                                        refine lv_iadd C.1.1 C.1.2.1 dL_law_1277 ?_
                                                                        obtain ⟨hi416, h⟩ := gi_some h
                                                                        refine va_sld C.1.1 C.1.2.1 hX hbl hbA hW.2 hi416 dL_law_1278 ?_
                                                                        refine lv_aload_n C.1.1 C.1.2.1 dL_law_1279 rfl (lv_at hl 0 rfl) ?_
                                                                        refine lv_iload_n C.1.1 C.1.2.1 dL_law_1280 rfl (lv_at hl 3 rfl) ?_
                                                                        refine lv_iconst (v := 2) C.1.1 C.1.2.1 dL_law_1281 (by decide) ?_
                                                                        refine lv_iadd C.1.1 C.1.2.1 dL_law_1282 ?_
                                                                        obtain ⟨hi417, h⟩ := gi_some h
                                                                        refine va_sld C.1.1 C.1.2.1 hX hbl hbA hW.2 hi417 dL_law_1283 ?_
                                                                        refine lv_aload_n C.1.1 C.1.2.1 dL_law_1284 rfl (lv_at hl 0 rfl) ?_
                                                                        refine lv_iload_n C.1.1 C.1.2.1 dL_law_1285 rfl (lv_at hl 3 rfl) ?_
                                                                        refine lv_iconst (v := 3) C.1.1 C.1.2.1 dL_law_1286 (by decide) ?_
                                                                        refine lv_iadd C.1.1 C.1.2.1 dL_law_1287 ?_
                                                                        obtain ⟨hi418, h⟩ := gi_some h
                                                                        refine va_sld C.1.1 C.1.2.1 hX hbl hbA hW.2 hi418 dL_law_1288 ?_
                                                                        refine lv_aload_n C.1.1 C.1.2.1 dL_law_1289 rfl (lv_at hl 0 rfl) ?_
                                                                        refine lv_iload_n C.1.1 C.1.2.1 dL_law_1290 rfl (lv_at hl 3 rfl) ?_
                                                                        refine lv_iconst (v := 4) C.1.1 C.1.2.1 dL_law_1291 (by decide) ?_
                                                                        refine lv_iadd C.1.1 C.1.2.1 dL_law_1292 ?_
                                                                        obtain ⟨hi419, h⟩ := gi_some h
                                                                        refine va_sld C.1.1 C.1.2.1 hX hbl hbA hW.2 hi419 dL_law_1293 ?_
                                                                        refine lv_aload_n C.1.1 C.1.2.1 dL_law_1294 rfl (lv_at hl 0 rfl) ?_
                                                                        refine lv_iload_n C.1.1 C.1.2.1 dL_law_1295 rfl (lv_at hl 3 rfl) ?_
                                                                        refine lv_iconst (v := 5) C.1.1 C.1.2.1 dL_law_1296 (by decide) ?_
                                                                        refine lv_iadd C.1.1 C.1.2.1 dL_law_1297 ?_
                                                                        obtain ⟨hi420, h⟩ := gi_some h
                                                                        refine va_sld C.1.1 C.1.2.1 hX hbl hbA hW.2 hi420 dL_law_1298 ?_
                                                                        obtain ⟨r421, I422, hc423, h⟩ := bd2_some h
                                                                        refine w_callVi (k := 5) (As := [.int (xs (z3 + (1 : Int32)).toNatClampNeg), .int (xs (z3 + (2 : Int32)).toNatClampNeg), .int (xs (z3 + (3 : Int32)).toNatClampNeg), .int (xs (z3 + (4 : Int32)).toNatClampNeg), .int (xs (z3 + (5 : Int32)).toNatClampNeg)]) (rest := []) C hW (c_X10_goesOn g l  hc423) (by decide) rfl (EX_10 (by decide)) K_L_146 (by decide +kernel) ⟨by decide, by decide⟩ ⟨Nat.le_refl _, Nat.le_refl _⟩ rfl hl.1 rfl (Nat.le_of_ble_eq_true rfl) dL_law_1299 (fun H locs hW => ?_)
                                                                        refine lv_aload_n C.1.1 C.1.2.1 dL_law_1302 rfl (lv_at hl 2 rfl) ?_
                                                                        refine lv_aload_n C.1.1 C.1.2.1 dL_law_1303 rfl (lv_at hl 0 rfl) ?_
                                                                        refine lv_iload_n C.1.1 C.1.2.1 dL_law_1304 rfl (lv_at hl 3 rfl) ?_
                                                                        refine lv_iconst (v := 1) C.1.1 C.1.2.1 dL_law_1305 (by decide) ?_
                                                                        refine lv_iadd C.1.1 C.1.2.1 dL_law_1306 ?_
                                                                        obtain ⟨hi424, h⟩ := gi_some h
                                                                        refine va_sld C.1.1 C.1.2.1 hX hbl hbA hW.2 hi424 dL_law_1307 ?_
                                                                        refine lv_aload_n C.1.1 C.1.2.1 dL_law_1308 rfl (lv_at hl 0 rfl) ?_
                                                                        refine lv_iload_n C.1.1 C.1.2.1 dL_law_1309 rfl (lv_at hl 3 rfl) ?_
                                                                        refine lv_iconst (v := 2) C.1.1 C.1.2.1 dL_law_1310 (by decide) ?_
                                                                        refine lv_iadd C.1.1 C.1.2.1 dL_law_1311 ?_
                                                                        obtain ⟨hi425, h⟩ := gi_some h
                                                                        refine va_sld C.1.1 C.1.2.1 hX hbl hbA hW.2 hi425 dL_law_1312 ?_
                                                                        refine lv_aload_n C.1.1 C.1.2.1 dL_law_1313 rfl (lv_at hl 0 rfl) ?_
                                                                        refine lv_iload_n C.1.1 C.1.2.1 dL_law_1314 rfl (lv_at hl 3 rfl) ?_
                                                                        refine lv_iconst (v := 3) C.1.1 C.1.2.1 dL_law_1315 (by decide) ?_
                                                                        refine lv_iadd C.1.1 C.1.2.1 dL_law_1316 ?_
                                                                        obtain ⟨hi426, h⟩ := gi_some h
                                                                        refine va_sld C.1.1 C.1.2.1 hX hbl hbA hW.2 hi426 dL_law_1317 ?_
                                                                        refine lv_aload_n C.1.1 C.1.2.1 dL_law_1318 rfl (lv_at hl 0 rfl) ?_
                                                                        refine lv_iload_n C.1.1 C.1.2.1 dL_law_1319 rfl (lv_at hl 3 rfl) ?_
                                                                        refine lv_iconst (v := 4) C.1.1 C.1.2.1 dL_law_1320 (by decide) ?_
                                                                        refine lv_iadd C.1.1 C.1.2.1 dL_law_1321 ?_
                                                                        obtain ⟨hi427, h⟩ := gi_some h
                                                                        refine va_sld C.1.1 C.1.2.1 hX hbl hbA hW.2 hi427 dL_law_1322 ?_
                                                                        refine lv_aload_n C.1.1 C.1.2.1 dL_law_1323 rfl (lv_at hl 0 rfl) ?_
                                                                        refine lv_iload_n C.1.1 C.1.2.1 dL_law_1324 rfl (lv_at hl 3 rfl) ?_
                                                                        refine lv_iconst (v := 5) C.1.1 C.1.2.1 dL_law_1325 (by decide) ?_
                                                                        refine lv_iadd C.1.1 C.1.2.1 dL_law_1326 ?_
                                                                        obtain ⟨hi428, h⟩ := gi_some h
                                                                        refine va_sld C.1.1 C.1.2.1 hX hbl hbA hW.2 hi428 dL_law_1327 ?_
                                                                        obtain ⟨r429, hc430, h⟩ := bd1_some h
                                                                        refine w_callVi (k := 5) (As := [.int (xs (z3 + (1 : Int32)).toNatClampNeg), .int (xs (z3 + (2 : Int32)).toNatClampNeg), .int (xs (z3 + (3 : Int32)).toNatClampNeg), .int (xs (z3 + (4 : Int32)).toNatClampNeg), .int (xs (z3 + (5 : Int32)).toNatClampNeg)]) (rest := [.int r421]) C hW (c_X11_goesOn g l  hc430) (by decide) rfl (EX_11 (by decide)) K_L_149 (by decide +kernel) ⟨by decide, by decide⟩ ⟨Nat.le_refl _, Nat.le_refl _⟩ rfl hl.1 rfl (Nat.le_of_ble_eq_true rfl) dL_law_1328 (fun H locs hW => ?_)
                                                                        refine lv_icmp_eq (tgt := 1497) C.1.1 C.1.2.1 dL_law_1331 (by decide) (fun hc431 => ?_) (fun hc431 => ?_)
                                                                        · replace h := ite_t hc431 h
                                                                          obtain ⟨x432, ex432⟩ : ∃ y : Int32, y = z3 + (7 : Int32) := ⟨_, rfl⟩
                                                                          replace h := nm_at ex432 h
                                                                          refine lv_iinc (v := x432) (lv' := [(3, .int x432), (0, .ref b), (1, .ref (g.1 + 0)), (2, .ref (g.1 + 244))]) C.1.1 C.1.2.1 dL_law_1497 hl (k := 3) rfl (by rw [ex432]; rfl) (by decide) rfl (fun ls hl => ?_)
                                                                          clear ex432
                                                                          refine lv_goto (tgt := 18) C.1.1 C.1.2.1 dL_law_1500 (by decide) ?_
                                                                          obtain rfl := Option.some.inj h
                                                                          exact ih _ _ _ _ _ h9 _ _ _ hW (lv_sub hl [1, 2, 3, 0] rfl) hx0
                                                                        · replace h := ite_f hc431 h
                                                                          cases h
                                                                      · replace h := ite_f hc415 h
                                                                        by_cases hc433 : x3 = (32 : Int32)
                                                                        · replace h := ite_t hc433 h
                                                                          rw [hc433]
                                                                          refine lv_tableIn (tgt := 1336) C.1.1 C.1.2.1 dL_law_33 (by decide) (by decide) rfl (by decide) ?_
                                                                          refine lv_aload_n C.1.1 C.1.2.1 dL_law_1336 rfl (lv_at hl 1 rfl) ?_
                                                                          refine lv_aload_n C.1.1 C.1.2.1 dL_law_1337 rfl (lv_at hl 0 rfl) ?_
                                                                          refine lv_iload_n C.1.1 C.1.2.1 dL_law_1338 rfl (lv_at hl 3 rfl) ?_
                                                                          refine lv_iconst (v := 1) C.1.1 C.1.2.1 dL_law_1339 (by decide) ?_
                                                                          refine lv_iadd C.1.1 C.1.2.1 dL_law_1340 ?_
                                                                          obtain ⟨hi434, h⟩ := gi_some h
                                                                          refine va_sld C.1.1 C.1.2.1 hX hbl hbA hW.2 hi434 dL_law_1341 ?_
                                                                          refine lv_aload_n C.1.1 C.1.2.1 dL_law_1342 rfl (lv_at hl 0 rfl) ?_
                                                                          refine lv_iload_n C.1.1 C.1.2.1 dL_law_1343 rfl (lv_at hl 3 rfl) ?_
                                                                          refine lv_iconst (v := 2) C.1.1 C.1.2.1 dL_law_1344 (by decide) ?_
                                                                          refine lv_iadd C.1.1 C.1.2.1 dL_law_1345 ?_
                                                                          obtain ⟨hi435, h⟩ := gi_some h
                                                                          refine va_sld C.1.1 C.1.2.1 hX hbl hbA hW.2 hi435 dL_law_1346 ?_
                                                                          refine lv_aload_n C.1.1 C.1.2.1 dL_law_1347 rfl (lv_at hl 0 rfl) ?_
                                                                          refine lv_iload_n C.1.1 C.1.2.1 dL_law_1348 rfl (lv_at hl 3 rfl) ?_
                                                                          refine lv_iconst (v := 3) C.1.1 C.1.2.1 dL_law_1349 (by decide) ?_
                                                                          refine lv_iadd C.1.1 C.1.2.1 dL_law_1350 ?_
                                                                          obtain ⟨hi436, h⟩ := gi_some h
                                                                          refine va_sld C.1.1 C.1.2.1 hX hbl hbA hW.2 hi436 dL_law_1351 ?_
                                                                          refine lv_aload_n C.1.1 C.1.2.1 dL_law_1352 rfl (lv_at hl 0 rfl) ?_
                                                                          refine lv_iload_n C.1.1 C.1.2.1 dL_law_1353 rfl (lv_at hl 3 rfl) ?_
                                                                          refine lv_iconst (v := 4) C.1.1 C.1.2.1 dL_law_1354 (by decide) ?_
                                                                          refine lv_iadd C.1.1 C.1.2.1 dL_law_1355 ?_
                                                                          obtain ⟨hi437, h⟩ := gi_some h
                                                                          refine va_sld C.1.1 C.1.2.1 hX hbl hbA hW.2 hi437 dL_law_1356 ?_
                                                                          refine lv_aload_n C.1.1 C.1.2.1 dL_law_1357 rfl (lv_at hl 0 rfl) ?_
                                                                          refine lv_iload_n C.1.1 C.1.2.1 dL_law_1358 rfl (lv_at hl 3 rfl) ?_
                                                                          refine lv_iconst (v := 5) C.1.1 C.1.2.1 dL_law_1359 (by decide) ?_
                                                                          refine lv_iadd C.1.1 C.1.2.1 dL_law_1360 ?_
                                                                          obtain ⟨hi438, h⟩ := gi_some h
                                                                          refine va_sld C.1.1 C.1.2.1 hX hbl hbA hW.2 hi438 dL_law_1361 ?_
                                                                          obtain ⟨r439, I440, hc441, h⟩ := bd2_some h
                                                                          refine w_callVi (k := 5) (As := [.int (xs (z3 + (1 : Int32)).toNatClampNeg), .int (xs (z3 + (2 : Int32)).toNatClampNeg), .int (xs (z3 + (3 : Int32)).toNatClampNeg), .int (xs (z3 + (4 : Int32)).toNatClampNeg), .int (xs (z3 + (5 : Int32)).toNatClampNeg)]) (rest := []) C hW (c_X10_told g l  hc441) (by decide) rfl (EX_10 (by decide)) K_L_150 (by decide +kernel) ⟨by decide, by decide⟩ ⟨Nat.le_refl _, Nat.le_refl _⟩ rfl hl.1 rfl (Nat.le_of_ble_eq_true rfl) dL_law_1362 (fun H locs hW => ?_)
                                                                          refine lv_aload_n C.1.1 C.1.2.1 dL_law_1365 rfl (lv_at hl 2 rfl) ?_
                                                                          refine lv_aload_n C.1.1 C.1.2.1 dL_law_1366 rfl (lv_at hl 0 rfl) ?_
                                                                          refine lv_iload_n C.1.1 C.1.2.1 dL_law_1367 rfl (lv_at hl 3 rfl) ?_
                                                                          refine lv_iconst (v := 1) C.1.1 C.1.2.1 dL_law_1368 (by decide) ?_
                                                                          refine lv_iadd C.1.1 C.1.2.1 dL_law_1369 ?_
                                                                          obtain ⟨hi442, h⟩ := gi_some h
                                                                          refine va_sld C.1.1 C.1.2.1 hX hbl hbA hW.2 hi442 dL_law_1370 ?_
                                                                          refine lv_aload_n C.1.1 C.1.2.1 dL_law_1371 rfl (lv_at hl 0 rfl) ?_
                                                                          refine lv_iload_n C.1.1 C.1.2.1 dL_law_1372 rfl (lv_at hl 3 rfl) ?_
                                                                          refine lv_iconst (v := 2) C.1.1 C.1.2.1 dL_law_1373 (by decide) ?_
                                                                          refine lv_iadd C.1.1 C.1.2.1 dL_law_1374 ?_
                                                                          obtain ⟨hi443, h⟩ := gi_some h
                                                                          refine va_sld C.1.1 C.1.2.1 hX hbl hbA hW.2 hi443 dL_law_1375 ?_
                                                                          refine lv_aload_n C.1.1 C.1.2.1 dL_law_1376 rfl (lv_at hl 0 rfl) ?_
                                                                          refine lv_iload_n C.1.1 C.1.2.1 dL_law_1377 rfl (lv_at hl 3 rfl) ?_
                                                                          refine lv_iconst (v := 3) C.1.1 C.1.2.1 dL_law_1378 (by decide) ?_
                                                                          refine lv_iadd C.1.1 C.1.2.1 dL_law_1379 ?_
                                                                          obtain ⟨hi444, h⟩ := gi_some h
                                                                          refine va_sld C.1.1 C.1.2.1 hX hbl hbA hW.2 hi444 dL_law_1380 ?_
                                                                          refine lv_aload_n C.1.1 C.1.2.1 dL_law_1381 rfl (lv_at hl 0 rfl) ?_
                                                                          refine lv_iload_n C.1.1 C.1.2.1 dL_law_1382 rfl (lv_at hl 3 rfl) ?_
                                                                          refine lv_iconst (v := 4) C.1.1 C.1.2.1 dL_law_1383 (by decide) ?_
                                                                          refine lv_iadd C.1.1 C.1.2.1 dL_law_1384 ?_
                                                                          obtain ⟨hi445, h⟩ := gi_some h
                                                                          refine va_sld C.1.1 C.1.2.1 hX hbl hbA hW.2 hi445 dL_law_1385 ?_
                                                                          refine lv_aload_n C.1.1 C.1.2.1 dL_law_1386 rfl (lv_at hl 0 rfl) ?_
                                                                          refine lv_iload_n C.1.1 C.1.2.1 dL_law_1387 rfl (lv_at hl 3 rfl) ?_
                                                                          refine lv_iconst (v := 5) C.1.1 C.1.2.1 dL_law_1388 (by decide) ?_
                                                                          refine lv_iadd C.1.1 C.1.2.1 dL_law_1389 ?_
                                                                          obtain ⟨hi446, h⟩ := gi_some h
                                                                          refine va_sld C.1.1 C.1.2.1 hX hbl hbA hW.2 hi446 dL_law_1390 ?_
                                                                          obtain ⟨r447, hc448, h⟩ := bd1_some h
                                                                          refine w_callVi (k := 5) (As := [.int (xs (z3 + (1 : Int32)).toNatClampNeg), .int (xs (z3 + (2 : Int32)).toNatClampNeg), .int (xs (z3 + (3 : Int32)).toNatClampNeg), .int (xs (z3 + (4 : Int32)).toNatClampNeg), .int (xs (z3 + (5 : Int32)).toNatClampNeg)]) (rest := [.int r439]) C hW (c_X11_told g l  hc448) (by decide) rfl (EX_11 (by decide)) K_L_153 (by decide +kernel) ⟨by decide, by decide⟩ ⟨Nat.le_refl _, Nat.le_refl _⟩ rfl hl.1 rfl (Nat.le_of_ble_eq_true rfl) dL_law_1391 (fun H locs hW => ?_)
                                                                          refine lv_icmp_eq (tgt := 1497) C.1.1 C.1.2.1 dL_law_1394 (by decide) (fun hc449 => ?_) (fun hc449 => ?_)
                                                                          · replace h := ite_t hc449 h
                                                                            obtain ⟨x450, ex450⟩ : ∃ y : Int32, y = z3 + (7 : Int32) := ⟨_, rfl⟩
                                                                            replace h := nm_at ex450 h
                                                                            refine lv_iinc (v := x450) (lv' := [(3, .int x450), (0, .ref b), (1, .ref (g.1 + 0)), (2, .ref (g.1 + 244))]) C.1.1 C.1.2.1 dL_law_1497 hl (k := 3) rfl (by rw [ex450]; rfl) (by decide) rfl (fun ls hl => ?_)
                                                                            clear ex450
                                                                            refine lv_goto (tgt := 18) C.1.1 C.1.2.1 dL_law_1500 (by decide) ?_
                                                                            obtain rfl := Option.some.inj h
                                                                            exact ih _ _ _ _ _ h9 _ _ _ hW (lv_sub hl [1, 2, 3, 0] rfl) hx0
                                                                          · replace h := ite_f hc449 h
                                                                            cases h
                                                                        · replace h := ite_f hc433 h
                                                                          by_cases hc451 : x3 = (33 : Int32)
                                                                          · replace h := ite_t hc451 h
                                                                            rw [hc451]
                                                                            refine lv_tableIn (tgt := 1399) C.1.1 C.1.2.1 dL_law_33 (by decide) (by decide) rfl (by decide) ?_
                                                                            refine lv_aload_n C.1.1 C.1.2.1 dL_law_1399 rfl (lv_at hl 1 rfl) ?_
                                                                            refine lv_aload_n C.1.1 C.1.2.1 dL_law_1400 rfl (lv_at hl 0 rfl) ?_
                                                                            refine lv_iload_n C.1.1 C.1.2.1 dL_law_1401 rfl (lv_at hl 3 rfl) ?_
                                                                            refine lv_iconst (v := 1) C.1.1 C.1.2.1 dL_law_1402 (by decide) ?_
                                                                            refine lv_iadd C.1.1 C.1.2.1 dL_law_1403 ?_
                                                                            obtain ⟨hi452, h⟩ := gi_some h
                                                                            refine va_sld C.1.1 C.1.2.1 hX hbl hbA hW.2 hi452 dL_law_1404 ?_
                                                                            refine lv_aload_n C.1.1 C.1.2.1 dL_law_1405 rfl (lv_at hl 0 rfl) ?_
                                                                            refine lv_iload_n C.1.1 C.1.2.1 dL_law_1406 rfl (lv_at hl 3 rfl) ?_
                                                                            refine lv_iconst (v := 2) C.1.1 C.1.2.1 dL_law_1407 (by decide) ?_
                                                                            refine lv_iadd C.1.1 C.1.2.1 dL_law_1408 ?_
                                                                            obtain ⟨hi453, h⟩ := gi_some h
                                                                            refine va_sld C.1.1 C.1.2.1 hX hbl hbA hW.2 hi453 dL_law_1409 ?_
                                                                            refine lv_aload_n C.1.1 C.1.2.1 dL_law_1410 rfl (lv_at hl 0 rfl) ?_
                                                                            refine lv_iload_n C.1.1 C.1.2.1 dL_law_1411 rfl (lv_at hl 3 rfl) ?_
                                                                            refine lv_iconst (v := 3) C.1.1 C.1.2.1 dL_law_1412 (by decide) ?_
                                                                            refine lv_iadd C.1.1 C.1.2.1 dL_law_1413 ?_
                                                                            obtain ⟨hi454, h⟩ := gi_some h
                                                                            refine va_sld C.1.1 C.1.2.1 hX hbl hbA hW.2 hi454 dL_law_1414 ?_
                                                                            refine lv_aload_n C.1.1 C.1.2.1 dL_law_1415 rfl (lv_at hl 0 rfl) ?_
                                                                            refine lv_iload_n C.1.1 C.1.2.1 dL_law_1416 rfl (lv_at hl 3 rfl) ?_
                                                                            refine lv_iconst (v := 4) C.1.1 C.1.2.1 dL_law_1417 (by decide) ?_
                                                                            refine lv_iadd C.1.1 C.1.2.1 dL_law_1418 ?_
                                                                            obtain ⟨hi455, h⟩ := gi_some h
                                                                            refine va_sld C.1.1 C.1.2.1 hX hbl hbA hW.2 hi455 dL_law_1419 ?_
                                                                            refine lv_aload_n C.1.1 C.1.2.1 dL_law_1420 rfl (lv_at hl 0 rfl) ?_
                                                                            refine lv_iload_n C.1.1 C.1.2.1 dL_law_1421 rfl (lv_at hl 3 rfl) ?_
                                                                            refine lv_iconst (v := 5) C.1.1 C.1.2.1 dL_law_1422 (by decide) ?_
                                                                            refine lv_iadd C.1.1 C.1.2.1 dL_law_1423 ?_
                                                                            obtain ⟨hi456, h⟩ := gi_some h
                                                                            refine va_sld C.1.1 C.1.2.1 hX hbl hbA hW.2 hi456 dL_law_1424 ?_
                                                                            refine lv_aload_n C.1.1 C.1.2.1 dL_law_1425 rfl (lv_at hl 0 rfl) ?_
                                                                            refine lv_iload_n C.1.1 C.1.2.1 dL_law_1426 rfl (lv_at hl 3 rfl) ?_
                                                                            refine lv_bipush (v := 6) C.1.1 C.1.2.1 dL_law_1427 (by decide) ?_
                                                                            refine lv_iadd C.1.1 C.1.2.1 dL_law_1429 ?_
                                                                            obtain ⟨hi457, h⟩ := gi_some h
                                                                            refine va_sld C.1.1 C.1.2.1 hX hbl hbA hW.2 hi457 dL_law_1430 ?_
                                                                            obtain ⟨r458, I459, hc460, h⟩ := bd2_some h
                                                                            refine w_callVi (k := 6) (As := [.int (xs (z3 + (1 : Int32)).toNatClampNeg), .int (xs (z3 + (2 : Int32)).toNatClampNeg), .int (xs (z3 + (3 : Int32)).toNatClampNeg), .int (xs (z3 + (4 : Int32)).toNatClampNeg), .int (xs (z3 + (5 : Int32)).toNatClampNeg), .int (xs (z3 + (6 : Int32)).toNatClampNeg)]) (rest := []) C hW (c_X10_ate g l  hc460) (by decide) rfl (EX_10 (by decide)) K_L_154 (by decide +kernel) ⟨by decide, by decide⟩ ⟨Nat.le_refl _, Nat.le_refl _⟩ rfl hl.1 rfl (Nat.le_of_ble_eq_true rfl) dL_law_1431 (fun H locs hW => ?_)
                                                                            refine lv_aload_n C.1.1 C.1.2.1 dL_law_1434 rfl (lv_at hl 2 rfl) ?_
                                                                            refine lv_aload_n C.1.1 C.1.2.1 dL_law_1435 rfl (lv_at hl 0 rfl) ?_
                                                                            refine lv_iload_n C.1.1 C.1.2.1 dL_law_1436 rfl (lv_at hl 3 rfl) ?_
                                                                            refine lv_iconst (v := 1) C.1.1 C.1.2.1 dL_law_1437 (by decide) ?_
                                                                            refine lv_iadd C.1.1 C.1.2.1 dL_law_1438 ?_
                                                                            obtain ⟨hi461, h⟩ := gi_some h
                                                                            refine va_sld C.1.1 C.1.2.1 hX hbl hbA hW.2 hi461 dL_law_1439 ?_
                                                                            refine lv_aload_n C.1.1 C.1.2.1 dL_law_1440 rfl (lv_at hl 0 rfl) ?_
                                                                            refine lv_iload_n C.1.1 C.1.2.1 dL_law_1441 rfl (lv_at hl 3 rfl) ?_
                                                                            refine lv_iconst (v := 2) C.1.1 C.1.2.1 dL_law_1442 (by decide) ?_
                                                                            refine lv_iadd C.1.1 C.1.2.1 dL_law_1443 ?_
                                                                            obtain ⟨hi462, h⟩ := gi_some h
                                                                            refine va_sld C.1.1 C.1.2.1 hX hbl hbA hW.2 hi462 dL_law_1444 ?_
                                                                            refine lv_aload_n C.1.1 C.1.2.1 dL_law_1445 rfl (lv_at hl 0 rfl) ?_
                                                                            refine lv_iload_n C.1.1 C.1.2.1 dL_law_1446 rfl (lv_at hl 3 rfl) ?_
                                                                            refine lv_iconst (v := 3) C.1.1 C.1.2.1 dL_law_1447 (by decide) ?_
                                                                            refine lv_iadd C.1.1 C.1.2.1 dL_law_1448 ?_
                                                                            obtain ⟨hi463, h⟩ := gi_some h
                                                                            refine va_sld C.1.1 C.1.2.1 hX hbl hbA hW.2 hi463 dL_law_1449 ?_
                                                                            refine lv_aload_n C.1.1 C.1.2.1 dL_law_1450 rfl (lv_at hl 0 rfl) ?_
                                                                            refine lv_iload_n C.1.1 C.1.2.1 dL_law_1451 rfl (lv_at hl 3 rfl) ?_
                                                                            refine lv_iconst (v := 4) C.1.1 C.1.2.1 dL_law_1452 (by decide) ?_
                                                                            refine lv_iadd C.1.1 C.1.2.1 dL_law_1453 ?_
                                                                            obtain ⟨hi464, h⟩ := gi_some h
                                                                            refine va_sld C.1.1 C.1.2.1 hX hbl hbA hW.2 hi464 dL_law_1454 ?_
                                                                            refine lv_aload_n C.1.1 C.1.2.1 dL_law_1455 rfl (lv_at hl 0 rfl) ?_
                                                                            refine lv_iload_n C.1.1 C.1.2.1 dL_law_1456 rfl (lv_at hl 3 rfl) ?_
                                                                            refine lv_iconst (v := 5) C.1.1 C.1.2.1 dL_law_1457 (by decide) ?_
                                                                            refine lv_iadd C.1.1 C.1.2.1 dL_law_1458 ?_
                                                                            obtain ⟨hi465, h⟩ := gi_some h
                                                                            refine va_sld C.1.1 C.1.2.1 hX hbl hbA hW.2 hi465 dL_law_1459 ?_
                                                                            refine lv_aload_n C.1.1 C.1.2.1 dL_law_1460 rfl (lv_at hl 0 rfl) ?_
                                                                            refine lv_iload_n C.1.1 C.1.2.1 dL_law_1461 rfl (lv_at hl 3 rfl) ?_
                                                                            refine lv_bipush (v := 6) C.1.1 C.1.2.1 dL_law_1462 (by decide) ?_
                                                                            refine lv_iadd C.1.1 C.1.2.1 dL_law_1464 ?_
                                                                            obtain ⟨hi466, h⟩ := gi_some h
                                                                            refine va_sld C.1.1 C.1.2.1 hX hbl hbA hW.2 hi466 dL_law_1465 ?_
                                                                            obtain ⟨r467, I468, hc469, h⟩ := bd2_some h
                                                                            refine w_callVi (k := 6) (As := [.int (xs (z3 + (1 : Int32)).toNatClampNeg), .int (xs (z3 + (2 : Int32)).toNatClampNeg), .int (xs (z3 + (3 : Int32)).toNatClampNeg), .int (xs (z3 + (4 : Int32)).toNatClampNeg), .int (xs (z3 + (5 : Int32)).toNatClampNeg), .int (xs (z3 + (6 : Int32)).toNatClampNeg)]) (rest := [.int r458]) C hW (c_X11_ate g l  hc469) (by decide) rfl (EX_11 (by decide)) K_L_158 (by decide +kernel) ⟨by decide, by decide⟩ ⟨Nat.le_refl _, Nat.le_refl _⟩ rfl hl.1 rfl (Nat.le_of_ble_eq_true rfl) dL_law_1466 (fun H locs hW => ?_)
                                                                            refine lv_icmp_eq (tgt := 1497) C.1.1 C.1.2.1 dL_law_1469 (by decide) (fun hc470 => ?_) (fun hc470 => ?_)
                                                                            · replace h := ite_t hc470 h
                                                                              obtain ⟨x471, ex471⟩ : ∃ y : Int32, y = z3 + (7 : Int32) := ⟨_, rfl⟩
                                                                              replace h := nm_at ex471 h
                                                                              refine lv_iinc (v := x471) (lv' := [(3, .int x471), (0, .ref b), (1, .ref (g.1 + 0)), (2, .ref (g.1 + 244))]) C.1.1 C.1.2.1 dL_law_1497 hl (k := 3) rfl (by rw [ex471]; rfl) (by decide) rfl (fun ls hl => ?_)
                                                                              clear ex471
                                                                              refine lv_goto (tgt := 18) C.1.1 C.1.2.1 dL_law_1500 (by decide) ?_
                                                                              obtain rfl := Option.some.inj h
                                                                              exact ih _ _ _ _ _ h9 _ _ _ hW (lv_sub hl [1, 2, 3, 0] rfl) hx0
                                                                            · replace h := ite_f hc470 h
                                                                              cases h
                                                                          · replace h := ite_f hc451 h
                                                                            by_cases hc472 : x3 = (34 : Int32)
                                                                            · replace h := ite_t hc472 h
                                                                              rw [hc472]
                                                                              refine lv_tableIn (tgt := 1474) C.1.1 C.1.2.1 dL_law_33 (by decide) (by decide) rfl (by decide) ?_
                                                                              refine lv_aload_n C.1.1 C.1.2.1 dL_law_1474 rfl (lv_at hl 1 rfl) ?_
                                                                              refine lv_aload_n C.1.1 C.1.2.1 dL_law_1475 rfl (lv_at hl 0 rfl) ?_
                                                                              refine lv_iload_n C.1.1 C.1.2.1 dL_law_1476 rfl (lv_at hl 3 rfl) ?_
                                                                              refine lv_iconst (v := 1) C.1.1 C.1.2.1 dL_law_1477 (by decide) ?_
                                                                              refine lv_iadd C.1.1 C.1.2.1 dL_law_1478 ?_
                                                                              obtain ⟨hi473, h⟩ := gi_some h
                                                                              refine va_sld C.1.1 C.1.2.1 hX hbl hbA hW.2 hi473 dL_law_1479 ?_
                                                                              obtain ⟨r474, hc475, h⟩ := bd1_some h
                                                                              refine w_callVi (k := 1) (As := [.int (xs (z3 + (1 : Int32)).toNatClampNeg)]) (rest := []) C hW (c_X10_count g l  hc475) (by decide) rfl (EX_10 (by decide)) K_L_159 (by decide +kernel) ⟨by decide, by decide⟩ ⟨Nat.le_refl _, Nat.le_refl _⟩ rfl hl.1 rfl (Nat.le_of_ble_eq_true rfl) dL_law_1480 (fun H locs hW => ?_)
                                                                              refine lv_aload_n C.1.1 C.1.2.1 dL_law_1483 rfl (lv_at hl 2 rfl) ?_
                                                                              refine lv_aload_n C.1.1 C.1.2.1 dL_law_1484 rfl (lv_at hl 0 rfl) ?_
                                                                              refine lv_iload_n C.1.1 C.1.2.1 dL_law_1485 rfl (lv_at hl 3 rfl) ?_
                                                                              refine lv_iconst (v := 1) C.1.1 C.1.2.1 dL_law_1486 (by decide) ?_
                                                                              refine lv_iadd C.1.1 C.1.2.1 dL_law_1487 ?_
                                                                              obtain ⟨hi476, h⟩ := gi_some h
                                                                              refine va_sld C.1.1 C.1.2.1 hX hbl hbA hW.2 hi476 dL_law_1488 ?_
                                                                              obtain ⟨r477, hc478, h⟩ := bd1_some h
                                                                              refine w_callVi (k := 1) (As := [.int (xs (z3 + (1 : Int32)).toNatClampNeg)]) (rest := [.int r474]) C hW (c_X11_count g l  hc478) (by decide) rfl (EX_11 (by decide)) K_L_162 (by decide +kernel) ⟨by decide, by decide⟩ ⟨Nat.le_refl _, Nat.le_refl _⟩ rfl hl.1 rfl (Nat.le_of_ble_eq_true rfl) dL_law_1489 (fun H locs hW => ?_)
                                                                              refine lv_icmp_eq (tgt := 1497) C.1.1 C.1.2.1 dL_law_1492 (by decide) (fun hc479 => ?_) (fun hc479 => ?_)
                                                                              · replace h := ite_t hc479 h
                                                                                obtain ⟨x480, ex480⟩ : ∃ y : Int32, y = z3 + (7 : Int32) := ⟨_, rfl⟩
                                                                                replace h := nm_at ex480 h
                                                                                refine lv_iinc (v := x480) (lv' := [(3, .int x480), (0, .ref b), (1, .ref (g.1 + 0)), (2, .ref (g.1 + 244))]) C.1.1 C.1.2.1 dL_law_1497 hl (k := 3) rfl (by rw [ex480]; rfl) (by decide) rfl (fun ls hl => ?_)
                                                                                clear ex480
                                                                                refine lv_goto (tgt := 18) C.1.1 C.1.2.1 dL_law_1500 (by decide) ?_
                                                                                obtain rfl := Option.some.inj h
                                                                                exact ih _ _ _ _ _ h9 _ _ _ hW (lv_sub hl [1, 2, 3, 0] rfl) hx0
                                                                              · replace h := ite_f hc479 h
                                                                                cases h
                                                                            · replace h := ite_f hc472 h
                                                                              refine lv_tableOut (tgt := 1497) C.1.1 C.1.2.1 dL_law_33 (by
                                                                                have := lv_neT (a := 0) hc4 (by decide)
                                                                                have := lv_neT (a := 1) hc15 (by decide)
                                                                                have := lv_neT (a := 2) hc24 (by decide)
                                                                                have := lv_neT (a := 3) hc35 (by decide)
                                                                                have := lv_neT (a := 4) hc46 (by decide)
                                                                                have := lv_neT (a := 5) hc57 (by decide)
                                                                                have := lv_neT (a := 6) hc68 (by decide)
                                                                                have := lv_neT (a := 7) hc79 (by decide)
                                                                                have := lv_neT (a := 8) hc92 (by decide)
                                                                                have := lv_neT (a := 9) hc103 (by decide)
                                                                                have := lv_neT (a := 10) hc116 (by decide)
                                                                                have := lv_neT (a := 11) hc127 (by decide)
                                                                                have := lv_neT (a := 12) hc136 (by decide)
                                                                                have := lv_neT (a := 13) hc147 (by decide)
                                                                                have := lv_neT (a := 14) hc158 (by decide)
                                                                                have := lv_neT (a := 15) hc169 (by decide)
                                                                                have := lv_neT (a := 16) hc182 (by decide)
                                                                                have := lv_neT (a := 17) hc193 (by decide)
                                                                                have := lv_neT (a := 18) hc206 (by decide)
                                                                                have := lv_neT (a := 19) hc217 (by decide)
                                                                                have := lv_neT (a := 20) hc232 (by decide)
                                                                                have := lv_neT (a := 21) hc247 (by decide)
                                                                                have := lv_neT (a := 22) hc258 (by decide)
                                                                                have := lv_neT (a := 23) hc278 (by decide)
                                                                                have := lv_neT (a := 24) hc294 (by decide)
                                                                                have := lv_neT (a := 25) hc309 (by decide)
                                                                                have := lv_neT (a := 26) hc326 (by decide)
                                                                                have := lv_neT (a := 27) hc337 (by decide)
                                                                                have := lv_neT (a := 28) hc356 (by decide)
                                                                                have := lv_neT (a := 29) hc375 (by decide)
                                                                                have := lv_neT (a := 30) hc396 (by decide)
                                                                                have := lv_neT (a := 31) hc415 (by decide)
                                                                                have := lv_neT (a := 32) hc433 (by decide)
                                                                                have := lv_neT (a := 33) hc451 (by decide)
                                                                                have := lv_neT (a := 34) hc472 (by decide)
                                                                                omega) (by decide) ?_
                                                                              obtain ⟨x481, ex481⟩ : ∃ y : Int32, y = z3 + (7 : Int32) := ⟨_, rfl⟩
                                                                              replace h := nm_at ex481 h
                                                                              refine lv_iinc (v := x481) (lv' := [(3, .int x481), (0, .ref b), (1, .ref (g.1 + 0)), (2, .ref (g.1 + 244))]) C.1.1 C.1.2.1 dL_law_1497 hl (k := 3) rfl (by rw [ex481]; rfl) (by decide) rfl (fun ls hl => ?_)
                                                                              clear ex481
                                                                              refine lv_goto (tgt := 18) C.1.1 C.1.2.1 dL_law_1500 (by decide) ?_
                                                                              obtain rfl := Option.some.inj h
                                                                              exact ih _ _ _ _ _ h9 _ _ _ hW (lv_sub hl [1, 2, 3, 0] rfl) hx0
